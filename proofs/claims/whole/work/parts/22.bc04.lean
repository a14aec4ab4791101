set_option maxRecDepth 20000 in
set_option maxHeartbeats 2000000 in
theorem bk_X6_dive_0 {d : Nat} {I : HI} {Q : Option AV → AH → Prop} {a1 : Int} {a2 : Int}  (h : ((a1 < (I 477 7) → ((0 : Int) ≤ a1 ∧ (a1 : Int) < 4) ∧ (-2147483648 ≤ a1 * 4 ∧ a1 * 4 ≤ 2147483647) ∧ (-2147483648 ≤ (a1 * 4) + (I 479 a1.toNat) ∧ (a1 * 4) + (I 479 a1.toNat) ≤ 2147483647) ∧ ((0 : Int) ≤ ((a1 * 4) + (I 479 a1.toNat)) ∧ ((a1 * 4) + (I 479 a1.toNat) : Int) < 20) ∧ CI mX6_leastBehind d [vR 477, vI a1, vI a1] I (fun x1 I1 => J none mX6_dive (d + 1) 0 0 88 [(0, vR 477), (1, vI a1), (2, vI a2), (3, vI (I 479 a1.toNat)), (4, vL (I 478 ((a1 * 4) + (I 479 a1.toNat)).toNat)), (6, vI x1), (7, vI 0)] [] (mk I1) Q)) ∧ (¬ (a1 < (I 477 7)) → (((I 477 10) = 0 → (∀ I2 : HI, I2 = up I 477 8 a2 → J none mX6_dive (d + 1) 0 0 26 [(0, vR 477), (1, vI a1), (2, vI a2), (3, vI 0)] [] (mk I2) Q)) ∧ (¬ ((I 477 10) = 0) → (∀ I3 : HI, I3 = up I 477 8 0 → J none mX6_dive (d + 1) 0 0 26 [(0, vR 477), (1, vI a1), (2, vI a2), (3, vI 0)] [] (mk I3) Q)))))) : J none mX6_dive (d + 1) 0 0 0 [(0, vR 477), (1, vI a1), (2, vI a2)] [] (mk I) Q := by
  refine J_iload_n dX6_dive_0 rfl rfl ?_
  refine J_aload_n dX6_dive_1 rfl rfl ?_
  refine J_getI dX6_dive_2 ck_6 fw_X6_59 rfl sh_477 ?_
  refine J_ic_lt (tgt := 58) dX6_dive_5 (by decide) (fun c => ?_) (fun c => ?_)
  · replace h := h.1 c
    refine J_aload_n dX6_dive_58 rfl rfl ?_
    refine J_getR dX6_dive_59 ck_6 fw_X6_15 rfl sh_477 rr_477_4 ?_
    refine J_iload_n dX6_dive_62 rfl rfl ?_
    refine J_iald dX6_dive_63 sh_479 h.1.1 h.1.2 ?_
    replace h := h.2
    refine J_istore_n dX6_dive_64 rfl (by decide) ?_
    refine J_aload_n dX6_dive_65 rfl rfl ?_
    refine J_getR dX6_dive_66 ck_6 fw_X6_9 rfl sh_477 rr_477_3 ?_
    refine J_iload_n dX6_dive_69 rfl rfl ?_
    refine J_iconst dX6_dive_70 (ii_c rfl) ?_
    refine J_imulN dX6_dive_71 h.1 ?_
    replace h := h.2
    refine J_iload_n dX6_dive_72 rfl rfl ?_
    refine J_iaddN dX6_dive_73 h.1 ?_
    replace h := h.2
    refine J_lald dX6_dive_74 sh_478 h.1.1 h.1.2 ?_
    replace h := h.2
    refine J_lstore dX6_dive_75 (by decide) ?_
    refine J_aload_n dX6_dive_77 rfl rfl ?_
    refine J_iload_n dX6_dive_78 rfl rfl ?_
    refine J_iload_n dX6_dive_79 rfl rfl ?_
    refine J_callV (as := [_, _]) (mc1 := 0) (ms1 := 0) (mc := 0) (ms := 0) dX6_dive_80 mv_X6_leastBehind lk_X6_88 sh_477 rfl (Nat.le_of_ble_eq_true rfl) (Nat.le_of_ble_eq_true rfl) h (fun r σ hq _ => ?_)
    obtain ⟨x1, I1, rfl, rfl, h⟩ := hq
    change J _ _ _ _ _ _ _ [vI x1] _ _
    refine J_istore dX6_dive_83 (by decide) ?_
    refine J_iconst dX6_dive_85 (ii_c rfl) ?_
    refine J_istore dX6_dive_86 (by decide) ?_
    exact h
  · replace h := h.2 c
    refine J_aload_n dX6_dive_8 rfl rfl ?_
    refine J_aload_n dX6_dive_9 rfl rfl ?_
    refine J_getI dX6_dive_10 ck_6 fw_X6_81 rfl sh_477 ?_
    refine J_if_eq (tgt := 20) dX6_dive_13 (by decide) (fun c => ?_) (fun c => ?_)
    · replace h := h.1 c
      refine J_iload_n dX6_dive_20 rfl rfl ?_
      refine J_putI dX6_dive_21 ck_6 fw_X6_78 rfl rfl (Or.inl rfl) sh_477 ?_
      replace h := h _ rfl
      refine J_iconst dX6_dive_24 (ii_c rfl) ?_
      refine J_istore_n dX6_dive_25 rfl (by decide) ?_
      exact h
    · replace h := h.2 c
      refine J_iconst dX6_dive_16 (ii_c rfl) ?_
      refine J_goto (tgt := 21) dX6_dive_17 (by decide) ?_
      refine J_putI dX6_dive_21 ck_6 fw_X6_78 rfl rfl (Or.inl rfl) sh_477 ?_
      replace h := h _ rfl
      refine J_iconst dX6_dive_24 (ii_c rfl) ?_
      refine J_istore_n dX6_dive_25 rfl (by decide) ?_
      exact h
set_option maxRecDepth 20000 in
set_option maxHeartbeats 2000000 in
theorem bk_X6_dive_26 {d : Nat} {I : HI} {Q : Option AV → AH → Prop} {a1 : Int} {a2 : Int} {a3 : Int}  (h : (((I 477 7) ≤ a3 → Q none (mk I)) ∧ (¬ ((I 477 7) ≤ a3) → ((0 : Int) ≤ a3 ∧ (a3 : Int) < 4) ∧ ((0 : Int) ≤ a3 ∧ (a3 : Int) < 4) ∧ ((0 : Int) ≤ (I 479 a3.toNat) ∧ (I 479 a3.toNat : Int) < 4) ∧ (∀ I1 : HI, I1 = up I 481 (I 479 a3.toNat).toNat (I 480 a3.toNat) → (-2147483648 ≤ a3 + 1 ∧ a3 + 1 ≤ 2147483647) ∧ J none mX6_dive (d + 1) 0 0 26 [(0, vR 477), (1, vI a1), (2, vI a2), (3, vI (a3 + 1))] [] (mk I1) Q)))) : J none mX6_dive (d + 1) 0 0 26 [(0, vR 477), (1, vI a1), (2, vI a2), (3, vI a3)] [] (mk I) Q := by
  refine J_iload_n dX6_dive_26 rfl rfl ?_
  refine J_aload_n dX6_dive_27 rfl rfl ?_
  refine J_getI dX6_dive_28 ck_6 fw_X6_59 rfl sh_477 ?_
  refine J_ic_ge (tgt := 57) dX6_dive_31 (by decide) (fun c => ?_) (fun c => ?_)
  · replace h := h.1 c
    exact J_retv dX6_dive_57 rfl h
  · replace h := h.2 c
    refine J_aload_n dX6_dive_34 rfl rfl ?_
    refine J_getR dX6_dive_35 ck_6 fw_X6_22 rfl sh_477 rr_477_6 ?_
    refine J_aload_n dX6_dive_38 rfl rfl ?_
    refine J_getR dX6_dive_39 ck_6 fw_X6_15 rfl sh_477 rr_477_4 ?_
    refine J_iload_n dX6_dive_42 rfl rfl ?_
    refine J_iald dX6_dive_43 sh_479 h.1.1 h.1.2 ?_
    replace h := h.2
    refine J_aload_n dX6_dive_44 rfl rfl ?_
    refine J_getR dX6_dive_45 ck_6 fw_X6_19 rfl sh_477 rr_477_5 ?_
    refine J_iload_n dX6_dive_48 rfl rfl ?_
    refine J_iald dX6_dive_49 sh_480 h.1.1 h.1.2 ?_
    replace h := h.2
    refine J_iast dX6_dive_50 sh_481 h.1.1 h.1.2 ?_
    replace h := h.2 _ rfl
    refine J_iincN dX6_dive_51 rfl (by decide) h.1 ?_
    replace h := h.2
    refine J_goto (tgt := 26) dX6_dive_54 (by decide) ?_
    exact h
set_option maxRecDepth 20000 in
set_option maxHeartbeats 2000000 in
theorem bk_X6_dive_88 {d : Nat} {I : HI} {Q : Option AV → AH → Prop} {a1 : Int} {a2 : Int} {a3 : Int} {a4 : Int} {a6 : Int} {a7 : Int}  (h : ((0 : Int) ≤ a3 ∧ (a3 : Int) < 4) ∧ (-2147483648 ≤ 3 * (I 71 a3.toNat) ∧ 3 * (I 71 a3.toNat) ≤ 2147483647) ∧ (((3 * (I 71 a3.toNat)) < a7 → Q none (mk I)) ∧ (¬ ((3 * (I 71 a3.toNat)) < a7) → (((I 477 10) = 0 → (-2147483648 ≤ a3 * 61 ∧ a3 * 61 ≤ 2147483647) ∧ (-2147483648 ≤ (a3 * 61) + a7 ∧ (a3 * 61) + a7 ≤ 2147483647) ∧ ((0 : Int) ≤ ((a3 * 61) + a7) ∧ ((a3 * 61) + a7 : Int) < 244) ∧ CI mX6_price d [vR 477, vI a3, vI (I 73 ((a3 * 61) + a7).toNat)] I (fun x1 I1 => (-2147483648 ≤ a2 + x1 ∧ a2 + x1 ≤ 2147483647) ∧ (((lA (lUr a4 (I 73 ((a3 * 61) + a7).toNat)) 1) = 0 → (-2147483648 ≤ a7 + 1 ∧ a7 + 1 ≤ 2147483647) ∧ J none mX6_dive (d + 1) 0 0 88 [(0, vR 477), (1, vI a1), (2, vI a2), (3, vI a3), (4, vL a4), (6, vI a6), (7, vI (a7 + 1))] [] (mk I1) Q) ∧ (¬ ((lA (lUr a4 (I 73 ((a3 * 61) + a7).toNat)) 1) = 0) → (-2147483648 ≤ (a2 + x1) + a6 ∧ (a2 + x1) + a6 ≤ 2147483647) ∧ ((((a2 + x1) + a6) < (I1 477 8) → ((0 : Int) ≤ a1 ∧ (a1 : Int) < 4) ∧ (∀ I2 : HI, I2 = up I1 480 a1.toNat (I 73 ((a3 * 61) + a7).toNat) → (-2147483648 ≤ a1 + 1 ∧ a1 + 1 ≤ 2147483647) ∧ J none mX6_dive (d + 1) 0 0 187 [(0, vR 477), (1, vI a1), (2, vI a2), (3, vI a3), (4, vL a4), (6, vI a6), (7, vI a7), (8, vI (I 73 ((a3 * 61) + a7).toNat)), (9, vI (a2 + x1)), (10, vL 1), (12, vI (a1 + 1))] [] (mk I2) Q)) ∧ (¬ (((a2 + x1) + a6) < (I1 477 8)) → (-2147483648 ≤ a7 + 1 ∧ a7 + 1 ≤ 2147483647) ∧ J none mX6_dive (d + 1) 0 0 88 [(0, vR 477), (1, vI a1), (2, vI a2), (3, vI a3), (4, vL a4), (6, vI a6), (7, vI (a7 + 1))] [] (mk I1) Q)))))) ∧ (¬ ((I 477 10) = 0) → CI mX6_price d [vR 477, vI a3, vI a7] I (fun x2 I3 => (-2147483648 ≤ a2 + x2 ∧ a2 + x2 ≤ 2147483647) ∧ (((lA (lUr a4 a7) 1) = 0 → (-2147483648 ≤ a7 + 1 ∧ a7 + 1 ≤ 2147483647) ∧ J none mX6_dive (d + 1) 0 0 88 [(0, vR 477), (1, vI a1), (2, vI a2), (3, vI a3), (4, vL a4), (6, vI a6), (7, vI (a7 + 1))] [] (mk I3) Q) ∧ (¬ ((lA (lUr a4 a7) 1) = 0) → (-2147483648 ≤ (a2 + x2) + a6 ∧ (a2 + x2) + a6 ≤ 2147483647) ∧ ((((a2 + x2) + a6) < (I3 477 8) → ((0 : Int) ≤ a1 ∧ (a1 : Int) < 4) ∧ (∀ I4 : HI, I4 = up I3 480 a1.toNat a7 → (-2147483648 ≤ a1 + 1 ∧ a1 + 1 ≤ 2147483647) ∧ J none mX6_dive (d + 1) 0 0 187 [(0, vR 477), (1, vI a1), (2, vI a2), (3, vI a3), (4, vL a4), (6, vI a6), (7, vI a7), (8, vI a7), (9, vI (a2 + x2)), (10, vL 1), (12, vI (a1 + 1))] [] (mk I4) Q)) ∧ (¬ (((a2 + x2) + a6) < (I3 477 8)) → (-2147483648 ≤ a7 + 1 ∧ a7 + 1 ≤ 2147483647) ∧ J none mX6_dive (d + 1) 0 0 88 [(0, vR 477), (1, vI a1), (2, vI a2), (3, vI a3), (4, vL a4), (6, vI a6), (7, vI (a7 + 1))] [] (mk I3) Q)))))))))) : J none mX6_dive (d + 1) 0 0 88 [(0, vR 477), (1, vI a1), (2, vI a2), (3, vI a3), (4, vL a4), (6, vI a6), (7, vI a7)] [] (mk I) Q := by
  refine J_iload dX6_dive_88 rfl ?_
  refine J_iconst dX6_dive_90 (ii_c rfl) ?_
  refine J_aload_n dX6_dive_91 rfl rfl ?_
  refine J_getR dX6_dive_92 ck_6 fw_X6_37 rfl sh_477 rr_477_2 ?_
  refine J_getR dX6_dive_95 ck_5 fw_X6_92 rfl sh_69 rr_69_5 ?_
  refine J_iload_n dX6_dive_98 rfl rfl ?_
  refine J_iald dX6_dive_99 sh_71 h.1.1 h.1.2 ?_
  replace h := h.2
  refine J_imulN dX6_dive_100 h.1 ?_
  replace h := h.2
  refine J_ic_gt (tgt := 315) dX6_dive_101 (by decide) (fun c => ?_) (fun c => ?_)
  · replace h := h.1 c
    exact J_retv dX6_dive_315 rfl h
  · replace h := h.2 c
    refine J_aload_n dX6_dive_104 rfl rfl ?_
    refine J_getI dX6_dive_105 ck_6 fw_X6_81 rfl sh_477 ?_
    refine J_if_eq (tgt := 116) dX6_dive_108 (by decide) (fun c => ?_) (fun c => ?_)
    · replace h := h.1 c
      refine J_aload_n dX6_dive_116 rfl rfl ?_
      refine J_getR dX6_dive_117 ck_6 fw_X6_37 rfl sh_477 rr_477_2 ?_
      refine J_getR dX6_dive_120 ck_5 fw_X6_95 rfl sh_69 rr_69_7 ?_
      refine J_iload_n dX6_dive_123 rfl rfl ?_
      refine J_bipush dX6_dive_124 (ii_c rfl) (by decide) ?_
      refine J_imulN dX6_dive_126 h.1 ?_
      replace h := h.2
      refine J_iload dX6_dive_127 rfl ?_
      refine J_iaddN dX6_dive_129 h.1 ?_
      replace h := h.2
      refine J_iald dX6_dive_130 sh_73 h.1.1 h.1.2 ?_
      replace h := h.2
      refine J_istore dX6_dive_131 (by decide) ?_
      refine J_iload_n dX6_dive_133 rfl rfl ?_
      refine J_aload_n dX6_dive_134 rfl rfl ?_
      refine J_iload_n dX6_dive_135 rfl rfl ?_
      refine J_iload dX6_dive_136 rfl ?_
      refine J_callV (as := [_, _]) (mc1 := 0) (ms1 := 0) (mc := 0) (ms := 0) dX6_dive_138 mv_X6_price lk_X6_98 sh_477 rfl (Nat.le_of_ble_eq_true rfl) (Nat.le_of_ble_eq_true rfl) h (fun r σ hq _ => ?_)
      obtain ⟨x1, I1, rfl, rfl, h⟩ := hq
      change J _ _ _ _ _ _ _ [vI x1, vI a2] _ _
      refine J_iaddN dX6_dive_141 h.1 ?_
      replace h := h.2
      refine J_istore dX6_dive_142 (by decide) ?_
      refine J_lload dX6_dive_144 rfl ?_
      refine J_iload dX6_dive_146 rfl ?_
      refine J_lushr dX6_dive_148 ?_
      refine J_lconst 1 dX6_dive_149 (ll_c rfl) (by decide) ?_
      refine J_land dX6_dive_150 ?_
      refine J_lconst 0 dX6_dive_151 (ll_c rfl) (by decide) ?_
      refine J_lcmp dX6_dive_152 ?_
      refine J_if_eq (tgt := 309) dX6_dive_153 (by decide) (fun c => ?_) (fun c => ?_)
      · replace h := h.1 (lC_eq.mp c)
        refine J_iincN dX6_dive_309 rfl (by decide) h.1 ?_
        replace h := h.2
        refine J_goto (tgt := 88) dX6_dive_312 (by decide) ?_
        exact J_loc (ls_sub [0, 1, 2, 3, 4, 5, 6] rfl) h
      · replace h := h.2 (fun w => c (lC_eq.mpr w))
        refine J_iload dX6_dive_156 rfl ?_
        refine J_iload dX6_dive_158 rfl ?_
        refine J_iaddN dX6_dive_160 h.1 ?_
        replace h := h.2
        refine J_aload_n dX6_dive_161 rfl rfl ?_
        refine J_getI dX6_dive_162 ck_6 fw_X6_78 rfl sh_477 ?_
        refine J_ic_lt (tgt := 171) dX6_dive_165 (by decide) (fun c => ?_) (fun c => ?_)
        · replace h := h.1 c
          refine J_aload_n dX6_dive_171 rfl rfl ?_
          refine J_getR dX6_dive_172 ck_6 fw_X6_19 rfl sh_477 rr_477_5 ?_
          refine J_iload_n dX6_dive_175 rfl rfl ?_
          refine J_iload dX6_dive_176 rfl ?_
          refine J_iast dX6_dive_178 sh_480 h.1.1 h.1.2 ?_
          replace h := h.2 _ rfl
          refine J_lconst 1 dX6_dive_179 (ll_c rfl) (by decide) ?_
          refine J_lstore dX6_dive_180 (by decide) ?_
          refine J_iload_n dX6_dive_182 rfl rfl ?_
          refine J_iconst dX6_dive_183 (ii_c rfl) ?_
          refine J_iaddN dX6_dive_184 h.1 ?_
          replace h := h.2
          refine J_istore dX6_dive_185 (by decide) ?_
          exact h
        · replace h := h.2 c
          refine J_goto (tgt := 309) dX6_dive_168 (by decide) ?_
          refine J_iincN dX6_dive_309 rfl (by decide) h.1 ?_
          replace h := h.2
          refine J_goto (tgt := 88) dX6_dive_312 (by decide) ?_
          exact J_loc (ls_sub [0, 1, 2, 3, 4, 5, 6] rfl) h
    · replace h := h.2 c
      refine J_iload dX6_dive_111 rfl ?_
      refine J_goto (tgt := 131) dX6_dive_113 (by decide) ?_
      refine J_istore dX6_dive_131 (by decide) ?_
      refine J_iload_n dX6_dive_133 rfl rfl ?_
      refine J_aload_n dX6_dive_134 rfl rfl ?_
      refine J_iload_n dX6_dive_135 rfl rfl ?_
      refine J_iload dX6_dive_136 rfl ?_
      refine J_callV (as := [_, _]) (mc1 := 0) (ms1 := 0) (mc := 0) (ms := 0) dX6_dive_138 mv_X6_price lk_X6_98 sh_477 rfl (Nat.le_of_ble_eq_true rfl) (Nat.le_of_ble_eq_true rfl) h (fun r σ hq _ => ?_)
      obtain ⟨x2, I3, rfl, rfl, h⟩ := hq
      change J _ _ _ _ _ _ _ [vI x2, vI a2] _ _
      refine J_iaddN dX6_dive_141 h.1 ?_
      replace h := h.2
      refine J_istore dX6_dive_142 (by decide) ?_
      refine J_lload dX6_dive_144 rfl ?_
      refine J_iload dX6_dive_146 rfl ?_
      refine J_lushr dX6_dive_148 ?_
      refine J_lconst 1 dX6_dive_149 (ll_c rfl) (by decide) ?_
      refine J_land dX6_dive_150 ?_
      refine J_lconst 0 dX6_dive_151 (ll_c rfl) (by decide) ?_
      refine J_lcmp dX6_dive_152 ?_
      refine J_if_eq (tgt := 309) dX6_dive_153 (by decide) (fun c => ?_) (fun c => ?_)
      · replace h := h.1 (lC_eq.mp c)
        refine J_iincN dX6_dive_309 rfl (by decide) h.1 ?_
        replace h := h.2
        refine J_goto (tgt := 88) dX6_dive_312 (by decide) ?_
        exact J_loc (ls_sub [0, 1, 2, 3, 4, 5, 6] rfl) h
      · replace h := h.2 (fun w => c (lC_eq.mpr w))
        refine J_iload dX6_dive_156 rfl ?_
        refine J_iload dX6_dive_158 rfl ?_
        refine J_iaddN dX6_dive_160 h.1 ?_
        replace h := h.2
        refine J_aload_n dX6_dive_161 rfl rfl ?_
        refine J_getI dX6_dive_162 ck_6 fw_X6_78 rfl sh_477 ?_
        refine J_ic_lt (tgt := 171) dX6_dive_165 (by decide) (fun c => ?_) (fun c => ?_)
        · replace h := h.1 c
          refine J_aload_n dX6_dive_171 rfl rfl ?_
          refine J_getR dX6_dive_172 ck_6 fw_X6_19 rfl sh_477 rr_477_5 ?_
          refine J_iload_n dX6_dive_175 rfl rfl ?_
          refine J_iload dX6_dive_176 rfl ?_
          refine J_iast dX6_dive_178 sh_480 h.1.1 h.1.2 ?_
          replace h := h.2 _ rfl
          refine J_lconst 1 dX6_dive_179 (ll_c rfl) (by decide) ?_
          refine J_lstore dX6_dive_180 (by decide) ?_
          refine J_iload_n dX6_dive_182 rfl rfl ?_
          refine J_iconst dX6_dive_183 (ii_c rfl) ?_
          refine J_iaddN dX6_dive_184 h.1 ?_
          replace h := h.2
          refine J_istore dX6_dive_185 (by decide) ?_
          exact h
        · replace h := h.2 c
          refine J_goto (tgt := 309) dX6_dive_168 (by decide) ?_
          refine J_iincN dX6_dive_309 rfl (by decide) h.1 ?_
          replace h := h.2
          refine J_goto (tgt := 88) dX6_dive_312 (by decide) ?_
          exact J_loc (ls_sub [0, 1, 2, 3, 4, 5, 6] rfl) h
set_option maxRecDepth 20000 in
set_option maxHeartbeats 2000000 in
theorem bk_X6_dive_187 {d : Nat} {I : HI} {Q : Option AV → AH → Prop} {a1 : Int} {a2 : Int} {a3 : Int} {a4 : Int} {a6 : Int} {a7 : Int} {a8 : Int} {a9 : Int} {a10 : Int} {a12 : Int}  (h : (((I 477 7) ≤ a12 → ((a10 = 0 → (-2147483648 ≤ a7 + 1 ∧ a7 + 1 ≤ 2147483647) ∧ J none mX6_dive (d + 1) 0 0 88 [(0, vR 477), (1, vI a1), (2, vI a2), (3, vI a3), (4, vL a4), (6, vI a6), (7, vI (a7 + 1))] [] (mk I) Q) ∧ (¬ (a10 = 0) → (-2147483648 ≤ a1 + 1 ∧ a1 + 1 ≤ 2147483647) ∧ CI mX6_leastBehind d [vR 477, vI a1, vI (a1 + 1)] I (fun x1 I1 => (-2147483648 ≤ a9 + x1 ∧ a9 + x1 ≤ 2147483647) ∧ (((I1 477 8) ≤ (a9 + x1) → (-2147483648 ≤ a7 + 1 ∧ a7 + 1 ≤ 2147483647) ∧ J none mX6_dive (d + 1) 0 0 88 [(0, vR 477), (1, vI a1), (2, vI a2), (3, vI a3), (4, vL a4), (6, vI a6), (7, vI (a7 + 1))] [] (mk I1) Q) ∧ (¬ ((I1 477 8) ≤ (a9 + x1)) → (-2147483648 ≤ a1 + 1 ∧ a1 + 1 ≤ 2147483647) ∧ CV mX6_dive d [vR 477, vI (a1 + 1), vI a9] I1 (fun I2 => (-2147483648 ≤ a7 + 1 ∧ a7 + 1 ≤ 2147483647) ∧ J none mX6_dive (d + 1) 0 0 88 [(0, vR 477), (1, vI a1), (2, vI a2), (3, vI a3), (4, vL a4), (6, vI a6), (7, vI (a7 + 1))] [] (mk I2) Q))))))) ∧ (¬ ((I 477 7) ≤ a12) → ((a10 = 0 → ((a10 = 0 → (-2147483648 ≤ a7 + 1 ∧ a7 + 1 ≤ 2147483647) ∧ J none mX6_dive (d + 1) 0 0 88 [(0, vR 477), (1, vI a1), (2, vI a2), (3, vI a3), (4, vL a4), (6, vI a6), (7, vI (a7 + 1))] [] (mk I) Q) ∧ (¬ (a10 = 0) → (-2147483648 ≤ a1 + 1 ∧ a1 + 1 ≤ 2147483647) ∧ CI mX6_leastBehind d [vR 477, vI a1, vI (a1 + 1)] I (fun x3 I3 => (-2147483648 ≤ a9 + x3 ∧ a9 + x3 ≤ 2147483647) ∧ (((I3 477 8) ≤ (a9 + x3) → (-2147483648 ≤ a7 + 1 ∧ a7 + 1 ≤ 2147483647) ∧ J none mX6_dive (d + 1) 0 0 88 [(0, vR 477), (1, vI a1), (2, vI a2), (3, vI a3), (4, vL a4), (6, vI a6), (7, vI (a7 + 1))] [] (mk I3) Q) ∧ (¬ ((I3 477 8) ≤ (a9 + x3)) → (-2147483648 ≤ a1 + 1 ∧ a1 + 1 ≤ 2147483647) ∧ CV mX6_dive d [vR 477, vI (a1 + 1), vI a9] I3 (fun I4 => (-2147483648 ≤ a7 + 1 ∧ a7 + 1 ≤ 2147483647) ∧ J none mX6_dive (d + 1) 0 0 88 [(0, vR 477), (1, vI a1), (2, vI a2), (3, vI a3), (4, vL a4), (6, vI a6), (7, vI (a7 + 1))] [] (mk I4) Q))))))) ∧ (¬ (a10 = 0) → ((0 : Int) ≤ a12 ∧ (a12 : Int) < 4) ∧ (-2147483648 ≤ a1 * 4 ∧ a1 * 4 ≤ 2147483647) ∧ (-2147483648 ≤ (a1 * 4) + (I 479 a12.toNat) ∧ (a1 * 4) + (I 479 a12.toNat) ≤ 2147483647) ∧ ((0 : Int) ≤ ((a1 * 4) + (I 479 a12.toNat)) ∧ ((a1 * 4) + (I 479 a12.toNat) : Int) < 20) ∧ (-2147483648 ≤ (I 477 8) - a9 ∧ (I 477 8) - a9 ≤ 2147483647) ∧ CL mX6_cheapEnough d [vR 477, vI (I 479 a12.toNat), vL (I 478 ((a1 * 4) + (I 479 a12.toNat)).toNat), vI ((I 477 8) - a9)] I (fun x5 I5 => CL mX5_fitting d [vR 69, vI a3, vI a8, vI (I 479 a12.toNat), vL x5] I5 (fun x6 I6 => (-2147483648 ≤ a1 + 1 ∧ a1 + 1 ≤ 2147483647) ∧ (-2147483648 ≤ (a1 + 1) * 4 ∧ (a1 + 1) * 4 ≤ 2147483647) ∧ (-2147483648 ≤ ((a1 + 1) * 4) + (I 479 a12.toNat) ∧ ((a1 + 1) * 4) + (I 479 a12.toNat) ≤ 2147483647) ∧ ((0 : Int) ≤ (((a1 + 1) * 4) + (I 479 a12.toNat)) ∧ (((a1 + 1) * 4) + (I 479 a12.toNat) : Int) < 20) ∧ (∀ I7 : HI, I7 = up I6 478 (((a1 + 1) * 4) + (I 479 a12.toNat)).toNat x6 → (-2147483648 ≤ a12 + 1 ∧ a12 + 1 ≤ 2147483647) ∧ J none mX6_dive (d + 1) 0 0 187 [(0, vR 477), (1, vI a1), (2, vI a2), (3, vI a3), (4, vL a4), (6, vI a6), (7, vI a7), (8, vI a8), (9, vI a9), (10, vL x6), (12, vI (a12 + 1))] [] (mk I7) Q)))))))) : J none mX6_dive (d + 1) 0 0 187 [(0, vR 477), (1, vI a1), (2, vI a2), (3, vI a3), (4, vL a4), (6, vI a6), (7, vI a7), (8, vI a8), (9, vI a9), (10, vL a10), (12, vI a12)] [] (mk I) Q := by
  refine J_iload dX6_dive_187 rfl ?_
  refine J_aload_n dX6_dive_189 rfl rfl ?_
  refine J_getI dX6_dive_190 ck_6 fw_X6_59 rfl sh_477 ?_
  refine J_ic_ge (tgt := 275) dX6_dive_193 (by decide) (fun c => ?_) (fun c => ?_)
  · replace h := h.1 c
    refine J_lload dX6_dive_275 rfl ?_
    refine J_lconst 0 dX6_dive_277 (ll_c rfl) (by decide) ?_
    refine J_lcmp dX6_dive_278 ?_
    refine J_if_eq (tgt := 309) dX6_dive_279 (by decide) (fun c => ?_) (fun c => ?_)
    · replace h := h.1 (lC_eq.mp c)
      refine J_iincN dX6_dive_309 rfl (by decide) h.1 ?_
      replace h := h.2
      refine J_goto (tgt := 88) dX6_dive_312 (by decide) ?_
      exact J_loc (ls_sub [0, 1, 2, 3, 4, 5, 6] rfl) h
    · replace h := h.2 (fun w => c (lC_eq.mpr w))
      refine J_iload dX6_dive_282 rfl ?_
      refine J_aload_n dX6_dive_284 rfl rfl ?_
      refine J_iload_n dX6_dive_285 rfl rfl ?_
      refine J_iload_n dX6_dive_286 rfl rfl ?_
      refine J_iconst dX6_dive_287 (ii_c rfl) ?_
      refine J_iaddN dX6_dive_288 h.1 ?_
      replace h := h.2
      refine J_callV (as := [_, _]) (mc1 := 0) (ms1 := 0) (mc := 0) (ms := 0) dX6_dive_289 mv_X6_leastBehind lk_X6_88 sh_477 rfl (Nat.le_of_ble_eq_true rfl) (Nat.le_of_ble_eq_true rfl) h (fun r σ hq _ => ?_)
      obtain ⟨x1, I1, rfl, rfl, h⟩ := hq
      change J _ _ _ _ _ _ _ [vI x1, vI a9] _ _
      refine J_iaddN dX6_dive_292 h.1 ?_
      replace h := h.2
      refine J_aload_n dX6_dive_293 rfl rfl ?_
      refine J_getI dX6_dive_294 ck_6 fw_X6_78 rfl sh_477 ?_
      refine J_ic_ge (tgt := 309) dX6_dive_297 (by decide) (fun c => ?_) (fun c => ?_)
      · replace h := h.1 c
        refine J_iincN dX6_dive_309 rfl (by decide) h.1 ?_
        replace h := h.2
        refine J_goto (tgt := 88) dX6_dive_312 (by decide) ?_
        exact J_loc (ls_sub [0, 1, 2, 3, 4, 5, 6] rfl) h
      · replace h := h.2 c
        refine J_aload_n dX6_dive_300 rfl rfl ?_
        refine J_iload_n dX6_dive_301 rfl rfl ?_
        refine J_iconst dX6_dive_302 (ii_c rfl) ?_
        refine J_iaddN dX6_dive_303 h.1 ?_
        replace h := h.2
        refine J_iload dX6_dive_304 rfl ?_
        refine J_callV (as := [_, _]) (mc1 := 0) (ms1 := 0) (mc := 0) (ms := 0) dX6_dive_306 mv_X6_dive lk_X6_84 sh_477 rfl (Nat.le_of_ble_eq_true rfl) (Nat.le_of_ble_eq_true rfl) h (fun r σ hq _ => ?_)
        obtain ⟨I2, rfl, rfl, h⟩ := hq
        change J _ _ _ _ _ _ _ [] _ _
        refine J_iincN dX6_dive_309 rfl (by decide) h.1 ?_
        replace h := h.2
        refine J_goto (tgt := 88) dX6_dive_312 (by decide) ?_
        exact J_loc (ls_sub [0, 1, 2, 3, 4, 5, 6] rfl) h
  · replace h := h.2 c
    refine J_lload dX6_dive_196 rfl ?_
    refine J_lconst 0 dX6_dive_198 (ll_c rfl) (by decide) ?_
    refine J_lcmp dX6_dive_199 ?_
    refine J_if_eq (tgt := 275) dX6_dive_200 (by decide) (fun c => ?_) (fun c => ?_)
    · replace h := h.1 (lC_eq.mp c)
      refine J_lload dX6_dive_275 rfl ?_
      refine J_lconst 0 dX6_dive_277 (ll_c rfl) (by decide) ?_
      refine J_lcmp dX6_dive_278 ?_
      refine J_if_eq (tgt := 309) dX6_dive_279 (by decide) (fun c => ?_) (fun c => ?_)
      · replace h := h.1 (lC_eq.mp c)
        refine J_iincN dX6_dive_309 rfl (by decide) h.1 ?_
        replace h := h.2
        refine J_goto (tgt := 88) dX6_dive_312 (by decide) ?_
        exact J_loc (ls_sub [0, 1, 2, 3, 4, 5, 6] rfl) h
      · replace h := h.2 (fun w => c (lC_eq.mpr w))
        refine J_iload dX6_dive_282 rfl ?_
        refine J_aload_n dX6_dive_284 rfl rfl ?_
        refine J_iload_n dX6_dive_285 rfl rfl ?_
        refine J_iload_n dX6_dive_286 rfl rfl ?_
        refine J_iconst dX6_dive_287 (ii_c rfl) ?_
        refine J_iaddN dX6_dive_288 h.1 ?_
        replace h := h.2
        refine J_callV (as := [_, _]) (mc1 := 0) (ms1 := 0) (mc := 0) (ms := 0) dX6_dive_289 mv_X6_leastBehind lk_X6_88 sh_477 rfl (Nat.le_of_ble_eq_true rfl) (Nat.le_of_ble_eq_true rfl) h (fun r σ hq _ => ?_)
        obtain ⟨x3, I3, rfl, rfl, h⟩ := hq
        change J _ _ _ _ _ _ _ [vI x3, vI a9] _ _
        refine J_iaddN dX6_dive_292 h.1 ?_
        replace h := h.2
        refine J_aload_n dX6_dive_293 rfl rfl ?_
        refine J_getI dX6_dive_294 ck_6 fw_X6_78 rfl sh_477 ?_
        refine J_ic_ge (tgt := 309) dX6_dive_297 (by decide) (fun c => ?_) (fun c => ?_)
        · replace h := h.1 c
          refine J_iincN dX6_dive_309 rfl (by decide) h.1 ?_
          replace h := h.2
          refine J_goto (tgt := 88) dX6_dive_312 (by decide) ?_
          exact J_loc (ls_sub [0, 1, 2, 3, 4, 5, 6] rfl) h
        · replace h := h.2 c
          refine J_aload_n dX6_dive_300 rfl rfl ?_
          refine J_iload_n dX6_dive_301 rfl rfl ?_
          refine J_iconst dX6_dive_302 (ii_c rfl) ?_
          refine J_iaddN dX6_dive_303 h.1 ?_
          replace h := h.2
          refine J_iload dX6_dive_304 rfl ?_
          refine J_callV (as := [_, _]) (mc1 := 0) (ms1 := 0) (mc := 0) (ms := 0) dX6_dive_306 mv_X6_dive lk_X6_84 sh_477 rfl (Nat.le_of_ble_eq_true rfl) (Nat.le_of_ble_eq_true rfl) h (fun r σ hq _ => ?_)
          obtain ⟨I4, rfl, rfl, h⟩ := hq
          change J _ _ _ _ _ _ _ [] _ _
          refine J_iincN dX6_dive_309 rfl (by decide) h.1 ?_
          replace h := h.2
          refine J_goto (tgt := 88) dX6_dive_312 (by decide) ?_
          exact J_loc (ls_sub [0, 1, 2, 3, 4, 5, 6] rfl) h
    · replace h := h.2 (fun w => c (lC_eq.mpr w))
      refine J_aload_n dX6_dive_203 rfl rfl ?_
      refine J_getR dX6_dive_204 ck_6 fw_X6_15 rfl sh_477 rr_477_4 ?_
      refine J_iload dX6_dive_207 rfl ?_
      refine J_iald dX6_dive_209 sh_479 h.1.1 h.1.2 ?_
      replace h := h.2
      refine J_istore dX6_dive_210 (by decide) ?_
      refine J_aload_n dX6_dive_212 rfl rfl ?_
      refine J_iload dX6_dive_213 rfl ?_
      refine J_aload_n dX6_dive_215 rfl rfl ?_
      refine J_getR dX6_dive_216 ck_6 fw_X6_9 rfl sh_477 rr_477_3 ?_
      refine J_iload_n dX6_dive_219 rfl rfl ?_
      refine J_iconst dX6_dive_220 (ii_c rfl) ?_
      refine J_imulN dX6_dive_221 h.1 ?_
      replace h := h.2
      refine J_iload dX6_dive_222 rfl ?_
      refine J_iaddN dX6_dive_224 h.1 ?_
      replace h := h.2
      refine J_lald dX6_dive_225 sh_478 h.1.1 h.1.2 ?_
      replace h := h.2
      refine J_aload_n dX6_dive_226 rfl rfl ?_
      refine J_getI dX6_dive_227 ck_6 fw_X6_78 rfl sh_477 ?_
      refine J_iload dX6_dive_230 rfl ?_
      refine J_isubN dX6_dive_232 h.1 ?_
      replace h := h.2
      refine J_callV (as := [_, _, _]) (mc1 := 0) (ms1 := 0) (mc := 0) (ms := 0) dX6_dive_233 mv_X6_cheapEnough lk_X6_101 sh_477 rfl (Nat.le_of_ble_eq_true rfl) (Nat.le_of_ble_eq_true rfl) h (fun r σ hq _ => ?_)
      obtain ⟨x5, I5, rfl, rfl, h⟩ := hq
      change J _ _ _ _ _ _ _ [vL x5] _ _
      refine J_lstore dX6_dive_236 (by decide) ?_
      refine J_aload_n dX6_dive_238 rfl rfl ?_
      refine J_getR dX6_dive_239 ck_6 fw_X6_37 rfl sh_477 rr_477_2 ?_
      refine J_iload_n dX6_dive_242 rfl rfl ?_
      refine J_iload dX6_dive_243 rfl ?_
      refine J_iload dX6_dive_245 rfl ?_
      refine J_lload dX6_dive_247 rfl ?_
      refine J_callV (as := [_, _, _, _]) (mc1 := 0) (ms1 := 0) (mc := 0) (ms := 0) dX6_dive_249 mv_X5_fitting lk_X6_105 sh_69 rfl (Nat.le_of_ble_eq_true rfl) (Nat.le_of_ble_eq_true rfl) h (fun r σ hq _ => ?_)
      obtain ⟨x6, I6, rfl, rfl, h⟩ := hq
      change J _ _ _ _ _ _ _ [vL x6] _ _
      refine J_lstore dX6_dive_252 (by decide) ?_
      refine J_aload_n dX6_dive_254 rfl rfl ?_
      refine J_getR dX6_dive_255 ck_6 fw_X6_9 rfl sh_477 rr_477_3 ?_
      refine J_iload_n dX6_dive_258 rfl rfl ?_
      refine J_iconst dX6_dive_259 (ii_c rfl) ?_
      refine J_iaddN dX6_dive_260 h.1 ?_
      replace h := h.2
      refine J_iconst dX6_dive_261 (ii_c rfl) ?_
      refine J_imulN dX6_dive_262 h.1 ?_
      replace h := h.2
      refine J_iload dX6_dive_263 rfl ?_
      refine J_iaddN dX6_dive_265 h.1 ?_
      replace h := h.2
      refine J_lload dX6_dive_266 rfl ?_
      refine J_last dX6_dive_268 sh_478 h.1.1 h.1.2 ?_
      replace h := h.2 _ rfl
      refine J_iincN dX6_dive_269 rfl (by decide) h.1 ?_
      replace h := h.2
      refine J_goto (tgt := 187) dX6_dive_272 (by decide) ?_
      exact J_loc (ls_sub [0, 1, 2, 3, 4, 5, 6, 7, 8, 9, 10] rfl) h
set_option maxRecDepth 20000 in
set_option maxHeartbeats 2000000 in
theorem bk_X6_price_0 {d : Nat} {I : HI} {Q : Option AV → AH → Prop} {a1 : Int} {a2 : Int}  (h : CI mX5_endOf d [vR 69, vI a1, vI a2] I (fun x1 I1 => (((I1 477 9) = 0 → (-2147483648 ≤ x1 + 0 ∧ x1 + 0 ≤ 2147483647) ∧ Q (some (vI (x1 + 0))) (mk I1)) ∧ (¬ ((I1 477 9) = 0) → ((a2 = 0 → (-2147483648 ≤ x1 + 0 ∧ x1 + 0 ≤ 2147483647) ∧ Q (some (vI (x1 + 0))) (mk I1)) ∧ (¬ (a2 = 0) → (-2147483648 ≤ x1 + 10000 ∧ x1 + 10000 ≤ 2147483647) ∧ Q (some (vI (x1 + 10000))) (mk I1))))))) : J none mX6_price (d + 1) 0 0 0 [(0, vR 477), (1, vI a1), (2, vI a2)] [] (mk I) Q := by
  refine J_aload_n dX6_price_0 rfl rfl ?_
  refine J_getR dX6_price_1 ck_6 fw_X6_37 rfl sh_477 rr_477_2 ?_
  refine J_iload_n dX6_price_4 rfl rfl ?_
  refine J_iload_n dX6_price_5 rfl rfl ?_
  refine J_callV (as := [_, _]) (mc1 := 0) (ms1 := 0) (mc := 0) (ms := 0) dX6_price_6 mv_X5_endOf lk_X6_109 sh_69 rfl (Nat.le_of_ble_eq_true rfl) (Nat.le_of_ble_eq_true rfl) h (fun r σ hq _ => ?_)
  obtain ⟨x1, I1, rfl, rfl, h⟩ := hq
  change J _ _ _ _ _ _ _ [vI x1] _ _
  refine J_aload_n dX6_price_9 rfl rfl ?_
  refine J_getI dX6_price_10 ck_6 fw_X6_55 rfl sh_477 ?_
  refine J_if_eq (tgt := 26) dX6_price_13 (by decide) (fun c => ?_) (fun c => ?_)
  · replace h := h.1 c
    refine J_iconst dX6_price_26 (ii_c rfl) ?_
    refine J_iaddN dX6_price_27 h.1 ?_
    replace h := h.2
    exact J_reti dX6_price_28 rfl h
  · replace h := h.2 c
    refine J_iload_n dX6_price_16 rfl rfl ?_
    refine J_if_eq (tgt := 26) dX6_price_17 (by decide) (fun c => ?_) (fun c => ?_)
    · replace h := h.1 c
      refine J_iconst dX6_price_26 (ii_c rfl) ?_
      refine J_iaddN dX6_price_27 h.1 ?_
      replace h := h.2
      exact J_reti dX6_price_28 rfl h
    · replace h := h.2 c
      refine J_sipush dX6_price_20 (ii_c rfl) (by decide) ?_
      refine J_goto (tgt := 27) dX6_price_23 (by decide) ?_
      refine J_iaddN dX6_price_27 h.1 ?_
      replace h := h.2
      exact J_reti dX6_price_28 rfl h
set_option maxRecDepth 20000 in
set_option maxHeartbeats 2000000 in
theorem bk_X6_leastBehind_0 {d : Nat} {I : HI} {Q : Option AV → AH → Prop} {a1 : Int} {a2 : Int}  (h : (-2147483648 ≤ a1 + 1 ∧ a1 + 1 ≤ 2147483647) ∧ J none mX6_leastBehind (d + 1) 0 0 7 [(0, vR 477), (1, vI a1), (2, vI a2), (3, vI 0), (4, vI (a1 + 1))] [] (mk I) Q) : J none mX6_leastBehind (d + 1) 0 0 0 [(0, vR 477), (1, vI a1), (2, vI a2)] [] (mk I) Q := by
  refine J_iconst dX6_leastBehind_0 (ii_c rfl) ?_
  refine J_istore_n dX6_leastBehind_1 rfl (by decide) ?_
  refine J_iload_n dX6_leastBehind_2 rfl rfl ?_
  refine J_iconst dX6_leastBehind_3 (ii_c rfl) ?_
  refine J_iaddN dX6_leastBehind_4 h.1 ?_
  replace h := h.2
  refine J_istore dX6_leastBehind_5 (by decide) ?_
  exact h
set_option maxRecDepth 20000 in
set_option maxHeartbeats 2000000 in
theorem bk_X6_leastBehind_7 {d : Nat} {I : HI} {Q : Option AV → AH → Prop} {a1 : Int} {a2 : Int} {a3 : Int} {a4 : Int}  (h : (((I 477 7) ≤ a4 → Q (some (vI (min a3 100000))) (mk I)) ∧ (¬ ((I 477 7) ≤ a4) → ((0 : Int) ≤ a4 ∧ (a4 : Int) < 4) ∧ (-2147483648 ≤ a2 * 4 ∧ a2 * 4 ≤ 2147483647) ∧ ((0 : Int) ≤ a4 ∧ (a4 : Int) < 4) ∧ (-2147483648 ≤ (a2 * 4) + (I 479 a4.toNat) ∧ (a2 * 4) + (I 479 a4.toNat) ≤ 2147483647) ∧ ((0 : Int) ≤ ((a2 * 4) + (I 479 a4.toNat)) ∧ ((a2 * 4) + (I 479 a4.toNat) : Int) < 20) ∧ CI mX6_cheapest d [vR 477, vI (I 479 a4.toNat), vL (I 478 ((a2 * 4) + (I 479 a4.toNat)).toNat)] I (fun x1 I1 => (-2147483648 ≤ a3 + x1 ∧ a3 + x1 ≤ 2147483647) ∧ (-2147483648 ≤ a4 + 1 ∧ a4 + 1 ≤ 2147483647) ∧ J none mX6_leastBehind (d + 1) 0 0 7 [(0, vR 477), (1, vI a1), (2, vI a2), (3, vI (a3 + x1)), (4, vI (a4 + 1))] [] (mk I1) Q)))) : J none mX6_leastBehind (d + 1) 0 0 7 [(0, vR 477), (1, vI a1), (2, vI a2), (3, vI a3), (4, vI a4)] [] (mk I) Q := by
  refine J_iload dX6_leastBehind_7 rfl ?_
  refine J_aload_n dX6_leastBehind_9 rfl rfl ?_
  refine J_getI dX6_leastBehind_10 ck_6 fw_X6_59 rfl sh_477 ?_
  refine J_ic_ge (tgt := 52) dX6_leastBehind_13 (by decide) (fun c => ?_) (fun c => ?_)
  · replace h := h.1 c
    refine J_iload_n dX6_leastBehind_52 rfl rfl ?_
    refine J_ldc 100000 dX6_leastBehind_53 kw_X6_77 (ii_c rfl) ?_
    refine J_min dX6_leastBehind_55 lk_X6_116 (Nat.le_of_ble_eq_true rfl) ?_
    exact J_reti dX6_leastBehind_58 rfl h
  · replace h := h.2 c
    refine J_iload_n dX6_leastBehind_16 rfl rfl ?_
    refine J_aload_n dX6_leastBehind_17 rfl rfl ?_
    refine J_aload_n dX6_leastBehind_18 rfl rfl ?_
    refine J_getR dX6_leastBehind_19 ck_6 fw_X6_15 rfl sh_477 rr_477_4 ?_
    refine J_iload dX6_leastBehind_22 rfl ?_
    refine J_iald dX6_leastBehind_24 sh_479 h.1.1 h.1.2 ?_
    replace h := h.2
    refine J_aload_n dX6_leastBehind_25 rfl rfl ?_
    refine J_getR dX6_leastBehind_26 ck_6 fw_X6_9 rfl sh_477 rr_477_3 ?_
    refine J_iload_n dX6_leastBehind_29 rfl rfl ?_
    refine J_iconst dX6_leastBehind_30 (ii_c rfl) ?_
    refine J_imulN dX6_leastBehind_31 h.1 ?_
    replace h := h.2
    refine J_aload_n dX6_leastBehind_32 rfl rfl ?_
    refine J_getR dX6_leastBehind_33 ck_6 fw_X6_15 rfl sh_477 rr_477_4 ?_
    refine J_iload dX6_leastBehind_36 rfl ?_
    refine J_iald dX6_leastBehind_38 sh_479 h.1.1 h.1.2 ?_
    replace h := h.2
    refine J_iaddN dX6_leastBehind_39 h.1 ?_
    replace h := h.2
    refine J_lald dX6_leastBehind_40 sh_478 h.1.1 h.1.2 ?_
    replace h := h.2
    refine J_callV (as := [_, _]) (mc1 := 0) (ms1 := 0) (mc := 0) (ms := 0) dX6_leastBehind_41 mv_X6_cheapest lk_X6_112 sh_477 rfl (Nat.le_of_ble_eq_true rfl) (Nat.le_of_ble_eq_true rfl) h (fun r σ hq _ => ?_)
    obtain ⟨x1, I1, rfl, rfl, h⟩ := hq
    change J _ _ _ _ _ _ _ [vI x1, vI a3] _ _
    refine J_iaddN dX6_leastBehind_44 h.1 ?_
    replace h := h.2
    refine J_istore_n dX6_leastBehind_45 rfl (by decide) ?_
    refine J_iincN dX6_leastBehind_46 rfl (by decide) h.1 ?_
    replace h := h.2
    refine J_goto (tgt := 7) dX6_leastBehind_49 (by decide) ?_
    exact h
set_option maxRecDepth 20000 in
set_option maxHeartbeats 2000000 in
theorem bk_X6_cheapest_0 {d : Nat} {I : HI} {Q : Option AV → AH → Prop} {a1 : Int} {a2 : Int}  (h : J none mX6_cheapest (d + 1) 0 0 3 [(0, vR 477), (1, vI a1), (2, vL a2), (4, vI 0)] [] (mk I) Q) : J none mX6_cheapest (d + 1) 0 0 0 [(0, vR 477), (1, vI a1), (2, vL a2)] [] (mk I) Q := by
  refine J_iconst dX6_cheapest_0 (ii_c rfl) ?_
  refine J_istore dX6_cheapest_1 (by decide) ?_
  exact h
set_option maxRecDepth 20000 in
set_option maxHeartbeats 2000000 in
theorem bk_X6_cheapest_3 {d : Nat} {I : HI} {Q : Option AV → AH → Prop} {a1 : Int} {a2 : Int} {a4 : Int}  (h : ((0 : Int) ≤ a1 ∧ (a1 : Int) < 4) ∧ (-2147483648 ≤ 3 * (I 71 a1.toNat) ∧ 3 * (I 71 a1.toNat) ≤ 2147483647) ∧ (((3 * (I 71 a1.toNat)) < a4 → Q (some (vI 100000)) (mk I)) ∧ (¬ ((3 * (I 71 a1.toNat)) < a4) → ((a2 = 0 → Q (some (vI 100000)) (mk I)) ∧ (¬ (a2 = 0) → (-2147483648 ≤ a1 * 61 ∧ a1 * 61 ≤ 2147483647) ∧ (-2147483648 ≤ (a1 * 61) + a4 ∧ (a1 * 61) + a4 ≤ 2147483647) ∧ ((0 : Int) ≤ ((a1 * 61) + a4) ∧ ((a1 * 61) + a4 : Int) < 244) ∧ (((lA (lUr a2 (I 73 ((a1 * 61) + a4).toNat)) 1) = 0 → (-2147483648 ≤ a4 + 1 ∧ a4 + 1 ≤ 2147483647) ∧ J none mX6_cheapest (d + 1) 0 0 3 [(0, vR 477), (1, vI a1), (2, vL a2), (4, vI (a4 + 1))] [] (mk I) Q) ∧ (¬ ((lA (lUr a2 (I 73 ((a1 * 61) + a4).toNat)) 1) = 0) → CI mX6_price d [vR 477, vI a1, vI (I 73 ((a1 * 61) + a4).toNat)] I (fun x1 I1 => Q (some (vI x1)) (mk I1))))))))) : J none mX6_cheapest (d + 1) 0 0 3 [(0, vR 477), (1, vI a1), (2, vL a2), (4, vI a4)] [] (mk I) Q := by
  refine J_iload dX6_cheapest_3 rfl ?_
  refine J_iconst dX6_cheapest_5 (ii_c rfl) ?_
  refine J_aload_n dX6_cheapest_6 rfl rfl ?_
  refine J_getR dX6_cheapest_7 ck_6 fw_X6_37 rfl sh_477 rr_477_2 ?_
  refine J_getR dX6_cheapest_10 ck_5 fw_X6_92 rfl sh_69 rr_69_5 ?_
  refine J_iload_n dX6_cheapest_13 rfl rfl ?_
  refine J_iald dX6_cheapest_14 sh_71 h.1.1 h.1.2 ?_
  replace h := h.2
  refine J_imulN dX6_cheapest_15 h.1 ?_
  replace h := h.2
  refine J_ic_gt (tgt := 67) dX6_cheapest_16 (by decide) (fun c => ?_) (fun c => ?_)
  · replace h := h.1 c
    refine J_ldc 100000 dX6_cheapest_67 kw_X6_77 (ii_c rfl) ?_
    exact J_reti dX6_cheapest_69 rfl h
  · replace h := h.2 c
    refine J_lload_n dX6_cheapest_19 rfl rfl ?_
    refine J_lconst 0 dX6_cheapest_20 (ll_c rfl) (by decide) ?_
    refine J_lcmp dX6_cheapest_21 ?_
    refine J_if_eq (tgt := 67) dX6_cheapest_22 (by decide) (fun c => ?_) (fun c => ?_)
    · replace h := h.1 (lC_eq.mp c)
      refine J_ldc 100000 dX6_cheapest_67 kw_X6_77 (ii_c rfl) ?_
      exact J_reti dX6_cheapest_69 rfl h
    · replace h := h.2 (fun w => c (lC_eq.mpr w))
      refine J_aload_n dX6_cheapest_25 rfl rfl ?_
      refine J_getR dX6_cheapest_26 ck_6 fw_X6_37 rfl sh_477 rr_477_2 ?_
      refine J_getR dX6_cheapest_29 ck_5 fw_X6_95 rfl sh_69 rr_69_7 ?_
      refine J_iload_n dX6_cheapest_32 rfl rfl ?_
      refine J_bipush dX6_cheapest_33 (ii_c rfl) (by decide) ?_
      refine J_imulN dX6_cheapest_35 h.1 ?_
      replace h := h.2
      refine J_iload dX6_cheapest_36 rfl ?_
      refine J_iaddN dX6_cheapest_38 h.1 ?_
      replace h := h.2
      refine J_iald dX6_cheapest_39 sh_73 h.1.1 h.1.2 ?_
      replace h := h.2
      refine J_istore dX6_cheapest_40 (by decide) ?_
      refine J_lload_n dX6_cheapest_42 rfl rfl ?_
      refine J_iload dX6_cheapest_43 rfl ?_
      refine J_lushr dX6_cheapest_45 ?_
      refine J_lconst 1 dX6_cheapest_46 (ll_c rfl) (by decide) ?_
      refine J_land dX6_cheapest_47 ?_
      refine J_lconst 0 dX6_cheapest_48 (ll_c rfl) (by decide) ?_
      refine J_lcmp dX6_cheapest_49 ?_
      refine J_if_eq (tgt := 61) dX6_cheapest_50 (by decide) (fun c => ?_) (fun c => ?_)
      · replace h := h.1 (lC_eq.mp c)
        refine J_iincN dX6_cheapest_61 rfl (by decide) h.1 ?_
        replace h := h.2
        refine J_goto (tgt := 3) dX6_cheapest_64 (by decide) ?_
        exact J_loc (ls_sub [0, 1, 2, 3] rfl) h
      · replace h := h.2 (fun w => c (lC_eq.mpr w))
        refine J_aload_n dX6_cheapest_53 rfl rfl ?_
        refine J_iload_n dX6_cheapest_54 rfl rfl ?_
        refine J_iload dX6_cheapest_55 rfl ?_
        refine J_callV (as := [_, _]) (mc1 := 0) (ms1 := 0) (mc := 0) (ms := 0) dX6_cheapest_57 mv_X6_price lk_X6_98 sh_477 rfl (Nat.le_of_ble_eq_true rfl) (Nat.le_of_ble_eq_true rfl) h (fun r σ hq _ => ?_)
        obtain ⟨x1, I1, rfl, rfl, h⟩ := hq
        change J _ _ _ _ _ _ _ [vI x1] _ _
        exact J_reti dX6_cheapest_60 rfl h
set_option maxRecDepth 20000 in
set_option maxHeartbeats 2000000 in
theorem bk_X6_cheapEnough_0 {d : Nat} {I : HI} {Q : Option AV → AH → Prop} {a1 : Int} {a2 : Int} {a4 : Int}  (h : ((0 : Int) ≤ a1 ∧ (a1 : Int) < 4) ∧ (-2147483648 ≤ 3 * (I 71 a1.toNat) ∧ 3 * (I 71 a1.toNat) ≤ 2147483647) ∧ (-2147483648 ≤ a1 * 61 ∧ a1 * 61 ≤ 2147483647) ∧ (-2147483648 ≤ (a1 * 61) + (3 * (I 71 a1.toNat)) ∧ (a1 * 61) + (3 * (I 71 a1.toNat)) ≤ 2147483647) ∧ ((0 : Int) ≤ ((a1 * 61) + (3 * (I 71 a1.toNat))) ∧ ((a1 * 61) + (3 * (I 71 a1.toNat)) : Int) < 244) ∧ CI mX6_price d [vR 477, vI a1, vI (I 73 ((a1 * 61) + (3 * (I 71 a1.toNat))).toNat)] I (fun x1 I1 => ((a4 ≤ x1 → J none mX6_cheapEnough (d + 1) 0 0 46 [(0, vR 477), (1, vI a1), (2, vL a2), (4, vI a4), (5, vI (3 * (I 71 a1.toNat))), (6, vL 1), (8, vI 1)] [] (mk I1) Q) ∧ (¬ (a4 ≤ x1) → Q (some (vL a2)) (mk I1))))) : J none mX6_cheapEnough (d + 1) 0 0 0 [(0, vR 477), (1, vI a1), (2, vL a2), (4, vI a4)] [] (mk I) Q := by
  refine J_iconst dX6_cheapEnough_0 (ii_c rfl) ?_
  refine J_aload_n dX6_cheapEnough_1 rfl rfl ?_
  refine J_getR dX6_cheapEnough_2 ck_6 fw_X6_37 rfl sh_477 rr_477_2 ?_
  refine J_getR dX6_cheapEnough_5 ck_5 fw_X6_92 rfl sh_69 rr_69_5 ?_
  refine J_iload_n dX6_cheapEnough_8 rfl rfl ?_
  refine J_iald dX6_cheapEnough_9 sh_71 h.1.1 h.1.2 ?_
  replace h := h.2
  refine J_imulN dX6_cheapEnough_10 h.1 ?_
  replace h := h.2
  refine J_istore dX6_cheapEnough_11 (by decide) ?_
  refine J_aload_n dX6_cheapEnough_13 rfl rfl ?_
  refine J_iload_n dX6_cheapEnough_14 rfl rfl ?_
  refine J_aload_n dX6_cheapEnough_15 rfl rfl ?_
  refine J_getR dX6_cheapEnough_16 ck_6 fw_X6_37 rfl sh_477 rr_477_2 ?_
  refine J_getR dX6_cheapEnough_19 ck_5 fw_X6_95 rfl sh_69 rr_69_7 ?_
  refine J_iload_n dX6_cheapEnough_22 rfl rfl ?_
  refine J_bipush dX6_cheapEnough_23 (ii_c rfl) (by decide) ?_
  refine J_imulN dX6_cheapEnough_25 h.1 ?_
  replace h := h.2
  refine J_iload dX6_cheapEnough_26 rfl ?_
  refine J_iaddN dX6_cheapEnough_28 h.1 ?_
  replace h := h.2
  refine J_iald dX6_cheapEnough_29 sh_73 h.1.1 h.1.2 ?_
  replace h := h.2
  refine J_callV (as := [_, _]) (mc1 := 0) (ms1 := 0) (mc := 0) (ms := 0) dX6_cheapEnough_30 mv_X6_price lk_X6_98 sh_477 rfl (Nat.le_of_ble_eq_true rfl) (Nat.le_of_ble_eq_true rfl) h (fun r σ hq _ => ?_)
  obtain ⟨x1, I1, rfl, rfl, h⟩ := hq
  change J _ _ _ _ _ _ _ [vI x1] _ _
  refine J_iload dX6_cheapEnough_33 rfl ?_
  refine J_ic_ge (tgt := 40) dX6_cheapEnough_35 (by decide) (fun c => ?_) (fun c => ?_)
  · replace h := h.1 c
    refine J_lconst 1 dX6_cheapEnough_40 (ll_c rfl) (by decide) ?_
    refine J_lstore dX6_cheapEnough_41 (by decide) ?_
    refine J_iconst dX6_cheapEnough_43 (ii_c rfl) ?_
    refine J_istore dX6_cheapEnough_44 (by decide) ?_
    exact h
  · replace h := h.2 c
    refine J_lload_n dX6_cheapEnough_38 rfl rfl ?_
    exact J_retl dX6_cheapEnough_39 rfl h
set_option maxRecDepth 20000 in
set_option maxHeartbeats 2000000 in
theorem bk_X6_cheapEnough_46 {d : Nat} {I : HI} {Q : Option AV → AH → Prop} {a1 : Int} {a2 : Int} {a4 : Int} {a5 : Int} {a6 : Int} {a8 : Int}  (h : ((a5 < a8 → Q (some (vL (lA a2 a6))) (mk I)) ∧ (¬ (a5 < a8) → (-2147483648 ≤ a1 * 61 ∧ a1 * 61 ≤ 2147483647) ∧ (-2147483648 ≤ (a1 * 61) + a8 ∧ (a1 * 61) + a8 ≤ 2147483647) ∧ ((0 : Int) ≤ ((a1 * 61) + a8) ∧ ((a1 * 61) + a8 : Int) < 244) ∧ CI mX6_price d [vR 477, vI a1, vI (I 73 ((a1 * 61) + a8).toNat)] I (fun x1 I1 => ((x1 < a4 → (-2147483648 ≤ a8 + 1 ∧ a8 + 1 ≤ 2147483647) ∧ J none mX6_cheapEnough (d + 1) 0 0 46 [(0, vR 477), (1, vI a1), (2, vL a2), (4, vI a4), (5, vI a5), (6, vL (lO a6 (lSl 1 (I 73 ((a1 * 61) + a8).toNat)))), (8, vI (a8 + 1))] [] (mk I1) Q) ∧ (¬ (x1 < a4) → Q (some (vL (lA a2 a6))) (mk I1))))))) : J none mX6_cheapEnough (d + 1) 0 0 46 [(0, vR 477), (1, vI a1), (2, vL a2), (4, vI a4), (5, vI a5), (6, vL a6), (8, vI a8)] [] (mk I) Q := by
  refine J_iload dX6_cheapEnough_46 rfl ?_
  refine J_iload dX6_cheapEnough_48 rfl ?_
  refine J_ic_gt (tgt := 100) dX6_cheapEnough_50 (by decide) (fun c => ?_) (fun c => ?_)
  · replace h := h.1 c
    refine J_lload_n dX6_cheapEnough_100 rfl rfl ?_
    refine J_lload dX6_cheapEnough_101 rfl ?_
    refine J_land dX6_cheapEnough_103 ?_
    exact J_retl dX6_cheapEnough_104 rfl h
  · replace h := h.2 c
    refine J_aload_n dX6_cheapEnough_53 rfl rfl ?_
    refine J_getR dX6_cheapEnough_54 ck_6 fw_X6_37 rfl sh_477 rr_477_2 ?_
    refine J_getR dX6_cheapEnough_57 ck_5 fw_X6_95 rfl sh_69 rr_69_7 ?_
    refine J_iload_n dX6_cheapEnough_60 rfl rfl ?_
    refine J_bipush dX6_cheapEnough_61 (ii_c rfl) (by decide) ?_
    refine J_imulN dX6_cheapEnough_63 h.1 ?_
    replace h := h.2
    refine J_iload dX6_cheapEnough_64 rfl ?_
    refine J_iaddN dX6_cheapEnough_66 h.1 ?_
    replace h := h.2
    refine J_iald dX6_cheapEnough_67 sh_73 h.1.1 h.1.2 ?_
    replace h := h.2
    refine J_istore dX6_cheapEnough_68 (by decide) ?_
    refine J_aload_n dX6_cheapEnough_70 rfl rfl ?_
    refine J_iload_n dX6_cheapEnough_71 rfl rfl ?_
    refine J_iload dX6_cheapEnough_72 rfl ?_
    refine J_callV (as := [_, _]) (mc1 := 0) (ms1 := 0) (mc := 0) (ms := 0) dX6_cheapEnough_74 mv_X6_price lk_X6_98 sh_477 rfl (Nat.le_of_ble_eq_true rfl) (Nat.le_of_ble_eq_true rfl) h (fun r σ hq _ => ?_)
    obtain ⟨x1, I1, rfl, rfl, h⟩ := hq
    change J _ _ _ _ _ _ _ [vI x1] _ _
    refine J_iload dX6_cheapEnough_77 rfl ?_
    refine J_ic_lt (tgt := 85) dX6_cheapEnough_79 (by decide) (fun c => ?_) (fun c => ?_)
    · replace h := h.1 c
      refine J_lload dX6_cheapEnough_85 rfl ?_
      refine J_lconst 1 dX6_cheapEnough_87 (ll_c rfl) (by decide) ?_
      refine J_iload dX6_cheapEnough_88 rfl ?_
      refine J_lshl dX6_cheapEnough_90 ?_
      refine J_lor dX6_cheapEnough_91 ?_
      refine J_lstore dX6_cheapEnough_92 (by decide) ?_
      refine J_iincN dX6_cheapEnough_94 rfl (by decide) h.1 ?_
      replace h := h.2
      refine J_goto (tgt := 46) dX6_cheapEnough_97 (by decide) ?_
      exact J_loc (ls_sub [0, 1, 2, 3, 4, 5, 6] rfl) h
    · replace h := h.2 c
      refine J_goto (tgt := 100) dX6_cheapEnough_82 (by decide) ?_
      refine J_lload_n dX6_cheapEnough_100 rfl rfl ?_
      refine J_lload dX6_cheapEnough_101 rfl ?_
      refine J_land dX6_cheapEnough_103 ?_
      exact J_retl dX6_cheapEnough_104 rfl h
set_option maxRecDepth 20000 in
set_option maxHeartbeats 2000000 in
theorem bk_X6_carryOut_0 {d : Nat} {I : HI} {Q : Option AV → AH → Prop}   (h : J none mX6_carryOut (d + 1) 0 0 4 [(0, vR 477), (1, vI 0), (2, vI 0)] [] (mk I) Q) : J none mX6_carryOut (d + 1) 0 0 0 [(0, vR 477)] [] (mk I) Q := by
  refine J_iconst dX6_carryOut_0 (ii_c rfl) ?_
  refine J_istore_n dX6_carryOut_1 rfl (by decide) ?_
  refine J_iconst dX6_carryOut_2 (ii_c rfl) ?_
  refine J_istore_n dX6_carryOut_3 rfl (by decide) ?_
  exact h
set_option maxRecDepth 20000 in
set_option maxHeartbeats 2000000 in
theorem bk_X6_carryOut_4 {d : Nat} {I : HI} {Q : Option AV → AH → Prop} {a1 : Int} {a2 : Int}  (h : (((I 477 7) ≤ a2 → Q (some (vI a1)) (mk I)) ∧ (¬ ((I 477 7) ≤ a2) → ((0 : Int) ≤ a2 ∧ (a2 : Int) < 4) ∧ ((0 : Int) ≤ (I 479 a2.toNat) ∧ (I 479 a2.toNat : Int) < 4) ∧ (((I 481 (I 479 a2.toNat).toNat) = 0 → (-2147483648 ≤ a2 + 1 ∧ a2 + 1 ≤ 2147483647) ∧ J none mX6_carryOut (d + 1) 0 0 4 [(0, vR 477), (1, vI a1), (2, vI (a2 + 1))] [] (mk I) Q) ∧ (¬ ((I 481 (I 479 a2.toNat).toNat) = 0) → ((0 : Int) ≤ (I 479 a2.toNat) ∧ (I 479 a2.toNat : Int) < 4) ∧ CV mX6_adopt d [vR 477, vI (I 479 a2.toNat), vI (I 481 (I 479 a2.toNat).toNat)] I (fun I1 => (-2147483648 ≤ a1 + 1 ∧ a1 + 1 ≤ 2147483647) ∧ (-2147483648 ≤ a2 + 1 ∧ a2 + 1 ≤ 2147483647) ∧ J none mX6_carryOut (d + 1) 0 0 4 [(0, vR 477), (1, vI (a1 + 1)), (2, vI (a2 + 1))] [] (mk I1) Q)))))) : J none mX6_carryOut (d + 1) 0 0 4 [(0, vR 477), (1, vI a1), (2, vI a2)] [] (mk I) Q := by
  refine J_iload_n dX6_carryOut_4 rfl rfl ?_
  refine J_aload_n dX6_carryOut_5 rfl rfl ?_
  refine J_getI dX6_carryOut_6 ck_6 fw_X6_59 rfl sh_477 ?_
  refine J_ic_ge (tgt := 48) dX6_carryOut_9 (by decide) (fun c => ?_) (fun c => ?_)
  · replace h := h.1 c
    refine J_iload_n dX6_carryOut_48 rfl rfl ?_
    exact J_reti dX6_carryOut_49 rfl h
  · replace h := h.2 c
    refine J_aload_n dX6_carryOut_12 rfl rfl ?_
    refine J_getR dX6_carryOut_13 ck_6 fw_X6_15 rfl sh_477 rr_477_4 ?_
    refine J_iload_n dX6_carryOut_16 rfl rfl ?_
    refine J_iald dX6_carryOut_17 sh_479 h.1.1 h.1.2 ?_
    replace h := h.2
    refine J_istore_n dX6_carryOut_18 rfl (by decide) ?_
    refine J_aload_n dX6_carryOut_19 rfl rfl ?_
    refine J_getR dX6_carryOut_20 ck_6 fw_X6_22 rfl sh_477 rr_477_6 ?_
    refine J_iload_n dX6_carryOut_23 rfl rfl ?_
    refine J_iald dX6_carryOut_24 sh_481 h.1.1 h.1.2 ?_
    replace h := h.2
    refine J_if_eq (tgt := 42) dX6_carryOut_25 (by decide) (fun c => ?_) (fun c => ?_)
    · replace h := h.1 c
      refine J_iincN dX6_carryOut_42 rfl (by decide) h.1 ?_
      replace h := h.2
      refine J_goto (tgt := 4) dX6_carryOut_45 (by decide) ?_
      exact J_loc (ls_sub [0, 1, 2] rfl) h
    · replace h := h.2 c
      refine J_aload_n dX6_carryOut_28 rfl rfl ?_
      refine J_iload_n dX6_carryOut_29 rfl rfl ?_
      refine J_aload_n dX6_carryOut_30 rfl rfl ?_
      refine J_getR dX6_carryOut_31 ck_6 fw_X6_22 rfl sh_477 rr_477_6 ?_
      refine J_iload_n dX6_carryOut_34 rfl rfl ?_
      refine J_iald dX6_carryOut_35 sh_481 h.1.1 h.1.2 ?_
      replace h := h.2
      refine J_callV (as := [_, _]) (mc1 := 0) (ms1 := 0) (mc := 0) (ms := 0) dX6_carryOut_36 mv_X6_adopt lk_X6_121 sh_477 rfl (Nat.le_of_ble_eq_true rfl) (Nat.le_of_ble_eq_true rfl) h (fun r σ hq _ => ?_)
      obtain ⟨I1, rfl, rfl, h⟩ := hq
      change J _ _ _ _ _ _ _ [] _ _
      refine J_iincN dX6_carryOut_39 rfl (by decide) h.1 ?_
      replace h := h.2
      refine J_iincN dX6_carryOut_42 rfl (by decide) h.1 ?_
      replace h := h.2
      refine J_goto (tgt := 4) dX6_carryOut_45 (by decide) ?_
      exact J_loc (ls_sub [0, 1, 2] rfl) h
set_option maxRecDepth 20000 in
set_option maxHeartbeats 2000000 in
theorem bk_X6_adopt_0 {d : Nat} {I : HI} {Q : Option AV → AH → Prop} {a1 : Int} {a2 : Int}  (h : CR mX5_trackOf d [vR 69, vI a1, vI a2] I (fun x1 kx1 I1 => CI mX5_lateOf d [vR 69, vI a2] I1 (fun x2 I2 => CV mX9_adopt d [vR 32, vI a1, vR x1, vI x2] I2 (fun I3 => Q none (mk I3))))) : J none mX6_adopt (d + 1) 0 0 0 [(0, vR 477), (1, vI a1), (2, vI a2)] [] (mk I) Q := by
  refine J_aload_n dX6_adopt_0 rfl rfl ?_
  refine J_getR dX6_adopt_1 ck_6 fw_X6_33 rfl sh_477 rr_477_1 ?_
  refine J_iload_n dX6_adopt_4 rfl rfl ?_
  refine J_aload_n dX6_adopt_5 rfl rfl ?_
  refine J_getR dX6_adopt_6 ck_6 fw_X6_37 rfl sh_477 rr_477_2 ?_
  refine J_iload_n dX6_adopt_9 rfl rfl ?_
  refine J_iload_n dX6_adopt_10 rfl rfl ?_
  refine J_callV (as := [_, _]) (mc1 := 0) (ms1 := 0) (mc := 0) (ms := 0) dX6_adopt_11 mv_X5_trackOf lk_X6_124 sh_69 rfl (Nat.le_of_ble_eq_true rfl) (Nat.le_of_ble_eq_true rfl) h (fun r σ hq _ => ?_)
  obtain ⟨x1, kx1, I1, rfl, rfl, hx1, h⟩ := hq
  change J _ _ _ _ _ _ _ [vR x1, vI a1, vR 32] _ _
  refine J_aload_n dX6_adopt_14 rfl rfl ?_
  refine J_getR dX6_adopt_15 ck_6 fw_X6_37 rfl sh_477 rr_477_2 ?_
  refine J_iload_n dX6_adopt_18 rfl rfl ?_
  refine J_callV (as := [_]) (mc1 := 0) (ms1 := 0) (mc := 0) (ms := 0) dX6_adopt_19 mv_X5_lateOf lk_X6_128 sh_69 rfl (Nat.le_of_ble_eq_true rfl) (Nat.le_of_ble_eq_true rfl) h (fun r σ hq _ => ?_)
  obtain ⟨x2, I2, rfl, rfl, h⟩ := hq
  change J _ _ _ _ _ _ _ [vI x2, vR x1, vI a1, vR 32] _ _
  refine J_callV (as := [_, _, _]) (mc1 := 0) (ms1 := 0) (mc := 0) (ms := 0) dX6_adopt_22 mv_X9_adopt lk_X6_132 sh_32 rfl (Nat.le_of_ble_eq_true rfl) (Nat.le_of_ble_eq_true rfl) h (fun r σ hq _ => ?_)
  obtain ⟨I3, rfl, rfl, h⟩ := hq
  change J _ _ _ _ _ _ _ [] _ _
  exact J_retv dX6_adopt_25 rfl h
set_option maxRecDepth 20000 in
set_option maxHeartbeats 2000000 in
theorem bk_X6_takeTurn_0 {d : Nat} {I : HI} {Q : Option AV → AH → Prop} {a1 : Int}  (h : CV mX5_prepare d [vR 69] I (fun I1 => ((0 : Int) ≤ a1 ∧ (a1 : Int) < 4) ∧ J none mX6_takeTurn (d + 1) 0 0 22 [(0, vR 477), (1, vI a1), (2, vR (37 + 5 * a1.toNat)), (3, vI (-1)), (4, vI 1)] [] (mk I1) Q)) : J none mX6_takeTurn (d + 1) 0 0 0 [(0, vR 477), (1, vI a1)] [] (mk I) Q := by
  refine J_aload_n dX6_takeTurn_0 rfl rfl ?_
  refine J_getR dX6_takeTurn_1 ck_6 fw_X6_37 rfl sh_477 rr_477_2 ?_
  refine J_callV (as := []) (mc1 := 0) (ms1 := 0) (mc := 0) (ms := 0) dX6_takeTurn_4 mv_X5_prepare lk_X6_41 sh_69 rfl (Nat.le_of_ble_eq_true rfl) (Nat.le_of_ble_eq_true rfl) h (fun r σ hq _ => ?_)
  obtain ⟨I1, rfl, rfl, h⟩ := hq
  change J _ _ _ _ _ _ _ [] _ _
  refine J_aload_n dX6_takeTurn_7 rfl rfl ?_
  refine J_getR dX6_takeTurn_8 ck_6 fw_X6_33 rfl sh_477 rr_477_1 ?_
  refine J_getR dX6_takeTurn_11 ck_9 fw_X6_135 rfl sh_32 rr_32_4 ?_
  refine J_iload_n dX6_takeTurn_14 rfl rfl ?_
  have hb2 := h.1
  refine J_aald dX6_takeTurn_15 sh_36 h.1.1 h.1.2 (RRw h.1.1 h.1.2) ?_
  replace h := h.2
  refine J_astore_n dX6_takeTurn_16 rfl (by decide) ?_
  refine J_iconst dX6_takeTurn_17 (ii_c rfl) ?_
  refine J_istore_n dX6_takeTurn_18 rfl (by decide) ?_
  refine J_iconst dX6_takeTurn_19 (ii_c rfl) ?_
  refine J_istore dX6_takeTurn_20 (by decide) ?_
  exact h
set_option maxRecDepth 20000 in
set_option maxHeartbeats 2000000 in
theorem bk_X6_takeTurn_22 {d : Nat} {I : HI} {Q : Option AV → AH → Prop} {a1 : Int} {a2 ka2 : Nat} {a3 : Int} {a4 : Int} (ha2 : TR a2 ka2) (h : ((0 : Int) ≤ a1 ∧ (a1 : Int) < 4) ∧ (-2147483648 ≤ 3 * (I 71 a1.toNat) ∧ 3 * (I 71 a1.toNat) ≤ 2147483647) ∧ (((3 * (I 71 a1.toNat)) < a4 → J none mX6_takeTurn (d + 1) 0 0 79 [(0, vR 477), (1, vI a1), (2, vR a2), (3, vI a3), (4, vI a4)] [] (mk I) Q) ∧ (¬ ((3 * (I 71 a1.toNat)) < a4) → ((a3 ≠ (-1) → J none mX6_takeTurn (d + 1) 0 0 79 [(0, vR 477), (1, vI a1), (2, vR a2), (3, vI a3), (4, vI a4)] [] (mk I) Q) ∧ (a3 = (-1) → (-2147483648 ≤ a1 * 61 ∧ a1 * 61 ≤ 2147483647) ∧ (-2147483648 ≤ (a1 * 61) + a4 ∧ (a1 * 61) + a4 ≤ 2147483647) ∧ ((0 : Int) ≤ ((a1 * 61) + a4) ∧ ((a1 * 61) + a4 : Int) < 244) ∧ CI mX6_fitsWays d [vR 477, vI a1, vI (I 73 ((a1 * 61) + a4).toNat)] I (fun x1 I1 => ((x1 = 0 → (-2147483648 ≤ a4 + 1 ∧ a4 + 1 ≤ 2147483647) ∧ J none mX6_takeTurn (d + 1) 0 0 22 [(0, vR 477), (1, vI a1), (2, vR a2), (3, vI a3), (4, vI (a4 + 1))] [] (mk I1) Q) ∧ (¬ (x1 = 0) → (-2147483648 ≤ a4 + 1 ∧ a4 + 1 ≤ 2147483647) ∧ J none mX6_takeTurn (d + 1) 0 0 22 [(0, vR 477), (1, vI a1), (2, vR a2), (3, vI (I 73 ((a1 * 61) + a4).toNat)), (4, vI (a4 + 1))] [] (mk I1) Q)))))))) : J none mX6_takeTurn (d + 1) 0 0 22 [(0, vR 477), (1, vI a1), (2, vR a2), (3, vI a3), (4, vI a4)] [] (mk I) Q := by
  refine J_iload dX6_takeTurn_22 rfl ?_
  refine J_iconst dX6_takeTurn_24 (ii_c rfl) ?_
  refine J_aload_n dX6_takeTurn_25 rfl rfl ?_
  refine J_getR dX6_takeTurn_26 ck_6 fw_X6_37 rfl sh_477 rr_477_2 ?_
  refine J_getR dX6_takeTurn_29 ck_5 fw_X6_92 rfl sh_69 rr_69_5 ?_
  refine J_iload_n dX6_takeTurn_32 rfl rfl ?_
  refine J_iald dX6_takeTurn_33 sh_71 h.1.1 h.1.2 ?_
  replace h := h.2
  refine J_imulN dX6_takeTurn_34 h.1 ?_
  replace h := h.2
  refine J_ic_gt (tgt := 79) dX6_takeTurn_35 (by decide) (fun c => ?_) (fun c => ?_)
  · replace h := h.1 c
    exact h
  · replace h := h.2 c
    refine J_iload_n dX6_takeTurn_38 rfl rfl ?_
    refine J_iconst dX6_takeTurn_39 (ii_c rfl) ?_
    refine J_ic_ne (tgt := 79) dX6_takeTurn_40 (by decide) (fun c => ?_) (fun c => ?_)
    · replace h := h.1 c
      exact h
    · replace h := h.2 c
      refine J_aload_n dX6_takeTurn_43 rfl rfl ?_
      refine J_getR dX6_takeTurn_44 ck_6 fw_X6_37 rfl sh_477 rr_477_2 ?_
      refine J_getR dX6_takeTurn_47 ck_5 fw_X6_95 rfl sh_69 rr_69_7 ?_
      refine J_iload_n dX6_takeTurn_50 rfl rfl ?_
      refine J_bipush dX6_takeTurn_51 (ii_c rfl) (by decide) ?_
      refine J_imulN dX6_takeTurn_53 h.1 ?_
      replace h := h.2
      refine J_iload dX6_takeTurn_54 rfl ?_
      refine J_iaddN dX6_takeTurn_56 h.1 ?_
      replace h := h.2
      refine J_iald dX6_takeTurn_57 sh_73 h.1.1 h.1.2 ?_
      replace h := h.2
      refine J_istore dX6_takeTurn_58 (by decide) ?_
      refine J_aload_n dX6_takeTurn_60 rfl rfl ?_
      refine J_iload_n dX6_takeTurn_61 rfl rfl ?_
      refine J_iload dX6_takeTurn_62 rfl ?_
      refine J_callV (as := [_, _]) (mc1 := 0) (ms1 := 0) (mc := 0) (ms := 0) dX6_takeTurn_64 mv_X6_fitsWays lk_X6_139 sh_477 rfl (Nat.le_of_ble_eq_true rfl) (Nat.le_of_ble_eq_true rfl) h (fun r σ hq _ => ?_)
      obtain ⟨x1, I1, rfl, rfl, h⟩ := hq
      change J _ _ _ _ _ _ _ [vI x1] _ _
      refine J_if_eq (tgt := 73) dX6_takeTurn_67 (by decide) (fun c => ?_) (fun c => ?_)
      · replace h := h.1 c
        refine J_iincN dX6_takeTurn_73 rfl (by decide) h.1 ?_
        replace h := h.2
        refine J_goto (tgt := 22) dX6_takeTurn_76 (by decide) ?_
        exact J_loc (ls_sub [0, 1, 2, 3, 4] rfl) h
      · replace h := h.2 c
        refine J_iload dX6_takeTurn_70 rfl ?_
        refine J_istore_n dX6_takeTurn_72 rfl (by decide) ?_
        refine J_iincN dX6_takeTurn_73 rfl (by decide) h.1 ?_
        replace h := h.2
        refine J_goto (tgt := 22) dX6_takeTurn_76 (by decide) ?_
        exact J_loc (ls_sub [0, 1, 2, 3, 4] rfl) h
set_option maxRecDepth 20000 in
set_option maxHeartbeats 2000000 in
theorem bk_X6_takeTurn_79 {d : Nat} {I : HI} {Q : Option AV → AH → Prop} {a1 : Int} {a2 ka2 : Nat} {a3 : Int} {a4 : Int} (ha2 : TR a2 ka2) (h : ((a3 = (-1) → Q (some (vI 0)) (mk I)) ∧ (¬ (a3 = (-1)) → CI mX5_endOf d [vR 69, vI a1, vI a3] I (fun x1 I1 => ((x1 < (I1 a2 5) → CV mX6_adopt d [vR 477, vI a1, vI a3] I1 (fun I2 => Q (some (vI 1)) (mk I2))) ∧ (¬ (x1 < (I1 a2 5)) → (((I1 a2 7) = 0 → CV mX6_adopt d [vR 477, vI a1, vI a3] I1 (fun I3 => Q (some (vI 1)) (mk I3))) ∧ (¬ ((I1 a2 7) = 0) → CI mX9_blocked d [vR 32, vI a1] I1 (fun x4 I4 => ((x4 ≠ 0 → CV mX6_adopt d [vR 477, vI a1, vI a3] I4 (fun I5 => Q (some (vI 1)) (mk I5))) ∧ (x4 = 0 → CI mX6_fitsWays d [vR 477, vI a1, vI 0] I4 (fun x6 I6 => ((x6 ≠ 0 → Q (some (vI 0)) (mk I6)) ∧ (x6 = 0 → CV mX6_adopt d [vR 477, vI a1, vI a3] I6 (fun I7 => Q (some (vI 1)) (mk I7)))))))))))))))) : J none mX6_takeTurn (d + 1) 0 0 79 [(0, vR 477), (1, vI a1), (2, vR a2), (3, vI a3), (4, vI a4)] [] (mk I) Q := by
  refine J_iload_n dX6_takeTurn_79 rfl rfl ?_
  refine J_iconst dX6_takeTurn_80 (ii_c rfl) ?_
  refine J_ic_eq (tgt := 131) dX6_takeTurn_81 (by decide) (fun c => ?_) (fun c => ?_)
  · replace h := h.1 c
    refine J_iconst dX6_takeTurn_131 (ii_c rfl) ?_
    refine J_istore dX6_takeTurn_132 (by decide) ?_
    refine J_iload dX6_takeTurn_134 rfl ?_
    refine J_if_eq (tgt := 145) dX6_takeTurn_136 (by decide) (fun _ => ?_) (fun c => absurd (by decide) c)
    refine J_iload dX6_takeTurn_145 rfl ?_
    exact J_retz dX6_takeTurn_147 rfl (Or.inl rfl) h
  · replace h := h.2 c
    refine J_aload_n dX6_takeTurn_84 rfl rfl ?_
    refine J_getR dX6_takeTurn_85 ck_6 fw_X6_37 rfl sh_477 rr_477_2 ?_
    refine J_iload_n dX6_takeTurn_88 rfl rfl ?_
    refine J_iload_n dX6_takeTurn_89 rfl rfl ?_
    refine J_callV (as := [_, _]) (mc1 := 0) (ms1 := 0) (mc := 0) (ms := 0) dX6_takeTurn_90 mv_X5_endOf lk_X6_109 sh_69 rfl (Nat.le_of_ble_eq_true rfl) (Nat.le_of_ble_eq_true rfl) h (fun r σ hq _ => ?_)
    obtain ⟨x1, I1, rfl, rfl, h⟩ := hq
    change J _ _ _ _ _ _ _ [vI x1] _ _
    refine J_aload_n dX6_takeTurn_93 rfl rfl ?_
    refine J_getI dX6_takeTurn_94 ck_8 fw_X6_143 rfl ha2.1 ?_
    refine J_ic_lt (tgt := 127) dX6_takeTurn_97 (by decide) (fun c => ?_) (fun c => ?_)
    · replace h := h.1 c
      refine J_iconst dX6_takeTurn_127 (ii_c rfl) ?_
      refine J_goto (tgt := 132) dX6_takeTurn_128 (by decide) ?_
      refine J_istore dX6_takeTurn_132 (by decide) ?_
      refine J_iload dX6_takeTurn_134 rfl ?_
      refine J_if_eq (tgt := 145) dX6_takeTurn_136 (by decide) (fun c => absurd c (by decide)) (fun _ => ?_)
      refine J_aload_n dX6_takeTurn_139 rfl rfl ?_
      refine J_iload_n dX6_takeTurn_140 rfl rfl ?_
      refine J_iload_n dX6_takeTurn_141 rfl rfl ?_
      refine J_callV (as := [_, _]) (mc1 := 0) (ms1 := 0) (mc := 0) (ms := 0) dX6_takeTurn_142 mv_X6_adopt lk_X6_121 sh_477 rfl (Nat.le_of_ble_eq_true rfl) (Nat.le_of_ble_eq_true rfl) h (fun r σ hq _ => ?_)
      obtain ⟨I2, rfl, rfl, h⟩ := hq
      change J _ _ _ _ _ _ _ [] _ _
      refine J_iload dX6_takeTurn_145 rfl ?_
      exact J_retz dX6_takeTurn_147 rfl (Or.inr rfl) h
    · replace h := h.2 c
      refine J_aload_n dX6_takeTurn_100 rfl rfl ?_
      refine J_getI dX6_takeTurn_101 ck_8 fw_X6_148 rfl ha2.1 ?_
      refine J_if_eq (tgt := 127) dX6_takeTurn_104 (by decide) (fun c => ?_) (fun c => ?_)
      · replace h := h.1 c
        refine J_iconst dX6_takeTurn_127 (ii_c rfl) ?_
        refine J_goto (tgt := 132) dX6_takeTurn_128 (by decide) ?_
        refine J_istore dX6_takeTurn_132 (by decide) ?_
        refine J_iload dX6_takeTurn_134 rfl ?_
        refine J_if_eq (tgt := 145) dX6_takeTurn_136 (by decide) (fun c => absurd c (by decide)) (fun _ => ?_)
        refine J_aload_n dX6_takeTurn_139 rfl rfl ?_
        refine J_iload_n dX6_takeTurn_140 rfl rfl ?_
        refine J_iload_n dX6_takeTurn_141 rfl rfl ?_
        refine J_callV (as := [_, _]) (mc1 := 0) (ms1 := 0) (mc := 0) (ms := 0) dX6_takeTurn_142 mv_X6_adopt lk_X6_121 sh_477 rfl (Nat.le_of_ble_eq_true rfl) (Nat.le_of_ble_eq_true rfl) h (fun r σ hq _ => ?_)
        obtain ⟨I3, rfl, rfl, h⟩ := hq
        change J _ _ _ _ _ _ _ [] _ _
        refine J_iload dX6_takeTurn_145 rfl ?_
        exact J_retz dX6_takeTurn_147 rfl (Or.inr rfl) h
      · replace h := h.2 c
        refine J_aload_n dX6_takeTurn_107 rfl rfl ?_
        refine J_getR dX6_takeTurn_108 ck_6 fw_X6_33 rfl sh_477 rr_477_1 ?_
        refine J_iload_n dX6_takeTurn_111 rfl rfl ?_
        refine J_callV (as := [_]) (mc1 := 0) (ms1 := 0) (mc := 0) (ms := 0) dX6_takeTurn_112 mv_X9_blocked lk_X6_67 sh_32 rfl (Nat.le_of_ble_eq_true rfl) (Nat.le_of_ble_eq_true rfl) h (fun r σ hq _ => ?_)
        obtain ⟨x4, I4, rfl, rfl, h⟩ := hq
        change J _ _ _ _ _ _ _ [vI x4] _ _
        refine J_if_ne (tgt := 127) dX6_takeTurn_115 (by decide) (fun c => ?_) (fun c => ?_)
        · replace h := h.1 c
          refine J_iconst dX6_takeTurn_127 (ii_c rfl) ?_
          refine J_goto (tgt := 132) dX6_takeTurn_128 (by decide) ?_
          refine J_istore dX6_takeTurn_132 (by decide) ?_
          refine J_iload dX6_takeTurn_134 rfl ?_
          refine J_if_eq (tgt := 145) dX6_takeTurn_136 (by decide) (fun c => absurd c (by decide)) (fun _ => ?_)
          refine J_aload_n dX6_takeTurn_139 rfl rfl ?_
          refine J_iload_n dX6_takeTurn_140 rfl rfl ?_
          refine J_iload_n dX6_takeTurn_141 rfl rfl ?_
          refine J_callV (as := [_, _]) (mc1 := 0) (ms1 := 0) (mc := 0) (ms := 0) dX6_takeTurn_142 mv_X6_adopt lk_X6_121 sh_477 rfl (Nat.le_of_ble_eq_true rfl) (Nat.le_of_ble_eq_true rfl) h (fun r σ hq _ => ?_)
          obtain ⟨I5, rfl, rfl, h⟩ := hq
          change J _ _ _ _ _ _ _ [] _ _
          refine J_iload dX6_takeTurn_145 rfl ?_
          exact J_retz dX6_takeTurn_147 rfl (Or.inr rfl) h
        · replace h := h.2 c
          refine J_aload_n dX6_takeTurn_118 rfl rfl ?_
          refine J_iload_n dX6_takeTurn_119 rfl rfl ?_
          refine J_iconst dX6_takeTurn_120 (ii_c rfl) ?_
          refine J_callV (as := [_, _]) (mc1 := 0) (ms1 := 0) (mc := 0) (ms := 0) dX6_takeTurn_121 mv_X6_fitsWays lk_X6_139 sh_477 rfl (Nat.le_of_ble_eq_true rfl) (Nat.le_of_ble_eq_true rfl) h (fun r σ hq _ => ?_)
          obtain ⟨x6, I6, rfl, rfl, h⟩ := hq
          change J _ _ _ _ _ _ _ [vI x6] _ _
          refine J_if_ne (tgt := 131) dX6_takeTurn_124 (by decide) (fun c => ?_) (fun c => ?_)
          · replace h := h.1 c
            refine J_iconst dX6_takeTurn_131 (ii_c rfl) ?_
            refine J_istore dX6_takeTurn_132 (by decide) ?_
            refine J_iload dX6_takeTurn_134 rfl ?_
            refine J_if_eq (tgt := 145) dX6_takeTurn_136 (by decide) (fun _ => ?_) (fun c => absurd (by decide) c)
            refine J_iload dX6_takeTurn_145 rfl ?_
            exact J_retz dX6_takeTurn_147 rfl (Or.inl rfl) h
          · replace h := h.2 c
            refine J_iconst dX6_takeTurn_127 (ii_c rfl) ?_
            refine J_goto (tgt := 132) dX6_takeTurn_128 (by decide) ?_
            refine J_istore dX6_takeTurn_132 (by decide) ?_
            refine J_iload dX6_takeTurn_134 rfl ?_
            refine J_if_eq (tgt := 145) dX6_takeTurn_136 (by decide) (fun c => absurd c (by decide)) (fun _ => ?_)
            refine J_aload_n dX6_takeTurn_139 rfl rfl ?_
            refine J_iload_n dX6_takeTurn_140 rfl rfl ?_
            refine J_iload_n dX6_takeTurn_141 rfl rfl ?_
            refine J_callV (as := [_, _]) (mc1 := 0) (ms1 := 0) (mc := 0) (ms := 0) dX6_takeTurn_142 mv_X6_adopt lk_X6_121 sh_477 rfl (Nat.le_of_ble_eq_true rfl) (Nat.le_of_ble_eq_true rfl) h (fun r σ hq _ => ?_)
            obtain ⟨I7, rfl, rfl, h⟩ := hq
            change J _ _ _ _ _ _ _ [] _ _
            refine J_iload dX6_takeTurn_145 rfl ?_
            exact J_retz dX6_takeTurn_147 rfl (Or.inr rfl) h
set_option maxRecDepth 20000 in
set_option maxHeartbeats 2000000 in
theorem bk_X6_fitsWays_0 {d : Nat} {I : HI} {Q : Option AV → AH → Prop} {a1 : Int} {a2 : Int}  (h : J none mX6_fitsWays (d + 1) 0 0 2 [(0, vR 477), (1, vI a1), (2, vI a2), (3, vI 0)] [] (mk I) Q) : J none mX6_fitsWays (d + 1) 0 0 0 [(0, vR 477), (1, vI a1), (2, vI a2)] [] (mk I) Q := by
  refine J_iconst dX6_fitsWays_0 (ii_c rfl) ?_
  refine J_istore_n dX6_fitsWays_1 rfl (by decide) ?_
  exact h
set_option maxRecDepth 20000 in
set_option maxHeartbeats 2000000 in
theorem bk_X6_fitsWays_2 {d : Nat} {I : HI} {Q : Option AV → AH → Prop} {a1 : Int} {a2 : Int} {a3 : Int}  (h : (((I 2 2) ≤ a3 → Q (some (vI 1)) (mk I)) ∧ (¬ ((I 2 2) ≤ a3) → ((a3 = a1 → (-2147483648 ≤ a3 + 1 ∧ a3 + 1 ≤ 2147483647) ∧ J none mX6_fitsWays (d + 1) 0 0 2 [(0, vR 477), (1, vI a1), (2, vI a2), (3, vI (a3 + 1))] [] (mk I) Q) ∧ (¬ (a3 = a1) → CL mX5_fitting d [vR 69, vI a1, vI a2, vI a3, vL 1] I (fun x1 I1 => ((x1 ≠ 0 → (-2147483648 ≤ a3 + 1 ∧ a3 + 1 ≤ 2147483647) ∧ J none mX6_fitsWays (d + 1) 0 0 2 [(0, vR 477), (1, vI a1), (2, vI a2), (3, vI (a3 + 1))] [] (mk I1) Q) ∧ (x1 = 0 → Q (some (vI 0)) (mk I1))))))))) : J none mX6_fitsWays (d + 1) 0 0 2 [(0, vR 477), (1, vI a1), (2, vI a2), (3, vI a3)] [] (mk I) Q := by
  refine J_iload_n dX6_fitsWays_2 rfl rfl ?_
  refine J_aload_n dX6_fitsWays_3 rfl rfl ?_
  refine J_getR dX6_fitsWays_4 ck_6 fw_X6_29 rfl sh_477 rr_477_0 ?_
  refine J_getR dX6_fitsWays_7 ck_0 fw_X6_62 rfl sh_1 rr_1_0 ?_
  refine J_iconst dX6_fitsWays_10 (ii_c rfl) ?_
  refine J_iald dX6_fitsWays_11 sh_2 (by decide) (by decide) ?_
  refine J_ic_ge (tgt := 44) dX6_fitsWays_12 (by decide) (fun c => ?_) (fun c => ?_)
  · replace h := h.1 c
    refine J_iconst dX6_fitsWays_44 (ii_c rfl) ?_
    exact J_retz dX6_fitsWays_45 rfl (Or.inr rfl) h
  · replace h := h.2 c
    refine J_iload_n dX6_fitsWays_15 rfl rfl ?_
    refine J_iload_n dX6_fitsWays_16 rfl rfl ?_
    refine J_ic_eq (tgt := 38) dX6_fitsWays_17 (by decide) (fun c => ?_) (fun c => ?_)
    · replace h := h.1 c
      refine J_iincN dX6_fitsWays_38 rfl (by decide) h.1 ?_
      replace h := h.2
      refine J_goto (tgt := 2) dX6_fitsWays_41 (by decide) ?_
      exact h
    · replace h := h.2 c
      refine J_aload_n dX6_fitsWays_20 rfl rfl ?_
      refine J_getR dX6_fitsWays_21 ck_6 fw_X6_37 rfl sh_477 rr_477_2 ?_
      refine J_iload_n dX6_fitsWays_24 rfl rfl ?_
      refine J_iload_n dX6_fitsWays_25 rfl rfl ?_
      refine J_iload_n dX6_fitsWays_26 rfl rfl ?_
      refine J_lconst 1 dX6_fitsWays_27 (ll_c rfl) (by decide) ?_
      refine J_callV (as := [_, _, _, _]) (mc1 := 0) (ms1 := 0) (mc := 0) (ms := 0) dX6_fitsWays_28 mv_X5_fitting lk_X6_105 sh_69 rfl (Nat.le_of_ble_eq_true rfl) (Nat.le_of_ble_eq_true rfl) h (fun r σ hq _ => ?_)
      obtain ⟨x1, I1, rfl, rfl, h⟩ := hq
      change J _ _ _ _ _ _ _ [vL x1] _ _
      refine J_lconst 0 dX6_fitsWays_31 (ll_c rfl) (by decide) ?_
      refine J_lcmp dX6_fitsWays_32 ?_
      refine J_if_ne (tgt := 38) dX6_fitsWays_33 (by decide) (fun c => ?_) (fun c => ?_)
      · replace h := h.1 (fun w => c (lC_eq.mpr w))
        refine J_iincN dX6_fitsWays_38 rfl (by decide) h.1 ?_
        replace h := h.2
        refine J_goto (tgt := 2) dX6_fitsWays_41 (by decide) ?_
        exact h
      · replace h := h.2 (lC_eq.mp c)
        refine J_iconst dX6_fitsWays_36 (ii_c rfl) ?_
        exact J_retz dX6_fitsWays_37 rfl (Or.inl rfl) h
set_option maxRecDepth 20000 in
set_option maxHeartbeats 2000000 in
theorem bk_X6_drawOrder_0 {d : Nat} {I : HI} {Q : Option AV → AH → Prop} {a1 : Int}  (h : (∀ I1 : HI, I1 = up I 477 7 (I 2 2) → J none mX6_drawOrder (d + 1) 0 0 17 [(0, vR 477), (1, vI a1), (2, vI 0), (3, vI 0)] [] (mk I1) Q)) : J none mX6_drawOrder (d + 1) 0 0 0 [(0, vR 477), (1, vI a1)] [] (mk I) Q := by
  refine J_iconst dX6_drawOrder_0 (ii_c rfl) ?_
  refine J_istore_n dX6_drawOrder_1 rfl (by decide) ?_
  refine J_aload_n dX6_drawOrder_2 rfl rfl ?_
  refine J_aload_n dX6_drawOrder_3 rfl rfl ?_
  refine J_getR dX6_drawOrder_4 ck_6 fw_X6_29 rfl sh_477 rr_477_0 ?_
  refine J_getR dX6_drawOrder_7 ck_0 fw_X6_62 rfl sh_1 rr_1_0 ?_
  refine J_iconst dX6_drawOrder_10 (ii_c rfl) ?_
  refine J_iald dX6_drawOrder_11 sh_2 (by decide) (by decide) ?_
  refine J_putI dX6_drawOrder_12 ck_6 fw_X6_59 rfl rfl (Or.inl rfl) sh_477 ?_
  replace h := h _ rfl
  refine J_iconst dX6_drawOrder_15 (ii_c rfl) ?_
  refine J_istore_n dX6_drawOrder_16 rfl (by decide) ?_
  exact h
set_option maxRecDepth 20000 in
set_option maxHeartbeats 2000000 in
theorem bk_X6_drawOrder_17 {d : Nat} {I : HI} {Q : Option AV → AH → Prop} {a1 : Int} {a2 : Int} {a3 : Int}  (h : (((I 477 7) ≤ a3 → (∀ I1 : HI, I1 = up I 477 11 (-1) → (-2147483648 ≤ 2 * (I1 477 7) ∧ 2 * (I1 477 7) ≤ 2147483647) ∧ (((oSr a1 (2 * (I1 477 7))) ≠ 0 → Q (some (vI 0)) (mk I1)) ∧ ((oSr a1 (2 * (I1 477 7))) = 0 → (-2147483648 ≤ (oSl 1 (I1 477 7)) - 1 ∧ (oSl 1 (I1 477 7)) - 1 ≤ 2147483647) ∧ ((a2 ≠ ((oSl 1 (I1 477 7)) - 1) → Q (some (vI 0)) (mk I1)) ∧ (a2 = ((oSl 1 (I1 477 7)) - 1) → Q (some (vI 1)) (mk I1))))))) ∧ (¬ ((I 477 7) ≤ a3) → (-2147483648 ≤ 2 * a3 ∧ 2 * a3 ≤ 2147483647) ∧ ((0 : Int) ≤ a3 ∧ (a3 : Int) < 4) ∧ (∀ I2 : HI, I2 = up I 479 a3.toNat (oA (oSr a1 (2 * a3)) 3) → ((0 : Int) ≤ a3 ∧ (a3 : Int) < 4) ∧ (-2147483648 ≤ a3 + 1 ∧ a3 + 1 ≤ 2147483647) ∧ J none mX6_drawOrder (d + 1) 0 0 17 [(0, vR 477), (1, vI a1), (2, vI (oO a2 (oSl 1 (I2 479 a3.toNat)))), (3, vI (a3 + 1))] [] (mk I2) Q)))) : J none mX6_drawOrder (d + 1) 0 0 17 [(0, vR 477), (1, vI a1), (2, vI a2), (3, vI a3)] [] (mk I) Q := by
  refine J_iload_n dX6_drawOrder_17 rfl rfl ?_
  refine J_aload_n dX6_drawOrder_18 rfl rfl ?_
  refine J_getI dX6_drawOrder_19 ck_6 fw_X6_59 rfl sh_477 ?_
  refine J_ic_ge (tgt := 55) dX6_drawOrder_22 (by decide) (fun c => ?_) (fun c => ?_)
  · replace h := h.1 c
    refine J_aload_n dX6_drawOrder_55 rfl rfl ?_
    refine J_iconst dX6_drawOrder_56 (ii_c rfl) ?_
    refine J_putI dX6_drawOrder_57 ck_6 fw_X6_25 rfl rfl (Or.inl rfl) sh_477 ?_
    replace h := h _ rfl
    refine J_iload_n dX6_drawOrder_60 rfl rfl ?_
    refine J_iconst dX6_drawOrder_61 (ii_c rfl) ?_
    refine J_aload_n dX6_drawOrder_62 rfl rfl ?_
    refine J_getI dX6_drawOrder_63 ck_6 fw_X6_59 rfl sh_477 ?_
    refine J_imulN dX6_drawOrder_66 h.1 ?_
    replace h := h.2
    refine J_ishr dX6_drawOrder_67 ?_
    refine J_if_ne (tgt := 87) dX6_drawOrder_68 (by decide) (fun c => ?_) (fun c => ?_)
    · replace h := h.1 c
      refine J_iconst dX6_drawOrder_87 (ii_c rfl) ?_
      exact J_retz dX6_drawOrder_88 rfl (Or.inl rfl) h
    · replace h := h.2 c
      refine J_iload_n dX6_drawOrder_71 rfl rfl ?_
      refine J_iconst dX6_drawOrder_72 (ii_c rfl) ?_
      refine J_aload_n dX6_drawOrder_73 rfl rfl ?_
      refine J_getI dX6_drawOrder_74 ck_6 fw_X6_59 rfl sh_477 ?_
      refine J_ishl dX6_drawOrder_77 ?_
      refine J_iconst dX6_drawOrder_78 (ii_c rfl) ?_
      refine J_isubN dX6_drawOrder_79 h.1 ?_
      replace h := h.2
      refine J_ic_ne (tgt := 87) dX6_drawOrder_80 (by decide) (fun c => ?_) (fun c => ?_)
      · replace h := h.1 c
        refine J_iconst dX6_drawOrder_87 (ii_c rfl) ?_
        exact J_retz dX6_drawOrder_88 rfl (Or.inl rfl) h
      · replace h := h.2 c
        refine J_iconst dX6_drawOrder_83 (ii_c rfl) ?_
        refine J_goto (tgt := 88) dX6_drawOrder_84 (by decide) ?_
        exact J_retz dX6_drawOrder_88 rfl (Or.inr rfl) h
  · replace h := h.2 c
    refine J_aload_n dX6_drawOrder_25 rfl rfl ?_
    refine J_getR dX6_drawOrder_26 ck_6 fw_X6_15 rfl sh_477 rr_477_4 ?_
    refine J_iload_n dX6_drawOrder_29 rfl rfl ?_
    refine J_iload_n dX6_drawOrder_30 rfl rfl ?_
    refine J_iconst dX6_drawOrder_31 (ii_c rfl) ?_
    refine J_iload_n dX6_drawOrder_32 rfl rfl ?_
    refine J_imulN dX6_drawOrder_33 h.1 ?_
    replace h := h.2
    refine J_ishr dX6_drawOrder_34 ?_
    refine J_iconst dX6_drawOrder_35 (ii_c rfl) ?_
    refine J_iand dX6_drawOrder_36 ?_
    refine J_iast dX6_drawOrder_37 sh_479 h.1.1 h.1.2 ?_
    replace h := h.2 _ rfl
    refine J_iload_n dX6_drawOrder_38 rfl rfl ?_
    refine J_iconst dX6_drawOrder_39 (ii_c rfl) ?_
    refine J_aload_n dX6_drawOrder_40 rfl rfl ?_
    refine J_getR dX6_drawOrder_41 ck_6 fw_X6_15 rfl sh_477 rr_477_4 ?_
    refine J_iload_n dX6_drawOrder_44 rfl rfl ?_
    refine J_iald dX6_drawOrder_45 sh_479 h.1.1 h.1.2 ?_
    replace h := h.2
    refine J_ishl dX6_drawOrder_46 ?_
    refine J_ior dX6_drawOrder_47 ?_
    refine J_istore_n dX6_drawOrder_48 rfl (by decide) ?_
    refine J_iincN dX6_drawOrder_49 rfl (by decide) h.1 ?_
    replace h := h.2
    refine J_goto (tgt := 17) dX6_drawOrder_52 (by decide) ?_
    exact h
set_option maxRecDepth 20000 in
set_option maxHeartbeats 2000000 in
theorem bk_X6_luckyIn_0 {d : Nat} {I : HI} {Q : Option AV → AH → Prop} {a1 : Int}  (h : CV mX5_prepare d [vR 69] I (fun I1 => J none mX6_luckyIn (d + 1) 0 0 9 [(0, vR 477), (1, vI a1), (2, vI 0)] [] (mk I1) Q)) : J none mX6_luckyIn (d + 1) 0 0 0 [(0, vR 477), (1, vI a1)] [] (mk I) Q := by
  refine J_aload_n dX6_luckyIn_0 rfl rfl ?_
  refine J_getR dX6_luckyIn_1 ck_6 fw_X6_37 rfl sh_477 rr_477_2 ?_
  refine J_callV (as := []) (mc1 := 0) (ms1 := 0) (mc := 0) (ms := 0) dX6_luckyIn_4 mv_X5_prepare lk_X6_41 sh_69 rfl (Nat.le_of_ble_eq_true rfl) (Nat.le_of_ble_eq_true rfl) h (fun r σ hq _ => ?_)
  obtain ⟨I1, rfl, rfl, h⟩ := hq
  change J _ _ _ _ _ _ _ [] _ _
  refine J_iconst dX6_luckyIn_7 (ii_c rfl) ?_
  refine J_istore_n dX6_luckyIn_8 rfl (by decide) ?_
  exact h
set_option maxRecDepth 20000 in
set_option maxHeartbeats 2000000 in
theorem bk_X6_luckyIn_9 {d : Nat} {I : HI} {Q : Option AV → AH → Prop} {a1 : Int} {a2 : Int}  (h : (((I 477 7) ≤ a2 → Q (some (vI 0)) (mk I)) ∧ (¬ ((I 477 7) ≤ a2) → CI mX6_pick d [vR 477, vI a2] I (fun x1 I1 => ((0 : Int) ≤ a2 ∧ (a2 : Int) < 4) ∧ (∀ I2 : HI, I2 = up I1 480 a2.toNat x1 → ((0 : Int) ≤ a2 ∧ (a2 : Int) < 4) ∧ (((I2 479 a2.toNat) ≠ a1 → (-2147483648 ≤ a2 + 1 ∧ a2 + 1 ≤ 2147483647) ∧ J none mX6_luckyIn (d + 1) 0 0 9 [(0, vR 477), (1, vI a1), (2, vI (a2 + 1))] [] (mk I2) Q) ∧ ((I2 479 a2.toNat) = a1 → (-2147483648 ≤ a1 * 61 ∧ a1 * 61 ≤ 2147483647) ∧ (-2147483648 ≤ (a1 * 61) + 1 ∧ (a1 * 61) + 1 ≤ 2147483647) ∧ ((0 : Int) ≤ ((a1 * 61) + 1) ∧ ((a1 * 61) + 1 : Int) < 244) ∧ ((0 : Int) ≤ a2 ∧ (a2 : Int) < 4) ∧ (((I2 480 a2.toNat) = (-1) → Q (some (vI 0)) (mk I2)) ∧ (¬ ((I2 480 a2.toNat) = (-1)) → ((0 : Int) ≤ a2 ∧ (a2 : Int) < 4) ∧ CI mX5_endOf d [vR 69, vI a1, vI (I2 480 a2.toNat)] I2 (fun x2 I3 => CI mX5_endOf d [vR 69, vI a1, vI (I2 73 ((a1 * 61) + 1).toNat)] I3 (fun x3 I4 => ((x2 ≠ x3 → Q (some (vI 0)) (mk I4)) ∧ (x2 = x3 → Q (some (vI 1)) (mk I4)))))))))))))) : J none mX6_luckyIn (d + 1) 0 0 9 [(0, vR 477), (1, vI a1), (2, vI a2)] [] (mk I) Q := by
  refine J_iload_n dX6_luckyIn_9 rfl rfl ?_
  refine J_aload_n dX6_luckyIn_10 rfl rfl ?_
  refine J_getI dX6_luckyIn_11 ck_6 fw_X6_59 rfl sh_477 ?_
  refine J_ic_ge (tgt := 101) dX6_luckyIn_14 (by decide) (fun c => ?_) (fun c => ?_)
  · replace h := h.1 c
    refine J_iconst dX6_luckyIn_101 (ii_c rfl) ?_
    exact J_retz dX6_luckyIn_102 rfl (Or.inl rfl) h
  · replace h := h.2 c
    refine J_aload_n dX6_luckyIn_17 rfl rfl ?_
    refine J_getR dX6_luckyIn_18 ck_6 fw_X6_19 rfl sh_477 rr_477_5 ?_
    refine J_iload_n dX6_luckyIn_21 rfl rfl ?_
    refine J_aload_n dX6_luckyIn_22 rfl rfl ?_
    refine J_iload_n dX6_luckyIn_23 rfl rfl ?_
    refine J_callV (as := [_]) (mc1 := 0) (ms1 := 0) (mc := 0) (ms := 0) dX6_luckyIn_24 mv_X6_pick lk_X6_151 sh_477 rfl (Nat.le_of_ble_eq_true rfl) (Nat.le_of_ble_eq_true rfl) h (fun r σ hq _ => ?_)
    obtain ⟨x1, I1, rfl, rfl, h⟩ := hq
    change J _ _ _ _ _ _ _ [vI x1, vI a2, vR 480] _ _
    refine J_iast dX6_luckyIn_27 sh_480 h.1.1 h.1.2 ?_
    replace h := h.2 _ rfl
    refine J_aload_n dX6_luckyIn_28 rfl rfl ?_
    refine J_getR dX6_luckyIn_29 ck_6 fw_X6_15 rfl sh_477 rr_477_4 ?_
    refine J_iload_n dX6_luckyIn_32 rfl rfl ?_
    refine J_iald dX6_luckyIn_33 sh_479 h.1.1 h.1.2 ?_
    replace h := h.2
    refine J_iload_n dX6_luckyIn_34 rfl rfl ?_
    refine J_ic_ne (tgt := 95) dX6_luckyIn_35 (by decide) (fun c => ?_) (fun c => ?_)
    · replace h := h.1 c
      refine J_iincN dX6_luckyIn_95 rfl (by decide) h.1 ?_
      replace h := h.2
      refine J_goto (tgt := 9) dX6_luckyIn_98 (by decide) ?_
      exact h
    · replace h := h.2 c
      refine J_aload_n dX6_luckyIn_38 rfl rfl ?_
      refine J_getR dX6_luckyIn_39 ck_6 fw_X6_37 rfl sh_477 rr_477_2 ?_
      refine J_getR dX6_luckyIn_42 ck_5 fw_X6_95 rfl sh_69 rr_69_7 ?_
      refine J_iload_n dX6_luckyIn_45 rfl rfl ?_
      refine J_bipush dX6_luckyIn_46 (ii_c rfl) (by decide) ?_
      refine J_imulN dX6_luckyIn_48 h.1 ?_
      replace h := h.2
      refine J_iconst dX6_luckyIn_49 (ii_c rfl) ?_
      refine J_iaddN dX6_luckyIn_50 h.1 ?_
      replace h := h.2
      refine J_iald dX6_luckyIn_51 sh_73 h.1.1 h.1.2 ?_
      replace h := h.2
      refine J_istore_n dX6_luckyIn_52 rfl (by decide) ?_
      refine J_aload_n dX6_luckyIn_53 rfl rfl ?_
      refine J_getR dX6_luckyIn_54 ck_6 fw_X6_19 rfl sh_477 rr_477_5 ?_
      refine J_iload_n dX6_luckyIn_57 rfl rfl ?_
      refine J_iald dX6_luckyIn_58 sh_480 h.1.1 h.1.2 ?_
      replace h := h.2
      refine J_iconst dX6_luckyIn_59 (ii_c rfl) ?_
      refine J_ic_eq (tgt := 93) dX6_luckyIn_60 (by decide) (fun c => ?_) (fun c => ?_)
      · replace h := h.1 c
        refine J_iconst dX6_luckyIn_93 (ii_c rfl) ?_
        exact J_retz dX6_luckyIn_94 rfl (Or.inl rfl) h
      · replace h := h.2 c
        refine J_aload_n dX6_luckyIn_63 rfl rfl ?_
        refine J_getR dX6_luckyIn_64 ck_6 fw_X6_37 rfl sh_477 rr_477_2 ?_
        refine J_iload_n dX6_luckyIn_67 rfl rfl ?_
        refine J_aload_n dX6_luckyIn_68 rfl rfl ?_
        refine J_getR dX6_luckyIn_69 ck_6 fw_X6_19 rfl sh_477 rr_477_5 ?_
        refine J_iload_n dX6_luckyIn_72 rfl rfl ?_
        refine J_iald dX6_luckyIn_73 sh_480 h.1.1 h.1.2 ?_
        replace h := h.2
        refine J_callV (as := [_, _]) (mc1 := 0) (ms1 := 0) (mc := 0) (ms := 0) dX6_luckyIn_74 mv_X5_endOf lk_X6_109 sh_69 rfl (Nat.le_of_ble_eq_true rfl) (Nat.le_of_ble_eq_true rfl) h (fun r σ hq _ => ?_)
        obtain ⟨x2, I3, rfl, rfl, h⟩ := hq
        change J _ _ _ _ _ _ _ [vI x2] _ _
        refine J_aload_n dX6_luckyIn_77 rfl rfl ?_
        refine J_getR dX6_luckyIn_78 ck_6 fw_X6_37 rfl sh_477 rr_477_2 ?_
        refine J_iload_n dX6_luckyIn_81 rfl rfl ?_
        refine J_iload_n dX6_luckyIn_82 rfl rfl ?_
        refine J_callV (as := [_, _]) (mc1 := 0) (ms1 := 0) (mc := 0) (ms := 0) dX6_luckyIn_83 mv_X5_endOf lk_X6_109 sh_69 rfl (Nat.le_of_ble_eq_true rfl) (Nat.le_of_ble_eq_true rfl) h (fun r σ hq _ => ?_)
        obtain ⟨x3, I4, rfl, rfl, h⟩ := hq
        change J _ _ _ _ _ _ _ [vI x3, vI x2] _ _
        refine J_ic_ne (tgt := 93) dX6_luckyIn_86 (by decide) (fun c => ?_) (fun c => ?_)
        · replace h := h.1 c
          refine J_iconst dX6_luckyIn_93 (ii_c rfl) ?_
          exact J_retz dX6_luckyIn_94 rfl (Or.inl rfl) h
        · replace h := h.2 c
          refine J_iconst dX6_luckyIn_89 (ii_c rfl) ?_
          refine J_goto (tgt := 94) dX6_luckyIn_90 (by decide) ?_
          exact J_retz dX6_luckyIn_94 rfl (Or.inr rfl) h
set_option maxRecDepth 20000 in
set_option maxHeartbeats 2000000 in
theorem bk_X6_pick_0 {d : Nat} {I : HI} {Q : Option AV → AH → Prop} {a1 : Int}  (h : ((0 : Int) ≤ a1 ∧ (a1 : Int) < 4) ∧ J none mX6_pick (d + 1) 0 0 9 [(0, vR 477), (1, vI a1), (2, vI (I 479 a1.toNat)), (3, vI 1)] [] (mk I) Q) : J none mX6_pick (d + 1) 0 0 0 [(0, vR 477), (1, vI a1)] [] (mk I) Q := by
  refine J_aload_n dX6_pick_0 rfl rfl ?_
  refine J_getR dX6_pick_1 ck_6 fw_X6_15 rfl sh_477 rr_477_4 ?_
  refine J_iload_n dX6_pick_4 rfl rfl ?_
  refine J_iald dX6_pick_5 sh_479 h.1.1 h.1.2 ?_
  replace h := h.2
  refine J_istore_n dX6_pick_6 rfl (by decide) ?_
  refine J_iconst dX6_pick_7 (ii_c rfl) ?_
  refine J_istore_n dX6_pick_8 rfl (by decide) ?_
  exact h
set_option maxRecDepth 20000 in
set_option maxHeartbeats 2000000 in
theorem bk_X6_pick_9 {d : Nat} {I : HI} {Q : Option AV → AH → Prop} {a1 : Int} {a2 : Int} {a3 : Int}  (h : ((0 : Int) ≤ a2 ∧ (a2 : Int) < 4) ∧ (-2147483648 ≤ 3 * (I 71 a2.toNat) ∧ 3 * (I 71 a2.toNat) ≤ 2147483647) ∧ (((3 * (I 71 a2.toNat)) < a3 → Q (some (vI (-1))) (mk I)) ∧ (¬ ((3 * (I 71 a2.toNat)) < a3) → (-2147483648 ≤ a2 * 61 ∧ a2 * 61 ≤ 2147483647) ∧ (-2147483648 ≤ (a2 * 61) + a3 ∧ (a2 * 61) + a3 ≤ 2147483647) ∧ ((0 : Int) ≤ ((a2 * 61) + a3) ∧ ((a2 * 61) + a3 : Int) < 244) ∧ J none mX6_pick (d + 1) 0 0 46 [(0, vR 477), (1, vI a1), (2, vI a2), (3, vI a3), (4, vI (I 73 ((a2 * 61) + a3).toNat)), (5, vI 1), (6, vI 0)] [] (mk I) Q))) : J none mX6_pick (d + 1) 0 0 9 [(0, vR 477), (1, vI a1), (2, vI a2), (3, vI a3)] [] (mk I) Q := by
  refine J_iload_n dX6_pick_9 rfl rfl ?_
  refine J_iconst dX6_pick_10 (ii_c rfl) ?_
  refine J_aload_n dX6_pick_11 rfl rfl ?_
  refine J_getR dX6_pick_12 ck_6 fw_X6_37 rfl sh_477 rr_477_2 ?_
  refine J_getR dX6_pick_15 ck_5 fw_X6_92 rfl sh_69 rr_69_5 ?_
  refine J_iload_n dX6_pick_18 rfl rfl ?_
  refine J_iald dX6_pick_19 sh_71 h.1.1 h.1.2 ?_
  replace h := h.2
  refine J_imulN dX6_pick_20 h.1 ?_
  replace h := h.2
  refine J_ic_gt (tgt := 126) dX6_pick_21 (by decide) (fun c => ?_) (fun c => ?_)
  · replace h := h.1 c
    refine J_iconst dX6_pick_126 (ii_c rfl) ?_
    exact J_reti dX6_pick_127 rfl h
  · replace h := h.2 c
    refine J_aload_n dX6_pick_24 rfl rfl ?_
    refine J_getR dX6_pick_25 ck_6 fw_X6_37 rfl sh_477 rr_477_2 ?_
    refine J_getR dX6_pick_28 ck_5 fw_X6_95 rfl sh_69 rr_69_7 ?_
    refine J_iload_n dX6_pick_31 rfl rfl ?_
    refine J_bipush dX6_pick_32 (ii_c rfl) (by decide) ?_
    refine J_imulN dX6_pick_34 h.1 ?_
    replace h := h.2
    refine J_iload_n dX6_pick_35 rfl rfl ?_
    refine J_iaddN dX6_pick_36 h.1 ?_
    replace h := h.2
    refine J_iald dX6_pick_37 sh_73 h.1.1 h.1.2 ?_
    replace h := h.2
    refine J_istore dX6_pick_38 (by decide) ?_
    refine J_iconst dX6_pick_40 (ii_c rfl) ?_
    refine J_istore dX6_pick_41 (by decide) ?_
    refine J_iconst dX6_pick_43 (ii_c rfl) ?_
    refine J_istore dX6_pick_44 (by decide) ?_
    exact h
set_option maxRecDepth 20000 in
set_option maxHeartbeats 2000000 in
theorem bk_X6_pick_46 {d : Nat} {I : HI} {Q : Option AV → AH → Prop} {a1 : Int} {a2 : Int} {a3 : Int} {a4 : Int} {a5 : Int} {a6 : Int}  (h : ((a1 ≤ a6 → ((a5 = 0 → (-2147483648 ≤ a3 + 1 ∧ a3 + 1 ≤ 2147483647) ∧ J none mX6_pick (d + 1) 0 0 9 [(0, vR 477), (1, vI a1), (2, vI a2), (3, vI (a3 + 1))] [] (mk I) Q) ∧ (¬ (a5 = 0) → Q (some (vI a4)) (mk I)))) ∧ (¬ (a1 ≤ a6) → ((a5 = 0 → ((a5 = 0 → (-2147483648 ≤ a3 + 1 ∧ a3 + 1 ≤ 2147483647) ∧ J none mX6_pick (d + 1) 0 0 9 [(0, vR 477), (1, vI a1), (2, vI a2), (3, vI (a3 + 1))] [] (mk I) Q) ∧ (¬ (a5 = 0) → Q (some (vI a4)) (mk I)))) ∧ (¬ (a5 = 0) → ((0 : Int) ≤ a6 ∧ (a6 : Int) < 4) ∧ (((I 480 a6.toNat) = (-1) → (-2147483648 ≤ a6 + 1 ∧ a6 + 1 ≤ 2147483647) ∧ J none mX6_pick (d + 1) 0 0 46 [(0, vR 477), (1, vI a1), (2, vI a2), (3, vI a3), (4, vI a4), (5, vI 1), (6, vI (a6 + 1))] [] (mk I) Q) ∧ (¬ ((I 480 a6.toNat) = (-1)) → ((0 : Int) ≤ a6 ∧ (a6 : Int) < 4) ∧ ((0 : Int) ≤ a6 ∧ (a6 : Int) < 4) ∧ CL mX5_fitting d [vR 69, vI (I 479 a6.toNat), vI (I 480 a6.toNat), vI a2, vL (lSl 1 a4)] I (fun x1 I1 => ((x1 = 0 → (-2147483648 ≤ a6 + 1 ∧ a6 + 1 ≤ 2147483647) ∧ J none mX6_pick (d + 1) 0 0 46 [(0, vR 477), (1, vI a1), (2, vI a2), (3, vI a3), (4, vI a4), (5, vI 0), (6, vI (a6 + 1))] [] (mk I1) Q) ∧ (¬ (x1 = 0) → (-2147483648 ≤ a6 + 1 ∧ a6 + 1 ≤ 2147483647) ∧ J none mX6_pick (d + 1) 0 0 46 [(0, vR 477), (1, vI a1), (2, vI a2), (3, vI a3), (4, vI a4), (5, vI 1), (6, vI (a6 + 1))] [] (mk I1) Q)))))))))) : J none mX6_pick (d + 1) 0 0 46 [(0, vR 477), (1, vI a1), (2, vI a2), (3, vI a3), (4, vI a4), (5, vI a5), (6, vI a6)] [] (mk I) Q := by
  refine J_iload dX6_pick_46 rfl ?_
  refine J_iload_n dX6_pick_48 rfl rfl ?_
  refine J_ic_ge (tgt := 112) dX6_pick_49 (by decide) (fun c => ?_) (fun c => ?_)
  · replace h := h.1 c
    refine J_iload dX6_pick_112 rfl ?_
    refine J_if_eq (tgt := 120) dX6_pick_114 (by decide) (fun c => ?_) (fun c => ?_)
    · replace h := h.1 c
      refine J_iincN dX6_pick_120 rfl (by decide) h.1 ?_
      replace h := h.2
      refine J_goto (tgt := 9) dX6_pick_123 (by decide) ?_
      exact J_loc (ls_sub [0, 1, 2, 3] rfl) h
    · replace h := h.2 c
      refine J_iload dX6_pick_117 rfl ?_
      exact J_reti dX6_pick_119 rfl h
  · replace h := h.2 c
    refine J_iload dX6_pick_52 rfl ?_
    refine J_if_eq (tgt := 112) dX6_pick_54 (by decide) (fun c => ?_) (fun c => ?_)
    · replace h := h.1 c
      refine J_iload dX6_pick_112 rfl ?_
      refine J_if_eq (tgt := 120) dX6_pick_114 (by decide) (fun c => ?_) (fun c => ?_)
      · replace h := h.1 c
        refine J_iincN dX6_pick_120 rfl (by decide) h.1 ?_
        replace h := h.2
        refine J_goto (tgt := 9) dX6_pick_123 (by decide) ?_
        exact J_loc (ls_sub [0, 1, 2, 3] rfl) h
      · replace h := h.2 c
        refine J_iload dX6_pick_117 rfl ?_
        exact J_reti dX6_pick_119 rfl h
    · replace h := h.2 c
      refine J_aload_n dX6_pick_57 rfl rfl ?_
      refine J_getR dX6_pick_58 ck_6 fw_X6_19 rfl sh_477 rr_477_5 ?_
      refine J_iload dX6_pick_61 rfl ?_
      refine J_iald dX6_pick_63 sh_480 h.1.1 h.1.2 ?_
      replace h := h.2
      refine J_iconst dX6_pick_64 (ii_c rfl) ?_
      refine J_ic_eq (tgt := 99) dX6_pick_65 (by decide) (fun c => ?_) (fun c => ?_)
      · replace h := h.1 c
        refine J_iconst dX6_pick_99 (ii_c rfl) ?_
        refine J_goto (tgt := 104) dX6_pick_100 (by decide) ?_
        refine J_istore dX6_pick_104 (by decide) ?_
        refine J_iincN dX6_pick_106 rfl (by decide) h.1 ?_
        replace h := h.2
        refine J_goto (tgt := 46) dX6_pick_109 (by decide) ?_
        exact h
      · replace h := h.2 c
        refine J_aload_n dX6_pick_68 rfl rfl ?_
        refine J_getR dX6_pick_69 ck_6 fw_X6_37 rfl sh_477 rr_477_2 ?_
        refine J_aload_n dX6_pick_72 rfl rfl ?_
        refine J_getR dX6_pick_73 ck_6 fw_X6_15 rfl sh_477 rr_477_4 ?_
        refine J_iload dX6_pick_76 rfl ?_
        refine J_iald dX6_pick_78 sh_479 h.1.1 h.1.2 ?_
        replace h := h.2
        refine J_aload_n dX6_pick_79 rfl rfl ?_
        refine J_getR dX6_pick_80 ck_6 fw_X6_19 rfl sh_477 rr_477_5 ?_
        refine J_iload dX6_pick_83 rfl ?_
        refine J_iald dX6_pick_85 sh_480 h.1.1 h.1.2 ?_
        replace h := h.2
        refine J_iload_n dX6_pick_86 rfl rfl ?_
        refine J_lconst 1 dX6_pick_87 (ll_c rfl) (by decide) ?_
        refine J_iload dX6_pick_88 rfl ?_
        refine J_lshl dX6_pick_90 ?_
        refine J_callV (as := [_, _, _, _]) (mc1 := 0) (ms1 := 0) (mc := 0) (ms := 0) dX6_pick_91 mv_X5_fitting lk_X6_105 sh_69 rfl (Nat.le_of_ble_eq_true rfl) (Nat.le_of_ble_eq_true rfl) h (fun r σ hq _ => ?_)
        obtain ⟨x1, I1, rfl, rfl, h⟩ := hq
        change J _ _ _ _ _ _ _ [vL x1] _ _
        refine J_lconst 0 dX6_pick_94 (ll_c rfl) (by decide) ?_
        refine J_lcmp dX6_pick_95 ?_
        refine J_if_eq (tgt := 103) dX6_pick_96 (by decide) (fun c => ?_) (fun c => ?_)
        · replace h := h.1 (lC_eq.mp c)
          refine J_iconst dX6_pick_103 (ii_c rfl) ?_
          refine J_istore dX6_pick_104 (by decide) ?_
          refine J_iincN dX6_pick_106 rfl (by decide) h.1 ?_
          replace h := h.2
          refine J_goto (tgt := 46) dX6_pick_109 (by decide) ?_
          exact h
        · replace h := h.2 (fun w => c (lC_eq.mpr w))
          refine J_iconst dX6_pick_99 (ii_c rfl) ?_
          refine J_goto (tgt := 104) dX6_pick_100 (by decide) ?_
          refine J_istore dX6_pick_104 (by decide) ?_
          refine J_iincN dX6_pick_106 rfl (by decide) h.1 ?_
          replace h := h.2
          refine J_goto (tgt := 46) dX6_pick_109 (by decide) ?_
          exact h
set_option maxRecDepth 20000 in
set_option maxHeartbeats 2000000 in
theorem bk_X2_look_0 {d : Nat} {I : HI} {Q : Option AV → AH → Prop} {a1 : Int} {a2 : Int}  (h : CV mX5_prepare d [vR 69] I (fun I1 => J none mX2_look (d + 1) 0 0 9 [(0, vR 482), (1, vI a1), (2, vI a2), (3, vI 0)] [] (mk I1) Q)) : J none mX2_look (d + 1) 0 0 0 [(0, vR 482), (1, vI a1), (2, vI a2)] [] (mk I) Q := by
  refine J_aload_n dX2_look_0 rfl rfl ?_
  refine J_getR dX2_look_1 ck_2 fw_X2_34 rfl sh_482 rr_482_1 ?_
  refine J_callV (as := []) (mc1 := 0) (ms1 := 0) (mc := 0) (ms := 0) dX2_look_4 mv_X5_prepare lk_X2_38 sh_69 rfl (Nat.le_of_ble_eq_true rfl) (Nat.le_of_ble_eq_true rfl) h (fun r σ hq _ => ?_)
  obtain ⟨I1, rfl, rfl, h⟩ := hq
  change J _ _ _ _ _ _ _ [] _ _
  refine J_iconst dX2_look_7 (ii_c rfl) ?_
  refine J_istore_n dX2_look_8 rfl (by decide) ?_
  exact h
set_option maxRecDepth 20000 in
set_option maxHeartbeats 2000000 in
theorem bk_X2_look_9 {d : Nat} {I : HI} {Q : Option AV → AH → Prop} {a1 : Int} {a2 : Int} {a3 : Int}  (h : ((3 ≤ a3 → CV mX2_count d [vR 482, vI a1] I (fun I1 => Q none (mk I1))) ∧ (¬ (3 ≤ a3) → ((0 : Int) ≤ a3 ∧ (a3 : Int) < 3) ∧ (∀ I2 : HI, I2 = up I 487 a3.toNat 0 → CV mX2_heap d [vR 482, vI a3, vI 0, vI 0, vI 0] I2 (fun I3 => (((I3 2 2) ≤ a3 → J none mX2_look (d + 1) 0 0 62 [(0, vR 482), (1, vI a1), (2, vI a2), (3, vI a3), (4, vI 0), (5, vI 1)] [] (mk I3) Q) ∧ (¬ ((I3 2 2) ≤ a3) → ((0 : Int) ≤ a3 ∧ (a3 : Int) < 4) ∧ (-2147483648 ≤ 3 * (I3 71 a3.toNat) ∧ 3 * (I3 71 a3.toNat) ≤ 2147483647) ∧ J none mX2_look (d + 1) 0 0 62 [(0, vR 482), (1, vI a1), (2, vI a2), (3, vI a3), (4, vI (3 * (I3 71 a3.toNat))), (5, vI 1)] [] (mk I3) Q))))))) : J none mX2_look (d + 1) 0 0 9 [(0, vR 482), (1, vI a1), (2, vI a2), (3, vI a3)] [] (mk I) Q := by
  refine J_iload_n dX2_look_9 rfl rfl ?_
  refine J_iconst dX2_look_10 (ii_c rfl) ?_
  refine J_ic_ge (tgt := 137) dX2_look_11 (by decide) (fun c => ?_) (fun c => ?_)
  · replace h := h.1 c
    refine J_aload_n dX2_look_137 rfl rfl ?_
    refine J_iload_n dX2_look_138 rfl rfl ?_
    refine J_callV (as := [_]) (mc1 := 0) (ms1 := 0) (mc := 0) (ms := 0) dX2_look_139 mv_X2_count lk_X2_71 sh_482 rfl (Nat.le_of_ble_eq_true rfl) (Nat.le_of_ble_eq_true rfl) h (fun r σ hq _ => ?_)
    obtain ⟨I1, rfl, rfl, h⟩ := hq
    change J _ _ _ _ _ _ _ [] _ _
    exact J_retv dX2_look_142 rfl h
  · replace h := h.2 c
    refine J_aload_n dX2_look_14 rfl rfl ?_
    refine J_getR dX2_look_15 ck_2 fw_X2_27 rfl sh_482 rr_482_6 ?_
    refine J_iload_n dX2_look_18 rfl rfl ?_
    refine J_iconst dX2_look_19 (ii_c rfl) ?_
    refine J_iast dX2_look_20 sh_487 h.1.1 h.1.2 ?_
    replace h := h.2 _ rfl
    refine J_aload_n dX2_look_21 rfl rfl ?_
    refine J_iload_n dX2_look_22 rfl rfl ?_
    refine J_iconst dX2_look_23 (ii_c rfl) ?_
    refine J_iconst dX2_look_24 (ii_c rfl) ?_
    refine J_iconst dX2_look_25 (ii_c rfl) ?_
    refine J_callV (as := [_, _, _, _]) (mc1 := 0) (ms1 := 0) (mc := 0) (ms := 0) dX2_look_26 mv_X2_heap lk_X2_41 sh_482 rfl (Nat.le_of_ble_eq_true rfl) (Nat.le_of_ble_eq_true rfl) h (fun r σ hq _ => ?_)
    obtain ⟨I3, rfl, rfl, h⟩ := hq
    change J _ _ _ _ _ _ _ [] _ _
    refine J_iload_n dX2_look_29 rfl rfl ?_
    refine J_aload_n dX2_look_30 rfl rfl ?_
    refine J_getR dX2_look_31 ck_2 fw_X2_30 rfl sh_482 rr_482_0 ?_
    refine J_getR dX2_look_34 ck_0 fw_X2_45 rfl sh_1 rr_1_0 ?_
    refine J_iconst dX2_look_37 (ii_c rfl) ?_
    refine J_iald dX2_look_38 sh_2 (by decide) (by decide) ?_
    refine J_ic_ge (tgt := 56) dX2_look_39 (by decide) (fun c => ?_) (fun c => ?_)
    · replace h := h.1 c
      refine J_iconst dX2_look_56 (ii_c rfl) ?_
      refine J_istore dX2_look_57 (by decide) ?_
      refine J_iconst dX2_look_59 (ii_c rfl) ?_
      refine J_istore dX2_look_60 (by decide) ?_
      exact h
    · replace h := h.2 c
      refine J_iconst dX2_look_42 (ii_c rfl) ?_
      refine J_aload_n dX2_look_43 rfl rfl ?_
      refine J_getR dX2_look_44 ck_2 fw_X2_34 rfl sh_482 rr_482_1 ?_
      refine J_getR dX2_look_47 ck_5 fw_X2_50 rfl sh_69 rr_69_5 ?_
      refine J_iload_n dX2_look_50 rfl rfl ?_
      refine J_iald dX2_look_51 sh_71 h.1.1 h.1.2 ?_
      replace h := h.2
      refine J_imulN dX2_look_52 h.1 ?_
      replace h := h.2
      refine J_goto (tgt := 57) dX2_look_53 (by decide) ?_
      refine J_istore dX2_look_57 (by decide) ?_
      refine J_iconst dX2_look_59 (ii_c rfl) ?_
      refine J_istore dX2_look_60 (by decide) ?_
      exact h
set_option maxRecDepth 20000 in
set_option maxHeartbeats 2000000 in
theorem bk_X2_look_62 {d : Nat} {I : HI} {Q : Option AV → AH → Prop} {a1 : Int} {a2 : Int} {a3 : Int} {a4 : Int} {a5 : Int}  (h : ((a4 < a5 → (-2147483648 ≤ a3 + 1 ∧ a3 + 1 ≤ 2147483647) ∧ J none mX2_look (d + 1) 0 0 9 [(0, vR 482), (1, vI a1), (2, vI a2), (3, vI (a3 + 1))] [] (mk I) Q) ∧ (¬ (a4 < a5) → CR mX5_trackOf d [vR 69, vI a3, vI a5] I (fun x1 kx1 I1 => CI mX5_lateOf d [vR 69, vI a5] I1 (fun x2 I2 => CI mX0_petalsOf d [vR 1, vI a3, vR x1, vI x2, vI a2] I2 (fun x3 I3 => (((oA x3 (oX a1 (-1))) ≠ 0 → (-2147483648 ≤ a5 + 1 ∧ a5 + 1 ≤ 2147483647) ∧ J none mX2_look (d + 1) 0 0 62 [(0, vR 482), (1, vI a1), (2, vI a2), (3, vI a3), (4, vI a4), (5, vI (a5 + 1))] [] (mk I3) Q) ∧ ((oA x3 (oX a1 (-1))) = 0 → CV mX2_heap d [vR 482, vI a3, vI x3, vI (I3 x1 6), vI 1] I3 (fun I4 => (-2147483648 ≤ a5 + 1 ∧ a5 + 1 ≤ 2147483647) ∧ J none mX2_look (d + 1) 0 0 62 [(0, vR 482), (1, vI a1), (2, vI a2), (3, vI a3), (4, vI a4), (5, vI (a5 + 1))] [] (mk I4) Q))))))))) : J none mX2_look (d + 1) 0 0 62 [(0, vR 482), (1, vI a1), (2, vI a2), (3, vI a3), (4, vI a4), (5, vI a5)] [] (mk I) Q := by
  refine J_iload dX2_look_62 rfl ?_
  refine J_iload dX2_look_64 rfl ?_
  refine J_ic_gt (tgt := 131) dX2_look_66 (by decide) (fun c => ?_) (fun c => ?_)
  · replace h := h.1 c
    refine J_iincN dX2_look_131 rfl (by decide) h.1 ?_
    replace h := h.2
    refine J_goto (tgt := 9) dX2_look_134 (by decide) ?_
    exact J_loc (ls_sub [0, 1, 2, 3] rfl) h
  · replace h := h.2 c
    refine J_aload_n dX2_look_69 rfl rfl ?_
    refine J_getR dX2_look_70 ck_2 fw_X2_34 rfl sh_482 rr_482_1 ?_
    refine J_iload_n dX2_look_73 rfl rfl ?_
    refine J_iload dX2_look_74 rfl ?_
    refine J_callV (as := [_, _]) (mc1 := 0) (ms1 := 0) (mc := 0) (ms := 0) dX2_look_76 mv_X5_trackOf lk_X2_53 sh_69 rfl (Nat.le_of_ble_eq_true rfl) (Nat.le_of_ble_eq_true rfl) h (fun r σ hq _ => ?_)
    obtain ⟨x1, kx1, I1, rfl, rfl, hx1, h⟩ := hq
    change J _ _ _ _ _ _ _ [vR x1] _ _
    refine J_astore dX2_look_79 (by decide) ?_
    refine J_aload_n dX2_look_81 rfl rfl ?_
    refine J_getR dX2_look_82 ck_2 fw_X2_30 rfl sh_482 rr_482_0 ?_
    refine J_iload_n dX2_look_85 rfl rfl ?_
    refine J_aload dX2_look_86 rfl ?_
    refine J_aload_n dX2_look_88 rfl rfl ?_
    refine J_getR dX2_look_89 ck_2 fw_X2_34 rfl sh_482 rr_482_1 ?_
    refine J_iload dX2_look_92 rfl ?_
    refine J_callV (as := [_]) (mc1 := 0) (ms1 := 0) (mc := 0) (ms := 0) dX2_look_94 mv_X5_lateOf lk_X2_57 sh_69 rfl (Nat.le_of_ble_eq_true rfl) (Nat.le_of_ble_eq_true rfl) h (fun r σ hq _ => ?_)
    obtain ⟨x2, I2, rfl, rfl, h⟩ := hq
    change J _ _ _ _ _ _ _ [vI x2, vR x1, vI a3, vR 1] _ _
    refine J_iload_n dX2_look_97 rfl rfl ?_
    refine J_callV (as := [_, _, _, _]) (mc1 := 0) (ms1 := 0) (mc := 0) (ms := 0) dX2_look_98 mv_X0_petalsOf lk_X2_61 sh_1 rfl (Nat.le_of_ble_eq_true rfl) (Nat.le_of_ble_eq_true rfl) h (fun r σ hq _ => ?_)
    obtain ⟨x3, I3, rfl, rfl, h⟩ := hq
    change J _ _ _ _ _ _ _ [vI x3] _ _
    refine J_istore dX2_look_101 (by decide) ?_
    refine J_iload dX2_look_103 rfl ?_
    refine J_iload_n dX2_look_105 rfl rfl ?_
    refine J_iconst dX2_look_106 (ii_c rfl) ?_
    refine J_ixor dX2_look_107 ?_
    refine J_iand dX2_look_108 ?_
    refine J_if_ne (tgt := 125) dX2_look_109 (by decide) (fun c => ?_) (fun c => ?_)
    · replace h := h.1 c
      refine J_iincN dX2_look_125 rfl (by decide) h.1 ?_
      replace h := h.2
      refine J_goto (tgt := 62) dX2_look_128 (by decide) ?_
      exact J_loc (ls_sub [0, 1, 2, 3, 4, 5] rfl) h
    · replace h := h.2 c
      refine J_aload_n dX2_look_112 rfl rfl ?_
      refine J_iload_n dX2_look_113 rfl rfl ?_
      refine J_iload dX2_look_114 rfl ?_
      refine J_aload dX2_look_116 rfl ?_
      refine J_getI dX2_look_118 ck_8 fw_X2_65 rfl hx1.1 ?_
      refine J_iconst dX2_look_121 (ii_c rfl) ?_
      refine J_callV (as := [_, _, _, _]) (mc1 := 0) (ms1 := 0) (mc := 0) (ms := 0) dX2_look_122 mv_X2_heap lk_X2_41 sh_482 rfl (Nat.le_of_ble_eq_true rfl) (Nat.le_of_ble_eq_true rfl) h (fun r σ hq _ => ?_)
      obtain ⟨I4, rfl, rfl, h⟩ := hq
      change J _ _ _ _ _ _ _ [] _ _
      refine J_iincN dX2_look_125 rfl (by decide) h.1 ?_
      replace h := h.2
      refine J_goto (tgt := 62) dX2_look_128 (by decide) ?_
      exact J_loc (ls_sub [0, 1, 2, 3, 4, 5] rfl) h
set_option maxRecDepth 20000 in
set_option maxHeartbeats 2000000 in
theorem bk_X2_heap_0 {d : Nat} {I : HI} {Q : Option AV → AH → Prop} {a1 : Int} {a2 : Int} {a3 : Int} {a4 : Int}  (h : (-2147483648 ≤ a1 * 61 ∧ a1 * 61 ≤ 2147483647) ∧ J none mX2_heap (d + 1) 0 0 10 [(0, vR 482), (1, vI a1), (2, vI a2), (3, vI a3), (4, vI a4), (5, vI (a1 * 61)), (6, vI (a1 * 61))] [] (mk I) Q) : J none mX2_heap (d + 1) 0 0 0 [(0, vR 482), (1, vI a1), (2, vI a2), (3, vI a3), (4, vI a4)] [] (mk I) Q := by
  refine J_iload_n dX2_heap_0 rfl rfl ?_
  refine J_bipush dX2_heap_1 (ii_c rfl) (by decide) ?_
  refine J_imulN dX2_heap_3 h.1 ?_
  replace h := h.2
  refine J_istore dX2_heap_4 (by decide) ?_
  refine J_iload dX2_heap_6 rfl ?_
  refine J_istore dX2_heap_8 (by decide) ?_
  exact h
set_option maxRecDepth 20000 in
set_option maxHeartbeats 2000000 in
theorem bk_X2_heap_10 {d : Nat} {I : HI} {Q : Option AV → AH → Prop} {a1 : Int} {a2 : Int} {a3 : Int} {a4 : Int} {a5 : Int} {a6 : Int}  (h : ((0 : Int) ≤ a1 ∧ (a1 : Int) < 3) ∧ (-2147483648 ≤ a5 + (I 487 a1.toNat) ∧ a5 + (I 487 a1.toNat) ≤ 2147483647) ∧ (((a5 + (I 487 a1.toNat)) ≤ a6 → J none mX2_heap (d + 1) 0 0 41 [(0, vR 482), (1, vI a1), (2, vI a2), (3, vI a3), (4, vI a4), (5, vI a5), (6, vI a6)] [] (mk I) Q) ∧ (¬ ((a5 + (I 487 a1.toNat)) ≤ a6) → ((0 : Int) ≤ a6 ∧ (a6 : Int) < 183) ∧ (((I 483 a6.toNat) = a2 → J none mX2_heap (d + 1) 0 0 41 [(0, vR 482), (1, vI a1), (2, vI a2), (3, vI a3), (4, vI a4), (5, vI a5), (6, vI a6)] [] (mk I) Q) ∧ (¬ ((I 483 a6.toNat) = a2) → (-2147483648 ≤ a6 + 1 ∧ a6 + 1 ≤ 2147483647) ∧ J none mX2_heap (d + 1) 0 0 10 [(0, vR 482), (1, vI a1), (2, vI a2), (3, vI a3), (4, vI a4), (5, vI a5), (6, vI (a6 + 1))] [] (mk I) Q))))) : J none mX2_heap (d + 1) 0 0 10 [(0, vR 482), (1, vI a1), (2, vI a2), (3, vI a3), (4, vI a4), (5, vI a5), (6, vI a6)] [] (mk I) Q := by
  refine J_iload dX2_heap_10 rfl ?_
  refine J_iload dX2_heap_12 rfl ?_
  refine J_aload_n dX2_heap_14 rfl rfl ?_
  refine J_getR dX2_heap_15 ck_2 fw_X2_27 rfl sh_482 rr_482_6 ?_
  refine J_iload_n dX2_heap_18 rfl rfl ?_
  refine J_iald dX2_heap_19 sh_487 h.1.1 h.1.2 ?_
  replace h := h.2
  refine J_iaddN dX2_heap_20 h.1 ?_
  replace h := h.2
  refine J_ic_ge (tgt := 41) dX2_heap_21 (by decide) (fun c => ?_) (fun c => ?_)
  · replace h := h.1 c
    exact h
  · replace h := h.2 c
    refine J_aload_n dX2_heap_24 rfl rfl ?_
    refine J_getR dX2_heap_25 ck_2 fw_X2_13 rfl sh_482 rr_482_2 ?_
    refine J_iload dX2_heap_28 rfl ?_
    refine J_iald dX2_heap_30 sh_483 h.1.1 h.1.2 ?_
    replace h := h.2
    refine J_iload_n dX2_heap_31 rfl rfl ?_
    refine J_ic_eq (tgt := 41) dX2_heap_32 (by decide) (fun c => ?_) (fun c => ?_)
    · replace h := h.1 c
      exact h
    · replace h := h.2 c
      refine J_iincN dX2_heap_35 rfl (by decide) h.1 ?_
      replace h := h.2
      refine J_goto (tgt := 10) dX2_heap_38 (by decide) ?_
      exact h
set_option maxRecDepth 20000 in
set_option maxHeartbeats 2000000 in
theorem bk_X2_heap_41 {d : Nat} {I : HI} {Q : Option AV → AH → Prop} {a1 : Int} {a2 : Int} {a3 : Int} {a4 : Int} {a5 : Int} {a6 : Int}  (h : ((0 : Int) ≤ a1 ∧ (a1 : Int) < 3) ∧ (-2147483648 ≤ a5 + (I 487 a1.toNat) ∧ a5 + (I 487 a1.toNat) ≤ 2147483647) ∧ ((a6 ≠ (a5 + (I 487 a1.toNat)) → ((0 : Int) ≤ a6 ∧ (a6 : Int) < 183) ∧ (-2147483648 ≤ (I 484 a6.toNat) + 1 ∧ (I 484 a6.toNat) + 1 ≤ 2147483647) ∧ ((0 : Int) ≤ a6 ∧ (a6 : Int) < 183) ∧ (∀ I1 : HI, I1 = up I 484 a6.toNat ((I 484 a6.toNat) + 1) → ((0 : Int) ≤ a6 ∧ (a6 : Int) < 183) ∧ ((0 : Int) ≤ a6 ∧ (a6 : Int) < 183) ∧ (∀ I2 : HI, I2 = up I1 485 a6.toNat (oA (I1 485 a6.toNat) a3) → ((0 : Int) ≤ a6 ∧ (a6 : Int) < 183) ∧ ((0 : Int) ≤ a6 ∧ (a6 : Int) < 183) ∧ ((oO (I2 486 a6.toNat) a4) = 0 ∨ (oO (I2 486 a6.toNat) a4) = 1) ∧ (∀ I3 : HI, I3 = up I2 486 a6.toNat (oO (I2 486 a6.toNat) a4) → Q none (mk I3))))) ∧ (a6 = (a5 + (I 487 a1.toNat)) → ((0 : Int) ≤ a1 ∧ (a1 : Int) < 3) ∧ (-2147483648 ≤ (I 487 a1.toNat) + 1 ∧ (I 487 a1.toNat) + 1 ≤ 2147483647) ∧ ((0 : Int) ≤ a1 ∧ (a1 : Int) < 3) ∧ (∀ I4 : HI, I4 = up I 487 a1.toNat ((I 487 a1.toNat) + 1) → ((0 : Int) ≤ a6 ∧ (a6 : Int) < 183) ∧ (∀ I5 : HI, I5 = up I4 483 a6.toNat a2 → ((0 : Int) ≤ a6 ∧ (a6 : Int) < 183) ∧ (∀ I6 : HI, I6 = up I5 484 a6.toNat 0 → ((0 : Int) ≤ a6 ∧ (a6 : Int) < 183) ∧ (∀ I7 : HI, I7 = up I6 485 a6.toNat a3 → ((0 : Int) ≤ a6 ∧ (a6 : Int) < 183) ∧ (0 = 0 ∨ 0 = 1) ∧ (∀ I8 : HI, I8 = up I7 486 a6.toNat 0 → ((0 : Int) ≤ a6 ∧ (a6 : Int) < 183) ∧ (-2147483648 ≤ (I8 484 a6.toNat) + 1 ∧ (I8 484 a6.toNat) + 1 ≤ 2147483647) ∧ ((0 : Int) ≤ a6 ∧ (a6 : Int) < 183) ∧ (∀ I9 : HI, I9 = up I8 484 a6.toNat ((I8 484 a6.toNat) + 1) → ((0 : Int) ≤ a6 ∧ (a6 : Int) < 183) ∧ ((0 : Int) ≤ a6 ∧ (a6 : Int) < 183) ∧ (∀ I10 : HI, I10 = up I9 485 a6.toNat (oA (I9 485 a6.toNat) a3) → ((0 : Int) ≤ a6 ∧ (a6 : Int) < 183) ∧ ((0 : Int) ≤ a6 ∧ (a6 : Int) < 183) ∧ ((oO (I10 486 a6.toNat) a4) = 0 ∨ (oO (I10 486 a6.toNat) a4) = 1) ∧ (∀ I11 : HI, I11 = up I10 486 a6.toNat (oO (I10 486 a6.toNat) a4) → Q none (mk I11)))))))))))) : J none mX2_heap (d + 1) 0 0 41 [(0, vR 482), (1, vI a1), (2, vI a2), (3, vI a3), (4, vI a4), (5, vI a5), (6, vI a6)] [] (mk I) Q := by
  refine J_iload dX2_heap_41 rfl ?_
  refine J_iload dX2_heap_43 rfl ?_
  refine J_aload_n dX2_heap_45 rfl rfl ?_
  refine J_getR dX2_heap_46 ck_2 fw_X2_27 rfl sh_482 rr_482_6 ?_
  refine J_iload_n dX2_heap_49 rfl rfl ?_
  refine J_iald dX2_heap_50 sh_487 h.1.1 h.1.2 ?_
  replace h := h.2
  refine J_iaddN dX2_heap_51 h.1 ?_
  replace h := h.2
  refine J_ic_ne (tgt := 97) dX2_heap_52 (by decide) (fun c => ?_) (fun c => ?_)
  · replace h := h.1 c
    refine J_aload_n dX2_heap_97 rfl rfl ?_
    refine J_getR dX2_heap_98 ck_2 fw_X2_17 rfl sh_482 rr_482_3 ?_
    refine J_iload dX2_heap_101 rfl ?_
    refine J_dup2 dX2_heap_103 rfl rfl ?_
    refine J_iald dX2_heap_104 sh_484 h.1.1 h.1.2 ?_
    replace h := h.2
    refine J_iconst dX2_heap_105 (ii_c rfl) ?_
    refine J_iaddN dX2_heap_106 h.1 ?_
    replace h := h.2
    refine J_iast dX2_heap_107 sh_484 h.1.1 h.1.2 ?_
    replace h := h.2 _ rfl
    refine J_aload_n dX2_heap_108 rfl rfl ?_
    refine J_getR dX2_heap_109 ck_2 fw_X2_20 rfl sh_482 rr_482_4 ?_
    refine J_iload dX2_heap_112 rfl ?_
    refine J_dup2 dX2_heap_114 rfl rfl ?_
    refine J_iald dX2_heap_115 sh_485 h.1.1 h.1.2 ?_
    replace h := h.2
    refine J_iload_n dX2_heap_116 rfl rfl ?_
    refine J_iand dX2_heap_117 ?_
    refine J_iast dX2_heap_118 sh_485 h.1.1 h.1.2 ?_
    replace h := h.2 _ rfl
    refine J_aload_n dX2_heap_119 rfl rfl ?_
    refine J_getR dX2_heap_120 ck_2 fw_X2_23 rfl sh_482 rr_482_5 ?_
    refine J_iload dX2_heap_123 rfl ?_
    refine J_dup2 dX2_heap_125 rfl rfl ?_
    refine J_zald dX2_heap_126 sh_486 h.1.1 h.1.2 ?_
    replace h := h.2
    refine J_iload dX2_heap_127 rfl ?_
    refine J_ior dX2_heap_129 ?_
    refine J_zast dX2_heap_130 sh_486 h.1.1 h.1.2 h.2.1 ?_
    replace h := h.2.2 _ rfl
    exact J_retv dX2_heap_131 rfl h
  · replace h := h.2 c
    refine J_aload_n dX2_heap_55 rfl rfl ?_
    refine J_getR dX2_heap_56 ck_2 fw_X2_27 rfl sh_482 rr_482_6 ?_
    refine J_iload_n dX2_heap_59 rfl rfl ?_
    refine J_dup2 dX2_heap_60 rfl rfl ?_
    refine J_iald dX2_heap_61 sh_487 h.1.1 h.1.2 ?_
    replace h := h.2
    refine J_iconst dX2_heap_62 (ii_c rfl) ?_
    refine J_iaddN dX2_heap_63 h.1 ?_
    replace h := h.2
    refine J_iast dX2_heap_64 sh_487 h.1.1 h.1.2 ?_
    replace h := h.2 _ rfl
    refine J_aload_n dX2_heap_65 rfl rfl ?_
    refine J_getR dX2_heap_66 ck_2 fw_X2_13 rfl sh_482 rr_482_2 ?_
    refine J_iload dX2_heap_69 rfl ?_
    refine J_iload_n dX2_heap_71 rfl rfl ?_
    refine J_iast dX2_heap_72 sh_483 h.1.1 h.1.2 ?_
    replace h := h.2 _ rfl
    refine J_aload_n dX2_heap_73 rfl rfl ?_
    refine J_getR dX2_heap_74 ck_2 fw_X2_17 rfl sh_482 rr_482_3 ?_
    refine J_iload dX2_heap_77 rfl ?_
    refine J_iconst dX2_heap_79 (ii_c rfl) ?_
    refine J_iast dX2_heap_80 sh_484 h.1.1 h.1.2 ?_
    replace h := h.2 _ rfl
    refine J_aload_n dX2_heap_81 rfl rfl ?_
    refine J_getR dX2_heap_82 ck_2 fw_X2_20 rfl sh_482 rr_482_4 ?_
    refine J_iload dX2_heap_85 rfl ?_
    refine J_iload_n dX2_heap_87 rfl rfl ?_
    refine J_iast dX2_heap_88 sh_485 h.1.1 h.1.2 ?_
    replace h := h.2 _ rfl
    refine J_aload_n dX2_heap_89 rfl rfl ?_
    refine J_getR dX2_heap_90 ck_2 fw_X2_23 rfl sh_482 rr_482_5 ?_
    refine J_iload dX2_heap_93 rfl ?_
    refine J_iconst dX2_heap_95 (ii_c rfl) ?_
    refine J_zast dX2_heap_96 sh_486 h.1.1 h.1.2 h.2.1 ?_
    replace h := h.2.2 _ rfl
    refine J_aload_n dX2_heap_97 rfl rfl ?_
    refine J_getR dX2_heap_98 ck_2 fw_X2_17 rfl sh_482 rr_482_3 ?_
    refine J_iload dX2_heap_101 rfl ?_
    refine J_dup2 dX2_heap_103 rfl rfl ?_
    refine J_iald dX2_heap_104 sh_484 h.1.1 h.1.2 ?_
    replace h := h.2
    refine J_iconst dX2_heap_105 (ii_c rfl) ?_
    refine J_iaddN dX2_heap_106 h.1 ?_
    replace h := h.2
    refine J_iast dX2_heap_107 sh_484 h.1.1 h.1.2 ?_
    replace h := h.2 _ rfl
    refine J_aload_n dX2_heap_108 rfl rfl ?_
    refine J_getR dX2_heap_109 ck_2 fw_X2_20 rfl sh_482 rr_482_4 ?_
    refine J_iload dX2_heap_112 rfl ?_
    refine J_dup2 dX2_heap_114 rfl rfl ?_
    refine J_iald dX2_heap_115 sh_485 h.1.1 h.1.2 ?_
    replace h := h.2
    refine J_iload_n dX2_heap_116 rfl rfl ?_
    refine J_iand dX2_heap_117 ?_
    refine J_iast dX2_heap_118 sh_485 h.1.1 h.1.2 ?_
    replace h := h.2 _ rfl
    refine J_aload_n dX2_heap_119 rfl rfl ?_
    refine J_getR dX2_heap_120 ck_2 fw_X2_23 rfl sh_482 rr_482_5 ?_
    refine J_iload dX2_heap_123 rfl ?_
    refine J_dup2 dX2_heap_125 rfl rfl ?_
    refine J_zald dX2_heap_126 sh_486 h.1.1 h.1.2 ?_
    replace h := h.2
    refine J_iload dX2_heap_127 rfl ?_
    refine J_ior dX2_heap_129 ?_
    refine J_zast dX2_heap_130 sh_486 h.1.1 h.1.2 h.2.1 ?_
    replace h := h.2.2 _ rfl
    exact J_retv dX2_heap_131 rfl h
set_option maxRecDepth 20000 in
set_option maxHeartbeats 2000000 in
theorem bk_X2_count_0 {d : Nat} {I : HI} {Q : Option AV → AH → Prop} {a1 : Int}  (h : (∀ I1 : HI, I1 = up I 482 7 0 → (∀ I2 : HI, I2 = up I1 482 8 65535 → (∀ I3 : HI, I3 = up I2 482 9 0 → J none mX2_count (d + 1) 0 0 18 [(0, vR 482), (1, vI a1), (2, vI 0)] [] (mk I3) Q)))) : J none mX2_count (d + 1) 0 0 0 [(0, vR 482), (1, vI a1)] [] (mk I) Q := by
  refine J_aload_n dX2_count_0 rfl rfl ?_
  refine J_iconst dX2_count_1 (ii_c rfl) ?_
  refine J_putI dX2_count_2 ck_2 fw_X2_75 rfl rfl (Or.inl rfl) sh_482 ?_
  replace h := h _ rfl
  refine J_aload_n dX2_count_5 rfl rfl ?_
  refine J_ldc 65535 dX2_count_6 kw_X2_78 (ii_c rfl) ?_
  refine J_putI dX2_count_8 ck_2 fw_X2_79 rfl rfl (Or.inl rfl) sh_482 ?_
  replace h := h _ rfl
  refine J_aload_n dX2_count_11 rfl rfl ?_
  refine J_iconst dX2_count_12 (ii_c rfl) ?_
  refine J_putI dX2_count_13 ck_2 fw_X2_82 rfl rfl (Or.inl rfl) sh_482 ?_
  replace h := h _ rfl
  refine J_iconst dX2_count_16 (ii_c rfl) ?_
  refine J_istore_n dX2_count_17 rfl (by decide) ?_
  exact h
set_option maxRecDepth 20000 in
set_option maxHeartbeats 2000000 in
theorem bk_X2_count_18 {d : Nat} {I : HI} {Q : Option AV → AH → Prop} {a1 : Int} {a2 : Int}  (h : (((I 487 0) ≤ a2 → Q none (mk I)) ∧ (¬ ((I 487 0) ≤ a2) → J none mX2_count (d + 1) 0 0 31 [(0, vR 482), (1, vI a1), (2, vI a2), (3, vI 61)] [] (mk I) Q))) : J none mX2_count (d + 1) 0 0 18 [(0, vR 482), (1, vI a1), (2, vI a2)] [] (mk I) Q := by
  refine J_iload_n dX2_count_18 rfl rfl ?_
  refine J_aload_n dX2_count_19 rfl rfl ?_
  refine J_getR dX2_count_20 ck_2 fw_X2_27 rfl sh_482 rr_482_6 ?_
  refine J_iconst dX2_count_23 (ii_c rfl) ?_
  refine J_iald dX2_count_24 sh_487 (by decide) (by decide) ?_
  refine J_ic_ge (tgt := 223) dX2_count_25 (by decide) (fun c => ?_) (fun c => ?_)
  · replace h := h.1 c
    exact J_retv dX2_count_223 rfl h
  · replace h := h.2 c
    refine J_bipush dX2_count_28 (ii_c rfl) (by decide) ?_
    refine J_istore_n dX2_count_30 rfl (by decide) ?_
    exact h
set_option maxRecDepth 20000 in
set_option maxHeartbeats 2000000 in
theorem bk_X2_count_31 {d : Nat} {I : HI} {Q : Option AV → AH → Prop} {a1 : Int} {a2 : Int} {a3 : Int}  (h : (-2147483648 ≤ 61 + (I 487 1) ∧ 61 + (I 487 1) ≤ 2147483647) ∧ (((61 + (I 487 1)) ≤ a3 → (-2147483648 ≤ a2 + 1 ∧ a2 + 1 ≤ 2147483647) ∧ J none mX2_count (d + 1) 0 0 18 [(0, vR 482), (1, vI a1), (2, vI (a2 + 1))] [] (mk I) Q) ∧ (¬ ((61 + (I 487 1)) ≤ a3) → ((0 : Int) ≤ a2 ∧ (a2 : Int) < 183) ∧ ((0 : Int) ≤ a3 ∧ (a3 : Int) < 183) ∧ J none mX2_count (d + 1) 0 0 63 [(0, vR 482), (1, vI a1), (2, vI a2), (3, vI a3), (4, vI (oO (I 483 a2.toNat) (I 483 a3.toNat))), (5, vI 122)] [] (mk I) Q))) : J none mX2_count (d + 1) 0 0 31 [(0, vR 482), (1, vI a1), (2, vI a2), (3, vI a3)] [] (mk I) Q := by
  refine J_iload_n dX2_count_31 rfl rfl ?_
  refine J_bipush dX2_count_32 (ii_c rfl) (by decide) ?_
  refine J_aload_n dX2_count_34 rfl rfl ?_
  refine J_getR dX2_count_35 ck_2 fw_X2_27 rfl sh_482 rr_482_6 ?_
  refine J_iconst dX2_count_38 (ii_c rfl) ?_
  refine J_iald dX2_count_39 sh_487 (by decide) (by decide) ?_
  refine J_iaddN dX2_count_40 h.1 ?_
  replace h := h.2
  refine J_ic_ge (tgt := 217) dX2_count_41 (by decide) (fun c => ?_) (fun c => ?_)
  · replace h := h.1 c
    refine J_iincN dX2_count_217 rfl (by decide) h.1 ?_
    replace h := h.2
    refine J_goto (tgt := 18) dX2_count_220 (by decide) ?_
    exact J_loc (ls_sub [0, 1, 2] rfl) h
  · replace h := h.2 c
    refine J_aload_n dX2_count_44 rfl rfl ?_
    refine J_getR dX2_count_45 ck_2 fw_X2_13 rfl sh_482 rr_482_2 ?_
    refine J_iload_n dX2_count_48 rfl rfl ?_
    refine J_iald dX2_count_49 sh_483 h.1.1 h.1.2 ?_
    replace h := h.2
    refine J_aload_n dX2_count_50 rfl rfl ?_
    refine J_getR dX2_count_51 ck_2 fw_X2_13 rfl sh_482 rr_482_2 ?_
    refine J_iload_n dX2_count_54 rfl rfl ?_
    refine J_iald dX2_count_55 sh_483 h.1.1 h.1.2 ?_
    replace h := h.2
    refine J_ior dX2_count_56 ?_
    refine J_istore dX2_count_57 (by decide) ?_
    refine J_bipush dX2_count_59 (ii_c rfl) (by decide) ?_
    refine J_istore dX2_count_61 (by decide) ?_
    exact h
set_option maxRecDepth 20000 in
set_option maxHeartbeats 2000000 in
theorem bk_X2_count_63 {d : Nat} {I : HI} {Q : Option AV → AH → Prop} {a1 : Int} {a2 : Int} {a3 : Int} {a4 : Int} {a5 : Int}  (h : (-2147483648 ≤ 122 + (I 487 2) ∧ 122 + (I 487 2) ≤ 2147483647) ∧ (((122 + (I 487 2)) ≤ a5 → (-2147483648 ≤ a3 + 1 ∧ a3 + 1 ≤ 2147483647) ∧ J none mX2_count (d + 1) 0 0 31 [(0, vR 482), (1, vI a1), (2, vI a2), (3, vI (a3 + 1))] [] (mk I) Q) ∧ (¬ ((122 + (I 487 2)) ≤ a5) → ((0 : Int) ≤ a5 ∧ (a5 : Int) < 183) ∧ (((oO a4 (I 483 a5.toNat)) ≠ a1 → (-2147483648 ≤ a5 + 1 ∧ a5 + 1 ≤ 2147483647) ∧ J none mX2_count (d + 1) 0 0 63 [(0, vR 482), (1, vI a1), (2, vI a2), (3, vI a3), (4, vI a4), (5, vI (a5 + 1))] [] (mk I) Q) ∧ ((oO a4 (I 483 a5.toNat)) = a1 → ((0 : Int) ≤ a2 ∧ (a2 : Int) < 183) ∧ ((0 : Int) ≤ a3 ∧ (a3 : Int) < 183) ∧ (-2147483648 ≤ (I 484 a2.toNat) * (I 484 a3.toNat) ∧ (I 484 a2.toNat) * (I 484 a3.toNat) ≤ 2147483647) ∧ ((0 : Int) ≤ a5 ∧ (a5 : Int) < 183) ∧ (-2147483648 ≤ ((I 484 a2.toNat) * (I 484 a3.toNat)) * (I 484 a5.toNat) ∧ ((I 484 a2.toNat) * (I 484 a3.toNat)) * (I 484 a5.toNat) ≤ 2147483647) ∧ (-2147483648 ≤ (I 482 7) + (((I 484 a2.toNat) * (I 484 a3.toNat)) * (I 484 a5.toNat)) ∧ (I 482 7) + (((I 484 a2.toNat) * (I 484 a3.toNat)) * (I 484 a5.toNat)) ≤ 2147483647) ∧ (∀ I1 : HI, I1 = up I 482 7 ((I 482 7) + (((I 484 a2.toNat) * (I 484 a3.toNat)) * (I 484 a5.toNat))) → ((0 : Int) ≤ a2 ∧ (a2 : Int) < 183) ∧ ((0 : Int) ≤ a3 ∧ (a3 : Int) < 183) ∧ ((0 : Int) ≤ a5 ∧ (a5 : Int) < 183) ∧ (∀ I2 : HI, I2 = up I1 482 8 (oA (I1 482 8) (oO (oO (I1 485 a2.toNat) (I1 485 a3.toNat)) (I1 485 a5.toNat))) → ((0 : Int) ≤ a2 ∧ (a2 : Int) < 183) ∧ (((I2 486 a2.toNat) = 0 → ((0 : Int) ≤ a3 ∧ (a3 : Int) < 183) ∧ (((I2 486 a3.toNat) = 0 → ((0 : Int) ≤ a5 ∧ (a5 : Int) < 183) ∧ (((I2 486 a5.toNat) = 0 → (∀ I3 : HI, I3 = up I2 482 9 (oO (I2 482 9) (oO (oO 0 0) 0)) → (-2147483648 ≤ a5 + 1 ∧ a5 + 1 ≤ 2147483647) ∧ J none mX2_count (d + 1) 0 0 63 [(0, vR 482), (1, vI a1), (2, vI a2), (3, vI a3), (4, vI a4), (5, vI (a5 + 1))] [] (mk I3) Q)) ∧ (¬ ((I2 486 a5.toNat) = 0) → (∀ I4 : HI, I4 = up I2 482 9 (oO (I2 482 9) (oO (oO 0 0) 4)) → (-2147483648 ≤ a5 + 1 ∧ a5 + 1 ≤ 2147483647) ∧ J none mX2_count (d + 1) 0 0 63 [(0, vR 482), (1, vI a1), (2, vI a2), (3, vI a3), (4, vI a4), (5, vI (a5 + 1))] [] (mk I4) Q)))) ∧ (¬ ((I2 486 a3.toNat) = 0) → ((0 : Int) ≤ a5 ∧ (a5 : Int) < 183) ∧ (((I2 486 a5.toNat) = 0 → (∀ I5 : HI, I5 = up I2 482 9 (oO (I2 482 9) (oO (oO 0 2) 0)) → (-2147483648 ≤ a5 + 1 ∧ a5 + 1 ≤ 2147483647) ∧ J none mX2_count (d + 1) 0 0 63 [(0, vR 482), (1, vI a1), (2, vI a2), (3, vI a3), (4, vI a4), (5, vI (a5 + 1))] [] (mk I5) Q)) ∧ (¬ ((I2 486 a5.toNat) = 0) → (∀ I6 : HI, I6 = up I2 482 9 (oO (I2 482 9) (oO (oO 0 2) 4)) → (-2147483648 ≤ a5 + 1 ∧ a5 + 1 ≤ 2147483647) ∧ J none mX2_count (d + 1) 0 0 63 [(0, vR 482), (1, vI a1), (2, vI a2), (3, vI a3), (4, vI a4), (5, vI (a5 + 1))] [] (mk I6) Q)))))) ∧ (¬ ((I2 486 a2.toNat) = 0) → ((0 : Int) ≤ a3 ∧ (a3 : Int) < 183) ∧ (((I2 486 a3.toNat) = 0 → ((0 : Int) ≤ a5 ∧ (a5 : Int) < 183) ∧ (((I2 486 a5.toNat) = 0 → (∀ I7 : HI, I7 = up I2 482 9 (oO (I2 482 9) (oO (oO 1 0) 0)) → (-2147483648 ≤ a5 + 1 ∧ a5 + 1 ≤ 2147483647) ∧ J none mX2_count (d + 1) 0 0 63 [(0, vR 482), (1, vI a1), (2, vI a2), (3, vI a3), (4, vI a4), (5, vI (a5 + 1))] [] (mk I7) Q)) ∧ (¬ ((I2 486 a5.toNat) = 0) → (∀ I8 : HI, I8 = up I2 482 9 (oO (I2 482 9) (oO (oO 1 0) 4)) → (-2147483648 ≤ a5 + 1 ∧ a5 + 1 ≤ 2147483647) ∧ J none mX2_count (d + 1) 0 0 63 [(0, vR 482), (1, vI a1), (2, vI a2), (3, vI a3), (4, vI a4), (5, vI (a5 + 1))] [] (mk I8) Q)))) ∧ (¬ ((I2 486 a3.toNat) = 0) → ((0 : Int) ≤ a5 ∧ (a5 : Int) < 183) ∧ (((I2 486 a5.toNat) = 0 → (∀ I9 : HI, I9 = up I2 482 9 (oO (I2 482 9) (oO (oO 1 2) 0)) → (-2147483648 ≤ a5 + 1 ∧ a5 + 1 ≤ 2147483647) ∧ J none mX2_count (d + 1) 0 0 63 [(0, vR 482), (1, vI a1), (2, vI a2), (3, vI a3), (4, vI a4), (5, vI (a5 + 1))] [] (mk I9) Q)) ∧ (¬ ((I2 486 a5.toNat) = 0) → (∀ I10 : HI, I10 = up I2 482 9 (oO (I2 482 9) (oO (oO 1 2) 4)) → (-2147483648 ≤ a5 + 1 ∧ a5 + 1 ≤ 2147483647) ∧ J none mX2_count (d + 1) 0 0 63 [(0, vR 482), (1, vI a1), (2, vI a2), (3, vI a3), (4, vI a4), (5, vI (a5 + 1))] [] (mk I10) Q)))))))))))))) : J none mX2_count (d + 1) 0 0 63 [(0, vR 482), (1, vI a1), (2, vI a2), (3, vI a3), (4, vI a4), (5, vI a5)] [] (mk I) Q := by
  refine J_iload dX2_count_63 rfl ?_
  refine J_bipush dX2_count_65 (ii_c rfl) (by decide) ?_
  refine J_aload_n dX2_count_67 rfl rfl ?_
  refine J_getR dX2_count_68 ck_2 fw_X2_27 rfl sh_482 rr_482_6 ?_
  refine J_iconst dX2_count_71 (ii_c rfl) ?_
  refine J_iald dX2_count_72 sh_487 (by decide) (by decide) ?_
  refine J_iaddN dX2_count_73 h.1 ?_
  replace h := h.2
  refine J_ic_ge (tgt := 211) dX2_count_74 (by decide) (fun c => ?_) (fun c => ?_)
  · replace h := h.1 c
    refine J_iincN dX2_count_211 rfl (by decide) h.1 ?_
    replace h := h.2
    refine J_goto (tgt := 31) dX2_count_214 (by decide) ?_
    exact J_loc (ls_sub [0, 1, 2, 3] rfl) h
  · replace h := h.2 c
    refine J_iload dX2_count_77 rfl ?_
    refine J_aload_n dX2_count_79 rfl rfl ?_
    refine J_getR dX2_count_80 ck_2 fw_X2_13 rfl sh_482 rr_482_2 ?_
    refine J_iload dX2_count_83 rfl ?_
    refine J_iald dX2_count_85 sh_483 h.1.1 h.1.2 ?_
    replace h := h.2
    refine J_ior dX2_count_86 ?_
    refine J_iload_n dX2_count_87 rfl rfl ?_
    refine J_ic_ne (tgt := 205) dX2_count_88 (by decide) (fun c => ?_) (fun c => ?_)
    · replace h := h.1 c
      refine J_iincN dX2_count_205 rfl (by decide) h.1 ?_
      replace h := h.2
      refine J_goto (tgt := 63) dX2_count_208 (by decide) ?_
      exact h
    · replace h := h.2 c
      refine J_aload_n dX2_count_91 rfl rfl ?_
      refine J_dup dX2_count_92 rfl ?_
      refine J_getI dX2_count_93 ck_2 fw_X2_75 rfl sh_482 ?_
      refine J_aload_n dX2_count_96 rfl rfl ?_
      refine J_getR dX2_count_97 ck_2 fw_X2_17 rfl sh_482 rr_482_3 ?_
      refine J_iload_n dX2_count_100 rfl rfl ?_
      refine J_iald dX2_count_101 sh_484 h.1.1 h.1.2 ?_
      replace h := h.2
      refine J_aload_n dX2_count_102 rfl rfl ?_
      refine J_getR dX2_count_103 ck_2 fw_X2_17 rfl sh_482 rr_482_3 ?_
      refine J_iload_n dX2_count_106 rfl rfl ?_
      refine J_iald dX2_count_107 sh_484 h.1.1 h.1.2 ?_
      replace h := h.2
      refine J_imulN dX2_count_108 h.1 ?_
      replace h := h.2
      refine J_aload_n dX2_count_109 rfl rfl ?_
      refine J_getR dX2_count_110 ck_2 fw_X2_17 rfl sh_482 rr_482_3 ?_
      refine J_iload dX2_count_113 rfl ?_
      refine J_iald dX2_count_115 sh_484 h.1.1 h.1.2 ?_
      replace h := h.2
      refine J_imulN dX2_count_116 h.1 ?_
      replace h := h.2
      refine J_iaddN dX2_count_117 h.1 ?_
      replace h := h.2
      refine J_putI dX2_count_118 ck_2 fw_X2_75 rfl rfl (Or.inl rfl) sh_482 ?_
      replace h := h _ rfl
      refine J_aload_n dX2_count_121 rfl rfl ?_
      refine J_dup dX2_count_122 rfl ?_
      refine J_getI dX2_count_123 ck_2 fw_X2_79 rfl sh_482 ?_
      refine J_aload_n dX2_count_126 rfl rfl ?_
      refine J_getR dX2_count_127 ck_2 fw_X2_20 rfl sh_482 rr_482_4 ?_
      refine J_iload_n dX2_count_130 rfl rfl ?_
      refine J_iald dX2_count_131 sh_485 h.1.1 h.1.2 ?_
      replace h := h.2
      refine J_aload_n dX2_count_132 rfl rfl ?_
      refine J_getR dX2_count_133 ck_2 fw_X2_20 rfl sh_482 rr_482_4 ?_
      refine J_iload_n dX2_count_136 rfl rfl ?_
      refine J_iald dX2_count_137 sh_485 h.1.1 h.1.2 ?_
      replace h := h.2
      refine J_ior dX2_count_138 ?_
      refine J_aload_n dX2_count_139 rfl rfl ?_
      refine J_getR dX2_count_140 ck_2 fw_X2_20 rfl sh_482 rr_482_4 ?_
      refine J_iload dX2_count_143 rfl ?_
      refine J_iald dX2_count_145 sh_485 h.1.1 h.1.2 ?_
      replace h := h.2
      refine J_ior dX2_count_146 ?_
      refine J_iand dX2_count_147 ?_
      refine J_putI dX2_count_148 ck_2 fw_X2_79 rfl rfl (Or.inl rfl) sh_482 ?_
      replace h := h _ rfl
      refine J_aload_n dX2_count_151 rfl rfl ?_
      refine J_dup dX2_count_152 rfl ?_
      refine J_getI dX2_count_153 ck_2 fw_X2_82 rfl sh_482 ?_
      refine J_aload_n dX2_count_156 rfl rfl ?_
      refine J_getR dX2_count_157 ck_2 fw_X2_23 rfl sh_482 rr_482_5 ?_
      refine J_iload_n dX2_count_160 rfl rfl ?_
      refine J_zald dX2_count_161 sh_486 h.1.1 h.1.2 ?_
      replace h := h.2
      refine J_if_eq (tgt := 169) dX2_count_162 (by decide) (fun c => ?_) (fun c => ?_)
      · replace h := h.1 c
        refine J_iconst dX2_count_169 (ii_c rfl) ?_
        refine J_aload_n dX2_count_170 rfl rfl ?_
        refine J_getR dX2_count_171 ck_2 fw_X2_23 rfl sh_482 rr_482_5 ?_
        refine J_iload_n dX2_count_174 rfl rfl ?_
        refine J_zald dX2_count_175 sh_486 h.1.1 h.1.2 ?_
        replace h := h.2
        refine J_if_eq (tgt := 183) dX2_count_176 (by decide) (fun c => ?_) (fun c => ?_)
        · replace h := h.1 c
          refine J_iconst dX2_count_183 (ii_c rfl) ?_
          refine J_ior dX2_count_184 ?_
          refine J_aload_n dX2_count_185 rfl rfl ?_
          refine J_getR dX2_count_186 ck_2 fw_X2_23 rfl sh_482 rr_482_5 ?_
          refine J_iload dX2_count_189 rfl ?_
          refine J_zald dX2_count_191 sh_486 h.1.1 h.1.2 ?_
          replace h := h.2
          refine J_if_eq (tgt := 199) dX2_count_192 (by decide) (fun c => ?_) (fun c => ?_)
          · replace h := h.1 c
            refine J_iconst dX2_count_199 (ii_c rfl) ?_
            refine J_ior dX2_count_200 ?_
            refine J_ior dX2_count_201 ?_
            refine J_putI dX2_count_202 ck_2 fw_X2_82 rfl rfl (Or.inl rfl) sh_482 ?_
            replace h := h _ rfl
            refine J_iincN dX2_count_205 rfl (by decide) h.1 ?_
            replace h := h.2
            refine J_goto (tgt := 63) dX2_count_208 (by decide) ?_
            exact h
          · replace h := h.2 c
            refine J_iconst dX2_count_195 (ii_c rfl) ?_
            refine J_goto (tgt := 200) dX2_count_196 (by decide) ?_
            refine J_ior dX2_count_200 ?_
            refine J_ior dX2_count_201 ?_
            refine J_putI dX2_count_202 ck_2 fw_X2_82 rfl rfl (Or.inl rfl) sh_482 ?_
            replace h := h _ rfl
            refine J_iincN dX2_count_205 rfl (by decide) h.1 ?_
            replace h := h.2
            refine J_goto (tgt := 63) dX2_count_208 (by decide) ?_
            exact h
        · replace h := h.2 c
          refine J_iconst dX2_count_179 (ii_c rfl) ?_
          refine J_goto (tgt := 184) dX2_count_180 (by decide) ?_
          refine J_ior dX2_count_184 ?_
          refine J_aload_n dX2_count_185 rfl rfl ?_
          refine J_getR dX2_count_186 ck_2 fw_X2_23 rfl sh_482 rr_482_5 ?_
          refine J_iload dX2_count_189 rfl ?_
          refine J_zald dX2_count_191 sh_486 h.1.1 h.1.2 ?_
          replace h := h.2
          refine J_if_eq (tgt := 199) dX2_count_192 (by decide) (fun c => ?_) (fun c => ?_)
          · replace h := h.1 c
            refine J_iconst dX2_count_199 (ii_c rfl) ?_
            refine J_ior dX2_count_200 ?_
            refine J_ior dX2_count_201 ?_
            refine J_putI dX2_count_202 ck_2 fw_X2_82 rfl rfl (Or.inl rfl) sh_482 ?_
            replace h := h _ rfl
            refine J_iincN dX2_count_205 rfl (by decide) h.1 ?_
            replace h := h.2
            refine J_goto (tgt := 63) dX2_count_208 (by decide) ?_
            exact h
          · replace h := h.2 c
            refine J_iconst dX2_count_195 (ii_c rfl) ?_
            refine J_goto (tgt := 200) dX2_count_196 (by decide) ?_
            refine J_ior dX2_count_200 ?_
            refine J_ior dX2_count_201 ?_
            refine J_putI dX2_count_202 ck_2 fw_X2_82 rfl rfl (Or.inl rfl) sh_482 ?_
            replace h := h _ rfl
            refine J_iincN dX2_count_205 rfl (by decide) h.1 ?_
            replace h := h.2
            refine J_goto (tgt := 63) dX2_count_208 (by decide) ?_
            exact h
      · replace h := h.2 c
        refine J_iconst dX2_count_165 (ii_c rfl) ?_
        refine J_goto (tgt := 170) dX2_count_166 (by decide) ?_
        refine J_aload_n dX2_count_170 rfl rfl ?_
        refine J_getR dX2_count_171 ck_2 fw_X2_23 rfl sh_482 rr_482_5 ?_
        refine J_iload_n dX2_count_174 rfl rfl ?_
        refine J_zald dX2_count_175 sh_486 h.1.1 h.1.2 ?_
        replace h := h.2
        refine J_if_eq (tgt := 183) dX2_count_176 (by decide) (fun c => ?_) (fun c => ?_)
        · replace h := h.1 c
          refine J_iconst dX2_count_183 (ii_c rfl) ?_
          refine J_ior dX2_count_184 ?_
          refine J_aload_n dX2_count_185 rfl rfl ?_
          refine J_getR dX2_count_186 ck_2 fw_X2_23 rfl sh_482 rr_482_5 ?_
          refine J_iload dX2_count_189 rfl ?_
          refine J_zald dX2_count_191 sh_486 h.1.1 h.1.2 ?_
          replace h := h.2
          refine J_if_eq (tgt := 199) dX2_count_192 (by decide) (fun c => ?_) (fun c => ?_)
          · replace h := h.1 c
            refine J_iconst dX2_count_199 (ii_c rfl) ?_
            refine J_ior dX2_count_200 ?_
            refine J_ior dX2_count_201 ?_
            refine J_putI dX2_count_202 ck_2 fw_X2_82 rfl rfl (Or.inl rfl) sh_482 ?_
            replace h := h _ rfl
            refine J_iincN dX2_count_205 rfl (by decide) h.1 ?_
            replace h := h.2
            refine J_goto (tgt := 63) dX2_count_208 (by decide) ?_
            exact h
          · replace h := h.2 c
            refine J_iconst dX2_count_195 (ii_c rfl) ?_
            refine J_goto (tgt := 200) dX2_count_196 (by decide) ?_
            refine J_ior dX2_count_200 ?_
            refine J_ior dX2_count_201 ?_
            refine J_putI dX2_count_202 ck_2 fw_X2_82 rfl rfl (Or.inl rfl) sh_482 ?_
            replace h := h _ rfl
            refine J_iincN dX2_count_205 rfl (by decide) h.1 ?_
            replace h := h.2
            refine J_goto (tgt := 63) dX2_count_208 (by decide) ?_
            exact h
        · replace h := h.2 c
          refine J_iconst dX2_count_179 (ii_c rfl) ?_
          refine J_goto (tgt := 184) dX2_count_180 (by decide) ?_
          refine J_ior dX2_count_184 ?_
          refine J_aload_n dX2_count_185 rfl rfl ?_
          refine J_getR dX2_count_186 ck_2 fw_X2_23 rfl sh_482 rr_482_5 ?_
          refine J_iload dX2_count_189 rfl ?_
          refine J_zald dX2_count_191 sh_486 h.1.1 h.1.2 ?_
          replace h := h.2
          refine J_if_eq (tgt := 199) dX2_count_192 (by decide) (fun c => ?_) (fun c => ?_)
          · replace h := h.1 c
            refine J_iconst dX2_count_199 (ii_c rfl) ?_
            refine J_ior dX2_count_200 ?_
            refine J_ior dX2_count_201 ?_
            refine J_putI dX2_count_202 ck_2 fw_X2_82 rfl rfl (Or.inl rfl) sh_482 ?_
            replace h := h _ rfl
            refine J_iincN dX2_count_205 rfl (by decide) h.1 ?_
            replace h := h.2
            refine J_goto (tgt := 63) dX2_count_208 (by decide) ?_
            exact h
          · replace h := h.2 c
            refine J_iconst dX2_count_195 (ii_c rfl) ?_
            refine J_goto (tgt := 200) dX2_count_196 (by decide) ?_
            refine J_ior dX2_count_200 ?_
            refine J_ior dX2_count_201 ?_
            refine J_putI dX2_count_202 ck_2 fw_X2_82 rfl rfl (Or.inl rfl) sh_482 ?_
            replace h := h _ rfl
            refine J_iincN dX2_count_205 rfl (by decide) h.1 ?_
            replace h := h.2
            refine J_goto (tgt := 63) dX2_count_208 (by decide) ?_
            exact h
set_option maxRecDepth 20000 in
set_option maxHeartbeats 2000000 in
theorem bk_X10_feed_0 {d : Nat} {I : HI} {Q : Option AV → AH → Prop} {a1 : Int} {a2 : Int} {a3 : Int} {a4 : Int} {a5 : Int}  (h : (-2147483648 ≤ (I 0 12) + 20 ∧ (I 0 12) + 20 ≤ 2147483647) ∧ ((((I 0 12) + 20) ≤ 1600 → CV mX10_tapeNumber d [vR 0, vI a1] I (fun I1 => CV mX10_tapeNumber d [vR 0, vI a2] I1 (fun I2 => CV mX10_tapeNumber d [vR 0, vI a3] I2 (fun I3 => CV mX10_tapeNumber d [vR 0, vI a4] I3 (fun I4 => CV mX10_tapeNumber d [vR 0, vI a5] I4 (fun I5 => Q (some (vI (I5 0 12))) (mk I5))))))) ∧ (¬ (((I 0 12) + 20) ≤ 1600) → Q (some (vI (-1))) (mk I)))) : J none mX10_feed (d + 1) 0 0 0 [(0, vR 0), (1, vI a1), (2, vI a2), (3, vI a3), (4, vI a4), (5, vI a5)] [] (mk I) Q := by
  refine J_aload_n dX10_feed_0 rfl rfl ?_
  refine J_getI dX10_feed_1 ck_10 fw_X10_102 rfl sh_0 ?_
  refine J_bipush dX10_feed_4 (ii_c rfl) (by decide) ?_
  refine J_iaddN dX10_feed_6 h.1 ?_
  replace h := h.2
  refine J_sipush dX10_feed_7 (ii_c rfl) (by decide) ?_
  refine J_ic_le (tgt := 15) dX10_feed_10 (by decide) (fun c => ?_) (fun c => ?_)
  · replace h := h.1 c
    refine J_aload_n dX10_feed_15 rfl rfl ?_
    refine J_iload_n dX10_feed_16 rfl rfl ?_
    refine J_callV (as := [_]) (mc1 := 0) (ms1 := 0) (mc := 0) (ms := 0) dX10_feed_17 mv_X10_tapeNumber lk_X10_105 sh_0 rfl (Nat.le_of_ble_eq_true rfl) (Nat.le_of_ble_eq_true rfl) h (fun r σ hq _ => ?_)
    obtain ⟨I1, rfl, rfl, h⟩ := hq
    change J _ _ _ _ _ _ _ [] _ _
    refine J_aload_n dX10_feed_20 rfl rfl ?_
    refine J_iload_n dX10_feed_21 rfl rfl ?_
    refine J_callV (as := [_]) (mc1 := 0) (ms1 := 0) (mc := 0) (ms := 0) dX10_feed_22 mv_X10_tapeNumber lk_X10_105 sh_0 rfl (Nat.le_of_ble_eq_true rfl) (Nat.le_of_ble_eq_true rfl) h (fun r σ hq _ => ?_)
    obtain ⟨I2, rfl, rfl, h⟩ := hq
    change J _ _ _ _ _ _ _ [] _ _
    refine J_aload_n dX10_feed_25 rfl rfl ?_
    refine J_iload_n dX10_feed_26 rfl rfl ?_
    refine J_callV (as := [_]) (mc1 := 0) (ms1 := 0) (mc := 0) (ms := 0) dX10_feed_27 mv_X10_tapeNumber lk_X10_105 sh_0 rfl (Nat.le_of_ble_eq_true rfl) (Nat.le_of_ble_eq_true rfl) h (fun r σ hq _ => ?_)
    obtain ⟨I3, rfl, rfl, h⟩ := hq
    change J _ _ _ _ _ _ _ [] _ _
    refine J_aload_n dX10_feed_30 rfl rfl ?_
    refine J_iload dX10_feed_31 rfl ?_
    refine J_callV (as := [_]) (mc1 := 0) (ms1 := 0) (mc := 0) (ms := 0) dX10_feed_33 mv_X10_tapeNumber lk_X10_105 sh_0 rfl (Nat.le_of_ble_eq_true rfl) (Nat.le_of_ble_eq_true rfl) h (fun r σ hq _ => ?_)
    obtain ⟨I4, rfl, rfl, h⟩ := hq
    change J _ _ _ _ _ _ _ [] _ _
    refine J_aload_n dX10_feed_36 rfl rfl ?_
    refine J_iload dX10_feed_37 rfl ?_
    refine J_callV (as := [_]) (mc1 := 0) (ms1 := 0) (mc := 0) (ms := 0) dX10_feed_39 mv_X10_tapeNumber lk_X10_105 sh_0 rfl (Nat.le_of_ble_eq_true rfl) (Nat.le_of_ble_eq_true rfl) h (fun r σ hq _ => ?_)
    obtain ⟨I5, rfl, rfl, h⟩ := hq
    change J _ _ _ _ _ _ _ [] _ _
    refine J_aload_n dX10_feed_42 rfl rfl ?_
    refine J_getI dX10_feed_43 ck_10 fw_X10_102 rfl sh_0 ?_
    exact J_reti dX10_feed_46 rfl h
  · replace h := h.2 c
    refine J_iconst dX10_feed_13 (ii_c rfl) ?_
    exact J_reti dX10_feed_14 rfl h
set_option maxRecDepth 20000 in
set_option maxHeartbeats 2000000 in
theorem bk_X10_tapeNumber_0 {d : Nat} {I : HI} {Q : Option AV → AH → Prop} {a1 : Int}  (h : J none mX10_tapeNumber (d + 1) 0 0 3 [(0, vR 0), (1, vI a1), (2, vI 24)] [] (mk I) Q) : J none mX10_tapeNumber (d + 1) 0 0 0 [(0, vR 0), (1, vI a1)] [] (mk I) Q := by
  refine J_bipush dX10_tapeNumber_0 (ii_c rfl) (by decide) ?_
  refine J_istore_n dX10_tapeNumber_2 rfl (by decide) ?_
  exact h
set_option maxRecDepth 20000 in
set_option maxHeartbeats 2000000 in
theorem bk_X10_tapeNumber_3 {d : Nat} {I : HI} {Q : Option AV → AH → Prop} {a1 : Int} {a2 : Int}  (h : ((a2 < 0 → Q none (mk I)) ∧ (¬ (a2 < 0) → ((1600 ≤ (I 0 12) → Q none (mk I)) ∧ (¬ (1600 ≤ (I 0 12)) → (-2147483648 ≤ (I 0 12) + 1 ∧ (I 0 12) + 1 ≤ 2147483647) ∧ (∀ I1 : HI, I1 = up I 0 12 ((I 0 12) + 1) → ((0 : Int) ≤ (I 0 12) ∧ (I 0 12 : Int) < 1600) ∧ (∀ I2 : HI, I2 = up I1 27 (I 0 12).toNat (oA (oUr a1 a2) 255) → (-2147483648 ≤ a2 + (-8) ∧ a2 + (-8) ≤ 2147483647) ∧ J none mX10_tapeNumber (d + 1) 0 0 3 [(0, vR 0), (1, vI a1), (2, vI (a2 + (-8)))] [] (mk I2) Q))))))) : J none mX10_tapeNumber (d + 1) 0 0 3 [(0, vR 0), (1, vI a1), (2, vI a2)] [] (mk I) Q := by
  refine J_iload_n dX10_tapeNumber_3 rfl rfl ?_
  refine J_if_lt (tgt := 46) dX10_tapeNumber_4 (by decide) (fun c => ?_) (fun c => ?_)
  · replace h := h.1 c
    exact J_retv dX10_tapeNumber_46 rfl h
  · replace h := h.2 c
    refine J_aload_n dX10_tapeNumber_7 rfl rfl ?_
    refine J_getI dX10_tapeNumber_8 ck_10 fw_X10_102 rfl sh_0 ?_
    refine J_sipush dX10_tapeNumber_11 (ii_c rfl) (by decide) ?_
    refine J_ic_ge (tgt := 46) dX10_tapeNumber_14 (by decide) (fun c => ?_) (fun c => ?_)
    · replace h := h.1 c
      exact J_retv dX10_tapeNumber_46 rfl h
    · replace h := h.2 c
      refine J_aload_n dX10_tapeNumber_17 rfl rfl ?_
      refine J_getR dX10_tapeNumber_18 ck_10 fw_X10_19 rfl sh_0 rr_0_2 ?_
      refine J_aload_n dX10_tapeNumber_21 rfl rfl ?_
      refine J_dup dX10_tapeNumber_22 rfl ?_
      refine J_getI dX10_tapeNumber_23 ck_10 fw_X10_102 rfl sh_0 ?_
      refine J_dup_x1 dX10_tapeNumber_26 rfl rfl ?_
      refine J_iconst dX10_tapeNumber_27 (ii_c rfl) ?_
      refine J_iaddN dX10_tapeNumber_28 h.1 ?_
      replace h := h.2
      refine J_putI dX10_tapeNumber_29 ck_10 fw_X10_102 rfl rfl (Or.inl rfl) sh_0 ?_
      replace h := h _ rfl
      refine J_iload_n dX10_tapeNumber_32 rfl rfl ?_
      refine J_iload_n dX10_tapeNumber_33 rfl rfl ?_
      refine J_iushr dX10_tapeNumber_34 ?_
      refine J_sipush dX10_tapeNumber_35 (ii_c rfl) (by decide) ?_
      refine J_iand dX10_tapeNumber_38 ?_
      refine J_iast dX10_tapeNumber_39 sh_27 h.1.1 h.1.2 ?_
      replace h := h.2 _ rfl
      refine J_iincN dX10_tapeNumber_40 rfl (by decide) h.1 ?_
      replace h := h.2
      refine J_goto (tgt := 3) dX10_tapeNumber_43 (by decide) ?_
      exact h
set_option maxRecDepth 20000 in
set_option maxHeartbeats 2000000 in
theorem bk_X10_end_0 {d : Nat} {I : HI} {Q : Option AV → AH → Prop} {a1 : Int}  (h : ((a1 < 0 → Q (some (vI 0)) (mk I)) ∧ (¬ (a1 < 0) → ((a1 ≤ (I 0 12) → (∀ I1 : HI, I1 = up I 0 12 a1 → Q (some (vI 1)) (mk I1))) ∧ (¬ (a1 ≤ (I 0 12)) → Q (some (vI 0)) (mk I)))))) : J none mX10_end (d + 1) 0 0 0 [(0, vR 0), (1, vI a1)] [] (mk I) Q := by
  refine J_iload_n dX10_end_0 rfl rfl ?_
  refine J_if_lt (tgt := 12) dX10_end_1 (by decide) (fun c => ?_) (fun c => ?_)
  · replace h := h.1 c
    refine J_iconst dX10_end_12 (ii_c rfl) ?_
    exact J_retz dX10_end_13 rfl (Or.inl rfl) h
  · replace h := h.2 c
    refine J_iload_n dX10_end_4 rfl rfl ?_
    refine J_aload_n dX10_end_5 rfl rfl ?_
    refine J_getI dX10_end_6 ck_10 fw_X10_102 rfl sh_0 ?_
    refine J_ic_le (tgt := 14) dX10_end_9 (by decide) (fun c => ?_) (fun c => ?_)
    · replace h := h.1 c
      refine J_aload_n dX10_end_14 rfl rfl ?_
      refine J_iload_n dX10_end_15 rfl rfl ?_
      refine J_putI dX10_end_16 ck_10 fw_X10_102 rfl rfl (Or.inl rfl) sh_0 ?_
      replace h := h _ rfl
      refine J_iconst dX10_end_19 (ii_c rfl) ?_
      exact J_retz dX10_end_20 rfl (Or.inr rfl) h
    · replace h := h.2 c
      refine J_iconst dX10_end_12 (ii_c rfl) ?_
      exact J_retz dX10_end_13 rfl (Or.inl rfl) h
