set_option maxRecDepth 20000 in
set_option maxHeartbeats 2000000 in
theorem bk_X2_look_0 {d : Nat} {I : HI} {Q : Option AV → AH → Prop} {a1 : Int} {a2 : Int}  (h : CV mX5_prepare d [vR 69] I (fun I1 => J none mX2_look (d + 1) 0 0 9 [(0, vR 482), (1, vI a1), (2, vI a2), (3, vI 0)] [] (mk I1) Q)) : J none mX2_look (d + 1) 0 0 0 [(0, vR 482), (1, vI a1), (2, vI a2)] [] (mk I) Q := by
  refine J_aload_n dX2_look_0 rfl rfl ?_
  refine J_getR dX2_look_1 ck_2 fw_X2_34 rfl sh_482 rr_482_1 ?_
  refine J_callV (as := []) (mc1 := 0) (ms1 := 0) (mc := 0) (ms := 0) dX2_look_4 mv_X5_prepare lk_X2_38 sh_69 rfl (Nat.le_of_ble_eq_true rfl) (Nat.le_of_ble_eq_true rfl) h (fun r σ hq _ => ?_)
  obtain ⟨I1, rfl, rfl, h⟩ := hq
  change J _ _ _ _ _ _ _ [] _ _
  refine J_iconst dX2_look_7 (ii_c rfl) ?_
  refine J_istore_n dX2_look_8 rfl (by decide) ?_
  change J _ _ _ _ _ _ [(0, _), (1, _), (2, _), (3, _)] _ _ _
  exact h
set_option maxRecDepth 20000 in
set_option maxHeartbeats 2000000 in
theorem bk_X2_look_9 {d : Nat} {I : HI} {Q : Option AV → AH → Prop} {a1 : Int} {a2 : Int} {a3 : Int}  (h : ((3 ≤ a3 → CV mX2_count d [vR 482, vI a1] I (fun I1 => Q none (mk I1))) ∧ (¬ (3 ≤ a3) → ((0 : Int) ≤ a3 ∧ (a3 : Int) < 3) ∧ (∀ I2 : HI, I2 = up I 487 a3.toNat 0 → CV mX2_heap d [vR 482, vI a3, vI 0, vI 0, vI 0] I2 (fun I3 => (((I3 2 2) ≤ a3 → J none mX2_look (d + 1) 0 0 62 [(0, vR 482), (1, vI a1), (2, vI a2), (3, vI a3), (4, vI 0), (5, vI 1)] [] (mk I3) Q) ∧ (¬ ((I3 2 2) ≤ a3) → ((0 : Int) ≤ a3 ∧ (a3 : Int) < 4) ∧ (-2147483648 ≤ 3 * (I3 71 a3.toNat) ∧ 3 * (I3 71 a3.toNat) ≤ 2147483647) ∧ J none mX2_look (d + 1) 0 0 62 [(0, vR 482), (1, vI a1), (2, vI a2), (3, vI a3), (4, vI (3 * (I3 71 a3.toNat))), (5, vI 1)] [] (mk I3) Q))))))) : J none mX2_look (d + 1) 0 0 9 [(0, vR 482), (1, vI a1), (2, vI a2), (3, vI a3)] [] (mk I) Q := by
  refine J_iload_n dX2_look_9 rfl rfl ?_
  refine J_iconst dX2_look_10 (ii_c rfl) ?_
  refine J_ic_ge (tgt := 137) dX2_look_11 (by decide) (fun c => ?_) (fun c => ?_)
  · replace h := h.1 c
    refine J_aload_n dX2_look_137 rfl rfl ?_
    refine J_iload_n dX2_look_138 rfl rfl ?_
    refine J_callV (as := [_]) (mc1 := 0) (ms1 := 0) (mc := 0) (ms := 0) dX2_look_139 mv_X2_count lk_X2_71 sh_482 rfl (Nat.le_of_ble_eq_true rfl) (Nat.le_of_ble_eq_true rfl) h (fun r σ hq _ => ?_)
    obtain ⟨I1, rfl, rfl, h⟩ := hq
    change J _ _ _ _ _ _ _ [] _ _
    exact J_retv dX2_look_142 rfl h
  · replace h := h.2 c
    refine J_aload_n dX2_look_14 rfl rfl ?_
    refine J_getR dX2_look_15 ck_2 fw_X2_27 rfl sh_482 rr_482_6 ?_
    refine J_iload_n dX2_look_18 rfl rfl ?_
    refine J_iconst dX2_look_19 (ii_c rfl) ?_
    refine J_iast dX2_look_20 sh_487 h.1.1 h.1.2 ?_
    replace h := h.2 _ rfl
    refine J_aload_n dX2_look_21 rfl rfl ?_
    refine J_iload_n dX2_look_22 rfl rfl ?_
    refine J_iconst dX2_look_23 (ii_c rfl) ?_
    refine J_iconst dX2_look_24 (ii_c rfl) ?_
    refine J_iconst dX2_look_25 (ii_c rfl) ?_
    refine J_callV (as := [_, _, _, _]) (mc1 := 0) (ms1 := 0) (mc := 0) (ms := 0) dX2_look_26 mv_X2_heap lk_X2_41 sh_482 rfl (Nat.le_of_ble_eq_true rfl) (Nat.le_of_ble_eq_true rfl) h (fun r σ hq _ => ?_)
    obtain ⟨I3, rfl, rfl, h⟩ := hq
    change J _ _ _ _ _ _ _ [] _ _
    refine J_iload_n dX2_look_29 rfl rfl ?_
    refine J_aload_n dX2_look_30 rfl rfl ?_
    refine J_getR dX2_look_31 ck_2 fw_X2_30 rfl sh_482 rr_482_0 ?_
    refine J_getR dX2_look_34 ck_0 fw_X2_45 rfl sh_1 rr_1_0 ?_
    refine J_iconst dX2_look_37 (ii_c rfl) ?_
    refine J_iald dX2_look_38 sh_2 (by decide) (by decide) ?_
    refine J_ic_ge (tgt := 56) dX2_look_39 (by decide) (fun c => ?_) (fun c => ?_)
    · replace h := h.1 c
      refine J_iconst dX2_look_56 (ii_c rfl) ?_
      refine J_istore dX2_look_57 (by decide) ?_
      change J _ _ _ _ _ _ [(0, _), (1, _), (2, _), (3, _), (4, _)] _ _ _
      refine J_iconst dX2_look_59 (ii_c rfl) ?_
      refine J_istore dX2_look_60 (by decide) ?_
      change J _ _ _ _ _ _ [(0, _), (1, _), (2, _), (3, _), (4, _), (5, _)] _ _ _
      exact h
    · replace h := h.2 c
      refine J_iconst dX2_look_42 (ii_c rfl) ?_
      refine J_aload_n dX2_look_43 rfl rfl ?_
      refine J_getR dX2_look_44 ck_2 fw_X2_34 rfl sh_482 rr_482_1 ?_
      refine J_getR dX2_look_47 ck_5 fw_X2_50 rfl sh_69 rr_69_5 ?_
      refine J_iload_n dX2_look_50 rfl rfl ?_
      refine J_iald dX2_look_51 sh_71 h.1.1 h.1.2 ?_
      replace h := h.2
      refine J_imulN dX2_look_52 h.1 ?_
      replace h := h.2
      refine J_goto (tgt := 57) dX2_look_53 (by decide) ?_
      refine J_istore dX2_look_57 (by decide) ?_
      change J _ _ _ _ _ _ [(0, _), (1, _), (2, _), (3, _), (4, _)] _ _ _
      refine J_iconst dX2_look_59 (ii_c rfl) ?_
      refine J_istore dX2_look_60 (by decide) ?_
      change J _ _ _ _ _ _ [(0, _), (1, _), (2, _), (3, _), (4, _), (5, _)] _ _ _
      exact h
set_option maxRecDepth 20000 in
set_option maxHeartbeats 2000000 in
theorem bk_X2_look_62 {d : Nat} {I : HI} {Q : Option AV → AH → Prop} {a1 : Int} {a2 : Int} {a3 : Int} {a4 : Int} {a5 : Int}  (h : ((a4 < a5 → (-2147483648 ≤ a3 + 1 ∧ a3 + 1 ≤ 2147483647) ∧ J none mX2_look (d + 1) 0 0 9 [(0, vR 482), (1, vI a1), (2, vI a2), (3, vI (a3 + 1))] [] (mk I) Q) ∧ (¬ (a4 < a5) → CR mX5_trackOf d [vR 69, vI a3, vI a5] I (fun x1 kx1 I1 => CI mX5_lateOf d [vR 69, vI a5] I1 (fun x2 I2 => CI mX0_petalsOf d [vR 1, vI a3, vR x1, vI x2, vI a2] I2 (fun x3 I3 => (((oA x3 (oX a1 (-1))) ≠ 0 → (-2147483648 ≤ a5 + 1 ∧ a5 + 1 ≤ 2147483647) ∧ J none mX2_look (d + 1) 0 0 62 [(0, vR 482), (1, vI a1), (2, vI a2), (3, vI a3), (4, vI a4), (5, vI (a5 + 1))] [] (mk I3) Q) ∧ ((oA x3 (oX a1 (-1))) = 0 → CV mX2_heap d [vR 482, vI a3, vI x3, vI (I3 x1 6), vI 1] I3 (fun I4 => (-2147483648 ≤ a5 + 1 ∧ a5 + 1 ≤ 2147483647) ∧ J none mX2_look (d + 1) 0 0 62 [(0, vR 482), (1, vI a1), (2, vI a2), (3, vI a3), (4, vI a4), (5, vI (a5 + 1))] [] (mk I4) Q))))))))) : J none mX2_look (d + 1) 0 0 62 [(0, vR 482), (1, vI a1), (2, vI a2), (3, vI a3), (4, vI a4), (5, vI a5)] [] (mk I) Q := by
  refine J_iload dX2_look_62 rfl ?_
  refine J_iload dX2_look_64 rfl ?_
  refine J_ic_gt (tgt := 131) dX2_look_66 (by decide) (fun c => ?_) (fun c => ?_)
  · replace h := h.1 c
    refine J_iincN dX2_look_131 rfl (by decide) h.1 ?_
    replace h := h.2
    change J _ _ _ _ _ _ [(0, _), (1, _), (2, _), (3, _), (4, _), (5, _)] _ _ _
    refine J_goto (tgt := 9) dX2_look_134 (by decide) ?_
    exact J_loc (ls_sub [0, 1, 2, 3] rfl) h
  · replace h := h.2 c
    refine J_aload_n dX2_look_69 rfl rfl ?_
    refine J_getR dX2_look_70 ck_2 fw_X2_34 rfl sh_482 rr_482_1 ?_
    refine J_iload_n dX2_look_73 rfl rfl ?_
    refine J_iload dX2_look_74 rfl ?_
    refine J_callV (as := [_, _]) (mc1 := 0) (ms1 := 0) (mc := 0) (ms := 0) dX2_look_76 mv_X5_trackOf lk_X2_53 sh_69 rfl (Nat.le_of_ble_eq_true rfl) (Nat.le_of_ble_eq_true rfl) h (fun r σ hq _ => ?_)
    obtain ⟨x1, kx1, I1, rfl, rfl, hx1, h⟩ := hq
    change J _ _ _ _ _ _ _ [vR x1] _ _
    refine J_astore dX2_look_79 (by decide) ?_
    change J _ _ _ _ _ _ [(0, _), (1, _), (2, _), (3, _), (4, _), (5, _), (6, _)] _ _ _
    refine J_aload_n dX2_look_81 rfl rfl ?_
    refine J_getR dX2_look_82 ck_2 fw_X2_30 rfl sh_482 rr_482_0 ?_
    refine J_iload_n dX2_look_85 rfl rfl ?_
    refine J_aload dX2_look_86 rfl ?_
    refine J_aload_n dX2_look_88 rfl rfl ?_
    refine J_getR dX2_look_89 ck_2 fw_X2_34 rfl sh_482 rr_482_1 ?_
    refine J_iload dX2_look_92 rfl ?_
    refine J_callV (as := [_]) (mc1 := 0) (ms1 := 0) (mc := 0) (ms := 0) dX2_look_94 mv_X5_lateOf lk_X2_57 sh_69 rfl (Nat.le_of_ble_eq_true rfl) (Nat.le_of_ble_eq_true rfl) h (fun r σ hq _ => ?_)
    obtain ⟨x2, I2, rfl, rfl, h⟩ := hq
    change J _ _ _ _ _ _ _ [vI x2, vR x1, _, _] _ _
    refine J_iload_n dX2_look_97 rfl rfl ?_
    refine J_callV (as := [_, _, _, _]) (mc1 := 0) (ms1 := 0) (mc := 0) (ms := 0) dX2_look_98 mv_X0_petalsOf lk_X2_61 sh_1 rfl (Nat.le_of_ble_eq_true rfl) (Nat.le_of_ble_eq_true rfl) h (fun r σ hq _ => ?_)
    obtain ⟨x3, I3, rfl, rfl, h⟩ := hq
    change J _ _ _ _ _ _ _ [vI x3] _ _
    refine J_istore dX2_look_101 (by decide) ?_
    change J _ _ _ _ _ _ [(0, _), (1, _), (2, _), (3, _), (4, _), (5, _), (6, _), (7, _)] _ _ _
    refine J_iload dX2_look_103 rfl ?_
    refine J_iload_n dX2_look_105 rfl rfl ?_
    refine J_iconst dX2_look_106 (ii_c rfl) ?_
    refine J_ixor dX2_look_107 ?_
    refine J_iand dX2_look_108 ?_
    refine J_if_ne (tgt := 125) dX2_look_109 (by decide) (fun c => ?_) (fun c => ?_)
    · replace h := h.1 c
      refine J_iincN dX2_look_125 rfl (by decide) h.1 ?_
      replace h := h.2
      change J _ _ _ _ _ _ [(0, _), (1, _), (2, _), (3, _), (4, _), (5, _), (6, _), (7, _)] _ _ _
      refine J_goto (tgt := 62) dX2_look_128 (by decide) ?_
      exact J_loc (ls_sub [0, 1, 2, 3, 4, 5] rfl) h
    · replace h := h.2 c
      refine J_aload_n dX2_look_112 rfl rfl ?_
      refine J_iload_n dX2_look_113 rfl rfl ?_
      refine J_iload dX2_look_114 rfl ?_
      refine J_aload dX2_look_116 rfl ?_
      refine J_getI dX2_look_118 ck_8 fw_X2_65 rfl hx1.1 ?_
      refine J_iconst dX2_look_121 (ii_c rfl) ?_
      refine J_callV (as := [_, _, _, _]) (mc1 := 0) (ms1 := 0) (mc := 0) (ms := 0) dX2_look_122 mv_X2_heap lk_X2_41 sh_482 rfl (Nat.le_of_ble_eq_true rfl) (Nat.le_of_ble_eq_true rfl) h (fun r σ hq _ => ?_)
      obtain ⟨I4, rfl, rfl, h⟩ := hq
      change J _ _ _ _ _ _ _ [] _ _
      refine J_iincN dX2_look_125 rfl (by decide) h.1 ?_
      replace h := h.2
      change J _ _ _ _ _ _ [(0, _), (1, _), (2, _), (3, _), (4, _), (5, _), (6, _), (7, _)] _ _ _
      refine J_goto (tgt := 62) dX2_look_128 (by decide) ?_
      exact J_loc (ls_sub [0, 1, 2, 3, 4, 5] rfl) h
set_option maxRecDepth 20000 in
set_option maxHeartbeats 2000000 in
theorem bk_X2_heap_0 {d : Nat} {I : HI} {Q : Option AV → AH → Prop} {a1 : Int} {a2 : Int} {a3 : Int} {a4 : Int}  (h : (-2147483648 ≤ a1 * 61 ∧ a1 * 61 ≤ 2147483647) ∧ J none mX2_heap (d + 1) 0 0 10 [(0, vR 482), (1, vI a1), (2, vI a2), (3, vI a3), (4, vI a4), (5, vI (a1 * 61)), (6, vI (a1 * 61))] [] (mk I) Q) : J none mX2_heap (d + 1) 0 0 0 [(0, vR 482), (1, vI a1), (2, vI a2), (3, vI a3), (4, vI a4)] [] (mk I) Q := by
  refine J_iload_n dX2_heap_0 rfl rfl ?_
  refine J_bipush dX2_heap_1 (ii_c rfl) (by decide) ?_
  refine J_imulN dX2_heap_3 h.1 ?_
  replace h := h.2
  refine J_istore dX2_heap_4 (by decide) ?_
  change J _ _ _ _ _ _ [(0, _), (1, _), (2, _), (3, _), (4, _), (5, _)] _ _ _
  refine J_iload dX2_heap_6 rfl ?_
  refine J_istore dX2_heap_8 (by decide) ?_
  change J _ _ _ _ _ _ [(0, _), (1, _), (2, _), (3, _), (4, _), (5, _), (6, _)] _ _ _
  exact h
set_option maxRecDepth 20000 in
set_option maxHeartbeats 2000000 in
theorem bk_X2_heap_10 {d : Nat} {I : HI} {Q : Option AV → AH → Prop} {a1 : Int} {a2 : Int} {a3 : Int} {a4 : Int} {a5 : Int} {a6 : Int}  (h : ((0 : Int) ≤ a1 ∧ (a1 : Int) < 3) ∧ (-2147483648 ≤ a5 + (I 487 a1.toNat) ∧ a5 + (I 487 a1.toNat) ≤ 2147483647) ∧ (((a5 + (I 487 a1.toNat)) ≤ a6 → J none mX2_heap (d + 1) 0 0 41 [(0, vR 482), (1, vI a1), (2, vI a2), (3, vI a3), (4, vI a4), (5, vI a5), (6, vI a6)] [] (mk I) Q) ∧ (¬ ((a5 + (I 487 a1.toNat)) ≤ a6) → ((0 : Int) ≤ a6 ∧ (a6 : Int) < 183) ∧ (((I 483 a6.toNat) = a2 → J none mX2_heap (d + 1) 0 0 41 [(0, vR 482), (1, vI a1), (2, vI a2), (3, vI a3), (4, vI a4), (5, vI a5), (6, vI a6)] [] (mk I) Q) ∧ (¬ ((I 483 a6.toNat) = a2) → (-2147483648 ≤ a6 + 1 ∧ a6 + 1 ≤ 2147483647) ∧ J none mX2_heap (d + 1) 0 0 10 [(0, vR 482), (1, vI a1), (2, vI a2), (3, vI a3), (4, vI a4), (5, vI a5), (6, vI (a6 + 1))] [] (mk I) Q))))) : J none mX2_heap (d + 1) 0 0 10 [(0, vR 482), (1, vI a1), (2, vI a2), (3, vI a3), (4, vI a4), (5, vI a5), (6, vI a6)] [] (mk I) Q := by
  refine J_iload dX2_heap_10 rfl ?_
  refine J_iload dX2_heap_12 rfl ?_
  refine J_aload_n dX2_heap_14 rfl rfl ?_
  refine J_getR dX2_heap_15 ck_2 fw_X2_27 rfl sh_482 rr_482_6 ?_
  refine J_iload_n dX2_heap_18 rfl rfl ?_
  refine J_iald dX2_heap_19 sh_487 h.1.1 h.1.2 ?_
  replace h := h.2
  refine J_iaddN dX2_heap_20 h.1 ?_
  replace h := h.2
  refine J_ic_ge (tgt := 41) dX2_heap_21 (by decide) (fun c => ?_) (fun c => ?_)
  · replace h := h.1 c
    exact h
  · replace h := h.2 c
    refine J_aload_n dX2_heap_24 rfl rfl ?_
    refine J_getR dX2_heap_25 ck_2 fw_X2_13 rfl sh_482 rr_482_2 ?_
    refine J_iload dX2_heap_28 rfl ?_
    refine J_iald dX2_heap_30 sh_483 h.1.1 h.1.2 ?_
    replace h := h.2
    refine J_iload_n dX2_heap_31 rfl rfl ?_
    refine J_ic_eq (tgt := 41) dX2_heap_32 (by decide) (fun c => ?_) (fun c => ?_)
    · replace h := h.1 c
      exact h
    · replace h := h.2 c
      refine J_iincN dX2_heap_35 rfl (by decide) h.1 ?_
      replace h := h.2
      change J _ _ _ _ _ _ [(0, _), (1, _), (2, _), (3, _), (4, _), (5, _), (6, _)] _ _ _
      refine J_goto (tgt := 10) dX2_heap_38 (by decide) ?_
      exact h
set_option maxRecDepth 20000 in
set_option maxHeartbeats 2000000 in
theorem bk_X2_heap_41 {d : Nat} {I : HI} {Q : Option AV → AH → Prop} {a1 : Int} {a2 : Int} {a3 : Int} {a4 : Int} {a5 : Int} {a6 : Int}  (h : ((0 : Int) ≤ a1 ∧ (a1 : Int) < 3) ∧ (-2147483648 ≤ a5 + (I 487 a1.toNat) ∧ a5 + (I 487 a1.toNat) ≤ 2147483647) ∧ ((a6 ≠ (a5 + (I 487 a1.toNat)) → ((0 : Int) ≤ a6 ∧ (a6 : Int) < 183) ∧ (-2147483648 ≤ (I 484 a6.toNat) + 1 ∧ (I 484 a6.toNat) + 1 ≤ 2147483647) ∧ ((0 : Int) ≤ a6 ∧ (a6 : Int) < 183) ∧ (∀ I1 : HI, I1 = up I 484 a6.toNat ((I 484 a6.toNat) + 1) → ((0 : Int) ≤ a6 ∧ (a6 : Int) < 183) ∧ ((0 : Int) ≤ a6 ∧ (a6 : Int) < 183) ∧ (∀ I2 : HI, I2 = up I1 485 a6.toNat (oA (I1 485 a6.toNat) a3) → ((0 : Int) ≤ a6 ∧ (a6 : Int) < 183) ∧ ((0 : Int) ≤ a6 ∧ (a6 : Int) < 183) ∧ ((oO (I2 486 a6.toNat) a4 : Int) = 0 ∨ (oO (I2 486 a6.toNat) a4 : Int) = 1) ∧ (∀ I3 : HI, I3 = up I2 486 a6.toNat (oO (I2 486 a6.toNat) a4) → Q none (mk I3))))) ∧ (a6 = (a5 + (I 487 a1.toNat)) → ((0 : Int) ≤ a1 ∧ (a1 : Int) < 3) ∧ (-2147483648 ≤ (I 487 a1.toNat) + 1 ∧ (I 487 a1.toNat) + 1 ≤ 2147483647) ∧ ((0 : Int) ≤ a1 ∧ (a1 : Int) < 3) ∧ (∀ I4 : HI, I4 = up I 487 a1.toNat ((I 487 a1.toNat) + 1) → ((0 : Int) ≤ a6 ∧ (a6 : Int) < 183) ∧ (∀ I5 : HI, I5 = up I4 483 a6.toNat a2 → ((0 : Int) ≤ a6 ∧ (a6 : Int) < 183) ∧ (∀ I6 : HI, I6 = up I5 484 a6.toNat 0 → ((0 : Int) ≤ a6 ∧ (a6 : Int) < 183) ∧ (∀ I7 : HI, I7 = up I6 485 a6.toNat a3 → ((0 : Int) ≤ a6 ∧ (a6 : Int) < 183) ∧ ((0 : Int) = 0 ∨ (0 : Int) = 1) ∧ (∀ I8 : HI, I8 = up I7 486 a6.toNat 0 → ((0 : Int) ≤ a6 ∧ (a6 : Int) < 183) ∧ (-2147483648 ≤ (I8 484 a6.toNat) + 1 ∧ (I8 484 a6.toNat) + 1 ≤ 2147483647) ∧ ((0 : Int) ≤ a6 ∧ (a6 : Int) < 183) ∧ (∀ I9 : HI, I9 = up I8 484 a6.toNat ((I8 484 a6.toNat) + 1) → ((0 : Int) ≤ a6 ∧ (a6 : Int) < 183) ∧ ((0 : Int) ≤ a6 ∧ (a6 : Int) < 183) ∧ (∀ I10 : HI, I10 = up I9 485 a6.toNat (oA (I9 485 a6.toNat) a3) → ((0 : Int) ≤ a6 ∧ (a6 : Int) < 183) ∧ ((0 : Int) ≤ a6 ∧ (a6 : Int) < 183) ∧ ((oO (I10 486 a6.toNat) a4 : Int) = 0 ∨ (oO (I10 486 a6.toNat) a4 : Int) = 1) ∧ (∀ I11 : HI, I11 = up I10 486 a6.toNat (oO (I10 486 a6.toNat) a4) → Q none (mk I11)))))))))))) : J none mX2_heap (d + 1) 0 0 41 [(0, vR 482), (1, vI a1), (2, vI a2), (3, vI a3), (4, vI a4), (5, vI a5), (6, vI a6)] [] (mk I) Q := by
  refine J_iload dX2_heap_41 rfl ?_
  refine J_iload dX2_heap_43 rfl ?_
  refine J_aload_n dX2_heap_45 rfl rfl ?_
  refine J_getR dX2_heap_46 ck_2 fw_X2_27 rfl sh_482 rr_482_6 ?_
  refine J_iload_n dX2_heap_49 rfl rfl ?_
  refine J_iald dX2_heap_50 sh_487 h.1.1 h.1.2 ?_
  replace h := h.2
  refine J_iaddN dX2_heap_51 h.1 ?_
  replace h := h.2
  refine J_ic_ne (tgt := 97) dX2_heap_52 (by decide) (fun c => ?_) (fun c => ?_)
  · replace h := h.1 c
    refine J_aload_n dX2_heap_97 rfl rfl ?_
    refine J_getR dX2_heap_98 ck_2 fw_X2_17 rfl sh_482 rr_482_3 ?_
    refine J_iload dX2_heap_101 rfl ?_
    refine J_dup2 dX2_heap_103 rfl rfl ?_
    refine J_iald dX2_heap_104 sh_484 h.1.1 h.1.2 ?_
    replace h := h.2
    refine J_iconst dX2_heap_105 (ii_c rfl) ?_
    refine J_iaddN dX2_heap_106 h.1 ?_
    replace h := h.2
    refine J_iast dX2_heap_107 sh_484 h.1.1 h.1.2 ?_
    replace h := h.2 _ rfl
    refine J_aload_n dX2_heap_108 rfl rfl ?_
    refine J_getR dX2_heap_109 ck_2 fw_X2_20 rfl sh_482 rr_482_4 ?_
    refine J_iload dX2_heap_112 rfl ?_
    refine J_dup2 dX2_heap_114 rfl rfl ?_
    refine J_iald dX2_heap_115 sh_485 h.1.1 h.1.2 ?_
    replace h := h.2
    refine J_iload_n dX2_heap_116 rfl rfl ?_
    refine J_iand dX2_heap_117 ?_
    refine J_iast dX2_heap_118 sh_485 h.1.1 h.1.2 ?_
    replace h := h.2 _ rfl
    refine J_aload_n dX2_heap_119 rfl rfl ?_
    refine J_getR dX2_heap_120 ck_2 fw_X2_23 rfl sh_482 rr_482_5 ?_
    refine J_iload dX2_heap_123 rfl ?_
    refine J_dup2 dX2_heap_125 rfl rfl ?_
    refine J_zald dX2_heap_126 sh_486 h.1.1 h.1.2 ?_
    replace h := h.2
    refine J_iload dX2_heap_127 rfl ?_
    refine J_ior dX2_heap_129 ?_
    refine J_zast dX2_heap_130 sh_486 h.1.1 h.1.2 h.2.1 ?_
    replace h := h.2.2 _ rfl
    exact J_retv dX2_heap_131 rfl h
  · replace h := h.2 c
    refine J_aload_n dX2_heap_55 rfl rfl ?_
    refine J_getR dX2_heap_56 ck_2 fw_X2_27 rfl sh_482 rr_482_6 ?_
    refine J_iload_n dX2_heap_59 rfl rfl ?_
    refine J_dup2 dX2_heap_60 rfl rfl ?_
    refine J_iald dX2_heap_61 sh_487 h.1.1 h.1.2 ?_
    replace h := h.2
    refine J_iconst dX2_heap_62 (ii_c rfl) ?_
    refine J_iaddN dX2_heap_63 h.1 ?_
    replace h := h.2
    refine J_iast dX2_heap_64 sh_487 h.1.1 h.1.2 ?_
    replace h := h.2 _ rfl
    refine J_aload_n dX2_heap_65 rfl rfl ?_
    refine J_getR dX2_heap_66 ck_2 fw_X2_13 rfl sh_482 rr_482_2 ?_
    refine J_iload dX2_heap_69 rfl ?_
    refine J_iload_n dX2_heap_71 rfl rfl ?_
    refine J_iast dX2_heap_72 sh_483 h.1.1 h.1.2 ?_
    replace h := h.2 _ rfl
    refine J_aload_n dX2_heap_73 rfl rfl ?_
    refine J_getR dX2_heap_74 ck_2 fw_X2_17 rfl sh_482 rr_482_3 ?_
    refine J_iload dX2_heap_77 rfl ?_
    refine J_iconst dX2_heap_79 (ii_c rfl) ?_
    refine J_iast dX2_heap_80 sh_484 h.1.1 h.1.2 ?_
    replace h := h.2 _ rfl
    refine J_aload_n dX2_heap_81 rfl rfl ?_
    refine J_getR dX2_heap_82 ck_2 fw_X2_20 rfl sh_482 rr_482_4 ?_
    refine J_iload dX2_heap_85 rfl ?_
    refine J_iload_n dX2_heap_87 rfl rfl ?_
    refine J_iast dX2_heap_88 sh_485 h.1.1 h.1.2 ?_
    replace h := h.2 _ rfl
    refine J_aload_n dX2_heap_89 rfl rfl ?_
    refine J_getR dX2_heap_90 ck_2 fw_X2_23 rfl sh_482 rr_482_5 ?_
    refine J_iload dX2_heap_93 rfl ?_
    refine J_iconst dX2_heap_95 (ii_c rfl) ?_
    refine J_zast dX2_heap_96 sh_486 h.1.1 h.1.2 h.2.1 ?_
    replace h := h.2.2 _ rfl
    refine J_aload_n dX2_heap_97 rfl rfl ?_
    refine J_getR dX2_heap_98 ck_2 fw_X2_17 rfl sh_482 rr_482_3 ?_
    refine J_iload dX2_heap_101 rfl ?_
    refine J_dup2 dX2_heap_103 rfl rfl ?_
    refine J_iald dX2_heap_104 sh_484 h.1.1 h.1.2 ?_
    replace h := h.2
    refine J_iconst dX2_heap_105 (ii_c rfl) ?_
    refine J_iaddN dX2_heap_106 h.1 ?_
    replace h := h.2
    refine J_iast dX2_heap_107 sh_484 h.1.1 h.1.2 ?_
    replace h := h.2 _ rfl
    refine J_aload_n dX2_heap_108 rfl rfl ?_
    refine J_getR dX2_heap_109 ck_2 fw_X2_20 rfl sh_482 rr_482_4 ?_
    refine J_iload dX2_heap_112 rfl ?_
    refine J_dup2 dX2_heap_114 rfl rfl ?_
    refine J_iald dX2_heap_115 sh_485 h.1.1 h.1.2 ?_
    replace h := h.2
    refine J_iload_n dX2_heap_116 rfl rfl ?_
    refine J_iand dX2_heap_117 ?_
    refine J_iast dX2_heap_118 sh_485 h.1.1 h.1.2 ?_
    replace h := h.2 _ rfl
    refine J_aload_n dX2_heap_119 rfl rfl ?_
    refine J_getR dX2_heap_120 ck_2 fw_X2_23 rfl sh_482 rr_482_5 ?_
    refine J_iload dX2_heap_123 rfl ?_
    refine J_dup2 dX2_heap_125 rfl rfl ?_
    refine J_zald dX2_heap_126 sh_486 h.1.1 h.1.2 ?_
    replace h := h.2
    refine J_iload dX2_heap_127 rfl ?_
    refine J_ior dX2_heap_129 ?_
    refine J_zast dX2_heap_130 sh_486 h.1.1 h.1.2 h.2.1 ?_
    replace h := h.2.2 _ rfl
    exact J_retv dX2_heap_131 rfl h
set_option maxRecDepth 20000 in
set_option maxHeartbeats 2000000 in
theorem bk_X2_count_0 {d : Nat} {I : HI} {Q : Option AV → AH → Prop} {a1 : Int}  (h : (∀ I1 : HI, I1 = up I 482 7 0 → (∀ I2 : HI, I2 = up I1 482 8 65535 → (∀ I3 : HI, I3 = up I2 482 9 0 → J none mX2_count (d + 1) 0 0 18 [(0, vR 482), (1, vI a1), (2, vI 0)] [] (mk I3) Q)))) : J none mX2_count (d + 1) 0 0 0 [(0, vR 482), (1, vI a1)] [] (mk I) Q := by
  refine J_aload_n dX2_count_0 rfl rfl ?_
  refine J_iconst dX2_count_1 (ii_c rfl) ?_
  refine J_putI dX2_count_2 ck_2 fw_X2_75 rfl rfl (Or.inl rfl) sh_482 ?_
  replace h := h _ rfl
  refine J_aload_n dX2_count_5 rfl rfl ?_
  refine J_ldc 65535 dX2_count_6 kw_X2_78 (ii_c rfl) ?_
  refine J_putI dX2_count_8 ck_2 fw_X2_79 rfl rfl (Or.inl rfl) sh_482 ?_
  replace h := h _ rfl
  refine J_aload_n dX2_count_11 rfl rfl ?_
  refine J_iconst dX2_count_12 (ii_c rfl) ?_
  refine J_putI dX2_count_13 ck_2 fw_X2_82 rfl rfl (Or.inl rfl) sh_482 ?_
  replace h := h _ rfl
  refine J_iconst dX2_count_16 (ii_c rfl) ?_
  refine J_istore_n dX2_count_17 rfl (by decide) ?_
  change J _ _ _ _ _ _ [(0, _), (1, _), (2, _)] _ _ _
  exact h
set_option maxRecDepth 20000 in
set_option maxHeartbeats 2000000 in
theorem bk_X2_count_18 {d : Nat} {I : HI} {Q : Option AV → AH → Prop} {a1 : Int} {a2 : Int}  (h : (((I 487 0) ≤ a2 → Q none (mk I)) ∧ (¬ ((I 487 0) ≤ a2) → J none mX2_count (d + 1) 0 0 31 [(0, vR 482), (1, vI a1), (2, vI a2), (3, vI 61)] [] (mk I) Q))) : J none mX2_count (d + 1) 0 0 18 [(0, vR 482), (1, vI a1), (2, vI a2)] [] (mk I) Q := by
  refine J_iload_n dX2_count_18 rfl rfl ?_
  refine J_aload_n dX2_count_19 rfl rfl ?_
  refine J_getR dX2_count_20 ck_2 fw_X2_27 rfl sh_482 rr_482_6 ?_
  refine J_iconst dX2_count_23 (ii_c rfl) ?_
  refine J_iald dX2_count_24 sh_487 (by decide) (by decide) ?_
  refine J_ic_ge (tgt := 223) dX2_count_25 (by decide) (fun c => ?_) (fun c => ?_)
  · replace h := h.1 c
    exact J_retv dX2_count_223 rfl h
  · replace h := h.2 c
    refine J_bipush dX2_count_28 (ii_c rfl) (by decide) ?_
    refine J_istore_n dX2_count_30 rfl (by decide) ?_
    change J _ _ _ _ _ _ [(0, _), (1, _), (2, _), (3, _)] _ _ _
    exact h
set_option maxRecDepth 20000 in
set_option maxHeartbeats 2000000 in
theorem bk_X2_count_31 {d : Nat} {I : HI} {Q : Option AV → AH → Prop} {a1 : Int} {a2 : Int} {a3 : Int}  (h : (-2147483648 ≤ 61 + (I 487 1) ∧ 61 + (I 487 1) ≤ 2147483647) ∧ (((61 + (I 487 1)) ≤ a3 → (-2147483648 ≤ a2 + 1 ∧ a2 + 1 ≤ 2147483647) ∧ J none mX2_count (d + 1) 0 0 18 [(0, vR 482), (1, vI a1), (2, vI (a2 + 1))] [] (mk I) Q) ∧ (¬ ((61 + (I 487 1)) ≤ a3) → ((0 : Int) ≤ a2 ∧ (a2 : Int) < 183) ∧ ((0 : Int) ≤ a3 ∧ (a3 : Int) < 183) ∧ J none mX2_count (d + 1) 0 0 63 [(0, vR 482), (1, vI a1), (2, vI a2), (3, vI a3), (4, vI (oO (I 483 a2.toNat) (I 483 a3.toNat))), (5, vI 122)] [] (mk I) Q))) : J none mX2_count (d + 1) 0 0 31 [(0, vR 482), (1, vI a1), (2, vI a2), (3, vI a3)] [] (mk I) Q := by
  refine J_iload_n dX2_count_31 rfl rfl ?_
  refine J_bipush dX2_count_32 (ii_c rfl) (by decide) ?_
  refine J_aload_n dX2_count_34 rfl rfl ?_
  refine J_getR dX2_count_35 ck_2 fw_X2_27 rfl sh_482 rr_482_6 ?_
  refine J_iconst dX2_count_38 (ii_c rfl) ?_
  refine J_iald dX2_count_39 sh_487 (by decide) (by decide) ?_
  refine J_iaddN dX2_count_40 h.1 ?_
  replace h := h.2
  refine J_ic_ge (tgt := 217) dX2_count_41 (by decide) (fun c => ?_) (fun c => ?_)
  · replace h := h.1 c
    refine J_iincN dX2_count_217 rfl (by decide) h.1 ?_
    replace h := h.2
    change J _ _ _ _ _ _ [(0, _), (1, _), (2, _), (3, _)] _ _ _
    refine J_goto (tgt := 18) dX2_count_220 (by decide) ?_
    exact J_loc (ls_sub [0, 1, 2] rfl) h
  · replace h := h.2 c
    refine J_aload_n dX2_count_44 rfl rfl ?_
    refine J_getR dX2_count_45 ck_2 fw_X2_13 rfl sh_482 rr_482_2 ?_
    refine J_iload_n dX2_count_48 rfl rfl ?_
    refine J_iald dX2_count_49 sh_483 h.1.1 h.1.2 ?_
    replace h := h.2
    refine J_aload_n dX2_count_50 rfl rfl ?_
    refine J_getR dX2_count_51 ck_2 fw_X2_13 rfl sh_482 rr_482_2 ?_
    refine J_iload_n dX2_count_54 rfl rfl ?_
    refine J_iald dX2_count_55 sh_483 h.1.1 h.1.2 ?_
    replace h := h.2
    refine J_ior dX2_count_56 ?_
    refine J_istore dX2_count_57 (by decide) ?_
    change J _ _ _ _ _ _ [(0, _), (1, _), (2, _), (3, _), (4, _)] _ _ _
    refine J_bipush dX2_count_59 (ii_c rfl) (by decide) ?_
    refine J_istore dX2_count_61 (by decide) ?_
    change J _ _ _ _ _ _ [(0, _), (1, _), (2, _), (3, _), (4, _), (5, _)] _ _ _
    exact h
set_option maxRecDepth 20000 in
set_option maxHeartbeats 2000000 in
theorem bk_X2_count_63 {d : Nat} {I : HI} {Q : Option AV → AH → Prop} {a1 : Int} {a2 : Int} {a3 : Int} {a4 : Int} {a5 : Int}  (h : (-2147483648 ≤ 122 + (I 487 2) ∧ 122 + (I 487 2) ≤ 2147483647) ∧ (((122 + (I 487 2)) ≤ a5 → (-2147483648 ≤ a3 + 1 ∧ a3 + 1 ≤ 2147483647) ∧ J none mX2_count (d + 1) 0 0 31 [(0, vR 482), (1, vI a1), (2, vI a2), (3, vI (a3 + 1))] [] (mk I) Q) ∧ (¬ ((122 + (I 487 2)) ≤ a5) → ((0 : Int) ≤ a5 ∧ (a5 : Int) < 183) ∧ (((oO a4 (I 483 a5.toNat)) ≠ a1 → (-2147483648 ≤ a5 + 1 ∧ a5 + 1 ≤ 2147483647) ∧ J none mX2_count (d + 1) 0 0 63 [(0, vR 482), (1, vI a1), (2, vI a2), (3, vI a3), (4, vI a4), (5, vI (a5 + 1))] [] (mk I) Q) ∧ ((oO a4 (I 483 a5.toNat)) = a1 → ((0 : Int) ≤ a2 ∧ (a2 : Int) < 183) ∧ ((0 : Int) ≤ a3 ∧ (a3 : Int) < 183) ∧ (-2147483648 ≤ (I 484 a2.toNat) * (I 484 a3.toNat) ∧ (I 484 a2.toNat) * (I 484 a3.toNat) ≤ 2147483647) ∧ ((0 : Int) ≤ a5 ∧ (a5 : Int) < 183) ∧ (-2147483648 ≤ ((I 484 a2.toNat) * (I 484 a3.toNat)) * (I 484 a5.toNat) ∧ ((I 484 a2.toNat) * (I 484 a3.toNat)) * (I 484 a5.toNat) ≤ 2147483647) ∧ (-2147483648 ≤ (I 482 7) + (((I 484 a2.toNat) * (I 484 a3.toNat)) * (I 484 a5.toNat)) ∧ (I 482 7) + (((I 484 a2.toNat) * (I 484 a3.toNat)) * (I 484 a5.toNat)) ≤ 2147483647) ∧ (∀ I1 : HI, I1 = up I 482 7 ((I 482 7) + (((I 484 a2.toNat) * (I 484 a3.toNat)) * (I 484 a5.toNat))) → ((0 : Int) ≤ a2 ∧ (a2 : Int) < 183) ∧ ((0 : Int) ≤ a3 ∧ (a3 : Int) < 183) ∧ ((0 : Int) ≤ a5 ∧ (a5 : Int) < 183) ∧ (∀ I2 : HI, I2 = up I1 482 8 (oA (I1 482 8) (oO (oO (I1 485 a2.toNat) (I1 485 a3.toNat)) (I1 485 a5.toNat))) → ((0 : Int) ≤ a2 ∧ (a2 : Int) < 183) ∧ (((I2 486 a2.toNat) = 0 → ((0 : Int) ≤ a3 ∧ (a3 : Int) < 183) ∧ (((I2 486 a3.toNat) = 0 → ((0 : Int) ≤ a5 ∧ (a5 : Int) < 183) ∧ (((I2 486 a5.toNat) = 0 → (∀ I3 : HI, I3 = up I2 482 9 (oO (I2 482 9) (oO (oO 0 0) 0)) → (-2147483648 ≤ a5 + 1 ∧ a5 + 1 ≤ 2147483647) ∧ J none mX2_count (d + 1) 0 0 63 [(0, vR 482), (1, vI a1), (2, vI a2), (3, vI a3), (4, vI a4), (5, vI (a5 + 1))] [] (mk I3) Q)) ∧ (¬ ((I2 486 a5.toNat) = 0) → (∀ I4 : HI, I4 = up I2 482 9 (oO (I2 482 9) (oO (oO 0 0) 4)) → (-2147483648 ≤ a5 + 1 ∧ a5 + 1 ≤ 2147483647) ∧ J none mX2_count (d + 1) 0 0 63 [(0, vR 482), (1, vI a1), (2, vI a2), (3, vI a3), (4, vI a4), (5, vI (a5 + 1))] [] (mk I4) Q)))) ∧ (¬ ((I2 486 a3.toNat) = 0) → ((0 : Int) ≤ a5 ∧ (a5 : Int) < 183) ∧ (((I2 486 a5.toNat) = 0 → (∀ I5 : HI, I5 = up I2 482 9 (oO (I2 482 9) (oO (oO 0 2) 0)) → (-2147483648 ≤ a5 + 1 ∧ a5 + 1 ≤ 2147483647) ∧ J none mX2_count (d + 1) 0 0 63 [(0, vR 482), (1, vI a1), (2, vI a2), (3, vI a3), (4, vI a4), (5, vI (a5 + 1))] [] (mk I5) Q)) ∧ (¬ ((I2 486 a5.toNat) = 0) → (∀ I6 : HI, I6 = up I2 482 9 (oO (I2 482 9) (oO (oO 0 2) 4)) → (-2147483648 ≤ a5 + 1 ∧ a5 + 1 ≤ 2147483647) ∧ J none mX2_count (d + 1) 0 0 63 [(0, vR 482), (1, vI a1), (2, vI a2), (3, vI a3), (4, vI a4), (5, vI (a5 + 1))] [] (mk I6) Q)))))) ∧ (¬ ((I2 486 a2.toNat) = 0) → ((0 : Int) ≤ a3 ∧ (a3 : Int) < 183) ∧ (((I2 486 a3.toNat) = 0 → ((0 : Int) ≤ a5 ∧ (a5 : Int) < 183) ∧ (((I2 486 a5.toNat) = 0 → (∀ I7 : HI, I7 = up I2 482 9 (oO (I2 482 9) (oO (oO 1 0) 0)) → (-2147483648 ≤ a5 + 1 ∧ a5 + 1 ≤ 2147483647) ∧ J none mX2_count (d + 1) 0 0 63 [(0, vR 482), (1, vI a1), (2, vI a2), (3, vI a3), (4, vI a4), (5, vI (a5 + 1))] [] (mk I7) Q)) ∧ (¬ ((I2 486 a5.toNat) = 0) → (∀ I8 : HI, I8 = up I2 482 9 (oO (I2 482 9) (oO (oO 1 0) 4)) → (-2147483648 ≤ a5 + 1 ∧ a5 + 1 ≤ 2147483647) ∧ J none mX2_count (d + 1) 0 0 63 [(0, vR 482), (1, vI a1), (2, vI a2), (3, vI a3), (4, vI a4), (5, vI (a5 + 1))] [] (mk I8) Q)))) ∧ (¬ ((I2 486 a3.toNat) = 0) → ((0 : Int) ≤ a5 ∧ (a5 : Int) < 183) ∧ (((I2 486 a5.toNat) = 0 → (∀ I9 : HI, I9 = up I2 482 9 (oO (I2 482 9) (oO (oO 1 2) 0)) → (-2147483648 ≤ a5 + 1 ∧ a5 + 1 ≤ 2147483647) ∧ J none mX2_count (d + 1) 0 0 63 [(0, vR 482), (1, vI a1), (2, vI a2), (3, vI a3), (4, vI a4), (5, vI (a5 + 1))] [] (mk I9) Q)) ∧ (¬ ((I2 486 a5.toNat) = 0) → (∀ I10 : HI, I10 = up I2 482 9 (oO (I2 482 9) (oO (oO 1 2) 4)) → (-2147483648 ≤ a5 + 1 ∧ a5 + 1 ≤ 2147483647) ∧ J none mX2_count (d + 1) 0 0 63 [(0, vR 482), (1, vI a1), (2, vI a2), (3, vI a3), (4, vI a4), (5, vI (a5 + 1))] [] (mk I10) Q)))))))))))))) : J none mX2_count (d + 1) 0 0 63 [(0, vR 482), (1, vI a1), (2, vI a2), (3, vI a3), (4, vI a4), (5, vI a5)] [] (mk I) Q := by
  refine J_iload dX2_count_63 rfl ?_
  refine J_bipush dX2_count_65 (ii_c rfl) (by decide) ?_
  refine J_aload_n dX2_count_67 rfl rfl ?_
  refine J_getR dX2_count_68 ck_2 fw_X2_27 rfl sh_482 rr_482_6 ?_
  refine J_iconst dX2_count_71 (ii_c rfl) ?_
  refine J_iald dX2_count_72 sh_487 (by decide) (by decide) ?_
  refine J_iaddN dX2_count_73 h.1 ?_
  replace h := h.2
  refine J_ic_ge (tgt := 211) dX2_count_74 (by decide) (fun c => ?_) (fun c => ?_)
  · replace h := h.1 c
    refine J_iincN dX2_count_211 rfl (by decide) h.1 ?_
    replace h := h.2
    change J _ _ _ _ _ _ [(0, _), (1, _), (2, _), (3, _), (4, _), (5, _)] _ _ _
    refine J_goto (tgt := 31) dX2_count_214 (by decide) ?_
    exact J_loc (ls_sub [0, 1, 2, 3] rfl) h
  · replace h := h.2 c
    refine J_iload dX2_count_77 rfl ?_
    refine J_aload_n dX2_count_79 rfl rfl ?_
    refine J_getR dX2_count_80 ck_2 fw_X2_13 rfl sh_482 rr_482_2 ?_
    refine J_iload dX2_count_83 rfl ?_
    refine J_iald dX2_count_85 sh_483 h.1.1 h.1.2 ?_
    replace h := h.2
    refine J_ior dX2_count_86 ?_
    refine J_iload_n dX2_count_87 rfl rfl ?_
    refine J_ic_ne (tgt := 205) dX2_count_88 (by decide) (fun c => ?_) (fun c => ?_)
    · replace h := h.1 c
      refine J_iincN dX2_count_205 rfl (by decide) h.1 ?_
      replace h := h.2
      change J _ _ _ _ _ _ [(0, _), (1, _), (2, _), (3, _), (4, _), (5, _)] _ _ _
      refine J_goto (tgt := 63) dX2_count_208 (by decide) ?_
      exact h
    · replace h := h.2 c
      refine J_aload_n dX2_count_91 rfl rfl ?_
      refine J_dup dX2_count_92 rfl ?_
      refine J_getI dX2_count_93 ck_2 fw_X2_75 rfl sh_482 ?_
      refine J_aload_n dX2_count_96 rfl rfl ?_
      refine J_getR dX2_count_97 ck_2 fw_X2_17 rfl sh_482 rr_482_3 ?_
      refine J_iload_n dX2_count_100 rfl rfl ?_
      refine J_iald dX2_count_101 sh_484 h.1.1 h.1.2 ?_
      replace h := h.2
      refine J_aload_n dX2_count_102 rfl rfl ?_
      refine J_getR dX2_count_103 ck_2 fw_X2_17 rfl sh_482 rr_482_3 ?_
      refine J_iload_n dX2_count_106 rfl rfl ?_
      refine J_iald dX2_count_107 sh_484 h.1.1 h.1.2 ?_
      replace h := h.2
      refine J_imulN dX2_count_108 h.1 ?_
      replace h := h.2
      refine J_aload_n dX2_count_109 rfl rfl ?_
      refine J_getR dX2_count_110 ck_2 fw_X2_17 rfl sh_482 rr_482_3 ?_
      refine J_iload dX2_count_113 rfl ?_
      refine J_iald dX2_count_115 sh_484 h.1.1 h.1.2 ?_
      replace h := h.2
      refine J_imulN dX2_count_116 h.1 ?_
      replace h := h.2
      refine J_iaddN dX2_count_117 h.1 ?_
      replace h := h.2
      refine J_putI dX2_count_118 ck_2 fw_X2_75 rfl rfl (Or.inl rfl) sh_482 ?_
      replace h := h _ rfl
      refine J_aload_n dX2_count_121 rfl rfl ?_
      refine J_dup dX2_count_122 rfl ?_
      refine J_getI dX2_count_123 ck_2 fw_X2_79 rfl sh_482 ?_
      refine J_aload_n dX2_count_126 rfl rfl ?_
      refine J_getR dX2_count_127 ck_2 fw_X2_20 rfl sh_482 rr_482_4 ?_
      refine J_iload_n dX2_count_130 rfl rfl ?_
      refine J_iald dX2_count_131 sh_485 h.1.1 h.1.2 ?_
      replace h := h.2
      refine J_aload_n dX2_count_132 rfl rfl ?_
      refine J_getR dX2_count_133 ck_2 fw_X2_20 rfl sh_482 rr_482_4 ?_
      refine J_iload_n dX2_count_136 rfl rfl ?_
      refine J_iald dX2_count_137 sh_485 h.1.1 h.1.2 ?_
      replace h := h.2
      refine J_ior dX2_count_138 ?_
      refine J_aload_n dX2_count_139 rfl rfl ?_
      refine J_getR dX2_count_140 ck_2 fw_X2_20 rfl sh_482 rr_482_4 ?_
      refine J_iload dX2_count_143 rfl ?_
      refine J_iald dX2_count_145 sh_485 h.1.1 h.1.2 ?_
      replace h := h.2
      refine J_ior dX2_count_146 ?_
      refine J_iand dX2_count_147 ?_
      refine J_putI dX2_count_148 ck_2 fw_X2_79 rfl rfl (Or.inl rfl) sh_482 ?_
      replace h := h _ rfl
      refine J_aload_n dX2_count_151 rfl rfl ?_
      refine J_dup dX2_count_152 rfl ?_
      refine J_getI dX2_count_153 ck_2 fw_X2_82 rfl sh_482 ?_
      refine J_aload_n dX2_count_156 rfl rfl ?_
      refine J_getR dX2_count_157 ck_2 fw_X2_23 rfl sh_482 rr_482_5 ?_
      refine J_iload_n dX2_count_160 rfl rfl ?_
      refine J_zald dX2_count_161 sh_486 h.1.1 h.1.2 ?_
      replace h := h.2
      refine J_if_eq (tgt := 169) dX2_count_162 (by decide) (fun c => ?_) (fun c => ?_)
      · replace h := h.1 c
        refine J_iconst dX2_count_169 (ii_c rfl) ?_
        refine J_aload_n dX2_count_170 rfl rfl ?_
        refine J_getR dX2_count_171 ck_2 fw_X2_23 rfl sh_482 rr_482_5 ?_
        refine J_iload_n dX2_count_174 rfl rfl ?_
        refine J_zald dX2_count_175 sh_486 h.1.1 h.1.2 ?_
        replace h := h.2
        refine J_if_eq (tgt := 183) dX2_count_176 (by decide) (fun c => ?_) (fun c => ?_)
        · replace h := h.1 c
          refine J_iconst dX2_count_183 (ii_c rfl) ?_
          refine J_ior dX2_count_184 ?_
          refine J_aload_n dX2_count_185 rfl rfl ?_
          refine J_getR dX2_count_186 ck_2 fw_X2_23 rfl sh_482 rr_482_5 ?_
          refine J_iload dX2_count_189 rfl ?_
          refine J_zald dX2_count_191 sh_486 h.1.1 h.1.2 ?_
          replace h := h.2
          refine J_if_eq (tgt := 199) dX2_count_192 (by decide) (fun c => ?_) (fun c => ?_)
          · replace h := h.1 c
            refine J_iconst dX2_count_199 (ii_c rfl) ?_
            refine J_ior dX2_count_200 ?_
            refine J_ior dX2_count_201 ?_
            refine J_putI dX2_count_202 ck_2 fw_X2_82 rfl rfl (Or.inl rfl) sh_482 ?_
            replace h := h _ rfl
            refine J_iincN dX2_count_205 rfl (by decide) h.1 ?_
            replace h := h.2
            change J _ _ _ _ _ _ [(0, _), (1, _), (2, _), (3, _), (4, _), (5, _)] _ _ _
            refine J_goto (tgt := 63) dX2_count_208 (by decide) ?_
            exact h
          · replace h := h.2 c
            refine J_iconst dX2_count_195 (ii_c rfl) ?_
            refine J_goto (tgt := 200) dX2_count_196 (by decide) ?_
            refine J_ior dX2_count_200 ?_
            refine J_ior dX2_count_201 ?_
            refine J_putI dX2_count_202 ck_2 fw_X2_82 rfl rfl (Or.inl rfl) sh_482 ?_
            replace h := h _ rfl
            refine J_iincN dX2_count_205 rfl (by decide) h.1 ?_
            replace h := h.2
            change J _ _ _ _ _ _ [(0, _), (1, _), (2, _), (3, _), (4, _), (5, _)] _ _ _
            refine J_goto (tgt := 63) dX2_count_208 (by decide) ?_
            exact h
        · replace h := h.2 c
          refine J_iconst dX2_count_179 (ii_c rfl) ?_
          refine J_goto (tgt := 184) dX2_count_180 (by decide) ?_
          refine J_ior dX2_count_184 ?_
          refine J_aload_n dX2_count_185 rfl rfl ?_
          refine J_getR dX2_count_186 ck_2 fw_X2_23 rfl sh_482 rr_482_5 ?_
          refine J_iload dX2_count_189 rfl ?_
          refine J_zald dX2_count_191 sh_486 h.1.1 h.1.2 ?_
          replace h := h.2
          refine J_if_eq (tgt := 199) dX2_count_192 (by decide) (fun c => ?_) (fun c => ?_)
          · replace h := h.1 c
            refine J_iconst dX2_count_199 (ii_c rfl) ?_
            refine J_ior dX2_count_200 ?_
            refine J_ior dX2_count_201 ?_
            refine J_putI dX2_count_202 ck_2 fw_X2_82 rfl rfl (Or.inl rfl) sh_482 ?_
            replace h := h _ rfl
            refine J_iincN dX2_count_205 rfl (by decide) h.1 ?_
            replace h := h.2
            change J _ _ _ _ _ _ [(0, _), (1, _), (2, _), (3, _), (4, _), (5, _)] _ _ _
            refine J_goto (tgt := 63) dX2_count_208 (by decide) ?_
            exact h
          · replace h := h.2 c
            refine J_iconst dX2_count_195 (ii_c rfl) ?_
            refine J_goto (tgt := 200) dX2_count_196 (by decide) ?_
            refine J_ior dX2_count_200 ?_
            refine J_ior dX2_count_201 ?_
            refine J_putI dX2_count_202 ck_2 fw_X2_82 rfl rfl (Or.inl rfl) sh_482 ?_
            replace h := h _ rfl
            refine J_iincN dX2_count_205 rfl (by decide) h.1 ?_
            replace h := h.2
            change J _ _ _ _ _ _ [(0, _), (1, _), (2, _), (3, _), (4, _), (5, _)] _ _ _
            refine J_goto (tgt := 63) dX2_count_208 (by decide) ?_
            exact h
      · replace h := h.2 c
        refine J_iconst dX2_count_165 (ii_c rfl) ?_
        refine J_goto (tgt := 170) dX2_count_166 (by decide) ?_
        refine J_aload_n dX2_count_170 rfl rfl ?_
        refine J_getR dX2_count_171 ck_2 fw_X2_23 rfl sh_482 rr_482_5 ?_
        refine J_iload_n dX2_count_174 rfl rfl ?_
        refine J_zald dX2_count_175 sh_486 h.1.1 h.1.2 ?_
        replace h := h.2
        refine J_if_eq (tgt := 183) dX2_count_176 (by decide) (fun c => ?_) (fun c => ?_)
        · replace h := h.1 c
          refine J_iconst dX2_count_183 (ii_c rfl) ?_
          refine J_ior dX2_count_184 ?_
          refine J_aload_n dX2_count_185 rfl rfl ?_
          refine J_getR dX2_count_186 ck_2 fw_X2_23 rfl sh_482 rr_482_5 ?_
          refine J_iload dX2_count_189 rfl ?_
          refine J_zald dX2_count_191 sh_486 h.1.1 h.1.2 ?_
          replace h := h.2
          refine J_if_eq (tgt := 199) dX2_count_192 (by decide) (fun c => ?_) (fun c => ?_)
          · replace h := h.1 c
            refine J_iconst dX2_count_199 (ii_c rfl) ?_
            refine J_ior dX2_count_200 ?_
            refine J_ior dX2_count_201 ?_
            refine J_putI dX2_count_202 ck_2 fw_X2_82 rfl rfl (Or.inl rfl) sh_482 ?_
            replace h := h _ rfl
            refine J_iincN dX2_count_205 rfl (by decide) h.1 ?_
            replace h := h.2
            change J _ _ _ _ _ _ [(0, _), (1, _), (2, _), (3, _), (4, _), (5, _)] _ _ _
            refine J_goto (tgt := 63) dX2_count_208 (by decide) ?_
            exact h
          · replace h := h.2 c
            refine J_iconst dX2_count_195 (ii_c rfl) ?_
            refine J_goto (tgt := 200) dX2_count_196 (by decide) ?_
            refine J_ior dX2_count_200 ?_
            refine J_ior dX2_count_201 ?_
            refine J_putI dX2_count_202 ck_2 fw_X2_82 rfl rfl (Or.inl rfl) sh_482 ?_
            replace h := h _ rfl
            refine J_iincN dX2_count_205 rfl (by decide) h.1 ?_
            replace h := h.2
            change J _ _ _ _ _ _ [(0, _), (1, _), (2, _), (3, _), (4, _), (5, _)] _ _ _
            refine J_goto (tgt := 63) dX2_count_208 (by decide) ?_
            exact h
        · replace h := h.2 c
          refine J_iconst dX2_count_179 (ii_c rfl) ?_
          refine J_goto (tgt := 184) dX2_count_180 (by decide) ?_
          refine J_ior dX2_count_184 ?_
          refine J_aload_n dX2_count_185 rfl rfl ?_
          refine J_getR dX2_count_186 ck_2 fw_X2_23 rfl sh_482 rr_482_5 ?_
          refine J_iload dX2_count_189 rfl ?_
          refine J_zald dX2_count_191 sh_486 h.1.1 h.1.2 ?_
          replace h := h.2
          refine J_if_eq (tgt := 199) dX2_count_192 (by decide) (fun c => ?_) (fun c => ?_)
          · replace h := h.1 c
            refine J_iconst dX2_count_199 (ii_c rfl) ?_
            refine J_ior dX2_count_200 ?_
            refine J_ior dX2_count_201 ?_
            refine J_putI dX2_count_202 ck_2 fw_X2_82 rfl rfl (Or.inl rfl) sh_482 ?_
            replace h := h _ rfl
            refine J_iincN dX2_count_205 rfl (by decide) h.1 ?_
            replace h := h.2
            change J _ _ _ _ _ _ [(0, _), (1, _), (2, _), (3, _), (4, _), (5, _)] _ _ _
            refine J_goto (tgt := 63) dX2_count_208 (by decide) ?_
            exact h
          · replace h := h.2 c
            refine J_iconst dX2_count_195 (ii_c rfl) ?_
            refine J_goto (tgt := 200) dX2_count_196 (by decide) ?_
            refine J_ior dX2_count_200 ?_
            refine J_ior dX2_count_201 ?_
            refine J_putI dX2_count_202 ck_2 fw_X2_82 rfl rfl (Or.inl rfl) sh_482 ?_
            replace h := h _ rfl
            refine J_iincN dX2_count_205 rfl (by decide) h.1 ?_
            replace h := h.2
            change J _ _ _ _ _ _ [(0, _), (1, _), (2, _), (3, _), (4, _), (5, _)] _ _ _
            refine J_goto (tgt := 63) dX2_count_208 (by decide) ?_
            exact h
set_option maxRecDepth 20000 in
set_option maxHeartbeats 2000000 in
theorem bk_X10_feed_0 {d : Nat} {I : HI} {Q : Option AV → AH → Prop} {a1 : Int} {a2 : Int} {a3 : Int} {a4 : Int} {a5 : Int}  (h : (-2147483648 ≤ (I 0 12) + 20 ∧ (I 0 12) + 20 ≤ 2147483647) ∧ ((((I 0 12) + 20) ≤ 1600 → CV mX10_tapeNumber d [vR 0, vI a1] I (fun I1 => CV mX10_tapeNumber d [vR 0, vI a2] I1 (fun I2 => CV mX10_tapeNumber d [vR 0, vI a3] I2 (fun I3 => CV mX10_tapeNumber d [vR 0, vI a4] I3 (fun I4 => CV mX10_tapeNumber d [vR 0, vI a5] I4 (fun I5 => Q (some (vI (I5 0 12))) (mk I5))))))) ∧ (¬ (((I 0 12) + 20) ≤ 1600) → Q (some (vI (-1))) (mk I)))) : J none mX10_feed (d + 1) 0 0 0 [(0, vR 0), (1, vI a1), (2, vI a2), (3, vI a3), (4, vI a4), (5, vI a5)] [] (mk I) Q := by
  refine J_aload_n dX10_feed_0 rfl rfl ?_
  refine J_getI dX10_feed_1 ck_10 fw_X10_102 rfl sh_0 ?_
  refine J_bipush dX10_feed_4 (ii_c rfl) (by decide) ?_
  refine J_iaddN dX10_feed_6 h.1 ?_
  replace h := h.2
  refine J_sipush dX10_feed_7 (ii_c rfl) (by decide) ?_
  refine J_ic_le (tgt := 15) dX10_feed_10 (by decide) (fun c => ?_) (fun c => ?_)
  · replace h := h.1 c
    refine J_aload_n dX10_feed_15 rfl rfl ?_
    refine J_iload_n dX10_feed_16 rfl rfl ?_
    refine J_callV (as := [_]) (mc1 := 0) (ms1 := 0) (mc := 0) (ms := 0) dX10_feed_17 mv_X10_tapeNumber lk_X10_105 sh_0 rfl (Nat.le_of_ble_eq_true rfl) (Nat.le_of_ble_eq_true rfl) h (fun r σ hq _ => ?_)
    obtain ⟨I1, rfl, rfl, h⟩ := hq
    change J _ _ _ _ _ _ _ [] _ _
    refine J_aload_n dX10_feed_20 rfl rfl ?_
    refine J_iload_n dX10_feed_21 rfl rfl ?_
    refine J_callV (as := [_]) (mc1 := 0) (ms1 := 0) (mc := 0) (ms := 0) dX10_feed_22 mv_X10_tapeNumber lk_X10_105 sh_0 rfl (Nat.le_of_ble_eq_true rfl) (Nat.le_of_ble_eq_true rfl) h (fun r σ hq _ => ?_)
    obtain ⟨I2, rfl, rfl, h⟩ := hq
    change J _ _ _ _ _ _ _ [] _ _
    refine J_aload_n dX10_feed_25 rfl rfl ?_
    refine J_iload_n dX10_feed_26 rfl rfl ?_
    refine J_callV (as := [_]) (mc1 := 0) (ms1 := 0) (mc := 0) (ms := 0) dX10_feed_27 mv_X10_tapeNumber lk_X10_105 sh_0 rfl (Nat.le_of_ble_eq_true rfl) (Nat.le_of_ble_eq_true rfl) h (fun r σ hq _ => ?_)
    obtain ⟨I3, rfl, rfl, h⟩ := hq
    change J _ _ _ _ _ _ _ [] _ _
    refine J_aload_n dX10_feed_30 rfl rfl ?_
    refine J_iload dX10_feed_31 rfl ?_
    refine J_callV (as := [_]) (mc1 := 0) (ms1 := 0) (mc := 0) (ms := 0) dX10_feed_33 mv_X10_tapeNumber lk_X10_105 sh_0 rfl (Nat.le_of_ble_eq_true rfl) (Nat.le_of_ble_eq_true rfl) h (fun r σ hq _ => ?_)
    obtain ⟨I4, rfl, rfl, h⟩ := hq
    change J _ _ _ _ _ _ _ [] _ _
    refine J_aload_n dX10_feed_36 rfl rfl ?_
    refine J_iload dX10_feed_37 rfl ?_
    refine J_callV (as := [_]) (mc1 := 0) (ms1 := 0) (mc := 0) (ms := 0) dX10_feed_39 mv_X10_tapeNumber lk_X10_105 sh_0 rfl (Nat.le_of_ble_eq_true rfl) (Nat.le_of_ble_eq_true rfl) h (fun r σ hq _ => ?_)
    obtain ⟨I5, rfl, rfl, h⟩ := hq
    change J _ _ _ _ _ _ _ [] _ _
    refine J_aload_n dX10_feed_42 rfl rfl ?_
    refine J_getI dX10_feed_43 ck_10 fw_X10_102 rfl sh_0 ?_
    exact J_reti dX10_feed_46 rfl h
  · replace h := h.2 c
    refine J_iconst dX10_feed_13 (ii_c rfl) ?_
    exact J_reti dX10_feed_14 rfl h
set_option maxRecDepth 20000 in
set_option maxHeartbeats 2000000 in
theorem bk_X10_tapeNumber_0 {d : Nat} {I : HI} {Q : Option AV → AH → Prop} {a1 : Int}  (h : J none mX10_tapeNumber (d + 1) 0 0 3 [(0, vR 0), (1, vI a1), (2, vI 24)] [] (mk I) Q) : J none mX10_tapeNumber (d + 1) 0 0 0 [(0, vR 0), (1, vI a1)] [] (mk I) Q := by
  refine J_bipush dX10_tapeNumber_0 (ii_c rfl) (by decide) ?_
  refine J_istore_n dX10_tapeNumber_2 rfl (by decide) ?_
  change J _ _ _ _ _ _ [(0, _), (1, _), (2, _)] _ _ _
  exact h
set_option maxRecDepth 20000 in
set_option maxHeartbeats 2000000 in
theorem bk_X10_tapeNumber_3 {d : Nat} {I : HI} {Q : Option AV → AH → Prop} {a1 : Int} {a2 : Int}  (h : ((a2 < 0 → Q none (mk I)) ∧ (¬ (a2 < 0) → ((1600 ≤ (I 0 12) → Q none (mk I)) ∧ (¬ (1600 ≤ (I 0 12)) → (-2147483648 ≤ (I 0 12) + 1 ∧ (I 0 12) + 1 ≤ 2147483647) ∧ (∀ I1 : HI, I1 = up I 0 12 ((I 0 12) + 1) → ((0 : Int) ≤ (I 0 12) ∧ (I 0 12 : Int) < 1600) ∧ (∀ I2 : HI, I2 = up I1 27 (I 0 12).toNat (oA (oUr a1 a2) 255) → (-2147483648 ≤ a2 + (-8) ∧ a2 + (-8) ≤ 2147483647) ∧ J none mX10_tapeNumber (d + 1) 0 0 3 [(0, vR 0), (1, vI a1), (2, vI (a2 + (-8)))] [] (mk I2) Q))))))) : J none mX10_tapeNumber (d + 1) 0 0 3 [(0, vR 0), (1, vI a1), (2, vI a2)] [] (mk I) Q := by
  refine J_iload_n dX10_tapeNumber_3 rfl rfl ?_
  refine J_if_lt (tgt := 46) dX10_tapeNumber_4 (by decide) (fun c => ?_) (fun c => ?_)
  · replace h := h.1 c
    exact J_retv dX10_tapeNumber_46 rfl h
  · replace h := h.2 c
    refine J_aload_n dX10_tapeNumber_7 rfl rfl ?_
    refine J_getI dX10_tapeNumber_8 ck_10 fw_X10_102 rfl sh_0 ?_
    refine J_sipush dX10_tapeNumber_11 (ii_c rfl) (by decide) ?_
    refine J_ic_ge (tgt := 46) dX10_tapeNumber_14 (by decide) (fun c => ?_) (fun c => ?_)
    · replace h := h.1 c
      exact J_retv dX10_tapeNumber_46 rfl h
    · replace h := h.2 c
      refine J_aload_n dX10_tapeNumber_17 rfl rfl ?_
      refine J_getR dX10_tapeNumber_18 ck_10 fw_X10_19 rfl sh_0 rr_0_2 ?_
      refine J_aload_n dX10_tapeNumber_21 rfl rfl ?_
      refine J_dup dX10_tapeNumber_22 rfl ?_
      refine J_getI dX10_tapeNumber_23 ck_10 fw_X10_102 rfl sh_0 ?_
      refine J_dup_x1 dX10_tapeNumber_26 rfl rfl ?_
      refine J_iconst dX10_tapeNumber_27 (ii_c rfl) ?_
      refine J_iaddN dX10_tapeNumber_28 h.1 ?_
      replace h := h.2
      refine J_putI dX10_tapeNumber_29 ck_10 fw_X10_102 rfl rfl (Or.inl rfl) sh_0 ?_
      replace h := h _ rfl
      refine J_iload_n dX10_tapeNumber_32 rfl rfl ?_
      refine J_iload_n dX10_tapeNumber_33 rfl rfl ?_
      refine J_iushr dX10_tapeNumber_34 ?_
      refine J_sipush dX10_tapeNumber_35 (ii_c rfl) (by decide) ?_
      refine J_iand dX10_tapeNumber_38 ?_
      refine J_iast dX10_tapeNumber_39 sh_27 h.1.1 h.1.2 ?_
      replace h := h.2 _ rfl
      refine J_iincN dX10_tapeNumber_40 rfl (by decide) h.1 ?_
      replace h := h.2
      change J _ _ _ _ _ _ [(0, _), (1, _), (2, _)] _ _ _
      refine J_goto (tgt := 3) dX10_tapeNumber_43 (by decide) ?_
      exact h
set_option maxRecDepth 20000 in
set_option maxHeartbeats 2000000 in
theorem bk_X10_end_0 {d : Nat} {I : HI} {Q : Option AV → AH → Prop} {a1 : Int}  (h : ((a1 < 0 → Q (some (vI 0)) (mk I)) ∧ (¬ (a1 < 0) → ((a1 ≤ (I 0 12) → (∀ I1 : HI, I1 = up I 0 12 a1 → Q (some (vI 1)) (mk I1))) ∧ (¬ (a1 ≤ (I 0 12)) → Q (some (vI 0)) (mk I)))))) : J none mX10_end (d + 1) 0 0 0 [(0, vR 0), (1, vI a1)] [] (mk I) Q := by
  refine J_iload_n dX10_end_0 rfl rfl ?_
  refine J_if_lt (tgt := 12) dX10_end_1 (by decide) (fun c => ?_) (fun c => ?_)
  · replace h := h.1 c
    refine J_iconst dX10_end_12 (ii_c rfl) ?_
    exact J_retz dX10_end_13 rfl (Or.inl rfl) h
  · replace h := h.2 c
    refine J_iload_n dX10_end_4 rfl rfl ?_
    refine J_aload_n dX10_end_5 rfl rfl ?_
    refine J_getI dX10_end_6 ck_10 fw_X10_102 rfl sh_0 ?_
    refine J_ic_le (tgt := 14) dX10_end_9 (by decide) (fun c => ?_) (fun c => ?_)
    · replace h := h.1 c
      refine J_aload_n dX10_end_14 rfl rfl ?_
      refine J_iload_n dX10_end_15 rfl rfl ?_
      refine J_putI dX10_end_16 ck_10 fw_X10_102 rfl rfl (Or.inl rfl) sh_0 ?_
      replace h := h _ rfl
      refine J_iconst dX10_end_19 (ii_c rfl) ?_
      exact J_retz dX10_end_20 rfl (Or.inr rfl) h
    · replace h := h.2 c
      refine J_iconst dX10_end_12 (ii_c rfl) ?_
      exact J_retz dX10_end_13 rfl (Or.inl rfl) h
set_option maxRecDepth 20000 in
set_option maxHeartbeats 2000000 in
theorem bk_X10_city_0 {d : Nat} {I : HI} {Q : Option AV → AH → Prop}   (h : CV mX7_open d [vR 28, vI (I 0 12)] I (fun I1 => (∀ I2 : HI, I2 = up I1 0 12 0 → J none mX10_city (d + 1) 0 0 20 [(0, vR 0), (1, vI 0), (2, vI 1)] [] (mk I2) Q))) : J none mX10_city (d + 1) 0 0 0 [(0, vR 0)] [] (mk I) Q := by
  refine J_aload_n dX10_city_0 rfl rfl ?_
  refine J_getR dX10_city_1 ck_10 fw_X10_28 rfl sh_0 rr_0_3 ?_
  refine J_aload_n dX10_city_4 rfl rfl ?_
  refine J_getI dX10_city_5 ck_10 fw_X10_102 rfl sh_0 ?_
  refine J_callV (as := [_]) (mc1 := 0) (ms1 := 0) (mc := 0) (ms := 0) dX10_city_8 mv_X7_open lk_X10_109 sh_28 rfl (Nat.le_of_ble_eq_true rfl) (Nat.le_of_ble_eq_true rfl) h (fun r σ hq _ => ?_)
  obtain ⟨I1, rfl, rfl, h⟩ := hq
  change J _ _ _ _ _ _ _ [] _ _
  refine J_aload_n dX10_city_11 rfl rfl ?_
  refine J_iconst dX10_city_12 (ii_c rfl) ?_
  refine J_putI dX10_city_13 ck_10 fw_X10_102 rfl rfl (Or.inl rfl) sh_0 ?_
  replace h := h _ rfl
  refine J_iconst dX10_city_16 (ii_c rfl) ?_
  refine J_istore_n dX10_city_17 rfl (by decide) ?_
  change J _ _ _ _ _ _ [(0, _), (1, _)] _ _ _
  refine J_iconst dX10_city_18 (ii_c rfl) ?_
  refine J_istore_n dX10_city_19 rfl (by decide) ?_
  change J _ _ _ _ _ _ [(0, _), (1, _), (2, _)] _ _ _
  exact h
set_option maxRecDepth 20000 in
set_option maxHeartbeats 2000000 in
theorem bk_X10_city_20 {d : Nat} {I : HI} {Q : Option AV → AH → Prop} {a1 : Int} {a2 : Int}  (h : ((a2 = 0 → (∀ I1 : HI, I1 = up I 0 14 (I 28 13) → (∀ I2 : HI, I2 = up I1 0 15 (I1 28 14) → ((a2 ≠ 0 → CV mX0_settle d [vR 14] I2 (fun I3 => CV mX0_copyFrom d [vR 1, vR 14] I3 (fun I4 => CV mX9_begin d [vR 32] I4 (fun I5 => CV mX1_forget d [vR 62] I5 (fun I6 => Q (some (vI a1)) (mk I6)))))) ∧ (a2 = 0 → Q (some (vI (-1))) (mk I2)))))) ∧ (¬ (a2 = 0) → ((70 < a1 → (∀ I7 : HI, I7 = up I 0 14 (I 28 13) → (∀ I8 : HI, I8 = up I7 0 15 (I7 28 14) → ((a2 ≠ 0 → CV mX0_settle d [vR 14] I8 (fun I9 => CV mX0_copyFrom d [vR 1, vR 14] I9 (fun I10 => CV mX9_begin d [vR 32] I10 (fun I11 => CV mX1_forget d [vR 62] I11 (fun I12 => Q (some (vI a1)) (mk I12)))))) ∧ (a2 = 0 → Q (some (vI (-1))) (mk I8)))))) ∧ (¬ (70 < a1) → CI mX7_more d [vR 28] I (fun x9 I13 => ((x9 = 0 → (∀ I14 : HI, I14 = up I13 0 14 (I13 28 13) → (∀ I15 : HI, I15 = up I14 0 15 (I14 28 14) → ((a2 ≠ 0 → CV mX0_settle d [vR 14] I15 (fun I16 => CV mX0_copyFrom d [vR 1, vR 14] I16 (fun I17 => CV mX9_begin d [vR 32] I17 (fun I18 => CV mX1_forget d [vR 62] I18 (fun I19 => Q (some (vI a1)) (mk I19)))))) ∧ (a2 = 0 → Q (some (vI (-1))) (mk I15)))))) ∧ (¬ (x9 = 0) → ((70 ≤ a1 → CI mX7_fail d [vR 28, vI 5, vI (I13 28 6)] I13 (fun x14 I20 => (-2147483648 ≤ a1 + 1 ∧ a1 + 1 ≤ 2147483647) ∧ J none mX10_city (d + 1) 0 0 20 [(0, vR 0), (1, vI (a1 + 1)), (2, vI x14)] [] (mk I20) Q)) ∧ (¬ (70 ≤ a1) → CI mX7_statement d [vR 28] I13 (fun x15 I21 => (-2147483648 ≤ a1 + 1 ∧ a1 + 1 ≤ 2147483647) ∧ J none mX10_city (d + 1) 0 0 20 [(0, vR 0), (1, vI (a1 + 1)), (2, vI x15)] [] (mk I21) Q))))))))))) : J none mX10_city (d + 1) 0 0 20 [(0, vR 0), (1, vI a1), (2, vI a2)] [] (mk I) Q := by
  refine J_iload_n dX10_city_20 rfl rfl ?_
  refine J_if_eq (tgt := 78) dX10_city_21 (by decide) (fun c => ?_) (fun c => ?_)
  · replace h := h.1 c
    refine J_aload_n dX10_city_78 rfl rfl ?_
    refine J_aload_n dX10_city_79 rfl rfl ?_
    refine J_getR dX10_city_80 ck_10 fw_X10_28 rfl sh_0 rr_0_3 ?_
    refine J_getI dX10_city_83 ck_7 fw_X10_126 rfl sh_28 ?_
    refine J_putI dX10_city_86 ck_10 fw_X10_129 rfl rfl (Or.inl rfl) sh_0 ?_
    replace h := h _ rfl
    refine J_aload_n dX10_city_89 rfl rfl ?_
    refine J_aload_n dX10_city_90 rfl rfl ?_
    refine J_getR dX10_city_91 ck_10 fw_X10_28 rfl sh_0 rr_0_3 ?_
    refine J_getI dX10_city_94 ck_7 fw_X10_130 rfl sh_28 ?_
    refine J_putI dX10_city_97 ck_10 fw_X10_92 rfl rfl (Or.inl rfl) sh_0 ?_
    replace h := h _ rfl
    refine J_iload_n dX10_city_100 rfl rfl ?_
    refine J_if_ne (tgt := 106) dX10_city_101 (by decide) (fun c => ?_) (fun c => ?_)
    · replace h := h.1 c
      refine J_aload_n dX10_city_106 rfl rfl ?_
      refine J_getR dX10_city_107 ck_10 fw_X10_16 rfl sh_0 rr_0_1 ?_
      refine J_callV (as := []) (mc1 := 0) (ms1 := 0) (mc := 0) (ms := 0) dX10_city_110 mv_X0_settle lk_X10_131 sh_14 rfl (Nat.le_of_ble_eq_true rfl) (Nat.le_of_ble_eq_true rfl) h (fun r σ hq _ => ?_)
      obtain ⟨I3, rfl, rfl, h⟩ := hq
      change J _ _ _ _ _ _ _ [] _ _
      refine J_aload_n dX10_city_113 rfl rfl ?_
      refine J_getR dX10_city_114 ck_10 fw_X10_10 rfl sh_0 rr_0_0 ?_
      refine J_aload_n dX10_city_117 rfl rfl ?_
      refine J_getR dX10_city_118 ck_10 fw_X10_16 rfl sh_0 rr_0_1 ?_
      refine J_callV (as := [_]) (mc1 := 0) (ms1 := 0) (mc := 0) (ms := 0) dX10_city_121 mv_X0_copyFrom lk_X10_134 sh_1 rfl (Nat.le_of_ble_eq_true rfl) (Nat.le_of_ble_eq_true rfl) h (fun r σ hq _ => ?_)
      obtain ⟨I4, rfl, rfl, h⟩ := hq
      change J _ _ _ _ _ _ _ [] _ _
      refine J_aload_n dX10_city_124 rfl rfl ?_
      refine J_getR dX10_city_125 ck_10 fw_X10_37 rfl sh_0 rr_0_4 ?_
      refine J_callV (as := []) (mc1 := 0) (ms1 := 0) (mc := 0) (ms := 0) dX10_city_128 mv_X9_begin lk_X10_99 sh_32 rfl (Nat.le_of_ble_eq_true rfl) (Nat.le_of_ble_eq_true rfl) h (fun r σ hq _ => ?_)
      obtain ⟨I5, rfl, rfl, h⟩ := hq
      change J _ _ _ _ _ _ _ [] _ _
      refine J_aload_n dX10_city_131 rfl rfl ?_
      refine J_getR dX10_city_132 ck_10 fw_X10_51 rfl sh_0 rr_0_6 ?_
      refine J_callV (as := []) (mc1 := 0) (ms1 := 0) (mc := 0) (ms := 0) dX10_city_135 mv_X1_forget lk_X10_137 sh_62 rfl (Nat.le_of_ble_eq_true rfl) (Nat.le_of_ble_eq_true rfl) h (fun r σ hq _ => ?_)
      obtain ⟨I6, rfl, rfl, h⟩ := hq
      change J _ _ _ _ _ _ _ [] _ _
      refine J_iload_n dX10_city_138 rfl rfl ?_
      exact J_reti dX10_city_139 rfl h
    · replace h := h.2 c
      refine J_iconst dX10_city_104 (ii_c rfl) ?_
      exact J_reti dX10_city_105 rfl h
  · replace h := h.2 c
    refine J_iload_n dX10_city_24 rfl rfl ?_
    refine J_bipush dX10_city_25 (ii_c rfl) (by decide) ?_
    refine J_ic_gt (tgt := 78) dX10_city_27 (by decide) (fun c => ?_) (fun c => ?_)
    · replace h := h.1 c
      refine J_aload_n dX10_city_78 rfl rfl ?_
      refine J_aload_n dX10_city_79 rfl rfl ?_
      refine J_getR dX10_city_80 ck_10 fw_X10_28 rfl sh_0 rr_0_3 ?_
      refine J_getI dX10_city_83 ck_7 fw_X10_126 rfl sh_28 ?_
      refine J_putI dX10_city_86 ck_10 fw_X10_129 rfl rfl (Or.inl rfl) sh_0 ?_
      replace h := h _ rfl
      refine J_aload_n dX10_city_89 rfl rfl ?_
      refine J_aload_n dX10_city_90 rfl rfl ?_
      refine J_getR dX10_city_91 ck_10 fw_X10_28 rfl sh_0 rr_0_3 ?_
      refine J_getI dX10_city_94 ck_7 fw_X10_130 rfl sh_28 ?_
      refine J_putI dX10_city_97 ck_10 fw_X10_92 rfl rfl (Or.inl rfl) sh_0 ?_
      replace h := h _ rfl
      refine J_iload_n dX10_city_100 rfl rfl ?_
      refine J_if_ne (tgt := 106) dX10_city_101 (by decide) (fun c => ?_) (fun c => ?_)
      · replace h := h.1 c
        refine J_aload_n dX10_city_106 rfl rfl ?_
        refine J_getR dX10_city_107 ck_10 fw_X10_16 rfl sh_0 rr_0_1 ?_
        refine J_callV (as := []) (mc1 := 0) (ms1 := 0) (mc := 0) (ms := 0) dX10_city_110 mv_X0_settle lk_X10_131 sh_14 rfl (Nat.le_of_ble_eq_true rfl) (Nat.le_of_ble_eq_true rfl) h (fun r σ hq _ => ?_)
        obtain ⟨I9, rfl, rfl, h⟩ := hq
        change J _ _ _ _ _ _ _ [] _ _
        refine J_aload_n dX10_city_113 rfl rfl ?_
        refine J_getR dX10_city_114 ck_10 fw_X10_10 rfl sh_0 rr_0_0 ?_
        refine J_aload_n dX10_city_117 rfl rfl ?_
        refine J_getR dX10_city_118 ck_10 fw_X10_16 rfl sh_0 rr_0_1 ?_
        refine J_callV (as := [_]) (mc1 := 0) (ms1 := 0) (mc := 0) (ms := 0) dX10_city_121 mv_X0_copyFrom lk_X10_134 sh_1 rfl (Nat.le_of_ble_eq_true rfl) (Nat.le_of_ble_eq_true rfl) h (fun r σ hq _ => ?_)
        obtain ⟨I10, rfl, rfl, h⟩ := hq
        change J _ _ _ _ _ _ _ [] _ _
        refine J_aload_n dX10_city_124 rfl rfl ?_
        refine J_getR dX10_city_125 ck_10 fw_X10_37 rfl sh_0 rr_0_4 ?_
        refine J_callV (as := []) (mc1 := 0) (ms1 := 0) (mc := 0) (ms := 0) dX10_city_128 mv_X9_begin lk_X10_99 sh_32 rfl (Nat.le_of_ble_eq_true rfl) (Nat.le_of_ble_eq_true rfl) h (fun r σ hq _ => ?_)
        obtain ⟨I11, rfl, rfl, h⟩ := hq
        change J _ _ _ _ _ _ _ [] _ _
        refine J_aload_n dX10_city_131 rfl rfl ?_
        refine J_getR dX10_city_132 ck_10 fw_X10_51 rfl sh_0 rr_0_6 ?_
        refine J_callV (as := []) (mc1 := 0) (ms1 := 0) (mc := 0) (ms := 0) dX10_city_135 mv_X1_forget lk_X10_137 sh_62 rfl (Nat.le_of_ble_eq_true rfl) (Nat.le_of_ble_eq_true rfl) h (fun r σ hq _ => ?_)
        obtain ⟨I12, rfl, rfl, h⟩ := hq
        change J _ _ _ _ _ _ _ [] _ _
        refine J_iload_n dX10_city_138 rfl rfl ?_
        exact J_reti dX10_city_139 rfl h
      · replace h := h.2 c
        refine J_iconst dX10_city_104 (ii_c rfl) ?_
        exact J_reti dX10_city_105 rfl h
    · replace h := h.2 c
      refine J_aload_n dX10_city_30 rfl rfl ?_
      refine J_getR dX10_city_31 ck_10 fw_X10_28 rfl sh_0 rr_0_3 ?_
      refine J_callV (as := []) (mc1 := 0) (ms1 := 0) (mc := 0) (ms := 0) dX10_city_34 mv_X7_more lk_X10_112 sh_28 rfl (Nat.le_of_ble_eq_true rfl) (Nat.le_of_ble_eq_true rfl) h (fun r σ hq _ => ?_)
      obtain ⟨x9, I13, rfl, rfl, h⟩ := hq
      change J _ _ _ _ _ _ _ [vI x9] _ _
      refine J_if_eq (tgt := 78) dX10_city_37 (by decide) (fun c => ?_) (fun c => ?_)
      · replace h := h.1 c
        refine J_aload_n dX10_city_78 rfl rfl ?_
        refine J_aload_n dX10_city_79 rfl rfl ?_
        refine J_getR dX10_city_80 ck_10 fw_X10_28 rfl sh_0 rr_0_3 ?_
        refine J_getI dX10_city_83 ck_7 fw_X10_126 rfl sh_28 ?_
        refine J_putI dX10_city_86 ck_10 fw_X10_129 rfl rfl (Or.inl rfl) sh_0 ?_
        replace h := h _ rfl
        refine J_aload_n dX10_city_89 rfl rfl ?_
        refine J_aload_n dX10_city_90 rfl rfl ?_
        refine J_getR dX10_city_91 ck_10 fw_X10_28 rfl sh_0 rr_0_3 ?_
        refine J_getI dX10_city_94 ck_7 fw_X10_130 rfl sh_28 ?_
        refine J_putI dX10_city_97 ck_10 fw_X10_92 rfl rfl (Or.inl rfl) sh_0 ?_
        replace h := h _ rfl
        refine J_iload_n dX10_city_100 rfl rfl ?_
        refine J_if_ne (tgt := 106) dX10_city_101 (by decide) (fun c => ?_) (fun c => ?_)
        · replace h := h.1 c
          refine J_aload_n dX10_city_106 rfl rfl ?_
          refine J_getR dX10_city_107 ck_10 fw_X10_16 rfl sh_0 rr_0_1 ?_
          refine J_callV (as := []) (mc1 := 0) (ms1 := 0) (mc := 0) (ms := 0) dX10_city_110 mv_X0_settle lk_X10_131 sh_14 rfl (Nat.le_of_ble_eq_true rfl) (Nat.le_of_ble_eq_true rfl) h (fun r σ hq _ => ?_)
          obtain ⟨I16, rfl, rfl, h⟩ := hq
          change J _ _ _ _ _ _ _ [] _ _
          refine J_aload_n dX10_city_113 rfl rfl ?_
          refine J_getR dX10_city_114 ck_10 fw_X10_10 rfl sh_0 rr_0_0 ?_
          refine J_aload_n dX10_city_117 rfl rfl ?_
          refine J_getR dX10_city_118 ck_10 fw_X10_16 rfl sh_0 rr_0_1 ?_
          refine J_callV (as := [_]) (mc1 := 0) (ms1 := 0) (mc := 0) (ms := 0) dX10_city_121 mv_X0_copyFrom lk_X10_134 sh_1 rfl (Nat.le_of_ble_eq_true rfl) (Nat.le_of_ble_eq_true rfl) h (fun r σ hq _ => ?_)
          obtain ⟨I17, rfl, rfl, h⟩ := hq
          change J _ _ _ _ _ _ _ [] _ _
          refine J_aload_n dX10_city_124 rfl rfl ?_
          refine J_getR dX10_city_125 ck_10 fw_X10_37 rfl sh_0 rr_0_4 ?_
          refine J_callV (as := []) (mc1 := 0) (ms1 := 0) (mc := 0) (ms := 0) dX10_city_128 mv_X9_begin lk_X10_99 sh_32 rfl (Nat.le_of_ble_eq_true rfl) (Nat.le_of_ble_eq_true rfl) h (fun r σ hq _ => ?_)
          obtain ⟨I18, rfl, rfl, h⟩ := hq
          change J _ _ _ _ _ _ _ [] _ _
          refine J_aload_n dX10_city_131 rfl rfl ?_
          refine J_getR dX10_city_132 ck_10 fw_X10_51 rfl sh_0 rr_0_6 ?_
          refine J_callV (as := []) (mc1 := 0) (ms1 := 0) (mc := 0) (ms := 0) dX10_city_135 mv_X1_forget lk_X10_137 sh_62 rfl (Nat.le_of_ble_eq_true rfl) (Nat.le_of_ble_eq_true rfl) h (fun r σ hq _ => ?_)
          obtain ⟨I19, rfl, rfl, h⟩ := hq
          change J _ _ _ _ _ _ _ [] _ _
          refine J_iload_n dX10_city_138 rfl rfl ?_
          exact J_reti dX10_city_139 rfl h
        · replace h := h.2 c
          refine J_iconst dX10_city_104 (ii_c rfl) ?_
          exact J_reti dX10_city_105 rfl h
      · replace h := h.2 c
        refine J_iload_n dX10_city_40 rfl rfl ?_
        refine J_bipush dX10_city_41 (ii_c rfl) (by decide) ?_
        refine J_ic_ge (tgt := 56) dX10_city_43 (by decide) (fun c => ?_) (fun c => ?_)
        · replace h := h.1 c
          refine J_aload_n dX10_city_56 rfl rfl ?_
          refine J_getR dX10_city_57 ck_10 fw_X10_28 rfl sh_0 rr_0_3 ?_
          refine J_iconst dX10_city_60 (ii_c rfl) ?_
          refine J_aload_n dX10_city_61 rfl rfl ?_
          refine J_getR dX10_city_62 ck_10 fw_X10_28 rfl sh_0 rr_0_3 ?_
          refine J_getI dX10_city_65 ck_7 fw_X10_119 rfl sh_28 ?_
          refine J_callV (as := [_, _]) (mc1 := 0) (ms1 := 0) (mc := 0) (ms := 0) dX10_city_68 mv_X7_fail lk_X10_122 sh_28 rfl (Nat.le_of_ble_eq_true rfl) (Nat.le_of_ble_eq_true rfl) h (fun r σ hq _ => ?_)
          obtain ⟨x14, I20, rfl, rfl, h⟩ := hq
          change J _ _ _ _ _ _ _ [vI x14] _ _
          refine J_istore_n dX10_city_71 rfl (by decide) ?_
          change J _ _ _ _ _ _ [(0, _), (1, _), (2, _)] _ _ _
          refine J_iincN dX10_city_72 rfl (by decide) h.1 ?_
          replace h := h.2
          change J _ _ _ _ _ _ [(0, _), (1, _), (2, _)] _ _ _
          refine J_goto (tgt := 20) dX10_city_75 (by decide) ?_
          exact h
        · replace h := h.2 c
          refine J_aload_n dX10_city_46 rfl rfl ?_
          refine J_getR dX10_city_47 ck_10 fw_X10_28 rfl sh_0 rr_0_3 ?_
          refine J_callV (as := []) (mc1 := 0) (ms1 := 0) (mc := 0) (ms := 0) dX10_city_50 mv_X7_statement lk_X10_116 sh_28 rfl (Nat.le_of_ble_eq_true rfl) (Nat.le_of_ble_eq_true rfl) h (fun r σ hq _ => ?_)
          obtain ⟨x15, I21, rfl, rfl, h⟩ := hq
          change J _ _ _ _ _ _ _ [vI x15] _ _
          refine J_goto (tgt := 71) dX10_city_53 (by decide) ?_
          refine J_istore_n dX10_city_71 rfl (by decide) ?_
          change J _ _ _ _ _ _ [(0, _), (1, _), (2, _)] _ _ _
          refine J_iincN dX10_city_72 rfl (by decide) h.1 ?_
          replace h := h.2
          change J _ _ _ _ _ _ [(0, _), (1, _), (2, _)] _ _ _
          refine J_goto (tgt := 20) dX10_city_75 (by decide) ?_
          exact h
set_option maxRecDepth 20000 in
set_option maxHeartbeats 2000000 in
theorem bk_X10_fault_0 {d : Nat} {I : HI} {Q : Option AV → AH → Prop} {a1 : Int}  (h : ((a1 = 0 → Q (some (vI (I 0 14))) (mk I)) ∧ (a1 = 1 → Q (some (vI (I 0 15))) (mk I)) ∧ ((a1 ≠ 0 ∧ a1 ≠ 1) → Q (some (vI (-1))) (mk I)))) : J none mX10_fault (d + 1) 0 0 0 [(0, vR 0), (1, vI a1)] [] (mk I) Q := by
  refine J_iload_n dX10_fault_0 rfl rfl ?_
  rcases (show a1 = 0 ∨ a1 = 1 ∨ (a1 ≠ 0 ∧ a1 ≠ 1) by omega) with c | c | c
  · replace h := h.1 c
    refine J_look (tgt := 28) (off := 27) dX10_fault_1 (by decide) (by rw [c]; rfl) (by decide) ?_
    refine J_aload_n dX10_fault_28 rfl rfl ?_
    refine J_getI dX10_fault_29 ck_10 fw_X10_129 rfl sh_0 ?_
    exact J_reti dX10_fault_32 rfl h
  · replace h := h.2.1 c
    refine J_look (tgt := 33) (off := 32) dX10_fault_1 (by decide) (by rw [c]; rfl) (by decide) ?_
    refine J_aload_n dX10_fault_33 rfl rfl ?_
    refine J_getI dX10_fault_34 ck_10 fw_X10_92 rfl sh_0 ?_
    exact J_reti dX10_fault_37 rfl h
  · replace h := h.2.2 c
    refine J_look (tgt := 38) (off := 37) dX10_fault_1 (by decide) (by simp [Op.lookupswitch.offset, Ne.symm (c.1), Ne.symm (c.2)]) (by decide) ?_
    refine J_iconst dX10_fault_38 (ii_c rfl) ?_
    exact J_reti dX10_fault_39 rfl h
set_option maxRecDepth 20000 in
set_option maxHeartbeats 2000000 in
theorem bk_X10_has_0 {d : Nat} {I : HI} {Q : Option AV → AH → Prop} {a1 : Int}  (h : (((a1 < 0 ∨ 9 < a1) → Q (some (vI (-1))) (mk I)) ∧ ((0 ≤ a1 ∧ a1 ≤ 4) → ((0 : Int) ≤ a1 ∧ (a1 : Int) < 5) ∧ Q (some (vI (I 2 a1.toNat))) (mk I)) ∧ (a1 = 5 → Q (some (vI (I 1 13))) (mk I)) ∧ (a1 = 6 → CI mJ6_bitCount_0f7a4 d [vI (I 1 12)] I (fun x1 I1 => Q (some (vI x1)) (mk I1))) ∧ (a1 = 7 → CI mX9_shutBits d [vR 32] I (fun x2 I2 => CI mJ6_bitCount_0f7a4 d [vI x2] I2 (fun x3 I3 => Q (some (vI x3)) (mk I3)))) ∧ (a1 = 8 → CI mX9_onBits d [vR 32] I (fun x4 I4 => Q (some (vI x4)) (mk I4))) ∧ (a1 = 9 → Q (some (vI (I 32 6))) (mk I)))) : J none mX10_has (d + 1) 0 0 0 [(0, vR 0), (1, vI a1)] [] (mk I) Q := by
  refine J_iload_n dX10_has_0 rfl rfl ?_
  rcases (show (a1 < 0 ∨ 9 < a1) ∨ a1 = 0 ∨ a1 = 1 ∨ a1 = 2 ∨ a1 = 3 ∨ a1 = 4 ∨ a1 = 5 ∨ a1 = 6 ∨ a1 = 7 ∨ a1 = 8 ∨ a1 = 9 by omega) with c | c | c | c | c | c | c | c | c | c | c
  · replace h := h.1 c
    refine J_tabOut (tgt := 112) dX10_has_1 c (by decide) ?_
    refine J_iconst dX10_has_112 (ii_c rfl) ?_
    exact J_reti dX10_has_113 rfl h
  · replace h := h.2.1 (by omega)
    refine J_tabIn (tgt := 56) (off := 55) dX10_has_1 (by omega) (by omega) (by rw [c]; rfl) (by decide) ?_
    refine J_aload_n dX10_has_56 rfl rfl ?_
    refine J_getR dX10_has_57 ck_10 fw_X10_10 rfl sh_0 rr_0_0 ?_
    refine J_getR dX10_has_60 ck_0 fw_X10_140 rfl sh_1 rr_1_0 ?_
    refine J_iload_n dX10_has_63 rfl rfl ?_
    refine J_iald dX10_has_64 sh_2 h.1.1 h.1.2 ?_
    replace h := h.2
    exact J_reti dX10_has_65 rfl h
  · replace h := h.2.1 (by omega)
    refine J_tabIn (tgt := 56) (off := 55) dX10_has_1 (by omega) (by omega) (by rw [c]; rfl) (by decide) ?_
    refine J_aload_n dX10_has_56 rfl rfl ?_
    refine J_getR dX10_has_57 ck_10 fw_X10_10 rfl sh_0 rr_0_0 ?_
    refine J_getR dX10_has_60 ck_0 fw_X10_140 rfl sh_1 rr_1_0 ?_
    refine J_iload_n dX10_has_63 rfl rfl ?_
    refine J_iald dX10_has_64 sh_2 h.1.1 h.1.2 ?_
    replace h := h.2
    exact J_reti dX10_has_65 rfl h
  · replace h := h.2.1 (by omega)
    refine J_tabIn (tgt := 56) (off := 55) dX10_has_1 (by omega) (by omega) (by rw [c]; rfl) (by decide) ?_
    refine J_aload_n dX10_has_56 rfl rfl ?_
    refine J_getR dX10_has_57 ck_10 fw_X10_10 rfl sh_0 rr_0_0 ?_
    refine J_getR dX10_has_60 ck_0 fw_X10_140 rfl sh_1 rr_1_0 ?_
    refine J_iload_n dX10_has_63 rfl rfl ?_
    refine J_iald dX10_has_64 sh_2 h.1.1 h.1.2 ?_
    replace h := h.2
    exact J_reti dX10_has_65 rfl h
  · replace h := h.2.1 (by omega)
    refine J_tabIn (tgt := 56) (off := 55) dX10_has_1 (by omega) (by omega) (by rw [c]; rfl) (by decide) ?_
    refine J_aload_n dX10_has_56 rfl rfl ?_
    refine J_getR dX10_has_57 ck_10 fw_X10_10 rfl sh_0 rr_0_0 ?_
    refine J_getR dX10_has_60 ck_0 fw_X10_140 rfl sh_1 rr_1_0 ?_
    refine J_iload_n dX10_has_63 rfl rfl ?_
    refine J_iald dX10_has_64 sh_2 h.1.1 h.1.2 ?_
    replace h := h.2
    exact J_reti dX10_has_65 rfl h
  · replace h := h.2.1 (by omega)
    refine J_tabIn (tgt := 56) (off := 55) dX10_has_1 (by omega) (by omega) (by rw [c]; rfl) (by decide) ?_
    refine J_aload_n dX10_has_56 rfl rfl ?_
    refine J_getR dX10_has_57 ck_10 fw_X10_10 rfl sh_0 rr_0_0 ?_
    refine J_getR dX10_has_60 ck_0 fw_X10_140 rfl sh_1 rr_1_0 ?_
    refine J_iload_n dX10_has_63 rfl rfl ?_
    refine J_iald dX10_has_64 sh_2 h.1.1 h.1.2 ?_
    replace h := h.2
    exact J_reti dX10_has_65 rfl h
  · replace h := h.2.2.1 c
    refine J_tabIn (tgt := 66) (off := 65) dX10_has_1 (by omega) (by omega) (by rw [c]; rfl) (by decide) ?_
    refine J_aload_n dX10_has_66 rfl rfl ?_
    refine J_getR dX10_has_67 ck_10 fw_X10_10 rfl sh_0 rr_0_0 ?_
    refine J_getI dX10_has_70 ck_0 fw_X10_143 rfl sh_1 ?_
    exact J_reti dX10_has_73 rfl h
  · replace h := h.2.2.2.1 c
    refine J_tabIn (tgt := 74) (off := 73) dX10_has_1 (by omega) (by omega) (by rw [c]; rfl) (by decide) ?_
    refine J_aload_n dX10_has_74 rfl rfl ?_
    refine J_getR dX10_has_75 ck_10 fw_X10_10 rfl sh_0 rr_0_0 ?_
    refine J_getI dX10_has_78 ck_0 fw_X10_146 rfl sh_1 ?_
    refine J_callS (as := [_]) (mc1 := 0) (ms1 := 0) (mc := 0) (ms := 0) dX10_has_81 ms_J6_bitCount_0f7a4 lk_X10_149 rfl (Nat.le_of_ble_eq_true rfl) (Nat.le_of_ble_eq_true rfl) h (fun r σ hq _ => ?_)
    obtain ⟨x1, I1, rfl, rfl, h⟩ := hq
    change J _ _ _ _ _ _ _ [vI x1] _ _
    exact J_reti dX10_has_84 rfl h
  · replace h := h.2.2.2.2.1 c
    refine J_tabIn (tgt := 85) (off := 84) dX10_has_1 (by omega) (by omega) (by rw [c]; rfl) (by decide) ?_
    refine J_aload_n dX10_has_85 rfl rfl ?_
    refine J_getR dX10_has_86 ck_10 fw_X10_37 rfl sh_0 rr_0_4 ?_
    refine J_callV (as := []) (mc1 := 0) (ms1 := 0) (mc := 0) (ms := 0) dX10_has_89 mv_X9_shutBits lk_X10_155 sh_32 rfl (Nat.le_of_ble_eq_true rfl) (Nat.le_of_ble_eq_true rfl) h (fun r σ hq _ => ?_)
    obtain ⟨x2, I2, rfl, rfl, h⟩ := hq
    change J _ _ _ _ _ _ _ [vI x2] _ _
    refine J_callS (as := [_]) (mc1 := 0) (ms1 := 0) (mc := 0) (ms := 0) dX10_has_92 ms_J6_bitCount_0f7a4 lk_X10_149 rfl (Nat.le_of_ble_eq_true rfl) (Nat.le_of_ble_eq_true rfl) h (fun r σ hq _ => ?_)
    obtain ⟨x3, I3, rfl, rfl, h⟩ := hq
    change J _ _ _ _ _ _ _ [vI x3] _ _
    exact J_reti dX10_has_95 rfl h
  · replace h := h.2.2.2.2.2.1 c
    refine J_tabIn (tgt := 96) (off := 95) dX10_has_1 (by omega) (by omega) (by rw [c]; rfl) (by decide) ?_
    refine J_aload_n dX10_has_96 rfl rfl ?_
    refine J_getR dX10_has_97 ck_10 fw_X10_37 rfl sh_0 rr_0_4 ?_
    refine J_callV (as := []) (mc1 := 0) (ms1 := 0) (mc := 0) (ms := 0) dX10_has_100 mv_X9_onBits lk_X10_159 sh_32 rfl (Nat.le_of_ble_eq_true rfl) (Nat.le_of_ble_eq_true rfl) h (fun r σ hq _ => ?_)
    obtain ⟨x4, I4, rfl, rfl, h⟩ := hq
    change J _ _ _ _ _ _ _ [vI x4] _ _
    exact J_reti dX10_has_103 rfl h
  · replace h := h.2.2.2.2.2.2 c
    refine J_tabIn (tgt := 104) (off := 103) dX10_has_1 (by omega) (by omega) (by rw [c]; rfl) (by decide) ?_
    refine J_aload_n dX10_has_104 rfl rfl ?_
    refine J_getR dX10_has_105 ck_10 fw_X10_37 rfl sh_0 rr_0_4 ?_
    refine J_getI dX10_has_108 ck_9 fw_X10_162 rfl sh_32 ?_
    exact J_reti dX10_has_111 rfl h
set_option maxRecDepth 20000 in
set_option maxHeartbeats 2000000 in
theorem bk_X10_letter_0 {d : Nat} {I : HI} {Q : Option AV → AH → Prop} {a1 : Int} {a2 : Int} {a3 : Int}  (h : ((a1 < 0 → Q (some (vI (-1))) (mk I)) ∧ (¬ (a1 < 0) → ((1 < a1 → Q (some (vI (-1))) (mk I)) ∧ (¬ (1 < a1) → ((a3 < 0 → Q (some (vI (-1))) (mk I)) ∧ (¬ (a3 < 0) → ((a3 < 6 → ((a2 < 0 → Q (some (vI (-1))) (mk I)) ∧ (¬ (a2 < 0) → ((a1 ≠ 0 → ((a2 < (I 2 2) → ((a1 ≠ 0 → (-2147483648 ≤ a2 * 6 ∧ a2 * 6 ≤ 2147483647) ∧ (-2147483648 ≤ (a2 * 6) + a3 ∧ (a2 * 6) + a3 ≤ 2147483647) ∧ ((0 : Int) ≤ ((a2 * 6) + a3) ∧ ((a2 * 6) + a3 : Int) < 24) ∧ Q (some (vI (I 4 ((a2 * 6) + a3).toNat))) (mk I)) ∧ (a1 = 0 → (-2147483648 ≤ a2 * 6 ∧ a2 * 6 ≤ 2147483647) ∧ (-2147483648 ≤ (a2 * 6) + a3 ∧ (a2 * 6) + a3 ≤ 2147483647) ∧ ((0 : Int) ≤ ((a2 * 6) + a3) ∧ ((a2 * 6) + a3 : Int) < 60) ∧ Q (some (vI (I 3 ((a2 * 6) + a3).toNat))) (mk I)))) ∧ (¬ (a2 < (I 2 2)) → Q (some (vI (-1))) (mk I)))) ∧ (a1 = 0 → ((a2 < (I 2 0) → ((a1 ≠ 0 → (-2147483648 ≤ a2 * 6 ∧ a2 * 6 ≤ 2147483647) ∧ (-2147483648 ≤ (a2 * 6) + a3 ∧ (a2 * 6) + a3 ≤ 2147483647) ∧ ((0 : Int) ≤ ((a2 * 6) + a3) ∧ ((a2 * 6) + a3 : Int) < 24) ∧ Q (some (vI (I 4 ((a2 * 6) + a3).toNat))) (mk I)) ∧ (a1 = 0 → (-2147483648 ≤ a2 * 6 ∧ a2 * 6 ≤ 2147483647) ∧ (-2147483648 ≤ (a2 * 6) + a3 ∧ (a2 * 6) + a3 ≤ 2147483647) ∧ ((0 : Int) ≤ ((a2 * 6) + a3) ∧ ((a2 * 6) + a3 : Int) < 60) ∧ Q (some (vI (I 3 ((a2 * 6) + a3).toNat))) (mk I)))) ∧ (¬ (a2 < (I 2 0)) → Q (some (vI (-1))) (mk I)))))))) ∧ (¬ (a3 < 6) → Q (some (vI (-1))) (mk I)))))))))) : J none mX10_letter (d + 1) 0 0 0 [(0, vR 0), (1, vI a1), (2, vI a2), (3, vI a3)] [] (mk I) Q := by
  refine J_iload_n dX10_letter_0 rfl rfl ?_
  refine J_if_lt (tgt := 19) dX10_letter_1 (by decide) (fun c => ?_) (fun c => ?_)
  · replace h := h.1 c
    refine J_iconst dX10_letter_19 (ii_c rfl) ?_
    exact J_reti dX10_letter_20 rfl h
  · replace h := h.2 c
    refine J_iload_n dX10_letter_4 rfl rfl ?_
    refine J_iconst dX10_letter_5 (ii_c rfl) ?_
    refine J_ic_gt (tgt := 19) dX10_letter_6 (by decide) (fun c => ?_) (fun c => ?_)
    · replace h := h.1 c
      refine J_iconst dX10_letter_19 (ii_c rfl) ?_
      exact J_reti dX10_letter_20 rfl h
    · replace h := h.2 c
      refine J_iload_n dX10_letter_9 rfl rfl ?_
      refine J_if_lt (tgt := 19) dX10_letter_10 (by decide) (fun c => ?_) (fun c => ?_)
      · replace h := h.1 c
        refine J_iconst dX10_letter_19 (ii_c rfl) ?_
        exact J_reti dX10_letter_20 rfl h
      · replace h := h.2 c
        refine J_iload_n dX10_letter_13 rfl rfl ?_
        refine J_bipush dX10_letter_14 (ii_c rfl) (by decide) ?_
        refine J_ic_lt (tgt := 21) dX10_letter_16 (by decide) (fun c => ?_) (fun c => ?_)
        · replace h := h.1 c
          refine J_iload_n dX10_letter_21 rfl rfl ?_
          refine J_if_lt (tgt := 46) dX10_letter_22 (by decide) (fun c => ?_) (fun c => ?_)
          · replace h := h.1 c
            refine J_iconst dX10_letter_46 (ii_c rfl) ?_
            exact J_reti dX10_letter_47 rfl h
          · replace h := h.2 c
            refine J_iload_n dX10_letter_25 rfl rfl ?_
            refine J_aload_n dX10_letter_26 rfl rfl ?_
            refine J_getR dX10_letter_27 ck_10 fw_X10_10 rfl sh_0 rr_0_0 ?_
            refine J_getR dX10_letter_30 ck_0 fw_X10_140 rfl sh_1 rr_1_0 ?_
            refine J_iload_n dX10_letter_33 rfl rfl ?_
            refine J_if_ne (tgt := 41) dX10_letter_34 (by decide) (fun c => ?_) (fun c => ?_)
            · replace h := h.1 c
              refine J_iconst dX10_letter_41 (ii_c rfl) ?_
              refine J_iald dX10_letter_42 sh_2 (by decide) (by decide) ?_
              refine J_ic_lt (tgt := 48) dX10_letter_43 (by decide) (fun c => ?_) (fun c => ?_)
              · replace h := h.1 c
                refine J_iload_n dX10_letter_48 rfl rfl ?_
                refine J_if_ne (tgt := 62) dX10_letter_49 (by decide) (fun c => ?_) (fun c => ?_)
                · replace h := h.1 c
                  refine J_aload_n dX10_letter_62 rfl rfl ?_
                  refine J_getR dX10_letter_63 ck_10 fw_X10_10 rfl sh_0 rr_0_0 ?_
                  refine J_getR dX10_letter_66 ck_0 fw_X10_168 rfl sh_1 rr_1_2 ?_
                  refine J_iload_n dX10_letter_69 rfl rfl ?_
                  refine J_bipush dX10_letter_70 (ii_c rfl) (by decide) ?_
                  refine J_imulN dX10_letter_72 h.1 ?_
                  replace h := h.2
                  refine J_iload_n dX10_letter_73 rfl rfl ?_
                  refine J_iaddN dX10_letter_74 h.1 ?_
                  replace h := h.2
                  refine J_iald dX10_letter_75 sh_4 h.1.1 h.1.2 ?_
                  replace h := h.2
                  exact J_reti dX10_letter_76 rfl h
                · replace h := h.2 c
                  refine J_aload_n dX10_letter_52 rfl rfl ?_
                  refine J_getR dX10_letter_53 ck_10 fw_X10_10 rfl sh_0 rr_0_0 ?_
                  refine J_getR dX10_letter_56 ck_0 fw_X10_165 rfl sh_1 rr_1_1 ?_
                  refine J_goto (tgt := 69) dX10_letter_59 (by decide) ?_
                  refine J_iload_n dX10_letter_69 rfl rfl ?_
                  refine J_bipush dX10_letter_70 (ii_c rfl) (by decide) ?_
                  refine J_imulN dX10_letter_72 h.1 ?_
                  replace h := h.2
                  refine J_iload_n dX10_letter_73 rfl rfl ?_
                  refine J_iaddN dX10_letter_74 h.1 ?_
                  replace h := h.2
                  refine J_iald dX10_letter_75 sh_3 h.1.1 h.1.2 ?_
                  replace h := h.2
                  exact J_reti dX10_letter_76 rfl h
              · replace h := h.2 c
                refine J_iconst dX10_letter_46 (ii_c rfl) ?_
                exact J_reti dX10_letter_47 rfl h
            · replace h := h.2 c
              refine J_iconst dX10_letter_37 (ii_c rfl) ?_
              refine J_goto (tgt := 42) dX10_letter_38 (by decide) ?_
              refine J_iald dX10_letter_42 sh_2 (by decide) (by decide) ?_
              refine J_ic_lt (tgt := 48) dX10_letter_43 (by decide) (fun c => ?_) (fun c => ?_)
              · replace h := h.1 c
                refine J_iload_n dX10_letter_48 rfl rfl ?_
                refine J_if_ne (tgt := 62) dX10_letter_49 (by decide) (fun c => ?_) (fun c => ?_)
                · replace h := h.1 c
                  refine J_aload_n dX10_letter_62 rfl rfl ?_
                  refine J_getR dX10_letter_63 ck_10 fw_X10_10 rfl sh_0 rr_0_0 ?_
                  refine J_getR dX10_letter_66 ck_0 fw_X10_168 rfl sh_1 rr_1_2 ?_
                  refine J_iload_n dX10_letter_69 rfl rfl ?_
                  refine J_bipush dX10_letter_70 (ii_c rfl) (by decide) ?_
                  refine J_imulN dX10_letter_72 h.1 ?_
                  replace h := h.2
                  refine J_iload_n dX10_letter_73 rfl rfl ?_
                  refine J_iaddN dX10_letter_74 h.1 ?_
                  replace h := h.2
                  refine J_iald dX10_letter_75 sh_4 h.1.1 h.1.2 ?_
                  replace h := h.2
                  exact J_reti dX10_letter_76 rfl h
                · replace h := h.2 c
                  refine J_aload_n dX10_letter_52 rfl rfl ?_
                  refine J_getR dX10_letter_53 ck_10 fw_X10_10 rfl sh_0 rr_0_0 ?_
                  refine J_getR dX10_letter_56 ck_0 fw_X10_165 rfl sh_1 rr_1_1 ?_
                  refine J_goto (tgt := 69) dX10_letter_59 (by decide) ?_
                  refine J_iload_n dX10_letter_69 rfl rfl ?_
                  refine J_bipush dX10_letter_70 (ii_c rfl) (by decide) ?_
                  refine J_imulN dX10_letter_72 h.1 ?_
                  replace h := h.2
                  refine J_iload_n dX10_letter_73 rfl rfl ?_
                  refine J_iaddN dX10_letter_74 h.1 ?_
                  replace h := h.2
                  refine J_iald dX10_letter_75 sh_3 h.1.1 h.1.2 ?_
                  replace h := h.2
                  exact J_reti dX10_letter_76 rfl h
              · replace h := h.2 c
                refine J_iconst dX10_letter_46 (ii_c rfl) ?_
                exact J_reti dX10_letter_47 rfl h
        · replace h := h.2 c
          refine J_iconst dX10_letter_19 (ii_c rfl) ?_
          exact J_reti dX10_letter_20 rfl h
set_option maxRecDepth 20000 in
set_option maxHeartbeats 2000000 in
theorem bk_X10_lane_0 {d : Nat} {I : HI} {Q : Option AV → AH → Prop} {a1 : Int} {a2 : Int}  (h : CI mX10_isLane d [vR 0, vI a1] I (fun x1 I1 => ((x1 = 0 → Q (some (vI (-1))) (mk I1)) ∧ (¬ (x1 = 0) → ((a2 < 0 → Q (some (vI (-1))) (mk I1)) ∧ (¬ (a2 < 0) → ((a2 ≤ 4 → ((4 ≤ a2 → CI mX9_shutBits d [vR 32] I1 (fun x2 I2 => Q (some (vI (oA (oSr x2 a1) 1))) (mk I2))) ∧ (¬ (4 ≤ a2) → (-2147483648 ≤ a1 * 4 ∧ a1 * 4 ≤ 2147483647) ∧ (-2147483648 ≤ (a1 * 4) + a2 ∧ (a1 * 4) + a2 ≤ 2147483647) ∧ ((0 : Int) ≤ ((a1 * 4) + a2) ∧ ((a1 * 4) + a2 : Int) < 64) ∧ Q (some (vI (I1 6 ((a1 * 4) + a2).toNat))) (mk I1)))) ∧ (¬ (a2 ≤ 4) → Q (some (vI (-1))) (mk I1))))))))) : J none mX10_lane (d + 1) 0 0 0 [(0, vR 0), (1, vI a1), (2, vI a2)] [] (mk I) Q := by
  refine J_aload_n dX10_lane_0 rfl rfl ?_
  refine J_iload_n dX10_lane_1 rfl rfl ?_
  refine J_callV (as := [_]) (mc1 := 0) (ms1 := 0) (mc := 0) (ms := 0) dX10_lane_2 mv_X10_isLane lk_X10_171 sh_0 rfl (Nat.le_of_ble_eq_true rfl) (Nat.le_of_ble_eq_true rfl) h (fun r σ hq _ => ?_)
  obtain ⟨x1, I1, rfl, rfl, h⟩ := hq
  change J _ _ _ _ _ _ _ [vI x1] _ _
  refine J_if_eq (tgt := 17) dX10_lane_5 (by decide) (fun c => ?_) (fun c => ?_)
  · replace h := h.1 c
    refine J_iconst dX10_lane_17 (ii_c rfl) ?_
    exact J_reti dX10_lane_18 rfl h
  · replace h := h.2 c
    refine J_iload_n dX10_lane_8 rfl rfl ?_
    refine J_if_lt (tgt := 17) dX10_lane_9 (by decide) (fun c => ?_) (fun c => ?_)
    · replace h := h.1 c
      refine J_iconst dX10_lane_17 (ii_c rfl) ?_
      exact J_reti dX10_lane_18 rfl h
    · replace h := h.2 c
      refine J_iload_n dX10_lane_12 rfl rfl ?_
      refine J_iconst dX10_lane_13 (ii_c rfl) ?_
      refine J_ic_le (tgt := 19) dX10_lane_14 (by decide) (fun c => ?_) (fun c => ?_)
      · replace h := h.1 c
        refine J_iload_n dX10_lane_19 rfl rfl ?_
        refine J_iconst dX10_lane_20 (ii_c rfl) ?_
        refine J_ic_ge (tgt := 40) dX10_lane_21 (by decide) (fun c => ?_) (fun c => ?_)
        · replace h := h.1 c
          refine J_aload_n dX10_lane_40 rfl rfl ?_
          refine J_getR dX10_lane_41 ck_10 fw_X10_37 rfl sh_0 rr_0_4 ?_
          refine J_callV (as := []) (mc1 := 0) (ms1 := 0) (mc := 0) (ms := 0) dX10_lane_44 mv_X9_shutBits lk_X10_155 sh_32 rfl (Nat.le_of_ble_eq_true rfl) (Nat.le_of_ble_eq_true rfl) h (fun r σ hq _ => ?_)
          obtain ⟨x2, I2, rfl, rfl, h⟩ := hq
          change J _ _ _ _ _ _ _ [vI x2] _ _
          refine J_iload_n dX10_lane_47 rfl rfl ?_
          refine J_ishr dX10_lane_48 ?_
          refine J_iconst dX10_lane_49 (ii_c rfl) ?_
          refine J_iand dX10_lane_50 ?_
          exact J_reti dX10_lane_51 rfl h
        · replace h := h.2 c
          refine J_aload_n dX10_lane_24 rfl rfl ?_
          refine J_getR dX10_lane_25 ck_10 fw_X10_10 rfl sh_0 rr_0_0 ?_
          refine J_getR dX10_lane_28 ck_0 fw_X10_175 rfl sh_1 rr_1_4 ?_
          refine J_iload_n dX10_lane_31 rfl rfl ?_
          refine J_iconst dX10_lane_32 (ii_c rfl) ?_
          refine J_imulN dX10_lane_33 h.1 ?_
          replace h := h.2
          refine J_iload_n dX10_lane_34 rfl rfl ?_
          refine J_iaddN dX10_lane_35 h.1 ?_
          replace h := h.2
          refine J_iald dX10_lane_36 sh_6 h.1.1 h.1.2 ?_
          replace h := h.2
          refine J_goto (tgt := 51) dX10_lane_37 (by decide) ?_
          exact J_reti dX10_lane_51 rfl h
      · replace h := h.2 c
        refine J_iconst dX10_lane_17 (ii_c rfl) ?_
        exact J_reti dX10_lane_18 rfl h
set_option maxRecDepth 20000 in
set_option maxHeartbeats 2000000 in
theorem bk_X10_sound_0 {d : Nat} {I : HI} {Q : Option AV → AH → Prop} {a1 : Int} {a2 : Int}  (h : CI mX10_isCorner d [vR 0, vI a1] I (fun x1 I1 => ((x1 = 0 → Q (some (vI (-1))) (mk I1)) ∧ (¬ (x1 = 0) → CI mX10_isCorner d [vR 0, vI a2] I1 (fun x2 I2 => ((x2 = 0 → Q (some (vI (-1))) (mk I2)) ∧ (¬ (x2 = 0) → (-2147483648 ≤ a1 * 10 ∧ a1 * 10 ≤ 2147483647) ∧ (-2147483648 ≤ (a1 * 10) + a2 ∧ (a1 * 10) + a2 ≤ 2147483647) ∧ ((0 : Int) ≤ ((a1 * 10) + a2) ∧ ((a1 * 10) + a2 : Int) < 100) ∧ Q (some (vI (I2 13 ((a1 * 10) + a2).toNat))) (mk I2)))))))) : J none mX10_sound (d + 1) 0 0 0 [(0, vR 0), (1, vI a1), (2, vI a2)] [] (mk I) Q := by
  refine J_aload_n dX10_sound_0 rfl rfl ?_
  refine J_iload_n dX10_sound_1 rfl rfl ?_
  refine J_callV (as := [_]) (mc1 := 0) (ms1 := 0) (mc := 0) (ms := 0) dX10_sound_2 mv_X10_isCorner lk_X10_178 sh_0 rfl (Nat.le_of_ble_eq_true rfl) (Nat.le_of_ble_eq_true rfl) h (fun r σ hq _ => ?_)
  obtain ⟨x1, I1, rfl, rfl, h⟩ := hq
  change J _ _ _ _ _ _ _ [vI x1] _ _
  refine J_if_eq (tgt := 33) dX10_sound_5 (by decide) (fun c => ?_) (fun c => ?_)
  · replace h := h.1 c
    refine J_iconst dX10_sound_33 (ii_c rfl) ?_
    exact J_reti dX10_sound_34 rfl h
  · replace h := h.2 c
    refine J_aload_n dX10_sound_8 rfl rfl ?_
    refine J_iload_n dX10_sound_9 rfl rfl ?_
    refine J_callV (as := [_]) (mc1 := 0) (ms1 := 0) (mc := 0) (ms := 0) dX10_sound_10 mv_X10_isCorner lk_X10_178 sh_0 rfl (Nat.le_of_ble_eq_true rfl) (Nat.le_of_ble_eq_true rfl) h (fun r σ hq _ => ?_)
    obtain ⟨x2, I2, rfl, rfl, h⟩ := hq
    change J _ _ _ _ _ _ _ [vI x2] _ _
    refine J_if_eq (tgt := 33) dX10_sound_13 (by decide) (fun c => ?_) (fun c => ?_)
    · replace h := h.1 c
      refine J_iconst dX10_sound_33 (ii_c rfl) ?_
      exact J_reti dX10_sound_34 rfl h
    · replace h := h.2 c
      refine J_aload_n dX10_sound_16 rfl rfl ?_
      refine J_getR dX10_sound_17 ck_10 fw_X10_10 rfl sh_0 rr_0_0 ?_
      refine J_getR dX10_sound_20 ck_0 fw_X10_181 rfl sh_1 rr_1_11 ?_
      refine J_iload_n dX10_sound_23 rfl rfl ?_
      refine J_bipush dX10_sound_24 (ii_c rfl) (by decide) ?_
      refine J_imulN dX10_sound_26 h.1 ?_
      replace h := h.2
      refine J_iload_n dX10_sound_27 rfl rfl ?_
      refine J_iaddN dX10_sound_28 h.1 ?_
      replace h := h.2
      refine J_iald dX10_sound_29 sh_13 h.1.1 h.1.2 ?_
      replace h := h.2
      refine J_goto (tgt := 34) dX10_sound_30 (by decide) ?_
      exact J_reti dX10_sound_34 rfl h
set_option maxRecDepth 20000 in
set_option maxHeartbeats 2000000 in
theorem bk_X10_saint_0 {d : Nat} {I : HI} {Q : Option AV → AH → Prop} {a1 : Int} {a2 : Int}  (h : CI mX10_isSaint d [vR 0, vI a1] I (fun x1 I1 => ((x1 ≠ 0 → (((a2 < 0 ∨ 6 < a2) → Q (some (vI (-1))) (mk I1)) ∧ ((0 ≤ a2 ∧ a2 ≤ 3) → (-2147483648 ≤ a1 * 4 ∧ a1 * 4 ≤ 2147483647) ∧ (-2147483648 ≤ (a1 * 4) + a2 ∧ (a1 * 4) + a2 ≤ 2147483647) ∧ ((0 : Int) ≤ ((a1 * 4) + a2) ∧ ((a1 * 4) + a2 : Int) < 16) ∧ Q (some (vI (I1 7 ((a1 * 4) + a2).toNat))) (mk I1)) ∧ (a2 = 4 → CI mX9_steps d [vR 32, vI a1] I1 (fun x2 I2 => Q (some (vI x2)) (mk I2))) ∧ (a2 = 5 → ((0 : Int) ≤ a1 ∧ (a1 : Int) < 4) ∧ Q (some (vI (I1 (37 + 5 * a1.toNat) 5))) (mk I1)) ∧ (a2 = 6 → ((0 : Int) ≤ a1 ∧ (a1 : Int) < 4) ∧ CI mX8_lastCorner d [vR (37 + 5 * a1.toNat)] I1 (fun x5 I3 => Q (some (vI x5)) (mk I3))))) ∧ (x1 = 0 → Q (some (vI (-1))) (mk I1))))) : J none mX10_saint (d + 1) 0 0 0 [(0, vR 0), (1, vI a1), (2, vI a2)] [] (mk I) Q := by
  refine J_aload_n dX10_saint_0 rfl rfl ?_
  refine J_iload_n dX10_saint_1 rfl rfl ?_
  refine J_callV (as := [_]) (mc1 := 0) (ms1 := 0) (mc := 0) (ms := 0) dX10_saint_2 mv_X10_isSaint lk_X10_184 sh_0 rfl (Nat.le_of_ble_eq_true rfl) (Nat.le_of_ble_eq_true rfl) h (fun r σ hq _ => ?_)
  obtain ⟨x1, I1, rfl, rfl, h⟩ := hq
  change J _ _ _ _ _ _ _ [vI x1] _ _
  refine J_if_ne (tgt := 10) dX10_saint_5 (by decide) (fun c => ?_) (fun c => ?_)
  · replace h := h.1 c
    refine J_iload_n dX10_saint_10 rfl rfl ?_
    rcases (show (a2 < 0 ∨ 6 < a2) ∨ a2 = 0 ∨ a2 = 1 ∨ a2 = 2 ∨ a2 = 3 ∨ a2 = 4 ∨ a2 = 5 ∨ a2 = 6 by omega) with c | c | c | c | c | c | c | c
    · replace h := h.1 c
      refine J_tabOut (tgt := 101) dX10_saint_11 c (by decide) ?_
      refine J_iconst dX10_saint_101 (ii_c rfl) ?_
      exact J_reti dX10_saint_102 rfl h
    · replace h := h.2.1 (by omega)
      refine J_tabIn (tgt := 52) (off := 41) dX10_saint_11 (by omega) (by omega) (by rw [c]; rfl) (by decide) ?_
      refine J_aload_n dX10_saint_52 rfl rfl ?_
      refine J_getR dX10_saint_53 ck_10 fw_X10_10 rfl sh_0 rr_0_0 ?_
      refine J_getR dX10_saint_56 ck_0 fw_X10_187 rfl sh_1 rr_1_5 ?_
      refine J_iload_n dX10_saint_59 rfl rfl ?_
      refine J_iconst dX10_saint_60 (ii_c rfl) ?_
      refine J_imulN dX10_saint_61 h.1 ?_
      replace h := h.2
      refine J_iload_n dX10_saint_62 rfl rfl ?_
      refine J_iaddN dX10_saint_63 h.1 ?_
      replace h := h.2
      refine J_iald dX10_saint_64 sh_7 h.1.1 h.1.2 ?_
      replace h := h.2
      exact J_reti dX10_saint_65 rfl h
    · replace h := h.2.1 (by omega)
      refine J_tabIn (tgt := 52) (off := 41) dX10_saint_11 (by omega) (by omega) (by rw [c]; rfl) (by decide) ?_
      refine J_aload_n dX10_saint_52 rfl rfl ?_
      refine J_getR dX10_saint_53 ck_10 fw_X10_10 rfl sh_0 rr_0_0 ?_
      refine J_getR dX10_saint_56 ck_0 fw_X10_187 rfl sh_1 rr_1_5 ?_
      refine J_iload_n dX10_saint_59 rfl rfl ?_
      refine J_iconst dX10_saint_60 (ii_c rfl) ?_
      refine J_imulN dX10_saint_61 h.1 ?_
      replace h := h.2
      refine J_iload_n dX10_saint_62 rfl rfl ?_
      refine J_iaddN dX10_saint_63 h.1 ?_
      replace h := h.2
      refine J_iald dX10_saint_64 sh_7 h.1.1 h.1.2 ?_
      replace h := h.2
      exact J_reti dX10_saint_65 rfl h
    · replace h := h.2.1 (by omega)
      refine J_tabIn (tgt := 52) (off := 41) dX10_saint_11 (by omega) (by omega) (by rw [c]; rfl) (by decide) ?_
      refine J_aload_n dX10_saint_52 rfl rfl ?_
      refine J_getR dX10_saint_53 ck_10 fw_X10_10 rfl sh_0 rr_0_0 ?_
      refine J_getR dX10_saint_56 ck_0 fw_X10_187 rfl sh_1 rr_1_5 ?_
      refine J_iload_n dX10_saint_59 rfl rfl ?_
      refine J_iconst dX10_saint_60 (ii_c rfl) ?_
      refine J_imulN dX10_saint_61 h.1 ?_
      replace h := h.2
      refine J_iload_n dX10_saint_62 rfl rfl ?_
      refine J_iaddN dX10_saint_63 h.1 ?_
      replace h := h.2
      refine J_iald dX10_saint_64 sh_7 h.1.1 h.1.2 ?_
      replace h := h.2
      exact J_reti dX10_saint_65 rfl h
    · replace h := h.2.1 (by omega)
      refine J_tabIn (tgt := 52) (off := 41) dX10_saint_11 (by omega) (by omega) (by rw [c]; rfl) (by decide) ?_
      refine J_aload_n dX10_saint_52 rfl rfl ?_
      refine J_getR dX10_saint_53 ck_10 fw_X10_10 rfl sh_0 rr_0_0 ?_
      refine J_getR dX10_saint_56 ck_0 fw_X10_187 rfl sh_1 rr_1_5 ?_
      refine J_iload_n dX10_saint_59 rfl rfl ?_
      refine J_iconst dX10_saint_60 (ii_c rfl) ?_
      refine J_imulN dX10_saint_61 h.1 ?_
      replace h := h.2
      refine J_iload_n dX10_saint_62 rfl rfl ?_
      refine J_iaddN dX10_saint_63 h.1 ?_
      replace h := h.2
      refine J_iald dX10_saint_64 sh_7 h.1.1 h.1.2 ?_
      replace h := h.2
      exact J_reti dX10_saint_65 rfl h
    · replace h := h.2.2.1 c
      refine J_tabIn (tgt := 66) (off := 55) dX10_saint_11 (by omega) (by omega) (by rw [c]; rfl) (by decide) ?_
      refine J_aload_n dX10_saint_66 rfl rfl ?_
      refine J_getR dX10_saint_67 ck_10 fw_X10_37 rfl sh_0 rr_0_4 ?_
      refine J_iload_n dX10_saint_70 rfl rfl ?_
      refine J_callV (as := [_]) (mc1 := 0) (ms1 := 0) (mc := 0) (ms := 0) dX10_saint_71 mv_X9_steps lk_X10_190 sh_32 rfl (Nat.le_of_ble_eq_true rfl) (Nat.le_of_ble_eq_true rfl) h (fun r σ hq _ => ?_)
      obtain ⟨x2, I2, rfl, rfl, h⟩ := hq
      change J _ _ _ _ _ _ _ [vI x2] _ _
      exact J_reti dX10_saint_74 rfl h
    · replace h := h.2.2.2.1 c
      refine J_tabIn (tgt := 75) (off := 64) dX10_saint_11 (by omega) (by omega) (by rw [c]; rfl) (by decide) ?_
      refine J_aload_n dX10_saint_75 rfl rfl ?_
      refine J_getR dX10_saint_76 ck_10 fw_X10_37 rfl sh_0 rr_0_4 ?_
      refine J_getR dX10_saint_79 ck_9 fw_X10_193 rfl sh_32 rr_32_4 ?_
      refine J_iload_n dX10_saint_82 rfl rfl ?_
      have hb3 := h.1
      refine J_aald dX10_saint_83 sh_36 h.1.1 h.1.2 (RRw h.1.1 h.1.2) ?_
      replace h := h.2
      refine J_getI dX10_saint_84 ck_8 fw_X10_197 rfl ((TRw hb3.1 hb3.2).1) ?_
      exact J_reti dX10_saint_87 rfl h
    · replace h := h.2.2.2.2 c
      refine J_tabIn (tgt := 88) (off := 77) dX10_saint_11 (by omega) (by omega) (by rw [c]; rfl) (by decide) ?_
      refine J_aload_n dX10_saint_88 rfl rfl ?_
      refine J_getR dX10_saint_89 ck_10 fw_X10_37 rfl sh_0 rr_0_4 ?_
      refine J_getR dX10_saint_92 ck_9 fw_X10_193 rfl sh_32 rr_32_4 ?_
      refine J_iload_n dX10_saint_95 rfl rfl ?_
      have hb4 := h.1
      refine J_aald dX10_saint_96 sh_36 h.1.1 h.1.2 (RRw h.1.1 h.1.2) ?_
      replace h := h.2
      refine J_callV (as := []) (mc1 := 0) (ms1 := 0) (mc := 0) (ms := 0) dX10_saint_97 mv_X8_lastCorner lk_X10_202 ((TRw hb4.1 hb4.2).1) rfl (Nat.le_of_ble_eq_true rfl) (Nat.le_of_ble_eq_true rfl) h (fun r σ hq _ => ?_)
      obtain ⟨x5, I3, rfl, rfl, h⟩ := hq
      change J _ _ _ _ _ _ _ [vI x5] _ _
      exact J_reti dX10_saint_100 rfl h
  · replace h := h.2 c
    refine J_iconst dX10_saint_8 (ii_c rfl) ?_
    exact J_reti dX10_saint_9 rfl h
set_option maxRecDepth 20000 in
set_option maxHeartbeats 2000000 in
theorem bk_X10_go_0 {d : Nat} {I : HI} {Q : Option AV → AH → Prop} {a1 : Int} {a2 : Int}  (h : CI mX10_isSaint d [vR 0, vI a1] I (fun x1 I1 => ((x1 = 0 → Q (some (vI (-1))) (mk I1)) ∧ (¬ (x1 = 0) → CI mX10_isCorner d [vR 0, vI a2] I1 (fun x2 I2 => ((x2 = 0 → Q (some (vI (-1))) (mk I2)) ∧ (¬ (x2 = 0) → CI mX9_walk d [vR 32, vI a1, vI a2] I2 (fun x3 I3 => Q (some (vI x3)) (mk I3))))))))) : J none mX10_go (d + 1) 0 0 0 [(0, vR 0), (1, vI a1), (2, vI a2)] [] (mk I) Q := by
  refine J_aload_n dX10_go_0 rfl rfl ?_
  refine J_iload_n dX10_go_1 rfl rfl ?_
  refine J_callV (as := [_]) (mc1 := 0) (ms1 := 0) (mc := 0) (ms := 0) dX10_go_2 mv_X10_isSaint lk_X10_184 sh_0 rfl (Nat.le_of_ble_eq_true rfl) (Nat.le_of_ble_eq_true rfl) h (fun r σ hq _ => ?_)
  obtain ⟨x1, I1, rfl, rfl, h⟩ := hq
  change J _ _ _ _ _ _ _ [vI x1] _ _
  refine J_if_eq (tgt := 28) dX10_go_5 (by decide) (fun c => ?_) (fun c => ?_)
  · replace h := h.1 c
    refine J_iconst dX10_go_28 (ii_c rfl) ?_
    exact J_reti dX10_go_29 rfl h
  · replace h := h.2 c
    refine J_aload_n dX10_go_8 rfl rfl ?_
    refine J_iload_n dX10_go_9 rfl rfl ?_
    refine J_callV (as := [_]) (mc1 := 0) (ms1 := 0) (mc := 0) (ms := 0) dX10_go_10 mv_X10_isCorner lk_X10_178 sh_0 rfl (Nat.le_of_ble_eq_true rfl) (Nat.le_of_ble_eq_true rfl) h (fun r σ hq _ => ?_)
    obtain ⟨x2, I2, rfl, rfl, h⟩ := hq
    change J _ _ _ _ _ _ _ [vI x2] _ _
    refine J_if_eq (tgt := 28) dX10_go_13 (by decide) (fun c => ?_) (fun c => ?_)
    · replace h := h.1 c
      refine J_iconst dX10_go_28 (ii_c rfl) ?_
      exact J_reti dX10_go_29 rfl h
    · replace h := h.2 c
      refine J_aload_n dX10_go_16 rfl rfl ?_
      refine J_getR dX10_go_17 ck_10 fw_X10_37 rfl sh_0 rr_0_4 ?_
      refine J_iload_n dX10_go_20 rfl rfl ?_
      refine J_iload_n dX10_go_21 rfl rfl ?_
      refine J_callV (as := [_, _]) (mc1 := 0) (ms1 := 0) (mc := 0) (ms := 0) dX10_go_22 mv_X9_walk lk_X10_205 sh_32 rfl (Nat.le_of_ble_eq_true rfl) (Nat.le_of_ble_eq_true rfl) h (fun r σ hq _ => ?_)
      obtain ⟨x3, I3, rfl, rfl, h⟩ := hq
      change J _ _ _ _ _ _ _ [vI x3] _ _
      refine J_goto (tgt := 29) dX10_go_25 (by decide) ?_
      exact J_reti dX10_go_29 rfl h
set_option maxRecDepth 20000 in
set_option maxHeartbeats 2000000 in
theorem bk_X10_rest_0 {d : Nat} {I : HI} {Q : Option AV → AH → Prop} {a1 : Int} {a2 : Int}  (h : CI mX10_isSaint d [vR 0, vI a1] I (fun x1 I1 => ((x1 = 0 → Q (some (vI (-1))) (mk I1)) ∧ (¬ (x1 = 0) → ((a2 < 1 → Q (some (vI (-1))) (mk I1)) ∧ (¬ (a2 < 1) → ((30 < a2 → Q (some (vI (-1))) (mk I1)) ∧ (¬ (30 < a2) → CI mX9_pause d [vR 32, vI a1, vI a2] I1 (fun x2 I2 => Q (some (vI x2)) (mk I2)))))))))) : J none mX10_rest (d + 1) 0 0 0 [(0, vR 0), (1, vI a1), (2, vI a2)] [] (mk I) Q := by
  refine J_aload_n dX10_rest_0 rfl rfl ?_
  refine J_iload_n dX10_rest_1 rfl rfl ?_
  refine J_callV (as := [_]) (mc1 := 0) (ms1 := 0) (mc := 0) (ms := 0) dX10_rest_2 mv_X10_isSaint lk_X10_184 sh_0 rfl (Nat.le_of_ble_eq_true rfl) (Nat.le_of_ble_eq_true rfl) h (fun r σ hq _ => ?_)
  obtain ⟨x1, I1, rfl, rfl, h⟩ := hq
  change J _ _ _ _ _ _ _ [vI x1] _ _
  refine J_if_eq (tgt := 31) dX10_rest_5 (by decide) (fun c => ?_) (fun c => ?_)
  · replace h := h.1 c
    refine J_iconst dX10_rest_31 (ii_c rfl) ?_
    exact J_reti dX10_rest_32 rfl h
  · replace h := h.2 c
    refine J_iload_n dX10_rest_8 rfl rfl ?_
    refine J_iconst dX10_rest_9 (ii_c rfl) ?_
    refine J_ic_lt (tgt := 31) dX10_rest_10 (by decide) (fun c => ?_) (fun c => ?_)
    · replace h := h.1 c
      refine J_iconst dX10_rest_31 (ii_c rfl) ?_
      exact J_reti dX10_rest_32 rfl h
    · replace h := h.2 c
      refine J_iload_n dX10_rest_13 rfl rfl ?_
      refine J_bipush dX10_rest_14 (ii_c rfl) (by decide) ?_
      refine J_ic_gt (tgt := 31) dX10_rest_16 (by decide) (fun c => ?_) (fun c => ?_)
      · replace h := h.1 c
        refine J_iconst dX10_rest_31 (ii_c rfl) ?_
        exact J_reti dX10_rest_32 rfl h
      · replace h := h.2 c
        refine J_aload_n dX10_rest_19 rfl rfl ?_
        refine J_getR dX10_rest_20 ck_10 fw_X10_37 rfl sh_0 rr_0_4 ?_
        refine J_iload_n dX10_rest_23 rfl rfl ?_
        refine J_iload_n dX10_rest_24 rfl rfl ?_
        refine J_callV (as := [_, _]) (mc1 := 0) (ms1 := 0) (mc := 0) (ms := 0) dX10_rest_25 mv_X9_pause lk_X10_209 sh_32 rfl (Nat.le_of_ble_eq_true rfl) (Nat.le_of_ble_eq_true rfl) h (fun r σ hq _ => ?_)
        obtain ⟨x2, I2, rfl, rfl, h⟩ := hq
        change J _ _ _ _ _ _ _ [vI x2] _ _
        refine J_goto (tgt := 32) dX10_rest_28 (by decide) ?_
        exact J_reti dX10_rest_32 rfl h
set_option maxRecDepth 20000 in
set_option maxHeartbeats 2000000 in
theorem bk_X10_clear_0 {d : Nat} {I : HI} {Q : Option AV → AH → Prop} {a1 : Int}  (h : CI mX10_isSaint d [vR 0, vI a1] I (fun x1 I1 => ((x1 = 0 → Q (some (vI 0)) (mk I1)) ∧ (¬ (x1 = 0) → CI mX9_wipe d [vR 32, vI a1] I1 (fun x2 I2 => ((x2 = 0 → Q (some (vI 0)) (mk I2)) ∧ (¬ (x2 = 0) → Q (some (vI 1)) (mk I2)))))))) : J none mX10_clear (d + 1) 0 0 0 [(0, vR 0), (1, vI a1)] [] (mk I) Q := by
  refine J_aload_n dX10_clear_0 rfl rfl ?_
  refine J_iload_n dX10_clear_1 rfl rfl ?_
  refine J_callV (as := [_]) (mc1 := 0) (ms1 := 0) (mc := 0) (ms := 0) dX10_clear_2 mv_X10_isSaint lk_X10_184 sh_0 rfl (Nat.le_of_ble_eq_true rfl) (Nat.le_of_ble_eq_true rfl) h (fun r σ hq _ => ?_)
  obtain ⟨x1, I1, rfl, rfl, h⟩ := hq
  change J _ _ _ _ _ _ _ [vI x1] _ _
  refine J_if_eq (tgt := 23) dX10_clear_5 (by decide) (fun c => ?_) (fun c => ?_)
  · replace h := h.1 c
    refine J_iconst dX10_clear_23 (ii_c rfl) ?_
    exact J_retz dX10_clear_24 rfl (Or.inl rfl) h
  · replace h := h.2 c
    refine J_aload_n dX10_clear_8 rfl rfl ?_
    refine J_getR dX10_clear_9 ck_10 fw_X10_37 rfl sh_0 rr_0_4 ?_
    refine J_iload_n dX10_clear_12 rfl rfl ?_
    refine J_callV (as := [_]) (mc1 := 0) (ms1 := 0) (mc := 0) (ms := 0) dX10_clear_13 mv_X9_wipe lk_X10_212 sh_32 rfl (Nat.le_of_ble_eq_true rfl) (Nat.le_of_ble_eq_true rfl) h (fun r σ hq _ => ?_)
    obtain ⟨x2, I2, rfl, rfl, h⟩ := hq
    change J _ _ _ _ _ _ _ [vI x2] _ _
    refine J_if_eq (tgt := 23) dX10_clear_16 (by decide) (fun c => ?_) (fun c => ?_)
    · replace h := h.1 c
      refine J_iconst dX10_clear_23 (ii_c rfl) ?_
      exact J_retz dX10_clear_24 rfl (Or.inl rfl) h
    · replace h := h.2 c
      refine J_iconst dX10_clear_19 (ii_c rfl) ?_
      refine J_goto (tgt := 24) dX10_clear_20 (by decide) ?_
      exact J_retz dX10_clear_24 rfl (Or.inr rfl) h
set_option maxRecDepth 20000 in
set_option maxHeartbeats 2000000 in
theorem bk_X10_undo_0 {d : Nat} {I : HI} {Q : Option AV → AH → Prop}   (h : CI mX9_revert d [vR 32] I (fun x1 I1 => (x1 = 0 ∨ x1 = 1) ∧ Q (some (vI x1)) (mk I1))) : J none mX10_undo (d + 1) 0 0 0 [(0, vR 0)] [] (mk I) Q := by
  refine J_aload_n dX10_undo_0 rfl rfl ?_
  refine J_getR dX10_undo_1 ck_10 fw_X10_37 rfl sh_0 rr_0_4 ?_
  refine J_callV (as := []) (mc1 := 0) (ms1 := 0) (mc := 0) (ms := 0) dX10_undo_4 mv_X9_revert lk_X10_215 sh_32 rfl (Nat.le_of_ble_eq_true rfl) (Nat.le_of_ble_eq_true rfl) h (fun r σ hq _ => ?_)
  obtain ⟨x1, I1, rfl, rfl, h⟩ := hq
  change J _ _ _ _ _ _ _ [vI x1] _ _
  exact J_retz dX10_undo_7 rfl h.1 h.2
set_option maxRecDepth 20000 in
set_option maxHeartbeats 2000000 in
theorem bk_X10_where_0 {d : Nat} {I : HI} {Q : Option AV → AH → Prop} {a1 : Int} {a2 : Int}  (h : CI mX10_isSaint d [vR 0, vI a1] I (fun x1 I1 => ((x1 = 0 → Q (some (vI (-1))) (mk I1)) ∧ (¬ (x1 = 0) → CI mX10_isMinute d [vR 0, vI a2] I1 (fun x2 I2 => ((x2 = 0 → Q (some (vI (-1))) (mk I2)) ∧ (¬ (x2 = 0) → ((0 : Int) ≤ a1 ∧ (a1 : Int) < 4) ∧ CI mX8_cornerAt d [vR (37 + 5 * a1.toNat), vI a2] I2 (fun x4 I3 => Q (some (vI x4)) (mk I3))))))))) : J none mX10_where (d + 1) 0 0 0 [(0, vR 0), (1, vI a1), (2, vI a2)] [] (mk I) Q := by
  refine J_aload_n dX10_where_0 rfl rfl ?_
  refine J_iload_n dX10_where_1 rfl rfl ?_
  refine J_callV (as := [_]) (mc1 := 0) (ms1 := 0) (mc := 0) (ms := 0) dX10_where_2 mv_X10_isSaint lk_X10_184 sh_0 rfl (Nat.le_of_ble_eq_true rfl) (Nat.le_of_ble_eq_true rfl) h (fun r σ hq _ => ?_)
  obtain ⟨x1, I1, rfl, rfl, h⟩ := hq
  change J _ _ _ _ _ _ _ [vI x1] _ _
  refine J_if_eq (tgt := 32) dX10_where_5 (by decide) (fun c => ?_) (fun c => ?_)
  · replace h := h.1 c
    refine J_iconst dX10_where_32 (ii_c rfl) ?_
    exact J_reti dX10_where_33 rfl h
  · replace h := h.2 c
    refine J_aload_n dX10_where_8 rfl rfl ?_
    refine J_iload_n dX10_where_9 rfl rfl ?_
    refine J_callV (as := [_]) (mc1 := 0) (ms1 := 0) (mc := 0) (ms := 0) dX10_where_10 mv_X10_isMinute lk_X10_218 sh_0 rfl (Nat.le_of_ble_eq_true rfl) (Nat.le_of_ble_eq_true rfl) h (fun r σ hq _ => ?_)
    obtain ⟨x2, I2, rfl, rfl, h⟩ := hq
    change J _ _ _ _ _ _ _ [vI x2] _ _
    refine J_if_eq (tgt := 32) dX10_where_13 (by decide) (fun c => ?_) (fun c => ?_)
    · replace h := h.1 c
      refine J_iconst dX10_where_32 (ii_c rfl) ?_
      exact J_reti dX10_where_33 rfl h
    · replace h := h.2 c
      refine J_aload_n dX10_where_16 rfl rfl ?_
      refine J_getR dX10_where_17 ck_10 fw_X10_37 rfl sh_0 rr_0_4 ?_
      refine J_getR dX10_where_20 ck_9 fw_X10_193 rfl sh_32 rr_32_4 ?_
      refine J_iload_n dX10_where_23 rfl rfl ?_
      have hb3 := h.1
      refine J_aald dX10_where_24 sh_36 h.1.1 h.1.2 (RRw h.1.1 h.1.2) ?_
      replace h := h.2
      refine J_iload_n dX10_where_25 rfl rfl ?_
      refine J_callV (as := [_]) (mc1 := 0) (ms1 := 0) (mc := 0) (ms := 0) dX10_where_26 mv_X8_cornerAt lk_X10_221 ((TRw hb3.1 hb3.2).1) rfl (Nat.le_of_ble_eq_true rfl) (Nat.le_of_ble_eq_true rfl) h (fun r σ hq _ => ?_)
      obtain ⟨x4, I3, rfl, rfl, h⟩ := hq
      change J _ _ _ _ _ _ _ [vI x4] _ _
      refine J_goto (tgt := 33) dX10_where_29 (by decide) ?_
      exact J_reti dX10_where_33 rfl h
set_option maxRecDepth 20000 in
set_option maxHeartbeats 2000000 in
theorem bk_X10_on_0 {d : Nat} {I : HI} {Q : Option AV → AH → Prop} {a1 : Int} {a2 : Int}  (h : CI mX10_isSaint d [vR 0, vI a1] I (fun x1 I1 => ((x1 = 0 → Q (some (vI (-1))) (mk I1)) ∧ (¬ (x1 = 0) → CI mX10_isMinute d [vR 0, vI a2] I1 (fun x2 I2 => ((x2 = 0 → Q (some (vI (-1))) (mk I2)) ∧ (¬ (x2 = 0) → ((0 : Int) ≤ a1 ∧ (a1 : Int) < 4) ∧ CI mX8_laneAt d [vR (37 + 5 * a1.toNat), vI a2] I2 (fun x4 I3 => Q (some (vI x4)) (mk I3))))))))) : J none mX10_on (d + 1) 0 0 0 [(0, vR 0), (1, vI a1), (2, vI a2)] [] (mk I) Q := by
  refine J_aload_n dX10_on_0 rfl rfl ?_
  refine J_iload_n dX10_on_1 rfl rfl ?_
  refine J_callV (as := [_]) (mc1 := 0) (ms1 := 0) (mc := 0) (ms := 0) dX10_on_2 mv_X10_isSaint lk_X10_184 sh_0 rfl (Nat.le_of_ble_eq_true rfl) (Nat.le_of_ble_eq_true rfl) h (fun r σ hq _ => ?_)
  obtain ⟨x1, I1, rfl, rfl, h⟩ := hq
  change J _ _ _ _ _ _ _ [vI x1] _ _
  refine J_if_eq (tgt := 32) dX10_on_5 (by decide) (fun c => ?_) (fun c => ?_)
  · replace h := h.1 c
    refine J_iconst dX10_on_32 (ii_c rfl) ?_
    exact J_reti dX10_on_33 rfl h
  · replace h := h.2 c
    refine J_aload_n dX10_on_8 rfl rfl ?_
    refine J_iload_n dX10_on_9 rfl rfl ?_
    refine J_callV (as := [_]) (mc1 := 0) (ms1 := 0) (mc := 0) (ms := 0) dX10_on_10 mv_X10_isMinute lk_X10_218 sh_0 rfl (Nat.le_of_ble_eq_true rfl) (Nat.le_of_ble_eq_true rfl) h (fun r σ hq _ => ?_)
    obtain ⟨x2, I2, rfl, rfl, h⟩ := hq
    change J _ _ _ _ _ _ _ [vI x2] _ _
    refine J_if_eq (tgt := 32) dX10_on_13 (by decide) (fun c => ?_) (fun c => ?_)
    · replace h := h.1 c
      refine J_iconst dX10_on_32 (ii_c rfl) ?_
      exact J_reti dX10_on_33 rfl h
    · replace h := h.2 c
      refine J_aload_n dX10_on_16 rfl rfl ?_
      refine J_getR dX10_on_17 ck_10 fw_X10_37 rfl sh_0 rr_0_4 ?_
      refine J_getR dX10_on_20 ck_9 fw_X10_193 rfl sh_32 rr_32_4 ?_
      refine J_iload_n dX10_on_23 rfl rfl ?_
      have hb3 := h.1
      refine J_aald dX10_on_24 sh_36 h.1.1 h.1.2 (RRw h.1.1 h.1.2) ?_
      replace h := h.2
      refine J_iload_n dX10_on_25 rfl rfl ?_
      refine J_callV (as := [_]) (mc1 := 0) (ms1 := 0) (mc := 0) (ms := 0) dX10_on_26 mv_X8_laneAt lk_X10_224 ((TRw hb3.1 hb3.2).1) rfl (Nat.le_of_ble_eq_true rfl) (Nat.le_of_ble_eq_true rfl) h (fun r σ hq _ => ?_)
      obtain ⟨x4, I3, rfl, rfl, h⟩ := hq
      change J _ _ _ _ _ _ _ [vI x4] _ _
      refine J_goto (tgt := 33) dX10_on_29 (by decide) ?_
      exact J_reti dX10_on_33 rfl h
set_option maxRecDepth 20000 in
set_option maxHeartbeats 2000000 in
theorem bk_X10_petals_0 {d : Nat} {I : HI} {Q : Option AV → AH → Prop} {a1 : Int} {a2 : Int}  (h : CI mX10_isLane d [vR 0, vI a1] I (fun x1 I1 => ((x1 = 0 → Q (some (vI (-1))) (mk I1)) ∧ (¬ (x1 = 0) → CI mX10_isMinute d [vR 0, vI a2] I1 (fun x2 I2 => ((x2 ≠ 0 → J none mX10_petals (d + 1) 0 0 23 [(0, vR 0), (1, vI a1), (2, vI a2), (3, vI 0), (4, vI 0)] [] (mk I2) Q) ∧ (x2 = 0 → Q (some (vI (-1))) (mk I2)))))))) : J none mX10_petals (d + 1) 0 0 0 [(0, vR 0), (1, vI a1), (2, vI a2)] [] (mk I) Q := by
  refine J_aload_n dX10_petals_0 rfl rfl ?_
  refine J_iload_n dX10_petals_1 rfl rfl ?_
  refine J_callV (as := [_]) (mc1 := 0) (ms1 := 0) (mc := 0) (ms := 0) dX10_petals_2 mv_X10_isLane lk_X10_171 sh_0 rfl (Nat.le_of_ble_eq_true rfl) (Nat.le_of_ble_eq_true rfl) h (fun r σ hq _ => ?_)
  obtain ⟨x1, I1, rfl, rfl, h⟩ := hq
  change J _ _ _ _ _ _ _ [vI x1] _ _
  refine J_if_eq (tgt := 16) dX10_petals_5 (by decide) (fun c => ?_) (fun c => ?_)
  · replace h := h.1 c
    refine J_iconst dX10_petals_16 (ii_c rfl) ?_
    exact J_reti dX10_petals_17 rfl h
  · replace h := h.2 c
    refine J_aload_n dX10_petals_8 rfl rfl ?_
    refine J_iload_n dX10_petals_9 rfl rfl ?_
    refine J_callV (as := [_]) (mc1 := 0) (ms1 := 0) (mc := 0) (ms := 0) dX10_petals_10 mv_X10_isMinute lk_X10_218 sh_0 rfl (Nat.le_of_ble_eq_true rfl) (Nat.le_of_ble_eq_true rfl) h (fun r σ hq _ => ?_)
    obtain ⟨x2, I2, rfl, rfl, h⟩ := hq
    change J _ _ _ _ _ _ _ [vI x2] _ _
    refine J_if_ne (tgt := 18) dX10_petals_13 (by decide) (fun c => ?_) (fun c => ?_)
    · replace h := h.1 c
      refine J_iconst dX10_petals_18 (ii_c rfl) ?_
      refine J_istore_n dX10_petals_19 rfl (by decide) ?_
      change J _ _ _ _ _ _ [(0, _), (1, _), (2, _), (3, _)] _ _ _
      refine J_iconst dX10_petals_20 (ii_c rfl) ?_
      refine J_istore dX10_petals_21 (by decide) ?_
      change J _ _ _ _ _ _ [(0, _), (1, _), (2, _), (3, _), (4, _)] _ _ _
      exact h
    · replace h := h.2 c
      refine J_iconst dX10_petals_16 (ii_c rfl) ?_
      exact J_reti dX10_petals_17 rfl h
set_option maxRecDepth 20000 in
set_option maxHeartbeats 2000000 in
theorem bk_X10_petals_23 {d : Nat} {I : HI} {Q : Option AV → AH → Prop} {a1 : Int} {a2 : Int} {a3 : Int} {a4 : Int}  (h : (((I 2 2) ≤ a4 → Q (some (vI a3)) (mk I)) ∧ (¬ ((I 2 2) ≤ a4) → ((0 : Int) ≤ a4 ∧ (a4 : Int) < 4) ∧ CI mX0_petalsOf d [vR 1, vI a4, vR (37 + 5 * a4.toNat), vI 0, vI a2] I (fun x2 I1 => (-2147483648 ≤ a4 + 1 ∧ a4 + 1 ≤ 2147483647) ∧ J none mX10_petals (d + 1) 0 0 23 [(0, vR 0), (1, vI a1), (2, vI a2), (3, vI (oO a3 (oSl (oA (oSr x2 a1) 1) a4))), (4, vI (a4 + 1))] [] (mk I1) Q)))) : J none mX10_petals (d + 1) 0 0 23 [(0, vR 0), (1, vI a1), (2, vI a2), (3, vI a3), (4, vI a4)] [] (mk I) Q := by
  refine J_iload dX10_petals_23 rfl ?_
  refine J_aload_n dX10_petals_25 rfl rfl ?_
  refine J_getR dX10_petals_26 ck_10 fw_X10_10 rfl sh_0 rr_0_0 ?_
  refine J_getR dX10_petals_29 ck_0 fw_X10_140 rfl sh_1 rr_1_0 ?_
  refine J_iconst dX10_petals_32 (ii_c rfl) ?_
  refine J_iald dX10_petals_33 sh_2 (by decide) (by decide) ?_
  refine J_ic_ge (tgt := 74) dX10_petals_34 (by decide) (fun c => ?_) (fun c => ?_)
  · replace h := h.1 c
    refine J_iload_n dX10_petals_74 rfl rfl ?_
    exact J_reti dX10_petals_75 rfl h
  · replace h := h.2 c
    refine J_iload_n dX10_petals_37 rfl rfl ?_
    refine J_aload_n dX10_petals_38 rfl rfl ?_
    refine J_getR dX10_petals_39 ck_10 fw_X10_10 rfl sh_0 rr_0_0 ?_
    refine J_iload dX10_petals_42 rfl ?_
    refine J_aload_n dX10_petals_44 rfl rfl ?_
    refine J_getR dX10_petals_45 ck_10 fw_X10_37 rfl sh_0 rr_0_4 ?_
    refine J_getR dX10_petals_48 ck_9 fw_X10_193 rfl sh_32 rr_32_4 ?_
    refine J_iload dX10_petals_51 rfl ?_
    have hb1 := h.1
    refine J_aald dX10_petals_53 sh_36 h.1.1 h.1.2 (RRw h.1.1 h.1.2) ?_
    replace h := h.2
    refine J_iconst dX10_petals_54 (ii_c rfl) ?_
    refine J_iload_n dX10_petals_55 rfl rfl ?_
    refine J_callV (as := [_, _, _, _]) (mc1 := 0) (ms1 := 0) (mc := 0) (ms := 0) dX10_petals_56 mv_X0_petalsOf lk_X10_227 sh_1 rfl (Nat.le_of_ble_eq_true rfl) (Nat.le_of_ble_eq_true rfl) h (fun r σ hq _ => ?_)
    obtain ⟨x2, I1, rfl, rfl, h⟩ := hq
    change J _ _ _ _ _ _ _ [vI x2, _] _ _
    refine J_iload_n dX10_petals_59 rfl rfl ?_
    refine J_ishr dX10_petals_60 ?_
    refine J_iconst dX10_petals_61 (ii_c rfl) ?_
    refine J_iand dX10_petals_62 ?_
    refine J_iload dX10_petals_63 rfl ?_
    refine J_ishl dX10_petals_65 ?_
    refine J_ior dX10_petals_66 ?_
    refine J_istore_n dX10_petals_67 rfl (by decide) ?_
    change J _ _ _ _ _ _ [(0, _), (1, _), (2, _), (3, _), (4, _)] _ _ _
    refine J_iincN dX10_petals_68 rfl (by decide) h.1 ?_
    replace h := h.2
    change J _ _ _ _ _ _ [(0, _), (1, _), (2, _), (3, _), (4, _)] _ _ _
    refine J_goto (tgt := 23) dX10_petals_71 (by decide) ?_
    exact h
set_option maxRecDepth 20000 in
set_option maxHeartbeats 2000000 in
theorem bk_X10_passes_0 {d : Nat} {I : HI} {Q : Option AV → AH → Prop} {a1 : Int} {a2 : Int}  (h : CI mX10_isSaint d [vR 0, vI a1] I (fun x1 I1 => ((x1 = 0 → Q (some (vI (-1))) (mk I1)) ∧ (¬ (x1 = 0) → CI mX4_firstIn d [vR 67, vI a1, vI a2] I1 (fun x2 I2 => Q (some (vI x2)) (mk I2)))))) : J none mX10_passes (d + 1) 0 0 0 [(0, vR 0), (1, vI a1), (2, vI a2)] [] (mk I) Q := by
  refine J_aload_n dX10_passes_0 rfl rfl ?_
  refine J_iload_n dX10_passes_1 rfl rfl ?_
  refine J_callV (as := [_]) (mc1 := 0) (ms1 := 0) (mc := 0) (ms := 0) dX10_passes_2 mv_X10_isSaint lk_X10_184 sh_0 rfl (Nat.le_of_ble_eq_true rfl) (Nat.le_of_ble_eq_true rfl) h (fun r σ hq _ => ?_)
  obtain ⟨x1, I1, rfl, rfl, h⟩ := hq
  change J _ _ _ _ _ _ _ [vI x1] _ _
  refine J_if_eq (tgt := 20) dX10_passes_5 (by decide) (fun c => ?_) (fun c => ?_)
  · replace h := h.1 c
    refine J_iconst dX10_passes_20 (ii_c rfl) ?_
    exact J_reti dX10_passes_21 rfl h
  · replace h := h.2 c
    refine J_aload_n dX10_passes_8 rfl rfl ?_
    refine J_getR dX10_passes_9 ck_10 fw_X10_60 rfl sh_0 rr_0_7 ?_
    refine J_iload_n dX10_passes_12 rfl rfl ?_
    refine J_iload_n dX10_passes_13 rfl rfl ?_
    refine J_callV (as := [_, _]) (mc1 := 0) (ms1 := 0) (mc := 0) (ms := 0) dX10_passes_14 mv_X4_firstIn lk_X10_231 sh_67 rfl (Nat.le_of_ble_eq_true rfl) (Nat.le_of_ble_eq_true rfl) h (fun r σ hq _ => ?_)
    obtain ⟨x2, I2, rfl, rfl, h⟩ := hq
    change J _ _ _ _ _ _ _ [vI x2] _ _
    refine J_goto (tgt := 21) dX10_passes_17 (by decide) ?_
    exact J_reti dX10_passes_21 rfl h
set_option maxRecDepth 20000 in
set_option maxHeartbeats 2000000 in
theorem bk_X10_clash_0 {d : Nat} {I : HI} {Q : Option AV → AH → Prop} {a1 : Int}  (h : ((a1 < 0 → Q (some (vI (-1))) (mk I)) ∧ (¬ (a1 < 0) → ((a1 ≤ 3 → CI mX4_firstClash d [vR 67, vI a1] I (fun x1 I1 => Q (some (vI x1)) (mk I1))) ∧ (¬ (a1 ≤ 3) → Q (some (vI (-1))) (mk I)))))) : J none mX10_clash (d + 1) 0 0 0 [(0, vR 0), (1, vI a1)] [] (mk I) Q := by
  refine J_iload_n dX10_clash_0 rfl rfl ?_
  refine J_if_lt (tgt := 9) dX10_clash_1 (by decide) (fun c => ?_) (fun c => ?_)
  · replace h := h.1 c
    refine J_iconst dX10_clash_9 (ii_c rfl) ?_
    refine J_goto (tgt := 21) dX10_clash_10 (by decide) ?_
    exact J_reti dX10_clash_21 rfl h
  · replace h := h.2 c
    refine J_iload_n dX10_clash_4 rfl rfl ?_
    refine J_iconst dX10_clash_5 (ii_c rfl) ?_
    refine J_ic_le (tgt := 13) dX10_clash_6 (by decide) (fun c => ?_) (fun c => ?_)
    · replace h := h.1 c
      refine J_aload_n dX10_clash_13 rfl rfl ?_
      refine J_getR dX10_clash_14 ck_10 fw_X10_60 rfl sh_0 rr_0_7 ?_
      refine J_iload_n dX10_clash_17 rfl rfl ?_
      refine J_callV (as := [_]) (mc1 := 0) (ms1 := 0) (mc := 0) (ms := 0) dX10_clash_18 mv_X4_firstClash lk_X10_234 sh_67 rfl (Nat.le_of_ble_eq_true rfl) (Nat.le_of_ble_eq_true rfl) h (fun r σ hq _ => ?_)
      obtain ⟨x1, I1, rfl, rfl, h⟩ := hq
      change J _ _ _ _ _ _ _ [vI x1] _ _
      exact J_reti dX10_clash_21 rfl h
    · replace h := h.2 c
      refine J_iconst dX10_clash_9 (ii_c rfl) ?_
      refine J_goto (tgt := 21) dX10_clash_10 (by decide) ?_
      exact J_reti dX10_clash_21 rfl h
set_option maxRecDepth 20000 in
set_option maxHeartbeats 2000000 in
theorem bk_X10_clashes_0 {d : Nat} {I : HI} {Q : Option AV → AH → Prop} {a1 : Int}  (h : ((a1 < 0 → Q (some (vI (-1))) (mk I)) ∧ (¬ (a1 < 0) → ((a1 ≤ 1 → CI mX4_tally d [vR 67, vI a1] I (fun x1 I1 => Q (some (vI x1)) (mk I1))) ∧ (¬ (a1 ≤ 1) → Q (some (vI (-1))) (mk I)))))) : J none mX10_clashes (d + 1) 0 0 0 [(0, vR 0), (1, vI a1)] [] (mk I) Q := by
  refine J_iload_n dX10_clashes_0 rfl rfl ?_
  refine J_if_lt (tgt := 9) dX10_clashes_1 (by decide) (fun c => ?_) (fun c => ?_)
  · replace h := h.1 c
    refine J_iconst dX10_clashes_9 (ii_c rfl) ?_
    refine J_goto (tgt := 21) dX10_clashes_10 (by decide) ?_
    exact J_reti dX10_clashes_21 rfl h
  · replace h := h.2 c
    refine J_iload_n dX10_clashes_4 rfl rfl ?_
    refine J_iconst dX10_clashes_5 (ii_c rfl) ?_
    refine J_ic_le (tgt := 13) dX10_clashes_6 (by decide) (fun c => ?_) (fun c => ?_)
    · replace h := h.1 c
      refine J_aload_n dX10_clashes_13 rfl rfl ?_
      refine J_getR dX10_clashes_14 ck_10 fw_X10_60 rfl sh_0 rr_0_7 ?_
      refine J_iload_n dX10_clashes_17 rfl rfl ?_
      refine J_callV (as := [_]) (mc1 := 0) (ms1 := 0) (mc := 0) (ms := 0) dX10_clashes_18 mv_X4_tally lk_X10_237 sh_67 rfl (Nat.le_of_ble_eq_true rfl) (Nat.le_of_ble_eq_true rfl) h (fun r σ hq _ => ?_)
      obtain ⟨x1, I1, rfl, rfl, h⟩ := hq
      change J _ _ _ _ _ _ _ [vI x1] _ _
      exact J_reti dX10_clashes_21 rfl h
    · replace h := h.2 c
      refine J_iconst dX10_clashes_9 (ii_c rfl) ?_
      refine J_goto (tgt := 21) dX10_clashes_10 (by decide) ?_
      exact J_reti dX10_clashes_21 rfl h
set_option maxRecDepth 20000 in
set_option maxHeartbeats 2000000 in
theorem bk_X10_meet_0 {d : Nat} {I : HI} {Q : Option AV → AH → Prop} {a1 : Int} {a2 : Int}  (h : CI mX10_isSaint d [vR 0, vI a1] I (fun x1 I1 => ((x1 = 0 → Q (some (vI (-1))) (mk I1)) ∧ (¬ (x1 = 0) → CI mX10_isSaint d [vR 0, vI a2] I1 (fun x2 I2 => ((x2 = 0 → Q (some (vI (-1))) (mk I2)) ∧ (¬ (x2 = 0) → ((a1 ≠ a2 → CI mX4_firstMeeting d [vR 67, vI (min a1 a2), vI (max a1 a2)] I2 (fun x3 I3 => Q (some (vI x3)) (mk I3))) ∧ (a1 = a2 → Q (some (vI (-1))) (mk I2)))))))))) : J none mX10_meet (d + 1) 0 0 0 [(0, vR 0), (1, vI a1), (2, vI a2)] [] (mk I) Q := by
  refine J_aload_n dX10_meet_0 rfl rfl ?_
  refine J_iload_n dX10_meet_1 rfl rfl ?_
  refine J_callV (as := [_]) (mc1 := 0) (ms1 := 0) (mc := 0) (ms := 0) dX10_meet_2 mv_X10_isSaint lk_X10_184 sh_0 rfl (Nat.le_of_ble_eq_true rfl) (Nat.le_of_ble_eq_true rfl) h (fun r σ hq _ => ?_)
  obtain ⟨x1, I1, rfl, rfl, h⟩ := hq
  change J _ _ _ _ _ _ _ [vI x1] _ _
  refine J_if_eq (tgt := 21) dX10_meet_5 (by decide) (fun c => ?_) (fun c => ?_)
  · replace h := h.1 c
    refine J_iconst dX10_meet_21 (ii_c rfl) ?_
    exact J_reti dX10_meet_22 rfl h
  · replace h := h.2 c
    refine J_aload_n dX10_meet_8 rfl rfl ?_
    refine J_iload_n dX10_meet_9 rfl rfl ?_
    refine J_callV (as := [_]) (mc1 := 0) (ms1 := 0) (mc := 0) (ms := 0) dX10_meet_10 mv_X10_isSaint lk_X10_184 sh_0 rfl (Nat.le_of_ble_eq_true rfl) (Nat.le_of_ble_eq_true rfl) h (fun r σ hq _ => ?_)
    obtain ⟨x2, I2, rfl, rfl, h⟩ := hq
    change J _ _ _ _ _ _ _ [vI x2] _ _
    refine J_if_eq (tgt := 21) dX10_meet_13 (by decide) (fun c => ?_) (fun c => ?_)
    · replace h := h.1 c
      refine J_iconst dX10_meet_21 (ii_c rfl) ?_
      exact J_reti dX10_meet_22 rfl h
    · replace h := h.2 c
      refine J_iload_n dX10_meet_16 rfl rfl ?_
      refine J_iload_n dX10_meet_17 rfl rfl ?_
      refine J_ic_ne (tgt := 23) dX10_meet_18 (by decide) (fun c => ?_) (fun c => ?_)
      · replace h := h.1 c
        refine J_aload_n dX10_meet_23 rfl rfl ?_
        refine J_getR dX10_meet_24 ck_10 fw_X10_60 rfl sh_0 rr_0_7 ?_
        refine J_iload_n dX10_meet_27 rfl rfl ?_
        refine J_iload_n dX10_meet_28 rfl rfl ?_
        refine J_min dX10_meet_29 lk_X10_240 (Nat.le_of_ble_eq_true rfl) ?_
        refine J_iload_n dX10_meet_32 rfl rfl ?_
        refine J_iload_n dX10_meet_33 rfl rfl ?_
        refine J_max dX10_meet_34 lk_X10_245 (Nat.le_of_ble_eq_true rfl) ?_
        refine J_callV (as := [_, _]) (mc1 := 0) (ms1 := 0) (mc := 0) (ms := 0) dX10_meet_37 mv_X4_firstMeeting lk_X10_248 sh_67 rfl (Nat.le_of_ble_eq_true rfl) (Nat.le_of_ble_eq_true rfl) h (fun r σ hq _ => ?_)
        obtain ⟨x3, I3, rfl, rfl, h⟩ := hq
        change J _ _ _ _ _ _ _ [vI x3] _ _
        exact J_reti dX10_meet_40 rfl h
      · replace h := h.2 c
        refine J_iconst dX10_meet_21 (ii_c rfl) ?_
        exact J_reti dX10_meet_22 rfl h
set_option maxRecDepth 20000 in
set_option maxHeartbeats 2000000 in
theorem bk_X10_pleased_0 {d : Nat} {I : HI} {Q : Option AV → AH → Prop}   (h : CI mX4_joy d [vR 67] I (fun x1 I1 => Q (some (vI x1)) (mk I1))) : J none mX10_pleased (d + 1) 0 0 0 [(0, vR 0)] [] (mk I) Q := by
  refine J_aload_n dX10_pleased_0 rfl rfl ?_
  refine J_getR dX10_pleased_1 ck_10 fw_X10_60 rfl sh_0 rr_0_7 ?_
  refine J_callV (as := []) (mc1 := 0) (ms1 := 0) (mc := 0) (ms := 0) dX10_pleased_4 mv_X4_joy lk_X10_251 sh_67 rfl (Nat.le_of_ble_eq_true rfl) (Nat.le_of_ble_eq_true rfl) h (fun r σ hq _ => ?_)
  obtain ⟨x1, I1, rfl, rfl, h⟩ := hq
  change J _ _ _ _ _ _ _ [vI x1] _ _
  exact J_reti dX10_pleased_7 rfl h
set_option maxRecDepth 20000 in
set_option maxHeartbeats 2000000 in
theorem bk_X10_but_0 {d : Nat} {I : HI} {Q : Option AV → AH → Prop} {a1 : Int}  (h : ((a1 < 0 → Q (some (vI 0)) (mk I)) ∧ (¬ (a1 < 0) → (((oSl 1 (I 2 4)) ≤ a1 → Q (some (vI 0)) (mk I)) ∧ (¬ ((oSl 1 (I 2 4)) ≤ a1) → CI mX9_soften d [vR 32, vI a1] I (fun x1 I1 => ((x1 = 0 → Q (some (vI 0)) (mk I1)) ∧ (¬ (x1 = 0) → Q (some (vI 1)) (mk I1))))))))) : J none mX10_but (d + 1) 0 0 0 [(0, vR 0), (1, vI a1)] [] (mk I) Q := by
  refine J_iload_n dX10_but_0 rfl rfl ?_
  refine J_if_lt (tgt := 34) dX10_but_1 (by decide) (fun c => ?_) (fun c => ?_)
  · replace h := h.1 c
    refine J_iconst dX10_but_34 (ii_c rfl) ?_
    exact J_retz dX10_but_35 rfl (Or.inl rfl) h
  · replace h := h.2 c
    refine J_iload_n dX10_but_4 rfl rfl ?_
    refine J_iconst dX10_but_5 (ii_c rfl) ?_
    refine J_aload_n dX10_but_6 rfl rfl ?_
    refine J_getR dX10_but_7 ck_10 fw_X10_10 rfl sh_0 rr_0_0 ?_
    refine J_getR dX10_but_10 ck_0 fw_X10_140 rfl sh_1 rr_1_0 ?_
    refine J_iconst dX10_but_13 (ii_c rfl) ?_
    refine J_iald dX10_but_14 sh_2 (by decide) (by decide) ?_
    refine J_ishl dX10_but_15 ?_
    refine J_ic_ge (tgt := 34) dX10_but_16 (by decide) (fun c => ?_) (fun c => ?_)
    · replace h := h.1 c
      refine J_iconst dX10_but_34 (ii_c rfl) ?_
      exact J_retz dX10_but_35 rfl (Or.inl rfl) h
    · replace h := h.2 c
      refine J_aload_n dX10_but_19 rfl rfl ?_
      refine J_getR dX10_but_20 ck_10 fw_X10_37 rfl sh_0 rr_0_4 ?_
      refine J_iload_n dX10_but_23 rfl rfl ?_
      refine J_callV (as := [_]) (mc1 := 0) (ms1 := 0) (mc := 0) (ms := 0) dX10_but_24 mv_X9_soften lk_X10_254 sh_32 rfl (Nat.le_of_ble_eq_true rfl) (Nat.le_of_ble_eq_true rfl) h (fun r σ hq _ => ?_)
      obtain ⟨x1, I1, rfl, rfl, h⟩ := hq
      change J _ _ _ _ _ _ _ [vI x1] _ _
      refine J_if_eq (tgt := 34) dX10_but_27 (by decide) (fun c => ?_) (fun c => ?_)
      · replace h := h.1 c
        refine J_iconst dX10_but_34 (ii_c rfl) ?_
        exact J_retz dX10_but_35 rfl (Or.inl rfl) h
      · replace h := h.2 c
        refine J_iconst dX10_but_30 (ii_c rfl) ?_
        refine J_goto (tgt := 35) dX10_but_31 (by decide) ?_
        exact J_retz dX10_but_35 rfl (Or.inr rfl) h
set_option maxRecDepth 20000 in
set_option maxHeartbeats 2000000 in
theorem bk_X10_words_0 {d : Nat} {I : HI} {Q : Option AV → AH → Prop} {a1 : Int}  (h : ((a1 < 0 → Q (some (vI (-1))) (mk I)) ∧ (¬ (a1 < 0) → ((a1 < (I 2 4) → ((0 : Int) ≤ a1 ∧ (a1 : Int) < 6) ∧ Q (some (vI (I 11 a1.toNat))) (mk I)) ∧ (¬ (a1 < (I 2 4)) → Q (some (vI (-1))) (mk I)))))) : J none mX10_words (d + 1) 0 0 0 [(0, vR 0), (1, vI a1)] [] (mk I) Q := by
  refine J_iload_n dX10_words_0 rfl rfl ?_
  refine J_if_lt (tgt := 17) dX10_words_1 (by decide) (fun c => ?_) (fun c => ?_)
  · replace h := h.1 c
    refine J_iconst dX10_words_17 (ii_c rfl) ?_
    refine J_goto (tgt := 30) dX10_words_18 (by decide) ?_
    exact J_reti dX10_words_30 rfl h
  · replace h := h.2 c
    refine J_iload_n dX10_words_4 rfl rfl ?_
    refine J_aload_n dX10_words_5 rfl rfl ?_
    refine J_getR dX10_words_6 ck_10 fw_X10_10 rfl sh_0 rr_0_0 ?_
    refine J_getR dX10_words_9 ck_0 fw_X10_140 rfl sh_1 rr_1_0 ?_
    refine J_iconst dX10_words_12 (ii_c rfl) ?_
    refine J_iald dX10_words_13 sh_2 (by decide) (by decide) ?_
    refine J_ic_lt (tgt := 21) dX10_words_14 (by decide) (fun c => ?_) (fun c => ?_)
    · replace h := h.1 c
      refine J_aload_n dX10_words_21 rfl rfl ?_
      refine J_getR dX10_words_22 ck_10 fw_X10_10 rfl sh_0 rr_0_0 ?_
      refine J_getR dX10_words_25 ck_0 fw_X10_257 rfl sh_1 rr_1_9 ?_
      refine J_iload_n dX10_words_28 rfl rfl ?_
      refine J_iald dX10_words_29 sh_11 h.1.1 h.1.2 ?_
      replace h := h.2
      exact J_reti dX10_words_30 rfl h
    · replace h := h.2 c
      refine J_iconst dX10_words_17 (ii_c rfl) ?_
      refine J_goto (tgt := 30) dX10_words_18 (by decide) ?_
      exact J_reti dX10_words_30 rfl h
set_option maxRecDepth 20000 in
set_option maxHeartbeats 2000000 in
theorem bk_X10_softer_0 {d : Nat} {I : HI} {Q : Option AV → AH → Prop} {a1 : Int}  (h : ((a1 < 0 → Q (some (vI (-1))) (mk I)) ∧ (¬ (a1 < 0) → ((a1 ≤ 1 → CI mX4_softest d [vR 67] I (fun x1 I1 => ((a1 = 0 → Q (some (vI x1)) (mk I1)) ∧ (¬ (a1 = 0) → ((x1 ≠ (-1) → CI mX0_wordsOf d [vR 1, vI x1] I1 (fun x2 I2 => Q (some (vI x2)) (mk I2))) ∧ (x1 = (-1) → Q (some (vI x1)) (mk I1))))))) ∧ (¬ (a1 ≤ 1) → Q (some (vI (-1))) (mk I)))))) : J none mX10_softer (d + 1) 0 0 0 [(0, vR 0), (1, vI a1)] [] (mk I) Q := by
  refine J_iload_n dX10_softer_0 rfl rfl ?_
  refine J_if_lt (tgt := 9) dX10_softer_1 (by decide) (fun c => ?_) (fun c => ?_)
  · replace h := h.1 c
    refine J_iconst dX10_softer_9 (ii_c rfl) ?_
    exact J_reti dX10_softer_10 rfl h
  · replace h := h.2 c
    refine J_iload_n dX10_softer_4 rfl rfl ?_
    refine J_iconst dX10_softer_5 (ii_c rfl) ?_
    refine J_ic_le (tgt := 11) dX10_softer_6 (by decide) (fun c => ?_) (fun c => ?_)
    · replace h := h.1 c
      refine J_aload_n dX10_softer_11 rfl rfl ?_
      refine J_getR dX10_softer_12 ck_10 fw_X10_60 rfl sh_0 rr_0_7 ?_
      refine J_callV (as := []) (mc1 := 0) (ms1 := 0) (mc := 0) (ms := 0) dX10_softer_15 mv_X4_softest lk_X10_260 sh_67 rfl (Nat.le_of_ble_eq_true rfl) (Nat.le_of_ble_eq_true rfl) h (fun r σ hq _ => ?_)
      obtain ⟨x1, I1, rfl, rfl, h⟩ := hq
      change J _ _ _ _ _ _ _ [vI x1] _ _
      refine J_istore_n dX10_softer_18 rfl (by decide) ?_
      change J _ _ _ _ _ _ [(0, _), (1, _), (2, _)] _ _ _
      refine J_iload_n dX10_softer_19 rfl rfl ?_
      refine J_if_eq (tgt := 28) dX10_softer_20 (by decide) (fun c => ?_) (fun c => ?_)
      · replace h := h.1 c
        refine J_iload_n dX10_softer_28 rfl rfl ?_
        refine J_goto (tgt := 40) dX10_softer_29 (by decide) ?_
        exact J_reti dX10_softer_40 rfl h
      · replace h := h.2 c
        refine J_iload_n dX10_softer_23 rfl rfl ?_
        refine J_iconst dX10_softer_24 (ii_c rfl) ?_
        refine J_ic_ne (tgt := 32) dX10_softer_25 (by decide) (fun c => ?_) (fun c => ?_)
        · replace h := h.1 c
          refine J_aload_n dX10_softer_32 rfl rfl ?_
          refine J_getR dX10_softer_33 ck_10 fw_X10_10 rfl sh_0 rr_0_0 ?_
          refine J_iload_n dX10_softer_36 rfl rfl ?_
          refine J_callV (as := [_]) (mc1 := 0) (ms1 := 0) (mc := 0) (ms := 0) dX10_softer_37 mv_X0_wordsOf lk_X10_263 sh_1 rfl (Nat.le_of_ble_eq_true rfl) (Nat.le_of_ble_eq_true rfl) h (fun r σ hq _ => ?_)
          obtain ⟨x2, I2, rfl, rfl, h⟩ := hq
          change J _ _ _ _ _ _ _ [vI x2] _ _
          exact J_reti dX10_softer_40 rfl h
        · replace h := h.2 c
          refine J_iload_n dX10_softer_28 rfl rfl ?_
          refine J_goto (tgt := 40) dX10_softer_29 (by decide) ?_
          exact J_reti dX10_softer_40 rfl h
    · replace h := h.2 c
      refine J_iconst dX10_softer_9 (ii_c rfl) ?_
      exact J_reti dX10_softer_10 rfl h
set_option maxRecDepth 20000 in
set_option maxHeartbeats 2000000 in
theorem bk_X10_shut_0 {d : Nat} {I : HI} {Q : Option AV → AH → Prop} {a1 : Int} {a2 : Int}  (h : CI mX10_isLane d [vR 0, vI a1] I (fun x1 I1 => ((x1 = 0 → Q (some (vI 0)) (mk I1)) ∧ (¬ (x1 = 0) → CI mX9_bar d [vR 32, vI a1, vI a2] I1 (fun x2 I2 => ((x2 = 0 → Q (some (vI 0)) (mk I2)) ∧ (¬ (x2 = 0) → Q (some (vI 1)) (mk I2)))))))) : J none mX10_shut (d + 1) 0 0 0 [(0, vR 0), (1, vI a1), (2, vI a2)] [] (mk I) Q := by
  refine J_aload_n dX10_shut_0 rfl rfl ?_
  refine J_iload_n dX10_shut_1 rfl rfl ?_
  refine J_callV (as := [_]) (mc1 := 0) (ms1 := 0) (mc := 0) (ms := 0) dX10_shut_2 mv_X10_isLane lk_X10_171 sh_0 rfl (Nat.le_of_ble_eq_true rfl) (Nat.le_of_ble_eq_true rfl) h (fun r σ hq _ => ?_)
  obtain ⟨x1, I1, rfl, rfl, h⟩ := hq
  change J _ _ _ _ _ _ _ [vI x1] _ _
  refine J_if_eq (tgt := 24) dX10_shut_5 (by decide) (fun c => ?_) (fun c => ?_)
  · replace h := h.1 c
    refine J_iconst dX10_shut_24 (ii_c rfl) ?_
    exact J_retz dX10_shut_25 rfl (Or.inl rfl) h
  · replace h := h.2 c
    refine J_aload_n dX10_shut_8 rfl rfl ?_
    refine J_getR dX10_shut_9 ck_10 fw_X10_37 rfl sh_0 rr_0_4 ?_
    refine J_iload_n dX10_shut_12 rfl rfl ?_
    refine J_iload_n dX10_shut_13 rfl rfl ?_
    refine J_callV (as := [_, _]) (mc1 := 0) (ms1 := 0) (mc := 0) (ms := 0) dX10_shut_14 mv_X9_bar lk_X10_266 sh_32 rfl (Nat.le_of_ble_eq_true rfl) (Nat.le_of_ble_eq_true rfl) h (fun r σ hq _ => ?_)
    obtain ⟨x2, I2, rfl, rfl, h⟩ := hq
    change J _ _ _ _ _ _ _ [vI x2] _ _
    refine J_if_eq (tgt := 24) dX10_shut_17 (by decide) (fun c => ?_) (fun c => ?_)
    · replace h := h.1 c
      refine J_iconst dX10_shut_24 (ii_c rfl) ?_
      exact J_retz dX10_shut_25 rfl (Or.inl rfl) h
    · replace h := h.2 c
      refine J_iconst dX10_shut_20 (ii_c rfl) ?_
      refine J_goto (tgt := 25) dX10_shut_21 (by decide) ?_
      exact J_retz dX10_shut_25 rfl (Or.inr rfl) h
set_option maxRecDepth 20000 in
set_option maxHeartbeats 2000000 in
theorem bk_X10_sweep_0 {d : Nat} {I : HI} {Q : Option AV → AH → Prop} {a1 : Int}  (h : CI mX4_foul d [vR 67] I (fun x1 I1 => ((a1 ≠ (-1) → J none mX10_sweep (d + 1) 0 0 23 [(0, vR 0), (1, vI a1), (2, vI x1), (3, vI 0), (4, vI 0)] [] (mk I1) Q) ∧ (a1 = (-1) → CI mJ6_bitCount_0f7a4 d [vI x1] I1 (fun x2 I2 => Q (some (vI x2)) (mk I2)))))) : J none mX10_sweep (d + 1) 0 0 0 [(0, vR 0), (1, vI a1)] [] (mk I) Q := by
  refine J_aload_n dX10_sweep_0 rfl rfl ?_
  refine J_getR dX10_sweep_1 ck_10 fw_X10_60 rfl sh_0 rr_0_7 ?_
  refine J_callV (as := []) (mc1 := 0) (ms1 := 0) (mc := 0) (ms := 0) dX10_sweep_4 mv_X4_foul lk_X10_270 sh_67 rfl (Nat.le_of_ble_eq_true rfl) (Nat.le_of_ble_eq_true rfl) h (fun r σ hq _ => ?_)
  obtain ⟨x1, I1, rfl, rfl, h⟩ := hq
  change J _ _ _ _ _ _ _ [vI x1] _ _
  refine J_istore_n dX10_sweep_7 rfl (by decide) ?_
  change J _ _ _ _ _ _ [(0, _), (1, _), (2, _)] _ _ _
  refine J_iload_n dX10_sweep_8 rfl rfl ?_
  refine J_iconst dX10_sweep_9 (ii_c rfl) ?_
  refine J_ic_ne (tgt := 18) dX10_sweep_10 (by decide) (fun c => ?_) (fun c => ?_)
  · replace h := h.1 c
    refine J_iconst dX10_sweep_18 (ii_c rfl) ?_
    refine J_istore_n dX10_sweep_19 rfl (by decide) ?_
    change J _ _ _ _ _ _ [(0, _), (1, _), (2, _), (3, _)] _ _ _
    refine J_iconst dX10_sweep_20 (ii_c rfl) ?_
    refine J_istore dX10_sweep_21 (by decide) ?_
    change J _ _ _ _ _ _ [(0, _), (1, _), (2, _), (3, _), (4, _)] _ _ _
    exact h
  · replace h := h.2 c
    refine J_iload_n dX10_sweep_13 rfl rfl ?_
    refine J_callS (as := [_]) (mc1 := 0) (ms1 := 0) (mc := 0) (ms := 0) dX10_sweep_14 ms_J6_bitCount_0f7a4 lk_X10_149 rfl (Nat.le_of_ble_eq_true rfl) (Nat.le_of_ble_eq_true rfl) h (fun r σ hq _ => ?_)
    obtain ⟨x2, I2, rfl, rfl, h⟩ := hq
    change J _ _ _ _ _ _ _ [vI x2] _ _
    exact J_reti dX10_sweep_17 rfl h
set_option maxRecDepth 20000 in
set_option maxHeartbeats 2000000 in
theorem bk_X10_sweep_23 {d : Nat} {I : HI} {Q : Option AV → AH → Prop} {a1 : Int} {a2 : Int} {a3 : Int} {a4 : Int}  (h : ((16 ≤ a4 → Q (some (vI (-1))) (mk I)) ∧ (¬ (16 ≤ a4) → (((oA (oSr a2 a4) 1) = 0 → (-2147483648 ≤ a4 + 1 ∧ a4 + 1 ≤ 2147483647) ∧ J none mX10_sweep (d + 1) 0 0 23 [(0, vR 0), (1, vI a1), (2, vI a2), (3, vI a3), (4, vI (a4 + 1))] [] (mk I) Q) ∧ (¬ ((oA (oSr a2 a4) 1) = 0) → (-2147483648 ≤ a3 + 1 ∧ a3 + 1 ≤ 2147483647) ∧ ((a3 ≠ a1 → (-2147483648 ≤ a4 + 1 ∧ a4 + 1 ≤ 2147483647) ∧ J none mX10_sweep (d + 1) 0 0 23 [(0, vR 0), (1, vI a1), (2, vI a2), (3, vI (a3 + 1)), (4, vI (a4 + 1))] [] (mk I) Q) ∧ (a3 = a1 → Q (some (vI a4)) (mk I)))))))) : J none mX10_sweep (d + 1) 0 0 23 [(0, vR 0), (1, vI a1), (2, vI a2), (3, vI a3), (4, vI a4)] [] (mk I) Q := by
  refine J_iload dX10_sweep_23 rfl ?_
  refine J_bipush dX10_sweep_25 (ii_c rfl) (by decide) ?_
  refine J_ic_ge (tgt := 56) dX10_sweep_27 (by decide) (fun c => ?_) (fun c => ?_)
  · replace h := h.1 c
    refine J_iconst dX10_sweep_56 (ii_c rfl) ?_
    exact J_reti dX10_sweep_57 rfl h
  · replace h := h.2 c
    refine J_iload_n dX10_sweep_30 rfl rfl ?_
    refine J_iload dX10_sweep_31 rfl ?_
    refine J_ishr dX10_sweep_33 ?_
    refine J_iconst dX10_sweep_34 (ii_c rfl) ?_
    refine J_iand dX10_sweep_35 ?_
    refine J_if_eq (tgt := 50) dX10_sweep_36 (by decide) (fun c => ?_) (fun c => ?_)
    · replace h := h.1 c
      refine J_iincN dX10_sweep_50 rfl (by decide) h.1 ?_
      replace h := h.2
      change J _ _ _ _ _ _ [(0, _), (1, _), (2, _), (3, _), (4, _)] _ _ _
      refine J_goto (tgt := 23) dX10_sweep_53 (by decide) ?_
      exact h
    · replace h := h.2 c
      refine J_iload_n dX10_sweep_39 rfl rfl ?_
      refine J_iincN dX10_sweep_40 rfl (by decide) h.1 ?_
      replace h := h.2
      change J _ _ _ _ _ _ [(0, _), (1, _), (2, _), (3, _), (4, _)] _ _ _
      refine J_iload_n dX10_sweep_43 rfl rfl ?_
      refine J_ic_ne (tgt := 50) dX10_sweep_44 (by decide) (fun c => ?_) (fun c => ?_)
      · replace h := h.1 c
        refine J_iincN dX10_sweep_50 rfl (by decide) h.1 ?_
        replace h := h.2
        change J _ _ _ _ _ _ [(0, _), (1, _), (2, _), (3, _), (4, _)] _ _ _
        refine J_goto (tgt := 23) dX10_sweep_53 (by decide) ?_
        exact h
      · replace h := h.2 c
        refine J_iload dX10_sweep_47 rfl ?_
        exact J_reti dX10_sweep_49 rfl h
set_option maxRecDepth 20000 in
set_option maxHeartbeats 2000000 in
theorem bk_X10_routes_0 {d : Nat} {I : HI} {Q : Option AV → AH → Prop} {a1 : Int}  (h : CI mX10_isSaint d [vR 0, vI a1] I (fun x1 I1 => ((x1 = 0 → Q (some (vI (-1))) (mk I1)) ∧ (¬ (x1 = 0) → CI mX5_routesOf d [vR 69, vI a1] I1 (fun x2 I2 => Q (some (vI x2)) (mk I2)))))) : J none mX10_routes (d + 1) 0 0 0 [(0, vR 0), (1, vI a1)] [] (mk I) Q := by
  refine J_aload_n dX10_routes_0 rfl rfl ?_
  refine J_iload_n dX10_routes_1 rfl rfl ?_
  refine J_callV (as := [_]) (mc1 := 0) (ms1 := 0) (mc := 0) (ms := 0) dX10_routes_2 mv_X10_isSaint lk_X10_184 sh_0 rfl (Nat.le_of_ble_eq_true rfl) (Nat.le_of_ble_eq_true rfl) h (fun r σ hq _ => ?_)
  obtain ⟨x1, I1, rfl, rfl, h⟩ := hq
  change J _ _ _ _ _ _ _ [vI x1] _ _
  refine J_if_eq (tgt := 19) dX10_routes_5 (by decide) (fun c => ?_) (fun c => ?_)
  · replace h := h.1 c
    refine J_iconst dX10_routes_19 (ii_c rfl) ?_
    exact J_reti dX10_routes_20 rfl h
  · replace h := h.2 c
    refine J_aload_n dX10_routes_8 rfl rfl ?_
    refine J_getR dX10_routes_9 ck_10 fw_X10_67 rfl sh_0 rr_0_8 ?_
    refine J_iload_n dX10_routes_12 rfl rfl ?_
    refine J_callV (as := [_]) (mc1 := 0) (ms1 := 0) (mc := 0) (ms := 0) dX10_routes_13 mv_X5_routesOf lk_X10_273 sh_69 rfl (Nat.le_of_ble_eq_true rfl) (Nat.le_of_ble_eq_true rfl) h (fun r σ hq _ => ?_)
    obtain ⟨x2, I2, rfl, rfl, h⟩ := hq
    change J _ _ _ _ _ _ _ [vI x2] _ _
    refine J_goto (tgt := 20) dX10_routes_16 (by decide) ?_
    exact J_reti dX10_routes_20 rfl h
set_option maxRecDepth 20000 in
set_option maxHeartbeats 2000000 in
theorem bk_X10_route_0 {d : Nat} {I : HI} {Q : Option AV → AH → Prop} {a1 : Int} {a2 : Int} {a3 : Int}  (h : CI mX10_isSaint d [vR 0, vI a1] I (fun x1 I1 => ((x1 = 0 → Q (some (vI (-1))) (mk I1)) ∧ (¬ (x1 = 0) → ((a2 < 0 → Q (some (vI (-1))) (mk I1)) ∧ (¬ (a2 < 0) → CI mX5_routesOf d [vR 69, vI a1] I1 (fun x2 I2 => ((a2 < x2 → (-2147483648 ≤ a1 * 20 ∧ a1 * 20 ≤ 2147483647) ∧ (-2147483648 ≤ (a1 * 20) + a2 ∧ (a1 * 20) + a2 ≤ 2147483647) ∧ ((0 : Int) ≤ ((a1 * 20) + a2) ∧ ((a1 * 20) + a2 : Int) < 80) ∧ ((a3 < 0 → Q (some (vI (-1))) (mk I2)) ∧ (¬ (a3 < 0) → ((a3 < (I2 (77 + 5 * ((a1 * 20) + a2).toNat) 4) → ((0 : Int) ≤ a3 ∧ (a3 : Int) < 10) ∧ Q (some (vI (I2 ((77 + 5 * ((a1 * 20) + a2).toNat) + 1) a3.toNat))) (mk I2)) ∧ (¬ (a3 < (I2 (77 + 5 * ((a1 * 20) + a2).toNat) 4)) → Q (some (vI (-1))) (mk I2)))))) ∧ (¬ (a2 < x2) → Q (some (vI (-1))) (mk I2)))))))))) : J none mX10_route (d + 1) 0 0 0 [(0, vR 0), (1, vI a1), (2, vI a2), (3, vI a3)] [] (mk I) Q := by
  refine J_aload_n dX10_route_0 rfl rfl ?_
  refine J_iload_n dX10_route_1 rfl rfl ?_
  refine J_callV (as := [_]) (mc1 := 0) (ms1 := 0) (mc := 0) (ms := 0) dX10_route_2 mv_X10_isSaint lk_X10_184 sh_0 rfl (Nat.le_of_ble_eq_true rfl) (Nat.le_of_ble_eq_true rfl) h (fun r σ hq _ => ?_)
  obtain ⟨x1, I1, rfl, rfl, h⟩ := hq
  change J _ _ _ _ _ _ _ [vI x1] _ _
  refine J_if_eq (tgt := 24) dX10_route_5 (by decide) (fun c => ?_) (fun c => ?_)
  · replace h := h.1 c
    refine J_iconst dX10_route_24 (ii_c rfl) ?_
    exact J_reti dX10_route_25 rfl h
  · replace h := h.2 c
    refine J_iload_n dX10_route_8 rfl rfl ?_
    refine J_if_lt (tgt := 24) dX10_route_9 (by decide) (fun c => ?_) (fun c => ?_)
    · replace h := h.1 c
      refine J_iconst dX10_route_24 (ii_c rfl) ?_
      exact J_reti dX10_route_25 rfl h
    · replace h := h.2 c
      refine J_iload_n dX10_route_12 rfl rfl ?_
      refine J_aload_n dX10_route_13 rfl rfl ?_
      refine J_getR dX10_route_14 ck_10 fw_X10_67 rfl sh_0 rr_0_8 ?_
      refine J_iload_n dX10_route_17 rfl rfl ?_
      refine J_callV (as := [_]) (mc1 := 0) (ms1 := 0) (mc := 0) (ms := 0) dX10_route_18 mv_X5_routesOf lk_X10_273 sh_69 rfl (Nat.le_of_ble_eq_true rfl) (Nat.le_of_ble_eq_true rfl) h (fun r σ hq _ => ?_)
      obtain ⟨x2, I2, rfl, rfl, h⟩ := hq
      change J _ _ _ _ _ _ _ [vI x2, _] _ _
      refine J_ic_lt (tgt := 26) dX10_route_21 (by decide) (fun c => ?_) (fun c => ?_)
      · replace h := h.1 c
        refine J_aload_n dX10_route_26 rfl rfl ?_
        refine J_getR dX10_route_27 ck_10 fw_X10_67 rfl sh_0 rr_0_8 ?_
        refine J_getR dX10_route_30 ck_5 fw_X10_276 rfl sh_69 rr_69_4 ?_
        refine J_iload_n dX10_route_33 rfl rfl ?_
        refine J_bipush dX10_route_34 (ii_c rfl) (by decide) ?_
        refine J_imulN dX10_route_36 h.1 ?_
        replace h := h.2
        refine J_iload_n dX10_route_37 rfl rfl ?_
        refine J_iaddN dX10_route_38 h.1 ?_
        replace h := h.2
        have hb3 := h.1
        refine J_aald dX10_route_39 sh_70 h.1.1 h.1.2 (RRo h.1.1 h.1.2) ?_
        replace h := h.2
        refine J_astore dX10_route_40 (by decide) ?_
        change J _ _ _ _ _ _ [(0, _), (1, _), (2, _), (3, _), (4, _)] _ _ _
        refine J_iload_n dX10_route_42 rfl rfl ?_
        refine J_if_lt (tgt := 55) dX10_route_43 (by decide) (fun c => ?_) (fun c => ?_)
        · replace h := h.1 c
          refine J_iconst dX10_route_55 (ii_c rfl) ?_
          refine J_goto (tgt := 66) dX10_route_56 (by decide) ?_
          exact J_reti dX10_route_66 rfl h
        · replace h := h.2 c
          refine J_iload_n dX10_route_46 rfl rfl ?_
          refine J_aload dX10_route_47 rfl ?_
          refine J_getI dX10_route_49 ck_8 fw_X10_277 rfl ((TRo hb3.1 hb3.2).1) ?_
          refine J_ic_lt (tgt := 59) dX10_route_52 (by decide) (fun c => ?_) (fun c => ?_)
          · replace h := h.1 c
            refine J_aload dX10_route_59 rfl ?_
            refine J_getR dX10_route_61 ck_8 fw_X10_280 rfl ((TRo hb3.1 hb3.2).1) ((TRo hb3.1 hb3.2).2.1) ?_
            refine J_iload_n dX10_route_64 rfl rfl ?_
            refine J_iald dX10_route_65 ((TRo hb3.1 hb3.2).2.2.2.2.2.1) h.1.1 h.1.2 ?_
            replace h := h.2
            exact J_reti dX10_route_66 rfl h
          · replace h := h.2 c
            refine J_iconst dX10_route_55 (ii_c rfl) ?_
            refine J_goto (tgt := 66) dX10_route_56 (by decide) ?_
            exact J_reti dX10_route_66 rfl h
      · replace h := h.2 c
        refine J_iconst dX10_route_24 (ii_c rfl) ?_
        exact J_reti dX10_route_25 rfl h
set_option maxRecDepth 20000 in
set_option maxHeartbeats 2000000 in
theorem bk_X10_together_0 {d : Nat} {I : HI} {Q : Option AV → AH → Prop} {a1 : Int}  (h : CI mX10_allSaints d [vR 0] I (fun x1 I1 => CI mX6_solve d [vR 477, vI x1, vI 0] I1 (fun x2 I2 => ((a1 = (-1) → Q (some (vI x2)) (mk I2)) ∧ (¬ (a1 = (-1)) → ((x2 ≠ (-1) → CI mX10_isSaint d [vR 0, vI a1] I2 (fun x3 I3 => ((x3 = 0 → Q (some (vI (-1))) (mk I3)) ∧ (¬ (x3 = 0) → ((0 : Int) ≤ a1 ∧ (a1 : Int) < 4) ∧ (-2147483648 ≤ (I3 481 a1.toNat) - 1 ∧ (I3 481 a1.toNat) - 1 ≤ 2147483647) ∧ Q (some (vI ((I3 481 a1.toNat) - 1))) (mk I3))))) ∧ (x2 = (-1) → Q (some (vI x2)) (mk I2)))))))) : J none mX10_together (d + 1) 0 0 0 [(0, vR 0), (1, vI a1)] [] (mk I) Q := by
  refine J_aload_n dX10_together_0 rfl rfl ?_
  refine J_getR dX10_together_1 ck_10 fw_X10_76 rfl sh_0 rr_0_9 ?_
  refine J_aload_n dX10_together_4 rfl rfl ?_
  refine J_callV (as := []) (mc1 := 0) (ms1 := 0) (mc := 0) (ms := 0) dX10_together_5 mv_X10_allSaints lk_X10_283 sh_0 rfl (Nat.le_of_ble_eq_true rfl) (Nat.le_of_ble_eq_true rfl) h (fun r σ hq _ => ?_)
  obtain ⟨x1, I1, rfl, rfl, h⟩ := hq
  change J _ _ _ _ _ _ _ [vI x1, _] _ _
  refine J_iconst dX10_together_8 (ii_c rfl) ?_
  refine J_callV (as := [_, _]) (mc1 := 0) (ms1 := 0) (mc := 0) (ms := 0) dX10_together_9 mv_X6_solve lk_X10_286 sh_477 rfl (Nat.le_of_ble_eq_true rfl) (Nat.le_of_ble_eq_true rfl) h (fun r σ hq _ => ?_)
  obtain ⟨x2, I2, rfl, rfl, h⟩ := hq
  change J _ _ _ _ _ _ _ [vI x2] _ _
  refine J_istore_n dX10_together_12 rfl (by decide) ?_
  change J _ _ _ _ _ _ [(0, _), (1, _), (2, _)] _ _ _
  refine J_iload_n dX10_together_13 rfl rfl ?_
  refine J_iconst dX10_together_14 (ii_c rfl) ?_
  refine J_ic_eq (tgt := 23) dX10_together_15 (by decide) (fun c => ?_) (fun c => ?_)
  · replace h := h.1 c
    refine J_iload_n dX10_together_23 rfl rfl ?_
    exact J_reti dX10_together_24 rfl h
  · replace h := h.2 c
    refine J_iload_n dX10_together_18 rfl rfl ?_
    refine J_iconst dX10_together_19 (ii_c rfl) ?_
    refine J_ic_ne (tgt := 25) dX10_together_20 (by decide) (fun c => ?_) (fun c => ?_)
    · replace h := h.1 c
      refine J_aload_n dX10_together_25 rfl rfl ?_
      refine J_iload_n dX10_together_26 rfl rfl ?_
      refine J_callV (as := [_]) (mc1 := 0) (ms1 := 0) (mc := 0) (ms := 0) dX10_together_27 mv_X10_isSaint lk_X10_184 sh_0 rfl (Nat.le_of_ble_eq_true rfl) (Nat.le_of_ble_eq_true rfl) h (fun r σ hq _ => ?_)
      obtain ⟨x3, I3, rfl, rfl, h⟩ := hq
      change J _ _ _ _ _ _ _ [vI x3] _ _
      refine J_if_eq (tgt := 47) dX10_together_30 (by decide) (fun c => ?_) (fun c => ?_)
      · replace h := h.1 c
        refine J_iconst dX10_together_47 (ii_c rfl) ?_
        exact J_reti dX10_together_48 rfl h
      · replace h := h.2 c
        refine J_aload_n dX10_together_33 rfl rfl ?_
        refine J_getR dX10_together_34 ck_10 fw_X10_76 rfl sh_0 rr_0_9 ?_
        refine J_getR dX10_together_37 ck_6 fw_X10_290 rfl sh_477 rr_477_6 ?_
        refine J_iload_n dX10_together_40 rfl rfl ?_
        refine J_iald dX10_together_41 sh_481 h.1.1 h.1.2 ?_
        replace h := h.2
        refine J_iconst dX10_together_42 (ii_c rfl) ?_
        refine J_isubN dX10_together_43 h.1 ?_
        replace h := h.2
        refine J_goto (tgt := 48) dX10_together_44 (by decide) ?_
        exact J_reti dX10_together_48 rfl h
    · replace h := h.2 c
      refine J_iload_n dX10_together_23 rfl rfl ?_
      exact J_reti dX10_together_24 rfl h
