set_option maxRecDepth 20000 in
set_option maxHeartbeats 2000000 in
theorem bk_X9_accept_0 {d : Nat} {I : HI} {Q : Option AV → AH → Prop} {a1 n1 : Nat} {a2 : Int} (ha1 : SH0[a1]? = some (.inr (0, n1))) (h : CV mJ7_fill_53178 d [vR 34, vI 0] I (fun I1 => J none mX9_accept (d + 1) 0 0 13 [(0, vR 32), (1, vR a1), (2, vI a2), (3, vI 0), (4, vI 0)] [] (mk I1) Q)) : J none mX9_accept (d + 1) 0 0 0 [(0, vR 32), (1, vR a1), (2, vI a2)] [] (mk I) Q := by
  refine J_aload_n dX9_accept_0 rfl rfl ?_
  refine J_getR dX9_accept_1 ck_9 fw_X9_15 rfl sh_32 rr_32_2 ?_
  refine J_iconst dX9_accept_4 (ii_c rfl) ?_
  refine J_callS (as := [_, _]) (mc1 := 0) (ms1 := 0) (mc := 0) (ms := 0) dX9_accept_5 ms_J7_fill_53178 lk_X9_44 rfl (Nat.le_of_ble_eq_true rfl) (Nat.le_of_ble_eq_true rfl) h (fun r σ hq _ => ?_)
  obtain ⟨I1, rfl, rfl, h⟩ := hq
  change J _ _ _ _ _ _ _ [] _ _
  refine J_iconst dX9_accept_8 (ii_c rfl) ?_
  refine J_istore_n dX9_accept_9 rfl (by decide) ?_
  change J _ _ _ _ _ _ [(0, _), (1, _), (2, _), (3, _)] _ _ _
  refine J_iconst dX9_accept_10 (ii_c rfl) ?_
  refine J_istore dX9_accept_11 (by decide) ?_
  change J _ _ _ _ _ _ [(0, _), (1, _), (2, _), (3, _), (4, _)] _ _ _
  exact h
set_option maxRecDepth 20000 in
set_option maxHeartbeats 2000000 in
theorem bk_X9_accept_13 {d : Nat} {I : HI} {Q : Option AV → AH → Prop} {a1 n1 : Nat} {a2 : Int} {a3 : Int} {a4 : Int} (ha1 : SH0[a1]? = some (.inr (0, n1))) (h : (((I 2 2) ≤ a4 → J none mX9_accept (d + 1) 0 0 48 [(0, vR 32), (1, vR a1), (2, vI a2), (3, vI a3), (4, vI a4)] [] (mk I) Q) ∧ (¬ ((I 2 2) ≤ a4) → ((a3 = (-1) → J none mX9_accept (d + 1) 0 0 48 [(0, vR 32), (1, vR a1), (2, vI a2), (3, vI a3), (4, vI a4)] [] (mk I) Q) ∧ (¬ (a3 = (-1)) → CI mX9_tryWay d [vR 32, vI a4, vR a1, vI a3, vI a2] I (fun x1 I1 => (-2147483648 ≤ a4 + 1 ∧ a4 + 1 ≤ 2147483647) ∧ J none mX9_accept (d + 1) 0 0 13 [(0, vR 32), (1, vR a1), (2, vI a2), (3, vI x1), (4, vI (a4 + 1))] [] (mk I1) Q)))))) : J none mX9_accept (d + 1) 0 0 13 [(0, vR 32), (1, vR a1), (2, vI a2), (3, vI a3), (4, vI a4)] [] (mk I) Q := by
  refine J_iload dX9_accept_13 rfl ?_
  refine J_aload_n dX9_accept_15 rfl rfl ?_
  refine J_getR dX9_accept_16 ck_9 fw_X9_37 rfl sh_32 rr_32_0 ?_
  refine J_getR dX9_accept_19 ck_0 fw_X9_60 rfl sh_1 rr_1_0 ?_
  refine J_iconst dX9_accept_22 (ii_c rfl) ?_
  refine J_iald dX9_accept_23 sh_2 (by decide) (by decide) ?_
  refine J_ic_ge (tgt := 48) dX9_accept_24 (by decide) (fun c => ?_) (fun c => ?_)
  · replace h := h.1 c
    exact h
  · replace h := h.2 c
    refine J_iload_n dX9_accept_27 rfl rfl ?_
    refine J_iconst dX9_accept_28 (ii_c rfl) ?_
    refine J_ic_eq (tgt := 48) dX9_accept_29 (by decide) (fun c => ?_) (fun c => ?_)
    · replace h := h.1 c
      exact h
    · replace h := h.2 c
      refine J_aload_n dX9_accept_32 rfl rfl ?_
      refine J_iload dX9_accept_33 rfl ?_
      refine J_aload_n dX9_accept_35 rfl rfl ?_
      refine J_iload_n dX9_accept_36 rfl rfl ?_
      refine J_iload_n dX9_accept_37 rfl rfl ?_
      refine J_callV (as := [_, _, _, _]) (mc1 := 0) (ms1 := 0) (mc := 0) (ms := 0) dX9_accept_38 mv_X9_tryWay lk_X9_127 sh_32 rfl (Nat.le_of_ble_eq_true rfl) (Nat.le_of_ble_eq_true rfl) h (fun r σ hq _ => ?_)
      obtain ⟨x1, I1, rfl, rfl, h⟩ := hq
      change J _ _ _ _ _ _ _ [vI x1] _ _
      refine J_istore_n dX9_accept_41 rfl (by decide) ?_
      change J _ _ _ _ _ _ [(0, _), (1, _), (2, _), (3, _), (4, _)] _ _ _
      refine J_iincN dX9_accept_42 rfl (by decide) h.1 ?_
      replace h := h.2
      change J _ _ _ _ _ _ [(0, _), (1, _), (2, _), (3, _), (4, _)] _ _ _
      refine J_goto (tgt := 13) dX9_accept_45 (by decide) ?_
      exact h
set_option maxRecDepth 20000 in
set_option maxHeartbeats 2000000 in
theorem bk_X9_accept_48 {d : Nat} {I : HI} {Q : Option AV → AH → Prop} {a1 n1 : Nat} {a2 : Int} {a3 : Int} {a4 : Int} (ha1 : SH0[a1]? = some (.inr (0, n1))) (h : ((a3 = (-1) → Q (some (vI 0)) (mk I)) ∧ (¬ (a3 = (-1)) → (-2147483648 ≤ a3 + 4 ∧ a3 + 4 ≤ 2147483647) ∧ (((a3 + 4) = a2 → ((0 : Int) ≤ a3 ∧ (a3 : Int) < n1) ∧ (-2147483648 ≤ a3 + 1 ∧ a3 + 1 ≤ 2147483647) ∧ ((0 : Int) ≤ (a3 + 1) ∧ (a3 + 1 : Int) < n1) ∧ (∀ I1 : HI, I1 = up I 34 100 (oO (oSl (I a1 a3.toNat) 8) (I a1 (a3 + 1).toNat)) → (-2147483648 ≤ a3 + 2 ∧ a3 + 2 ≤ 2147483647) ∧ ((0 : Int) ≤ (a3 + 2) ∧ (a3 + 2 : Int) < n1) ∧ (∀ I2 : HI, I2 = up I1 34 101 (I1 a1 (a3 + 2).toNat) → (((oSl 1 (I2 2 1)) ≤ (I2 34 100) → Q (some (vI 0)) (mk I2)) ∧ (¬ ((oSl 1 (I2 2 1)) ≤ (I2 34 100)) → (((oSl 1 (I2 2 4)) ≤ (I2 34 101) → Q (some (vI 0)) (mk I2)) ∧ (¬ ((oSl 1 (I2 2 4)) ≤ (I2 34 101)) → (-2147483648 ≤ a3 + 3 ∧ a3 + 3 ≤ 2147483647) ∧ ((0 : Int) ≤ (a3 + 3) ∧ (a3 + 3 : Int) < n1) ∧ (-2147483648 ≤ a3 + 3 ∧ a3 + 3 ≤ 2147483647) ∧ CI mX9_sumOf d [vR 32, vR a1, vI (a3 + 3)] I2 (fun x1 I3 => (((I2 a1 (a3 + 3).toNat) = x1 → ((0 : Int) ≤ 0 ∧ (0 : Int) ≤ 0 ∧ (0 : Int) ≤ 102 ∧ (0 : Int) + 102 ≤ 102 ∧ (0 : Int) + 102 ≤ 102) ∧ (∀ I4 : HI, I4 = cpI I3 34 0 33 0 102 → (∀ I5 : HI, I5 = up I4 32 6 0 → CV mX9_replayAll d [vR 32] I5 (fun I6 => Q (some (vI 1)) (mk I6))))) ∧ (¬ ((I2 a1 (a3 + 3).toNat) = x1) → Q (some (vI 0)) (mk I3))))))))))) ∧ (¬ ((a3 + 4) = a2) → Q (some (vI 0)) (mk I)))))) : J none mX9_accept (d + 1) 0 0 48 [(0, vR 32), (1, vR a1), (2, vI a2), (3, vI a3), (4, vI a4)] [] (mk I) Q := by
  refine J_iload_n dX9_accept_48 rfl rfl ?_
  refine J_iconst dX9_accept_49 (ii_c rfl) ?_
  refine J_ic_eq (tgt := 60) dX9_accept_50 (by decide) (fun c => ?_) (fun c => ?_)
  · replace h := h.1 c
    refine J_iconst dX9_accept_60 (ii_c rfl) ?_
    exact J_retz dX9_accept_61 rfl (Or.inl rfl) h
  · replace h := h.2 c
    refine J_iload_n dX9_accept_53 rfl rfl ?_
    refine J_iconst dX9_accept_54 (ii_c rfl) ?_
    refine J_iaddN dX9_accept_55 h.1 ?_
    replace h := h.2
    refine J_iload_n dX9_accept_56 rfl rfl ?_
    refine J_ic_eq (tgt := 62) dX9_accept_57 (by decide) (fun c => ?_) (fun c => ?_)
    · replace h := h.1 c
      refine J_aload_n dX9_accept_62 rfl rfl ?_
      refine J_getR dX9_accept_63 ck_9 fw_X9_15 rfl sh_32 rr_32_2 ?_
      refine J_bipush dX9_accept_66 (ii_c rfl) (by decide) ?_
      refine J_aload_n dX9_accept_68 rfl rfl ?_
      refine J_iload_n dX9_accept_69 rfl rfl ?_
      refine J_iald dX9_accept_70 ha1 h.1.1 h.1.2 ?_
      replace h := h.2
      refine J_bipush dX9_accept_71 (ii_c rfl) (by decide) ?_
      refine J_ishl dX9_accept_73 ?_
      refine J_aload_n dX9_accept_74 rfl rfl ?_
      refine J_iload_n dX9_accept_75 rfl rfl ?_
      refine J_iconst dX9_accept_76 (ii_c rfl) ?_
      refine J_iaddN dX9_accept_77 h.1 ?_
      replace h := h.2
      refine J_iald dX9_accept_78 ha1 h.1.1 h.1.2 ?_
      replace h := h.2
      refine J_ior dX9_accept_79 ?_
      refine J_iast dX9_accept_80 sh_34 (by decide) (by decide) ?_
      replace h := h _ rfl
      refine J_aload_n dX9_accept_81 rfl rfl ?_
      refine J_getR dX9_accept_82 ck_9 fw_X9_15 rfl sh_32 rr_32_2 ?_
      refine J_bipush dX9_accept_85 (ii_c rfl) (by decide) ?_
      refine J_aload_n dX9_accept_87 rfl rfl ?_
      refine J_iload_n dX9_accept_88 rfl rfl ?_
      refine J_iconst dX9_accept_89 (ii_c rfl) ?_
      refine J_iaddN dX9_accept_90 h.1 ?_
      replace h := h.2
      refine J_iald dX9_accept_91 ha1 h.1.1 h.1.2 ?_
      replace h := h.2
      refine J_iast dX9_accept_92 sh_34 (by decide) (by decide) ?_
      replace h := h _ rfl
      refine J_aload_n dX9_accept_93 rfl rfl ?_
      refine J_getR dX9_accept_94 ck_9 fw_X9_15 rfl sh_32 rr_32_2 ?_
      refine J_bipush dX9_accept_97 (ii_c rfl) (by decide) ?_
      refine J_iald dX9_accept_99 sh_34 (by decide) (by decide) ?_
      refine J_iconst dX9_accept_100 (ii_c rfl) ?_
      refine J_aload_n dX9_accept_101 rfl rfl ?_
      refine J_getR dX9_accept_102 ck_9 fw_X9_37 rfl sh_32 rr_32_0 ?_
      refine J_getR dX9_accept_105 ck_0 fw_X9_60 rfl sh_1 rr_1_0 ?_
      refine J_iconst dX9_accept_108 (ii_c rfl) ?_
      refine J_iald dX9_accept_109 sh_2 (by decide) (by decide) ?_
      refine J_ishl dX9_accept_110 ?_
      refine J_ic_ge (tgt := 151) dX9_accept_111 (by decide) (fun c => ?_) (fun c => ?_)
      · replace h := h.1 c
        refine J_iconst dX9_accept_151 (ii_c rfl) ?_
        exact J_retz dX9_accept_152 rfl (Or.inl rfl) h
      · replace h := h.2 c
        refine J_aload_n dX9_accept_114 rfl rfl ?_
        refine J_getR dX9_accept_115 ck_9 fw_X9_15 rfl sh_32 rr_32_2 ?_
        refine J_bipush dX9_accept_118 (ii_c rfl) (by decide) ?_
        refine J_iald dX9_accept_120 sh_34 (by decide) (by decide) ?_
        refine J_iconst dX9_accept_121 (ii_c rfl) ?_
        refine J_aload_n dX9_accept_122 rfl rfl ?_
        refine J_getR dX9_accept_123 ck_9 fw_X9_37 rfl sh_32 rr_32_0 ?_
        refine J_getR dX9_accept_126 ck_0 fw_X9_60 rfl sh_1 rr_1_0 ?_
        refine J_iconst dX9_accept_129 (ii_c rfl) ?_
        refine J_iald dX9_accept_130 sh_2 (by decide) (by decide) ?_
        refine J_ishl dX9_accept_131 ?_
        refine J_ic_ge (tgt := 151) dX9_accept_132 (by decide) (fun c => ?_) (fun c => ?_)
        · replace h := h.1 c
          refine J_iconst dX9_accept_151 (ii_c rfl) ?_
          exact J_retz dX9_accept_152 rfl (Or.inl rfl) h
        · replace h := h.2 c
          refine J_aload_n dX9_accept_135 rfl rfl ?_
          refine J_iload_n dX9_accept_136 rfl rfl ?_
          refine J_iconst dX9_accept_137 (ii_c rfl) ?_
          refine J_iaddN dX9_accept_138 h.1 ?_
          replace h := h.2
          refine J_iald dX9_accept_139 ha1 h.1.1 h.1.2 ?_
          replace h := h.2
          refine J_aload_n dX9_accept_140 rfl rfl ?_
          refine J_aload_n dX9_accept_141 rfl rfl ?_
          refine J_iload_n dX9_accept_142 rfl rfl ?_
          refine J_iconst dX9_accept_143 (ii_c rfl) ?_
          refine J_iaddN dX9_accept_144 h.1 ?_
          replace h := h.2
          refine J_callV (as := [_, _]) (mc1 := 0) (ms1 := 0) (mc := 0) (ms := 0) dX9_accept_145 mv_X9_sumOf lk_X9_123 sh_32 rfl (Nat.le_of_ble_eq_true rfl) (Nat.le_of_ble_eq_true rfl) h (fun r σ hq _ => ?_)
          obtain ⟨x1, I3, rfl, rfl, h⟩ := hq
          change J _ _ _ _ _ _ _ [vI x1, _] _ _
          refine J_ic_eq (tgt := 153) dX9_accept_148 (by decide) (fun c => ?_) (fun c => ?_)
          · replace h := h.1 c
            refine J_aload_n dX9_accept_153 rfl rfl ?_
            refine J_getR dX9_accept_154 ck_9 fw_X9_15 rfl sh_32 rr_32_2 ?_
            refine J_iconst dX9_accept_157 (ii_c rfl) ?_
            refine J_aload_n dX9_accept_158 rfl rfl ?_
            refine J_getR dX9_accept_159 ck_9 fw_X9_11 rfl sh_32 rr_32_1 ?_
            refine J_iconst dX9_accept_162 (ii_c rfl) ?_
            refine J_bipush dX9_accept_163 (ii_c rfl) (by decide) ?_
            refine J_copy dX9_accept_165 lk_X9_98 sw_2 sw_3 iw_java_lang_System sh_34 sh_33 h.1.1 h.1.2.1 h.1.2.2.1 h.1.2.2.2.1 h.1.2.2.2.2 (Nat.le_of_ble_eq_true rfl) ?_
            replace h := h.2 _ rfl
            refine J_aload_n dX9_accept_168 rfl rfl ?_
            refine J_iconst dX9_accept_169 (ii_c rfl) ?_
            refine J_putI dX9_accept_170 ck_9 fw_X9_50 rfl rfl (Or.inl rfl) sh_32 ?_
            replace h := h _ rfl
            refine J_aload_n dX9_accept_173 rfl rfl ?_
            refine J_callV (as := []) (mc1 := 0) (ms1 := 0) (mc := 0) (ms := 0) dX9_accept_174 mv_X9_replayAll lk_X9_54 sh_32 rfl (Nat.le_of_ble_eq_true rfl) (Nat.le_of_ble_eq_true rfl) h (fun r σ hq _ => ?_)
            obtain ⟨I6, rfl, rfl, h⟩ := hq
            change J _ _ _ _ _ _ _ [] _ _
            refine J_iconst dX9_accept_177 (ii_c rfl) ?_
            exact J_retz dX9_accept_178 rfl (Or.inr rfl) h
          · replace h := h.2 c
            refine J_iconst dX9_accept_151 (ii_c rfl) ?_
            exact J_retz dX9_accept_152 rfl (Or.inl rfl) h
    · replace h := h.2 c
      refine J_iconst dX9_accept_60 (ii_c rfl) ?_
      exact J_retz dX9_accept_61 rfl (Or.inl rfl) h
set_option maxRecDepth 20000 in
set_option maxHeartbeats 2000000 in
theorem bk_X9_tryWay_0 {d : Nat} {I : HI} {Q : Option AV → AH → Prop} {a1 : Int} {a2 n2 : Nat} {a3 : Int} {a4 : Int} (ha2 : SH0[a2]? = some (.inr (0, n2))) (h : ((a4 ≤ a3 → Q (some (vI (-1))) (mk I)) ∧ (¬ (a4 ≤ a3) → ((0 : Int) ≤ a3 ∧ (a3 : Int) < n2) ∧ ((24 < (I a2 a3.toNat) → Q (some (vI (-1))) (mk I)) ∧ (¬ (24 < (I a2 a3.toNat)) → ((0 : Int) ≤ a3 ∧ (a3 : Int) < n2) ∧ (-2147483648 ≤ a3 + (I a2 a3.toNat) ∧ a3 + (I a2 a3.toNat) ≤ 2147483647) ∧ (((a3 + (I a2 a3.toNat)) < a4 → (-2147483648 ≤ a1 * 4 ∧ a1 * 4 ≤ 2147483647) ∧ ((0 : Int) ≤ (a1 * 4) ∧ (a1 * 4 : Int) < 16) ∧ ((0 : Int) ≤ a3 ∧ (a3 : Int) < n2) ∧ ((0 : Int) ≤ a1 ∧ (a1 : Int) < 102) ∧ (∀ I1 : HI, I1 = up I 34 a1.toNat (I a2 a3.toNat) → J none mX9_tryWay (d + 1) 0 0 54 [(0, vR 32), (1, vI a1), (2, vR a2), (3, vI a3), (4, vI a4), (5, vI (I 7 (a1 * 4).toNat)), (6, vI 0), (7, vI 0)] [] (mk I1) Q)) ∧ (¬ ((a3 + (I a2 a3.toNat)) < a4) → Q (some (vI (-1))) (mk I)))))))) : J none mX9_tryWay (d + 1) 0 0 0 [(0, vR 32), (1, vI a1), (2, vR a2), (3, vI a3), (4, vI a4)] [] (mk I) Q := by
  refine J_iload_n dX9_tryWay_0 rfl rfl ?_
  refine J_iload dX9_tryWay_1 rfl ?_
  refine J_ic_ge (tgt := 24) dX9_tryWay_3 (by decide) (fun c => ?_) (fun c => ?_)
  · replace h := h.1 c
    refine J_iconst dX9_tryWay_24 (ii_c rfl) ?_
    exact J_reti dX9_tryWay_25 rfl h
  · replace h := h.2 c
    refine J_aload_n dX9_tryWay_6 rfl rfl ?_
    refine J_iload_n dX9_tryWay_7 rfl rfl ?_
    refine J_iald dX9_tryWay_8 ha2 h.1.1 h.1.2 ?_
    replace h := h.2
    refine J_bipush dX9_tryWay_9 (ii_c rfl) (by decide) ?_
    refine J_ic_gt (tgt := 24) dX9_tryWay_11 (by decide) (fun c => ?_) (fun c => ?_)
    · replace h := h.1 c
      refine J_iconst dX9_tryWay_24 (ii_c rfl) ?_
      exact J_reti dX9_tryWay_25 rfl h
    · replace h := h.2 c
      refine J_iload_n dX9_tryWay_14 rfl rfl ?_
      refine J_aload_n dX9_tryWay_15 rfl rfl ?_
      refine J_iload_n dX9_tryWay_16 rfl rfl ?_
      refine J_iald dX9_tryWay_17 ha2 h.1.1 h.1.2 ?_
      replace h := h.2
      refine J_iaddN dX9_tryWay_18 h.1 ?_
      replace h := h.2
      refine J_iload dX9_tryWay_19 rfl ?_
      refine J_ic_lt (tgt := 26) dX9_tryWay_21 (by decide) (fun c => ?_) (fun c => ?_)
      · replace h := h.1 c
        refine J_aload_n dX9_tryWay_26 rfl rfl ?_
        refine J_getR dX9_tryWay_27 ck_9 fw_X9_37 rfl sh_32 rr_32_0 ?_
        refine J_getR dX9_tryWay_30 ck_0 fw_X9_68 rfl sh_1 rr_1_5 ?_
        refine J_iload_n dX9_tryWay_33 rfl rfl ?_
        refine J_iconst dX9_tryWay_34 (ii_c rfl) ?_
        refine J_imulN dX9_tryWay_35 h.1 ?_
        replace h := h.2
        refine J_iald dX9_tryWay_36 sh_7 h.1.1 h.1.2 ?_
        replace h := h.2
        refine J_istore dX9_tryWay_37 (by decide) ?_
        change J _ _ _ _ _ _ [(0, _), (1, _), (2, _), (3, _), (4, _), (5, _)] _ _ _
        refine J_iconst dX9_tryWay_39 (ii_c rfl) ?_
        refine J_istore dX9_tryWay_40 (by decide) ?_
        change J _ _ _ _ _ _ [(0, _), (1, _), (2, _), (3, _), (4, _), (5, _), (6, _)] _ _ _
        refine J_aload_n dX9_tryWay_42 rfl rfl ?_
        refine J_getR dX9_tryWay_43 ck_9 fw_X9_15 rfl sh_32 rr_32_2 ?_
        refine J_iload_n dX9_tryWay_46 rfl rfl ?_
        refine J_aload_n dX9_tryWay_47 rfl rfl ?_
        refine J_iload_n dX9_tryWay_48 rfl rfl ?_
        refine J_iald dX9_tryWay_49 ha2 h.1.1 h.1.2 ?_
        replace h := h.2
        refine J_iast dX9_tryWay_50 sh_34 h.1.1 h.1.2 ?_
        replace h := h.2 _ rfl
        refine J_iconst dX9_tryWay_51 (ii_c rfl) ?_
        refine J_istore dX9_tryWay_52 (by decide) ?_
        change J _ _ _ _ _ _ [(0, _), (1, _), (2, _), (3, _), (4, _), (5, _), (6, _), (7, _)] _ _ _
        exact h
      · replace h := h.2 c
        refine J_iconst dX9_tryWay_24 (ii_c rfl) ?_
        exact J_reti dX9_tryWay_25 rfl h
set_option maxRecDepth 20000 in
set_option maxHeartbeats 2000000 in
theorem bk_X9_tryWay_54 {d : Nat} {I : HI} {Q : Option AV → AH → Prop} {a1 : Int} {a2 n2 : Nat} {a3 : Int} {a4 : Int} {a5 : Int} {a6 : Int} {a7 : Int} (ha2 : SH0[a2]? = some (.inr (0, n2))) (h : ((0 : Int) ≤ a1 ∧ (a1 : Int) < 102) ∧ (((I 34 a1.toNat) ≤ a7 → ((a6 ≤ 999 → (-2147483648 ≤ a3 + 1 ∧ a3 + 1 ≤ 2147483647) ∧ ((0 : Int) ≤ a1 ∧ (a1 : Int) < 102) ∧ (-2147483648 ≤ (a3 + 1) + (I 34 a1.toNat) ∧ (a3 + 1) + (I 34 a1.toNat) ≤ 2147483647) ∧ Q (some (vI ((a3 + 1) + (I 34 a1.toNat)))) (mk I)) ∧ (¬ (a6 ≤ 999) → Q (some (vI (-1))) (mk I)))) ∧ (¬ ((I 34 a1.toNat) ≤ a7) → (-2147483648 ≤ a3 + 1 ∧ a3 + 1 ≤ 2147483647) ∧ (-2147483648 ≤ (a3 + 1) + a7 ∧ (a3 + 1) + a7 ≤ 2147483647) ∧ ((0 : Int) ≤ ((a3 + 1) + a7) ∧ ((a3 + 1) + a7 : Int) < n2) ∧ (((I a2 ((a3 + 1) + a7).toNat) ≤ 100 → CI mX9_laneTo d [vR 32, vI a5, vI (I a2 ((a3 + 1) + a7).toNat)] I (fun x1 I1 => ((x1 ≠ (-1) → CI mX0_minutesOf d [vR 1, vI a1, vI x1] I1 (fun x2 I2 => (-2147483648 ≤ a6 + x2 ∧ a6 + x2 ≤ 2147483647) ∧ (-2147483648 ≤ a1 * 24 ∧ a1 * 24 ≤ 2147483647) ∧ (-2147483648 ≤ 4 + (a1 * 24) ∧ 4 + (a1 * 24) ≤ 2147483647) ∧ (-2147483648 ≤ (4 + (a1 * 24)) + a7 ∧ (4 + (a1 * 24)) + a7 ≤ 2147483647) ∧ ((0 : Int) ≤ ((4 + (a1 * 24)) + a7) ∧ ((4 + (a1 * 24)) + a7 : Int) < 102) ∧ (∀ I3 : HI, I3 = up I2 34 ((4 + (a1 * 24)) + a7).toNat (I a2 ((a3 + 1) + a7).toNat) → (-2147483648 ≤ a7 + 1 ∧ a7 + 1 ≤ 2147483647) ∧ J none mX9_tryWay (d + 1) 0 0 54 [(0, vR 32), (1, vI a1), (2, vR a2), (3, vI a3), (4, vI a4), (5, vI (I a2 ((a3 + 1) + a7).toNat)), (6, vI (a6 + x2)), (7, vI (a7 + 1))] [] (mk I3) Q))) ∧ (x1 = (-1) → Q (some (vI (-1))) (mk I1))))) ∧ (¬ ((I a2 ((a3 + 1) + a7).toNat) ≤ 100) → ((130 < (I a2 ((a3 + 1) + a7).toNat) → CI mX9_laneTo d [vR 32, vI a5, vI (I a2 ((a3 + 1) + a7).toNat)] I (fun x3 I4 => ((x3 ≠ (-1) → CI mX0_minutesOf d [vR 1, vI a1, vI x3] I4 (fun x4 I5 => (-2147483648 ≤ a6 + x4 ∧ a6 + x4 ≤ 2147483647) ∧ (-2147483648 ≤ a1 * 24 ∧ a1 * 24 ≤ 2147483647) ∧ (-2147483648 ≤ 4 + (a1 * 24) ∧ 4 + (a1 * 24) ≤ 2147483647) ∧ (-2147483648 ≤ (4 + (a1 * 24)) + a7 ∧ (4 + (a1 * 24)) + a7 ≤ 2147483647) ∧ ((0 : Int) ≤ ((4 + (a1 * 24)) + a7) ∧ ((4 + (a1 * 24)) + a7 : Int) < 102) ∧ (∀ I6 : HI, I6 = up I5 34 ((4 + (a1 * 24)) + a7).toNat (I a2 ((a3 + 1) + a7).toNat) → (-2147483648 ≤ a7 + 1 ∧ a7 + 1 ≤ 2147483647) ∧ J none mX9_tryWay (d + 1) 0 0 54 [(0, vR 32), (1, vI a1), (2, vR a2), (3, vI a3), (4, vI a4), (5, vI (I a2 ((a3 + 1) + a7).toNat)), (6, vI (a6 + x4)), (7, vI (a7 + 1))] [] (mk I6) Q))) ∧ (x3 = (-1) → Q (some (vI (-1))) (mk I4))))) ∧ (¬ (130 < (I a2 ((a3 + 1) + a7).toNat)) → (-2147483648 ≤ (I a2 ((a3 + 1) + a7).toNat) - 100 ∧ (I a2 ((a3 + 1) + a7).toNat) - 100 ≤ 2147483647) ∧ (-2147483648 ≤ a6 + ((I a2 ((a3 + 1) + a7).toNat) - 100) ∧ a6 + ((I a2 ((a3 + 1) + a7).toNat) - 100) ≤ 2147483647) ∧ (-2147483648 ≤ a1 * 24 ∧ a1 * 24 ≤ 2147483647) ∧ (-2147483648 ≤ 4 + (a1 * 24) ∧ 4 + (a1 * 24) ≤ 2147483647) ∧ (-2147483648 ≤ (4 + (a1 * 24)) + a7 ∧ (4 + (a1 * 24)) + a7 ≤ 2147483647) ∧ ((0 : Int) ≤ ((4 + (a1 * 24)) + a7) ∧ ((4 + (a1 * 24)) + a7 : Int) < 102) ∧ (∀ I7 : HI, I7 = up I 34 ((4 + (a1 * 24)) + a7).toNat (I a2 ((a3 + 1) + a7).toNat) → (-2147483648 ≤ a7 + 1 ∧ a7 + 1 ≤ 2147483647) ∧ J none mX9_tryWay (d + 1) 0 0 54 [(0, vR 32), (1, vI a1), (2, vR a2), (3, vI a3), (4, vI a4), (5, vI a5), (6, vI (a6 + ((I a2 ((a3 + 1) + a7).toNat) - 100))), (7, vI (a7 + 1))] [] (mk I7) Q)))))))) : J none mX9_tryWay (d + 1) 0 0 54 [(0, vR 32), (1, vI a1), (2, vR a2), (3, vI a3), (4, vI a4), (5, vI a5), (6, vI a6), (7, vI a7)] [] (mk I) Q := by
  refine J_iload dX9_tryWay_54 rfl ?_
  refine J_aload_n dX9_tryWay_56 rfl rfl ?_
  refine J_getR dX9_tryWay_57 ck_9 fw_X9_15 rfl sh_32 rr_32_2 ?_
  refine J_iload_n dX9_tryWay_60 rfl rfl ?_
  refine J_iald dX9_tryWay_61 sh_34 h.1.1 h.1.2 ?_
  replace h := h.2
  refine J_ic_ge (tgt := 162) dX9_tryWay_62 (by decide) (fun c => ?_) (fun c => ?_)
  · replace h := h.1 c
    refine J_iload dX9_tryWay_162 rfl ?_
    refine J_sipush dX9_tryWay_164 (ii_c rfl) (by decide) ?_
    refine J_ic_le (tgt := 174) dX9_tryWay_167 (by decide) (fun c => ?_) (fun c => ?_)
    · replace h := h.1 c
      refine J_iload_n dX9_tryWay_174 rfl rfl ?_
      refine J_iconst dX9_tryWay_175 (ii_c rfl) ?_
      refine J_iaddN dX9_tryWay_176 h.1 ?_
      replace h := h.2
      refine J_aload_n dX9_tryWay_177 rfl rfl ?_
      refine J_getR dX9_tryWay_178 ck_9 fw_X9_15 rfl sh_32 rr_32_2 ?_
      refine J_iload_n dX9_tryWay_181 rfl rfl ?_
      refine J_iald dX9_tryWay_182 sh_34 h.1.1 h.1.2 ?_
      replace h := h.2
      refine J_iaddN dX9_tryWay_183 h.1 ?_
      replace h := h.2
      exact J_reti dX9_tryWay_184 rfl h
    · replace h := h.2 c
      refine J_iconst dX9_tryWay_170 (ii_c rfl) ?_
      refine J_goto (tgt := 184) dX9_tryWay_171 (by decide) ?_
      exact J_reti dX9_tryWay_184 rfl h
  · replace h := h.2 c
    refine J_aload_n dX9_tryWay_65 rfl rfl ?_
    refine J_iload_n dX9_tryWay_66 rfl rfl ?_
    refine J_iconst dX9_tryWay_67 (ii_c rfl) ?_
    refine J_iaddN dX9_tryWay_68 h.1 ?_
    replace h := h.2
    refine J_iload dX9_tryWay_69 rfl ?_
    refine J_iaddN dX9_tryWay_71 h.1 ?_
    replace h := h.2
    refine J_iald dX9_tryWay_72 ha2 h.1.1 h.1.2 ?_
    replace h := h.2
    refine J_istore dX9_tryWay_73 (by decide) ?_
    change J _ _ _ _ _ _ [(0, _), (1, _), (2, _), (3, _), (4, _), (5, _), (6, _), (7, _), (8, _)] _ _ _
    refine J_iload dX9_tryWay_75 rfl ?_
    refine J_bipush dX9_tryWay_77 (ii_c rfl) (by decide) ?_
    refine J_ic_le (tgt := 103) dX9_tryWay_79 (by decide) (fun c => ?_) (fun c => ?_)
    · replace h := h.1 c
      refine J_aload_n dX9_tryWay_103 rfl rfl ?_
      refine J_iload dX9_tryWay_104 rfl ?_
      refine J_iload dX9_tryWay_106 rfl ?_
      refine J_callV (as := [_, _]) (mc1 := 0) (ms1 := 0) (mc := 0) (ms := 0) dX9_tryWay_108 mv_X9_laneTo lk_X9_81 sh_32 rfl (Nat.le_of_ble_eq_true rfl) (Nat.le_of_ble_eq_true rfl) h (fun r σ hq _ => ?_)
      obtain ⟨x1, I1, rfl, rfl, h⟩ := hq
      change J _ _ _ _ _ _ _ [vI x1] _ _
      refine J_istore dX9_tryWay_111 (by decide) ?_
      change J _ _ _ _ _ _ [(0, _), (1, _), (2, _), (3, _), (4, _), (5, _), (6, _), (7, _), (8, _), (9, _)] _ _ _
      refine J_iload dX9_tryWay_113 rfl ?_
      refine J_iconst dX9_tryWay_115 (ii_c rfl) ?_
      refine J_ic_ne (tgt := 121) dX9_tryWay_116 (by decide) (fun c => ?_) (fun c => ?_)
      · replace h := h.1 c
        refine J_iload dX9_tryWay_121 rfl ?_
        refine J_aload_n dX9_tryWay_123 rfl rfl ?_
        refine J_getR dX9_tryWay_124 ck_9 fw_X9_37 rfl sh_32 rr_32_0 ?_
        refine J_iload_n dX9_tryWay_127 rfl rfl ?_
        refine J_iload dX9_tryWay_128 rfl ?_
        refine J_callV (as := [_, _]) (mc1 := 0) (ms1 := 0) (mc := 0) (ms := 0) dX9_tryWay_130 mv_X0_minutesOf lk_X9_85 sh_1 rfl (Nat.le_of_ble_eq_true rfl) (Nat.le_of_ble_eq_true rfl) h (fun r σ hq _ => ?_)
        obtain ⟨x2, I2, rfl, rfl, h⟩ := hq
        change J _ _ _ _ _ _ _ [vI x2, _] _ _
        refine J_iaddN dX9_tryWay_133 h.1 ?_
        replace h := h.2
        refine J_istore dX9_tryWay_134 (by decide) ?_
        change J _ _ _ _ _ _ [(0, _), (1, _), (2, _), (3, _), (4, _), (5, _), (6, _), (7, _), (8, _), (9, _)] _ _ _
        refine J_iload dX9_tryWay_136 rfl ?_
        refine J_istore dX9_tryWay_138 (by decide) ?_
        change J _ _ _ _ _ _ [(0, _), (1, _), (2, _), (3, _), (4, _), (5, _), (6, _), (7, _), (8, _), (9, _)] _ _ _
        refine J_aload_n dX9_tryWay_140 rfl rfl ?_
        refine J_getR dX9_tryWay_141 ck_9 fw_X9_15 rfl sh_32 rr_32_2 ?_
        refine J_iconst dX9_tryWay_144 (ii_c rfl) ?_
        refine J_iload_n dX9_tryWay_145 rfl rfl ?_
        refine J_bipush dX9_tryWay_146 (ii_c rfl) (by decide) ?_
        refine J_imulN dX9_tryWay_148 h.1 ?_
        replace h := h.2
        refine J_iaddN dX9_tryWay_149 h.1 ?_
        replace h := h.2
        refine J_iload dX9_tryWay_150 rfl ?_
        refine J_iaddN dX9_tryWay_152 h.1 ?_
        replace h := h.2
        refine J_iload dX9_tryWay_153 rfl ?_
        refine J_iast dX9_tryWay_155 sh_34 h.1.1 h.1.2 ?_
        replace h := h.2 _ rfl
        refine J_iincN dX9_tryWay_156 rfl (by decide) h.1 ?_
        replace h := h.2
        change J _ _ _ _ _ _ [(0, _), (1, _), (2, _), (3, _), (4, _), (5, _), (6, _), (7, _), (8, _), (9, _)] _ _ _
        refine J_goto (tgt := 54) dX9_tryWay_159 (by decide) ?_
        exact J_loc (ls_sub [0, 1, 2, 3, 4, 5, 6, 7] rfl) h
      · replace h := h.2 c
        refine J_iconst dX9_tryWay_119 (ii_c rfl) ?_
        exact J_reti dX9_tryWay_120 rfl h
    · replace h := h.2 c
      refine J_iload dX9_tryWay_82 rfl ?_
      refine J_sipush dX9_tryWay_84 (ii_c rfl) (by decide) ?_
      refine J_ic_gt (tgt := 103) dX9_tryWay_87 (by decide) (fun c => ?_) (fun c => ?_)
      · replace h := h.1 c
        refine J_aload_n dX9_tryWay_103 rfl rfl ?_
        refine J_iload dX9_tryWay_104 rfl ?_
        refine J_iload dX9_tryWay_106 rfl ?_
        refine J_callV (as := [_, _]) (mc1 := 0) (ms1 := 0) (mc := 0) (ms := 0) dX9_tryWay_108 mv_X9_laneTo lk_X9_81 sh_32 rfl (Nat.le_of_ble_eq_true rfl) (Nat.le_of_ble_eq_true rfl) h (fun r σ hq _ => ?_)
        obtain ⟨x3, I4, rfl, rfl, h⟩ := hq
        change J _ _ _ _ _ _ _ [vI x3] _ _
        refine J_istore dX9_tryWay_111 (by decide) ?_
        change J _ _ _ _ _ _ [(0, _), (1, _), (2, _), (3, _), (4, _), (5, _), (6, _), (7, _), (8, _), (9, _)] _ _ _
        refine J_iload dX9_tryWay_113 rfl ?_
        refine J_iconst dX9_tryWay_115 (ii_c rfl) ?_
        refine J_ic_ne (tgt := 121) dX9_tryWay_116 (by decide) (fun c => ?_) (fun c => ?_)
        · replace h := h.1 c
          refine J_iload dX9_tryWay_121 rfl ?_
          refine J_aload_n dX9_tryWay_123 rfl rfl ?_
          refine J_getR dX9_tryWay_124 ck_9 fw_X9_37 rfl sh_32 rr_32_0 ?_
          refine J_iload_n dX9_tryWay_127 rfl rfl ?_
          refine J_iload dX9_tryWay_128 rfl ?_
          refine J_callV (as := [_, _]) (mc1 := 0) (ms1 := 0) (mc := 0) (ms := 0) dX9_tryWay_130 mv_X0_minutesOf lk_X9_85 sh_1 rfl (Nat.le_of_ble_eq_true rfl) (Nat.le_of_ble_eq_true rfl) h (fun r σ hq _ => ?_)
          obtain ⟨x4, I5, rfl, rfl, h⟩ := hq
          change J _ _ _ _ _ _ _ [vI x4, _] _ _
          refine J_iaddN dX9_tryWay_133 h.1 ?_
          replace h := h.2
          refine J_istore dX9_tryWay_134 (by decide) ?_
          change J _ _ _ _ _ _ [(0, _), (1, _), (2, _), (3, _), (4, _), (5, _), (6, _), (7, _), (8, _), (9, _)] _ _ _
          refine J_iload dX9_tryWay_136 rfl ?_
          refine J_istore dX9_tryWay_138 (by decide) ?_
          change J _ _ _ _ _ _ [(0, _), (1, _), (2, _), (3, _), (4, _), (5, _), (6, _), (7, _), (8, _), (9, _)] _ _ _
          refine J_aload_n dX9_tryWay_140 rfl rfl ?_
          refine J_getR dX9_tryWay_141 ck_9 fw_X9_15 rfl sh_32 rr_32_2 ?_
          refine J_iconst dX9_tryWay_144 (ii_c rfl) ?_
          refine J_iload_n dX9_tryWay_145 rfl rfl ?_
          refine J_bipush dX9_tryWay_146 (ii_c rfl) (by decide) ?_
          refine J_imulN dX9_tryWay_148 h.1 ?_
          replace h := h.2
          refine J_iaddN dX9_tryWay_149 h.1 ?_
          replace h := h.2
          refine J_iload dX9_tryWay_150 rfl ?_
          refine J_iaddN dX9_tryWay_152 h.1 ?_
          replace h := h.2
          refine J_iload dX9_tryWay_153 rfl ?_
          refine J_iast dX9_tryWay_155 sh_34 h.1.1 h.1.2 ?_
          replace h := h.2 _ rfl
          refine J_iincN dX9_tryWay_156 rfl (by decide) h.1 ?_
          replace h := h.2
          change J _ _ _ _ _ _ [(0, _), (1, _), (2, _), (3, _), (4, _), (5, _), (6, _), (7, _), (8, _), (9, _)] _ _ _
          refine J_goto (tgt := 54) dX9_tryWay_159 (by decide) ?_
          exact J_loc (ls_sub [0, 1, 2, 3, 4, 5, 6, 7] rfl) h
        · replace h := h.2 c
          refine J_iconst dX9_tryWay_119 (ii_c rfl) ?_
          exact J_reti dX9_tryWay_120 rfl h
      · replace h := h.2 c
        refine J_iload dX9_tryWay_90 rfl ?_
        refine J_iload dX9_tryWay_92 rfl ?_
        refine J_bipush dX9_tryWay_94 (ii_c rfl) (by decide) ?_
        refine J_isubN dX9_tryWay_96 h.1 ?_
        replace h := h.2
        refine J_iaddN dX9_tryWay_97 h.1 ?_
        replace h := h.2
        refine J_istore dX9_tryWay_98 (by decide) ?_
        change J _ _ _ _ _ _ [(0, _), (1, _), (2, _), (3, _), (4, _), (5, _), (6, _), (7, _), (8, _)] _ _ _
        refine J_goto (tgt := 140) dX9_tryWay_100 (by decide) ?_
        refine J_aload_n dX9_tryWay_140 rfl rfl ?_
        refine J_getR dX9_tryWay_141 ck_9 fw_X9_15 rfl sh_32 rr_32_2 ?_
        refine J_iconst dX9_tryWay_144 (ii_c rfl) ?_
        refine J_iload_n dX9_tryWay_145 rfl rfl ?_
        refine J_bipush dX9_tryWay_146 (ii_c rfl) (by decide) ?_
        refine J_imulN dX9_tryWay_148 h.1 ?_
        replace h := h.2
        refine J_iaddN dX9_tryWay_149 h.1 ?_
        replace h := h.2
        refine J_iload dX9_tryWay_150 rfl ?_
        refine J_iaddN dX9_tryWay_152 h.1 ?_
        replace h := h.2
        refine J_iload dX9_tryWay_153 rfl ?_
        refine J_iast dX9_tryWay_155 sh_34 h.1.1 h.1.2 ?_
        replace h := h.2 _ rfl
        refine J_iincN dX9_tryWay_156 rfl (by decide) h.1 ?_
        replace h := h.2
        change J _ _ _ _ _ _ [(0, _), (1, _), (2, _), (3, _), (4, _), (5, _), (6, _), (7, _), (8, _)] _ _ _
        refine J_goto (tgt := 54) dX9_tryWay_159 (by decide) ?_
        exact J_loc (ls_sub [0, 1, 2, 3, 4, 5, 6, 7] rfl) h
set_option maxRecDepth 20000 in
set_option maxHeartbeats 2000000 in
theorem bk_X3_scanAll_0 {d : Nat} {I : HI} {Q : Option AV → AH → Prop} {a1 : Int} {a2 : Int}  (h : (∀ I1 : HI, I1 = up I 57 6 1201 → ((0 : Int) ≤ a1 ∧ (a1 : Int) < 4) ∧ ((0 : Int) ≤ a2 ∧ (a2 : Int) < 4) ∧ CV mX3_scan d [vR 57, vI a1, vR (37 + 5 * a1.toNat), vI 0, vI a2, vR (37 + 5 * a2.toNat), vI 0] I1 (fun I2 => Q none (mk I2)))) : J none mX3_scanAll (d + 1) 0 0 0 [(0, vR 57), (1, vI a1), (2, vI a2), (3, vR 36)] [] (mk I) Q := by
  refine J_aload_n dX3_scanAll_0 rfl rfl ?_
  refine J_sipush dX3_scanAll_1 (ii_c rfl) (by decide) ?_
  refine J_putI dX3_scanAll_4 ck_3 fw_X3_28 rfl rfl (Or.inl rfl) sh_57 ?_
  replace h := h _ rfl
  refine J_aload_n dX3_scanAll_7 rfl rfl ?_
  refine J_iload_n dX3_scanAll_8 rfl rfl ?_
  refine J_aload_n dX3_scanAll_9 rfl rfl ?_
  refine J_iload_n dX3_scanAll_10 rfl rfl ?_
  have hb1 := h.1
  refine J_aald dX3_scanAll_11 sh_36 h.1.1 h.1.2 (RRw h.1.1 h.1.2) ?_
  replace h := h.2
  refine J_iconst dX3_scanAll_12 (ii_c rfl) ?_
  refine J_iload_n dX3_scanAll_13 rfl rfl ?_
  refine J_aload_n dX3_scanAll_14 rfl rfl ?_
  refine J_iload_n dX3_scanAll_15 rfl rfl ?_
  have hb2 := h.1
  refine J_aald dX3_scanAll_16 sh_36 h.1.1 h.1.2 (RRw h.1.1 h.1.2) ?_
  replace h := h.2
  refine J_iconst dX3_scanAll_17 (ii_c rfl) ?_
  refine J_callV (as := [_, _, _, _, _, _]) (mc1 := 0) (ms1 := 0) (mc := 0) (ms := 0) dX3_scanAll_18 mv_X3_scan lk_X3_32 sh_57 rfl (Nat.le_of_ble_eq_true rfl) (Nat.le_of_ble_eq_true rfl) h (fun r σ hq _ => ?_)
  obtain ⟨I2, rfl, rfl, h⟩ := hq
  change J _ _ _ _ _ _ _ [] _ _
  exact J_retv dX3_scanAll_21 rfl h
set_option maxRecDepth 20000 in
set_option maxHeartbeats 2000000 in
theorem bk_X3_scan_0 {d : Nat} {I : HI} {Q : Option AV → AH → Prop} {a1 : Int} {a2 n2 : Nat} {a3 : Int} {a4 : Int} {a5 n5 : Nat} {a6 : Int} (ha2 : TR a2 n2) (ha5 : TR a5 n5) (h : (∀ I1 : HI, I1 = up I 57 7 a1 → (∀ I2 : HI, I2 = up I1 57 8 a4 → (∀ I3 : HI, I3 = up I2 57 5 0 → (((I3 a2 7) ≠ 0 → J none mX3_scan (d + 1) 0 0 27 [(0, vR 57), (1, vI a1), (2, vR a2), (3, vI a3), (4, vI a4), (5, vR a5), (6, vI a6)] [] (mk I3) Q) ∧ ((I3 a2 7) = 0 → ((a3 = 0 → Q none (mk I3)) ∧ (¬ (a3 = 0) → J none mX3_scan (d + 1) 0 0 27 [(0, vR 57), (1, vI a1), (2, vR a2), (3, vI a3), (4, vI a4), (5, vR a5), (6, vI a6)] [] (mk I3) Q)))))))) : J none mX3_scan (d + 1) 0 0 0 [(0, vR 57), (1, vI a1), (2, vR a2), (3, vI a3), (4, vI a4), (5, vR a5), (6, vI a6)] [] (mk I) Q := by
  refine J_aload_n dX3_scan_0 rfl rfl ?_
  refine J_iload_n dX3_scan_1 rfl rfl ?_
  refine J_putI dX3_scan_2 ck_3 fw_X3_36 rfl rfl (Or.inl rfl) sh_57 ?_
  replace h := h _ rfl
  refine J_aload_n dX3_scan_5 rfl rfl ?_
  refine J_iload dX3_scan_6 rfl ?_
  refine J_putI dX3_scan_8 ck_3 fw_X3_39 rfl rfl (Or.inl rfl) sh_57 ?_
  replace h := h _ rfl
  refine J_aload_n dX3_scan_11 rfl rfl ?_
  refine J_iconst dX3_scan_12 (ii_c rfl) ?_
  refine J_putI dX3_scan_13 ck_3 fw_X3_42 rfl rfl (Or.inl rfl) sh_57 ?_
  replace h := h _ rfl
  refine J_aload_n dX3_scan_16 rfl rfl ?_
  refine J_getI dX3_scan_17 ck_8 fw_X3_45 rfl ha2.1 ?_
  refine J_if_ne (tgt := 27) dX3_scan_20 (by decide) (fun c => ?_) (fun c => ?_)
  · replace h := h.1 c
    exact h
  · replace h := h.2 c
    refine J_iload_n dX3_scan_23 rfl rfl ?_
    refine J_if_eq (tgt := 40) dX3_scan_24 (by decide) (fun c => ?_) (fun c => ?_)
    · replace h := h.1 c
      exact J_retv dX3_scan_40 rfl h
    · replace h := h.2 c
      exact h
set_option maxRecDepth 20000 in
set_option maxHeartbeats 2000000 in
theorem bk_X3_scan_27 {d : Nat} {I : HI} {Q : Option AV → AH → Prop} {a1 : Int} {a2 n2 : Nat} {a3 : Int} {a4 : Int} {a5 n5 : Nat} {a6 : Int} (ha2 : TR a2 n2) (ha5 : TR a5 n5) (h : (((I a5 7) ≠ 0 → CI mX0_greaterLoud d [vR 1, vI a1, vI a4] I (fun x1 I1 => CV mX3_drums d [vR 57, vI x1, vR a2, vI a3, vR a5, vI a6] I1 (fun I2 => (((oA (I2 a2 6) (I2 a5 6)) = 0 → Q none (mk I2)) ∧ (¬ ((oA (I2 a2 6) (I2 a5 6)) = 0) → CV mX3_trodden d [vR 57, vR a2, vI a3, vI a4, vR a5, vI a6] I2 (fun I3 => CV mX3_trodden d [vR 57, vR a5, vI a6, vI a1, vR a2, vI a3] I3 (fun I4 => Q none (mk I4)))))))) ∧ ((I a5 7) = 0 → ((a6 ≠ 0 → CI mX0_greaterLoud d [vR 1, vI a1, vI a4] I (fun x5 I5 => CV mX3_drums d [vR 57, vI x5, vR a2, vI a3, vR a5, vI a6] I5 (fun I6 => (((oA (I6 a2 6) (I6 a5 6)) = 0 → Q none (mk I6)) ∧ (¬ ((oA (I6 a2 6) (I6 a5 6)) = 0) → CV mX3_trodden d [vR 57, vR a2, vI a3, vI a4, vR a5, vI a6] I6 (fun I7 => CV mX3_trodden d [vR 57, vR a5, vI a6, vI a1, vR a2, vI a3] I7 (fun I8 => Q none (mk I8)))))))) ∧ (a6 = 0 → Q none (mk I)))))) : J none mX3_scan (d + 1) 0 0 27 [(0, vR 57), (1, vI a1), (2, vR a2), (3, vI a3), (4, vI a4), (5, vR a5), (6, vI a6)] [] (mk I) Q := by
  refine J_aload dX3_scan_27 rfl ?_
  refine J_getI dX3_scan_29 ck_8 fw_X3_45 rfl ha5.1 ?_
  refine J_if_ne (tgt := 41) dX3_scan_32 (by decide) (fun c => ?_) (fun c => ?_)
  · replace h := h.1 c
    refine J_aload_n dX3_scan_41 rfl rfl ?_
    refine J_aload_n dX3_scan_42 rfl rfl ?_
    refine J_getR dX3_scan_43 ck_3 fw_X3_24 rfl sh_57 rr_57_0 ?_
    refine J_iload_n dX3_scan_46 rfl rfl ?_
    refine J_iload dX3_scan_47 rfl ?_
    refine J_callV (as := [_, _]) (mc1 := 0) (ms1 := 0) (mc := 0) (ms := 0) dX3_scan_49 mv_X0_greaterLoud lk_X3_51 sh_1 rfl (Nat.le_of_ble_eq_true rfl) (Nat.le_of_ble_eq_true rfl) h (fun r σ hq _ => ?_)
    obtain ⟨x1, I1, rfl, rfl, h⟩ := hq
    change J _ _ _ _ _ _ _ [vI x1, _] _ _
    refine J_aload_n dX3_scan_52 rfl rfl ?_
    refine J_iload_n dX3_scan_53 rfl rfl ?_
    refine J_aload dX3_scan_54 rfl ?_
    refine J_iload dX3_scan_56 rfl ?_
    refine J_callV (as := [_, _, _, _, _]) (mc1 := 0) (ms1 := 0) (mc := 0) (ms := 0) dX3_scan_58 mv_X3_drums lk_X3_57 sh_57 rfl (Nat.le_of_ble_eq_true rfl) (Nat.le_of_ble_eq_true rfl) h (fun r σ hq _ => ?_)
    obtain ⟨I2, rfl, rfl, h⟩ := hq
    change J _ _ _ _ _ _ _ [] _ _
    refine J_aload_n dX3_scan_61 rfl rfl ?_
    refine J_getI dX3_scan_62 ck_8 fw_X3_61 rfl ha2.1 ?_
    refine J_aload dX3_scan_65 rfl ?_
    refine J_getI dX3_scan_67 ck_8 fw_X3_61 rfl ha5.1 ?_
    refine J_iand dX3_scan_70 ?_
    refine J_if_eq (tgt := 97) dX3_scan_71 (by decide) (fun c => ?_) (fun c => ?_)
    · replace h := h.1 c
      exact J_retv dX3_scan_97 rfl h
    · replace h := h.2 c
      refine J_aload_n dX3_scan_74 rfl rfl ?_
      refine J_aload_n dX3_scan_75 rfl rfl ?_
      refine J_iload_n dX3_scan_76 rfl rfl ?_
      refine J_iload dX3_scan_77 rfl ?_
      refine J_aload dX3_scan_79 rfl ?_
      refine J_iload dX3_scan_81 rfl ?_
      refine J_callV (as := [_, _, _, _, _]) (mc1 := 0) (ms1 := 0) (mc := 0) (ms := 0) dX3_scan_83 mv_X3_trodden lk_X3_64 sh_57 rfl (Nat.le_of_ble_eq_true rfl) (Nat.le_of_ble_eq_true rfl) h (fun r σ hq _ => ?_)
      obtain ⟨I3, rfl, rfl, h⟩ := hq
      change J _ _ _ _ _ _ _ [] _ _
      refine J_aload_n dX3_scan_86 rfl rfl ?_
      refine J_aload dX3_scan_87 rfl ?_
      refine J_iload dX3_scan_89 rfl ?_
      refine J_iload_n dX3_scan_91 rfl rfl ?_
      refine J_aload_n dX3_scan_92 rfl rfl ?_
      refine J_iload_n dX3_scan_93 rfl rfl ?_
      refine J_callV (as := [_, _, _, _, _]) (mc1 := 0) (ms1 := 0) (mc := 0) (ms := 0) dX3_scan_94 mv_X3_trodden lk_X3_64 sh_57 rfl (Nat.le_of_ble_eq_true rfl) (Nat.le_of_ble_eq_true rfl) h (fun r σ hq _ => ?_)
      obtain ⟨I4, rfl, rfl, h⟩ := hq
      change J _ _ _ _ _ _ _ [] _ _
      exact J_retv dX3_scan_97 rfl h
  · replace h := h.2 c
    refine J_iload dX3_scan_35 rfl ?_
    refine J_if_ne (tgt := 41) dX3_scan_37 (by decide) (fun c => ?_) (fun c => ?_)
    · replace h := h.1 c
      refine J_aload_n dX3_scan_41 rfl rfl ?_
      refine J_aload_n dX3_scan_42 rfl rfl ?_
      refine J_getR dX3_scan_43 ck_3 fw_X3_24 rfl sh_57 rr_57_0 ?_
      refine J_iload_n dX3_scan_46 rfl rfl ?_
      refine J_iload dX3_scan_47 rfl ?_
      refine J_callV (as := [_, _]) (mc1 := 0) (ms1 := 0) (mc := 0) (ms := 0) dX3_scan_49 mv_X0_greaterLoud lk_X3_51 sh_1 rfl (Nat.le_of_ble_eq_true rfl) (Nat.le_of_ble_eq_true rfl) h (fun r σ hq _ => ?_)
      obtain ⟨x5, I5, rfl, rfl, h⟩ := hq
      change J _ _ _ _ _ _ _ [vI x5, _] _ _
      refine J_aload_n dX3_scan_52 rfl rfl ?_
      refine J_iload_n dX3_scan_53 rfl rfl ?_
      refine J_aload dX3_scan_54 rfl ?_
      refine J_iload dX3_scan_56 rfl ?_
      refine J_callV (as := [_, _, _, _, _]) (mc1 := 0) (ms1 := 0) (mc := 0) (ms := 0) dX3_scan_58 mv_X3_drums lk_X3_57 sh_57 rfl (Nat.le_of_ble_eq_true rfl) (Nat.le_of_ble_eq_true rfl) h (fun r σ hq _ => ?_)
      obtain ⟨I6, rfl, rfl, h⟩ := hq
      change J _ _ _ _ _ _ _ [] _ _
      refine J_aload_n dX3_scan_61 rfl rfl ?_
      refine J_getI dX3_scan_62 ck_8 fw_X3_61 rfl ha2.1 ?_
      refine J_aload dX3_scan_65 rfl ?_
      refine J_getI dX3_scan_67 ck_8 fw_X3_61 rfl ha5.1 ?_
      refine J_iand dX3_scan_70 ?_
      refine J_if_eq (tgt := 97) dX3_scan_71 (by decide) (fun c => ?_) (fun c => ?_)
      · replace h := h.1 c
        exact J_retv dX3_scan_97 rfl h
      · replace h := h.2 c
        refine J_aload_n dX3_scan_74 rfl rfl ?_
        refine J_aload_n dX3_scan_75 rfl rfl ?_
        refine J_iload_n dX3_scan_76 rfl rfl ?_
        refine J_iload dX3_scan_77 rfl ?_
        refine J_aload dX3_scan_79 rfl ?_
        refine J_iload dX3_scan_81 rfl ?_
        refine J_callV (as := [_, _, _, _, _]) (mc1 := 0) (ms1 := 0) (mc := 0) (ms := 0) dX3_scan_83 mv_X3_trodden lk_X3_64 sh_57 rfl (Nat.le_of_ble_eq_true rfl) (Nat.le_of_ble_eq_true rfl) h (fun r σ hq _ => ?_)
        obtain ⟨I7, rfl, rfl, h⟩ := hq
        change J _ _ _ _ _ _ _ [] _ _
        refine J_aload_n dX3_scan_86 rfl rfl ?_
        refine J_aload dX3_scan_87 rfl ?_
        refine J_iload dX3_scan_89 rfl ?_
        refine J_iload_n dX3_scan_91 rfl rfl ?_
        refine J_aload_n dX3_scan_92 rfl rfl ?_
        refine J_iload_n dX3_scan_93 rfl rfl ?_
        refine J_callV (as := [_, _, _, _, _]) (mc1 := 0) (ms1 := 0) (mc := 0) (ms := 0) dX3_scan_94 mv_X3_trodden lk_X3_64 sh_57 rfl (Nat.le_of_ble_eq_true rfl) (Nat.le_of_ble_eq_true rfl) h (fun r σ hq _ => ?_)
        obtain ⟨I8, rfl, rfl, h⟩ := hq
        change J _ _ _ _ _ _ _ [] _ _
        exact J_retv dX3_scan_97 rfl h
    · replace h := h.2 c
      exact J_retv dX3_scan_40 rfl h
set_option maxRecDepth 20000 in
set_option maxHeartbeats 2000000 in
theorem bk_X3_drums_0 {d : Nat} {I : HI} {Q : Option AV → AH → Prop} {a1 : Int} {a2 n2 : Nat} {a3 : Int} {a4 n4 : Nat} {a5 : Int} (ha2 : TR a2 n2) (ha4 : TR a4 n4) (h : (-2147483648 ≤ (I a2 5) + a3 ∧ (I a2 5) + a3 ≤ 2147483647) ∧ (-2147483648 ≤ (I a4 5) + a5 ∧ (I a4 5) + a5 ≤ 2147483647) ∧ J none mX3_drums (d + 1) 0 0 28 [(0, vR 57), (1, vI a1), (2, vR a2), (3, vI a3), (4, vR a4), (5, vI a5), (6, vI (min ((I a2 5) + a3) ((I a4 5) + a5))), (7, vI 0), (8, vI 0), (9, vI 0)] [] (mk I) Q) : J none mX3_drums (d + 1) 0 0 0 [(0, vR 57), (1, vI a1), (2, vR a2), (3, vI a3), (4, vR a4), (5, vI a5)] [] (mk I) Q := by
  refine J_aload_n dX3_drums_0 rfl rfl ?_
  refine J_getI dX3_drums_1 ck_8 fw_X3_68 rfl ha2.1 ?_
  refine J_iload_n dX3_drums_4 rfl rfl ?_
  refine J_iaddN dX3_drums_5 h.1 ?_
  replace h := h.2
  refine J_aload dX3_drums_6 rfl ?_
  refine J_getI dX3_drums_8 ck_8 fw_X3_68 rfl ha4.1 ?_
  refine J_iload dX3_drums_11 rfl ?_
  refine J_iaddN dX3_drums_13 h.1 ?_
  replace h := h.2
  refine J_min dX3_drums_14 lk_X3_71 (Nat.le_of_ble_eq_true rfl) ?_
  refine J_istore dX3_drums_17 (by decide) ?_
  change J _ _ _ _ _ _ [(0, _), (1, _), (2, _), (3, _), (4, _), (5, _), (6, _)] _ _ _
  refine J_iconst dX3_drums_19 (ii_c rfl) ?_
  refine J_istore dX3_drums_20 (by decide) ?_
  change J _ _ _ _ _ _ [(0, _), (1, _), (2, _), (3, _), (4, _), (5, _), (6, _), (7, _)] _ _ _
  refine J_iconst dX3_drums_22 (ii_c rfl) ?_
  refine J_istore dX3_drums_23 (by decide) ?_
  change J _ _ _ _ _ _ [(0, _), (1, _), (2, _), (3, _), (4, _), (5, _), (6, _), (7, _), (8, _)] _ _ _
  refine J_iconst dX3_drums_25 (ii_c rfl) ?_
  refine J_istore dX3_drums_26 (by decide) ?_
  change J _ _ _ _ _ _ [(0, _), (1, _), (2, _), (3, _), (4, _), (5, _), (6, _), (7, _), (8, _), (9, _)] _ _ _
  exact h
set_option maxRecDepth 20000 in
set_option maxHeartbeats 2000000 in
theorem bk_X3_drums_28 {d : Nat} {I : HI} {Q : Option AV → AH → Prop} {a1 : Int} {a2 n2 : Nat} {a3 : Int} {a4 n4 : Nat} {a5 : Int} {a6 : Int} {a7 : Int} {a8 : Int} {a9 : Int} (ha2 : TR a2 n2) (ha4 : TR a4 n4) (h : ((a6 < a9 → Q none (mk I)) ∧ (¬ (a6 < a9) → (((I 57 6) ≤ (I 57 5) → Q none (mk I)) ∧ (¬ ((I 57 6) ≤ (I 57 5)) → (((I a2 4) ≤ a7 → Q none (mk I)) ∧ (¬ ((I a2 4) ≤ a7) → (((I a4 4) ≤ a8 → Q none (mk I)) ∧ (¬ ((I a4 4) ≤ a8) → (-2147483648 ≤ a7 + 1 ∧ a7 + 1 ≤ 2147483647) ∧ (((I a2 4) ≤ (a7 + 1) → (-2147483648 ≤ a6 + 1 ∧ a6 + 1 ≤ 2147483647) ∧ (-2147483648 ≤ a8 + 1 ∧ a8 + 1 ≤ 2147483647) ∧ (((I a4 4) ≤ (a8 + 1) → (-2147483648 ≤ a6 + 1 ∧ a6 + 1 ≤ 2147483647) ∧ (-2147483648 ≤ (min (a6 + 1) (a6 + 1)) - 1 ∧ (min (a6 + 1) (a6 + 1)) - 1 ≤ 2147483647) ∧ ((0 : Int) ≤ a7 ∧ (a7 : Int) < n2) ∧ (-2147483648 ≤ (I (a2 + 1) a7.toNat) * 10 ∧ (I (a2 + 1) a7.toNat) * 10 ≤ 2147483647) ∧ ((0 : Int) ≤ a8 ∧ (a8 : Int) < n4) ∧ (-2147483648 ≤ ((I (a2 + 1) a7.toNat) * 10) + (I (a4 + 1) a8.toNat) ∧ ((I (a2 + 1) a7.toNat) * 10) + (I (a4 + 1) a8.toNat) ≤ 2147483647) ∧ ((0 : Int) ≤ (((I (a2 + 1) a7.toNat) * 10) + (I (a4 + 1) a8.toNat)) ∧ (((I (a2 + 1) a7.toNat) * 10) + (I (a4 + 1) a8.toNat) : Int) < 100) ∧ ((a1 < (I 13 (((I (a2 + 1) a7.toNat) * 10) + (I (a4 + 1) a8.toNat)).toNat) → (-2147483648 ≤ (min a6 ((min (a6 + 1) (a6 + 1)) - 1)) + 1 ∧ (min a6 ((min (a6 + 1) (a6 + 1)) - 1)) + 1 ≤ 2147483647) ∧ (((a6 + 1) ≠ ((min a6 ((min (a6 + 1) (a6 + 1)) - 1)) + 1) → (((a6 + 1) ≠ ((min a6 ((min (a6 + 1) (a6 + 1)) - 1)) + 1) → J none mX3_drums (d + 1) 0 0 28 [(0, vR 57), (1, vI a1), (2, vR a2), (3, vI a3), (4, vR a4), (5, vI a5), (6, vI a6), (7, vI a7), (8, vI a8), (9, vI ((min a6 ((min (a6 + 1) (a6 + 1)) - 1)) + 1))] [] (mk I) Q) ∧ ((a6 + 1) = ((min a6 ((min (a6 + 1) (a6 + 1)) - 1)) + 1) → (-2147483648 ≤ a8 + 1 ∧ a8 + 1 ≤ 2147483647) ∧ J none mX3_drums (d + 1) 0 0 28 [(0, vR 57), (1, vI a1), (2, vR a2), (3, vI a3), (4, vR a4), (5, vI a5), (6, vI a6), (7, vI a7), (8, vI (a8 + 1)), (9, vI ((min a6 ((min (a6 + 1) (a6 + 1)) - 1)) + 1))] [] (mk I) Q))) ∧ ((a6 + 1) = ((min a6 ((min (a6 + 1) (a6 + 1)) - 1)) + 1) → (-2147483648 ≤ a7 + 1 ∧ a7 + 1 ≤ 2147483647) ∧ (((a6 + 1) ≠ ((min a6 ((min (a6 + 1) (a6 + 1)) - 1)) + 1) → J none mX3_drums (d + 1) 0 0 28 [(0, vR 57), (1, vI a1), (2, vR a2), (3, vI a3), (4, vR a4), (5, vI a5), (6, vI a6), (7, vI (a7 + 1)), (8, vI a8), (9, vI ((min a6 ((min (a6 + 1) (a6 + 1)) - 1)) + 1))] [] (mk I) Q) ∧ ((a6 + 1) = ((min a6 ((min (a6 + 1) (a6 + 1)) - 1)) + 1) → (-2147483648 ≤ a8 + 1 ∧ a8 + 1 ≤ 2147483647) ∧ J none mX3_drums (d + 1) 0 0 28 [(0, vR 57), (1, vI a1), (2, vR a2), (3, vI a3), (4, vR a4), (5, vI a5), (6, vI a6), (7, vI (a7 + 1)), (8, vI (a8 + 1)), (9, vI ((min a6 ((min (a6 + 1) (a6 + 1)) - 1)) + 1))] [] (mk I) Q))))) ∧ (¬ (a1 < (I 13 (((I (a2 + 1) a7.toNat) * 10) + (I (a4 + 1) a8.toNat)).toNat)) → CV mX3_add d [vR 57, vI a9, vI (min a6 ((min (a6 + 1) (a6 + 1)) - 1)), vI (I 13 (((I (a2 + 1) a7.toNat) * 10) + (I (a4 + 1) a8.toNat)).toNat), vI (-1)] I (fun I1 => (-2147483648 ≤ (min a6 ((min (a6 + 1) (a6 + 1)) - 1)) + 1 ∧ (min a6 ((min (a6 + 1) (a6 + 1)) - 1)) + 1 ≤ 2147483647) ∧ (((a6 + 1) ≠ ((min a6 ((min (a6 + 1) (a6 + 1)) - 1)) + 1) → (((a6 + 1) ≠ ((min a6 ((min (a6 + 1) (a6 + 1)) - 1)) + 1) → J none mX3_drums (d + 1) 0 0 28 [(0, vR 57), (1, vI a1), (2, vR a2), (3, vI a3), (4, vR a4), (5, vI a5), (6, vI a6), (7, vI a7), (8, vI a8), (9, vI ((min a6 ((min (a6 + 1) (a6 + 1)) - 1)) + 1))] [] (mk I1) Q) ∧ ((a6 + 1) = ((min a6 ((min (a6 + 1) (a6 + 1)) - 1)) + 1) → (-2147483648 ≤ a8 + 1 ∧ a8 + 1 ≤ 2147483647) ∧ J none mX3_drums (d + 1) 0 0 28 [(0, vR 57), (1, vI a1), (2, vR a2), (3, vI a3), (4, vR a4), (5, vI a5), (6, vI a6), (7, vI a7), (8, vI (a8 + 1)), (9, vI ((min a6 ((min (a6 + 1) (a6 + 1)) - 1)) + 1))] [] (mk I1) Q))) ∧ ((a6 + 1) = ((min a6 ((min (a6 + 1) (a6 + 1)) - 1)) + 1) → (-2147483648 ≤ a7 + 1 ∧ a7 + 1 ≤ 2147483647) ∧ (((a6 + 1) ≠ ((min a6 ((min (a6 + 1) (a6 + 1)) - 1)) + 1) → J none mX3_drums (d + 1) 0 0 28 [(0, vR 57), (1, vI a1), (2, vR a2), (3, vI a3), (4, vR a4), (5, vI a5), (6, vI a6), (7, vI (a7 + 1)), (8, vI a8), (9, vI ((min a6 ((min (a6 + 1) (a6 + 1)) - 1)) + 1))] [] (mk I1) Q) ∧ ((a6 + 1) = ((min a6 ((min (a6 + 1) (a6 + 1)) - 1)) + 1) → (-2147483648 ≤ a8 + 1 ∧ a8 + 1 ≤ 2147483647) ∧ J none mX3_drums (d + 1) 0 0 28 [(0, vR 57), (1, vI a1), (2, vR a2), (3, vI a3), (4, vR a4), (5, vI a5), (6, vI a6), (7, vI (a7 + 1)), (8, vI (a8 + 1)), (9, vI ((min a6 ((min (a6 + 1) (a6 + 1)) - 1)) + 1))] [] (mk I1) Q)))))))) ∧ (¬ ((I a4 4) ≤ (a8 + 1)) → (-2147483648 ≤ a8 + 1 ∧ a8 + 1 ≤ 2147483647) ∧ ((0 : Int) ≤ (a8 + 1) ∧ (a8 + 1 : Int) < n4) ∧ (-2147483648 ≤ (I (a4 + 4) (a8 + 1).toNat) + a5 ∧ (I (a4 + 4) (a8 + 1).toNat) + a5 ≤ 2147483647) ∧ (-2147483648 ≤ (min (a6 + 1) ((I (a4 + 4) (a8 + 1).toNat) + a5)) - 1 ∧ (min (a6 + 1) ((I (a4 + 4) (a8 + 1).toNat) + a5)) - 1 ≤ 2147483647) ∧ ((0 : Int) ≤ a7 ∧ (a7 : Int) < n2) ∧ (-2147483648 ≤ (I (a2 + 1) a7.toNat) * 10 ∧ (I (a2 + 1) a7.toNat) * 10 ≤ 2147483647) ∧ ((0 : Int) ≤ a8 ∧ (a8 : Int) < n4) ∧ (-2147483648 ≤ ((I (a2 + 1) a7.toNat) * 10) + (I (a4 + 1) a8.toNat) ∧ ((I (a2 + 1) a7.toNat) * 10) + (I (a4 + 1) a8.toNat) ≤ 2147483647) ∧ ((0 : Int) ≤ (((I (a2 + 1) a7.toNat) * 10) + (I (a4 + 1) a8.toNat)) ∧ (((I (a2 + 1) a7.toNat) * 10) + (I (a4 + 1) a8.toNat) : Int) < 100) ∧ ((a1 < (I 13 (((I (a2 + 1) a7.toNat) * 10) + (I (a4 + 1) a8.toNat)).toNat) → (-2147483648 ≤ (min a6 ((min (a6 + 1) ((I (a4 + 4) (a8 + 1).toNat) + a5)) - 1)) + 1 ∧ (min a6 ((min (a6 + 1) ((I (a4 + 4) (a8 + 1).toNat) + a5)) - 1)) + 1 ≤ 2147483647) ∧ (((a6 + 1) ≠ ((min a6 ((min (a6 + 1) ((I (a4 + 4) (a8 + 1).toNat) + a5)) - 1)) + 1) → ((((I (a4 + 4) (a8 + 1).toNat) + a5) ≠ ((min a6 ((min (a6 + 1) ((I (a4 + 4) (a8 + 1).toNat) + a5)) - 1)) + 1) → J none mX3_drums (d + 1) 0 0 28 [(0, vR 57), (1, vI a1), (2, vR a2), (3, vI a3), (4, vR a4), (5, vI a5), (6, vI a6), (7, vI a7), (8, vI a8), (9, vI ((min a6 ((min (a6 + 1) ((I (a4 + 4) (a8 + 1).toNat) + a5)) - 1)) + 1))] [] (mk I) Q) ∧ (((I (a4 + 4) (a8 + 1).toNat) + a5) = ((min a6 ((min (a6 + 1) ((I (a4 + 4) (a8 + 1).toNat) + a5)) - 1)) + 1) → (-2147483648 ≤ a8 + 1 ∧ a8 + 1 ≤ 2147483647) ∧ J none mX3_drums (d + 1) 0 0 28 [(0, vR 57), (1, vI a1), (2, vR a2), (3, vI a3), (4, vR a4), (5, vI a5), (6, vI a6), (7, vI a7), (8, vI (a8 + 1)), (9, vI ((min a6 ((min (a6 + 1) ((I (a4 + 4) (a8 + 1).toNat) + a5)) - 1)) + 1))] [] (mk I) Q))) ∧ ((a6 + 1) = ((min a6 ((min (a6 + 1) ((I (a4 + 4) (a8 + 1).toNat) + a5)) - 1)) + 1) → (-2147483648 ≤ a7 + 1 ∧ a7 + 1 ≤ 2147483647) ∧ ((((I (a4 + 4) (a8 + 1).toNat) + a5) ≠ ((min a6 ((min (a6 + 1) ((I (a4 + 4) (a8 + 1).toNat) + a5)) - 1)) + 1) → J none mX3_drums (d + 1) 0 0 28 [(0, vR 57), (1, vI a1), (2, vR a2), (3, vI a3), (4, vR a4), (5, vI a5), (6, vI a6), (7, vI (a7 + 1)), (8, vI a8), (9, vI ((min a6 ((min (a6 + 1) ((I (a4 + 4) (a8 + 1).toNat) + a5)) - 1)) + 1))] [] (mk I) Q) ∧ (((I (a4 + 4) (a8 + 1).toNat) + a5) = ((min a6 ((min (a6 + 1) ((I (a4 + 4) (a8 + 1).toNat) + a5)) - 1)) + 1) → (-2147483648 ≤ a8 + 1 ∧ a8 + 1 ≤ 2147483647) ∧ J none mX3_drums (d + 1) 0 0 28 [(0, vR 57), (1, vI a1), (2, vR a2), (3, vI a3), (4, vR a4), (5, vI a5), (6, vI a6), (7, vI (a7 + 1)), (8, vI (a8 + 1)), (9, vI ((min a6 ((min (a6 + 1) ((I (a4 + 4) (a8 + 1).toNat) + a5)) - 1)) + 1))] [] (mk I) Q))))) ∧ (¬ (a1 < (I 13 (((I (a2 + 1) a7.toNat) * 10) + (I (a4 + 1) a8.toNat)).toNat)) → CV mX3_add d [vR 57, vI a9, vI (min a6 ((min (a6 + 1) ((I (a4 + 4) (a8 + 1).toNat) + a5)) - 1)), vI (I 13 (((I (a2 + 1) a7.toNat) * 10) + (I (a4 + 1) a8.toNat)).toNat), vI (-1)] I (fun I2 => (-2147483648 ≤ (min a6 ((min (a6 + 1) ((I (a4 + 4) (a8 + 1).toNat) + a5)) - 1)) + 1 ∧ (min a6 ((min (a6 + 1) ((I (a4 + 4) (a8 + 1).toNat) + a5)) - 1)) + 1 ≤ 2147483647) ∧ (((a6 + 1) ≠ ((min a6 ((min (a6 + 1) ((I (a4 + 4) (a8 + 1).toNat) + a5)) - 1)) + 1) → ((((I (a4 + 4) (a8 + 1).toNat) + a5) ≠ ((min a6 ((min (a6 + 1) ((I (a4 + 4) (a8 + 1).toNat) + a5)) - 1)) + 1) → J none mX3_drums (d + 1) 0 0 28 [(0, vR 57), (1, vI a1), (2, vR a2), (3, vI a3), (4, vR a4), (5, vI a5), (6, vI a6), (7, vI a7), (8, vI a8), (9, vI ((min a6 ((min (a6 + 1) ((I (a4 + 4) (a8 + 1).toNat) + a5)) - 1)) + 1))] [] (mk I2) Q) ∧ (((I (a4 + 4) (a8 + 1).toNat) + a5) = ((min a6 ((min (a6 + 1) ((I (a4 + 4) (a8 + 1).toNat) + a5)) - 1)) + 1) → (-2147483648 ≤ a8 + 1 ∧ a8 + 1 ≤ 2147483647) ∧ J none mX3_drums (d + 1) 0 0 28 [(0, vR 57), (1, vI a1), (2, vR a2), (3, vI a3), (4, vR a4), (5, vI a5), (6, vI a6), (7, vI a7), (8, vI (a8 + 1)), (9, vI ((min a6 ((min (a6 + 1) ((I (a4 + 4) (a8 + 1).toNat) + a5)) - 1)) + 1))] [] (mk I2) Q))) ∧ ((a6 + 1) = ((min a6 ((min (a6 + 1) ((I (a4 + 4) (a8 + 1).toNat) + a5)) - 1)) + 1) → (-2147483648 ≤ a7 + 1 ∧ a7 + 1 ≤ 2147483647) ∧ ((((I (a4 + 4) (a8 + 1).toNat) + a5) ≠ ((min a6 ((min (a6 + 1) ((I (a4 + 4) (a8 + 1).toNat) + a5)) - 1)) + 1) → J none mX3_drums (d + 1) 0 0 28 [(0, vR 57), (1, vI a1), (2, vR a2), (3, vI a3), (4, vR a4), (5, vI a5), (6, vI a6), (7, vI (a7 + 1)), (8, vI a8), (9, vI ((min a6 ((min (a6 + 1) ((I (a4 + 4) (a8 + 1).toNat) + a5)) - 1)) + 1))] [] (mk I2) Q) ∧ (((I (a4 + 4) (a8 + 1).toNat) + a5) = ((min a6 ((min (a6 + 1) ((I (a4 + 4) (a8 + 1).toNat) + a5)) - 1)) + 1) → (-2147483648 ≤ a8 + 1 ∧ a8 + 1 ≤ 2147483647) ∧ J none mX3_drums (d + 1) 0 0 28 [(0, vR 57), (1, vI a1), (2, vR a2), (3, vI a3), (4, vR a4), (5, vI a5), (6, vI a6), (7, vI (a7 + 1)), (8, vI (a8 + 1)), (9, vI ((min a6 ((min (a6 + 1) ((I (a4 + 4) (a8 + 1).toNat) + a5)) - 1)) + 1))] [] (mk I2) Q)))))))))) ∧ (¬ ((I a2 4) ≤ (a7 + 1)) → (-2147483648 ≤ a7 + 1 ∧ a7 + 1 ≤ 2147483647) ∧ ((0 : Int) ≤ (a7 + 1) ∧ (a7 + 1 : Int) < n2) ∧ (-2147483648 ≤ (I (a2 + 4) (a7 + 1).toNat) + a3 ∧ (I (a2 + 4) (a7 + 1).toNat) + a3 ≤ 2147483647) ∧ (-2147483648 ≤ a8 + 1 ∧ a8 + 1 ≤ 2147483647) ∧ (((I a4 4) ≤ (a8 + 1) → (-2147483648 ≤ a6 + 1 ∧ a6 + 1 ≤ 2147483647) ∧ (-2147483648 ≤ (min ((I (a2 + 4) (a7 + 1).toNat) + a3) (a6 + 1)) - 1 ∧ (min ((I (a2 + 4) (a7 + 1).toNat) + a3) (a6 + 1)) - 1 ≤ 2147483647) ∧ ((0 : Int) ≤ a7 ∧ (a7 : Int) < n2) ∧ (-2147483648 ≤ (I (a2 + 1) a7.toNat) * 10 ∧ (I (a2 + 1) a7.toNat) * 10 ≤ 2147483647) ∧ ((0 : Int) ≤ a8 ∧ (a8 : Int) < n4) ∧ (-2147483648 ≤ ((I (a2 + 1) a7.toNat) * 10) + (I (a4 + 1) a8.toNat) ∧ ((I (a2 + 1) a7.toNat) * 10) + (I (a4 + 1) a8.toNat) ≤ 2147483647) ∧ ((0 : Int) ≤ (((I (a2 + 1) a7.toNat) * 10) + (I (a4 + 1) a8.toNat)) ∧ (((I (a2 + 1) a7.toNat) * 10) + (I (a4 + 1) a8.toNat) : Int) < 100) ∧ ((a1 < (I 13 (((I (a2 + 1) a7.toNat) * 10) + (I (a4 + 1) a8.toNat)).toNat) → (-2147483648 ≤ (min a6 ((min ((I (a2 + 4) (a7 + 1).toNat) + a3) (a6 + 1)) - 1)) + 1 ∧ (min a6 ((min ((I (a2 + 4) (a7 + 1).toNat) + a3) (a6 + 1)) - 1)) + 1 ≤ 2147483647) ∧ ((((I (a2 + 4) (a7 + 1).toNat) + a3) ≠ ((min a6 ((min ((I (a2 + 4) (a7 + 1).toNat) + a3) (a6 + 1)) - 1)) + 1) → (((a6 + 1) ≠ ((min a6 ((min ((I (a2 + 4) (a7 + 1).toNat) + a3) (a6 + 1)) - 1)) + 1) → J none mX3_drums (d + 1) 0 0 28 [(0, vR 57), (1, vI a1), (2, vR a2), (3, vI a3), (4, vR a4), (5, vI a5), (6, vI a6), (7, vI a7), (8, vI a8), (9, vI ((min a6 ((min ((I (a2 + 4) (a7 + 1).toNat) + a3) (a6 + 1)) - 1)) + 1))] [] (mk I) Q) ∧ ((a6 + 1) = ((min a6 ((min ((I (a2 + 4) (a7 + 1).toNat) + a3) (a6 + 1)) - 1)) + 1) → (-2147483648 ≤ a8 + 1 ∧ a8 + 1 ≤ 2147483647) ∧ J none mX3_drums (d + 1) 0 0 28 [(0, vR 57), (1, vI a1), (2, vR a2), (3, vI a3), (4, vR a4), (5, vI a5), (6, vI a6), (7, vI a7), (8, vI (a8 + 1)), (9, vI ((min a6 ((min ((I (a2 + 4) (a7 + 1).toNat) + a3) (a6 + 1)) - 1)) + 1))] [] (mk I) Q))) ∧ (((I (a2 + 4) (a7 + 1).toNat) + a3) = ((min a6 ((min ((I (a2 + 4) (a7 + 1).toNat) + a3) (a6 + 1)) - 1)) + 1) → (-2147483648 ≤ a7 + 1 ∧ a7 + 1 ≤ 2147483647) ∧ (((a6 + 1) ≠ ((min a6 ((min ((I (a2 + 4) (a7 + 1).toNat) + a3) (a6 + 1)) - 1)) + 1) → J none mX3_drums (d + 1) 0 0 28 [(0, vR 57), (1, vI a1), (2, vR a2), (3, vI a3), (4, vR a4), (5, vI a5), (6, vI a6), (7, vI (a7 + 1)), (8, vI a8), (9, vI ((min a6 ((min ((I (a2 + 4) (a7 + 1).toNat) + a3) (a6 + 1)) - 1)) + 1))] [] (mk I) Q) ∧ ((a6 + 1) = ((min a6 ((min ((I (a2 + 4) (a7 + 1).toNat) + a3) (a6 + 1)) - 1)) + 1) → (-2147483648 ≤ a8 + 1 ∧ a8 + 1 ≤ 2147483647) ∧ J none mX3_drums (d + 1) 0 0 28 [(0, vR 57), (1, vI a1), (2, vR a2), (3, vI a3), (4, vR a4), (5, vI a5), (6, vI a6), (7, vI (a7 + 1)), (8, vI (a8 + 1)), (9, vI ((min a6 ((min ((I (a2 + 4) (a7 + 1).toNat) + a3) (a6 + 1)) - 1)) + 1))] [] (mk I) Q))))) ∧ (¬ (a1 < (I 13 (((I (a2 + 1) a7.toNat) * 10) + (I (a4 + 1) a8.toNat)).toNat)) → CV mX3_add d [vR 57, vI a9, vI (min a6 ((min ((I (a2 + 4) (a7 + 1).toNat) + a3) (a6 + 1)) - 1)), vI (I 13 (((I (a2 + 1) a7.toNat) * 10) + (I (a4 + 1) a8.toNat)).toNat), vI (-1)] I (fun I3 => (-2147483648 ≤ (min a6 ((min ((I (a2 + 4) (a7 + 1).toNat) + a3) (a6 + 1)) - 1)) + 1 ∧ (min a6 ((min ((I (a2 + 4) (a7 + 1).toNat) + a3) (a6 + 1)) - 1)) + 1 ≤ 2147483647) ∧ ((((I (a2 + 4) (a7 + 1).toNat) + a3) ≠ ((min a6 ((min ((I (a2 + 4) (a7 + 1).toNat) + a3) (a6 + 1)) - 1)) + 1) → (((a6 + 1) ≠ ((min a6 ((min ((I (a2 + 4) (a7 + 1).toNat) + a3) (a6 + 1)) - 1)) + 1) → J none mX3_drums (d + 1) 0 0 28 [(0, vR 57), (1, vI a1), (2, vR a2), (3, vI a3), (4, vR a4), (5, vI a5), (6, vI a6), (7, vI a7), (8, vI a8), (9, vI ((min a6 ((min ((I (a2 + 4) (a7 + 1).toNat) + a3) (a6 + 1)) - 1)) + 1))] [] (mk I3) Q) ∧ ((a6 + 1) = ((min a6 ((min ((I (a2 + 4) (a7 + 1).toNat) + a3) (a6 + 1)) - 1)) + 1) → (-2147483648 ≤ a8 + 1 ∧ a8 + 1 ≤ 2147483647) ∧ J none mX3_drums (d + 1) 0 0 28 [(0, vR 57), (1, vI a1), (2, vR a2), (3, vI a3), (4, vR a4), (5, vI a5), (6, vI a6), (7, vI a7), (8, vI (a8 + 1)), (9, vI ((min a6 ((min ((I (a2 + 4) (a7 + 1).toNat) + a3) (a6 + 1)) - 1)) + 1))] [] (mk I3) Q))) ∧ (((I (a2 + 4) (a7 + 1).toNat) + a3) = ((min a6 ((min ((I (a2 + 4) (a7 + 1).toNat) + a3) (a6 + 1)) - 1)) + 1) → (-2147483648 ≤ a7 + 1 ∧ a7 + 1 ≤ 2147483647) ∧ (((a6 + 1) ≠ ((min a6 ((min ((I (a2 + 4) (a7 + 1).toNat) + a3) (a6 + 1)) - 1)) + 1) → J none mX3_drums (d + 1) 0 0 28 [(0, vR 57), (1, vI a1), (2, vR a2), (3, vI a3), (4, vR a4), (5, vI a5), (6, vI a6), (7, vI (a7 + 1)), (8, vI a8), (9, vI ((min a6 ((min ((I (a2 + 4) (a7 + 1).toNat) + a3) (a6 + 1)) - 1)) + 1))] [] (mk I3) Q) ∧ ((a6 + 1) = ((min a6 ((min ((I (a2 + 4) (a7 + 1).toNat) + a3) (a6 + 1)) - 1)) + 1) → (-2147483648 ≤ a8 + 1 ∧ a8 + 1 ≤ 2147483647) ∧ J none mX3_drums (d + 1) 0 0 28 [(0, vR 57), (1, vI a1), (2, vR a2), (3, vI a3), (4, vR a4), (5, vI a5), (6, vI a6), (7, vI (a7 + 1)), (8, vI (a8 + 1)), (9, vI ((min a6 ((min ((I (a2 + 4) (a7 + 1).toNat) + a3) (a6 + 1)) - 1)) + 1))] [] (mk I3) Q)))))))) ∧ (¬ ((I a4 4) ≤ (a8 + 1)) → (-2147483648 ≤ a8 + 1 ∧ a8 + 1 ≤ 2147483647) ∧ ((0 : Int) ≤ (a8 + 1) ∧ (a8 + 1 : Int) < n4) ∧ (-2147483648 ≤ (I (a4 + 4) (a8 + 1).toNat) + a5 ∧ (I (a4 + 4) (a8 + 1).toNat) + a5 ≤ 2147483647) ∧ (-2147483648 ≤ (min ((I (a2 + 4) (a7 + 1).toNat) + a3) ((I (a4 + 4) (a8 + 1).toNat) + a5)) - 1 ∧ (min ((I (a2 + 4) (a7 + 1).toNat) + a3) ((I (a4 + 4) (a8 + 1).toNat) + a5)) - 1 ≤ 2147483647) ∧ ((0 : Int) ≤ a7 ∧ (a7 : Int) < n2) ∧ (-2147483648 ≤ (I (a2 + 1) a7.toNat) * 10 ∧ (I (a2 + 1) a7.toNat) * 10 ≤ 2147483647) ∧ ((0 : Int) ≤ a8 ∧ (a8 : Int) < n4) ∧ (-2147483648 ≤ ((I (a2 + 1) a7.toNat) * 10) + (I (a4 + 1) a8.toNat) ∧ ((I (a2 + 1) a7.toNat) * 10) + (I (a4 + 1) a8.toNat) ≤ 2147483647) ∧ ((0 : Int) ≤ (((I (a2 + 1) a7.toNat) * 10) + (I (a4 + 1) a8.toNat)) ∧ (((I (a2 + 1) a7.toNat) * 10) + (I (a4 + 1) a8.toNat) : Int) < 100) ∧ ((a1 < (I 13 (((I (a2 + 1) a7.toNat) * 10) + (I (a4 + 1) a8.toNat)).toNat) → (-2147483648 ≤ (min a6 ((min ((I (a2 + 4) (a7 + 1).toNat) + a3) ((I (a4 + 4) (a8 + 1).toNat) + a5)) - 1)) + 1 ∧ (min a6 ((min ((I (a2 + 4) (a7 + 1).toNat) + a3) ((I (a4 + 4) (a8 + 1).toNat) + a5)) - 1)) + 1 ≤ 2147483647) ∧ ((((I (a2 + 4) (a7 + 1).toNat) + a3) ≠ ((min a6 ((min ((I (a2 + 4) (a7 + 1).toNat) + a3) ((I (a4 + 4) (a8 + 1).toNat) + a5)) - 1)) + 1) → ((((I (a4 + 4) (a8 + 1).toNat) + a5) ≠ ((min a6 ((min ((I (a2 + 4) (a7 + 1).toNat) + a3) ((I (a4 + 4) (a8 + 1).toNat) + a5)) - 1)) + 1) → J none mX3_drums (d + 1) 0 0 28 [(0, vR 57), (1, vI a1), (2, vR a2), (3, vI a3), (4, vR a4), (5, vI a5), (6, vI a6), (7, vI a7), (8, vI a8), (9, vI ((min a6 ((min ((I (a2 + 4) (a7 + 1).toNat) + a3) ((I (a4 + 4) (a8 + 1).toNat) + a5)) - 1)) + 1))] [] (mk I) Q) ∧ (((I (a4 + 4) (a8 + 1).toNat) + a5) = ((min a6 ((min ((I (a2 + 4) (a7 + 1).toNat) + a3) ((I (a4 + 4) (a8 + 1).toNat) + a5)) - 1)) + 1) → (-2147483648 ≤ a8 + 1 ∧ a8 + 1 ≤ 2147483647) ∧ J none mX3_drums (d + 1) 0 0 28 [(0, vR 57), (1, vI a1), (2, vR a2), (3, vI a3), (4, vR a4), (5, vI a5), (6, vI a6), (7, vI a7), (8, vI (a8 + 1)), (9, vI ((min a6 ((min ((I (a2 + 4) (a7 + 1).toNat) + a3) ((I (a4 + 4) (a8 + 1).toNat) + a5)) - 1)) + 1))] [] (mk I) Q))) ∧ (((I (a2 + 4) (a7 + 1).toNat) + a3) = ((min a6 ((min ((I (a2 + 4) (a7 + 1).toNat) + a3) ((I (a4 + 4) (a8 + 1).toNat) + a5)) - 1)) + 1) → (-2147483648 ≤ a7 + 1 ∧ a7 + 1 ≤ 2147483647) ∧ ((((I (a4 + 4) (a8 + 1).toNat) + a5) ≠ ((min a6 ((min ((I (a2 + 4) (a7 + 1).toNat) + a3) ((I (a4 + 4) (a8 + 1).toNat) + a5)) - 1)) + 1) → J none mX3_drums (d + 1) 0 0 28 [(0, vR 57), (1, vI a1), (2, vR a2), (3, vI a3), (4, vR a4), (5, vI a5), (6, vI a6), (7, vI (a7 + 1)), (8, vI a8), (9, vI ((min a6 ((min ((I (a2 + 4) (a7 + 1).toNat) + a3) ((I (a4 + 4) (a8 + 1).toNat) + a5)) - 1)) + 1))] [] (mk I) Q) ∧ (((I (a4 + 4) (a8 + 1).toNat) + a5) = ((min a6 ((min ((I (a2 + 4) (a7 + 1).toNat) + a3) ((I (a4 + 4) (a8 + 1).toNat) + a5)) - 1)) + 1) → (-2147483648 ≤ a8 + 1 ∧ a8 + 1 ≤ 2147483647) ∧ J none mX3_drums (d + 1) 0 0 28 [(0, vR 57), (1, vI a1), (2, vR a2), (3, vI a3), (4, vR a4), (5, vI a5), (6, vI a6), (7, vI (a7 + 1)), (8, vI (a8 + 1)), (9, vI ((min a6 ((min ((I (a2 + 4) (a7 + 1).toNat) + a3) ((I (a4 + 4) (a8 + 1).toNat) + a5)) - 1)) + 1))] [] (mk I) Q))))) ∧ (¬ (a1 < (I 13 (((I (a2 + 1) a7.toNat) * 10) + (I (a4 + 1) a8.toNat)).toNat)) → CV mX3_add d [vR 57, vI a9, vI (min a6 ((min ((I (a2 + 4) (a7 + 1).toNat) + a3) ((I (a4 + 4) (a8 + 1).toNat) + a5)) - 1)), vI (I 13 (((I (a2 + 1) a7.toNat) * 10) + (I (a4 + 1) a8.toNat)).toNat), vI (-1)] I (fun I4 => (-2147483648 ≤ (min a6 ((min ((I (a2 + 4) (a7 + 1).toNat) + a3) ((I (a4 + 4) (a8 + 1).toNat) + a5)) - 1)) + 1 ∧ (min a6 ((min ((I (a2 + 4) (a7 + 1).toNat) + a3) ((I (a4 + 4) (a8 + 1).toNat) + a5)) - 1)) + 1 ≤ 2147483647) ∧ ((((I (a2 + 4) (a7 + 1).toNat) + a3) ≠ ((min a6 ((min ((I (a2 + 4) (a7 + 1).toNat) + a3) ((I (a4 + 4) (a8 + 1).toNat) + a5)) - 1)) + 1) → ((((I (a4 + 4) (a8 + 1).toNat) + a5) ≠ ((min a6 ((min ((I (a2 + 4) (a7 + 1).toNat) + a3) ((I (a4 + 4) (a8 + 1).toNat) + a5)) - 1)) + 1) → J none mX3_drums (d + 1) 0 0 28 [(0, vR 57), (1, vI a1), (2, vR a2), (3, vI a3), (4, vR a4), (5, vI a5), (6, vI a6), (7, vI a7), (8, vI a8), (9, vI ((min a6 ((min ((I (a2 + 4) (a7 + 1).toNat) + a3) ((I (a4 + 4) (a8 + 1).toNat) + a5)) - 1)) + 1))] [] (mk I4) Q) ∧ (((I (a4 + 4) (a8 + 1).toNat) + a5) = ((min a6 ((min ((I (a2 + 4) (a7 + 1).toNat) + a3) ((I (a4 + 4) (a8 + 1).toNat) + a5)) - 1)) + 1) → (-2147483648 ≤ a8 + 1 ∧ a8 + 1 ≤ 2147483647) ∧ J none mX3_drums (d + 1) 0 0 28 [(0, vR 57), (1, vI a1), (2, vR a2), (3, vI a3), (4, vR a4), (5, vI a5), (6, vI a6), (7, vI a7), (8, vI (a8 + 1)), (9, vI ((min a6 ((min ((I (a2 + 4) (a7 + 1).toNat) + a3) ((I (a4 + 4) (a8 + 1).toNat) + a5)) - 1)) + 1))] [] (mk I4) Q))) ∧ (((I (a2 + 4) (a7 + 1).toNat) + a3) = ((min a6 ((min ((I (a2 + 4) (a7 + 1).toNat) + a3) ((I (a4 + 4) (a8 + 1).toNat) + a5)) - 1)) + 1) → (-2147483648 ≤ a7 + 1 ∧ a7 + 1 ≤ 2147483647) ∧ ((((I (a4 + 4) (a8 + 1).toNat) + a5) ≠ ((min a6 ((min ((I (a2 + 4) (a7 + 1).toNat) + a3) ((I (a4 + 4) (a8 + 1).toNat) + a5)) - 1)) + 1) → J none mX3_drums (d + 1) 0 0 28 [(0, vR 57), (1, vI a1), (2, vR a2), (3, vI a3), (4, vR a4), (5, vI a5), (6, vI a6), (7, vI (a7 + 1)), (8, vI a8), (9, vI ((min a6 ((min ((I (a2 + 4) (a7 + 1).toNat) + a3) ((I (a4 + 4) (a8 + 1).toNat) + a5)) - 1)) + 1))] [] (mk I4) Q) ∧ (((I (a4 + 4) (a8 + 1).toNat) + a5) = ((min a6 ((min ((I (a2 + 4) (a7 + 1).toNat) + a3) ((I (a4 + 4) (a8 + 1).toNat) + a5)) - 1)) + 1) → (-2147483648 ≤ a8 + 1 ∧ a8 + 1 ≤ 2147483647) ∧ J none mX3_drums (d + 1) 0 0 28 [(0, vR 57), (1, vI a1), (2, vR a2), (3, vI a3), (4, vR a4), (5, vI a5), (6, vI a6), (7, vI (a7 + 1)), (8, vI (a8 + 1)), (9, vI ((min a6 ((min ((I (a2 + 4) (a7 + 1).toNat) + a3) ((I (a4 + 4) (a8 + 1).toNat) + a5)) - 1)) + 1))] [] (mk I4) Q)))))))))))))))))))) : J none mX3_drums (d + 1) 0 0 28 [(0, vR 57), (1, vI a1), (2, vR a2), (3, vI a3), (4, vR a4), (5, vI a5), (6, vI a6), (7, vI a7), (8, vI a8), (9, vI a9)] [] (mk I) Q := by
  refine J_iload dX3_drums_28 rfl ?_
  refine J_iload dX3_drums_30 rfl ?_
  refine J_ic_gt (tgt := 221) dX3_drums_32 (by decide) (fun c => ?_) (fun c => ?_)
  · replace h := h.1 c
    exact J_retv dX3_drums_221 rfl h
  · replace h := h.2 c
    refine J_aload_n dX3_drums_35 rfl rfl ?_
    refine J_getI dX3_drums_36 ck_3 fw_X3_42 rfl sh_57 ?_
    refine J_aload_n dX3_drums_39 rfl rfl ?_
    refine J_getI dX3_drums_40 ck_3 fw_X3_28 rfl sh_57 ?_
    refine J_ic_ge (tgt := 221) dX3_drums_43 (by decide) (fun c => ?_) (fun c => ?_)
    · replace h := h.1 c
      exact J_retv dX3_drums_221 rfl h
    · replace h := h.2 c
      refine J_iload dX3_drums_46 rfl ?_
      refine J_aload_n dX3_drums_48 rfl rfl ?_
      refine J_getI dX3_drums_49 ck_8 fw_X3_76 rfl ha2.1 ?_
      refine J_ic_ge (tgt := 221) dX3_drums_52 (by decide) (fun c => ?_) (fun c => ?_)
      · replace h := h.1 c
        exact J_retv dX3_drums_221 rfl h
      · replace h := h.2 c
        refine J_iload dX3_drums_55 rfl ?_
        refine J_aload dX3_drums_57 rfl ?_
        refine J_getI dX3_drums_59 ck_8 fw_X3_76 rfl ha4.1 ?_
        refine J_ic_ge (tgt := 221) dX3_drums_62 (by decide) (fun c => ?_) (fun c => ?_)
        · replace h := h.1 c
          exact J_retv dX3_drums_221 rfl h
        · replace h := h.2 c
          refine J_iload dX3_drums_65 rfl ?_
          refine J_iconst dX3_drums_67 (ii_c rfl) ?_
          refine J_iaddN dX3_drums_68 h.1 ?_
          replace h := h.2
          refine J_aload_n dX3_drums_69 rfl rfl ?_
          refine J_getI dX3_drums_70 ck_8 fw_X3_76 rfl ha2.1 ?_
          refine J_ic_ge (tgt := 90) dX3_drums_73 (by decide) (fun c => ?_) (fun c => ?_)
          · replace h := h.1 c
            refine J_iload dX3_drums_90 rfl ?_
            refine J_iconst dX3_drums_92 (ii_c rfl) ?_
            refine J_iaddN dX3_drums_93 h.1 ?_
            replace h := h.2
            refine J_istore dX3_drums_94 (by decide) ?_
            change J _ _ _ _ _ _ [(0, _), (1, _), (2, _), (3, _), (4, _), (5, _), (6, _), (7, _), (8, _), (9, _), (10, _)] _ _ _
            refine J_iload dX3_drums_96 rfl ?_
            refine J_iconst dX3_drums_98 (ii_c rfl) ?_
            refine J_iaddN dX3_drums_99 h.1 ?_
            replace h := h.2
            refine J_aload dX3_drums_100 rfl ?_
            refine J_getI dX3_drums_102 ck_8 fw_X3_76 rfl ha4.1 ?_
            refine J_ic_ge (tgt := 124) dX3_drums_105 (by decide) (fun c => ?_) (fun c => ?_)
            · replace h := h.1 c
              refine J_iload dX3_drums_124 rfl ?_
              refine J_iconst dX3_drums_126 (ii_c rfl) ?_
              refine J_iaddN dX3_drums_127 h.1 ?_
              replace h := h.2
              refine J_istore dX3_drums_128 (by decide) ?_
              change J _ _ _ _ _ _ [(0, _), (1, _), (2, _), (3, _), (4, _), (5, _), (6, _), (7, _), (8, _), (9, _), (10, _), (11, _)] _ _ _
              refine J_iload dX3_drums_130 rfl ?_
              refine J_iload dX3_drums_132 rfl ?_
              refine J_iload dX3_drums_134 rfl ?_
              refine J_min dX3_drums_136 lk_X3_71 (Nat.le_of_ble_eq_true rfl) ?_
              refine J_iconst dX3_drums_139 (ii_c rfl) ?_
              refine J_isubN dX3_drums_140 h.1 ?_
              replace h := h.2
              refine J_min dX3_drums_141 lk_X3_71 (Nat.le_of_ble_eq_true rfl) ?_
              refine J_istore dX3_drums_144 (by decide) ?_
              change J _ _ _ _ _ _ [(0, _), (1, _), (2, _), (3, _), (4, _), (5, _), (6, _), (7, _), (8, _), (9, _), (10, _), (11, _), (12, _)] _ _ _
              refine J_aload_n dX3_drums_146 rfl rfl ?_
              refine J_getR dX3_drums_147 ck_3 fw_X3_24 rfl sh_57 rr_57_0 ?_
              refine J_getR dX3_drums_150 ck_0 fw_X3_82 rfl sh_1 rr_1_11 ?_
              refine J_aload_n dX3_drums_153 rfl rfl ?_
              refine J_getR dX3_drums_154 ck_8 fw_X3_85 rfl ha2.1 ha2.2.1 ?_
              refine J_iload dX3_drums_157 rfl ?_
              refine J_iald dX3_drums_159 ha2.2.2.2.2.2.1 h.1.1 h.1.2 ?_
              replace h := h.2
              refine J_bipush dX3_drums_160 (ii_c rfl) (by decide) ?_
              refine J_imulN dX3_drums_162 h.1 ?_
              replace h := h.2
              refine J_aload dX3_drums_163 rfl ?_
              refine J_getR dX3_drums_165 ck_8 fw_X3_85 rfl ha4.1 ha4.2.1 ?_
              refine J_iload dX3_drums_168 rfl ?_
              refine J_iald dX3_drums_170 ha4.2.2.2.2.2.1 h.1.1 h.1.2 ?_
              replace h := h.2
              refine J_iaddN dX3_drums_171 h.1 ?_
              replace h := h.2
              refine J_iald dX3_drums_172 sh_13 h.1.1 h.1.2 ?_
              replace h := h.2
              refine J_istore dX3_drums_173 (by decide) ?_
              change J _ _ _ _ _ _ [(0, _), (1, _), (2, _), (3, _), (4, _), (5, _), (6, _), (7, _), (8, _), (9, _), (10, _), (11, _), (12, _), (13, _)] _ _ _
              refine J_iload dX3_drums_175 rfl ?_
              refine J_iload_n dX3_drums_177 rfl rfl ?_
              refine J_ic_gt (tgt := 192) dX3_drums_178 (by decide) (fun c => ?_) (fun c => ?_)
              · replace h := h.1 c
                refine J_iload dX3_drums_192 rfl ?_
                refine J_iconst dX3_drums_194 (ii_c rfl) ?_
                refine J_iaddN dX3_drums_195 h.1 ?_
                replace h := h.2
                refine J_istore dX3_drums_196 (by decide) ?_
                change J _ _ _ _ _ _ [(0, _), (1, _), (2, _), (3, _), (4, _), (5, _), (6, _), (7, _), (8, _), (9, _), (10, _), (11, _), (12, _), (13, _)] _ _ _
                refine J_iload dX3_drums_198 rfl ?_
                refine J_iload dX3_drums_200 rfl ?_
                refine J_ic_ne (tgt := 208) dX3_drums_202 (by decide) (fun c => ?_) (fun c => ?_)
                · replace h := h.1 c
                  refine J_iload dX3_drums_208 rfl ?_
                  refine J_iload dX3_drums_210 rfl ?_
                  refine J_ic_ne (tgt := 218) dX3_drums_212 (by decide) (fun c => ?_) (fun c => ?_)
                  · replace h := h.1 c
                    refine J_goto (tgt := 28) dX3_drums_218 (by decide) ?_
                    exact J_loc (ls_sub [0, 1, 2, 3, 4, 5, 6, 7, 8, 9] rfl) h
                  · replace h := h.2 c
                    refine J_iincN dX3_drums_215 rfl (by decide) h.1 ?_
                    replace h := h.2
                    change J _ _ _ _ _ _ [(0, _), (1, _), (2, _), (3, _), (4, _), (5, _), (6, _), (7, _), (8, _), (9, _), (10, _), (11, _), (12, _), (13, _)] _ _ _
                    refine J_goto (tgt := 28) dX3_drums_218 (by decide) ?_
                    exact J_loc (ls_sub [0, 1, 2, 3, 4, 5, 6, 7, 8, 9] rfl) h
                · replace h := h.2 c
                  refine J_iincN dX3_drums_205 rfl (by decide) h.1 ?_
                  replace h := h.2
                  change J _ _ _ _ _ _ [(0, _), (1, _), (2, _), (3, _), (4, _), (5, _), (6, _), (7, _), (8, _), (9, _), (10, _), (11, _), (12, _), (13, _)] _ _ _
                  refine J_iload dX3_drums_208 rfl ?_
                  refine J_iload dX3_drums_210 rfl ?_
                  refine J_ic_ne (tgt := 218) dX3_drums_212 (by decide) (fun c => ?_) (fun c => ?_)
                  · replace h := h.1 c
                    refine J_goto (tgt := 28) dX3_drums_218 (by decide) ?_
                    exact J_loc (ls_sub [0, 1, 2, 3, 4, 5, 6, 7, 8, 9] rfl) h
                  · replace h := h.2 c
                    refine J_iincN dX3_drums_215 rfl (by decide) h.1 ?_
                    replace h := h.2
                    change J _ _ _ _ _ _ [(0, _), (1, _), (2, _), (3, _), (4, _), (5, _), (6, _), (7, _), (8, _), (9, _), (10, _), (11, _), (12, _), (13, _)] _ _ _
                    refine J_goto (tgt := 28) dX3_drums_218 (by decide) ?_
                    exact J_loc (ls_sub [0, 1, 2, 3, 4, 5, 6, 7, 8, 9] rfl) h
              · replace h := h.2 c
                refine J_aload_n dX3_drums_181 rfl rfl ?_
                refine J_iload dX3_drums_182 rfl ?_
                refine J_iload dX3_drums_184 rfl ?_
                refine J_iload dX3_drums_186 rfl ?_
                refine J_iconst dX3_drums_188 (ii_c rfl) ?_
                refine J_callV (as := [_, _, _, _]) (mc1 := 0) (ms1 := 0) (mc := 0) (ms := 0) dX3_drums_189 mv_X3_add lk_X3_88 sh_57 rfl (Nat.le_of_ble_eq_true rfl) (Nat.le_of_ble_eq_true rfl) h (fun r σ hq _ => ?_)
                obtain ⟨I1, rfl, rfl, h⟩ := hq
                change J _ _ _ _ _ _ _ [] _ _
                refine J_iload dX3_drums_192 rfl ?_
                refine J_iconst dX3_drums_194 (ii_c rfl) ?_
                refine J_iaddN dX3_drums_195 h.1 ?_
                replace h := h.2
                refine J_istore dX3_drums_196 (by decide) ?_
                change J _ _ _ _ _ _ [(0, _), (1, _), (2, _), (3, _), (4, _), (5, _), (6, _), (7, _), (8, _), (9, _), (10, _), (11, _), (12, _), (13, _)] _ _ _
                refine J_iload dX3_drums_198 rfl ?_
                refine J_iload dX3_drums_200 rfl ?_
                refine J_ic_ne (tgt := 208) dX3_drums_202 (by decide) (fun c => ?_) (fun c => ?_)
                · replace h := h.1 c
                  refine J_iload dX3_drums_208 rfl ?_
                  refine J_iload dX3_drums_210 rfl ?_
                  refine J_ic_ne (tgt := 218) dX3_drums_212 (by decide) (fun c => ?_) (fun c => ?_)
                  · replace h := h.1 c
                    refine J_goto (tgt := 28) dX3_drums_218 (by decide) ?_
                    exact J_loc (ls_sub [0, 1, 2, 3, 4, 5, 6, 7, 8, 9] rfl) h
                  · replace h := h.2 c
                    refine J_iincN dX3_drums_215 rfl (by decide) h.1 ?_
                    replace h := h.2
                    change J _ _ _ _ _ _ [(0, _), (1, _), (2, _), (3, _), (4, _), (5, _), (6, _), (7, _), (8, _), (9, _), (10, _), (11, _), (12, _), (13, _)] _ _ _
                    refine J_goto (tgt := 28) dX3_drums_218 (by decide) ?_
                    exact J_loc (ls_sub [0, 1, 2, 3, 4, 5, 6, 7, 8, 9] rfl) h
                · replace h := h.2 c
                  refine J_iincN dX3_drums_205 rfl (by decide) h.1 ?_
                  replace h := h.2
                  change J _ _ _ _ _ _ [(0, _), (1, _), (2, _), (3, _), (4, _), (5, _), (6, _), (7, _), (8, _), (9, _), (10, _), (11, _), (12, _), (13, _)] _ _ _
                  refine J_iload dX3_drums_208 rfl ?_
                  refine J_iload dX3_drums_210 rfl ?_
                  refine J_ic_ne (tgt := 218) dX3_drums_212 (by decide) (fun c => ?_) (fun c => ?_)
                  · replace h := h.1 c
                    refine J_goto (tgt := 28) dX3_drums_218 (by decide) ?_
                    exact J_loc (ls_sub [0, 1, 2, 3, 4, 5, 6, 7, 8, 9] rfl) h
                  · replace h := h.2 c
                    refine J_iincN dX3_drums_215 rfl (by decide) h.1 ?_
                    replace h := h.2
                    change J _ _ _ _ _ _ [(0, _), (1, _), (2, _), (3, _), (4, _), (5, _), (6, _), (7, _), (8, _), (9, _), (10, _), (11, _), (12, _), (13, _)] _ _ _
                    refine J_goto (tgt := 28) dX3_drums_218 (by decide) ?_
                    exact J_loc (ls_sub [0, 1, 2, 3, 4, 5, 6, 7, 8, 9] rfl) h
            · replace h := h.2 c
              refine J_aload dX3_drums_108 rfl ?_
              refine J_getR dX3_drums_110 ck_8 fw_X3_79 rfl ha4.1 ha4.2.2.2.2.1 ?_
              refine J_iload dX3_drums_113 rfl ?_
              refine J_iconst dX3_drums_115 (ii_c rfl) ?_
              refine J_iaddN dX3_drums_116 h.1 ?_
              replace h := h.2
              refine J_iald dX3_drums_117 ha4.2.2.2.2.2.2.2.2 h.1.1 h.1.2 ?_
              replace h := h.2
              refine J_iload dX3_drums_118 rfl ?_
              refine J_iaddN dX3_drums_120 h.1 ?_
              replace h := h.2
              refine J_goto (tgt := 128) dX3_drums_121 (by decide) ?_
              refine J_istore dX3_drums_128 (by decide) ?_
              change J _ _ _ _ _ _ [(0, _), (1, _), (2, _), (3, _), (4, _), (5, _), (6, _), (7, _), (8, _), (9, _), (10, _), (11, _)] _ _ _
              refine J_iload dX3_drums_130 rfl ?_
              refine J_iload dX3_drums_132 rfl ?_
              refine J_iload dX3_drums_134 rfl ?_
              refine J_min dX3_drums_136 lk_X3_71 (Nat.le_of_ble_eq_true rfl) ?_
              refine J_iconst dX3_drums_139 (ii_c rfl) ?_
              refine J_isubN dX3_drums_140 h.1 ?_
              replace h := h.2
              refine J_min dX3_drums_141 lk_X3_71 (Nat.le_of_ble_eq_true rfl) ?_
              refine J_istore dX3_drums_144 (by decide) ?_
              change J _ _ _ _ _ _ [(0, _), (1, _), (2, _), (3, _), (4, _), (5, _), (6, _), (7, _), (8, _), (9, _), (10, _), (11, _), (12, _)] _ _ _
              refine J_aload_n dX3_drums_146 rfl rfl ?_
              refine J_getR dX3_drums_147 ck_3 fw_X3_24 rfl sh_57 rr_57_0 ?_
              refine J_getR dX3_drums_150 ck_0 fw_X3_82 rfl sh_1 rr_1_11 ?_
              refine J_aload_n dX3_drums_153 rfl rfl ?_
              refine J_getR dX3_drums_154 ck_8 fw_X3_85 rfl ha2.1 ha2.2.1 ?_
              refine J_iload dX3_drums_157 rfl ?_
              refine J_iald dX3_drums_159 ha2.2.2.2.2.2.1 h.1.1 h.1.2 ?_
              replace h := h.2
              refine J_bipush dX3_drums_160 (ii_c rfl) (by decide) ?_
              refine J_imulN dX3_drums_162 h.1 ?_
              replace h := h.2
              refine J_aload dX3_drums_163 rfl ?_
              refine J_getR dX3_drums_165 ck_8 fw_X3_85 rfl ha4.1 ha4.2.1 ?_
              refine J_iload dX3_drums_168 rfl ?_
              refine J_iald dX3_drums_170 ha4.2.2.2.2.2.1 h.1.1 h.1.2 ?_
              replace h := h.2
              refine J_iaddN dX3_drums_171 h.1 ?_
              replace h := h.2
              refine J_iald dX3_drums_172 sh_13 h.1.1 h.1.2 ?_
              replace h := h.2
              refine J_istore dX3_drums_173 (by decide) ?_
              change J _ _ _ _ _ _ [(0, _), (1, _), (2, _), (3, _), (4, _), (5, _), (6, _), (7, _), (8, _), (9, _), (10, _), (11, _), (12, _), (13, _)] _ _ _
              refine J_iload dX3_drums_175 rfl ?_
              refine J_iload_n dX3_drums_177 rfl rfl ?_
              refine J_ic_gt (tgt := 192) dX3_drums_178 (by decide) (fun c => ?_) (fun c => ?_)
              · replace h := h.1 c
                refine J_iload dX3_drums_192 rfl ?_
                refine J_iconst dX3_drums_194 (ii_c rfl) ?_
                refine J_iaddN dX3_drums_195 h.1 ?_
                replace h := h.2
                refine J_istore dX3_drums_196 (by decide) ?_
                change J _ _ _ _ _ _ [(0, _), (1, _), (2, _), (3, _), (4, _), (5, _), (6, _), (7, _), (8, _), (9, _), (10, _), (11, _), (12, _), (13, _)] _ _ _
                refine J_iload dX3_drums_198 rfl ?_
                refine J_iload dX3_drums_200 rfl ?_
                refine J_ic_ne (tgt := 208) dX3_drums_202 (by decide) (fun c => ?_) (fun c => ?_)
                · replace h := h.1 c
                  refine J_iload dX3_drums_208 rfl ?_
                  refine J_iload dX3_drums_210 rfl ?_
                  refine J_ic_ne (tgt := 218) dX3_drums_212 (by decide) (fun c => ?_) (fun c => ?_)
                  · replace h := h.1 c
                    refine J_goto (tgt := 28) dX3_drums_218 (by decide) ?_
                    exact J_loc (ls_sub [0, 1, 2, 3, 4, 5, 6, 7, 8, 9] rfl) h
                  · replace h := h.2 c
                    refine J_iincN dX3_drums_215 rfl (by decide) h.1 ?_
                    replace h := h.2
                    change J _ _ _ _ _ _ [(0, _), (1, _), (2, _), (3, _), (4, _), (5, _), (6, _), (7, _), (8, _), (9, _), (10, _), (11, _), (12, _), (13, _)] _ _ _
                    refine J_goto (tgt := 28) dX3_drums_218 (by decide) ?_
                    exact J_loc (ls_sub [0, 1, 2, 3, 4, 5, 6, 7, 8, 9] rfl) h
                · replace h := h.2 c
                  refine J_iincN dX3_drums_205 rfl (by decide) h.1 ?_
                  replace h := h.2
                  change J _ _ _ _ _ _ [(0, _), (1, _), (2, _), (3, _), (4, _), (5, _), (6, _), (7, _), (8, _), (9, _), (10, _), (11, _), (12, _), (13, _)] _ _ _
                  refine J_iload dX3_drums_208 rfl ?_
                  refine J_iload dX3_drums_210 rfl ?_
                  refine J_ic_ne (tgt := 218) dX3_drums_212 (by decide) (fun c => ?_) (fun c => ?_)
                  · replace h := h.1 c
                    refine J_goto (tgt := 28) dX3_drums_218 (by decide) ?_
                    exact J_loc (ls_sub [0, 1, 2, 3, 4, 5, 6, 7, 8, 9] rfl) h
                  · replace h := h.2 c
                    refine J_iincN dX3_drums_215 rfl (by decide) h.1 ?_
                    replace h := h.2
                    change J _ _ _ _ _ _ [(0, _), (1, _), (2, _), (3, _), (4, _), (5, _), (6, _), (7, _), (8, _), (9, _), (10, _), (11, _), (12, _), (13, _)] _ _ _
                    refine J_goto (tgt := 28) dX3_drums_218 (by decide) ?_
                    exact J_loc (ls_sub [0, 1, 2, 3, 4, 5, 6, 7, 8, 9] rfl) h
              · replace h := h.2 c
                refine J_aload_n dX3_drums_181 rfl rfl ?_
                refine J_iload dX3_drums_182 rfl ?_
                refine J_iload dX3_drums_184 rfl ?_
                refine J_iload dX3_drums_186 rfl ?_
                refine J_iconst dX3_drums_188 (ii_c rfl) ?_
                refine J_callV (as := [_, _, _, _]) (mc1 := 0) (ms1 := 0) (mc := 0) (ms := 0) dX3_drums_189 mv_X3_add lk_X3_88 sh_57 rfl (Nat.le_of_ble_eq_true rfl) (Nat.le_of_ble_eq_true rfl) h (fun r σ hq _ => ?_)
                obtain ⟨I2, rfl, rfl, h⟩ := hq
                change J _ _ _ _ _ _ _ [] _ _
                refine J_iload dX3_drums_192 rfl ?_
                refine J_iconst dX3_drums_194 (ii_c rfl) ?_
                refine J_iaddN dX3_drums_195 h.1 ?_
                replace h := h.2
                refine J_istore dX3_drums_196 (by decide) ?_
                change J _ _ _ _ _ _ [(0, _), (1, _), (2, _), (3, _), (4, _), (5, _), (6, _), (7, _), (8, _), (9, _), (10, _), (11, _), (12, _), (13, _)] _ _ _
                refine J_iload dX3_drums_198 rfl ?_
                refine J_iload dX3_drums_200 rfl ?_
                refine J_ic_ne (tgt := 208) dX3_drums_202 (by decide) (fun c => ?_) (fun c => ?_)
                · replace h := h.1 c
                  refine J_iload dX3_drums_208 rfl ?_
                  refine J_iload dX3_drums_210 rfl ?_
                  refine J_ic_ne (tgt := 218) dX3_drums_212 (by decide) (fun c => ?_) (fun c => ?_)
                  · replace h := h.1 c
                    refine J_goto (tgt := 28) dX3_drums_218 (by decide) ?_
                    exact J_loc (ls_sub [0, 1, 2, 3, 4, 5, 6, 7, 8, 9] rfl) h
                  · replace h := h.2 c
                    refine J_iincN dX3_drums_215 rfl (by decide) h.1 ?_
                    replace h := h.2
                    change J _ _ _ _ _ _ [(0, _), (1, _), (2, _), (3, _), (4, _), (5, _), (6, _), (7, _), (8, _), (9, _), (10, _), (11, _), (12, _), (13, _)] _ _ _
                    refine J_goto (tgt := 28) dX3_drums_218 (by decide) ?_
                    exact J_loc (ls_sub [0, 1, 2, 3, 4, 5, 6, 7, 8, 9] rfl) h
                · replace h := h.2 c
                  refine J_iincN dX3_drums_205 rfl (by decide) h.1 ?_
                  replace h := h.2
                  change J _ _ _ _ _ _ [(0, _), (1, _), (2, _), (3, _), (4, _), (5, _), (6, _), (7, _), (8, _), (9, _), (10, _), (11, _), (12, _), (13, _)] _ _ _
                  refine J_iload dX3_drums_208 rfl ?_
                  refine J_iload dX3_drums_210 rfl ?_
                  refine J_ic_ne (tgt := 218) dX3_drums_212 (by decide) (fun c => ?_) (fun c => ?_)
                  · replace h := h.1 c
                    refine J_goto (tgt := 28) dX3_drums_218 (by decide) ?_
                    exact J_loc (ls_sub [0, 1, 2, 3, 4, 5, 6, 7, 8, 9] rfl) h
                  · replace h := h.2 c
                    refine J_iincN dX3_drums_215 rfl (by decide) h.1 ?_
                    replace h := h.2
                    change J _ _ _ _ _ _ [(0, _), (1, _), (2, _), (3, _), (4, _), (5, _), (6, _), (7, _), (8, _), (9, _), (10, _), (11, _), (12, _), (13, _)] _ _ _
                    refine J_goto (tgt := 28) dX3_drums_218 (by decide) ?_
                    exact J_loc (ls_sub [0, 1, 2, 3, 4, 5, 6, 7, 8, 9] rfl) h
          · replace h := h.2 c
            refine J_aload_n dX3_drums_76 rfl rfl ?_
            refine J_getR dX3_drums_77 ck_8 fw_X3_79 rfl ha2.1 ha2.2.2.2.2.1 ?_
            refine J_iload dX3_drums_80 rfl ?_
            refine J_iconst dX3_drums_82 (ii_c rfl) ?_
            refine J_iaddN dX3_drums_83 h.1 ?_
            replace h := h.2
            refine J_iald dX3_drums_84 ha2.2.2.2.2.2.2.2.2 h.1.1 h.1.2 ?_
            replace h := h.2
            refine J_iload_n dX3_drums_85 rfl rfl ?_
            refine J_iaddN dX3_drums_86 h.1 ?_
            replace h := h.2
            refine J_goto (tgt := 94) dX3_drums_87 (by decide) ?_
            refine J_istore dX3_drums_94 (by decide) ?_
            change J _ _ _ _ _ _ [(0, _), (1, _), (2, _), (3, _), (4, _), (5, _), (6, _), (7, _), (8, _), (9, _), (10, _)] _ _ _
            refine J_iload dX3_drums_96 rfl ?_
            refine J_iconst dX3_drums_98 (ii_c rfl) ?_
            refine J_iaddN dX3_drums_99 h.1 ?_
            replace h := h.2
            refine J_aload dX3_drums_100 rfl ?_
            refine J_getI dX3_drums_102 ck_8 fw_X3_76 rfl ha4.1 ?_
            refine J_ic_ge (tgt := 124) dX3_drums_105 (by decide) (fun c => ?_) (fun c => ?_)
            · replace h := h.1 c
              refine J_iload dX3_drums_124 rfl ?_
              refine J_iconst dX3_drums_126 (ii_c rfl) ?_
              refine J_iaddN dX3_drums_127 h.1 ?_
              replace h := h.2
              refine J_istore dX3_drums_128 (by decide) ?_
              change J _ _ _ _ _ _ [(0, _), (1, _), (2, _), (3, _), (4, _), (5, _), (6, _), (7, _), (8, _), (9, _), (10, _), (11, _)] _ _ _
              refine J_iload dX3_drums_130 rfl ?_
              refine J_iload dX3_drums_132 rfl ?_
              refine J_iload dX3_drums_134 rfl ?_
              refine J_min dX3_drums_136 lk_X3_71 (Nat.le_of_ble_eq_true rfl) ?_
              refine J_iconst dX3_drums_139 (ii_c rfl) ?_
              refine J_isubN dX3_drums_140 h.1 ?_
              replace h := h.2
              refine J_min dX3_drums_141 lk_X3_71 (Nat.le_of_ble_eq_true rfl) ?_
              refine J_istore dX3_drums_144 (by decide) ?_
              change J _ _ _ _ _ _ [(0, _), (1, _), (2, _), (3, _), (4, _), (5, _), (6, _), (7, _), (8, _), (9, _), (10, _), (11, _), (12, _)] _ _ _
              refine J_aload_n dX3_drums_146 rfl rfl ?_
              refine J_getR dX3_drums_147 ck_3 fw_X3_24 rfl sh_57 rr_57_0 ?_
              refine J_getR dX3_drums_150 ck_0 fw_X3_82 rfl sh_1 rr_1_11 ?_
              refine J_aload_n dX3_drums_153 rfl rfl ?_
              refine J_getR dX3_drums_154 ck_8 fw_X3_85 rfl ha2.1 ha2.2.1 ?_
              refine J_iload dX3_drums_157 rfl ?_
              refine J_iald dX3_drums_159 ha2.2.2.2.2.2.1 h.1.1 h.1.2 ?_
              replace h := h.2
              refine J_bipush dX3_drums_160 (ii_c rfl) (by decide) ?_
              refine J_imulN dX3_drums_162 h.1 ?_
              replace h := h.2
              refine J_aload dX3_drums_163 rfl ?_
              refine J_getR dX3_drums_165 ck_8 fw_X3_85 rfl ha4.1 ha4.2.1 ?_
              refine J_iload dX3_drums_168 rfl ?_
              refine J_iald dX3_drums_170 ha4.2.2.2.2.2.1 h.1.1 h.1.2 ?_
              replace h := h.2
              refine J_iaddN dX3_drums_171 h.1 ?_
              replace h := h.2
              refine J_iald dX3_drums_172 sh_13 h.1.1 h.1.2 ?_
              replace h := h.2
              refine J_istore dX3_drums_173 (by decide) ?_
              change J _ _ _ _ _ _ [(0, _), (1, _), (2, _), (3, _), (4, _), (5, _), (6, _), (7, _), (8, _), (9, _), (10, _), (11, _), (12, _), (13, _)] _ _ _
              refine J_iload dX3_drums_175 rfl ?_
              refine J_iload_n dX3_drums_177 rfl rfl ?_
              refine J_ic_gt (tgt := 192) dX3_drums_178 (by decide) (fun c => ?_) (fun c => ?_)
              · replace h := h.1 c
                refine J_iload dX3_drums_192 rfl ?_
                refine J_iconst dX3_drums_194 (ii_c rfl) ?_
                refine J_iaddN dX3_drums_195 h.1 ?_
                replace h := h.2
                refine J_istore dX3_drums_196 (by decide) ?_
                change J _ _ _ _ _ _ [(0, _), (1, _), (2, _), (3, _), (4, _), (5, _), (6, _), (7, _), (8, _), (9, _), (10, _), (11, _), (12, _), (13, _)] _ _ _
                refine J_iload dX3_drums_198 rfl ?_
                refine J_iload dX3_drums_200 rfl ?_
                refine J_ic_ne (tgt := 208) dX3_drums_202 (by decide) (fun c => ?_) (fun c => ?_)
                · replace h := h.1 c
                  refine J_iload dX3_drums_208 rfl ?_
                  refine J_iload dX3_drums_210 rfl ?_
                  refine J_ic_ne (tgt := 218) dX3_drums_212 (by decide) (fun c => ?_) (fun c => ?_)
                  · replace h := h.1 c
                    refine J_goto (tgt := 28) dX3_drums_218 (by decide) ?_
                    exact J_loc (ls_sub [0, 1, 2, 3, 4, 5, 6, 7, 8, 9] rfl) h
                  · replace h := h.2 c
                    refine J_iincN dX3_drums_215 rfl (by decide) h.1 ?_
                    replace h := h.2
                    change J _ _ _ _ _ _ [(0, _), (1, _), (2, _), (3, _), (4, _), (5, _), (6, _), (7, _), (8, _), (9, _), (10, _), (11, _), (12, _), (13, _)] _ _ _
                    refine J_goto (tgt := 28) dX3_drums_218 (by decide) ?_
                    exact J_loc (ls_sub [0, 1, 2, 3, 4, 5, 6, 7, 8, 9] rfl) h
                · replace h := h.2 c
                  refine J_iincN dX3_drums_205 rfl (by decide) h.1 ?_
                  replace h := h.2
                  change J _ _ _ _ _ _ [(0, _), (1, _), (2, _), (3, _), (4, _), (5, _), (6, _), (7, _), (8, _), (9, _), (10, _), (11, _), (12, _), (13, _)] _ _ _
                  refine J_iload dX3_drums_208 rfl ?_
                  refine J_iload dX3_drums_210 rfl ?_
                  refine J_ic_ne (tgt := 218) dX3_drums_212 (by decide) (fun c => ?_) (fun c => ?_)
                  · replace h := h.1 c
                    refine J_goto (tgt := 28) dX3_drums_218 (by decide) ?_
                    exact J_loc (ls_sub [0, 1, 2, 3, 4, 5, 6, 7, 8, 9] rfl) h
                  · replace h := h.2 c
                    refine J_iincN dX3_drums_215 rfl (by decide) h.1 ?_
                    replace h := h.2
                    change J _ _ _ _ _ _ [(0, _), (1, _), (2, _), (3, _), (4, _), (5, _), (6, _), (7, _), (8, _), (9, _), (10, _), (11, _), (12, _), (13, _)] _ _ _
                    refine J_goto (tgt := 28) dX3_drums_218 (by decide) ?_
                    exact J_loc (ls_sub [0, 1, 2, 3, 4, 5, 6, 7, 8, 9] rfl) h
              · replace h := h.2 c
                refine J_aload_n dX3_drums_181 rfl rfl ?_
                refine J_iload dX3_drums_182 rfl ?_
                refine J_iload dX3_drums_184 rfl ?_
                refine J_iload dX3_drums_186 rfl ?_
                refine J_iconst dX3_drums_188 (ii_c rfl) ?_
                refine J_callV (as := [_, _, _, _]) (mc1 := 0) (ms1 := 0) (mc := 0) (ms := 0) dX3_drums_189 mv_X3_add lk_X3_88 sh_57 rfl (Nat.le_of_ble_eq_true rfl) (Nat.le_of_ble_eq_true rfl) h (fun r σ hq _ => ?_)
                obtain ⟨I3, rfl, rfl, h⟩ := hq
                change J _ _ _ _ _ _ _ [] _ _
                refine J_iload dX3_drums_192 rfl ?_
                refine J_iconst dX3_drums_194 (ii_c rfl) ?_
                refine J_iaddN dX3_drums_195 h.1 ?_
                replace h := h.2
                refine J_istore dX3_drums_196 (by decide) ?_
                change J _ _ _ _ _ _ [(0, _), (1, _), (2, _), (3, _), (4, _), (5, _), (6, _), (7, _), (8, _), (9, _), (10, _), (11, _), (12, _), (13, _)] _ _ _
                refine J_iload dX3_drums_198 rfl ?_
                refine J_iload dX3_drums_200 rfl ?_
                refine J_ic_ne (tgt := 208) dX3_drums_202 (by decide) (fun c => ?_) (fun c => ?_)
                · replace h := h.1 c
                  refine J_iload dX3_drums_208 rfl ?_
                  refine J_iload dX3_drums_210 rfl ?_
                  refine J_ic_ne (tgt := 218) dX3_drums_212 (by decide) (fun c => ?_) (fun c => ?_)
                  · replace h := h.1 c
                    refine J_goto (tgt := 28) dX3_drums_218 (by decide) ?_
                    exact J_loc (ls_sub [0, 1, 2, 3, 4, 5, 6, 7, 8, 9] rfl) h
                  · replace h := h.2 c
                    refine J_iincN dX3_drums_215 rfl (by decide) h.1 ?_
                    replace h := h.2
                    change J _ _ _ _ _ _ [(0, _), (1, _), (2, _), (3, _), (4, _), (5, _), (6, _), (7, _), (8, _), (9, _), (10, _), (11, _), (12, _), (13, _)] _ _ _
                    refine J_goto (tgt := 28) dX3_drums_218 (by decide) ?_
                    exact J_loc (ls_sub [0, 1, 2, 3, 4, 5, 6, 7, 8, 9] rfl) h
                · replace h := h.2 c
                  refine J_iincN dX3_drums_205 rfl (by decide) h.1 ?_
                  replace h := h.2
                  change J _ _ _ _ _ _ [(0, _), (1, _), (2, _), (3, _), (4, _), (5, _), (6, _), (7, _), (8, _), (9, _), (10, _), (11, _), (12, _), (13, _)] _ _ _
                  refine J_iload dX3_drums_208 rfl ?_
                  refine J_iload dX3_drums_210 rfl ?_
                  refine J_ic_ne (tgt := 218) dX3_drums_212 (by decide) (fun c => ?_) (fun c => ?_)
                  · replace h := h.1 c
                    refine J_goto (tgt := 28) dX3_drums_218 (by decide) ?_
                    exact J_loc (ls_sub [0, 1, 2, 3, 4, 5, 6, 7, 8, 9] rfl) h
                  · replace h := h.2 c
                    refine J_iincN dX3_drums_215 rfl (by decide) h.1 ?_
                    replace h := h.2
                    change J _ _ _ _ _ _ [(0, _), (1, _), (2, _), (3, _), (4, _), (5, _), (6, _), (7, _), (8, _), (9, _), (10, _), (11, _), (12, _), (13, _)] _ _ _
                    refine J_goto (tgt := 28) dX3_drums_218 (by decide) ?_
                    exact J_loc (ls_sub [0, 1, 2, 3, 4, 5, 6, 7, 8, 9] rfl) h
            · replace h := h.2 c
              refine J_aload dX3_drums_108 rfl ?_
              refine J_getR dX3_drums_110 ck_8 fw_X3_79 rfl ha4.1 ha4.2.2.2.2.1 ?_
              refine J_iload dX3_drums_113 rfl ?_
              refine J_iconst dX3_drums_115 (ii_c rfl) ?_
              refine J_iaddN dX3_drums_116 h.1 ?_
              replace h := h.2
              refine J_iald dX3_drums_117 ha4.2.2.2.2.2.2.2.2 h.1.1 h.1.2 ?_
              replace h := h.2
              refine J_iload dX3_drums_118 rfl ?_
              refine J_iaddN dX3_drums_120 h.1 ?_
              replace h := h.2
              refine J_goto (tgt := 128) dX3_drums_121 (by decide) ?_
              refine J_istore dX3_drums_128 (by decide) ?_
              change J _ _ _ _ _ _ [(0, _), (1, _), (2, _), (3, _), (4, _), (5, _), (6, _), (7, _), (8, _), (9, _), (10, _), (11, _)] _ _ _
              refine J_iload dX3_drums_130 rfl ?_
              refine J_iload dX3_drums_132 rfl ?_
              refine J_iload dX3_drums_134 rfl ?_
              refine J_min dX3_drums_136 lk_X3_71 (Nat.le_of_ble_eq_true rfl) ?_
              refine J_iconst dX3_drums_139 (ii_c rfl) ?_
              refine J_isubN dX3_drums_140 h.1 ?_
              replace h := h.2
              refine J_min dX3_drums_141 lk_X3_71 (Nat.le_of_ble_eq_true rfl) ?_
              refine J_istore dX3_drums_144 (by decide) ?_
              change J _ _ _ _ _ _ [(0, _), (1, _), (2, _), (3, _), (4, _), (5, _), (6, _), (7, _), (8, _), (9, _), (10, _), (11, _), (12, _)] _ _ _
              refine J_aload_n dX3_drums_146 rfl rfl ?_
              refine J_getR dX3_drums_147 ck_3 fw_X3_24 rfl sh_57 rr_57_0 ?_
              refine J_getR dX3_drums_150 ck_0 fw_X3_82 rfl sh_1 rr_1_11 ?_
              refine J_aload_n dX3_drums_153 rfl rfl ?_
              refine J_getR dX3_drums_154 ck_8 fw_X3_85 rfl ha2.1 ha2.2.1 ?_
              refine J_iload dX3_drums_157 rfl ?_
              refine J_iald dX3_drums_159 ha2.2.2.2.2.2.1 h.1.1 h.1.2 ?_
              replace h := h.2
              refine J_bipush dX3_drums_160 (ii_c rfl) (by decide) ?_
              refine J_imulN dX3_drums_162 h.1 ?_
              replace h := h.2
              refine J_aload dX3_drums_163 rfl ?_
              refine J_getR dX3_drums_165 ck_8 fw_X3_85 rfl ha4.1 ha4.2.1 ?_
              refine J_iload dX3_drums_168 rfl ?_
              refine J_iald dX3_drums_170 ha4.2.2.2.2.2.1 h.1.1 h.1.2 ?_
              replace h := h.2
              refine J_iaddN dX3_drums_171 h.1 ?_
              replace h := h.2
              refine J_iald dX3_drums_172 sh_13 h.1.1 h.1.2 ?_
              replace h := h.2
              refine J_istore dX3_drums_173 (by decide) ?_
              change J _ _ _ _ _ _ [(0, _), (1, _), (2, _), (3, _), (4, _), (5, _), (6, _), (7, _), (8, _), (9, _), (10, _), (11, _), (12, _), (13, _)] _ _ _
              refine J_iload dX3_drums_175 rfl ?_
              refine J_iload_n dX3_drums_177 rfl rfl ?_
              refine J_ic_gt (tgt := 192) dX3_drums_178 (by decide) (fun c => ?_) (fun c => ?_)
              · replace h := h.1 c
                refine J_iload dX3_drums_192 rfl ?_
                refine J_iconst dX3_drums_194 (ii_c rfl) ?_
                refine J_iaddN dX3_drums_195 h.1 ?_
                replace h := h.2
                refine J_istore dX3_drums_196 (by decide) ?_
                change J _ _ _ _ _ _ [(0, _), (1, _), (2, _), (3, _), (4, _), (5, _), (6, _), (7, _), (8, _), (9, _), (10, _), (11, _), (12, _), (13, _)] _ _ _
                refine J_iload dX3_drums_198 rfl ?_
                refine J_iload dX3_drums_200 rfl ?_
                refine J_ic_ne (tgt := 208) dX3_drums_202 (by decide) (fun c => ?_) (fun c => ?_)
                · replace h := h.1 c
                  refine J_iload dX3_drums_208 rfl ?_
                  refine J_iload dX3_drums_210 rfl ?_
                  refine J_ic_ne (tgt := 218) dX3_drums_212 (by decide) (fun c => ?_) (fun c => ?_)
                  · replace h := h.1 c
                    refine J_goto (tgt := 28) dX3_drums_218 (by decide) ?_
                    exact J_loc (ls_sub [0, 1, 2, 3, 4, 5, 6, 7, 8, 9] rfl) h
                  · replace h := h.2 c
                    refine J_iincN dX3_drums_215 rfl (by decide) h.1 ?_
                    replace h := h.2
                    change J _ _ _ _ _ _ [(0, _), (1, _), (2, _), (3, _), (4, _), (5, _), (6, _), (7, _), (8, _), (9, _), (10, _), (11, _), (12, _), (13, _)] _ _ _
                    refine J_goto (tgt := 28) dX3_drums_218 (by decide) ?_
                    exact J_loc (ls_sub [0, 1, 2, 3, 4, 5, 6, 7, 8, 9] rfl) h
                · replace h := h.2 c
                  refine J_iincN dX3_drums_205 rfl (by decide) h.1 ?_
                  replace h := h.2
                  change J _ _ _ _ _ _ [(0, _), (1, _), (2, _), (3, _), (4, _), (5, _), (6, _), (7, _), (8, _), (9, _), (10, _), (11, _), (12, _), (13, _)] _ _ _
                  refine J_iload dX3_drums_208 rfl ?_
                  refine J_iload dX3_drums_210 rfl ?_
                  refine J_ic_ne (tgt := 218) dX3_drums_212 (by decide) (fun c => ?_) (fun c => ?_)
                  · replace h := h.1 c
                    refine J_goto (tgt := 28) dX3_drums_218 (by decide) ?_
                    exact J_loc (ls_sub [0, 1, 2, 3, 4, 5, 6, 7, 8, 9] rfl) h
                  · replace h := h.2 c
                    refine J_iincN dX3_drums_215 rfl (by decide) h.1 ?_
                    replace h := h.2
                    change J _ _ _ _ _ _ [(0, _), (1, _), (2, _), (3, _), (4, _), (5, _), (6, _), (7, _), (8, _), (9, _), (10, _), (11, _), (12, _), (13, _)] _ _ _
                    refine J_goto (tgt := 28) dX3_drums_218 (by decide) ?_
                    exact J_loc (ls_sub [0, 1, 2, 3, 4, 5, 6, 7, 8, 9] rfl) h
              · replace h := h.2 c
                refine J_aload_n dX3_drums_181 rfl rfl ?_
                refine J_iload dX3_drums_182 rfl ?_
                refine J_iload dX3_drums_184 rfl ?_
                refine J_iload dX3_drums_186 rfl ?_
                refine J_iconst dX3_drums_188 (ii_c rfl) ?_
                refine J_callV (as := [_, _, _, _]) (mc1 := 0) (ms1 := 0) (mc := 0) (ms := 0) dX3_drums_189 mv_X3_add lk_X3_88 sh_57 rfl (Nat.le_of_ble_eq_true rfl) (Nat.le_of_ble_eq_true rfl) h (fun r σ hq _ => ?_)
                obtain ⟨I4, rfl, rfl, h⟩ := hq
                change J _ _ _ _ _ _ _ [] _ _
                refine J_iload dX3_drums_192 rfl ?_
                refine J_iconst dX3_drums_194 (ii_c rfl) ?_
                refine J_iaddN dX3_drums_195 h.1 ?_
                replace h := h.2
                refine J_istore dX3_drums_196 (by decide) ?_
                change J _ _ _ _ _ _ [(0, _), (1, _), (2, _), (3, _), (4, _), (5, _), (6, _), (7, _), (8, _), (9, _), (10, _), (11, _), (12, _), (13, _)] _ _ _
                refine J_iload dX3_drums_198 rfl ?_
                refine J_iload dX3_drums_200 rfl ?_
                refine J_ic_ne (tgt := 208) dX3_drums_202 (by decide) (fun c => ?_) (fun c => ?_)
                · replace h := h.1 c
                  refine J_iload dX3_drums_208 rfl ?_
                  refine J_iload dX3_drums_210 rfl ?_
                  refine J_ic_ne (tgt := 218) dX3_drums_212 (by decide) (fun c => ?_) (fun c => ?_)
                  · replace h := h.1 c
                    refine J_goto (tgt := 28) dX3_drums_218 (by decide) ?_
                    exact J_loc (ls_sub [0, 1, 2, 3, 4, 5, 6, 7, 8, 9] rfl) h
                  · replace h := h.2 c
                    refine J_iincN dX3_drums_215 rfl (by decide) h.1 ?_
                    replace h := h.2
                    change J _ _ _ _ _ _ [(0, _), (1, _), (2, _), (3, _), (4, _), (5, _), (6, _), (7, _), (8, _), (9, _), (10, _), (11, _), (12, _), (13, _)] _ _ _
                    refine J_goto (tgt := 28) dX3_drums_218 (by decide) ?_
                    exact J_loc (ls_sub [0, 1, 2, 3, 4, 5, 6, 7, 8, 9] rfl) h
                · replace h := h.2 c
                  refine J_iincN dX3_drums_205 rfl (by decide) h.1 ?_
                  replace h := h.2
                  change J _ _ _ _ _ _ [(0, _), (1, _), (2, _), (3, _), (4, _), (5, _), (6, _), (7, _), (8, _), (9, _), (10, _), (11, _), (12, _), (13, _)] _ _ _
                  refine J_iload dX3_drums_208 rfl ?_
                  refine J_iload dX3_drums_210 rfl ?_
                  refine J_ic_ne (tgt := 218) dX3_drums_212 (by decide) (fun c => ?_) (fun c => ?_)
                  · replace h := h.1 c
                    refine J_goto (tgt := 28) dX3_drums_218 (by decide) ?_
                    exact J_loc (ls_sub [0, 1, 2, 3, 4, 5, 6, 7, 8, 9] rfl) h
                  · replace h := h.2 c
                    refine J_iincN dX3_drums_215 rfl (by decide) h.1 ?_
                    replace h := h.2
                    change J _ _ _ _ _ _ [(0, _), (1, _), (2, _), (3, _), (4, _), (5, _), (6, _), (7, _), (8, _), (9, _), (10, _), (11, _), (12, _), (13, _)] _ _ _
                    refine J_goto (tgt := 28) dX3_drums_218 (by decide) ?_
                    exact J_loc (ls_sub [0, 1, 2, 3, 4, 5, 6, 7, 8, 9] rfl) h
set_option maxRecDepth 20000 in
set_option maxHeartbeats 2000000 in
theorem bk_X3_trodden_0 {d : Nat} {I : HI} {Q : Option AV → AH → Prop} {a1 n1 : Nat} {a2 : Int} {a3 : Int} {a4 n4 : Nat} {a5 : Int} (ha1 : TR a1 n1) (ha4 : TR a4 n4) (h : J none mX3_trodden (d + 1) 0 0 3 [(0, vR 57), (1, vR a1), (2, vI a2), (3, vI a3), (4, vR a4), (5, vI a5), (6, vI 1)] [] (mk I) Q) : J none mX3_trodden (d + 1) 0 0 0 [(0, vR 57), (1, vR a1), (2, vI a2), (3, vI a3), (4, vR a4), (5, vI a5)] [] (mk I) Q := by
  refine J_iconst dX3_trodden_0 (ii_c rfl) ?_
  refine J_istore dX3_trodden_1 (by decide) ?_
  change J _ _ _ _ _ _ [(0, _), (1, _), (2, _), (3, _), (4, _), (5, _), (6, _)] _ _ _
  exact h
set_option maxRecDepth 20000 in
set_option maxHeartbeats 2000000 in
theorem bk_X3_trodden_3 {d : Nat} {I : HI} {Q : Option AV → AH → Prop} {a1 n1 : Nat} {a2 : Int} {a3 : Int} {a4 n4 : Nat} {a5 : Int} {a6 : Int} (ha1 : TR a1 n1) (ha4 : TR a4 n4) (h : (((I a1 4) ≤ a6 → Q none (mk I)) ∧ (¬ ((I a1 4) ≤ a6) → ((0 : Int) ≤ a6 ∧ (a6 : Int) < n1) ∧ (((oA (oSr (I a4 6) (I (a1 + 2) a6.toNat)) 1) ≠ 0 → J none mX3_trodden (d + 1) 0 0 36 [(0, vR 57), (1, vR a1), (2, vI a2), (3, vI a3), (4, vR a4), (5, vI a5), (6, vI a6), (7, vI 1)] [] (mk I) Q) ∧ ((oA (oSr (I a4 6) (I (a1 + 2) a6.toNat)) 1) = 0 → (-2147483648 ≤ a6 + 1 ∧ a6 + 1 ≤ 2147483647) ∧ J none mX3_trodden (d + 1) 0 0 3 [(0, vR 57), (1, vR a1), (2, vI a2), (3, vI a3), (4, vR a4), (5, vI a5), (6, vI (a6 + 1))] [] (mk I) Q))))) : J none mX3_trodden (d + 1) 0 0 3 [(0, vR 57), (1, vR a1), (2, vI a2), (3, vI a3), (4, vR a4), (5, vI a5), (6, vI a6)] [] (mk I) Q := by
  refine J_iload dX3_trodden_3 rfl ?_
  refine J_aload_n dX3_trodden_5 rfl rfl ?_
  refine J_getI dX3_trodden_6 ck_8 fw_X3_76 rfl ha1.1 ?_
  refine J_ic_ge (tgt := 166) dX3_trodden_9 (by decide) (fun c => ?_) (fun c => ?_)
  · replace h := h.1 c
    exact J_retv dX3_trodden_166 rfl h
  · replace h := h.2 c
    refine J_aload dX3_trodden_12 rfl ?_
    refine J_getI dX3_trodden_14 ck_8 fw_X3_61 rfl ha4.1 ?_
    refine J_aload_n dX3_trodden_17 rfl rfl ?_
    refine J_getR dX3_trodden_18 ck_8 fw_X3_92 rfl ha1.1 ha1.2.2.1 ?_
    refine J_iload dX3_trodden_21 rfl ?_
    refine J_iald dX3_trodden_23 ha1.2.2.2.2.2.2.1 h.1.1 h.1.2 ?_
    replace h := h.2
    refine J_ishr dX3_trodden_24 ?_
    refine J_iconst dX3_trodden_25 (ii_c rfl) ?_
    refine J_iand dX3_trodden_26 ?_
    refine J_if_ne (tgt := 33) dX3_trodden_27 (by decide) (fun c => ?_) (fun c => ?_)
    · replace h := h.1 c
      refine J_iconst dX3_trodden_33 (ii_c rfl) ?_
      refine J_istore dX3_trodden_34 (by decide) ?_
      change J _ _ _ _ _ _ [(0, _), (1, _), (2, _), (3, _), (4, _), (5, _), (6, _), (7, _)] _ _ _
      exact h
    · replace h := h.2 c
      refine J_goto (tgt := 160) dX3_trodden_30 (by decide) ?_
      refine J_iincN dX3_trodden_160 rfl (by decide) h.1 ?_
      replace h := h.2
      change J _ _ _ _ _ _ [(0, _), (1, _), (2, _), (3, _), (4, _), (5, _), (6, _)] _ _ _
      refine J_goto (tgt := 3) dX3_trodden_163 (by decide) ?_
      exact h
set_option maxRecDepth 20000 in
set_option maxHeartbeats 2000000 in
theorem bk_X3_trodden_36 {d : Nat} {I : HI} {Q : Option AV → AH → Prop} {a1 n1 : Nat} {a2 : Int} {a3 : Int} {a4 n4 : Nat} {a5 : Int} {a6 : Int} {a7 : Int} (ha1 : TR a1 n1) (ha4 : TR a4 n4) (h : (((I a4 4) ≤ a7 → (-2147483648 ≤ a6 + 1 ∧ a6 + 1 ≤ 2147483647) ∧ J none mX3_trodden (d + 1) 0 0 3 [(0, vR 57), (1, vR a1), (2, vI a2), (3, vI a3), (4, vR a4), (5, vI a5), (6, vI (a6 + 1))] [] (mk I) Q) ∧ (¬ ((I a4 4) ≤ a7) → (((I 57 6) ≤ (I 57 5) → (-2147483648 ≤ a6 + 1 ∧ a6 + 1 ≤ 2147483647) ∧ J none mX3_trodden (d + 1) 0 0 3 [(0, vR 57), (1, vR a1), (2, vI a2), (3, vI a3), (4, vR a4), (5, vI a5), (6, vI (a6 + 1))] [] (mk I) Q) ∧ (¬ ((I 57 6) ≤ (I 57 5)) → ((0 : Int) ≤ a7 ∧ (a7 : Int) < n4) ∧ ((0 : Int) ≤ a6 ∧ (a6 : Int) < n1) ∧ (((I (a4 + 2) a7.toNat) ≠ (I (a1 + 2) a6.toNat) → (-2147483648 ≤ a7 + 1 ∧ a7 + 1 ≤ 2147483647) ∧ J none mX3_trodden (d + 1) 0 0 36 [(0, vR 57), (1, vR a1), (2, vI a2), (3, vI a3), (4, vR a4), (5, vI a5), (6, vI a6), (7, vI (a7 + 1))] [] (mk I) Q) ∧ ((I (a4 + 2) a7.toNat) = (I (a1 + 2) a6.toNat) → ((0 : Int) ≤ a7 ∧ (a7 : Int) < n4) ∧ (-2147483648 ≤ (I (a4 + 4) a7.toNat) + a5 ∧ (I (a4 + 4) a7.toNat) + a5 ≤ 2147483647) ∧ ((0 : Int) ≤ a6 ∧ (a6 : Int) < n1) ∧ (-2147483648 ≤ (I (a1 + 3) a6.toNat) + a2 ∧ (I (a1 + 3) a6.toNat) + a2 ≤ 2147483647) ∧ (-2147483648 ≤ ((I (a1 + 3) a6.toNat) + a2) + 1 ∧ ((I (a1 + 3) a6.toNat) + a2) + 1 ≤ 2147483647) ∧ ((0 : Int) ≤ a6 ∧ (a6 : Int) < n1) ∧ (-2147483648 ≤ (I (a1 + 4) a6.toNat) + a2 ∧ (I (a1 + 4) a6.toNat) + a2 ≤ 2147483647) ∧ CI mX0_lastPetals d [vR 1, vI a3, vI ((I (a4 + 4) a7.toNat) + a5)] I (fun x1 I1 => (((min ((I (a1 + 4) a6.toNat) + a2) x1) < (max (((I (a1 + 3) a6.toNat) + a2) + 1) ((I (a4 + 4) a7.toNat) + a5)) → (-2147483648 ≤ a7 + 1 ∧ a7 + 1 ≤ 2147483647) ∧ J none mX3_trodden (d + 1) 0 0 36 [(0, vR 57), (1, vR a1), (2, vI a2), (3, vI a3), (4, vR a4), (5, vI a5), (6, vI a6), (7, vI (a7 + 1))] [] (mk I1) Q) ∧ (¬ ((min ((I (a1 + 4) a6.toNat) + a2) x1) < (max (((I (a1 + 3) a6.toNat) + a2) + 1) ((I (a4 + 4) a7.toNat) + a5))) → ((0 : Int) ≤ a6 ∧ (a6 : Int) < n1) ∧ CV mX3_add d [vR 57, vI (max (((I (a1 + 3) a6.toNat) + a2) + 1) ((I (a4 + 4) a7.toNat) + a5)), vI (min ((I (a1 + 4) a6.toNat) + a2) x1), vI 21, vI (I1 (a1 + 2) a6.toNat)] I1 (fun I2 => (-2147483648 ≤ a7 + 1 ∧ a7 + 1 ≤ 2147483647) ∧ J none mX3_trodden (d + 1) 0 0 36 [(0, vR 57), (1, vR a1), (2, vI a2), (3, vI a3), (4, vR a4), (5, vI a5), (6, vI a6), (7, vI (a7 + 1))] [] (mk I2) Q))))))))))) : J none mX3_trodden (d + 1) 0 0 36 [(0, vR 57), (1, vR a1), (2, vI a2), (3, vI a3), (4, vR a4), (5, vI a5), (6, vI a6), (7, vI a7)] [] (mk I) Q := by
  refine J_iload dX3_trodden_36 rfl ?_
  refine J_aload dX3_trodden_38 rfl ?_
  refine J_getI dX3_trodden_40 ck_8 fw_X3_76 rfl ha4.1 ?_
  refine J_ic_ge (tgt := 160) dX3_trodden_43 (by decide) (fun c => ?_) (fun c => ?_)
  · replace h := h.1 c
    refine J_iincN dX3_trodden_160 rfl (by decide) h.1 ?_
    replace h := h.2
    change J _ _ _ _ _ _ [(0, _), (1, _), (2, _), (3, _), (4, _), (5, _), (6, _), (7, _)] _ _ _
    refine J_goto (tgt := 3) dX3_trodden_163 (by decide) ?_
    exact J_loc (ls_sub [0, 1, 2, 3, 4, 5, 6] rfl) h
  · replace h := h.2 c
    refine J_aload_n dX3_trodden_46 rfl rfl ?_
    refine J_getI dX3_trodden_47 ck_3 fw_X3_42 rfl sh_57 ?_
    refine J_aload_n dX3_trodden_50 rfl rfl ?_
    refine J_getI dX3_trodden_51 ck_3 fw_X3_28 rfl sh_57 ?_
    refine J_ic_ge (tgt := 160) dX3_trodden_54 (by decide) (fun c => ?_) (fun c => ?_)
    · replace h := h.1 c
      refine J_iincN dX3_trodden_160 rfl (by decide) h.1 ?_
      replace h := h.2
      change J _ _ _ _ _ _ [(0, _), (1, _), (2, _), (3, _), (4, _), (5, _), (6, _), (7, _)] _ _ _
      refine J_goto (tgt := 3) dX3_trodden_163 (by decide) ?_
      exact J_loc (ls_sub [0, 1, 2, 3, 4, 5, 6] rfl) h
    · replace h := h.2 c
      refine J_aload dX3_trodden_57 rfl ?_
      refine J_getR dX3_trodden_59 ck_8 fw_X3_92 rfl ha4.1 ha4.2.2.1 ?_
      refine J_iload dX3_trodden_62 rfl ?_
      refine J_iald dX3_trodden_64 ha4.2.2.2.2.2.2.1 h.1.1 h.1.2 ?_
      replace h := h.2
      refine J_aload_n dX3_trodden_65 rfl rfl ?_
      refine J_getR dX3_trodden_66 ck_8 fw_X3_92 rfl ha1.1 ha1.2.2.1 ?_
      refine J_iload dX3_trodden_69 rfl ?_
      refine J_iald dX3_trodden_71 ha1.2.2.2.2.2.2.1 h.1.1 h.1.2 ?_
      replace h := h.2
      refine J_ic_ne (tgt := 154) dX3_trodden_72 (by decide) (fun c => ?_) (fun c => ?_)
      · replace h := h.1 c
        refine J_iincN dX3_trodden_154 rfl (by decide) h.1 ?_
        replace h := h.2
        change J _ _ _ _ _ _ [(0, _), (1, _), (2, _), (3, _), (4, _), (5, _), (6, _), (7, _)] _ _ _
        refine J_goto (tgt := 36) dX3_trodden_157 (by decide) ?_
        exact h
      · replace h := h.2 c
        refine J_aload dX3_trodden_75 rfl ?_
        refine J_getR dX3_trodden_77 ck_8 fw_X3_79 rfl ha4.1 ha4.2.2.2.2.1 ?_
        refine J_iload dX3_trodden_80 rfl ?_
        refine J_iald dX3_trodden_82 ha4.2.2.2.2.2.2.2.2 h.1.1 h.1.2 ?_
        replace h := h.2
        refine J_iload dX3_trodden_83 rfl ?_
        refine J_iaddN dX3_trodden_85 h.1 ?_
        replace h := h.2
        refine J_istore dX3_trodden_86 (by decide) ?_
        change J _ _ _ _ _ _ [(0, _), (1, _), (2, _), (3, _), (4, _), (5, _), (6, _), (7, _), (8, _)] _ _ _
        refine J_aload_n dX3_trodden_88 rfl rfl ?_
        refine J_getR dX3_trodden_89 ck_8 fw_X3_93 rfl ha1.1 ha1.2.2.2.1 ?_
        refine J_iload dX3_trodden_92 rfl ?_
        refine J_iald dX3_trodden_94 ha1.2.2.2.2.2.2.2.1 h.1.1 h.1.2 ?_
        replace h := h.2
        refine J_iload_n dX3_trodden_95 rfl rfl ?_
        refine J_iaddN dX3_trodden_96 h.1 ?_
        replace h := h.2
        refine J_iconst dX3_trodden_97 (ii_c rfl) ?_
        refine J_iaddN dX3_trodden_98 h.1 ?_
        replace h := h.2
        refine J_iload dX3_trodden_99 rfl ?_
        refine J_max dX3_trodden_101 lk_X3_96 (Nat.le_of_ble_eq_true rfl) ?_
        refine J_istore dX3_trodden_104 (by decide) ?_
        change J _ _ _ _ _ _ [(0, _), (1, _), (2, _), (3, _), (4, _), (5, _), (6, _), (7, _), (8, _), (9, _)] _ _ _
        refine J_aload_n dX3_trodden_106 rfl rfl ?_
        refine J_getR dX3_trodden_107 ck_8 fw_X3_79 rfl ha1.1 ha1.2.2.2.2.1 ?_
        refine J_iload dX3_trodden_110 rfl ?_
        refine J_iald dX3_trodden_112 ha1.2.2.2.2.2.2.2.2 h.1.1 h.1.2 ?_
        replace h := h.2
        refine J_iload_n dX3_trodden_113 rfl rfl ?_
        refine J_iaddN dX3_trodden_114 h.1 ?_
        replace h := h.2
        refine J_aload_n dX3_trodden_115 rfl rfl ?_
        refine J_getR dX3_trodden_116 ck_3 fw_X3_24 rfl sh_57 rr_57_0 ?_
        refine J_iload_n dX3_trodden_119 rfl rfl ?_
        refine J_iload dX3_trodden_120 rfl ?_
        refine J_callV (as := [_, _]) (mc1 := 0) (ms1 := 0) (mc := 0) (ms := 0) dX3_trodden_122 mv_X0_lastPetals lk_X3_99 sh_1 rfl (Nat.le_of_ble_eq_true rfl) (Nat.le_of_ble_eq_true rfl) h (fun r σ hq _ => ?_)
        obtain ⟨x1, I1, rfl, rfl, h⟩ := hq
        change J _ _ _ _ _ _ _ [vI x1, _] _ _
        refine J_min dX3_trodden_125 lk_X3_71 (Nat.le_of_ble_eq_true rfl) ?_
        refine J_istore dX3_trodden_128 (by decide) ?_
        change J _ _ _ _ _ _ [(0, _), (1, _), (2, _), (3, _), (4, _), (5, _), (6, _), (7, _), (8, _), (9, _), (10, _)] _ _ _
        refine J_iload dX3_trodden_130 rfl ?_
        refine J_iload dX3_trodden_132 rfl ?_
        refine J_ic_gt (tgt := 154) dX3_trodden_134 (by decide) (fun c => ?_) (fun c => ?_)
        · replace h := h.1 c
          refine J_iincN dX3_trodden_154 rfl (by decide) h.1 ?_
          replace h := h.2
          change J _ _ _ _ _ _ [(0, _), (1, _), (2, _), (3, _), (4, _), (5, _), (6, _), (7, _), (8, _), (9, _), (10, _)] _ _ _
          refine J_goto (tgt := 36) dX3_trodden_157 (by decide) ?_
          exact J_loc (ls_sub [0, 1, 2, 3, 4, 5, 6, 7] rfl) h
        · replace h := h.2 c
          refine J_aload_n dX3_trodden_137 rfl rfl ?_
          refine J_iload dX3_trodden_138 rfl ?_
          refine J_iload dX3_trodden_140 rfl ?_
          refine J_bipush dX3_trodden_142 (ii_c rfl) (by decide) ?_
          refine J_aload_n dX3_trodden_144 rfl rfl ?_
          refine J_getR dX3_trodden_145 ck_8 fw_X3_92 rfl ha1.1 ha1.2.2.1 ?_
          refine J_iload dX3_trodden_148 rfl ?_
          refine J_iald dX3_trodden_150 ha1.2.2.2.2.2.2.1 h.1.1 h.1.2 ?_
          replace h := h.2
          refine J_callV (as := [_, _, _, _]) (mc1 := 0) (ms1 := 0) (mc := 0) (ms := 0) dX3_trodden_151 mv_X3_add lk_X3_88 sh_57 rfl (Nat.le_of_ble_eq_true rfl) (Nat.le_of_ble_eq_true rfl) h (fun r σ hq _ => ?_)
          obtain ⟨I2, rfl, rfl, h⟩ := hq
          change J _ _ _ _ _ _ _ [] _ _
          refine J_iincN dX3_trodden_154 rfl (by decide) h.1 ?_
          replace h := h.2
          change J _ _ _ _ _ _ [(0, _), (1, _), (2, _), (3, _), (4, _), (5, _), (6, _), (7, _), (8, _), (9, _), (10, _)] _ _ _
          refine J_goto (tgt := 36) dX3_trodden_157 (by decide) ?_
          exact J_loc (ls_sub [0, 1, 2, 3, 4, 5, 6, 7] rfl) h
set_option maxRecDepth 20000 in
set_option maxHeartbeats 2000000 in
theorem bk_X3_add_0 {d : Nat} {I : HI} {Q : Option AV → AH → Prop} {a1 : Int} {a2 : Int} {a3 : Int} {a4 : Int}  (h : ((1201 ≤ (I 57 5) → Q none (mk I)) ∧ (¬ (1201 ≤ (I 57 5)) → ((0 : Int) ≤ (I 57 5) ∧ (I 57 5 : Int) < 1201) ∧ (∀ I1 : HI, I1 = up I 58 (I 57 5).toNat a1 → ((0 : Int) ≤ (I1 57 5) ∧ (I1 57 5 : Int) < 1201) ∧ (∀ I2 : HI, I2 = up I1 59 (I1 57 5).toNat a2 → ((0 : Int) ≤ (I2 57 5) ∧ (I2 57 5 : Int) < 1201) ∧ (∀ I3 : HI, I3 = up I2 60 (I2 57 5).toNat a3 → ((0 : Int) ≤ (I3 57 5) ∧ (I3 57 5 : Int) < 1201) ∧ (∀ I4 : HI, I4 = up I3 61 (I3 57 5).toNat a4 → (-2147483648 ≤ (I4 57 5) + 1 ∧ (I4 57 5) + 1 ≤ 2147483647) ∧ (∀ I5 : HI, I5 = up I4 57 5 ((I4 57 5) + 1) → Q none (mk I5))))))))) : J none mX3_add (d + 1) 0 0 0 [(0, vR 57), (1, vI a1), (2, vI a2), (3, vI a3), (4, vI a4)] [] (mk I) Q := by
  refine J_aload_n dX3_add_0 rfl rfl ?_
  refine J_getI dX3_add_1 ck_3 fw_X3_42 rfl sh_57 ?_
  refine J_sipush dX3_add_4 (ii_c rfl) (by decide) ?_
  refine J_ic_ge (tgt := 61) dX3_add_7 (by decide) (fun c => ?_) (fun c => ?_)
  · replace h := h.1 c
    exact J_retv dX3_add_61 rfl h
  · replace h := h.2 c
    refine J_aload_n dX3_add_10 rfl rfl ?_
    refine J_getR dX3_add_11 ck_3 fw_X3_11 rfl sh_57 rr_57_1 ?_
    refine J_aload_n dX3_add_14 rfl rfl ?_
    refine J_getI dX3_add_15 ck_3 fw_X3_42 rfl sh_57 ?_
    refine J_iload_n dX3_add_18 rfl rfl ?_
    refine J_iast dX3_add_19 sh_58 h.1.1 h.1.2 ?_
    replace h := h.2 _ rfl
    refine J_aload_n dX3_add_20 rfl rfl ?_
    refine J_getR dX3_add_21 ck_3 fw_X3_15 rfl sh_57 rr_57_2 ?_
    refine J_aload_n dX3_add_24 rfl rfl ?_
    refine J_getI dX3_add_25 ck_3 fw_X3_42 rfl sh_57 ?_
    refine J_iload_n dX3_add_28 rfl rfl ?_
    refine J_iast dX3_add_29 sh_59 h.1.1 h.1.2 ?_
    replace h := h.2 _ rfl
    refine J_aload_n dX3_add_30 rfl rfl ?_
    refine J_getR dX3_add_31 ck_3 fw_X3_18 rfl sh_57 rr_57_3 ?_
    refine J_aload_n dX3_add_34 rfl rfl ?_
    refine J_getI dX3_add_35 ck_3 fw_X3_42 rfl sh_57 ?_
    refine J_iload_n dX3_add_38 rfl rfl ?_
    refine J_iast dX3_add_39 sh_60 h.1.1 h.1.2 ?_
    replace h := h.2 _ rfl
    refine J_aload_n dX3_add_40 rfl rfl ?_
    refine J_getR dX3_add_41 ck_3 fw_X3_21 rfl sh_57 rr_57_4 ?_
    refine J_aload_n dX3_add_44 rfl rfl ?_
    refine J_getI dX3_add_45 ck_3 fw_X3_42 rfl sh_57 ?_
    refine J_iload dX3_add_48 rfl ?_
    refine J_iast dX3_add_50 sh_61 h.1.1 h.1.2 ?_
    replace h := h.2 _ rfl
    refine J_aload_n dX3_add_51 rfl rfl ?_
    refine J_dup dX3_add_52 rfl ?_
    refine J_getI dX3_add_53 ck_3 fw_X3_42 rfl sh_57 ?_
    refine J_iconst dX3_add_56 (ii_c rfl) ?_
    refine J_iaddN dX3_add_57 h.1 ?_
    replace h := h.2
    refine J_putI dX3_add_58 ck_3 fw_X3_42 rfl rfl (Or.inl rfl) sh_57 ?_
    replace h := h _ rfl
    exact J_retv dX3_add_61 rfl h
set_option maxRecDepth 20000 in
set_option maxHeartbeats 2000000 in
theorem bk_X1_forget_0 {d : Nat} {I : HI} {Q : Option AV → AH → Prop}   (h : (-2147483648 ≤ (I 62 5) + 1 ∧ (I 62 5) + 1 ≤ 2147483647) ∧ (∀ I1 : HI, I1 = up I 62 5 ((I 62 5) + 1) → Q none (mk I1))) : J none mX1_forget (d + 1) 0 0 0 [(0, vR 62)] [] (mk I) Q := by
  refine J_aload_n dX1_forget_0 rfl rfl ?_
  refine J_dup dX1_forget_1 rfl ?_
  refine J_getI dX1_forget_2 ck_1 fw_X1_27 rfl sh_62 ?_
  refine J_iconst dX1_forget_5 (ii_c rfl) ?_
  refine J_iaddN dX1_forget_6 h.1 ?_
  replace h := h.2
  refine J_putI dX1_forget_7 ck_1 fw_X1_27 rfl rfl (Or.inl rfl) sh_62 ?_
  replace h := h _ rfl
  exact J_retv dX1_forget_10 rfl h
set_option maxRecDepth 20000 in
set_option maxHeartbeats 2000000 in
theorem bk_X1_holding_0 {d : Nat} {I : HI} {Q : Option AV → AH → Prop} {a1 : Int} {a2 : Int} {a3 : Int} {a4 : Int}  (h : CI mX1_wordsOf d [vR 62, vI a1, vI a2, vI a3, vI (oD a4 64)] I (fun x1 I1 => J none mX1_holding (d + 1) 0 0 20 [(0, vR 62), (1, vI a1), (2, vI a2), (3, vI a3), (4, vI a4), (5, vI x1), (6, vI 0), (7, vI 0)] [] (mk I1) Q)) : J none mX1_holding (d + 1) 0 0 0 [(0, vR 62), (1, vI a1), (2, vI a2), (3, vI a3), (4, vI a4)] [] (mk I) Q := by
  refine J_aload_n dX1_holding_0 rfl rfl ?_
  refine J_iload_n dX1_holding_1 rfl rfl ?_
  refine J_iload_n dX1_holding_2 rfl rfl ?_
  refine J_iload_n dX1_holding_3 rfl rfl ?_
  refine J_iload dX1_holding_4 rfl ?_
  refine J_bipush dX1_holding_6 (ii_c rfl) (by decide) ?_
  refine J_idiv dX1_holding_8 (by decide) ?_
  refine J_callV (as := [_, _, _, _]) (mc1 := 0) (ms1 := 0) (mc := 0) (ms := 0) dX1_holding_9 mv_X1_wordsOf lk_X1_35 sh_62 rfl (Nat.le_of_ble_eq_true rfl) (Nat.le_of_ble_eq_true rfl) h (fun r σ hq _ => ?_)
  obtain ⟨x1, I1, rfl, rfl, h⟩ := hq
  change J _ _ _ _ _ _ _ [vI x1] _ _
  refine J_istore dX1_holding_12 (by decide) ?_
  change J _ _ _ _ _ _ [(0, _), (1, _), (2, _), (3, _), (4, _), (5, _)] _ _ _
  refine J_iconst dX1_holding_14 (ii_c rfl) ?_
  refine J_istore dX1_holding_15 (by decide) ?_
  change J _ _ _ _ _ _ [(0, _), (1, _), (2, _), (3, _), (4, _), (5, _), (6, _)] _ _ _
  refine J_iconst dX1_holding_17 (ii_c rfl) ?_
  refine J_istore dX1_holding_18 (by decide) ?_
  change J _ _ _ _ _ _ [(0, _), (1, _), (2, _), (3, _), (4, _), (5, _), (6, _), (7, _)] _ _ _
  exact h
set_option maxRecDepth 20000 in
set_option maxHeartbeats 2000000 in
theorem bk_X1_holding_20 {d : Nat} {I : HI} {Q : Option AV → AH → Prop} {a1 : Int} {a2 : Int} {a3 : Int} {a4 : Int} {a5 : Int} {a6 : Int} {a7 : Int}  (h : (((I 2 4) ≤ a7 → Q (some (vI a6)) (mk I)) ∧ (¬ ((I 2 4) ≤ a7) → (-2147483648 ≤ a5 + a7 ∧ a5 + a7 ≤ 2147483647) ∧ ((0 : Int) ≤ (a5 + a7) ∧ (a5 + a7 : Int) < 12672) ∧ (-2147483648 ≤ a7 + 1 ∧ a7 + 1 ≤ 2147483647) ∧ J none mX1_holding (d + 1) 0 0 20 [(0, vR 62), (1, vI a1), (2, vI a2), (3, vI a3), (4, vI a4), (5, vI a5), (6, vI (oO a6 (oSl (l2 (lA (lUr (I 63 (a5 + a7).toNat) (oM a4 64)) 1)) a7))), (7, vI (a7 + 1))] [] (mk I) Q))) : J none mX1_holding (d + 1) 0 0 20 [(0, vR 62), (1, vI a1), (2, vI a2), (3, vI a3), (4, vI a4), (5, vI a5), (6, vI a6), (7, vI a7)] [] (mk I) Q := by
  refine J_iload dX1_holding_20 rfl ?_
  refine J_aload_n dX1_holding_22 rfl rfl ?_
  refine J_getR dX1_holding_23 ck_1 fw_X1_31 rfl sh_62 rr_62_0 ?_
  refine J_getR dX1_holding_26 ck_0 fw_X1_39 rfl sh_1 rr_1_0 ?_
  refine J_iconst dX1_holding_29 (ii_c rfl) ?_
  refine J_iald dX1_holding_30 sh_2 (by decide) (by decide) ?_
  refine J_ic_ge (tgt := 67) dX1_holding_31 (by decide) (fun c => ?_) (fun c => ?_)
  · replace h := h.1 c
    refine J_iload dX1_holding_67 rfl ?_
    exact J_reti dX1_holding_69 rfl h
  · replace h := h.2 c
    refine J_iload dX1_holding_34 rfl ?_
    refine J_aload_n dX1_holding_36 rfl rfl ?_
    refine J_getR dX1_holding_37 ck_1 fw_X1_13 rfl sh_62 rr_62_1 ?_
    refine J_iload dX1_holding_40 rfl ?_
    refine J_iload dX1_holding_42 rfl ?_
    refine J_iaddN dX1_holding_44 h.1 ?_
    replace h := h.2
    refine J_lald dX1_holding_45 sh_63 h.1.1 h.1.2 ?_
    replace h := h.2
    refine J_iload dX1_holding_46 rfl ?_
    refine J_bipush dX1_holding_48 (ii_c rfl) (by decide) ?_
    refine J_irem dX1_holding_50 (by decide) ?_
    refine J_lushr dX1_holding_51 ?_
    refine J_lconst 1 dX1_holding_52 (ll_c rfl) (by decide) ?_
    refine J_land dX1_holding_53 ?_
    refine J_l2i dX1_holding_54 ?_
    refine J_iload dX1_holding_55 rfl ?_
    refine J_ishl dX1_holding_57 ?_
    refine J_ior dX1_holding_58 ?_
    refine J_istore dX1_holding_59 (by decide) ?_
    change J _ _ _ _ _ _ [(0, _), (1, _), (2, _), (3, _), (4, _), (5, _), (6, _), (7, _)] _ _ _
    refine J_iincN dX1_holding_61 rfl (by decide) h.1 ?_
    replace h := h.2
    change J _ _ _ _ _ _ [(0, _), (1, _), (2, _), (3, _), (4, _), (5, _), (6, _), (7, _)] _ _ _
    refine J_goto (tgt := 20) dX1_holding_64 (by decide) ?_
    exact h
set_option maxRecDepth 20000 in
set_option maxHeartbeats 2000000 in
theorem bk_X1_firstUnexcused_0 {d : Nat} {I : HI} {Q : Option AV → AH → Prop} {a2 : Int} {a3 : Int}  (h : ((0 : Int) ≤ a2 ∧ (a2 : Int) < 1201) ∧ ((0 : Int) ≤ a2 ∧ (a2 : Int) < 1201) ∧ J none mX1_firstUnexcused (d + 1) 0 0 23 [(0, vR 62), (1, vR 57), (2, vI a2), (3, vI a3), (4, vI (I 58 a2.toNat)), (5, vI (I 59 a2.toNat)), (6, vI (oD (I 58 a2.toNat) 64))] [] (mk I) Q) : J none mX1_firstUnexcused (d + 1) 0 0 0 [(0, vR 62), (1, vR 57), (2, vI a2), (3, vI a3)] [] (mk I) Q := by
  refine J_aload_n dX1_firstUnexcused_0 rfl rfl ?_
  refine J_getR dX1_firstUnexcused_1 ck_3 fw_X1_44 rfl sh_57 rr_57_1 ?_
  refine J_iload_n dX1_firstUnexcused_4 rfl rfl ?_
  refine J_iald dX1_firstUnexcused_5 sh_58 h.1.1 h.1.2 ?_
  replace h := h.2
  refine J_istore dX1_firstUnexcused_6 (by decide) ?_
  change J _ _ _ _ _ _ [(0, _), (1, _), (2, _), (3, _), (4, _)] _ _ _
  refine J_aload_n dX1_firstUnexcused_8 rfl rfl ?_
  refine J_getR dX1_firstUnexcused_9 ck_3 fw_X1_47 rfl sh_57 rr_57_2 ?_
  refine J_iload_n dX1_firstUnexcused_12 rfl rfl ?_
  refine J_iald dX1_firstUnexcused_13 sh_59 h.1.1 h.1.2 ?_
  replace h := h.2
  refine J_istore dX1_firstUnexcused_14 (by decide) ?_
  change J _ _ _ _ _ _ [(0, _), (1, _), (2, _), (3, _), (4, _), (5, _)] _ _ _
  refine J_iload dX1_firstUnexcused_16 rfl ?_
  refine J_bipush dX1_firstUnexcused_18 (ii_c rfl) (by decide) ?_
  refine J_idiv dX1_firstUnexcused_20 (by decide) ?_
  refine J_istore dX1_firstUnexcused_21 (by decide) ?_
  change J _ _ _ _ _ _ [(0, _), (1, _), (2, _), (3, _), (4, _), (5, _), (6, _)] _ _ _
  exact h
set_option maxRecDepth 20000 in
set_option maxHeartbeats 2000000 in
theorem bk_X1_firstUnexcused_23 {d : Nat} {I : HI} {Q : Option AV → AH → Prop} {a2 : Int} {a3 : Int} {a4 : Int} {a5 : Int} {a6 : Int}  (h : (((oD a5 64) < a6 → (-2147483648 ≤ a5 + 1 ∧ a5 + 1 ≤ 2147483647) ∧ Q (some (vI (a5 + 1))) (mk I)) ∧ (¬ ((oD a5 64) < a6) → ((16 ≤ a6 → (-2147483648 ≤ a5 + 1 ∧ a5 + 1 ≤ 2147483647) ∧ Q (some (vI (a5 + 1))) (mk I)) ∧ (¬ (16 ≤ a6) → ((a6 ≠ (oD a4 64) → ((a3 ≠ 0 → ((0 : Int) ≤ a2 ∧ (a2 : Int) < 1201) ∧ CI mX1_wordsOf d [vR 62, vI (I 57 7), vI (I 57 8), vI (I 60 a2.toNat), vI a6] I (fun x1 I1 => J none mX1_firstUnexcused (d + 1) 0 0 100 [(0, vR 62), (1, vR 57), (2, vI a2), (3, vI a3), (4, vI a4), (5, vI a5), (6, vI a6), (7, vL (-1)), (9, vI x1), (10, vI 0)] [] (mk I1) Q)) ∧ (a3 = 0 → J none mX1_firstUnexcused (d + 1) 0 0 100 [(0, vR 62), (1, vR 57), (2, vI a2), (3, vI a3), (4, vI a4), (5, vI a5), (6, vI a6), (7, vL (-1)), (9, vI 0), (10, vI 0)] [] (mk I) Q))) ∧ (a6 = (oD a4 64) → ((a3 ≠ 0 → ((0 : Int) ≤ a2 ∧ (a2 : Int) < 1201) ∧ CI mX1_wordsOf d [vR 62, vI (I 57 7), vI (I 57 8), vI (I 60 a2.toNat), vI a6] I (fun x2 I2 => J none mX1_firstUnexcused (d + 1) 0 0 100 [(0, vR 62), (1, vR 57), (2, vI a2), (3, vI a3), (4, vI a4), (5, vI a5), (6, vI a6), (7, vL (lSl (-1) (oM a4 64))), (9, vI x2), (10, vI 0)] [] (mk I2) Q)) ∧ (a3 = 0 → J none mX1_firstUnexcused (d + 1) 0 0 100 [(0, vR 62), (1, vR 57), (2, vI a2), (3, vI a3), (4, vI a4), (5, vI a5), (6, vI a6), (7, vL (lSl (-1) (oM a4 64))), (9, vI 0), (10, vI 0)] [] (mk I) Q))))))))) : J none mX1_firstUnexcused (d + 1) 0 0 23 [(0, vR 62), (1, vR 57), (2, vI a2), (3, vI a3), (4, vI a4), (5, vI a5), (6, vI a6)] [] (mk I) Q := by
  refine J_iload dX1_firstUnexcused_23 rfl ?_
  refine J_iload dX1_firstUnexcused_25 rfl ?_
  refine J_bipush dX1_firstUnexcused_27 (ii_c rfl) (by decide) ?_
  refine J_idiv dX1_firstUnexcused_29 (by decide) ?_
  refine J_ic_gt (tgt := 173) dX1_firstUnexcused_30 (by decide) (fun c => ?_) (fun c => ?_)
  · replace h := h.1 c
    refine J_iload dX1_firstUnexcused_173 rfl ?_
    refine J_iconst dX1_firstUnexcused_175 (ii_c rfl) ?_
    refine J_iaddN dX1_firstUnexcused_176 h.1 ?_
    replace h := h.2
    exact J_reti dX1_firstUnexcused_177 rfl h
  · replace h := h.2 c
    refine J_iload dX1_firstUnexcused_33 rfl ?_
    refine J_bipush dX1_firstUnexcused_35 (ii_c rfl) (by decide) ?_
    refine J_ic_ge (tgt := 173) dX1_firstUnexcused_37 (by decide) (fun c => ?_) (fun c => ?_)
    · replace h := h.1 c
      refine J_iload dX1_firstUnexcused_173 rfl ?_
      refine J_iconst dX1_firstUnexcused_175 (ii_c rfl) ?_
      refine J_iaddN dX1_firstUnexcused_176 h.1 ?_
      replace h := h.2
      exact J_reti dX1_firstUnexcused_177 rfl h
    · replace h := h.2 c
      refine J_iload dX1_firstUnexcused_40 rfl ?_
      refine J_iload dX1_firstUnexcused_42 rfl ?_
      refine J_bipush dX1_firstUnexcused_44 (ii_c rfl) (by decide) ?_
      refine J_idiv dX1_firstUnexcused_46 (by decide) ?_
      refine J_ic_ne (tgt := 62) dX1_firstUnexcused_47 (by decide) (fun c => ?_) (fun c => ?_)
      · replace h := h.1 c
        refine J_ldc2 (-1) dX1_firstUnexcused_62 kw_X1_50 (ll_c rfl) ?_
        refine J_lstore dX1_firstUnexcused_65 (by decide) ?_
        change J _ _ _ _ _ _ [(0, _), (1, _), (2, _), (3, _), (4, _), (5, _), (6, _), (7, _)] _ _ _
        refine J_iload_n dX1_firstUnexcused_67 rfl rfl ?_
        refine J_if_ne (tgt := 75) dX1_firstUnexcused_68 (by decide) (fun c => ?_) (fun c => ?_)
        · replace h := h.1 c
          refine J_aload_n dX1_firstUnexcused_75 rfl rfl ?_
          refine J_aload_n dX1_firstUnexcused_76 rfl rfl ?_
          refine J_getI dX1_firstUnexcused_77 ck_3 fw_X1_52 rfl sh_57 ?_
          refine J_aload_n dX1_firstUnexcused_80 rfl rfl ?_
          refine J_getI dX1_firstUnexcused_81 ck_3 fw_X1_55 rfl sh_57 ?_
          refine J_aload_n dX1_firstUnexcused_84 rfl rfl ?_
          refine J_getR dX1_firstUnexcused_85 ck_3 fw_X1_58 rfl sh_57 rr_57_3 ?_
          refine J_iload_n dX1_firstUnexcused_88 rfl rfl ?_
          refine J_iald dX1_firstUnexcused_89 sh_60 h.1.1 h.1.2 ?_
          replace h := h.2
          refine J_iload dX1_firstUnexcused_90 rfl ?_
          refine J_callV (as := [_, _, _, _]) (mc1 := 0) (ms1 := 0) (mc := 0) (ms := 0) dX1_firstUnexcused_92 mv_X1_wordsOf lk_X1_35 sh_62 rfl (Nat.le_of_ble_eq_true rfl) (Nat.le_of_ble_eq_true rfl) h (fun r σ hq _ => ?_)
          obtain ⟨x1, I1, rfl, rfl, h⟩ := hq
          change J _ _ _ _ _ _ _ [vI x1] _ _
          refine J_istore dX1_firstUnexcused_95 (by decide) ?_
          change J _ _ _ _ _ _ [(0, _), (1, _), (2, _), (3, _), (4, _), (5, _), (6, _), (7, _), (9, _)] _ _ _
          refine J_iconst dX1_firstUnexcused_97 (ii_c rfl) ?_
          refine J_istore dX1_firstUnexcused_98 (by decide) ?_
          change J _ _ _ _ _ _ [(0, _), (1, _), (2, _), (3, _), (4, _), (5, _), (6, _), (7, _), (9, _), (10, _)] _ _ _
          exact h
        · replace h := h.2 c
          refine J_iconst dX1_firstUnexcused_71 (ii_c rfl) ?_
          refine J_goto (tgt := 95) dX1_firstUnexcused_72 (by decide) ?_
          refine J_istore dX1_firstUnexcused_95 (by decide) ?_
          change J _ _ _ _ _ _ [(0, _), (1, _), (2, _), (3, _), (4, _), (5, _), (6, _), (7, _), (9, _)] _ _ _
          refine J_iconst dX1_firstUnexcused_97 (ii_c rfl) ?_
          refine J_istore dX1_firstUnexcused_98 (by decide) ?_
          change J _ _ _ _ _ _ [(0, _), (1, _), (2, _), (3, _), (4, _), (5, _), (6, _), (7, _), (9, _), (10, _)] _ _ _
          exact h
      · replace h := h.2 c
        refine J_ldc2 (-1) dX1_firstUnexcused_50 kw_X1_50 (ll_c rfl) ?_
        refine J_iload dX1_firstUnexcused_53 rfl ?_
        refine J_bipush dX1_firstUnexcused_55 (ii_c rfl) (by decide) ?_
        refine J_irem dX1_firstUnexcused_57 (by decide) ?_
        refine J_lshl dX1_firstUnexcused_58 ?_
        refine J_goto (tgt := 65) dX1_firstUnexcused_59 (by decide) ?_
        refine J_lstore dX1_firstUnexcused_65 (by decide) ?_
        change J _ _ _ _ _ _ [(0, _), (1, _), (2, _), (3, _), (4, _), (5, _), (6, _), (7, _)] _ _ _
        refine J_iload_n dX1_firstUnexcused_67 rfl rfl ?_
        refine J_if_ne (tgt := 75) dX1_firstUnexcused_68 (by decide) (fun c => ?_) (fun c => ?_)
        · replace h := h.1 c
          refine J_aload_n dX1_firstUnexcused_75 rfl rfl ?_
          refine J_aload_n dX1_firstUnexcused_76 rfl rfl ?_
          refine J_getI dX1_firstUnexcused_77 ck_3 fw_X1_52 rfl sh_57 ?_
          refine J_aload_n dX1_firstUnexcused_80 rfl rfl ?_
          refine J_getI dX1_firstUnexcused_81 ck_3 fw_X1_55 rfl sh_57 ?_
          refine J_aload_n dX1_firstUnexcused_84 rfl rfl ?_
          refine J_getR dX1_firstUnexcused_85 ck_3 fw_X1_58 rfl sh_57 rr_57_3 ?_
          refine J_iload_n dX1_firstUnexcused_88 rfl rfl ?_
          refine J_iald dX1_firstUnexcused_89 sh_60 h.1.1 h.1.2 ?_
          replace h := h.2
          refine J_iload dX1_firstUnexcused_90 rfl ?_
          refine J_callV (as := [_, _, _, _]) (mc1 := 0) (ms1 := 0) (mc := 0) (ms := 0) dX1_firstUnexcused_92 mv_X1_wordsOf lk_X1_35 sh_62 rfl (Nat.le_of_ble_eq_true rfl) (Nat.le_of_ble_eq_true rfl) h (fun r σ hq _ => ?_)
          obtain ⟨x2, I2, rfl, rfl, h⟩ := hq
          change J _ _ _ _ _ _ _ [vI x2] _ _
          refine J_istore dX1_firstUnexcused_95 (by decide) ?_
          change J _ _ _ _ _ _ [(0, _), (1, _), (2, _), (3, _), (4, _), (5, _), (6, _), (7, _), (9, _)] _ _ _
          refine J_iconst dX1_firstUnexcused_97 (ii_c rfl) ?_
          refine J_istore dX1_firstUnexcused_98 (by decide) ?_
          change J _ _ _ _ _ _ [(0, _), (1, _), (2, _), (3, _), (4, _), (5, _), (6, _), (7, _), (9, _), (10, _)] _ _ _
          exact h
        · replace h := h.2 c
          refine J_iconst dX1_firstUnexcused_71 (ii_c rfl) ?_
          refine J_goto (tgt := 95) dX1_firstUnexcused_72 (by decide) ?_
          refine J_istore dX1_firstUnexcused_95 (by decide) ?_
          change J _ _ _ _ _ _ [(0, _), (1, _), (2, _), (3, _), (4, _), (5, _), (6, _), (7, _), (9, _)] _ _ _
          refine J_iconst dX1_firstUnexcused_97 (ii_c rfl) ?_
          refine J_istore dX1_firstUnexcused_98 (by decide) ?_
          change J _ _ _ _ _ _ [(0, _), (1, _), (2, _), (3, _), (4, _), (5, _), (6, _), (7, _), (9, _), (10, _)] _ _ _
          exact h
set_option maxRecDepth 20000 in
set_option maxHeartbeats 2000000 in
theorem bk_X1_firstUnexcused_100 {d : Nat} {I : HI} {Q : Option AV → AH → Prop} {a2 : Int} {a3 : Int} {a4 : Int} {a5 : Int} {a6 : Int} {a7 : Int} {a9 : Int} {a10 : Int}  (h : ((6 ≤ a10 → ((a7 = 0 → (-2147483648 ≤ a6 + 1 ∧ a6 + 1 ≤ 2147483647) ∧ J none mX1_firstUnexcused (d + 1) 0 0 23 [(0, vR 62), (1, vR 57), (2, vI a2), (3, vI a3), (4, vI a4), (5, vI a5), (6, vI (a6 + 1))] [] (mk I) Q) ∧ (¬ (a7 = 0) → (-2147483648 ≤ a6 * 64 ∧ a6 * 64 ≤ 2147483647) ∧ CI mJ13_numberOfTrailingZeros_95d88 d [vL a7] I (fun x1 I1 => (-2147483648 ≤ (a6 * 64) + x1 ∧ (a6 * 64) + x1 ≤ 2147483647) ∧ (-2147483648 ≤ a5 + 1 ∧ a5 + 1 ≤ 2147483647) ∧ Q (some (vI (min ((a6 * 64) + x1) (a5 + 1)))) (mk I1))))) ∧ (¬ (6 ≤ a10) → (((oA (oSr a3 a10) 1) = 0 → (-2147483648 ≤ a10 + 1 ∧ a10 + 1 ≤ 2147483647) ∧ J none mX1_firstUnexcused (d + 1) 0 0 100 [(0, vR 62), (1, vR 57), (2, vI a2), (3, vI a3), (4, vI a4), (5, vI a5), (6, vI a6), (7, vL a7), (9, vI a9), (10, vI (a10 + 1))] [] (mk I) Q) ∧ (¬ ((oA (oSr a3 a10) 1) = 0) → (-2147483648 ≤ a9 + a10 ∧ a9 + a10 ≤ 2147483647) ∧ ((0 : Int) ≤ (a9 + a10) ∧ (a9 + a10 : Int) < 12672) ∧ (-2147483648 ≤ a10 + 1 ∧ a10 + 1 ≤ 2147483647) ∧ J none mX1_firstUnexcused (d + 1) 0 0 100 [(0, vR 62), (1, vR 57), (2, vI a2), (3, vI a3), (4, vI a4), (5, vI a5), (6, vI a6), (7, vL (lA a7 (lX (I 63 (a9 + a10).toNat) (-1)))), (9, vI a9), (10, vI (a10 + 1))] [] (mk I) Q))))) : J none mX1_firstUnexcused (d + 1) 0 0 100 [(0, vR 62), (1, vR 57), (2, vI a2), (3, vI a3), (4, vI a4), (5, vI a5), (6, vI a6), (7, vL a7), (9, vI a9), (10, vI a10)] [] (mk I) Q := by
  refine J_iload dX1_firstUnexcused_100 rfl ?_
  refine J_bipush dX1_firstUnexcused_102 (ii_c rfl) (by decide) ?_
  refine J_ic_ge (tgt := 141) dX1_firstUnexcused_104 (by decide) (fun c => ?_) (fun c => ?_)
  · replace h := h.1 c
    refine J_lload dX1_firstUnexcused_141 rfl ?_
    refine J_lconst 0 dX1_firstUnexcused_143 (ll_c rfl) (by decide) ?_
    refine J_lcmp dX1_firstUnexcused_144 ?_
    refine J_if_eq (tgt := 167) dX1_firstUnexcused_145 (by decide) (fun c => ?_) (fun c => ?_)
    · replace h := h.1 (lC_eq.mp c)
      refine J_iincN dX1_firstUnexcused_167 rfl (by decide) h.1 ?_
      replace h := h.2
      change J _ _ _ _ _ _ [(0, _), (1, _), (2, _), (3, _), (4, _), (5, _), (6, _), (7, _), (9, _), (10, _)] _ _ _
      refine J_goto (tgt := 23) dX1_firstUnexcused_170 (by decide) ?_
      exact J_loc (ls_sub [0, 1, 2, 3, 4, 5, 6] rfl) h
    · replace h := h.2 (fun w => c (lC_eq.mpr w))
      refine J_iload dX1_firstUnexcused_148 rfl ?_
      refine J_bipush dX1_firstUnexcused_150 (ii_c rfl) (by decide) ?_
      refine J_imulN dX1_firstUnexcused_152 h.1 ?_
      replace h := h.2
      refine J_lload dX1_firstUnexcused_153 rfl ?_
      refine J_callS (as := [_]) (mc1 := 0) (ms1 := 0) (mc := 0) (ms := 0) dX1_firstUnexcused_155 ms_J13_numberOfTrailingZeros_95d88 lk_X1_61 rfl (Nat.le_of_ble_eq_true rfl) (Nat.le_of_ble_eq_true rfl) h (fun r σ hq _ => ?_)
      obtain ⟨x1, I1, rfl, rfl, h⟩ := hq
      change J _ _ _ _ _ _ _ [vI x1, _] _ _
      refine J_iaddN dX1_firstUnexcused_158 h.1 ?_
      replace h := h.2
      refine J_iload dX1_firstUnexcused_159 rfl ?_
      refine J_iconst dX1_firstUnexcused_161 (ii_c rfl) ?_
      refine J_iaddN dX1_firstUnexcused_162 h.1 ?_
      replace h := h.2
      refine J_min dX1_firstUnexcused_163 lk_X1_67 (Nat.le_of_ble_eq_true rfl) ?_
      exact J_reti dX1_firstUnexcused_166 rfl h
  · replace h := h.2 c
    refine J_iload_n dX1_firstUnexcused_107 rfl rfl ?_
    refine J_iload dX1_firstUnexcused_108 rfl ?_
    refine J_ishr dX1_firstUnexcused_110 ?_
    refine J_iconst dX1_firstUnexcused_111 (ii_c rfl) ?_
    refine J_iand dX1_firstUnexcused_112 ?_
    refine J_if_eq (tgt := 135) dX1_firstUnexcused_113 (by decide) (fun c => ?_) (fun c => ?_)
    · replace h := h.1 c
      refine J_iincN dX1_firstUnexcused_135 rfl (by decide) h.1 ?_
      replace h := h.2
      change J _ _ _ _ _ _ [(0, _), (1, _), (2, _), (3, _), (4, _), (5, _), (6, _), (7, _), (9, _), (10, _)] _ _ _
      refine J_goto (tgt := 100) dX1_firstUnexcused_138 (by decide) ?_
      exact h
    · replace h := h.2 c
      refine J_lload dX1_firstUnexcused_116 rfl ?_
      refine J_aload_n dX1_firstUnexcused_118 rfl rfl ?_
      refine J_getR dX1_firstUnexcused_119 ck_1 fw_X1_13 rfl sh_62 rr_62_1 ?_
      refine J_iload dX1_firstUnexcused_122 rfl ?_
      refine J_iload dX1_firstUnexcused_124 rfl ?_
      refine J_iaddN dX1_firstUnexcused_126 h.1 ?_
      replace h := h.2
      refine J_lald dX1_firstUnexcused_127 sh_63 h.1.1 h.1.2 ?_
      replace h := h.2
      refine J_ldc2 (-1) dX1_firstUnexcused_128 kw_X1_50 (ll_c rfl) ?_
      refine J_lxor dX1_firstUnexcused_131 ?_
      refine J_land dX1_firstUnexcused_132 ?_
      refine J_lstore dX1_firstUnexcused_133 (by decide) ?_
      change J _ _ _ _ _ _ [(0, _), (1, _), (2, _), (3, _), (4, _), (5, _), (6, _), (7, _), (9, _), (10, _)] _ _ _
      refine J_iincN dX1_firstUnexcused_135 rfl (by decide) h.1 ?_
      replace h := h.2
      change J _ _ _ _ _ _ [(0, _), (1, _), (2, _), (3, _), (4, _), (5, _), (6, _), (7, _), (9, _), (10, _)] _ _ _
      refine J_goto (tgt := 100) dX1_firstUnexcused_138 (by decide) ?_
      exact h
