set_option maxRecDepth 20000 in
set_option maxHeartbeats 2000000 in
theorem bk_X0_emptyc_0 {d : Nat} {I : HI} {Q : Option AV → AH → Prop}   (h : CV mJ7_fill_53178 d [vR 2, vI 0] I (fun I1 => CV mJ7_fill_53178 d [vR 12, vI (-1)] I1 (fun I2 => (∀ I3 : HI, I3 = up I2 10 0 0 → (∀ I4 : HI, I4 = up I3 1 12 0 → (∀ I5 : HI, I5 = up I4 1 13 (-1) → Q none (mk I5))))))) : J none mX0_empty (d + 1) 0 0 0 [(0, vR 1)] [] (mk I) Q := by
  refine J_aload_n dX0_empty_0 rfl rfl ?_
  refine J_getR dX0_empty_1 ck_0 fw_X0_9 rfl sh_1 rr_1_0 ?_
  refine J_iconst dX0_empty_4 (ii_c rfl) ?_
  refine J_callS (as := [_, _]) (mc1 := 0) (ms1 := 0) (mc := 0) (ms := 0) dX0_empty_5 ms_J7_fill_53178 lk_X0_52 rfl (Nat.le_of_ble_eq_true rfl) (Nat.le_of_ble_eq_true rfl) h (fun r σ hq _ => ?_)
  obtain ⟨I1, rfl, rfl, h⟩ := hq
  change J _ _ _ _ _ _ _ [] _ _
  refine J_aload_n dX0_empty_8 rfl rfl ?_
  refine J_getR dX0_empty_9 ck_0 fw_X0_42 rfl sh_1 rr_1_10 ?_
  refine J_iconst dX0_empty_12 (ii_c rfl) ?_
  refine J_callS (as := [_, _]) (mc1 := 0) (ms1 := 0) (mc := 0) (ms := 0) dX0_empty_13 ms_J7_fill_53178 lk_X0_52 rfl (Nat.le_of_ble_eq_true rfl) (Nat.le_of_ble_eq_true rfl) h (fun r σ hq _ => ?_)
  obtain ⟨I2, rfl, rfl, h⟩ := hq
  change J _ _ _ _ _ _ _ [] _ _
  refine J_aload_n dX0_empty_16 rfl rfl ?_
  refine J_getR dX0_empty_17 ck_0 fw_X0_36 rfl sh_1 rr_1_8 ?_
  refine J_iconst dX0_empty_20 (ii_c rfl) ?_
  refine J_iconst dX0_empty_21 (ii_c rfl) ?_
  refine J_iast dX0_empty_22 sh_10 (by decide) (by decide) ?_
  replace h := h _ rfl
  refine J_aload_n dX0_empty_23 rfl rfl ?_
  refine J_iconst dX0_empty_24 (ii_c rfl) ?_
  refine J_putI dX0_empty_25 ck_0 fw_X0_58 rfl rfl (Or.inl rfl) sh_1 ?_
  replace h := h _ rfl
  refine J_aload_n dX0_empty_28 rfl rfl ?_
  refine J_iconst dX0_empty_29 (ii_c rfl) ?_
  refine J_putI dX0_empty_30 ck_0 fw_X0_48 rfl rfl (Or.inl rfl) sh_1 ?_
  replace h := h _ rfl
  exact J_retv dX0_empty_33 rfl h
set_option maxRecDepth 20000 in
set_option maxHeartbeats 2000000 in
theorem bk_X0_emptyd_0 {d : Nat} {I : HI} {Q : Option AV → AH → Prop}   (h : CV mJ7_fill_53178 d [vR 15, vI 0] I (fun I1 => CV mJ7_fill_53178 d [vR 25, vI (-1)] I1 (fun I2 => (∀ I3 : HI, I3 = up I2 23 0 0 → (∀ I4 : HI, I4 = up I3 14 12 0 → (∀ I5 : HI, I5 = up I4 14 13 (-1) → Q none (mk I5))))))) : J none mX0_empty (d + 1) 0 0 0 [(0, vR 14)] [] (mk I) Q := by
  refine J_aload_n dX0_empty_0 rfl rfl ?_
  refine J_getR dX0_empty_1 ck_0 fw_X0_9 rfl sh_14 rr_14_0 ?_
  refine J_iconst dX0_empty_4 (ii_c rfl) ?_
  refine J_callS (as := [_, _]) (mc1 := 0) (ms1 := 0) (mc := 0) (ms := 0) dX0_empty_5 ms_J7_fill_53178 lk_X0_52 rfl (Nat.le_of_ble_eq_true rfl) (Nat.le_of_ble_eq_true rfl) h (fun r σ hq _ => ?_)
  obtain ⟨I1, rfl, rfl, h⟩ := hq
  change J _ _ _ _ _ _ _ [] _ _
  refine J_aload_n dX0_empty_8 rfl rfl ?_
  refine J_getR dX0_empty_9 ck_0 fw_X0_42 rfl sh_14 rr_14_10 ?_
  refine J_iconst dX0_empty_12 (ii_c rfl) ?_
  refine J_callS (as := [_, _]) (mc1 := 0) (ms1 := 0) (mc := 0) (ms := 0) dX0_empty_13 ms_J7_fill_53178 lk_X0_52 rfl (Nat.le_of_ble_eq_true rfl) (Nat.le_of_ble_eq_true rfl) h (fun r σ hq _ => ?_)
  obtain ⟨I2, rfl, rfl, h⟩ := hq
  change J _ _ _ _ _ _ _ [] _ _
  refine J_aload_n dX0_empty_16 rfl rfl ?_
  refine J_getR dX0_empty_17 ck_0 fw_X0_36 rfl sh_14 rr_14_8 ?_
  refine J_iconst dX0_empty_20 (ii_c rfl) ?_
  refine J_iconst dX0_empty_21 (ii_c rfl) ?_
  refine J_iast dX0_empty_22 sh_23 (by decide) (by decide) ?_
  replace h := h _ rfl
  refine J_aload_n dX0_empty_23 rfl rfl ?_
  refine J_iconst dX0_empty_24 (ii_c rfl) ?_
  refine J_putI dX0_empty_25 ck_0 fw_X0_58 rfl rfl (Or.inl rfl) sh_14 ?_
  replace h := h _ rfl
  refine J_aload_n dX0_empty_28 rfl rfl ?_
  refine J_iconst dX0_empty_29 (ii_c rfl) ?_
  refine J_putI dX0_empty_30 ck_0 fw_X0_48 rfl rfl (Or.inl rfl) sh_14 ?_
  replace h := h _ rfl
  exact J_retv dX0_empty_33 rfl h
set_option maxRecDepth 20000 in
set_option maxHeartbeats 2000000 in
theorem bk_X0_copyFrom_0 {d : Nat} {I : HI} {Q : Option AV → AH → Prop}   (h : CV mX0_copyRow d [vR 1, vR 15, vR 2] I (fun I1 => CV mX0_copyRow d [vR 1, vR 16, vR 3] I1 (fun I2 => CV mX0_copyRow d [vR 1, vR 17, vR 4] I2 (fun I3 => CV mX0_copyRow d [vR 1, vR 18, vR 5] I3 (fun I4 => CV mX0_copyRow d [vR 1, vR 19, vR 6] I4 (fun I5 => CV mX0_copyRow d [vR 1, vR 20, vR 7] I5 (fun I6 => CV mX0_copyRow d [vR 1, vR 21, vR 8] I6 (fun I7 => CV mX0_copyRow d [vR 1, vR 22, vR 9] I7 (fun I8 => CV mX0_copyRow d [vR 1, vR 23, vR 10] I8 (fun I9 => CV mX0_copyRow d [vR 1, vR 24, vR 11] I9 (fun I10 => CV mX0_copyRow d [vR 1, vR 25, vR 12] I10 (fun I11 => CV mX0_copyRow d [vR 1, vR 26, vR 13] I11 (fun I12 => (∀ I13 : HI, I13 = up I12 1 12 (I12 14 12) → (∀ I14 : HI, I14 = up I13 1 13 (I13 14 13) → Q none (mk I14)))))))))))))))) : J none mX0_copyFrom (d + 1) 0 0 0 [(0, vR 1), (1, vR 14)] [] (mk I) Q := by
  refine J_aload_n dX0_copyFrom_0 rfl rfl ?_
  refine J_aload_n dX0_copyFrom_1 rfl rfl ?_
  refine J_getR dX0_copyFrom_2 ck_0 fw_X0_9 rfl sh_14 rr_14_0 ?_
  refine J_aload_n dX0_copyFrom_5 rfl rfl ?_
  refine J_getR dX0_copyFrom_6 ck_0 fw_X0_9 rfl sh_1 rr_1_0 ?_
  refine J_callV (as := [_, _]) (mc1 := 0) (ms1 := 0) (mc := 0) (ms := 0) dX0_copyFrom_9 mv_X0_copyRow lk_X0_61 sh_1 rfl (Nat.le_of_ble_eq_true rfl) (Nat.le_of_ble_eq_true rfl) h (fun r σ hq _ => ?_)
  obtain ⟨I1, rfl, rfl, h⟩ := hq
  change J _ _ _ _ _ _ _ [] _ _
  refine J_aload_n dX0_copyFrom_12 rfl rfl ?_
  refine J_aload_n dX0_copyFrom_13 rfl rfl ?_
  refine J_getR dX0_copyFrom_14 ck_0 fw_X0_15 rfl sh_14 rr_14_1 ?_
  refine J_aload_n dX0_copyFrom_17 rfl rfl ?_
  refine J_getR dX0_copyFrom_18 ck_0 fw_X0_15 rfl sh_1 rr_1_1 ?_
  refine J_callV (as := [_, _]) (mc1 := 0) (ms1 := 0) (mc := 0) (ms := 0) dX0_copyFrom_21 mv_X0_copyRow lk_X0_61 sh_1 rfl (Nat.le_of_ble_eq_true rfl) (Nat.le_of_ble_eq_true rfl) h (fun r σ hq _ => ?_)
  obtain ⟨I2, rfl, rfl, h⟩ := hq
  change J _ _ _ _ _ _ _ [] _ _
  refine J_aload_n dX0_copyFrom_24 rfl rfl ?_
  refine J_aload_n dX0_copyFrom_25 rfl rfl ?_
  refine J_getR dX0_copyFrom_26 ck_0 fw_X0_18 rfl sh_14 rr_14_2 ?_
  refine J_aload_n dX0_copyFrom_29 rfl rfl ?_
  refine J_getR dX0_copyFrom_30 ck_0 fw_X0_18 rfl sh_1 rr_1_2 ?_
  refine J_callV (as := [_, _]) (mc1 := 0) (ms1 := 0) (mc := 0) (ms := 0) dX0_copyFrom_33 mv_X0_copyRow lk_X0_61 sh_1 rfl (Nat.le_of_ble_eq_true rfl) (Nat.le_of_ble_eq_true rfl) h (fun r σ hq _ => ?_)
  obtain ⟨I3, rfl, rfl, h⟩ := hq
  change J _ _ _ _ _ _ _ [] _ _
  refine J_aload_n dX0_copyFrom_36 rfl rfl ?_
  refine J_aload_n dX0_copyFrom_37 rfl rfl ?_
  refine J_getR dX0_copyFrom_38 ck_0 fw_X0_21 rfl sh_14 rr_14_3 ?_
  refine J_aload_n dX0_copyFrom_41 rfl rfl ?_
  refine J_getR dX0_copyFrom_42 ck_0 fw_X0_21 rfl sh_1 rr_1_3 ?_
  refine J_callV (as := [_, _]) (mc1 := 0) (ms1 := 0) (mc := 0) (ms := 0) dX0_copyFrom_45 mv_X0_copyRow lk_X0_61 sh_1 rfl (Nat.le_of_ble_eq_true rfl) (Nat.le_of_ble_eq_true rfl) h (fun r σ hq _ => ?_)
  obtain ⟨I4, rfl, rfl, h⟩ := hq
  change J _ _ _ _ _ _ _ [] _ _
  refine J_aload_n dX0_copyFrom_48 rfl rfl ?_
  refine J_aload_n dX0_copyFrom_49 rfl rfl ?_
  refine J_getR dX0_copyFrom_50 ck_0 fw_X0_24 rfl sh_14 rr_14_4 ?_
  refine J_aload_n dX0_copyFrom_53 rfl rfl ?_
  refine J_getR dX0_copyFrom_54 ck_0 fw_X0_24 rfl sh_1 rr_1_4 ?_
  refine J_callV (as := [_, _]) (mc1 := 0) (ms1 := 0) (mc := 0) (ms := 0) dX0_copyFrom_57 mv_X0_copyRow lk_X0_61 sh_1 rfl (Nat.le_of_ble_eq_true rfl) (Nat.le_of_ble_eq_true rfl) h (fun r σ hq _ => ?_)
  obtain ⟨I5, rfl, rfl, h⟩ := hq
  change J _ _ _ _ _ _ _ [] _ _
  refine J_aload_n dX0_copyFrom_60 rfl rfl ?_
  refine J_aload_n dX0_copyFrom_61 rfl rfl ?_
  refine J_getR dX0_copyFrom_62 ck_0 fw_X0_27 rfl sh_14 rr_14_5 ?_
  refine J_aload_n dX0_copyFrom_65 rfl rfl ?_
  refine J_getR dX0_copyFrom_66 ck_0 fw_X0_27 rfl sh_1 rr_1_5 ?_
  refine J_callV (as := [_, _]) (mc1 := 0) (ms1 := 0) (mc := 0) (ms := 0) dX0_copyFrom_69 mv_X0_copyRow lk_X0_61 sh_1 rfl (Nat.le_of_ble_eq_true rfl) (Nat.le_of_ble_eq_true rfl) h (fun r σ hq _ => ?_)
  obtain ⟨I6, rfl, rfl, h⟩ := hq
  change J _ _ _ _ _ _ _ [] _ _
  refine J_aload_n dX0_copyFrom_72 rfl rfl ?_
  refine J_aload_n dX0_copyFrom_73 rfl rfl ?_
  refine J_getR dX0_copyFrom_74 ck_0 fw_X0_30 rfl sh_14 rr_14_6 ?_
  refine J_aload_n dX0_copyFrom_77 rfl rfl ?_
  refine J_getR dX0_copyFrom_78 ck_0 fw_X0_30 rfl sh_1 rr_1_6 ?_
  refine J_callV (as := [_, _]) (mc1 := 0) (ms1 := 0) (mc := 0) (ms := 0) dX0_copyFrom_81 mv_X0_copyRow lk_X0_61 sh_1 rfl (Nat.le_of_ble_eq_true rfl) (Nat.le_of_ble_eq_true rfl) h (fun r σ hq _ => ?_)
  obtain ⟨I7, rfl, rfl, h⟩ := hq
  change J _ _ _ _ _ _ _ [] _ _
  refine J_aload_n dX0_copyFrom_84 rfl rfl ?_
  refine J_aload_n dX0_copyFrom_85 rfl rfl ?_
  refine J_getR dX0_copyFrom_86 ck_0 fw_X0_33 rfl sh_14 rr_14_7 ?_
  refine J_aload_n dX0_copyFrom_89 rfl rfl ?_
  refine J_getR dX0_copyFrom_90 ck_0 fw_X0_33 rfl sh_1 rr_1_7 ?_
  refine J_callV (as := [_, _]) (mc1 := 0) (ms1 := 0) (mc := 0) (ms := 0) dX0_copyFrom_93 mv_X0_copyRow lk_X0_61 sh_1 rfl (Nat.le_of_ble_eq_true rfl) (Nat.le_of_ble_eq_true rfl) h (fun r σ hq _ => ?_)
  obtain ⟨I8, rfl, rfl, h⟩ := hq
  change J _ _ _ _ _ _ _ [] _ _
  refine J_aload_n dX0_copyFrom_96 rfl rfl ?_
  refine J_aload_n dX0_copyFrom_97 rfl rfl ?_
  refine J_getR dX0_copyFrom_98 ck_0 fw_X0_36 rfl sh_14 rr_14_8 ?_
  refine J_aload_n dX0_copyFrom_101 rfl rfl ?_
  refine J_getR dX0_copyFrom_102 ck_0 fw_X0_36 rfl sh_1 rr_1_8 ?_
  refine J_callV (as := [_, _]) (mc1 := 0) (ms1 := 0) (mc := 0) (ms := 0) dX0_copyFrom_105 mv_X0_copyRow lk_X0_61 sh_1 rfl (Nat.le_of_ble_eq_true rfl) (Nat.le_of_ble_eq_true rfl) h (fun r σ hq _ => ?_)
  obtain ⟨I9, rfl, rfl, h⟩ := hq
  change J _ _ _ _ _ _ _ [] _ _
  refine J_aload_n dX0_copyFrom_108 rfl rfl ?_
  refine J_aload_n dX0_copyFrom_109 rfl rfl ?_
  refine J_getR dX0_copyFrom_110 ck_0 fw_X0_39 rfl sh_14 rr_14_9 ?_
  refine J_aload_n dX0_copyFrom_113 rfl rfl ?_
  refine J_getR dX0_copyFrom_114 ck_0 fw_X0_39 rfl sh_1 rr_1_9 ?_
  refine J_callV (as := [_, _]) (mc1 := 0) (ms1 := 0) (mc := 0) (ms := 0) dX0_copyFrom_117 mv_X0_copyRow lk_X0_61 sh_1 rfl (Nat.le_of_ble_eq_true rfl) (Nat.le_of_ble_eq_true rfl) h (fun r σ hq _ => ?_)
  obtain ⟨I10, rfl, rfl, h⟩ := hq
  change J _ _ _ _ _ _ _ [] _ _
  refine J_aload_n dX0_copyFrom_120 rfl rfl ?_
  refine J_aload_n dX0_copyFrom_121 rfl rfl ?_
  refine J_getR dX0_copyFrom_122 ck_0 fw_X0_42 rfl sh_14 rr_14_10 ?_
  refine J_aload_n dX0_copyFrom_125 rfl rfl ?_
  refine J_getR dX0_copyFrom_126 ck_0 fw_X0_42 rfl sh_1 rr_1_10 ?_
  refine J_callV (as := [_, _]) (mc1 := 0) (ms1 := 0) (mc := 0) (ms := 0) dX0_copyFrom_129 mv_X0_copyRow lk_X0_61 sh_1 rfl (Nat.le_of_ble_eq_true rfl) (Nat.le_of_ble_eq_true rfl) h (fun r σ hq _ => ?_)
  obtain ⟨I11, rfl, rfl, h⟩ := hq
  change J _ _ _ _ _ _ _ [] _ _
  refine J_aload_n dX0_copyFrom_132 rfl rfl ?_
  refine J_aload_n dX0_copyFrom_133 rfl rfl ?_
  refine J_getR dX0_copyFrom_134 ck_0 fw_X0_45 rfl sh_14 rr_14_11 ?_
  refine J_aload_n dX0_copyFrom_137 rfl rfl ?_
  refine J_getR dX0_copyFrom_138 ck_0 fw_X0_45 rfl sh_1 rr_1_11 ?_
  refine J_callV (as := [_, _]) (mc1 := 0) (ms1 := 0) (mc := 0) (ms := 0) dX0_copyFrom_141 mv_X0_copyRow lk_X0_61 sh_1 rfl (Nat.le_of_ble_eq_true rfl) (Nat.le_of_ble_eq_true rfl) h (fun r σ hq _ => ?_)
  obtain ⟨I12, rfl, rfl, h⟩ := hq
  change J _ _ _ _ _ _ _ [] _ _
  refine J_aload_n dX0_copyFrom_144 rfl rfl ?_
  refine J_aload_n dX0_copyFrom_145 rfl rfl ?_
  refine J_getI dX0_copyFrom_146 ck_0 fw_X0_58 rfl sh_14 ?_
  refine J_putI dX0_copyFrom_149 ck_0 fw_X0_58 rfl rfl (Or.inl rfl) sh_1 ?_
  replace h := h _ rfl
  refine J_aload_n dX0_copyFrom_152 rfl rfl ?_
  refine J_aload_n dX0_copyFrom_153 rfl rfl ?_
  refine J_getI dX0_copyFrom_154 ck_0 fw_X0_48 rfl sh_14 ?_
  refine J_putI dX0_copyFrom_157 ck_0 fw_X0_48 rfl rfl (Or.inl rfl) sh_1 ?_
  replace h := h _ rfl
  exact J_retv dX0_copyFrom_160 rfl h
set_option maxRecDepth 20000 in
set_option maxHeartbeats 2000000 in
theorem bk_X0_copyRow_0 {d : Nat} {I : HI} {Q : Option AV → AH → Prop} {a1 n1 : Nat} {a2 n2 : Nat} (ha1 : SH0[a1]? = some (.inr (0, n1))) (ha2 : SH0[a2]? = some (.inr (0, n2))) (h : ((n1 : Nat) : Int) ≤ 2147483647 ∧ ((n2 : Nat) : Int) ≤ 2147483647 ∧ ((0 : Int) ≤ 0 ∧ (0 : Int) ≤ 0 ∧ (0 : Int) ≤ (min (n1 : Int) (n2 : Int)) ∧ (0 : Int) + (min (n1 : Int) (n2 : Int)) ≤ n1 ∧ (0 : Int) + (min (n1 : Int) (n2 : Int)) ≤ n2) ∧ (∀ I1 : HI, I1 = cpI I a1 0 a2 0 (min (n1 : Int) (n2 : Int)).toNat → Q none (mk I1))) : J none mX0_copyRow (d + 1) 0 0 0 [(0, vR 1), (1, vR a1), (2, vR a2)] [] (mk I) Q := by
  refine J_aload_n dX0_copyRow_0 rfl rfl ?_
  refine J_iconst dX0_copyRow_1 (ii_c rfl) ?_
  refine J_aload_n dX0_copyRow_2 rfl rfl ?_
  refine J_iconst dX0_copyRow_3 (ii_c rfl) ?_
  refine J_aload_n dX0_copyRow_4 rfl rfl ?_
  refine J_alen dX0_copyRow_5 ha1 (by decide) h.1 ?_
  replace h := h.2
  refine J_aload_n dX0_copyRow_6 rfl rfl ?_
  refine J_alen dX0_copyRow_7 ha2 (by decide) h.1 ?_
  replace h := h.2
  refine J_min dX0_copyRow_8 lk_X0_65 (Nat.le_of_ble_eq_true rfl) ?_
  refine J_copy dX0_copyRow_11 lk_X0_71 sw_2 sw_3 iw_java_lang_System ha1 ha2 h.1.1 h.1.2.1 h.1.2.2.1 h.1.2.2.2.1 h.1.2.2.2.2 (Nat.le_of_ble_eq_true rfl) ?_
  replace h := h.2 _ rfl
  exact J_retv dX0_copyRow_14 rfl h
set_option maxRecDepth 20000 in
set_option maxHeartbeats 2000000 in
theorem bk_X0_addLane_0 {d : Nat} {I : HI} {Q : Option AV → AH → Prop} {a1 : Int} {a2 : Int} {a3 : Int} {a4 : Int}  (h : (-2147483648 ≤ (I 15 1) + 1 ∧ (I 15 1) + 1 ≤ 2147483647) ∧ (∀ I1 : HI, I1 = up I 15 1 ((I 15 1) + 1) → (-2147483648 ≤ (I 15 1) * 4 ∧ (I 15 1) * 4 ≤ 2147483647) ∧ ((0 : Int) ≤ ((I 15 1) * 4) ∧ ((I 15 1) * 4 : Int) < 64) ∧ (∀ I2 : HI, I2 = up I1 19 ((I 15 1) * 4).toNat a1 → (-2147483648 ≤ (I 15 1) * 4 ∧ (I 15 1) * 4 ≤ 2147483647) ∧ (-2147483648 ≤ ((I 15 1) * 4) + 1 ∧ ((I 15 1) * 4) + 1 ≤ 2147483647) ∧ ((0 : Int) ≤ (((I 15 1) * 4) + 1) ∧ (((I 15 1) * 4) + 1 : Int) < 64) ∧ (∀ I3 : HI, I3 = up I2 19 (((I 15 1) * 4) + 1).toNat a2 → (-2147483648 ≤ (I 15 1) * 4 ∧ (I 15 1) * 4 ≤ 2147483647) ∧ (-2147483648 ≤ ((I 15 1) * 4) + 2 ∧ ((I 15 1) * 4) + 2 ≤ 2147483647) ∧ ((0 : Int) ≤ (((I 15 1) * 4) + 2) ∧ (((I 15 1) * 4) + 2 : Int) < 64) ∧ (∀ I4 : HI, I4 = up I3 19 (((I 15 1) * 4) + 2).toNat a3 → (-2147483648 ≤ (I 15 1) * 4 ∧ (I 15 1) * 4 ≤ 2147483647) ∧ (-2147483648 ≤ ((I 15 1) * 4) + 3 ∧ ((I 15 1) * 4) + 3 ≤ 2147483647) ∧ ((0 : Int) ≤ (((I 15 1) * 4) + 3) ∧ (((I 15 1) * 4) + 3 : Int) < 64) ∧ (∀ I5 : HI, I5 = up I4 19 (((I 15 1) * 4) + 3).toNat a4 → (-2147483648 ≤ a1 * 10 ∧ a1 * 10 ≤ 2147483647) ∧ (-2147483648 ≤ (a1 * 10) + a2 ∧ (a1 * 10) + a2 ≤ 2147483647) ∧ ((0 : Int) ≤ ((a1 * 10) + a2) ∧ ((a1 * 10) + a2 : Int) < 100) ∧ (∀ I6 : HI, I6 = up I5 25 ((a1 * 10) + a2).toNat (I 15 1) → (-2147483648 ≤ a2 * 10 ∧ a2 * 10 ≤ 2147483647) ∧ (-2147483648 ≤ (a2 * 10) + a1 ∧ (a2 * 10) + a1 ≤ 2147483647) ∧ ((0 : Int) ≤ ((a2 * 10) + a1) ∧ ((a2 * 10) + a1 : Int) < 100) ∧ (∀ I7 : HI, I7 = up I6 25 ((a2 * 10) + a1).toNat (I 15 1) → Q none (mk I7))))))))) : J none mX0_addLane (d + 1) 0 0 0 [(0, vR 14), (1, vI a1), (2, vI a2), (3, vI a3), (4, vI a4)] [] (mk I) Q := by
  refine J_aload_n dX0_addLane_0 rfl rfl ?_
  refine J_getR dX0_addLane_1 ck_0 fw_X0_9 rfl sh_14 rr_14_0 ?_
  refine J_iconst dX0_addLane_4 (ii_c rfl) ?_
  refine J_dup2 dX0_addLane_5 rfl rfl ?_
  refine J_iald dX0_addLane_6 sh_15 (by decide) (by decide) ?_
  refine J_dup_x2 dX0_addLane_7 rfl rfl rfl ?_
  refine J_iconst dX0_addLane_8 (ii_c rfl) ?_
  refine J_iaddN dX0_addLane_9 h.1 ?_
  replace h := h.2
  refine J_iast dX0_addLane_10 sh_15 (by decide) (by decide) ?_
  replace h := h _ rfl
  refine J_istore dX0_addLane_11 (by decide) ?_
  change J _ _ _ _ _ _ [(0, _), (1, _), (2, _), (3, _), (4, _), (5, _)] _ _ _
  refine J_aload_n dX0_addLane_13 rfl rfl ?_
  refine J_getR dX0_addLane_14 ck_0 fw_X0_24 rfl sh_14 rr_14_4 ?_
  refine J_iload dX0_addLane_17 rfl ?_
  refine J_iconst dX0_addLane_19 (ii_c rfl) ?_
  refine J_imulN dX0_addLane_20 h.1 ?_
  replace h := h.2
  refine J_iload_n dX0_addLane_21 rfl rfl ?_
  refine J_iast dX0_addLane_22 sh_19 h.1.1 h.1.2 ?_
  replace h := h.2 _ rfl
  refine J_aload_n dX0_addLane_23 rfl rfl ?_
  refine J_getR dX0_addLane_24 ck_0 fw_X0_24 rfl sh_14 rr_14_4 ?_
  refine J_iload dX0_addLane_27 rfl ?_
  refine J_iconst dX0_addLane_29 (ii_c rfl) ?_
  refine J_imulN dX0_addLane_30 h.1 ?_
  replace h := h.2
  refine J_iconst dX0_addLane_31 (ii_c rfl) ?_
  refine J_iaddN dX0_addLane_32 h.1 ?_
  replace h := h.2
  refine J_iload_n dX0_addLane_33 rfl rfl ?_
  refine J_iast dX0_addLane_34 sh_19 h.1.1 h.1.2 ?_
  replace h := h.2 _ rfl
  refine J_aload_n dX0_addLane_35 rfl rfl ?_
  refine J_getR dX0_addLane_36 ck_0 fw_X0_24 rfl sh_14 rr_14_4 ?_
  refine J_iload dX0_addLane_39 rfl ?_
  refine J_iconst dX0_addLane_41 (ii_c rfl) ?_
  refine J_imulN dX0_addLane_42 h.1 ?_
  replace h := h.2
  refine J_iconst dX0_addLane_43 (ii_c rfl) ?_
  refine J_iaddN dX0_addLane_44 h.1 ?_
  replace h := h.2
  refine J_iload_n dX0_addLane_45 rfl rfl ?_
  refine J_iast dX0_addLane_46 sh_19 h.1.1 h.1.2 ?_
  replace h := h.2 _ rfl
  refine J_aload_n dX0_addLane_47 rfl rfl ?_
  refine J_getR dX0_addLane_48 ck_0 fw_X0_24 rfl sh_14 rr_14_4 ?_
  refine J_iload dX0_addLane_51 rfl ?_
  refine J_iconst dX0_addLane_53 (ii_c rfl) ?_
  refine J_imulN dX0_addLane_54 h.1 ?_
  replace h := h.2
  refine J_iconst dX0_addLane_55 (ii_c rfl) ?_
  refine J_iaddN dX0_addLane_56 h.1 ?_
  replace h := h.2
  refine J_iload dX0_addLane_57 rfl ?_
  refine J_iast dX0_addLane_59 sh_19 h.1.1 h.1.2 ?_
  replace h := h.2 _ rfl
  refine J_aload_n dX0_addLane_60 rfl rfl ?_
  refine J_getR dX0_addLane_61 ck_0 fw_X0_42 rfl sh_14 rr_14_10 ?_
  refine J_iload_n dX0_addLane_64 rfl rfl ?_
  refine J_bipush dX0_addLane_65 (ii_c rfl) (by decide) ?_
  refine J_imulN dX0_addLane_67 h.1 ?_
  replace h := h.2
  refine J_iload_n dX0_addLane_68 rfl rfl ?_
  refine J_iaddN dX0_addLane_69 h.1 ?_
  replace h := h.2
  refine J_iload dX0_addLane_70 rfl ?_
  refine J_iast dX0_addLane_72 sh_25 h.1.1 h.1.2 ?_
  replace h := h.2 _ rfl
  refine J_aload_n dX0_addLane_73 rfl rfl ?_
  refine J_getR dX0_addLane_74 ck_0 fw_X0_42 rfl sh_14 rr_14_10 ?_
  refine J_iload_n dX0_addLane_77 rfl rfl ?_
  refine J_bipush dX0_addLane_78 (ii_c rfl) (by decide) ?_
  refine J_imulN dX0_addLane_80 h.1 ?_
  replace h := h.2
  refine J_iload_n dX0_addLane_81 rfl rfl ?_
  refine J_iaddN dX0_addLane_82 h.1 ?_
  replace h := h.2
  refine J_iload dX0_addLane_83 rfl ?_
  refine J_iast dX0_addLane_85 sh_25 h.1.1 h.1.2 ?_
  replace h := h.2 _ rfl
  exact J_retv dX0_addLane_86 rfl h
set_option maxRecDepth 20000 in
set_option maxHeartbeats 2000000 in
theorem bk_X0_settle_0 {d : Nat} {I : HI} {Q : Option AV → AH → Prop}   (h : CV mJ7_fill_53178 d [vR 26, vI 999] I (fun I1 => J none mX0_settle (d + 1) 0 0 12 [(0, vR 14), (1, vI 0)] [] (mk I1) Q)) : J none mX0_settle (d + 1) 0 0 0 [(0, vR 14)] [] (mk I) Q := by
  refine J_aload_n dX0_settle_0 rfl rfl ?_
  refine J_getR dX0_settle_1 ck_0 fw_X0_45 rfl sh_14 rr_14_11 ?_
  refine J_sipush dX0_settle_4 (ii_c rfl) (by decide) ?_
  refine J_callS (as := [_, _]) (mc1 := 0) (ms1 := 0) (mc := 0) (ms := 0) dX0_settle_7 ms_J7_fill_53178 lk_X0_52 rfl (Nat.le_of_ble_eq_true rfl) (Nat.le_of_ble_eq_true rfl) h (fun r σ hq _ => ?_)
  obtain ⟨I1, rfl, rfl, h⟩ := hq
  change J _ _ _ _ _ _ _ [] _ _
  refine J_iconst dX0_settle_10 (ii_c rfl) ?_
  refine J_istore_n dX0_settle_11 rfl (by decide) ?_
  change J _ _ _ _ _ _ [(0, _), (1, _)] _ _ _
  exact h
set_option maxRecDepth 20000 in
set_option maxHeartbeats 2000000 in
theorem bk_X0_settle_12 {d : Nat} {I : HI} {Q : Option AV → AH → Prop} {a1 : Int}  (h : (((I 15 0) ≤ a1 → J none mX0_settle (d + 1) 0 0 59 [(0, vR 14), (1, vI 0)] [] (mk I) Q) ∧ (¬ ((I 15 0) ≤ a1) → (-2147483648 ≤ a1 * 10 ∧ a1 * 10 ≤ 2147483647) ∧ (-2147483648 ≤ (a1 * 10) + a1 ∧ (a1 * 10) + a1 ≤ 2147483647) ∧ ((0 : Int) ≤ ((a1 * 10) + a1) ∧ ((a1 * 10) + a1 : Int) < 100) ∧ (∀ I1 : HI, I1 = up I 26 ((a1 * 10) + a1).toNat 0 → ((0 : Int) ≤ a1 ∧ (a1 : Int) < 10) ∧ (∀ I2 : HI, I2 = up I1 14 12 (oO (I1 14 12) (oSl 1 (I1 18 a1.toNat))) → (-2147483648 ≤ a1 + 1 ∧ a1 + 1 ≤ 2147483647) ∧ J none mX0_settle (d + 1) 0 0 12 [(0, vR 14), (1, vI (a1 + 1))] [] (mk I2) Q))))) : J none mX0_settle (d + 1) 0 0 12 [(0, vR 14), (1, vI a1)] [] (mk I) Q := by
  refine J_iload_n dX0_settle_12 rfl rfl ?_
  refine J_aload_n dX0_settle_13 rfl rfl ?_
  refine J_getR dX0_settle_14 ck_0 fw_X0_9 rfl sh_14 rr_14_0 ?_
  refine J_iconst dX0_settle_17 (ii_c rfl) ?_
  refine J_iald dX0_settle_18 sh_15 (by decide) (by decide) ?_
  refine J_ic_ge (tgt := 57) dX0_settle_19 (by decide) (fun c => ?_) (fun c => ?_)
  · replace h := h.1 c
    refine J_iconst dX0_settle_57 (ii_c rfl) ?_
    refine J_istore_n dX0_settle_58 rfl (by decide) ?_
    change J _ _ _ _ _ _ [(0, _), (1, _)] _ _ _
    exact h
  · replace h := h.2 c
    refine J_aload_n dX0_settle_22 rfl rfl ?_
    refine J_getR dX0_settle_23 ck_0 fw_X0_45 rfl sh_14 rr_14_11 ?_
    refine J_iload_n dX0_settle_26 rfl rfl ?_
    refine J_bipush dX0_settle_27 (ii_c rfl) (by decide) ?_
    refine J_imulN dX0_settle_29 h.1 ?_
    replace h := h.2
    refine J_iload_n dX0_settle_30 rfl rfl ?_
    refine J_iaddN dX0_settle_31 h.1 ?_
    replace h := h.2
    refine J_iconst dX0_settle_32 (ii_c rfl) ?_
    refine J_iast dX0_settle_33 sh_26 h.1.1 h.1.2 ?_
    replace h := h.2 _ rfl
    refine J_aload_n dX0_settle_34 rfl rfl ?_
    refine J_dup dX0_settle_35 rfl ?_
    refine J_getI dX0_settle_36 ck_0 fw_X0_58 rfl sh_14 ?_
    refine J_iconst dX0_settle_39 (ii_c rfl) ?_
    refine J_aload_n dX0_settle_40 rfl rfl ?_
    refine J_getR dX0_settle_41 ck_0 fw_X0_21 rfl sh_14 rr_14_3 ?_
    refine J_iload_n dX0_settle_44 rfl rfl ?_
    refine J_iald dX0_settle_45 sh_18 h.1.1 h.1.2 ?_
    replace h := h.2
    refine J_ishl dX0_settle_46 ?_
    refine J_ior dX0_settle_47 ?_
    refine J_putI dX0_settle_48 ck_0 fw_X0_58 rfl rfl (Or.inl rfl) sh_14 ?_
    replace h := h _ rfl
    refine J_iincN dX0_settle_51 rfl (by decide) h.1 ?_
    replace h := h.2
    change J _ _ _ _ _ _ [(0, _), (1, _)] _ _ _
    refine J_goto (tgt := 12) dX0_settle_54 (by decide) ?_
    exact h
set_option maxRecDepth 20000 in
set_option maxHeartbeats 2000000 in
theorem bk_X0_settle_59 {d : Nat} {I : HI} {Q : Option AV → AH → Prop} {a1 : Int}  (h : (((I 15 1) ≤ a1 → J none mX0_settle (d + 1) 0 0 139 [(0, vR 14), (1, vI 0)] [] (mk I) Q) ∧ (¬ ((I 15 1) ≤ a1) → (-2147483648 ≤ a1 * 4 ∧ a1 * 4 ≤ 2147483647) ∧ ((0 : Int) ≤ (a1 * 4) ∧ (a1 * 4 : Int) < 64) ∧ (-2147483648 ≤ a1 * 4 ∧ a1 * 4 ≤ 2147483647) ∧ (-2147483648 ≤ (a1 * 4) + 1 ∧ (a1 * 4) + 1 ≤ 2147483647) ∧ ((0 : Int) ≤ ((a1 * 4) + 1) ∧ ((a1 * 4) + 1 : Int) < 64) ∧ (-2147483648 ≤ (I 19 (a1 * 4).toNat) * 10 ∧ (I 19 (a1 * 4).toNat) * 10 ≤ 2147483647) ∧ (-2147483648 ≤ ((I 19 (a1 * 4).toNat) * 10) + (I 19 ((a1 * 4) + 1).toNat) ∧ ((I 19 (a1 * 4).toNat) * 10) + (I 19 ((a1 * 4) + 1).toNat) ≤ 2147483647) ∧ (-2147483648 ≤ a1 * 4 ∧ a1 * 4 ≤ 2147483647) ∧ (-2147483648 ≤ (a1 * 4) + 3 ∧ (a1 * 4) + 3 ≤ 2147483647) ∧ ((0 : Int) ≤ ((a1 * 4) + 3) ∧ ((a1 * 4) + 3 : Int) < 64) ∧ ((0 : Int) ≤ (((I 19 (a1 * 4).toNat) * 10) + (I 19 ((a1 * 4) + 1).toNat)) ∧ (((I 19 (a1 * 4).toNat) * 10) + (I 19 ((a1 * 4) + 1).toNat) : Int) < 100) ∧ (∀ I1 : HI, I1 = up I 26 (((I 19 (a1 * 4).toNat) * 10) + (I 19 ((a1 * 4) + 1).toNat)).toNat (I 19 ((a1 * 4) + 3).toNat) → (-2147483648 ≤ (I 19 ((a1 * 4) + 1).toNat) * 10 ∧ (I 19 ((a1 * 4) + 1).toNat) * 10 ≤ 2147483647) ∧ (-2147483648 ≤ ((I 19 ((a1 * 4) + 1).toNat) * 10) + (I 19 (a1 * 4).toNat) ∧ ((I 19 ((a1 * 4) + 1).toNat) * 10) + (I 19 (a1 * 4).toNat) ≤ 2147483647) ∧ (-2147483648 ≤ a1 * 4 ∧ a1 * 4 ≤ 2147483647) ∧ (-2147483648 ≤ (a1 * 4) + 3 ∧ (a1 * 4) + 3 ≤ 2147483647) ∧ ((0 : Int) ≤ ((a1 * 4) + 3) ∧ ((a1 * 4) + 3 : Int) < 64) ∧ ((0 : Int) ≤ (((I 19 ((a1 * 4) + 1).toNat) * 10) + (I 19 (a1 * 4).toNat)) ∧ (((I 19 ((a1 * 4) + 1).toNat) * 10) + (I 19 (a1 * 4).toNat) : Int) < 100) ∧ (∀ I2 : HI, I2 = up I1 26 (((I 19 ((a1 * 4) + 1).toNat) * 10) + (I 19 (a1 * 4).toNat)).toNat (I1 19 ((a1 * 4) + 3).toNat) → (-2147483648 ≤ a1 + 1 ∧ a1 + 1 ≤ 2147483647) ∧ J none mX0_settle (d + 1) 0 0 59 [(0, vR 14), (1, vI (a1 + 1))] [] (mk I2) Q))))) : J none mX0_settle (d + 1) 0 0 59 [(0, vR 14), (1, vI a1)] [] (mk I) Q := by
  refine J_iload_n dX0_settle_59 rfl rfl ?_
  refine J_aload_n dX0_settle_60 rfl rfl ?_
  refine J_getR dX0_settle_61 ck_0 fw_X0_9 rfl sh_14 rr_14_0 ?_
  refine J_iconst dX0_settle_64 (ii_c rfl) ?_
  refine J_iald dX0_settle_65 sh_15 (by decide) (by decide) ?_
  refine J_ic_ge (tgt := 137) dX0_settle_66 (by decide) (fun c => ?_) (fun c => ?_)
  · replace h := h.1 c
    refine J_iconst dX0_settle_137 (ii_c rfl) ?_
    refine J_istore_n dX0_settle_138 rfl (by decide) ?_
    change J _ _ _ _ _ _ [(0, _), (1, _)] _ _ _
    exact h
  · replace h := h.2 c
    refine J_aload_n dX0_settle_69 rfl rfl ?_
    refine J_getR dX0_settle_70 ck_0 fw_X0_24 rfl sh_14 rr_14_4 ?_
    refine J_iload_n dX0_settle_73 rfl rfl ?_
    refine J_iconst dX0_settle_74 (ii_c rfl) ?_
    refine J_imulN dX0_settle_75 h.1 ?_
    replace h := h.2
    refine J_iald dX0_settle_76 sh_19 h.1.1 h.1.2 ?_
    replace h := h.2
    refine J_istore_n dX0_settle_77 rfl (by decide) ?_
    change J _ _ _ _ _ _ [(0, _), (1, _), (2, _)] _ _ _
    refine J_aload_n dX0_settle_78 rfl rfl ?_
    refine J_getR dX0_settle_79 ck_0 fw_X0_24 rfl sh_14 rr_14_4 ?_
    refine J_iload_n dX0_settle_82 rfl rfl ?_
    refine J_iconst dX0_settle_83 (ii_c rfl) ?_
    refine J_imulN dX0_settle_84 h.1 ?_
    replace h := h.2
    refine J_iconst dX0_settle_85 (ii_c rfl) ?_
    refine J_iaddN dX0_settle_86 h.1 ?_
    replace h := h.2
    refine J_iald dX0_settle_87 sh_19 h.1.1 h.1.2 ?_
    replace h := h.2
    refine J_istore_n dX0_settle_88 rfl (by decide) ?_
    change J _ _ _ _ _ _ [(0, _), (1, _), (2, _), (3, _)] _ _ _
    refine J_aload_n dX0_settle_89 rfl rfl ?_
    refine J_getR dX0_settle_90 ck_0 fw_X0_45 rfl sh_14 rr_14_11 ?_
    refine J_iload_n dX0_settle_93 rfl rfl ?_
    refine J_bipush dX0_settle_94 (ii_c rfl) (by decide) ?_
    refine J_imulN dX0_settle_96 h.1 ?_
    replace h := h.2
    refine J_iload_n dX0_settle_97 rfl rfl ?_
    refine J_iaddN dX0_settle_98 h.1 ?_
    replace h := h.2
    refine J_aload_n dX0_settle_99 rfl rfl ?_
    refine J_getR dX0_settle_100 ck_0 fw_X0_24 rfl sh_14 rr_14_4 ?_
    refine J_iload_n dX0_settle_103 rfl rfl ?_
    refine J_iconst dX0_settle_104 (ii_c rfl) ?_
    refine J_imulN dX0_settle_105 h.1 ?_
    replace h := h.2
    refine J_iconst dX0_settle_106 (ii_c rfl) ?_
    refine J_iaddN dX0_settle_107 h.1 ?_
    replace h := h.2
    refine J_iald dX0_settle_108 sh_19 h.1.1 h.1.2 ?_
    replace h := h.2
    refine J_iast dX0_settle_109 sh_26 h.1.1 h.1.2 ?_
    replace h := h.2 _ rfl
    refine J_aload_n dX0_settle_110 rfl rfl ?_
    refine J_getR dX0_settle_111 ck_0 fw_X0_45 rfl sh_14 rr_14_11 ?_
    refine J_iload_n dX0_settle_114 rfl rfl ?_
    refine J_bipush dX0_settle_115 (ii_c rfl) (by decide) ?_
    refine J_imulN dX0_settle_117 h.1 ?_
    replace h := h.2
    refine J_iload_n dX0_settle_118 rfl rfl ?_
    refine J_iaddN dX0_settle_119 h.1 ?_
    replace h := h.2
    refine J_aload_n dX0_settle_120 rfl rfl ?_
    refine J_getR dX0_settle_121 ck_0 fw_X0_24 rfl sh_14 rr_14_4 ?_
    refine J_iload_n dX0_settle_124 rfl rfl ?_
    refine J_iconst dX0_settle_125 (ii_c rfl) ?_
    refine J_imulN dX0_settle_126 h.1 ?_
    replace h := h.2
    refine J_iconst dX0_settle_127 (ii_c rfl) ?_
    refine J_iaddN dX0_settle_128 h.1 ?_
    replace h := h.2
    refine J_iald dX0_settle_129 sh_19 h.1.1 h.1.2 ?_
    replace h := h.2
    refine J_iast dX0_settle_130 sh_26 h.1.1 h.1.2 ?_
    replace h := h.2 _ rfl
    refine J_iincN dX0_settle_131 rfl (by decide) h.1 ?_
    replace h := h.2
    change J _ _ _ _ _ _ [(0, _), (1, _), (2, _), (3, _)] _ _ _
    refine J_goto (tgt := 59) dX0_settle_134 (by decide) ?_
    exact J_loc (ls_sub [0, 1] rfl) h
set_option maxRecDepth 20000 in
set_option maxHeartbeats 2000000 in
theorem bk_X0_settle_139 {d : Nat} {I : HI} {Q : Option AV → AH → Prop} {a1 : Int}  (h : (((I 15 0) ≤ a1 → Q none (mk I)) ∧ (¬ ((I 15 0) ≤ a1) → CV mX0_hearThrough d [vR 14, vI a1] I (fun I1 => (-2147483648 ≤ a1 + 1 ∧ a1 + 1 ≤ 2147483647) ∧ J none mX0_settle (d + 1) 0 0 139 [(0, vR 14), (1, vI (a1 + 1))] [] (mk I1) Q)))) : J none mX0_settle (d + 1) 0 0 139 [(0, vR 14), (1, vI a1)] [] (mk I) Q := by
  refine J_iload_n dX0_settle_139 rfl rfl ?_
  refine J_aload_n dX0_settle_140 rfl rfl ?_
  refine J_getR dX0_settle_141 ck_0 fw_X0_9 rfl sh_14 rr_14_0 ?_
  refine J_iconst dX0_settle_144 (ii_c rfl) ?_
  refine J_iald dX0_settle_145 sh_15 (by decide) (by decide) ?_
  refine J_ic_ge (tgt := 160) dX0_settle_146 (by decide) (fun c => ?_) (fun c => ?_)
  · replace h := h.1 c
    exact J_retv dX0_settle_160 rfl h
  · replace h := h.2 c
    refine J_aload_n dX0_settle_149 rfl rfl ?_
    refine J_iload_n dX0_settle_150 rfl rfl ?_
    refine J_callV (as := [_]) (mc1 := 0) (ms1 := 0) (mc := 0) (ms := 0) dX0_settle_151 mv_X0_hearThrough lk_X0_77 sh_14 rfl (Nat.le_of_ble_eq_true rfl) (Nat.le_of_ble_eq_true rfl) h (fun r σ hq _ => ?_)
    obtain ⟨I1, rfl, rfl, h⟩ := hq
    change J _ _ _ _ _ _ _ [] _ _
    refine J_iincN dX0_settle_154 rfl (by decide) h.1 ?_
    replace h := h.2
    change J _ _ _ _ _ _ [(0, _), (1, _)] _ _ _
    refine J_goto (tgt := 139) dX0_settle_157 (by decide) ?_
    exact h
set_option maxRecDepth 20000 in
set_option maxHeartbeats 2000000 in
theorem bk_X0_hearThrough_0 {d : Nat} {I : HI} {Q : Option AV → AH → Prop} {a1 : Int}  (h : J none mX0_hearThrough (d + 1) 0 0 2 [(0, vR 14), (1, vI a1), (2, vI 0)] [] (mk I) Q) : J none mX0_hearThrough (d + 1) 0 0 0 [(0, vR 14), (1, vI a1)] [] (mk I) Q := by
  refine J_iconst dX0_hearThrough_0 (ii_c rfl) ?_
  refine J_istore_n dX0_hearThrough_1 rfl (by decide) ?_
  change J _ _ _ _ _ _ [(0, _), (1, _), (2, _)] _ _ _
  exact h
set_option maxRecDepth 20000 in
set_option maxHeartbeats 2000000 in
theorem bk_X0_hearThrough_2 {d : Nat} {I : HI} {Q : Option AV → AH → Prop} {a1 : Int} {a2 : Int}  (h : (((I 15 0) ≤ a2 → Q none (mk I)) ∧ (¬ ((I 15 0) ≤ a2) → (-2147483648 ≤ a2 * 10 ∧ a2 * 10 ≤ 2147483647) ∧ (-2147483648 ≤ (a2 * 10) + a1 ∧ (a2 * 10) + a1 ≤ 2147483647) ∧ ((0 : Int) ≤ ((a2 * 10) + a1) ∧ ((a2 * 10) + a1 : Int) < 100) ∧ J none mX0_hearThrough (d + 1) 0 0 27 [(0, vR 14), (1, vI a1), (2, vI a2), (3, vI (I 26 ((a2 * 10) + a1).toNat)), (4, vI 0)] [] (mk I) Q))) : J none mX0_hearThrough (d + 1) 0 0 2 [(0, vR 14), (1, vI a1), (2, vI a2)] [] (mk I) Q := by
  refine J_iload_n dX0_hearThrough_2 rfl rfl ?_
  refine J_aload_n dX0_hearThrough_3 rfl rfl ?_
  refine J_getR dX0_hearThrough_4 ck_0 fw_X0_9 rfl sh_14 rr_14_0 ?_
  refine J_iconst dX0_hearThrough_7 (ii_c rfl) ?_
  refine J_iald dX0_hearThrough_8 sh_15 (by decide) (by decide) ?_
  refine J_ic_ge (tgt := 104) dX0_hearThrough_9 (by decide) (fun c => ?_) (fun c => ?_)
  · replace h := h.1 c
    exact J_retv dX0_hearThrough_104 rfl h
  · replace h := h.2 c
    refine J_aload_n dX0_hearThrough_12 rfl rfl ?_
    refine J_getR dX0_hearThrough_13 ck_0 fw_X0_45 rfl sh_14 rr_14_11 ?_
    refine J_iload_n dX0_hearThrough_16 rfl rfl ?_
    refine J_bipush dX0_hearThrough_17 (ii_c rfl) (by decide) ?_
    refine J_imulN dX0_hearThrough_19 h.1 ?_
    replace h := h.2
    refine J_iload_n dX0_hearThrough_20 rfl rfl ?_
    refine J_iaddN dX0_hearThrough_21 h.1 ?_
    replace h := h.2
    refine J_iald dX0_hearThrough_22 sh_26 h.1.1 h.1.2 ?_
    replace h := h.2
    refine J_istore_n dX0_hearThrough_23 rfl (by decide) ?_
    change J _ _ _ _ _ _ [(0, _), (1, _), (2, _), (3, _)] _ _ _
    refine J_iconst dX0_hearThrough_24 (ii_c rfl) ?_
    refine J_istore dX0_hearThrough_25 (by decide) ?_
    change J _ _ _ _ _ _ [(0, _), (1, _), (2, _), (3, _), (4, _)] _ _ _
    exact h
set_option maxRecDepth 20000 in
set_option maxHeartbeats 2000000 in
theorem bk_X0_hearThrough_27 {d : Nat} {I : HI} {Q : Option AV → AH → Prop} {a1 : Int} {a2 : Int} {a3 : Int} {a4 : Int}  (h : ((999 ≤ a3 → (-2147483648 ≤ a2 + 1 ∧ a2 + 1 ≤ 2147483647) ∧ J none mX0_hearThrough (d + 1) 0 0 2 [(0, vR 14), (1, vI a1), (2, vI (a2 + 1))] [] (mk I) Q) ∧ (¬ (999 ≤ a3) → (((I 15 0) ≤ a4 → (-2147483648 ≤ a2 + 1 ∧ a2 + 1 ≤ 2147483647) ∧ J none mX0_hearThrough (d + 1) 0 0 2 [(0, vR 14), (1, vI a1), (2, vI (a2 + 1))] [] (mk I) Q) ∧ (¬ ((I 15 0) ≤ a4) → (-2147483648 ≤ a1 * 10 ∧ a1 * 10 ≤ 2147483647) ∧ (-2147483648 ≤ (a1 * 10) + a4 ∧ (a1 * 10) + a4 ≤ 2147483647) ∧ ((0 : Int) ≤ ((a1 * 10) + a4) ∧ ((a1 * 10) + a4 : Int) < 100) ∧ (-2147483648 ≤ a3 + (I 26 ((a1 * 10) + a4).toNat) ∧ a3 + (I 26 ((a1 * 10) + a4).toNat) ≤ 2147483647) ∧ (-2147483648 ≤ a2 * 10 ∧ a2 * 10 ≤ 2147483647) ∧ (-2147483648 ≤ (a2 * 10) + a4 ∧ (a2 * 10) + a4 ≤ 2147483647) ∧ ((0 : Int) ≤ ((a2 * 10) + a4) ∧ ((a2 * 10) + a4 : Int) < 100) ∧ (((I 26 ((a2 * 10) + a4).toNat) ≤ (a3 + (I 26 ((a1 * 10) + a4).toNat)) → (-2147483648 ≤ a4 + 1 ∧ a4 + 1 ≤ 2147483647) ∧ J none mX0_hearThrough (d + 1) 0 0 27 [(0, vR 14), (1, vI a1), (2, vI a2), (3, vI a3), (4, vI (a4 + 1))] [] (mk I) Q) ∧ (¬ ((I 26 ((a2 * 10) + a4).toNat) ≤ (a3 + (I 26 ((a1 * 10) + a4).toNat))) → (-2147483648 ≤ a2 * 10 ∧ a2 * 10 ≤ 2147483647) ∧ (-2147483648 ≤ (a2 * 10) + a4 ∧ (a2 * 10) + a4 ≤ 2147483647) ∧ ((0 : Int) ≤ ((a2 * 10) + a4) ∧ ((a2 * 10) + a4 : Int) < 100) ∧ (∀ I1 : HI, I1 = up I 26 ((a2 * 10) + a4).toNat (a3 + (I 26 ((a1 * 10) + a4).toNat)) → (-2147483648 ≤ a4 + 1 ∧ a4 + 1 ≤ 2147483647) ∧ J none mX0_hearThrough (d + 1) 0 0 27 [(0, vR 14), (1, vI a1), (2, vI a2), (3, vI a3), (4, vI (a4 + 1))] [] (mk I1) Q)))))))) : J none mX0_hearThrough (d + 1) 0 0 27 [(0, vR 14), (1, vI a1), (2, vI a2), (3, vI a3), (4, vI a4)] [] (mk I) Q := by
  refine J_iload_n dX0_hearThrough_27 rfl rfl ?_
  refine J_sipush dX0_hearThrough_28 (ii_c rfl) (by decide) ?_
  refine J_ic_ge (tgt := 98) dX0_hearThrough_31 (by decide) (fun c => ?_) (fun c => ?_)
  · replace h := h.1 c
    refine J_iincN dX0_hearThrough_98 rfl (by decide) h.1 ?_
    replace h := h.2
    change J _ _ _ _ _ _ [(0, _), (1, _), (2, _), (3, _), (4, _)] _ _ _
    refine J_goto (tgt := 2) dX0_hearThrough_101 (by decide) ?_
    exact J_loc (ls_sub [0, 1, 2] rfl) h
  · replace h := h.2 c
    refine J_iload dX0_hearThrough_34 rfl ?_
    refine J_aload_n dX0_hearThrough_36 rfl rfl ?_
    refine J_getR dX0_hearThrough_37 ck_0 fw_X0_9 rfl sh_14 rr_14_0 ?_
    refine J_iconst dX0_hearThrough_40 (ii_c rfl) ?_
    refine J_iald dX0_hearThrough_41 sh_15 (by decide) (by decide) ?_
    refine J_ic_ge (tgt := 98) dX0_hearThrough_42 (by decide) (fun c => ?_) (fun c => ?_)
    · replace h := h.1 c
      refine J_iincN dX0_hearThrough_98 rfl (by decide) h.1 ?_
      replace h := h.2
      change J _ _ _ _ _ _ [(0, _), (1, _), (2, _), (3, _), (4, _)] _ _ _
      refine J_goto (tgt := 2) dX0_hearThrough_101 (by decide) ?_
      exact J_loc (ls_sub [0, 1, 2] rfl) h
    · replace h := h.2 c
      refine J_iload_n dX0_hearThrough_45 rfl rfl ?_
      refine J_aload_n dX0_hearThrough_46 rfl rfl ?_
      refine J_getR dX0_hearThrough_47 ck_0 fw_X0_45 rfl sh_14 rr_14_11 ?_
      refine J_iload_n dX0_hearThrough_50 rfl rfl ?_
      refine J_bipush dX0_hearThrough_51 (ii_c rfl) (by decide) ?_
      refine J_imulN dX0_hearThrough_53 h.1 ?_
      replace h := h.2
      refine J_iload dX0_hearThrough_54 rfl ?_
      refine J_iaddN dX0_hearThrough_56 h.1 ?_
      replace h := h.2
      refine J_iald dX0_hearThrough_57 sh_26 h.1.1 h.1.2 ?_
      replace h := h.2
      refine J_iaddN dX0_hearThrough_58 h.1 ?_
      replace h := h.2
      refine J_istore dX0_hearThrough_59 (by decide) ?_
      change J _ _ _ _ _ _ [(0, _), (1, _), (2, _), (3, _), (4, _), (5, _)] _ _ _
      refine J_iload dX0_hearThrough_61 rfl ?_
      refine J_aload_n dX0_hearThrough_63 rfl rfl ?_
      refine J_getR dX0_hearThrough_64 ck_0 fw_X0_45 rfl sh_14 rr_14_11 ?_
      refine J_iload_n dX0_hearThrough_67 rfl rfl ?_
      refine J_bipush dX0_hearThrough_68 (ii_c rfl) (by decide) ?_
      refine J_imulN dX0_hearThrough_70 h.1 ?_
      replace h := h.2
      refine J_iload dX0_hearThrough_71 rfl ?_
      refine J_iaddN dX0_hearThrough_73 h.1 ?_
      replace h := h.2
      refine J_iald dX0_hearThrough_74 sh_26 h.1.1 h.1.2 ?_
      replace h := h.2
      refine J_ic_ge (tgt := 92) dX0_hearThrough_75 (by decide) (fun c => ?_) (fun c => ?_)
      · replace h := h.1 c
        refine J_iincN dX0_hearThrough_92 rfl (by decide) h.1 ?_
        replace h := h.2
        change J _ _ _ _ _ _ [(0, _), (1, _), (2, _), (3, _), (4, _), (5, _)] _ _ _
        refine J_goto (tgt := 27) dX0_hearThrough_95 (by decide) ?_
        exact J_loc (ls_sub [0, 1, 2, 3, 4] rfl) h
      · replace h := h.2 c
        refine J_aload_n dX0_hearThrough_78 rfl rfl ?_
        refine J_getR dX0_hearThrough_79 ck_0 fw_X0_45 rfl sh_14 rr_14_11 ?_
        refine J_iload_n dX0_hearThrough_82 rfl rfl ?_
        refine J_bipush dX0_hearThrough_83 (ii_c rfl) (by decide) ?_
        refine J_imulN dX0_hearThrough_85 h.1 ?_
        replace h := h.2
        refine J_iload dX0_hearThrough_86 rfl ?_
        refine J_iaddN dX0_hearThrough_88 h.1 ?_
        replace h := h.2
        refine J_iload dX0_hearThrough_89 rfl ?_
        refine J_iast dX0_hearThrough_91 sh_26 h.1.1 h.1.2 ?_
        replace h := h.2 _ rfl
        refine J_iincN dX0_hearThrough_92 rfl (by decide) h.1 ?_
        replace h := h.2
        change J _ _ _ _ _ _ [(0, _), (1, _), (2, _), (3, _), (4, _), (5, _)] _ _ _
        refine J_goto (tgt := 27) dX0_hearThrough_95 (by decide) ?_
        exact J_loc (ls_sub [0, 1, 2, 3, 4] rfl) h
set_option maxRecDepth 20000 in
set_option maxHeartbeats 2000000 in
theorem bk_X0_greaterLoud_0 {d : Nat} {I : HI} {Q : Option AV → AH → Prop} {a1 : Int} {a2 : Int}  (h : (-2147483648 ≤ a1 * 4 ∧ a1 * 4 ≤ 2147483647) ∧ (-2147483648 ≤ (a1 * 4) + 2 ∧ (a1 * 4) + 2 ≤ 2147483647) ∧ ((0 : Int) ≤ ((a1 * 4) + 2) ∧ ((a1 * 4) + 2 : Int) < 16) ∧ (-2147483648 ≤ a2 * 4 ∧ a2 * 4 ≤ 2147483647) ∧ (-2147483648 ≤ (a2 * 4) + 2 ∧ (a2 * 4) + 2 ≤ 2147483647) ∧ ((0 : Int) ≤ ((a2 * 4) + 2) ∧ ((a2 * 4) + 2 : Int) < 16) ∧ Q (some (vI (max (I 7 ((a1 * 4) + 2).toNat) (I 7 ((a2 * 4) + 2).toNat)))) (mk I)) : J none mX0_greaterLoud (d + 1) 0 0 0 [(0, vR 1), (1, vI a1), (2, vI a2)] [] (mk I) Q := by
  refine J_aload_n dX0_greaterLoud_0 rfl rfl ?_
  refine J_getR dX0_greaterLoud_1 ck_0 fw_X0_27 rfl sh_1 rr_1_5 ?_
  refine J_iload_n dX0_greaterLoud_4 rfl rfl ?_
  refine J_iconst dX0_greaterLoud_5 (ii_c rfl) ?_
  refine J_imulN dX0_greaterLoud_6 h.1 ?_
  replace h := h.2
  refine J_iconst dX0_greaterLoud_7 (ii_c rfl) ?_
  refine J_iaddN dX0_greaterLoud_8 h.1 ?_
  replace h := h.2
  refine J_iald dX0_greaterLoud_9 sh_7 h.1.1 h.1.2 ?_
  replace h := h.2
  refine J_aload_n dX0_greaterLoud_10 rfl rfl ?_
  refine J_getR dX0_greaterLoud_11 ck_0 fw_X0_27 rfl sh_1 rr_1_5 ?_
  refine J_iload_n dX0_greaterLoud_14 rfl rfl ?_
  refine J_iconst dX0_greaterLoud_15 (ii_c rfl) ?_
  refine J_imulN dX0_greaterLoud_16 h.1 ?_
  replace h := h.2
  refine J_iconst dX0_greaterLoud_17 (ii_c rfl) ?_
  refine J_iaddN dX0_greaterLoud_18 h.1 ?_
  replace h := h.2
  refine J_iald dX0_greaterLoud_19 sh_7 h.1.1 h.1.2 ?_
  replace h := h.2
  refine J_max dX0_greaterLoud_20 lk_X0_81 (Nat.le_of_ble_eq_true rfl) ?_
  exact J_reti dX0_greaterLoud_23 rfl h
set_option maxRecDepth 20000 in
set_option maxHeartbeats 2000000 in
theorem bk_X0_minutesOf_0 {d : Nat} {I : HI} {Q : Option AV → AH → Prop} {a1 : Int} {a2 : Int}  (h : (-2147483648 ≤ a2 * 4 ∧ a2 * 4 ≤ 2147483647) ∧ (-2147483648 ≤ (a2 * 4) + 2 ∧ (a2 * 4) + 2 ≤ 2147483647) ∧ ((0 : Int) ≤ ((a2 * 4) + 2) ∧ ((a2 * 4) + 2 : Int) < 64) ∧ (-2147483648 ≤ a1 * 4 ∧ a1 * 4 ≤ 2147483647) ∧ (-2147483648 ≤ (a1 * 4) + 1 ∧ (a1 * 4) + 1 ≤ 2147483647) ∧ ((0 : Int) ≤ ((a1 * 4) + 1) ∧ ((a1 * 4) + 1 : Int) < 16) ∧ (-2147483648 ≤ (I 6 ((a2 * 4) + 2).toNat) * (I 7 ((a1 * 4) + 1).toNat) ∧ (I 6 ((a2 * 4) + 2).toNat) * (I 7 ((a1 * 4) + 1).toNat) ≤ 2147483647) ∧ Q (some (vI ((I 6 ((a2 * 4) + 2).toNat) * (I 7 ((a1 * 4) + 1).toNat)))) (mk I)) : J none mX0_minutesOf (d + 1) 0 0 0 [(0, vR 1), (1, vI a1), (2, vI a2)] [] (mk I) Q := by
  refine J_aload_n dX0_minutesOf_0 rfl rfl ?_
  refine J_getR dX0_minutesOf_1 ck_0 fw_X0_24 rfl sh_1 rr_1_4 ?_
  refine J_iload_n dX0_minutesOf_4 rfl rfl ?_
  refine J_iconst dX0_minutesOf_5 (ii_c rfl) ?_
  refine J_imulN dX0_minutesOf_6 h.1 ?_
  replace h := h.2
  refine J_iconst dX0_minutesOf_7 (ii_c rfl) ?_
  refine J_iaddN dX0_minutesOf_8 h.1 ?_
  replace h := h.2
  refine J_iald dX0_minutesOf_9 sh_6 h.1.1 h.1.2 ?_
  replace h := h.2
  refine J_aload_n dX0_minutesOf_10 rfl rfl ?_
  refine J_getR dX0_minutesOf_11 ck_0 fw_X0_27 rfl sh_1 rr_1_5 ?_
  refine J_iload_n dX0_minutesOf_14 rfl rfl ?_
  refine J_iconst dX0_minutesOf_15 (ii_c rfl) ?_
  refine J_imulN dX0_minutesOf_16 h.1 ?_
  replace h := h.2
  refine J_iconst dX0_minutesOf_17 (ii_c rfl) ?_
  refine J_iaddN dX0_minutesOf_18 h.1 ?_
  replace h := h.2
  refine J_iald dX0_minutesOf_19 sh_7 h.1.1 h.1.2 ?_
  replace h := h.2
  refine J_imulN dX0_minutesOf_20 h.1 ?_
  replace h := h.2
  exact J_reti dX0_minutesOf_21 rfl h
set_option maxRecDepth 20000 in
set_option maxHeartbeats 2000000 in
theorem bk_X0_lastPetals_0 {d : Nat} {I : HI} {Q : Option AV → AH → Prop} {a1 : Int} {a2 : Int}  (h : (-2147483648 ≤ a1 * 4 ∧ a1 * 4 ≤ 2147483647) ∧ (-2147483648 ≤ (a1 * 4) + 3 ∧ (a1 * 4) + 3 ≤ 2147483647) ∧ ((0 : Int) ≤ ((a1 * 4) + 3) ∧ ((a1 * 4) + 3 : Int) < 16) ∧ (-2147483648 ≤ a2 + (I 7 ((a1 * 4) + 3).toNat) ∧ a2 + (I 7 ((a1 * 4) + 3).toNat) ≤ 2147483647) ∧ (-2147483648 ≤ (a2 + (I 7 ((a1 * 4) + 3).toNat)) - 1 ∧ (a2 + (I 7 ((a1 * 4) + 3).toNat)) - 1 ≤ 2147483647) ∧ (((I 1 13) ≤ a2 → Q (some (vI ((a2 + (I 7 ((a1 * 4) + 3).toNat)) - 1))) (mk I)) ∧ (¬ ((I 1 13) ≤ a2) → (-2147483648 ≤ (I 1 13) - 1 ∧ (I 1 13) - 1 ≤ 2147483647) ∧ Q (some (vI (min ((a2 + (I 7 ((a1 * 4) + 3).toNat)) - 1) ((I 1 13) - 1)))) (mk I)))) : J none mX0_lastPetals (d + 1) 0 0 0 [(0, vR 1), (1, vI a1), (2, vI a2)] [] (mk I) Q := by
  refine J_iload_n dX0_lastPetals_0 rfl rfl ?_
  refine J_aload_n dX0_lastPetals_1 rfl rfl ?_
  refine J_getR dX0_lastPetals_2 ck_0 fw_X0_27 rfl sh_1 rr_1_5 ?_
  refine J_iload_n dX0_lastPetals_5 rfl rfl ?_
  refine J_iconst dX0_lastPetals_6 (ii_c rfl) ?_
  refine J_imulN dX0_lastPetals_7 h.1 ?_
  replace h := h.2
  refine J_iconst dX0_lastPetals_8 (ii_c rfl) ?_
  refine J_iaddN dX0_lastPetals_9 h.1 ?_
  replace h := h.2
  refine J_iald dX0_lastPetals_10 sh_7 h.1.1 h.1.2 ?_
  replace h := h.2
  refine J_iaddN dX0_lastPetals_11 h.1 ?_
  replace h := h.2
  refine J_iconst dX0_lastPetals_12 (ii_c rfl) ?_
  refine J_isubN dX0_lastPetals_13 h.1 ?_
  replace h := h.2
  refine J_istore_n dX0_lastPetals_14 rfl (by decide) ?_
  change J _ _ _ _ _ _ [(0, _), (1, _), (2, _), (3, _)] _ _ _
  refine J_iload_n dX0_lastPetals_15 rfl rfl ?_
  refine J_aload_n dX0_lastPetals_16 rfl rfl ?_
  refine J_getI dX0_lastPetals_17 ck_0 fw_X0_48 rfl sh_1 ?_
  refine J_ic_ge (tgt := 36) dX0_lastPetals_20 (by decide) (fun c => ?_) (fun c => ?_)
  · replace h := h.1 c
    refine J_iload_n dX0_lastPetals_36 rfl rfl ?_
    exact J_reti dX0_lastPetals_37 rfl h
  · replace h := h.2 c
    refine J_iload_n dX0_lastPetals_23 rfl rfl ?_
    refine J_aload_n dX0_lastPetals_24 rfl rfl ?_
    refine J_getI dX0_lastPetals_25 ck_0 fw_X0_48 rfl sh_1 ?_
    refine J_iconst dX0_lastPetals_28 (ii_c rfl) ?_
    refine J_isubN dX0_lastPetals_29 h.1 ?_
    replace h := h.2
    refine J_min dX0_lastPetals_30 lk_X0_65 (Nat.le_of_ble_eq_true rfl) ?_
    refine J_goto (tgt := 37) dX0_lastPetals_33 (by decide) ?_
    exact J_reti dX0_lastPetals_37 rfl h
set_option maxRecDepth 20000 in
set_option maxHeartbeats 2000000 in
theorem bk_X0_petalsOf_0 {d : Nat} {I : HI} {Q : Option AV → AH → Prop} {a1 : Int} {a2 n2 : Nat} {a3 : Int} {a4 : Int} (ha2 : TR a2 n2) (h : J none mX0_petalsOf (d + 1) 0 0 6 [(0, vR 1), (1, vI a1), (2, vR a2), (3, vI a3), (4, vI a4), (5, vI 0), (6, vI 1)] [] (mk I) Q) : J none mX0_petalsOf (d + 1) 0 0 0 [(0, vR 1), (1, vI a1), (2, vR a2), (3, vI a3), (4, vI a4)] [] (mk I) Q := by
  refine J_iconst dX0_petalsOf_0 (ii_c rfl) ?_
  refine J_istore dX0_petalsOf_1 (by decide) ?_
  change J _ _ _ _ _ _ [(0, _), (1, _), (2, _), (3, _), (4, _), (5, _)] _ _ _
  refine J_iconst dX0_petalsOf_3 (ii_c rfl) ?_
  refine J_istore dX0_petalsOf_4 (by decide) ?_
  change J _ _ _ _ _ _ [(0, _), (1, _), (2, _), (3, _), (4, _), (5, _), (6, _)] _ _ _
  exact h
set_option maxRecDepth 20000 in
set_option maxHeartbeats 2000000 in
theorem bk_X0_petalsOf_6 {d : Nat} {I : HI} {Q : Option AV → AH → Prop} {a1 : Int} {a2 n2 : Nat} {a3 : Int} {a4 : Int} {a5 : Int} {a6 : Int} (ha2 : TR a2 n2) (h : (((I a2 4) ≤ a6 → Q (some (vI a5)) (mk I)) ∧ (¬ ((I a2 4) ≤ a6) → ((0 : Int) ≤ a6 ∧ (a6 : Int) < n2) ∧ (-2147483648 ≤ (I (a2 + 4) a6.toNat) + a3 ∧ (I (a2 + 4) a6.toNat) + a3 ≤ 2147483647) ∧ ((a4 < ((I (a2 + 4) a6.toNat) + a3) → (-2147483648 ≤ a6 + 1 ∧ a6 + 1 ≤ 2147483647) ∧ J none mX0_petalsOf (d + 1) 0 0 6 [(0, vR 1), (1, vI a1), (2, vR a2), (3, vI a3), (4, vI a4), (5, vI a5), (6, vI (a6 + 1))] [] (mk I) Q) ∧ (¬ (a4 < ((I (a2 + 4) a6.toNat) + a3)) → CI mX0_lastPetals d [vR 1, vI a1, vI ((I (a2 + 4) a6.toNat) + a3)] I (fun x1 I1 => ((x1 < a4 → (-2147483648 ≤ a6 + 1 ∧ a6 + 1 ≤ 2147483647) ∧ J none mX0_petalsOf (d + 1) 0 0 6 [(0, vR 1), (1, vI a1), (2, vR a2), (3, vI a3), (4, vI a4), (5, vI a5), (6, vI (a6 + 1))] [] (mk I1) Q) ∧ (¬ (x1 < a4) → ((0 : Int) ≤ a6 ∧ (a6 : Int) < n2) ∧ (-2147483648 ≤ a6 + 1 ∧ a6 + 1 ≤ 2147483647) ∧ J none mX0_petalsOf (d + 1) 0 0 6 [(0, vR 1), (1, vI a1), (2, vR a2), (3, vI a3), (4, vI a4), (5, vI (oO a5 (oSl 1 (I1 (a2 + 2) a6.toNat)))), (6, vI (a6 + 1))] [] (mk I1) Q)))))))) : J none mX0_petalsOf (d + 1) 0 0 6 [(0, vR 1), (1, vI a1), (2, vR a2), (3, vI a3), (4, vI a4), (5, vI a5), (6, vI a6)] [] (mk I) Q := by
  refine J_iload dX0_petalsOf_6 rfl ?_
  refine J_aload_n dX0_petalsOf_8 rfl rfl ?_
  refine J_getI dX0_petalsOf_9 ck_8 fw_X0_84 rfl ha2.1 ?_
  refine J_ic_ge (tgt := 65) dX0_petalsOf_12 (by decide) (fun c => ?_) (fun c => ?_)
  · replace h := h.1 c
    refine J_iload dX0_petalsOf_65 rfl ?_
    exact J_reti dX0_petalsOf_67 rfl h
  · replace h := h.2 c
    refine J_aload_n dX0_petalsOf_15 rfl rfl ?_
    refine J_getR dX0_petalsOf_16 ck_8 fw_X0_89 rfl ha2.1 ha2.2.2.2.2.1 ?_
    refine J_iload dX0_petalsOf_19 rfl ?_
    refine J_iald dX0_petalsOf_21 ha2.2.2.2.2.2.2.2.2 h.1.1 h.1.2 ?_
    replace h := h.2
    refine J_iload_n dX0_petalsOf_22 rfl rfl ?_
    refine J_iaddN dX0_petalsOf_23 h.1 ?_
    replace h := h.2
    refine J_istore dX0_petalsOf_24 (by decide) ?_
    change J _ _ _ _ _ _ [(0, _), (1, _), (2, _), (3, _), (4, _), (5, _), (6, _), (7, _)] _ _ _
    refine J_iload dX0_petalsOf_26 rfl ?_
    refine J_iload dX0_petalsOf_28 rfl ?_
    refine J_ic_gt (tgt := 59) dX0_petalsOf_30 (by decide) (fun c => ?_) (fun c => ?_)
    · replace h := h.1 c
      refine J_iincN dX0_petalsOf_59 rfl (by decide) h.1 ?_
      replace h := h.2
      change J _ _ _ _ _ _ [(0, _), (1, _), (2, _), (3, _), (4, _), (5, _), (6, _), (7, _)] _ _ _
      refine J_goto (tgt := 6) dX0_petalsOf_62 (by decide) ?_
      exact J_loc (ls_sub [0, 1, 2, 3, 4, 5, 6] rfl) h
    · replace h := h.2 c
      refine J_iload dX0_petalsOf_33 rfl ?_
      refine J_aload_n dX0_petalsOf_35 rfl rfl ?_
      refine J_iload_n dX0_petalsOf_36 rfl rfl ?_
      refine J_iload dX0_petalsOf_37 rfl ?_
      refine J_callV (as := [_, _]) (mc1 := 0) (ms1 := 0) (mc := 0) (ms := 0) dX0_petalsOf_39 mv_X0_lastPetals lk_X0_92 sh_1 rfl (Nat.le_of_ble_eq_true rfl) (Nat.le_of_ble_eq_true rfl) h (fun r σ hq _ => ?_)
      obtain ⟨x1, I1, rfl, rfl, h⟩ := hq
      change J _ _ _ _ _ _ _ [vI x1, _] _ _
      refine J_ic_gt (tgt := 59) dX0_petalsOf_42 (by decide) (fun c => ?_) (fun c => ?_)
      · replace h := h.1 c
        refine J_iincN dX0_petalsOf_59 rfl (by decide) h.1 ?_
        replace h := h.2
        change J _ _ _ _ _ _ [(0, _), (1, _), (2, _), (3, _), (4, _), (5, _), (6, _), (7, _)] _ _ _
        refine J_goto (tgt := 6) dX0_petalsOf_62 (by decide) ?_
        exact J_loc (ls_sub [0, 1, 2, 3, 4, 5, 6] rfl) h
      · replace h := h.2 c
        refine J_iload dX0_petalsOf_45 rfl ?_
        refine J_iconst dX0_petalsOf_47 (ii_c rfl) ?_
        refine J_aload_n dX0_petalsOf_48 rfl rfl ?_
        refine J_getR dX0_petalsOf_49 ck_8 fw_X0_95 rfl ha2.1 ha2.2.2.1 ?_
        refine J_iload dX0_petalsOf_52 rfl ?_
        refine J_iald dX0_petalsOf_54 ha2.2.2.2.2.2.2.1 h.1.1 h.1.2 ?_
        replace h := h.2
        refine J_ishl dX0_petalsOf_55 ?_
        refine J_ior dX0_petalsOf_56 ?_
        refine J_istore dX0_petalsOf_57 (by decide) ?_
        change J _ _ _ _ _ _ [(0, _), (1, _), (2, _), (3, _), (4, _), (5, _), (6, _), (7, _)] _ _ _
        refine J_iincN dX0_petalsOf_59 rfl (by decide) h.1 ?_
        replace h := h.2
        change J _ _ _ _ _ _ [(0, _), (1, _), (2, _), (3, _), (4, _), (5, _), (6, _), (7, _)] _ _ _
        refine J_goto (tgt := 6) dX0_petalsOf_62 (by decide) ?_
        exact J_loc (ls_sub [0, 1, 2, 3, 4, 5, 6] rfl) h
set_option maxRecDepth 20000 in
set_option maxHeartbeats 2000000 in
theorem bk_X0_wordsOf_0 {d : Nat} {I : HI} {Q : Option AV → AH → Prop} {a1 : Int}  (h : J none mX0_wordsOf (d + 1) 0 0 4 [(0, vR 1), (1, vI a1), (2, vI 0), (3, vI 0)] [] (mk I) Q) : J none mX0_wordsOf (d + 1) 0 0 0 [(0, vR 1), (1, vI a1)] [] (mk I) Q := by
  refine J_iconst dX0_wordsOf_0 (ii_c rfl) ?_
  refine J_istore_n dX0_wordsOf_1 rfl (by decide) ?_
  change J _ _ _ _ _ _ [(0, _), (1, _), (2, _)] _ _ _
  refine J_iconst dX0_wordsOf_2 (ii_c rfl) ?_
  refine J_istore_n dX0_wordsOf_3 rfl (by decide) ?_
  change J _ _ _ _ _ _ [(0, _), (1, _), (2, _), (3, _)] _ _ _
  exact h
set_option maxRecDepth 20000 in
set_option maxHeartbeats 2000000 in
theorem bk_X0_wordsOf_4 {d : Nat} {I : HI} {Q : Option AV → AH → Prop} {a1 : Int} {a2 : Int} {a3 : Int}  (h : (((I 2 4) ≤ a3 → Q (some (vI a2)) (mk I)) ∧ (¬ ((I 2 4) ≤ a3) → (((oA (oSr a1 a3) 1) = 0 → (-2147483648 ≤ a3 + 1 ∧ a3 + 1 ≤ 2147483647) ∧ J none mX0_wordsOf (d + 1) 0 0 4 [(0, vR 1), (1, vI a1), (2, vI a2), (3, vI (a3 + 1))] [] (mk I) Q) ∧ (¬ ((oA (oSr a1 a3) 1) = 0) → ((0 : Int) ≤ a3 ∧ (a3 : Int) < 6) ∧ (-2147483648 ≤ a2 + (I 11 a3.toNat) ∧ a2 + (I 11 a3.toNat) ≤ 2147483647) ∧ (-2147483648 ≤ a3 + 1 ∧ a3 + 1 ≤ 2147483647) ∧ J none mX0_wordsOf (d + 1) 0 0 4 [(0, vR 1), (1, vI a1), (2, vI (a2 + (I 11 a3.toNat))), (3, vI (a3 + 1))] [] (mk I) Q))))) : J none mX0_wordsOf (d + 1) 0 0 4 [(0, vR 1), (1, vI a1), (2, vI a2), (3, vI a3)] [] (mk I) Q := by
  refine J_iload_n dX0_wordsOf_4 rfl rfl ?_
  refine J_aload_n dX0_wordsOf_5 rfl rfl ?_
  refine J_getR dX0_wordsOf_6 ck_0 fw_X0_9 rfl sh_1 rr_1_0 ?_
  refine J_iconst dX0_wordsOf_9 (ii_c rfl) ?_
  refine J_iald dX0_wordsOf_10 sh_2 (by decide) (by decide) ?_
  refine J_ic_ge (tgt := 37) dX0_wordsOf_11 (by decide) (fun c => ?_) (fun c => ?_)
  · replace h := h.1 c
    refine J_iload_n dX0_wordsOf_37 rfl rfl ?_
    exact J_reti dX0_wordsOf_38 rfl h
  · replace h := h.2 c
    refine J_iload_n dX0_wordsOf_14 rfl rfl ?_
    refine J_iload_n dX0_wordsOf_15 rfl rfl ?_
    refine J_ishr dX0_wordsOf_16 ?_
    refine J_iconst dX0_wordsOf_17 (ii_c rfl) ?_
    refine J_iand dX0_wordsOf_18 ?_
    refine J_if_eq (tgt := 31) dX0_wordsOf_19 (by decide) (fun c => ?_) (fun c => ?_)
    · replace h := h.1 c
      refine J_iincN dX0_wordsOf_31 rfl (by decide) h.1 ?_
      replace h := h.2
      change J _ _ _ _ _ _ [(0, _), (1, _), (2, _), (3, _)] _ _ _
      refine J_goto (tgt := 4) dX0_wordsOf_34 (by decide) ?_
      exact h
    · replace h := h.2 c
      refine J_iload_n dX0_wordsOf_22 rfl rfl ?_
      refine J_aload_n dX0_wordsOf_23 rfl rfl ?_
      refine J_getR dX0_wordsOf_24 ck_0 fw_X0_39 rfl sh_1 rr_1_9 ?_
      refine J_iload_n dX0_wordsOf_27 rfl rfl ?_
      refine J_iald dX0_wordsOf_28 sh_11 h.1.1 h.1.2 ?_
      replace h := h.2
      refine J_iaddN dX0_wordsOf_29 h.1 ?_
      replace h := h.2
      refine J_istore_n dX0_wordsOf_30 rfl (by decide) ?_
      change J _ _ _ _ _ _ [(0, _), (1, _), (2, _), (3, _)] _ _ _
      refine J_iincN dX0_wordsOf_31 rfl (by decide) h.1 ?_
      replace h := h.2
      change J _ _ _ _ _ _ [(0, _), (1, _), (2, _), (3, _)] _ _ _
      refine J_goto (tgt := 4) dX0_wordsOf_34 (by decide) ?_
      exact h
set_option maxRecDepth 20000 in
set_option maxHeartbeats 2000000 in
theorem bk_X8_start_0 {d : Nat} {I : HI} {Q : Option AV → AH → Prop} {t n : Nat} {a1 : Int} (ht : TR t n) (h : ((n : Nat) : Int) ≤ 2147483647 ∧ (((n : Int) ≤ 0 → (∀ I1 : HI, I1 = up I t 5 0 → (∀ I2 : HI, I2 = up I1 t 6 0 → (∀ I3 : HI, I3 = up I2 t 7 0 → Q none (mk I3))))) ∧ (¬ ((n : Int) ≤ 0) → ((0 : Int) ≤ 0 ∧ (0 : Int) < n) ∧ (∀ I4 : HI, I4 = up I (t + 1) 0 a1 → ((0 : Int) ≤ 0 ∧ (0 : Int) < n) ∧ (∀ I5 : HI, I5 = up I4 (t + 2) 0 (-1) → (∀ I6 : HI, I6 = up I5 t 4 1 → (∀ I7 : HI, I7 = up I6 t 5 0 → (∀ I8 : HI, I8 = up I7 t 6 0 → (∀ I9 : HI, I9 = up I8 t 7 0 → Q none (mk I9)))))))))) : J none mX8_start (d + 1) 0 0 0 [(0, vR t), (1, vI a1)] [] (mk I) Q := by
  refine J_aload_n dX8_start_0 rfl rfl ?_
  refine J_getR dX8_start_1 ck_8 fw_X8_9 rfl ht.1 ht.2.1 ?_
  refine J_alen dX8_start_4 ht.2.2.2.2.2.1 (by decide) h.1 ?_
  replace h := h.2
  refine J_if_le (tgt := 27) dX8_start_5 (by decide) (fun c => ?_) (fun c => ?_)
  · replace h := h.1 c
    refine J_aload_n dX8_start_27 rfl rfl ?_
    refine J_iconst dX8_start_28 (ii_c rfl) ?_
    refine J_putI dX8_start_29 ck_8 fw_X8_28 rfl rfl (Or.inl rfl) ht.1 ?_
    replace h := h _ rfl
    refine J_aload_n dX8_start_32 rfl rfl ?_
    refine J_iconst dX8_start_33 (ii_c rfl) ?_
    refine J_putI dX8_start_34 ck_8 fw_X8_31 rfl rfl (Or.inl rfl) ht.1 ?_
    replace h := h _ rfl
    refine J_aload_n dX8_start_37 rfl rfl ?_
    refine J_iconst dX8_start_38 (ii_c rfl) ?_
    refine J_putI dX8_start_39 ck_8 fw_X8_34 rfl rfl (Or.inr ⟨rfl, Or.inl rfl⟩) ht.1 ?_
    replace h := h _ rfl
    exact J_retv dX8_start_42 rfl h
  · replace h := h.2 c
    refine J_aload_n dX8_start_8 rfl rfl ?_
    refine J_getR dX8_start_9 ck_8 fw_X8_9 rfl ht.1 ht.2.1 ?_
    refine J_iconst dX8_start_12 (ii_c rfl) ?_
    refine J_iload_n dX8_start_13 rfl rfl ?_
    refine J_iast dX8_start_14 ht.2.2.2.2.2.1 h.1.1 h.1.2 ?_
    replace h := h.2 _ rfl
    refine J_aload_n dX8_start_15 rfl rfl ?_
    refine J_getR dX8_start_16 ck_8 fw_X8_15 rfl ht.1 ht.2.2.1 ?_
    refine J_iconst dX8_start_19 (ii_c rfl) ?_
    refine J_iconst dX8_start_20 (ii_c rfl) ?_
    refine J_iast dX8_start_21 ht.2.2.2.2.2.2.1 h.1.1 h.1.2 ?_
    replace h := h.2 _ rfl
    refine J_aload_n dX8_start_22 rfl rfl ?_
    refine J_iconst dX8_start_23 (ii_c rfl) ?_
    refine J_putI dX8_start_24 ck_8 fw_X8_24 rfl rfl (Or.inl rfl) ht.1 ?_
    replace h := h _ rfl
    refine J_aload_n dX8_start_27 rfl rfl ?_
    refine J_iconst dX8_start_28 (ii_c rfl) ?_
    refine J_putI dX8_start_29 ck_8 fw_X8_28 rfl rfl (Or.inl rfl) ht.1 ?_
    replace h := h _ rfl
    refine J_aload_n dX8_start_32 rfl rfl ?_
    refine J_iconst dX8_start_33 (ii_c rfl) ?_
    refine J_putI dX8_start_34 ck_8 fw_X8_31 rfl rfl (Or.inl rfl) ht.1 ?_
    replace h := h _ rfl
    refine J_aload_n dX8_start_37 rfl rfl ?_
    refine J_iconst dX8_start_38 (ii_c rfl) ?_
    refine J_putI dX8_start_39 ck_8 fw_X8_34 rfl rfl (Or.inr ⟨rfl, Or.inl rfl⟩) ht.1 ?_
    replace h := h _ rfl
    exact J_retv dX8_start_42 rfl h
set_option maxRecDepth 20000 in
set_option maxHeartbeats 2000000 in
theorem bk_X8_walkBy_0 {d : Nat} {I : HI} {Q : Option AV → AH → Prop} {t n : Nat} {a1 : Int} {a2 : Int} {a3 : Int} (ht : TR t n) (h : ((n : Nat) : Int) ≤ 2147483647 ∧ (((n : Int) ≤ (I t 4) → Q none (mk I)) ∧ (¬ ((n : Int) ≤ (I t 4)) → ((0 : Int) ≤ (I t 4) ∧ (I t 4 : Int) < n) ∧ (∀ I1 : HI, I1 = up I (t + 1) (I t 4).toNat a2 → ((0 : Int) ≤ (I1 t 4) ∧ (I1 t 4 : Int) < n) ∧ (∀ I2 : HI, I2 = up I1 (t + 2) (I1 t 4).toNat a1 → ((0 : Int) ≤ (I2 t 4) ∧ (I2 t 4 : Int) < n) ∧ (∀ I3 : HI, I3 = up I2 (t + 3) (I2 t 4).toNat (I2 t 5) → (-2147483648 ≤ (I3 t 5) + a3 ∧ (I3 t 5) + a3 ≤ 2147483647) ∧ (∀ I4 : HI, I4 = up I3 t 5 ((I3 t 5) + a3) → ((0 : Int) ≤ (I4 t 4) ∧ (I4 t 4 : Int) < n) ∧ (∀ I5 : HI, I5 = up I4 (t + 4) (I4 t 4).toNat (I4 t 5) → (-2147483648 ≤ (I5 t 4) + 1 ∧ (I5 t 4) + 1 ≤ 2147483647) ∧ (∀ I6 : HI, I6 = up I5 t 4 ((I5 t 4) + 1) → (∀ I7 : HI, I7 = up I6 t 6 (oO (I6 t 6) (oSl 1 a1)) → (∀ I8 : HI, I8 = up I7 t 7 1 → Q none (mk I8)))))))))))) : J none mX8_walkBy (d + 1) 0 0 0 [(0, vR t), (1, vI a1), (2, vI a2), (3, vI a3)] [] (mk I) Q := by
  refine J_aload_n dX8_walkBy_0 rfl rfl ?_
  refine J_getI dX8_walkBy_1 ck_8 fw_X8_24 rfl ht.1 ?_
  refine J_aload_n dX8_walkBy_4 rfl rfl ?_
  refine J_getR dX8_walkBy_5 ck_8 fw_X8_9 rfl ht.1 ht.2.1 ?_
  refine J_alen dX8_walkBy_8 ht.2.2.2.2.2.1 (by decide) h.1 ?_
  replace h := h.2
  refine J_ic_ge (tgt := 95) dX8_walkBy_9 (by decide) (fun c => ?_) (fun c => ?_)
  · replace h := h.1 c
    exact J_retv dX8_walkBy_95 rfl h
  · replace h := h.2 c
    refine J_aload_n dX8_walkBy_12 rfl rfl ?_
    refine J_getR dX8_walkBy_13 ck_8 fw_X8_9 rfl ht.1 ht.2.1 ?_
    refine J_aload_n dX8_walkBy_16 rfl rfl ?_
    refine J_getI dX8_walkBy_17 ck_8 fw_X8_24 rfl ht.1 ?_
    refine J_iload_n dX8_walkBy_20 rfl rfl ?_
    refine J_iast dX8_walkBy_21 ht.2.2.2.2.2.1 h.1.1 h.1.2 ?_
    replace h := h.2 _ rfl
    refine J_aload_n dX8_walkBy_22 rfl rfl ?_
    refine J_getR dX8_walkBy_23 ck_8 fw_X8_15 rfl ht.1 ht.2.2.1 ?_
    refine J_aload_n dX8_walkBy_26 rfl rfl ?_
    refine J_getI dX8_walkBy_27 ck_8 fw_X8_24 rfl ht.1 ?_
    refine J_iload_n dX8_walkBy_30 rfl rfl ?_
    refine J_iast dX8_walkBy_31 ht.2.2.2.2.2.2.1 h.1.1 h.1.2 ?_
    replace h := h.2 _ rfl
    refine J_aload_n dX8_walkBy_32 rfl rfl ?_
    refine J_getR dX8_walkBy_33 ck_8 fw_X8_18 rfl ht.1 ht.2.2.2.1 ?_
    refine J_aload_n dX8_walkBy_36 rfl rfl ?_
    refine J_getI dX8_walkBy_37 ck_8 fw_X8_24 rfl ht.1 ?_
    refine J_aload_n dX8_walkBy_40 rfl rfl ?_
    refine J_getI dX8_walkBy_41 ck_8 fw_X8_28 rfl ht.1 ?_
    refine J_iast dX8_walkBy_44 ht.2.2.2.2.2.2.2.1 h.1.1 h.1.2 ?_
    replace h := h.2 _ rfl
    refine J_aload_n dX8_walkBy_45 rfl rfl ?_
    refine J_dup dX8_walkBy_46 rfl ?_
    refine J_getI dX8_walkBy_47 ck_8 fw_X8_28 rfl ht.1 ?_
    refine J_iload_n dX8_walkBy_50 rfl rfl ?_
    refine J_iaddN dX8_walkBy_51 h.1 ?_
    replace h := h.2
    refine J_putI dX8_walkBy_52 ck_8 fw_X8_28 rfl rfl (Or.inl rfl) ht.1 ?_
    replace h := h _ rfl
    refine J_aload_n dX8_walkBy_55 rfl rfl ?_
    refine J_getR dX8_walkBy_56 ck_8 fw_X8_21 rfl ht.1 ht.2.2.2.2.1 ?_
    refine J_aload_n dX8_walkBy_59 rfl rfl ?_
    refine J_getI dX8_walkBy_60 ck_8 fw_X8_24 rfl ht.1 ?_
    refine J_aload_n dX8_walkBy_63 rfl rfl ?_
    refine J_getI dX8_walkBy_64 ck_8 fw_X8_28 rfl ht.1 ?_
    refine J_iast dX8_walkBy_67 ht.2.2.2.2.2.2.2.2 h.1.1 h.1.2 ?_
    replace h := h.2 _ rfl
    refine J_aload_n dX8_walkBy_68 rfl rfl ?_
    refine J_dup dX8_walkBy_69 rfl ?_
    refine J_getI dX8_walkBy_70 ck_8 fw_X8_24 rfl ht.1 ?_
    refine J_iconst dX8_walkBy_73 (ii_c rfl) ?_
    refine J_iaddN dX8_walkBy_74 h.1 ?_
    replace h := h.2
    refine J_putI dX8_walkBy_75 ck_8 fw_X8_24 rfl rfl (Or.inl rfl) ht.1 ?_
    replace h := h _ rfl
    refine J_aload_n dX8_walkBy_78 rfl rfl ?_
    refine J_dup dX8_walkBy_79 rfl ?_
    refine J_getI dX8_walkBy_80 ck_8 fw_X8_31 rfl ht.1 ?_
    refine J_iconst dX8_walkBy_83 (ii_c rfl) ?_
    refine J_iload_n dX8_walkBy_84 rfl rfl ?_
    refine J_ishl dX8_walkBy_85 ?_
    refine J_ior dX8_walkBy_86 ?_
    refine J_putI dX8_walkBy_87 ck_8 fw_X8_31 rfl rfl (Or.inl rfl) ht.1 ?_
    replace h := h _ rfl
    refine J_aload_n dX8_walkBy_90 rfl rfl ?_
    refine J_iconst dX8_walkBy_91 (ii_c rfl) ?_
    refine J_putI dX8_walkBy_92 ck_8 fw_X8_34 rfl rfl (Or.inr ⟨rfl, Or.inr rfl⟩) ht.1 ?_
    replace h := h _ rfl
    exact J_retv dX8_walkBy_95 rfl h
set_option maxRecDepth 20000 in
set_option maxHeartbeats 2000000 in
theorem bk_X8_stay_0 {d : Nat} {I : HI} {Q : Option AV → AH → Prop} {t n : Nat} {a1 : Int} (ht : TR t n) (h : (-2147483648 ≤ (I t 5) + a1 ∧ (I t 5) + a1 ≤ 2147483647) ∧ (∀ I1 : HI, I1 = up I t 5 ((I t 5) + a1) → (∀ I2 : HI, I2 = up I1 t 7 1 → Q none (mk I2)))) : J none mX8_stay (d + 1) 0 0 0 [(0, vR t), (1, vI a1)] [] (mk I) Q := by
  refine J_aload_n dX8_stay_0 rfl rfl ?_
  refine J_dup dX8_stay_1 rfl ?_
  refine J_getI dX8_stay_2 ck_8 fw_X8_28 rfl ht.1 ?_
  refine J_iload_n dX8_stay_5 rfl rfl ?_
  refine J_iaddN dX8_stay_6 h.1 ?_
  replace h := h.2
  refine J_putI dX8_stay_7 ck_8 fw_X8_28 rfl rfl (Or.inl rfl) ht.1 ?_
  replace h := h _ rfl
  refine J_aload_n dX8_stay_10 rfl rfl ?_
  refine J_iconst dX8_stay_11 (ii_c rfl) ?_
  refine J_putI dX8_stay_12 ck_8 fw_X8_34 rfl rfl (Or.inr ⟨rfl, Or.inr rfl⟩) ht.1 ?_
  replace h := h _ rfl
  exact J_retv dX8_stay_15 rfl h
set_option maxRecDepth 20000 in
set_option maxHeartbeats 2000000 in
theorem bk_X8_lastCorner_0 {d : Nat} {I : HI} {Q : Option AV → AH → Prop} {t n : Nat} (ht : TR t n) (h : (((I t 4) ≤ 0 → Q (some (vI 0)) (mk I)) ∧ (¬ ((I t 4) ≤ 0) → ((n : Nat) : Int) ≤ 2147483647 ∧ (((n : Int) < (I t 4) → Q (some (vI 0)) (mk I)) ∧ (¬ ((n : Int) < (I t 4)) → (-2147483648 ≤ (I t 4) - 1 ∧ (I t 4) - 1 ≤ 2147483647) ∧ ((0 : Int) ≤ ((I t 4) - 1) ∧ ((I t 4) - 1 : Int) < n) ∧ Q (some (vI (I (t + 1) ((I t 4) - 1).toNat))) (mk I)))))) : J none mX8_lastCorner (d + 1) 0 0 0 [(0, vR t)] [] (mk I) Q := by
  refine J_aload_n dX8_lastCorner_0 rfl rfl ?_
  refine J_getI dX8_lastCorner_1 ck_8 fw_X8_24 rfl ht.1 ?_
  refine J_if_le (tgt := 33) dX8_lastCorner_4 (by decide) (fun c => ?_) (fun c => ?_)
  · replace h := h.1 c
    refine J_iconst dX8_lastCorner_33 (ii_c rfl) ?_
    exact J_reti dX8_lastCorner_34 rfl h
  · replace h := h.2 c
    refine J_aload_n dX8_lastCorner_7 rfl rfl ?_
    refine J_getI dX8_lastCorner_8 ck_8 fw_X8_24 rfl ht.1 ?_
    refine J_aload_n dX8_lastCorner_11 rfl rfl ?_
    refine J_getR dX8_lastCorner_12 ck_8 fw_X8_9 rfl ht.1 ht.2.1 ?_
    refine J_alen dX8_lastCorner_15 ht.2.2.2.2.2.1 (by decide) h.1 ?_
    replace h := h.2
    refine J_ic_gt (tgt := 33) dX8_lastCorner_16 (by decide) (fun c => ?_) (fun c => ?_)
    · replace h := h.1 c
      refine J_iconst dX8_lastCorner_33 (ii_c rfl) ?_
      exact J_reti dX8_lastCorner_34 rfl h
    · replace h := h.2 c
      refine J_aload_n dX8_lastCorner_19 rfl rfl ?_
      refine J_getR dX8_lastCorner_20 ck_8 fw_X8_9 rfl ht.1 ht.2.1 ?_
      refine J_aload_n dX8_lastCorner_23 rfl rfl ?_
      refine J_getI dX8_lastCorner_24 ck_8 fw_X8_24 rfl ht.1 ?_
      refine J_iconst dX8_lastCorner_27 (ii_c rfl) ?_
      refine J_isubN dX8_lastCorner_28 h.1 ?_
      replace h := h.2
      refine J_iald dX8_lastCorner_29 ht.2.2.2.2.2.1 h.1.1 h.1.2 ?_
      replace h := h.2
      refine J_goto (tgt := 34) dX8_lastCorner_30 (by decide) ?_
      exact J_reti dX8_lastCorner_34 rfl h
set_option maxRecDepth 20000 in
set_option maxHeartbeats 2000000 in
theorem bk_X8_cornerAt_0 {d : Nat} {I : HI} {Q : Option AV → AH → Prop} {t n : Nat} {a1 : Int} (ht : TR t n) (h : J none mX8_cornerAt (d + 1) 0 0 4 [(0, vR t), (1, vI a1), (2, vI 0), (3, vI 1)] [] (mk I) Q) : J none mX8_cornerAt (d + 1) 0 0 0 [(0, vR t), (1, vI a1)] [] (mk I) Q := by
  refine J_iconst dX8_cornerAt_0 (ii_c rfl) ?_
  refine J_istore_n dX8_cornerAt_1 rfl (by decide) ?_
  change J _ _ _ _ _ _ [(0, _), (1, _), (2, _)] _ _ _
  refine J_iconst dX8_cornerAt_2 (ii_c rfl) ?_
  refine J_istore_n dX8_cornerAt_3 rfl (by decide) ?_
  change J _ _ _ _ _ _ [(0, _), (1, _), (2, _), (3, _)] _ _ _
  exact h
set_option maxRecDepth 20000 in
set_option maxHeartbeats 2000000 in
theorem bk_X8_cornerAt_4 {d : Nat} {I : HI} {Q : Option AV → AH → Prop} {t n : Nat} {a1 : Int} {a2 : Int} {a3 : Int} (ht : TR t n) (h : (((I t 4) ≤ a3 → ((0 : Int) ≤ a2 ∧ (a2 : Int) < n) ∧ Q (some (vI (I (t + 1) a2.toNat))) (mk I)) ∧ (¬ ((I t 4) ≤ a3) → ((0 : Int) ≤ a3 ∧ (a3 : Int) < n) ∧ ((a1 < (I (t + 4) a3.toNat) → ((0 : Int) ≤ a2 ∧ (a2 : Int) < n) ∧ Q (some (vI (I (t + 1) a2.toNat))) (mk I)) ∧ (¬ (a1 < (I (t + 4) a3.toNat)) → (-2147483648 ≤ a3 + 1 ∧ a3 + 1 ≤ 2147483647) ∧ J none mX8_cornerAt (d + 1) 0 0 4 [(0, vR t), (1, vI a1), (2, vI a3), (3, vI (a3 + 1))] [] (mk I) Q))))) : J none mX8_cornerAt (d + 1) 0 0 4 [(0, vR t), (1, vI a1), (2, vI a2), (3, vI a3)] [] (mk I) Q := by
  refine J_iload_n dX8_cornerAt_4 rfl rfl ?_
  refine J_aload_n dX8_cornerAt_5 rfl rfl ?_
  refine J_getI dX8_cornerAt_6 ck_8 fw_X8_24 rfl ht.1 ?_
  refine J_ic_ge (tgt := 30) dX8_cornerAt_9 (by decide) (fun c => ?_) (fun c => ?_)
  · replace h := h.1 c
    refine J_aload_n dX8_cornerAt_30 rfl rfl ?_
    refine J_getR dX8_cornerAt_31 ck_8 fw_X8_9 rfl ht.1 ht.2.1 ?_
    refine J_iload_n dX8_cornerAt_34 rfl rfl ?_
    refine J_iald dX8_cornerAt_35 ht.2.2.2.2.2.1 h.1.1 h.1.2 ?_
    replace h := h.2
    exact J_reti dX8_cornerAt_36 rfl h
  · replace h := h.2 c
    refine J_aload_n dX8_cornerAt_12 rfl rfl ?_
    refine J_getR dX8_cornerAt_13 ck_8 fw_X8_21 rfl ht.1 ht.2.2.2.2.1 ?_
    refine J_iload_n dX8_cornerAt_16 rfl rfl ?_
    refine J_iald dX8_cornerAt_17 ht.2.2.2.2.2.2.2.2 h.1.1 h.1.2 ?_
    replace h := h.2
    refine J_iload_n dX8_cornerAt_18 rfl rfl ?_
    refine J_ic_gt (tgt := 30) dX8_cornerAt_19 (by decide) (fun c => ?_) (fun c => ?_)
    · replace h := h.1 c
      refine J_aload_n dX8_cornerAt_30 rfl rfl ?_
      refine J_getR dX8_cornerAt_31 ck_8 fw_X8_9 rfl ht.1 ht.2.1 ?_
      refine J_iload_n dX8_cornerAt_34 rfl rfl ?_
      refine J_iald dX8_cornerAt_35 ht.2.2.2.2.2.1 h.1.1 h.1.2 ?_
      replace h := h.2
      exact J_reti dX8_cornerAt_36 rfl h
    · replace h := h.2 c
      refine J_iload_n dX8_cornerAt_22 rfl rfl ?_
      refine J_istore_n dX8_cornerAt_23 rfl (by decide) ?_
      change J _ _ _ _ _ _ [(0, _), (1, _), (2, _), (3, _)] _ _ _
      refine J_iincN dX8_cornerAt_24 rfl (by decide) h.1 ?_
      replace h := h.2
      change J _ _ _ _ _ _ [(0, _), (1, _), (2, _), (3, _)] _ _ _
      refine J_goto (tgt := 4) dX8_cornerAt_27 (by decide) ?_
      exact h
set_option maxRecDepth 20000 in
set_option maxHeartbeats 2000000 in
theorem bk_X8_laneAt_0 {d : Nat} {I : HI} {Q : Option AV → AH → Prop} {t n : Nat} {a1 : Int} (ht : TR t n) (h : J none mX8_laneAt (d + 1) 0 0 2 [(0, vR t), (1, vI a1), (2, vI 1)] [] (mk I) Q) : J none mX8_laneAt (d + 1) 0 0 0 [(0, vR t), (1, vI a1)] [] (mk I) Q := by
  refine J_iconst dX8_laneAt_0 (ii_c rfl) ?_
  refine J_istore_n dX8_laneAt_1 rfl (by decide) ?_
  change J _ _ _ _ _ _ [(0, _), (1, _), (2, _)] _ _ _
  exact h
set_option maxRecDepth 20000 in
set_option maxHeartbeats 2000000 in
theorem bk_X8_laneAt_2 {d : Nat} {I : HI} {Q : Option AV → AH → Prop} {t n : Nat} {a1 : Int} {a2 : Int} (ht : TR t n) (h : (((I t 4) ≤ a2 → Q (some (vI (-1))) (mk I)) ∧ (¬ ((I t 4) ≤ a2) → ((0 : Int) ≤ a2 ∧ (a2 : Int) < n) ∧ ((a1 ≤ (I (t + 3) a2.toNat) → (-2147483648 ≤ a2 + 1 ∧ a2 + 1 ≤ 2147483647) ∧ J none mX8_laneAt (d + 1) 0 0 2 [(0, vR t), (1, vI a1), (2, vI (a2 + 1))] [] (mk I) Q) ∧ (¬ (a1 ≤ (I (t + 3) a2.toNat)) → ((0 : Int) ≤ a2 ∧ (a2 : Int) < n) ∧ (((I (t + 4) a2.toNat) < a1 → (-2147483648 ≤ a2 + 1 ∧ a2 + 1 ≤ 2147483647) ∧ J none mX8_laneAt (d + 1) 0 0 2 [(0, vR t), (1, vI a1), (2, vI (a2 + 1))] [] (mk I) Q) ∧ (¬ ((I (t + 4) a2.toNat) < a1) → ((0 : Int) ≤ a2 ∧ (a2 : Int) < n) ∧ Q (some (vI (I (t + 2) a2.toNat))) (mk I)))))))) : J none mX8_laneAt (d + 1) 0 0 2 [(0, vR t), (1, vI a1), (2, vI a2)] [] (mk I) Q := by
  refine J_iload_n dX8_laneAt_2 rfl rfl ?_
  refine J_aload_n dX8_laneAt_3 rfl rfl ?_
  refine J_getI dX8_laneAt_4 ck_8 fw_X8_24 rfl ht.1 ?_
  refine J_ic_ge (tgt := 43) dX8_laneAt_7 (by decide) (fun c => ?_) (fun c => ?_)
  · replace h := h.1 c
    refine J_iconst dX8_laneAt_43 (ii_c rfl) ?_
    exact J_reti dX8_laneAt_44 rfl h
  · replace h := h.2 c
    refine J_aload_n dX8_laneAt_10 rfl rfl ?_
    refine J_getR dX8_laneAt_11 ck_8 fw_X8_18 rfl ht.1 ht.2.2.2.1 ?_
    refine J_iload_n dX8_laneAt_14 rfl rfl ?_
    refine J_iald dX8_laneAt_15 ht.2.2.2.2.2.2.2.1 h.1.1 h.1.2 ?_
    replace h := h.2
    refine J_iload_n dX8_laneAt_16 rfl rfl ?_
    refine J_ic_ge (tgt := 37) dX8_laneAt_17 (by decide) (fun c => ?_) (fun c => ?_)
    · replace h := h.1 c
      refine J_iincN dX8_laneAt_37 rfl (by decide) h.1 ?_
      replace h := h.2
      change J _ _ _ _ _ _ [(0, _), (1, _), (2, _)] _ _ _
      refine J_goto (tgt := 2) dX8_laneAt_40 (by decide) ?_
      exact h
    · replace h := h.2 c
      refine J_iload_n dX8_laneAt_20 rfl rfl ?_
      refine J_aload_n dX8_laneAt_21 rfl rfl ?_
      refine J_getR dX8_laneAt_22 ck_8 fw_X8_21 rfl ht.1 ht.2.2.2.2.1 ?_
      refine J_iload_n dX8_laneAt_25 rfl rfl ?_
      refine J_iald dX8_laneAt_26 ht.2.2.2.2.2.2.2.2 h.1.1 h.1.2 ?_
      replace h := h.2
      refine J_ic_gt (tgt := 37) dX8_laneAt_27 (by decide) (fun c => ?_) (fun c => ?_)
      · replace h := h.1 c
        refine J_iincN dX8_laneAt_37 rfl (by decide) h.1 ?_
        replace h := h.2
        change J _ _ _ _ _ _ [(0, _), (1, _), (2, _)] _ _ _
        refine J_goto (tgt := 2) dX8_laneAt_40 (by decide) ?_
        exact h
      · replace h := h.2 c
        refine J_aload_n dX8_laneAt_30 rfl rfl ?_
        refine J_getR dX8_laneAt_31 ck_8 fw_X8_15 rfl ht.1 ht.2.2.1 ?_
        refine J_iload_n dX8_laneAt_34 rfl rfl ?_
        refine J_iald dX8_laneAt_35 ht.2.2.2.2.2.2.1 h.1.1 h.1.2 ?_
        replace h := h.2
        exact J_reti dX8_laneAt_36 rfl h
set_option maxRecDepth 20000 in
set_option maxHeartbeats 2000000 in
theorem bk_X9_begin_0 {d : Nat} {I : HI} {Q : Option AV → AH → Prop}   (h : CV mJ7_fill_53178 d [vR 33, vI 0] I (fun I1 => (∀ I2 : HI, I2 = up I1 32 6 0 → CV mX9_replayAll d [vR 32] I2 (fun I3 => Q none (mk I3))))) : J none mX9_begin (d + 1) 0 0 0 [(0, vR 32)] [] (mk I) Q := by
  refine J_aload_n dX9_begin_0 rfl rfl ?_
  refine J_getR dX9_begin_1 ck_9 fw_X9_11 rfl sh_32 rr_32_1 ?_
  refine J_iconst dX9_begin_4 (ii_c rfl) ?_
  refine J_callS (as := [_, _]) (mc1 := 0) (ms1 := 0) (mc := 0) (ms := 0) dX9_begin_5 ms_J7_fill_53178 lk_X9_44 rfl (Nat.le_of_ble_eq_true rfl) (Nat.le_of_ble_eq_true rfl) h (fun r σ hq _ => ?_)
  obtain ⟨I1, rfl, rfl, h⟩ := hq
  change J _ _ _ _ _ _ _ [] _ _
  refine J_aload_n dX9_begin_8 rfl rfl ?_
  refine J_iconst dX9_begin_9 (ii_c rfl) ?_
  refine J_putI dX9_begin_10 ck_9 fw_X9_50 rfl rfl (Or.inl rfl) sh_32 ?_
  replace h := h _ rfl
  refine J_aload_n dX9_begin_13 rfl rfl ?_
  refine J_callV (as := []) (mc1 := 0) (ms1 := 0) (mc := 0) (ms := 0) dX9_begin_14 mv_X9_replayAll lk_X9_54 sh_32 rfl (Nat.le_of_ble_eq_true rfl) (Nat.le_of_ble_eq_true rfl) h (fun r σ hq _ => ?_)
  obtain ⟨I3, rfl, rfl, h⟩ := hq
  change J _ _ _ _ _ _ _ [] _ _
  exact J_retv dX9_begin_17 rfl h
set_option maxRecDepth 20000 in
set_option maxHeartbeats 2000000 in
theorem bk_X9_steps_0 {d : Nat} {I : HI} {Q : Option AV → AH → Prop} {a1 : Int}  (h : ((0 : Int) ≤ a1 ∧ (a1 : Int) < 102) ∧ Q (some (vI (I 33 a1.toNat))) (mk I)) : J none mX9_steps (d + 1) 0 0 0 [(0, vR 32), (1, vI a1)] [] (mk I) Q := by
  refine J_aload_n dX9_steps_0 rfl rfl ?_
  refine J_getR dX9_steps_1 ck_9 fw_X9_11 rfl sh_32 rr_32_1 ?_
  refine J_iload_n dX9_steps_4 rfl rfl ?_
  refine J_iald dX9_steps_5 sh_33 h.1.1 h.1.2 ?_
  replace h := h.2
  exact J_reti dX9_steps_6 rfl h
set_option maxRecDepth 20000 in
set_option maxHeartbeats 2000000 in
theorem bk_X9_shutBits_0 {d : Nat} {I : HI} {Q : Option AV → AH → Prop}   (h : Q (some (vI (I 33 100))) (mk I)) : J none mX9_shutBits (d + 1) 0 0 0 [(0, vR 32)] [] (mk I) Q := by
  refine J_aload_n dX9_shutBits_0 rfl rfl ?_
  refine J_getR dX9_shutBits_1 ck_9 fw_X9_11 rfl sh_32 rr_32_1 ?_
  refine J_bipush dX9_shutBits_4 (ii_c rfl) (by decide) ?_
  refine J_iald dX9_shutBits_6 sh_33 (by decide) (by decide) ?_
  exact J_reti dX9_shutBits_7 rfl h
set_option maxRecDepth 20000 in
set_option maxHeartbeats 2000000 in
theorem bk_X9_onBits_0 {d : Nat} {I : HI} {Q : Option AV → AH → Prop}   (h : Q (some (vI (I 33 101))) (mk I)) : J none mX9_onBits (d + 1) 0 0 0 [(0, vR 32)] [] (mk I) Q := by
  refine J_aload_n dX9_onBits_0 rfl rfl ?_
  refine J_getR dX9_onBits_1 ck_9 fw_X9_11 rfl sh_32 rr_32_1 ?_
  refine J_bipush dX9_onBits_4 (ii_c rfl) (by decide) ?_
  refine J_iald dX9_onBits_6 sh_33 (by decide) (by decide) ?_
  exact J_reti dX9_onBits_7 rfl h
set_option maxRecDepth 20000 in
set_option maxHeartbeats 2000000 in
theorem bk_X9_blocked_0 {d : Nat} {I : HI} {Q : Option AV → AH → Prop} {a1 : Int}  (h : ((0 : Int) ≤ a1 ∧ (a1 : Int) < 4) ∧ (((oA (I (37 + 5 * a1.toNat) 6) (I 33 100)) = 0 → Q (some (vI 0)) (mk I)) ∧ (¬ ((oA (I (37 + 5 * a1.toNat) 6) (I 33 100)) = 0) → Q (some (vI 1)) (mk I)))) : J none mX9_blocked (d + 1) 0 0 0 [(0, vR 32), (1, vI a1)] [] (mk I) Q := by
  refine J_aload_n dX9_blocked_0 rfl rfl ?_
  refine J_getR dX9_blocked_1 ck_9 fw_X9_23 rfl sh_32 rr_32_4 ?_
  refine J_iload_n dX9_blocked_4 rfl rfl ?_
  have hb1 := h.1
  refine J_aald dX9_blocked_5 sh_36 h.1.1 h.1.2 (RRw h.1.1 h.1.2) ?_
  replace h := h.2
  refine J_getI dX9_blocked_6 ck_8 fw_X9_57 rfl ((TRw hb1.1 hb1.2).1) ?_
  refine J_aload_n dX9_blocked_9 rfl rfl ?_
  refine J_getR dX9_blocked_10 ck_9 fw_X9_11 rfl sh_32 rr_32_1 ?_
  refine J_bipush dX9_blocked_13 (ii_c rfl) (by decide) ?_
  refine J_iald dX9_blocked_15 sh_33 (by decide) (by decide) ?_
  refine J_iand dX9_blocked_16 ?_
  refine J_if_eq (tgt := 24) dX9_blocked_17 (by decide) (fun c => ?_) (fun c => ?_)
  · replace h := h.1 c
    refine J_iconst dX9_blocked_24 (ii_c rfl) ?_
    exact J_retz dX9_blocked_25 rfl (Or.inl rfl) h
  · replace h := h.2 c
    refine J_iconst dX9_blocked_20 (ii_c rfl) ?_
    refine J_goto (tgt := 25) dX9_blocked_21 (by decide) ?_
    exact J_retz dX9_blocked_25 rfl (Or.inr rfl) h
set_option maxRecDepth 20000 in
set_option maxHeartbeats 2000000 in
theorem bk_X9_replayAll_0 {d : Nat} {I : HI} {Q : Option AV → AH → Prop}   (h : J none mX9_replayAll (d + 1) 0 0 2 [(0, vR 32), (1, vI 0)] [] (mk I) Q) : J none mX9_replayAll (d + 1) 0 0 0 [(0, vR 32)] [] (mk I) Q := by
  refine J_iconst dX9_replayAll_0 (ii_c rfl) ?_
  refine J_istore_n dX9_replayAll_1 rfl (by decide) ?_
  change J _ _ _ _ _ _ [(0, _), (1, _)] _ _ _
  exact h
set_option maxRecDepth 20000 in
set_option maxHeartbeats 2000000 in
theorem bk_X9_replayAll_2 {d : Nat} {I : HI} {Q : Option AV → AH → Prop} {a1 : Int}  (h : (((I 2 2) ≤ a1 → (∀ I1 : HI, I1 = up I 32 7 1 → (∀ I2 : HI, I2 = up I1 32 8 1 → (∀ I3 : HI, I3 = up I2 32 9 1 → Q none (mk I3))))) ∧ (¬ ((I 2 2) ≤ a1) → CV mX9_replay d [vR 32, vI a1] I (fun I4 => (-2147483648 ≤ a1 + 1 ∧ a1 + 1 ≤ 2147483647) ∧ J none mX9_replayAll (d + 1) 0 0 2 [(0, vR 32), (1, vI (a1 + 1))] [] (mk I4) Q)))) : J none mX9_replayAll (d + 1) 0 0 2 [(0, vR 32), (1, vI a1)] [] (mk I) Q := by
  refine J_iload_n dX9_replayAll_2 rfl rfl ?_
  refine J_aload_n dX9_replayAll_3 rfl rfl ?_
  refine J_getR dX9_replayAll_4 ck_9 fw_X9_37 rfl sh_32 rr_32_0 ?_
  refine J_getR dX9_replayAll_7 ck_0 fw_X9_60 rfl sh_1 rr_1_0 ?_
  refine J_iconst dX9_replayAll_10 (ii_c rfl) ?_
  refine J_iald dX9_replayAll_11 sh_2 (by decide) (by decide) ?_
  refine J_ic_ge (tgt := 26) dX9_replayAll_12 (by decide) (fun c => ?_) (fun c => ?_)
  · replace h := h.1 c
    refine J_aload_n dX9_replayAll_26 rfl rfl ?_
    refine J_iconst dX9_replayAll_27 (ii_c rfl) ?_
    refine J_putI dX9_replayAll_28 ck_9 fw_X9_27 rfl rfl (Or.inr ⟨rfl, Or.inr rfl⟩) sh_32 ?_
    replace h := h _ rfl
    refine J_aload_n dX9_replayAll_31 rfl rfl ?_
    refine J_iconst dX9_replayAll_32 (ii_c rfl) ?_
    refine J_putI dX9_replayAll_33 ck_9 fw_X9_31 rfl rfl (Or.inr ⟨rfl, Or.inr rfl⟩) sh_32 ?_
    replace h := h _ rfl
    refine J_aload_n dX9_replayAll_36 rfl rfl ?_
    refine J_iconst dX9_replayAll_37 (ii_c rfl) ?_
    refine J_putI dX9_replayAll_38 ck_9 fw_X9_34 rfl rfl (Or.inr ⟨rfl, Or.inr rfl⟩) sh_32 ?_
    replace h := h _ rfl
    exact J_retv dX9_replayAll_41 rfl h
  · replace h := h.2 c
    refine J_aload_n dX9_replayAll_15 rfl rfl ?_
    refine J_iload_n dX9_replayAll_16 rfl rfl ?_
    refine J_callV (as := [_]) (mc1 := 0) (ms1 := 0) (mc := 0) (ms := 0) dX9_replayAll_17 mv_X9_replay lk_X9_65 sh_32 rfl (Nat.le_of_ble_eq_true rfl) (Nat.le_of_ble_eq_true rfl) h (fun r σ hq _ => ?_)
    obtain ⟨I4, rfl, rfl, h⟩ := hq
    change J _ _ _ _ _ _ _ [] _ _
    refine J_iincN dX9_replayAll_20 rfl (by decide) h.1 ?_
    replace h := h.2
    change J _ _ _ _ _ _ [(0, _), (1, _)] _ _ _
    refine J_goto (tgt := 2) dX9_replayAll_23 (by decide) ?_
    exact h
set_option maxRecDepth 20000 in
set_option maxHeartbeats 2000000 in
theorem bk_X9_replay_0 {d : Nat} {I : HI} {Q : Option AV → AH → Prop} {a1 : Int}  (h : ((0 : Int) ≤ a1 ∧ (a1 : Int) < 4) ∧ (-2147483648 ≤ a1 * 4 ∧ a1 * 4 ≤ 2147483647) ∧ ((0 : Int) ≤ (a1 * 4) ∧ (a1 * 4 : Int) < 16) ∧ CV mX8_start d [vR (37 + 5 * a1.toNat), vI (I 7 (a1 * 4).toNat)] I (fun I1 => J none mX9_replay (d + 1) 0 0 24 [(0, vR 32), (1, vI a1), (2, vR (37 + 5 * a1.toNat)), (3, vI 0)] [] (mk I1) Q)) : J none mX9_replay (d + 1) 0 0 0 [(0, vR 32), (1, vI a1)] [] (mk I) Q := by
  refine J_aload_n dX9_replay_0 rfl rfl ?_
  refine J_getR dX9_replay_1 ck_9 fw_X9_23 rfl sh_32 rr_32_4 ?_
  refine J_iload_n dX9_replay_4 rfl rfl ?_
  have hb1 := h.1
  refine J_aald dX9_replay_5 sh_36 h.1.1 h.1.2 (RRw h.1.1 h.1.2) ?_
  replace h := h.2
  refine J_astore_n dX9_replay_6 rfl (by decide) ?_
  change J _ _ _ _ _ _ [(0, _), (1, _), (2, _)] _ _ _
  refine J_aload_n dX9_replay_7 rfl rfl ?_
  refine J_aload_n dX9_replay_8 rfl rfl ?_
  refine J_getR dX9_replay_9 ck_9 fw_X9_37 rfl sh_32 rr_32_0 ?_
  refine J_getR dX9_replay_12 ck_0 fw_X9_68 rfl sh_1 rr_1_5 ?_
  refine J_iload_n dX9_replay_15 rfl rfl ?_
  refine J_iconst dX9_replay_16 (ii_c rfl) ?_
  refine J_imulN dX9_replay_17 h.1 ?_
  replace h := h.2
  refine J_iald dX9_replay_18 sh_7 h.1.1 h.1.2 ?_
  replace h := h.2
  refine J_callV (as := [_]) (mc1 := 0) (ms1 := 0) (mc := 0) (ms := 0) dX9_replay_19 mv_X8_start lk_X9_71 ((TRw hb1.1 hb1.2).1) rfl (Nat.le_of_ble_eq_true rfl) (Nat.le_of_ble_eq_true rfl) h (fun r σ hq _ => ?_)
  obtain ⟨I1, rfl, rfl, h⟩ := hq
  change J _ _ _ _ _ _ _ [] _ _
  refine J_iconst dX9_replay_22 (ii_c rfl) ?_
  refine J_istore_n dX9_replay_23 rfl (by decide) ?_
  change J _ _ _ _ _ _ [(0, _), (1, _), (2, _), (3, _)] _ _ _
  exact h
set_option maxRecDepth 20000 in
set_option maxHeartbeats 2000000 in
theorem bk_X9_replay_24 {d : Nat} {I : HI} {Q : Option AV → AH → Prop} {a1 : Int} {a2 ka2 : Nat} {a3 : Int} (ha2 : TR a2 ka2) (h : ((0 : Int) ≤ a1 ∧ (a1 : Int) < 102) ∧ (((I 33 a1.toNat) ≤ a3 → Q none (mk I)) ∧ (¬ ((I 33 a1.toNat) ≤ a3) → ((24 ≤ a3 → Q none (mk I)) ∧ (¬ (24 ≤ a3) → (-2147483648 ≤ a1 * 24 ∧ a1 * 24 ≤ 2147483647) ∧ (-2147483648 ≤ 4 + (a1 * 24) ∧ 4 + (a1 * 24) ≤ 2147483647) ∧ (-2147483648 ≤ (4 + (a1 * 24)) + a3 ∧ (4 + (a1 * 24)) + a3 ≤ 2147483647) ∧ ((0 : Int) ≤ ((4 + (a1 * 24)) + a3) ∧ ((4 + (a1 * 24)) + a3 : Int) < 102) ∧ (((I 33 ((4 + (a1 * 24)) + a3).toNat) ≤ 100 → CI mX8_lastCorner d [vR a2] I (fun x1 I1 => CI mX9_laneTo d [vR 32, vI x1, vI (I 33 ((4 + (a1 * 24)) + a3).toNat)] I1 (fun x2 I2 => ((x2 = (-1) → (-2147483648 ≤ a3 + 1 ∧ a3 + 1 ≤ 2147483647) ∧ J none mX9_replay (d + 1) 0 0 24 [(0, vR 32), (1, vI a1), (2, vR a2), (3, vI (a3 + 1))] [] (mk I2) Q) ∧ (¬ (x2 = (-1)) → CI mX0_minutesOf d [vR 1, vI a1, vI x2] I2 (fun x3 I3 => CV mX8_walkBy d [vR a2, vI x2, vI (I 33 ((4 + (a1 * 24)) + a3).toNat), vI x3] I3 (fun I4 => (-2147483648 ≤ a3 + 1 ∧ a3 + 1 ≤ 2147483647) ∧ J none mX9_replay (d + 1) 0 0 24 [(0, vR 32), (1, vI a1), (2, vR a2), (3, vI (a3 + 1))] [] (mk I4) Q))))))) ∧ (¬ ((I 33 ((4 + (a1 * 24)) + a3).toNat) ≤ 100) → (-2147483648 ≤ (I 33 ((4 + (a1 * 24)) + a3).toNat) - 100 ∧ (I 33 ((4 + (a1 * 24)) + a3).toNat) - 100 ≤ 2147483647) ∧ CV mX8_stay d [vR a2, vI ((I 33 ((4 + (a1 * 24)) + a3).toNat) - 100)] I (fun I5 => (-2147483648 ≤ a3 + 1 ∧ a3 + 1 ≤ 2147483647) ∧ J none mX9_replay (d + 1) 0 0 24 [(0, vR 32), (1, vI a1), (2, vR a2), (3, vI (a3 + 1))] [] (mk I5) Q)))))))) : J none mX9_replay (d + 1) 0 0 24 [(0, vR 32), (1, vI a1), (2, vR a2), (3, vI a3)] [] (mk I) Q := by
  refine J_iload_n dX9_replay_24 rfl rfl ?_
  refine J_aload_n dX9_replay_25 rfl rfl ?_
  refine J_getR dX9_replay_26 ck_9 fw_X9_11 rfl sh_32 rr_32_1 ?_
  refine J_iload_n dX9_replay_29 rfl rfl ?_
  refine J_iald dX9_replay_30 sh_33 h.1.1 h.1.2 ?_
  replace h := h.2
  refine J_ic_ge (tgt := 116) dX9_replay_31 (by decide) (fun c => ?_) (fun c => ?_)
  · replace h := h.1 c
    exact J_retv dX9_replay_116 rfl h
  · replace h := h.2 c
    refine J_iload_n dX9_replay_34 rfl rfl ?_
    refine J_bipush dX9_replay_35 (ii_c rfl) (by decide) ?_
    refine J_ic_ge (tgt := 116) dX9_replay_37 (by decide) (fun c => ?_) (fun c => ?_)
    · replace h := h.1 c
      exact J_retv dX9_replay_116 rfl h
    · replace h := h.2 c
      refine J_aload_n dX9_replay_40 rfl rfl ?_
      refine J_getR dX9_replay_41 ck_9 fw_X9_11 rfl sh_32 rr_32_1 ?_
      refine J_iconst dX9_replay_44 (ii_c rfl) ?_
      refine J_iload_n dX9_replay_45 rfl rfl ?_
      refine J_bipush dX9_replay_46 (ii_c rfl) (by decide) ?_
      refine J_imulN dX9_replay_48 h.1 ?_
      replace h := h.2
      refine J_iaddN dX9_replay_49 h.1 ?_
      replace h := h.2
      refine J_iload_n dX9_replay_50 rfl rfl ?_
      refine J_iaddN dX9_replay_51 h.1 ?_
      replace h := h.2
      refine J_iald dX9_replay_52 sh_33 h.1.1 h.1.2 ?_
      replace h := h.2
      refine J_istore dX9_replay_53 (by decide) ?_
      change J _ _ _ _ _ _ [(0, _), (1, _), (2, _), (3, _), (4, _)] _ _ _
      refine J_iload dX9_replay_55 rfl ?_
      refine J_bipush dX9_replay_57 (ii_c rfl) (by decide) ?_
      refine J_ic_le (tgt := 74) dX9_replay_59 (by decide) (fun c => ?_) (fun c => ?_)
      · replace h := h.1 c
        refine J_aload_n dX9_replay_74 rfl rfl ?_
        refine J_aload_n dX9_replay_75 rfl rfl ?_
        refine J_callV (as := []) (mc1 := 0) (ms1 := 0) (mc := 0) (ms := 0) dX9_replay_76 mv_X8_lastCorner lk_X9_77 ha2.1 rfl (Nat.le_of_ble_eq_true rfl) (Nat.le_of_ble_eq_true rfl) h (fun r σ hq _ => ?_)
        obtain ⟨x1, I1, rfl, rfl, h⟩ := hq
        change J _ _ _ _ _ _ _ [vI x1, _] _ _
        refine J_iload dX9_replay_79 rfl ?_
        refine J_callV (as := [_, _]) (mc1 := 0) (ms1 := 0) (mc := 0) (ms := 0) dX9_replay_81 mv_X9_laneTo lk_X9_81 sh_32 rfl (Nat.le_of_ble_eq_true rfl) (Nat.le_of_ble_eq_true rfl) h (fun r σ hq _ => ?_)
        obtain ⟨x2, I2, rfl, rfl, h⟩ := hq
        change J _ _ _ _ _ _ _ [vI x2] _ _
        refine J_istore dX9_replay_84 (by decide) ?_
        change J _ _ _ _ _ _ [(0, _), (1, _), (2, _), (3, _), (4, _), (5, _)] _ _ _
        refine J_iload dX9_replay_86 rfl ?_
        refine J_iconst dX9_replay_88 (ii_c rfl) ?_
        refine J_ic_eq (tgt := 110) dX9_replay_89 (by decide) (fun c => ?_) (fun c => ?_)
        · replace h := h.1 c
          refine J_iincN dX9_replay_110 rfl (by decide) h.1 ?_
          replace h := h.2
          change J _ _ _ _ _ _ [(0, _), (1, _), (2, _), (3, _), (4, _), (5, _)] _ _ _
          refine J_goto (tgt := 24) dX9_replay_113 (by decide) ?_
          exact J_loc (ls_sub [0, 1, 2, 3] rfl) h
        · replace h := h.2 c
          refine J_aload_n dX9_replay_92 rfl rfl ?_
          refine J_iload dX9_replay_93 rfl ?_
          refine J_iload dX9_replay_95 rfl ?_
          refine J_aload_n dX9_replay_97 rfl rfl ?_
          refine J_getR dX9_replay_98 ck_9 fw_X9_37 rfl sh_32 rr_32_0 ?_
          refine J_iload_n dX9_replay_101 rfl rfl ?_
          refine J_iload dX9_replay_102 rfl ?_
          refine J_callV (as := [_, _]) (mc1 := 0) (ms1 := 0) (mc := 0) (ms := 0) dX9_replay_104 mv_X0_minutesOf lk_X9_85 sh_1 rfl (Nat.le_of_ble_eq_true rfl) (Nat.le_of_ble_eq_true rfl) h (fun r σ hq _ => ?_)
          obtain ⟨x3, I3, rfl, rfl, h⟩ := hq
          change J _ _ _ _ _ _ _ [vI x3, _, vI x2, _] _ _
          refine J_callV (as := [_, _, _]) (mc1 := 0) (ms1 := 0) (mc := 0) (ms := 0) dX9_replay_107 mv_X8_walkBy lk_X9_88 ha2.1 rfl (Nat.le_of_ble_eq_true rfl) (Nat.le_of_ble_eq_true rfl) h (fun r σ hq _ => ?_)
          obtain ⟨I4, rfl, rfl, h⟩ := hq
          change J _ _ _ _ _ _ _ [] _ _
          refine J_iincN dX9_replay_110 rfl (by decide) h.1 ?_
          replace h := h.2
          change J _ _ _ _ _ _ [(0, _), (1, _), (2, _), (3, _), (4, _), (5, _)] _ _ _
          refine J_goto (tgt := 24) dX9_replay_113 (by decide) ?_
          exact J_loc (ls_sub [0, 1, 2, 3] rfl) h
      · replace h := h.2 c
        refine J_aload_n dX9_replay_62 rfl rfl ?_
        refine J_iload dX9_replay_63 rfl ?_
        refine J_bipush dX9_replay_65 (ii_c rfl) (by decide) ?_
        refine J_isubN dX9_replay_67 h.1 ?_
        replace h := h.2
        refine J_callV (as := [_]) (mc1 := 0) (ms1 := 0) (mc := 0) (ms := 0) dX9_replay_68 mv_X8_stay lk_X9_74 ha2.1 rfl (Nat.le_of_ble_eq_true rfl) (Nat.le_of_ble_eq_true rfl) h (fun r σ hq _ => ?_)
        obtain ⟨I5, rfl, rfl, h⟩ := hq
        change J _ _ _ _ _ _ _ [] _ _
        refine J_goto (tgt := 110) dX9_replay_71 (by decide) ?_
        refine J_iincN dX9_replay_110 rfl (by decide) h.1 ?_
        replace h := h.2
        change J _ _ _ _ _ _ [(0, _), (1, _), (2, _), (3, _), (4, _)] _ _ _
        refine J_goto (tgt := 24) dX9_replay_113 (by decide) ?_
        exact J_loc (ls_sub [0, 1, 2, 3] rfl) h
set_option maxRecDepth 20000 in
set_option maxHeartbeats 2000000 in
theorem bk_X9_laneTo_0 {d : Nat} {I : HI} {Q : Option AV → AH → Prop} {a1 : Int} {a2 : Int}  (h : ((a2 < 0 → Q (some (vI (-1))) (mk I)) ∧ (¬ (a2 < 0) → ((a2 < (I 2 0) → (-2147483648 ≤ a1 * 10 ∧ a1 * 10 ≤ 2147483647) ∧ (-2147483648 ≤ (a1 * 10) + a2 ∧ (a1 * 10) + a2 ≤ 2147483647) ∧ ((0 : Int) ≤ ((a1 * 10) + a2) ∧ ((a1 * 10) + a2 : Int) < 100) ∧ Q (some (vI (I 12 ((a1 * 10) + a2).toNat))) (mk I)) ∧ (¬ (a2 < (I 2 0)) → Q (some (vI (-1))) (mk I)))))) : J none mX9_laneTo (d + 1) 0 0 0 [(0, vR 32), (1, vI a1), (2, vI a2)] [] (mk I) Q := by
  refine J_iload_n dX9_laneTo_0 rfl rfl ?_
  refine J_if_lt (tgt := 17) dX9_laneTo_1 (by decide) (fun c => ?_) (fun c => ?_)
  · replace h := h.1 c
    refine J_iconst dX9_laneTo_17 (ii_c rfl) ?_
    refine J_goto (tgt := 35) dX9_laneTo_18 (by decide) ?_
    exact J_reti dX9_laneTo_35 rfl h
  · replace h := h.2 c
    refine J_iload_n dX9_laneTo_4 rfl rfl ?_
    refine J_aload_n dX9_laneTo_5 rfl rfl ?_
    refine J_getR dX9_laneTo_6 ck_9 fw_X9_37 rfl sh_32 rr_32_0 ?_
    refine J_getR dX9_laneTo_9 ck_0 fw_X9_60 rfl sh_1 rr_1_0 ?_
    refine J_iconst dX9_laneTo_12 (ii_c rfl) ?_
    refine J_iald dX9_laneTo_13 sh_2 (by decide) (by decide) ?_
    refine J_ic_lt (tgt := 21) dX9_laneTo_14 (by decide) (fun c => ?_) (fun c => ?_)
    · replace h := h.1 c
      refine J_aload_n dX9_laneTo_21 rfl rfl ?_
      refine J_getR dX9_laneTo_22 ck_9 fw_X9_37 rfl sh_32 rr_32_0 ?_
      refine J_getR dX9_laneTo_25 ck_0 fw_X9_92 rfl sh_1 rr_1_10 ?_
      refine J_iload_n dX9_laneTo_28 rfl rfl ?_
      refine J_bipush dX9_laneTo_29 (ii_c rfl) (by decide) ?_
      refine J_imulN dX9_laneTo_31 h.1 ?_
      replace h := h.2
      refine J_iload_n dX9_laneTo_32 rfl rfl ?_
      refine J_iaddN dX9_laneTo_33 h.1 ?_
      replace h := h.2
      refine J_iald dX9_laneTo_34 sh_12 h.1.1 h.1.2 ?_
      replace h := h.2
      exact J_reti dX9_laneTo_35 rfl h
    · replace h := h.2 c
      refine J_iconst dX9_laneTo_17 (ii_c rfl) ?_
      refine J_goto (tgt := 35) dX9_laneTo_18 (by decide) ?_
      exact J_reti dX9_laneTo_35 rfl h
set_option maxRecDepth 20000 in
set_option maxHeartbeats 2000000 in
theorem bk_X9_keep_0 {d : Nat} {I : HI} {Q : Option AV → AH → Prop}   (h : (-2147483648 ≤ (I 32 5) + (I 32 6) ∧ (I 32 5) + (I 32 6) ≤ 2147483647) ∧ (-2147483648 ≤ (oM ((I 32 5) + (I 32 6)) 21) * 102 ∧ (oM ((I 32 5) + (I 32 6)) 21) * 102 ≤ 2147483647) ∧ ((0 : Int) ≤ 0 ∧ (0 : Int) ≤ ((oM ((I 32 5) + (I 32 6)) 21) * 102) ∧ (0 : Int) ≤ 102 ∧ (0 : Int) + 102 ≤ 102 ∧ ((oM ((I 32 5) + (I 32 6)) 21) * 102 : Int) + 102 ≤ 2142) ∧ (∀ I1 : HI, I1 = cpI I 33 0 35 ((oM ((I 32 5) + (I 32 6)) 21) * 102).toNat 102 → Q none (mk I1))) : J none mX9_keep (d + 1) 0 0 0 [(0, vR 32)] [] (mk I) Q := by
  refine J_aload_n dX9_keep_0 rfl rfl ?_
  refine J_getR dX9_keep_1 ck_9 fw_X9_11 rfl sh_32 rr_32_1 ?_
  refine J_iconst dX9_keep_4 (ii_c rfl) ?_
  refine J_aload_n dX9_keep_5 rfl rfl ?_
  refine J_getR dX9_keep_6 ck_9 fw_X9_18 rfl sh_32 rr_32_3 ?_
  refine J_aload_n dX9_keep_9 rfl rfl ?_
  refine J_getI dX9_keep_10 ck_9 fw_X9_95 rfl sh_32 ?_
  refine J_aload_n dX9_keep_13 rfl rfl ?_
  refine J_getI dX9_keep_14 ck_9 fw_X9_50 rfl sh_32 ?_
  refine J_iaddN dX9_keep_17 h.1 ?_
  replace h := h.2
  refine J_bipush dX9_keep_18 (ii_c rfl) (by decide) ?_
  refine J_irem dX9_keep_20 (by decide) ?_
  refine J_bipush dX9_keep_21 (ii_c rfl) (by decide) ?_
  refine J_imulN dX9_keep_23 h.1 ?_
  replace h := h.2
  refine J_bipush dX9_keep_24 (ii_c rfl) (by decide) ?_
  refine J_copy dX9_keep_26 lk_X9_98 sw_2 sw_3 iw_java_lang_System sh_33 sh_35 h.1.1 h.1.2.1 h.1.2.2.1 h.1.2.2.2.1 h.1.2.2.2.2 (Nat.le_of_ble_eq_true rfl) ?_
  replace h := h.2 _ rfl
  exact J_retv dX9_keep_29 rfl h
set_option maxRecDepth 20000 in
set_option maxHeartbeats 2000000 in
theorem bk_X9_commit_0 {d : Nat} {I : HI} {Q : Option AV → AH → Prop}   (h : ((20 ≤ (I 32 6) → (-2147483648 ≤ (I 32 5) + 1 ∧ (I 32 5) + 1 ≤ 2147483647) ∧ (∀ I1 : HI, I1 = up I 32 5 (oM ((I 32 5) + 1) 21) → Q none (mk I1))) ∧ (¬ (20 ≤ (I 32 6)) → (-2147483648 ≤ (I 32 6) + 1 ∧ (I 32 6) + 1 ≤ 2147483647) ∧ (∀ I2 : HI, I2 = up I 32 6 ((I 32 6) + 1) → Q none (mk I2))))) : J none mX9_commit (d + 1) 0 0 0 [(0, vR 32)] [] (mk I) Q := by
  refine J_aload_n dX9_commit_0 rfl rfl ?_
  refine J_getI dX9_commit_1 ck_9 fw_X9_50 rfl sh_32 ?_
  refine J_bipush dX9_commit_4 (ii_c rfl) (by decide) ?_
  refine J_ic_ge (tgt := 22) dX9_commit_6 (by decide) (fun c => ?_) (fun c => ?_)
  · replace h := h.1 c
    refine J_aload_n dX9_commit_22 rfl rfl ?_
    refine J_aload_n dX9_commit_23 rfl rfl ?_
    refine J_getI dX9_commit_24 ck_9 fw_X9_95 rfl sh_32 ?_
    refine J_iconst dX9_commit_27 (ii_c rfl) ?_
    refine J_iaddN dX9_commit_28 h.1 ?_
    replace h := h.2
    refine J_bipush dX9_commit_29 (ii_c rfl) (by decide) ?_
    refine J_irem dX9_commit_31 (by decide) ?_
    refine J_putI dX9_commit_32 ck_9 fw_X9_95 rfl rfl (Or.inl rfl) sh_32 ?_
    replace h := h _ rfl
    exact J_retv dX9_commit_35 rfl h
  · replace h := h.2 c
    refine J_aload_n dX9_commit_9 rfl rfl ?_
    refine J_dup dX9_commit_10 rfl ?_
    refine J_getI dX9_commit_11 ck_9 fw_X9_50 rfl sh_32 ?_
    refine J_iconst dX9_commit_14 (ii_c rfl) ?_
    refine J_iaddN dX9_commit_15 h.1 ?_
    replace h := h.2
    refine J_putI dX9_commit_16 ck_9 fw_X9_50 rfl rfl (Or.inl rfl) sh_32 ?_
    replace h := h _ rfl
    refine J_goto (tgt := 35) dX9_commit_19 (by decide) ?_
    exact J_retv dX9_commit_35 rfl h
set_option maxRecDepth 20000 in
set_option maxHeartbeats 2000000 in
theorem bk_X9_revert_0 {d : Nat} {I : HI} {Q : Option AV → AH → Prop}   (h : (((I 32 6) ≠ 0 → (-2147483648 ≤ (I 32 6) - 1 ∧ (I 32 6) - 1 ≤ 2147483647) ∧ (∀ I1 : HI, I1 = up I 32 6 ((I 32 6) - 1) → (-2147483648 ≤ (I1 32 5) + (I1 32 6) ∧ (I1 32 5) + (I1 32 6) ≤ 2147483647) ∧ (-2147483648 ≤ (oM ((I1 32 5) + (I1 32 6)) 21) * 102 ∧ (oM ((I1 32 5) + (I1 32 6)) 21) * 102 ≤ 2147483647) ∧ ((0 : Int) ≤ ((oM ((I1 32 5) + (I1 32 6)) 21) * 102) ∧ (0 : Int) ≤ 0 ∧ (0 : Int) ≤ 102 ∧ ((oM ((I1 32 5) + (I1 32 6)) 21) * 102 : Int) + 102 ≤ 2142 ∧ (0 : Int) + 102 ≤ 102) ∧ (∀ I2 : HI, I2 = cpI I1 35 ((oM ((I1 32 5) + (I1 32 6)) 21) * 102).toNat 33 0 102 → CV mX9_replayAll d [vR 32] I2 (fun I3 => Q (some (vI 1)) (mk I3))))) ∧ ((I 32 6) = 0 → Q (some (vI 0)) (mk I)))) : J none mX9_revert (d + 1) 0 0 0 [(0, vR 32)] [] (mk I) Q := by
  refine J_aload_n dX9_revert_0 rfl rfl ?_
  refine J_getI dX9_revert_1 ck_9 fw_X9_50 rfl sh_32 ?_
  refine J_if_ne (tgt := 9) dX9_revert_4 (by decide) (fun c => ?_) (fun c => ?_)
  · replace h := h.1 c
    refine J_aload_n dX9_revert_9 rfl rfl ?_
    refine J_dup dX9_revert_10 rfl ?_
    refine J_getI dX9_revert_11 ck_9 fw_X9_50 rfl sh_32 ?_
    refine J_iconst dX9_revert_14 (ii_c rfl) ?_
    refine J_isubN dX9_revert_15 h.1 ?_
    replace h := h.2
    refine J_putI dX9_revert_16 ck_9 fw_X9_50 rfl rfl (Or.inl rfl) sh_32 ?_
    replace h := h _ rfl
    refine J_aload_n dX9_revert_19 rfl rfl ?_
    refine J_getR dX9_revert_20 ck_9 fw_X9_18 rfl sh_32 rr_32_3 ?_
    refine J_aload_n dX9_revert_23 rfl rfl ?_
    refine J_getI dX9_revert_24 ck_9 fw_X9_95 rfl sh_32 ?_
    refine J_aload_n dX9_revert_27 rfl rfl ?_
    refine J_getI dX9_revert_28 ck_9 fw_X9_50 rfl sh_32 ?_
    refine J_iaddN dX9_revert_31 h.1 ?_
    replace h := h.2
    refine J_bipush dX9_revert_32 (ii_c rfl) (by decide) ?_
    refine J_irem dX9_revert_34 (by decide) ?_
    refine J_bipush dX9_revert_35 (ii_c rfl) (by decide) ?_
    refine J_imulN dX9_revert_37 h.1 ?_
    replace h := h.2
    refine J_aload_n dX9_revert_38 rfl rfl ?_
    refine J_getR dX9_revert_39 ck_9 fw_X9_11 rfl sh_32 rr_32_1 ?_
    refine J_iconst dX9_revert_42 (ii_c rfl) ?_
    refine J_bipush dX9_revert_43 (ii_c rfl) (by decide) ?_
    refine J_copy dX9_revert_45 lk_X9_98 sw_2 sw_3 iw_java_lang_System sh_35 sh_33 h.1.1 h.1.2.1 h.1.2.2.1 h.1.2.2.2.1 h.1.2.2.2.2 (Nat.le_of_ble_eq_true rfl) ?_
    replace h := h.2 _ rfl
    refine J_aload_n dX9_revert_48 rfl rfl ?_
    refine J_callV (as := []) (mc1 := 0) (ms1 := 0) (mc := 0) (ms := 0) dX9_revert_49 mv_X9_replayAll lk_X9_54 sh_32 rfl (Nat.le_of_ble_eq_true rfl) (Nat.le_of_ble_eq_true rfl) h (fun r σ hq _ => ?_)
    obtain ⟨I3, rfl, rfl, h⟩ := hq
    change J _ _ _ _ _ _ _ [] _ _
    refine J_iconst dX9_revert_52 (ii_c rfl) ?_
    exact J_retz dX9_revert_53 rfl (Or.inr rfl) h
  · replace h := h.2 c
    refine J_iconst dX9_revert_7 (ii_c rfl) ?_
    exact J_retz dX9_revert_8 rfl (Or.inl rfl) h
set_option maxRecDepth 20000 in
set_option maxHeartbeats 2000000 in
theorem bk_X9_addStep_0 {d : Nat} {I : HI} {Q : Option AV → AH → Prop} {a1 : Int} {a2 : Int}  (h : CV mX9_keep d [vR 32] I (fun I1 => CV mX9_commit d [vR 32] I1 (fun I2 => (-2147483648 ≤ a1 * 24 ∧ a1 * 24 ≤ 2147483647) ∧ (-2147483648 ≤ 4 + (a1 * 24) ∧ 4 + (a1 * 24) ≤ 2147483647) ∧ ((0 : Int) ≤ a1 ∧ (a1 : Int) < 102) ∧ (-2147483648 ≤ (4 + (a1 * 24)) + (I2 33 a1.toNat) ∧ (4 + (a1 * 24)) + (I2 33 a1.toNat) ≤ 2147483647) ∧ ((0 : Int) ≤ ((4 + (a1 * 24)) + (I2 33 a1.toNat)) ∧ ((4 + (a1 * 24)) + (I2 33 a1.toNat) : Int) < 102) ∧ (∀ I3 : HI, I3 = up I2 33 ((4 + (a1 * 24)) + (I2 33 a1.toNat)).toNat a2 → ((0 : Int) ≤ a1 ∧ (a1 : Int) < 102) ∧ (-2147483648 ≤ (I3 33 a1.toNat) + 1 ∧ (I3 33 a1.toNat) + 1 ≤ 2147483647) ∧ ((0 : Int) ≤ a1 ∧ (a1 : Int) < 102) ∧ (∀ I4 : HI, I4 = up I3 33 a1.toNat ((I3 33 a1.toNat) + 1) → (∀ I5 : HI, I5 = up I4 32 7 1 → Q none (mk I5))))))) : J none mX9_addStep (d + 1) 0 0 0 [(0, vR 32), (1, vI a1), (2, vI a2)] [] (mk I) Q := by
  refine J_aload_n dX9_addStep_0 rfl rfl ?_
  refine J_callV (as := []) (mc1 := 0) (ms1 := 0) (mc := 0) (ms := 0) dX9_addStep_1 mv_X9_keep lk_X9_104 sh_32 rfl (Nat.le_of_ble_eq_true rfl) (Nat.le_of_ble_eq_true rfl) h (fun r σ hq _ => ?_)
  obtain ⟨I1, rfl, rfl, h⟩ := hq
  change J _ _ _ _ _ _ _ [] _ _
  refine J_aload_n dX9_addStep_4 rfl rfl ?_
  refine J_callV (as := []) (mc1 := 0) (ms1 := 0) (mc := 0) (ms := 0) dX9_addStep_5 mv_X9_commit lk_X9_107 sh_32 rfl (Nat.le_of_ble_eq_true rfl) (Nat.le_of_ble_eq_true rfl) h (fun r σ hq _ => ?_)
  obtain ⟨I2, rfl, rfl, h⟩ := hq
  change J _ _ _ _ _ _ _ [] _ _
  refine J_aload_n dX9_addStep_8 rfl rfl ?_
  refine J_getR dX9_addStep_9 ck_9 fw_X9_11 rfl sh_32 rr_32_1 ?_
  refine J_iconst dX9_addStep_12 (ii_c rfl) ?_
  refine J_iload_n dX9_addStep_13 rfl rfl ?_
  refine J_bipush dX9_addStep_14 (ii_c rfl) (by decide) ?_
  refine J_imulN dX9_addStep_16 h.1 ?_
  replace h := h.2
  refine J_iaddN dX9_addStep_17 h.1 ?_
  replace h := h.2
  refine J_aload_n dX9_addStep_18 rfl rfl ?_
  refine J_getR dX9_addStep_19 ck_9 fw_X9_11 rfl sh_32 rr_32_1 ?_
  refine J_iload_n dX9_addStep_22 rfl rfl ?_
  refine J_iald dX9_addStep_23 sh_33 h.1.1 h.1.2 ?_
  replace h := h.2
  refine J_iaddN dX9_addStep_24 h.1 ?_
  replace h := h.2
  refine J_iload_n dX9_addStep_25 rfl rfl ?_
  refine J_iast dX9_addStep_26 sh_33 h.1.1 h.1.2 ?_
  replace h := h.2 _ rfl
  refine J_aload_n dX9_addStep_27 rfl rfl ?_
  refine J_getR dX9_addStep_28 ck_9 fw_X9_11 rfl sh_32 rr_32_1 ?_
  refine J_iload_n dX9_addStep_31 rfl rfl ?_
  refine J_dup2 dX9_addStep_32 rfl rfl ?_
  refine J_iald dX9_addStep_33 sh_33 h.1.1 h.1.2 ?_
  replace h := h.2
  refine J_iconst dX9_addStep_34 (ii_c rfl) ?_
  refine J_iaddN dX9_addStep_35 h.1 ?_
  replace h := h.2
  refine J_iast dX9_addStep_36 sh_33 h.1.1 h.1.2 ?_
  replace h := h.2 _ rfl
  refine J_aload_n dX9_addStep_37 rfl rfl ?_
  refine J_iconst dX9_addStep_38 (ii_c rfl) ?_
  refine J_putI dX9_addStep_39 ck_9 fw_X9_27 rfl rfl (Or.inr ⟨rfl, Or.inr rfl⟩) sh_32 ?_
  replace h := h _ rfl
  exact J_retv dX9_addStep_42 rfl h
set_option maxRecDepth 20000 in
set_option maxHeartbeats 2000000 in
theorem bk_X9_walk_0 {d : Nat} {I : HI} {Q : Option AV → AH → Prop} {a1 : Int} {a2 : Int}  (h : ((0 : Int) ≤ a1 ∧ (a1 : Int) < 4) ∧ CI mX8_lastCorner d [vR (37 + 5 * a1.toNat)] I (fun x2 I1 => CI mX9_laneTo d [vR 32, vI x2, vI a2] I1 (fun x3 I2 => ((0 : Int) ≤ a1 ∧ (a1 : Int) < 102) ∧ ((24 ≤ (I2 33 a1.toNat) → Q (some (vI (-1))) (mk I2)) ∧ (¬ (24 ≤ (I2 33 a1.toNat)) → ((x3 = (-1) → Q (some (vI (-1))) (mk I2)) ∧ (¬ (x3 = (-1)) → (((oA (oSr (I2 33 100) x3) 1) = 0 → CI mX0_minutesOf d [vR 1, vI a1, vI x3] I2 (fun x4 I3 => (-2147483648 ≤ (I3 (37 + 5 * a1.toNat) 5) + x4 ∧ (I3 (37 + 5 * a1.toNat) 5) + x4 ≤ 2147483647) ∧ ((((I3 (37 + 5 * a1.toNat) 5) + x4) ≤ 999 → CV mX9_addStep d [vR 32, vI a1, vI a2] I3 (fun I4 => CV mX8_walkBy d [vR (37 + 5 * a1.toNat), vI x3, vI a2, vI x4] I4 (fun I5 => Q (some (vI (I5 (37 + 5 * a1.toNat) 5))) (mk I5)))) ∧ (¬ (((I3 (37 + 5 * a1.toNat) 5) + x4) ≤ 999) → Q (some (vI (-1))) (mk I3))))) ∧ (¬ ((oA (oSr (I2 33 100) x3) 1) = 0) → Q (some (vI (-1))) (mk I2)))))))))) : J none mX9_walk (d + 1) 0 0 0 [(0, vR 32), (1, vI a1), (2, vI a2)] [] (mk I) Q := by
  refine J_aload_n dX9_walk_0 rfl rfl ?_
  refine J_getR dX9_walk_1 ck_9 fw_X9_23 rfl sh_32 rr_32_4 ?_
  refine J_iload_n dX9_walk_4 rfl rfl ?_
  have hb1 := h.1
  refine J_aald dX9_walk_5 sh_36 h.1.1 h.1.2 (RRw h.1.1 h.1.2) ?_
  replace h := h.2
  refine J_astore_n dX9_walk_6 rfl (by decide) ?_
  change J _ _ _ _ _ _ [(0, _), (1, _), (2, _), (3, _)] _ _ _
  refine J_aload_n dX9_walk_7 rfl rfl ?_
  refine J_aload_n dX9_walk_8 rfl rfl ?_
  refine J_callV (as := []) (mc1 := 0) (ms1 := 0) (mc := 0) (ms := 0) dX9_walk_9 mv_X8_lastCorner lk_X9_77 ((TRw hb1.1 hb1.2).1) rfl (Nat.le_of_ble_eq_true rfl) (Nat.le_of_ble_eq_true rfl) h (fun r σ hq _ => ?_)
  obtain ⟨x2, I1, rfl, rfl, h⟩ := hq
  change J _ _ _ _ _ _ _ [vI x2, _] _ _
  refine J_iload_n dX9_walk_12 rfl rfl ?_
  refine J_callV (as := [_, _]) (mc1 := 0) (ms1 := 0) (mc := 0) (ms := 0) dX9_walk_13 mv_X9_laneTo lk_X9_81 sh_32 rfl (Nat.le_of_ble_eq_true rfl) (Nat.le_of_ble_eq_true rfl) h (fun r σ hq _ => ?_)
  obtain ⟨x3, I2, rfl, rfl, h⟩ := hq
  change J _ _ _ _ _ _ _ [vI x3] _ _
  refine J_istore dX9_walk_16 (by decide) ?_
  change J _ _ _ _ _ _ [(0, _), (1, _), (2, _), (3, _), (4, _)] _ _ _
  refine J_aload_n dX9_walk_18 rfl rfl ?_
  refine J_getR dX9_walk_19 ck_9 fw_X9_11 rfl sh_32 rr_32_1 ?_
  refine J_iload_n dX9_walk_22 rfl rfl ?_
  refine J_iald dX9_walk_23 sh_33 h.1.1 h.1.2 ?_
  replace h := h.2
  refine J_bipush dX9_walk_24 (ii_c rfl) (by decide) ?_
  refine J_ic_ge (tgt := 50) dX9_walk_26 (by decide) (fun c => ?_) (fun c => ?_)
  · replace h := h.1 c
    refine J_iconst dX9_walk_50 (ii_c rfl) ?_
    exact J_reti dX9_walk_51 rfl h
  · replace h := h.2 c
    refine J_iload dX9_walk_29 rfl ?_
    refine J_iconst dX9_walk_31 (ii_c rfl) ?_
    refine J_ic_eq (tgt := 50) dX9_walk_32 (by decide) (fun c => ?_) (fun c => ?_)
    · replace h := h.1 c
      refine J_iconst dX9_walk_50 (ii_c rfl) ?_
      exact J_reti dX9_walk_51 rfl h
    · replace h := h.2 c
      refine J_aload_n dX9_walk_35 rfl rfl ?_
      refine J_getR dX9_walk_36 ck_9 fw_X9_11 rfl sh_32 rr_32_1 ?_
      refine J_bipush dX9_walk_39 (ii_c rfl) (by decide) ?_
      refine J_iald dX9_walk_41 sh_33 (by decide) (by decide) ?_
      refine J_iload dX9_walk_42 rfl ?_
      refine J_ishr dX9_walk_44 ?_
      refine J_iconst dX9_walk_45 (ii_c rfl) ?_
      refine J_iand dX9_walk_46 ?_
      refine J_if_eq (tgt := 52) dX9_walk_47 (by decide) (fun c => ?_) (fun c => ?_)
      · replace h := h.1 c
        refine J_aload_n dX9_walk_52 rfl rfl ?_
        refine J_getR dX9_walk_53 ck_9 fw_X9_37 rfl sh_32 rr_32_0 ?_
        refine J_iload_n dX9_walk_56 rfl rfl ?_
        refine J_iload dX9_walk_57 rfl ?_
        refine J_callV (as := [_, _]) (mc1 := 0) (ms1 := 0) (mc := 0) (ms := 0) dX9_walk_59 mv_X0_minutesOf lk_X9_85 sh_1 rfl (Nat.le_of_ble_eq_true rfl) (Nat.le_of_ble_eq_true rfl) h (fun r σ hq _ => ?_)
        obtain ⟨x4, I3, rfl, rfl, h⟩ := hq
        change J _ _ _ _ _ _ _ [vI x4] _ _
        refine J_istore dX9_walk_62 (by decide) ?_
        change J _ _ _ _ _ _ [(0, _), (1, _), (2, _), (3, _), (4, _), (5, _)] _ _ _
        refine J_aload_n dX9_walk_64 rfl rfl ?_
        refine J_getI dX9_walk_65 ck_8 fw_X9_110 rfl ((TRw hb1.1 hb1.2).1) ?_
        refine J_iload dX9_walk_68 rfl ?_
        refine J_iaddN dX9_walk_70 h.1 ?_
        replace h := h.2
        refine J_sipush dX9_walk_71 (ii_c rfl) (by decide) ?_
        refine J_ic_le (tgt := 79) dX9_walk_74 (by decide) (fun c => ?_) (fun c => ?_)
        · replace h := h.1 c
          refine J_aload_n dX9_walk_79 rfl rfl ?_
          refine J_iload_n dX9_walk_80 rfl rfl ?_
          refine J_iload_n dX9_walk_81 rfl rfl ?_
          refine J_callV (as := [_, _]) (mc1 := 0) (ms1 := 0) (mc := 0) (ms := 0) dX9_walk_82 mv_X9_addStep lk_X9_113 sh_32 rfl (Nat.le_of_ble_eq_true rfl) (Nat.le_of_ble_eq_true rfl) h (fun r σ hq _ => ?_)
          obtain ⟨I4, rfl, rfl, h⟩ := hq
          change J _ _ _ _ _ _ _ [] _ _
          refine J_aload_n dX9_walk_85 rfl rfl ?_
          refine J_iload dX9_walk_86 rfl ?_
          refine J_iload_n dX9_walk_88 rfl rfl ?_
          refine J_iload dX9_walk_89 rfl ?_
          refine J_callV (as := [_, _, _]) (mc1 := 0) (ms1 := 0) (mc := 0) (ms := 0) dX9_walk_91 mv_X8_walkBy lk_X9_88 ((TRw hb1.1 hb1.2).1) rfl (Nat.le_of_ble_eq_true rfl) (Nat.le_of_ble_eq_true rfl) h (fun r σ hq _ => ?_)
          obtain ⟨I5, rfl, rfl, h⟩ := hq
          change J _ _ _ _ _ _ _ [] _ _
          refine J_aload_n dX9_walk_94 rfl rfl ?_
          refine J_getI dX9_walk_95 ck_8 fw_X9_110 rfl ((TRw hb1.1 hb1.2).1) ?_
          exact J_reti dX9_walk_98 rfl h
        · replace h := h.2 c
          refine J_iconst dX9_walk_77 (ii_c rfl) ?_
          exact J_reti dX9_walk_78 rfl h
      · replace h := h.2 c
        refine J_iconst dX9_walk_50 (ii_c rfl) ?_
        exact J_reti dX9_walk_51 rfl h
set_option maxRecDepth 20000 in
set_option maxHeartbeats 2000000 in
theorem bk_X9_pause_0 {d : Nat} {I : HI} {Q : Option AV → AH → Prop} {a1 : Int} {a2 : Int}  (h : ((0 : Int) ≤ a1 ∧ (a1 : Int) < 4) ∧ ((0 : Int) ≤ a1 ∧ (a1 : Int) < 102) ∧ ((24 ≤ (I 33 a1.toNat) → Q (some (vI (-1))) (mk I)) ∧ (¬ (24 ≤ (I 33 a1.toNat)) → (-2147483648 ≤ (I (37 + 5 * a1.toNat) 5) + a2 ∧ (I (37 + 5 * a1.toNat) 5) + a2 ≤ 2147483647) ∧ ((((I (37 + 5 * a1.toNat) 5) + a2) ≤ 999 → (-2147483648 ≤ 100 + a2 ∧ 100 + a2 ≤ 2147483647) ∧ CV mX9_addStep d [vR 32, vI a1, vI (100 + a2)] I (fun I1 => CV mX8_stay d [vR (37 + 5 * a1.toNat), vI a2] I1 (fun I2 => Q (some (vI (I2 (37 + 5 * a1.toNat) 5))) (mk I2)))) ∧ (¬ (((I (37 + 5 * a1.toNat) 5) + a2) ≤ 999) → Q (some (vI (-1))) (mk I)))))) : J none mX9_pause (d + 1) 0 0 0 [(0, vR 32), (1, vI a1), (2, vI a2)] [] (mk I) Q := by
  refine J_aload_n dX9_pause_0 rfl rfl ?_
  refine J_getR dX9_pause_1 ck_9 fw_X9_23 rfl sh_32 rr_32_4 ?_
  refine J_iload_n dX9_pause_4 rfl rfl ?_
  have hb1 := h.1
  refine J_aald dX9_pause_5 sh_36 h.1.1 h.1.2 (RRw h.1.1 h.1.2) ?_
  replace h := h.2
  refine J_astore_n dX9_pause_6 rfl (by decide) ?_
  change J _ _ _ _ _ _ [(0, _), (1, _), (2, _), (3, _)] _ _ _
  refine J_aload_n dX9_pause_7 rfl rfl ?_
  refine J_getR dX9_pause_8 ck_9 fw_X9_11 rfl sh_32 rr_32_1 ?_
  refine J_iload_n dX9_pause_11 rfl rfl ?_
  refine J_iald dX9_pause_12 sh_33 h.1.1 h.1.2 ?_
  replace h := h.2
  refine J_bipush dX9_pause_13 (ii_c rfl) (by decide) ?_
  refine J_ic_ge (tgt := 30) dX9_pause_15 (by decide) (fun c => ?_) (fun c => ?_)
  · replace h := h.1 c
    refine J_iconst dX9_pause_30 (ii_c rfl) ?_
    exact J_reti dX9_pause_31 rfl h
  · replace h := h.2 c
    refine J_aload_n dX9_pause_18 rfl rfl ?_
    refine J_getI dX9_pause_19 ck_8 fw_X9_110 rfl ((TRw hb1.1 hb1.2).1) ?_
    refine J_iload_n dX9_pause_22 rfl rfl ?_
    refine J_iaddN dX9_pause_23 h.1 ?_
    replace h := h.2
    refine J_sipush dX9_pause_24 (ii_c rfl) (by decide) ?_
    refine J_ic_le (tgt := 32) dX9_pause_27 (by decide) (fun c => ?_) (fun c => ?_)
    · replace h := h.1 c
      refine J_aload_n dX9_pause_32 rfl rfl ?_
      refine J_iload_n dX9_pause_33 rfl rfl ?_
      refine J_bipush dX9_pause_34 (ii_c rfl) (by decide) ?_
      refine J_iload_n dX9_pause_36 rfl rfl ?_
      refine J_iaddN dX9_pause_37 h.1 ?_
      replace h := h.2
      refine J_callV (as := [_, _]) (mc1 := 0) (ms1 := 0) (mc := 0) (ms := 0) dX9_pause_38 mv_X9_addStep lk_X9_113 sh_32 rfl (Nat.le_of_ble_eq_true rfl) (Nat.le_of_ble_eq_true rfl) h (fun r σ hq _ => ?_)
      obtain ⟨I1, rfl, rfl, h⟩ := hq
      change J _ _ _ _ _ _ _ [] _ _
      refine J_aload_n dX9_pause_41 rfl rfl ?_
      refine J_iload_n dX9_pause_42 rfl rfl ?_
      refine J_callV (as := [_]) (mc1 := 0) (ms1 := 0) (mc := 0) (ms := 0) dX9_pause_43 mv_X8_stay lk_X9_74 ((TRw hb1.1 hb1.2).1) rfl (Nat.le_of_ble_eq_true rfl) (Nat.le_of_ble_eq_true rfl) h (fun r σ hq _ => ?_)
      obtain ⟨I2, rfl, rfl, h⟩ := hq
      change J _ _ _ _ _ _ _ [] _ _
      refine J_aload_n dX9_pause_46 rfl rfl ?_
      refine J_getI dX9_pause_47 ck_8 fw_X9_110 rfl ((TRw hb1.1 hb1.2).1) ?_
      exact J_reti dX9_pause_50 rfl h
    · replace h := h.2 c
      refine J_iconst dX9_pause_30 (ii_c rfl) ?_
      exact J_reti dX9_pause_31 rfl h
set_option maxRecDepth 20000 in
set_option maxHeartbeats 2000000 in
theorem bk_X9_wipe_0 {d : Nat} {I : HI} {Q : Option AV → AH → Prop} {a1 : Int}  (h : ((0 : Int) ≤ a1 ∧ (a1 : Int) < 102) ∧ (((I 33 a1.toNat) ≠ 0 → CV mX9_keep d [vR 32] I (fun I1 => CV mX9_commit d [vR 32] I1 (fun I2 => ((0 : Int) ≤ a1 ∧ (a1 : Int) < 102) ∧ (∀ I3 : HI, I3 = up I2 33 a1.toNat 0 → CV mX9_replay d [vR 32, vI a1] I3 (fun I4 => (∀ I5 : HI, I5 = up I4 32 7 1 → Q (some (vI 1)) (mk I5))))))) ∧ ((I 33 a1.toNat) = 0 → Q (some (vI 0)) (mk I)))) : J none mX9_wipe (d + 1) 0 0 0 [(0, vR 32), (1, vI a1)] [] (mk I) Q := by
  refine J_aload_n dX9_wipe_0 rfl rfl ?_
  refine J_getR dX9_wipe_1 ck_9 fw_X9_11 rfl sh_32 rr_32_1 ?_
  refine J_iload_n dX9_wipe_4 rfl rfl ?_
  refine J_iald dX9_wipe_5 sh_33 h.1.1 h.1.2 ?_
  replace h := h.2
  refine J_if_ne (tgt := 11) dX9_wipe_6 (by decide) (fun c => ?_) (fun c => ?_)
  · replace h := h.1 c
    refine J_aload_n dX9_wipe_11 rfl rfl ?_
    refine J_callV (as := []) (mc1 := 0) (ms1 := 0) (mc := 0) (ms := 0) dX9_wipe_12 mv_X9_keep lk_X9_104 sh_32 rfl (Nat.le_of_ble_eq_true rfl) (Nat.le_of_ble_eq_true rfl) h (fun r σ hq _ => ?_)
    obtain ⟨I1, rfl, rfl, h⟩ := hq
    change J _ _ _ _ _ _ _ [] _ _
    refine J_aload_n dX9_wipe_15 rfl rfl ?_
    refine J_callV (as := []) (mc1 := 0) (ms1 := 0) (mc := 0) (ms := 0) dX9_wipe_16 mv_X9_commit lk_X9_107 sh_32 rfl (Nat.le_of_ble_eq_true rfl) (Nat.le_of_ble_eq_true rfl) h (fun r σ hq _ => ?_)
    obtain ⟨I2, rfl, rfl, h⟩ := hq
    change J _ _ _ _ _ _ _ [] _ _
    refine J_aload_n dX9_wipe_19 rfl rfl ?_
    refine J_getR dX9_wipe_20 ck_9 fw_X9_11 rfl sh_32 rr_32_1 ?_
    refine J_iload_n dX9_wipe_23 rfl rfl ?_
    refine J_iconst dX9_wipe_24 (ii_c rfl) ?_
    refine J_iast dX9_wipe_25 sh_33 h.1.1 h.1.2 ?_
    replace h := h.2 _ rfl
    refine J_aload_n dX9_wipe_26 rfl rfl ?_
    refine J_iload_n dX9_wipe_27 rfl rfl ?_
    refine J_callV (as := [_]) (mc1 := 0) (ms1 := 0) (mc := 0) (ms := 0) dX9_wipe_28 mv_X9_replay lk_X9_65 sh_32 rfl (Nat.le_of_ble_eq_true rfl) (Nat.le_of_ble_eq_true rfl) h (fun r σ hq _ => ?_)
    obtain ⟨I4, rfl, rfl, h⟩ := hq
    change J _ _ _ _ _ _ _ [] _ _
    refine J_aload_n dX9_wipe_31 rfl rfl ?_
    refine J_iconst dX9_wipe_32 (ii_c rfl) ?_
    refine J_putI dX9_wipe_33 ck_9 fw_X9_27 rfl rfl (Or.inr ⟨rfl, Or.inr rfl⟩) sh_32 ?_
    replace h := h _ rfl
    refine J_iconst dX9_wipe_36 (ii_c rfl) ?_
    exact J_retz dX9_wipe_37 rfl (Or.inr rfl) h
  · replace h := h.2 c
    refine J_iconst dX9_wipe_9 (ii_c rfl) ?_
    exact J_retz dX9_wipe_10 rfl (Or.inl rfl) h
set_option maxRecDepth 20000 in
set_option maxHeartbeats 2000000 in
theorem bk_X9_bar_0 {d : Nat} {I : HI} {Q : Option AV → AH → Prop} {a1 : Int} {a2 : Int}  (h : (((oA (oSr (I 33 100) a1) 1) = 0 → ((0 ≠ a2 → CV mX9_keep d [vR 32] I (fun I1 => CV mX9_commit d [vR 32] I1 (fun I2 => (∀ I3 : HI, I3 = up I2 33 100 (oX (I2 33 100) (oSl 1 a1)) → (∀ I4 : HI, I4 = up I3 32 8 1 → Q (some (vI 1)) (mk I4)))))) ∧ (0 = a2 → Q (some (vI 0)) (mk I)))) ∧ (¬ ((oA (oSr (I 33 100) a1) 1) = 0) → ((1 ≠ a2 → CV mX9_keep d [vR 32] I (fun I5 => CV mX9_commit d [vR 32] I5 (fun I6 => (∀ I7 : HI, I7 = up I6 33 100 (oX (I6 33 100) (oSl 1 a1)) → (∀ I8 : HI, I8 = up I7 32 8 1 → Q (some (vI 1)) (mk I8)))))) ∧ (1 = a2 → Q (some (vI 0)) (mk I)))))) : J none mX9_bar (d + 1) 0 0 0 [(0, vR 32), (1, vI a1), (2, vI a2)] [] (mk I) Q := by
  refine J_aload_n dX9_bar_0 rfl rfl ?_
  refine J_getR dX9_bar_1 ck_9 fw_X9_11 rfl sh_32 rr_32_1 ?_
  refine J_bipush dX9_bar_4 (ii_c rfl) (by decide) ?_
  refine J_iald dX9_bar_6 sh_33 (by decide) (by decide) ?_
  refine J_iload_n dX9_bar_7 rfl rfl ?_
  refine J_ishr dX9_bar_8 ?_
  refine J_iconst dX9_bar_9 (ii_c rfl) ?_
  refine J_iand dX9_bar_10 ?_
  refine J_if_eq (tgt := 18) dX9_bar_11 (by decide) (fun c => ?_) (fun c => ?_)
  · replace h := h.1 c
    refine J_iconst dX9_bar_18 (ii_c rfl) ?_
    refine J_iload_n dX9_bar_19 rfl rfl ?_
    refine J_ic_ne (tgt := 25) dX9_bar_20 (by decide) (fun c => ?_) (fun c => ?_)
    · replace h := h.1 c
      refine J_aload_n dX9_bar_25 rfl rfl ?_
      refine J_callV (as := []) (mc1 := 0) (ms1 := 0) (mc := 0) (ms := 0) dX9_bar_26 mv_X9_keep lk_X9_104 sh_32 rfl (Nat.le_of_ble_eq_true rfl) (Nat.le_of_ble_eq_true rfl) h (fun r σ hq _ => ?_)
      obtain ⟨I1, rfl, rfl, h⟩ := hq
      change J _ _ _ _ _ _ _ [] _ _
      refine J_aload_n dX9_bar_29 rfl rfl ?_
      refine J_callV (as := []) (mc1 := 0) (ms1 := 0) (mc := 0) (ms := 0) dX9_bar_30 mv_X9_commit lk_X9_107 sh_32 rfl (Nat.le_of_ble_eq_true rfl) (Nat.le_of_ble_eq_true rfl) h (fun r σ hq _ => ?_)
      obtain ⟨I2, rfl, rfl, h⟩ := hq
      change J _ _ _ _ _ _ _ [] _ _
      refine J_aload_n dX9_bar_33 rfl rfl ?_
      refine J_getR dX9_bar_34 ck_9 fw_X9_11 rfl sh_32 rr_32_1 ?_
      refine J_bipush dX9_bar_37 (ii_c rfl) (by decide) ?_
      refine J_dup2 dX9_bar_39 rfl rfl ?_
      refine J_iald dX9_bar_40 sh_33 (by decide) (by decide) ?_
      refine J_iconst dX9_bar_41 (ii_c rfl) ?_
      refine J_iload_n dX9_bar_42 rfl rfl ?_
      refine J_ishl dX9_bar_43 ?_
      refine J_ixor dX9_bar_44 ?_
      refine J_iast dX9_bar_45 sh_33 (by decide) (by decide) ?_
      replace h := h _ rfl
      refine J_aload_n dX9_bar_46 rfl rfl ?_
      refine J_iconst dX9_bar_47 (ii_c rfl) ?_
      refine J_putI dX9_bar_48 ck_9 fw_X9_31 rfl rfl (Or.inr ⟨rfl, Or.inr rfl⟩) sh_32 ?_
      replace h := h _ rfl
      refine J_iconst dX9_bar_51 (ii_c rfl) ?_
      exact J_retz dX9_bar_52 rfl (Or.inr rfl) h
    · replace h := h.2 c
      refine J_iconst dX9_bar_23 (ii_c rfl) ?_
      exact J_retz dX9_bar_24 rfl (Or.inl rfl) h
  · replace h := h.2 c
    refine J_iconst dX9_bar_14 (ii_c rfl) ?_
    refine J_goto (tgt := 19) dX9_bar_15 (by decide) ?_
    refine J_iload_n dX9_bar_19 rfl rfl ?_
    refine J_ic_ne (tgt := 25) dX9_bar_20 (by decide) (fun c => ?_) (fun c => ?_)
    · replace h := h.1 c
      refine J_aload_n dX9_bar_25 rfl rfl ?_
      refine J_callV (as := []) (mc1 := 0) (ms1 := 0) (mc := 0) (ms := 0) dX9_bar_26 mv_X9_keep lk_X9_104 sh_32 rfl (Nat.le_of_ble_eq_true rfl) (Nat.le_of_ble_eq_true rfl) h (fun r σ hq _ => ?_)
      obtain ⟨I5, rfl, rfl, h⟩ := hq
      change J _ _ _ _ _ _ _ [] _ _
      refine J_aload_n dX9_bar_29 rfl rfl ?_
      refine J_callV (as := []) (mc1 := 0) (ms1 := 0) (mc := 0) (ms := 0) dX9_bar_30 mv_X9_commit lk_X9_107 sh_32 rfl (Nat.le_of_ble_eq_true rfl) (Nat.le_of_ble_eq_true rfl) h (fun r σ hq _ => ?_)
      obtain ⟨I6, rfl, rfl, h⟩ := hq
      change J _ _ _ _ _ _ _ [] _ _
      refine J_aload_n dX9_bar_33 rfl rfl ?_
      refine J_getR dX9_bar_34 ck_9 fw_X9_11 rfl sh_32 rr_32_1 ?_
      refine J_bipush dX9_bar_37 (ii_c rfl) (by decide) ?_
      refine J_dup2 dX9_bar_39 rfl rfl ?_
      refine J_iald dX9_bar_40 sh_33 (by decide) (by decide) ?_
      refine J_iconst dX9_bar_41 (ii_c rfl) ?_
      refine J_iload_n dX9_bar_42 rfl rfl ?_
      refine J_ishl dX9_bar_43 ?_
      refine J_ixor dX9_bar_44 ?_
      refine J_iast dX9_bar_45 sh_33 (by decide) (by decide) ?_
      replace h := h _ rfl
      refine J_aload_n dX9_bar_46 rfl rfl ?_
      refine J_iconst dX9_bar_47 (ii_c rfl) ?_
      refine J_putI dX9_bar_48 ck_9 fw_X9_31 rfl rfl (Or.inr ⟨rfl, Or.inr rfl⟩) sh_32 ?_
      replace h := h _ rfl
      refine J_iconst dX9_bar_51 (ii_c rfl) ?_
      exact J_retz dX9_bar_52 rfl (Or.inr rfl) h
    · replace h := h.2 c
      refine J_iconst dX9_bar_23 (ii_c rfl) ?_
      exact J_retz dX9_bar_24 rfl (Or.inl rfl) h
set_option maxRecDepth 20000 in
set_option maxHeartbeats 2000000 in
theorem bk_X9_soften_0 {d : Nat} {I : HI} {Q : Option AV → AH → Prop} {a1 : Int}  (h : (((I 33 101) ≠ a1 → CV mX9_keep d [vR 32] I (fun I1 => CV mX9_commit d [vR 32] I1 (fun I2 => (∀ I3 : HI, I3 = up I2 33 101 a1 → (∀ I4 : HI, I4 = up I3 32 9 1 → Q (some (vI 1)) (mk I4)))))) ∧ ((I 33 101) = a1 → Q (some (vI 0)) (mk I)))) : J none mX9_soften (d + 1) 0 0 0 [(0, vR 32), (1, vI a1)] [] (mk I) Q := by
  refine J_aload_n dX9_soften_0 rfl rfl ?_
  refine J_getR dX9_soften_1 ck_9 fw_X9_11 rfl sh_32 rr_32_1 ?_
  refine J_bipush dX9_soften_4 (ii_c rfl) (by decide) ?_
  refine J_iald dX9_soften_6 sh_33 (by decide) (by decide) ?_
  refine J_iload_n dX9_soften_7 rfl rfl ?_
  refine J_ic_ne (tgt := 13) dX9_soften_8 (by decide) (fun c => ?_) (fun c => ?_)
  · replace h := h.1 c
    refine J_aload_n dX9_soften_13 rfl rfl ?_
    refine J_callV (as := []) (mc1 := 0) (ms1 := 0) (mc := 0) (ms := 0) dX9_soften_14 mv_X9_keep lk_X9_104 sh_32 rfl (Nat.le_of_ble_eq_true rfl) (Nat.le_of_ble_eq_true rfl) h (fun r σ hq _ => ?_)
    obtain ⟨I1, rfl, rfl, h⟩ := hq
    change J _ _ _ _ _ _ _ [] _ _
    refine J_aload_n dX9_soften_17 rfl rfl ?_
    refine J_callV (as := []) (mc1 := 0) (ms1 := 0) (mc := 0) (ms := 0) dX9_soften_18 mv_X9_commit lk_X9_107 sh_32 rfl (Nat.le_of_ble_eq_true rfl) (Nat.le_of_ble_eq_true rfl) h (fun r σ hq _ => ?_)
    obtain ⟨I2, rfl, rfl, h⟩ := hq
    change J _ _ _ _ _ _ _ [] _ _
    refine J_aload_n dX9_soften_21 rfl rfl ?_
    refine J_getR dX9_soften_22 ck_9 fw_X9_11 rfl sh_32 rr_32_1 ?_
    refine J_bipush dX9_soften_25 (ii_c rfl) (by decide) ?_
    refine J_iload_n dX9_soften_27 rfl rfl ?_
    refine J_iast dX9_soften_28 sh_33 (by decide) (by decide) ?_
    replace h := h _ rfl
    refine J_aload_n dX9_soften_29 rfl rfl ?_
    refine J_iconst dX9_soften_30 (ii_c rfl) ?_
    refine J_putI dX9_soften_31 ck_9 fw_X9_34 rfl rfl (Or.inr ⟨rfl, Or.inr rfl⟩) sh_32 ?_
    replace h := h _ rfl
    refine J_iconst dX9_soften_34 (ii_c rfl) ?_
    exact J_retz dX9_soften_35 rfl (Or.inr rfl) h
  · replace h := h.2 c
    refine J_iconst dX9_soften_11 (ii_c rfl) ?_
    exact J_retz dX9_soften_12 rfl (Or.inl rfl) h
set_option maxRecDepth 20000 in
set_option maxHeartbeats 2000000 in
theorem bk_X9_adopt_0 {d : Nat} {I : HI} {Q : Option AV → AH → Prop} {a1 : Int} {a2 n2 : Nat} {a3 : Int} (ha2 : TR a2 n2) (h : (-2147483648 ≤ a1 * 24 ∧ a1 * 24 ≤ 2147483647) ∧ (-2147483648 ≤ 4 + (a1 * 24) ∧ 4 + (a1 * 24) ≤ 2147483647) ∧ ((a3 ≤ 0 → J none mX9_adopt (d + 1) 0 0 35 [(0, vR 32), (1, vI a1), (2, vR a2), (3, vI a3), (4, vI (4 + (a1 * 24))), (5, vI 0), (6, vI 1)] [] (mk I) Q) ∧ (¬ (a3 ≤ 0) → (-2147483648 ≤ (4 + (a1 * 24)) + 0 ∧ (4 + (a1 * 24)) + 0 ≤ 2147483647) ∧ (-2147483648 ≤ 100 + a3 ∧ 100 + a3 ≤ 2147483647) ∧ ((0 : Int) ≤ ((4 + (a1 * 24)) + 0) ∧ ((4 + (a1 * 24)) + 0 : Int) < 102) ∧ (∀ I1 : HI, I1 = up I 33 ((4 + (a1 * 24)) + 0).toNat (100 + a3) → J none mX9_adopt (d + 1) 0 0 35 [(0, vR 32), (1, vI a1), (2, vR a2), (3, vI a3), (4, vI (4 + (a1 * 24))), (5, vI 1), (6, vI 1)] [] (mk I1) Q)))) : J none mX9_adopt (d + 1) 0 0 0 [(0, vR 32), (1, vI a1), (2, vR a2), (3, vI a3)] [] (mk I) Q := by
  refine J_iconst dX9_adopt_0 (ii_c rfl) ?_
  refine J_iload_n dX9_adopt_1 rfl rfl ?_
  refine J_bipush dX9_adopt_2 (ii_c rfl) (by decide) ?_
  refine J_imulN dX9_adopt_4 h.1 ?_
  replace h := h.2
  refine J_iaddN dX9_adopt_5 h.1 ?_
  replace h := h.2
  refine J_istore dX9_adopt_6 (by decide) ?_
  change J _ _ _ _ _ _ [(0, _), (1, _), (2, _), (3, _), (4, _)] _ _ _
  refine J_iconst dX9_adopt_8 (ii_c rfl) ?_
  refine J_istore dX9_adopt_9 (by decide) ?_
  change J _ _ _ _ _ _ [(0, _), (1, _), (2, _), (3, _), (4, _), (5, _)] _ _ _
  refine J_iload_n dX9_adopt_11 rfl rfl ?_
  refine J_if_le (tgt := 32) dX9_adopt_12 (by decide) (fun c => ?_) (fun c => ?_)
  · replace h := h.1 c
    refine J_iconst dX9_adopt_32 (ii_c rfl) ?_
    refine J_istore dX9_adopt_33 (by decide) ?_
    change J _ _ _ _ _ _ [(0, _), (1, _), (2, _), (3, _), (4, _), (5, _), (6, _)] _ _ _
    exact h
  · replace h := h.2 c
    refine J_aload_n dX9_adopt_15 rfl rfl ?_
    refine J_getR dX9_adopt_16 ck_9 fw_X9_11 rfl sh_32 rr_32_1 ?_
    refine J_iload dX9_adopt_19 rfl ?_
    refine J_iload dX9_adopt_21 rfl ?_
    refine J_iincN dX9_adopt_23 rfl (by decide) (by decide) ?_
    refine J_iaddN dX9_adopt_26 h.1 ?_
    replace h := h.2
    refine J_bipush dX9_adopt_27 (ii_c rfl) (by decide) ?_
    refine J_iload_n dX9_adopt_29 rfl rfl ?_
    refine J_iaddN dX9_adopt_30 h.1 ?_
    replace h := h.2
    refine J_iast dX9_adopt_31 sh_33 h.1.1 h.1.2 ?_
    replace h := h.2 _ rfl
    refine J_iconst dX9_adopt_32 (ii_c rfl) ?_
    refine J_istore dX9_adopt_33 (by decide) ?_
    change J _ _ _ _ _ _ [(0, _), (1, _), (2, _), (3, _), (4, _), (5, _), (6, _)] _ _ _
    exact h
set_option maxRecDepth 20000 in
set_option maxHeartbeats 2000000 in
theorem bk_X9_adopt_35 {d : Nat} {I : HI} {Q : Option AV → AH → Prop} {a1 : Int} {a2 n2 : Nat} {a3 : Int} {a4 : Int} {a5 : Int} {a6 : Int} (ha2 : TR a2 n2) (h : (((I a2 4) ≤ a6 → ((0 : Int) ≤ a1 ∧ (a1 : Int) < 102) ∧ (∀ I1 : HI, I1 = up I 33 a1.toNat a5 → CV mX9_replay d [vR 32, vI a1] I1 (fun I2 => (∀ I3 : HI, I3 = up I2 32 7 1 → Q none (mk I3))))) ∧ (¬ ((I a2 4) ≤ a6) → (-2147483648 ≤ a5 + 1 ∧ a5 + 1 ≤ 2147483647) ∧ (-2147483648 ≤ a4 + a5 ∧ a4 + a5 ≤ 2147483647) ∧ ((0 : Int) ≤ a6 ∧ (a6 : Int) < n2) ∧ ((0 : Int) ≤ (a4 + a5) ∧ (a4 + a5 : Int) < 102) ∧ (∀ I4 : HI, I4 = up I 33 (a4 + a5).toNat (I (a2 + 1) a6.toNat) → (-2147483648 ≤ a6 + 1 ∧ a6 + 1 ≤ 2147483647) ∧ J none mX9_adopt (d + 1) 0 0 35 [(0, vR 32), (1, vI a1), (2, vR a2), (3, vI a3), (4, vI a4), (5, vI (a5 + 1)), (6, vI (a6 + 1))] [] (mk I4) Q)))) : J none mX9_adopt (d + 1) 0 0 35 [(0, vR 32), (1, vI a1), (2, vR a2), (3, vI a3), (4, vI a4), (5, vI a5), (6, vI a6)] [] (mk I) Q := by
  refine J_iload dX9_adopt_35 rfl ?_
  refine J_aload_n dX9_adopt_37 rfl rfl ?_
  refine J_getI dX9_adopt_38 ck_8 fw_X9_117 rfl ha2.1 ?_
  refine J_ic_ge (tgt := 70) dX9_adopt_41 (by decide) (fun c => ?_) (fun c => ?_)
  · replace h := h.1 c
    refine J_aload_n dX9_adopt_70 rfl rfl ?_
    refine J_getR dX9_adopt_71 ck_9 fw_X9_11 rfl sh_32 rr_32_1 ?_
    refine J_iload_n dX9_adopt_74 rfl rfl ?_
    refine J_iload dX9_adopt_75 rfl ?_
    refine J_iast dX9_adopt_77 sh_33 h.1.1 h.1.2 ?_
    replace h := h.2 _ rfl
    refine J_aload_n dX9_adopt_78 rfl rfl ?_
    refine J_iload_n dX9_adopt_79 rfl rfl ?_
    refine J_callV (as := [_]) (mc1 := 0) (ms1 := 0) (mc := 0) (ms := 0) dX9_adopt_80 mv_X9_replay lk_X9_65 sh_32 rfl (Nat.le_of_ble_eq_true rfl) (Nat.le_of_ble_eq_true rfl) h (fun r σ hq _ => ?_)
    obtain ⟨I2, rfl, rfl, h⟩ := hq
    change J _ _ _ _ _ _ _ [] _ _
    refine J_aload_n dX9_adopt_83 rfl rfl ?_
    refine J_iconst dX9_adopt_84 (ii_c rfl) ?_
    refine J_putI dX9_adopt_85 ck_9 fw_X9_27 rfl rfl (Or.inr ⟨rfl, Or.inr rfl⟩) sh_32 ?_
    replace h := h _ rfl
    exact J_retv dX9_adopt_88 rfl h
  · replace h := h.2 c
    refine J_aload_n dX9_adopt_44 rfl rfl ?_
    refine J_getR dX9_adopt_45 ck_9 fw_X9_11 rfl sh_32 rr_32_1 ?_
    refine J_iload dX9_adopt_48 rfl ?_
    refine J_iload dX9_adopt_50 rfl ?_
    refine J_iincN dX9_adopt_52 rfl (by decide) h.1 ?_
    replace h := h.2
    change J _ _ _ _ _ _ [(0, _), (1, _), (2, _), (3, _), (4, _), (5, _), (6, _)] _ _ _
    refine J_iaddN dX9_adopt_55 h.1 ?_
    replace h := h.2
    refine J_aload_n dX9_adopt_56 rfl rfl ?_
    refine J_getR dX9_adopt_57 ck_8 fw_X9_120 rfl ha2.1 ha2.2.1 ?_
    refine J_iload dX9_adopt_60 rfl ?_
    refine J_iald dX9_adopt_62 ha2.2.2.2.2.2.1 h.1.1 h.1.2 ?_
    replace h := h.2
    refine J_iast dX9_adopt_63 sh_33 h.1.1 h.1.2 ?_
    replace h := h.2 _ rfl
    refine J_iincN dX9_adopt_64 rfl (by decide) h.1 ?_
    replace h := h.2
    change J _ _ _ _ _ _ [(0, _), (1, _), (2, _), (3, _), (4, _), (5, _), (6, _)] _ _ _
    refine J_goto (tgt := 35) dX9_adopt_67 (by decide) ?_
    exact h
set_option maxRecDepth 20000 in
set_option maxHeartbeats 2000000 in
theorem bk_X9_draw_0 {d : Nat} {I : HI} {Q : Option AV → AH → Prop} {a1 n1 : Nat} (ha1 : SH0[a1]? = some (.inr (0, n1))) (h : J none mX9_draw (d + 1) 0 0 4 [(0, vR 32), (1, vR a1), (2, vI 0), (3, vI 0)] [] (mk I) Q) : J none mX9_draw (d + 1) 0 0 0 [(0, vR 32), (1, vR a1)] [] (mk I) Q := by
  refine J_iconst dX9_draw_0 (ii_c rfl) ?_
  refine J_istore_n dX9_draw_1 rfl (by decide) ?_
  change J _ _ _ _ _ _ [(0, _), (1, _), (2, _)] _ _ _
  refine J_iconst dX9_draw_2 (ii_c rfl) ?_
  refine J_istore_n dX9_draw_3 rfl (by decide) ?_
  change J _ _ _ _ _ _ [(0, _), (1, _), (2, _), (3, _)] _ _ _
  exact h
set_option maxRecDepth 20000 in
set_option maxHeartbeats 2000000 in
theorem bk_X9_draw_4 {d : Nat} {I : HI} {Q : Option AV → AH → Prop} {a1 n1 : Nat} {a2 : Int} {a3 : Int} (ha1 : SH0[a1]? = some (.inr (0, n1))) (h : (((I 2 2) ≤ a3 → (-2147483648 ≤ a2 + 1 ∧ a2 + 1 ≤ 2147483647) ∧ ((0 : Int) ≤ a2 ∧ (a2 : Int) < n1) ∧ (∀ I1 : HI, I1 = up I a1 a2.toNat (oSr (I 33 100) 8) → (-2147483648 ≤ (a2 + 1) + 1 ∧ (a2 + 1) + 1 ≤ 2147483647) ∧ ((0 : Int) ≤ (a2 + 1) ∧ (a2 + 1 : Int) < n1) ∧ (∀ I2 : HI, I2 = up I1 a1 (a2 + 1).toNat (oA (I1 33 100) 255) → (-2147483648 ≤ ((a2 + 1) + 1) + 1 ∧ ((a2 + 1) + 1) + 1 ≤ 2147483647) ∧ ((0 : Int) ≤ ((a2 + 1) + 1) ∧ ((a2 + 1) + 1 : Int) < n1) ∧ (∀ I3 : HI, I3 = up I2 a1 ((a2 + 1) + 1).toNat (I2 33 101) → CI mX9_sumOf d [vR 32, vR a1, vI (((a2 + 1) + 1) + 1)] I3 (fun x1 I4 => ((0 : Int) ≤ (((a2 + 1) + 1) + 1) ∧ (((a2 + 1) + 1) + 1 : Int) < n1) ∧ (∀ I5 : HI, I5 = up I4 a1 (((a2 + 1) + 1) + 1).toNat x1 → (-2147483648 ≤ (((a2 + 1) + 1) + 1) + 1 ∧ (((a2 + 1) + 1) + 1) + 1 ≤ 2147483647) ∧ Q (some (vI ((((a2 + 1) + 1) + 1) + 1))) (mk I5))))))) ∧ (¬ ((I 2 2) ≤ a3) → (-2147483648 ≤ a2 + 1 ∧ a2 + 1 ≤ 2147483647) ∧ ((0 : Int) ≤ a3 ∧ (a3 : Int) < 102) ∧ ((0 : Int) ≤ a2 ∧ (a2 : Int) < n1) ∧ (∀ I6 : HI, I6 = up I a1 a2.toNat (I 33 a3.toNat) → J none mX9_draw (d + 1) 0 0 32 [(0, vR 32), (1, vR a1), (2, vI (a2 + 1)), (3, vI a3), (4, vI 0)] [] (mk I6) Q)))) : J none mX9_draw (d + 1) 0 0 4 [(0, vR 32), (1, vR a1), (2, vI a2), (3, vI a3)] [] (mk I) Q := by
  refine J_iload_n dX9_draw_4 rfl rfl ?_
  refine J_aload_n dX9_draw_5 rfl rfl ?_
  refine J_getR dX9_draw_6 ck_9 fw_X9_37 rfl sh_32 rr_32_0 ?_
  refine J_getR dX9_draw_9 ck_0 fw_X9_60 rfl sh_1 rr_1_0 ?_
  refine J_iconst dX9_draw_12 (ii_c rfl) ?_
  refine J_iald dX9_draw_13 sh_2 (by decide) (by decide) ?_
  refine J_ic_ge (tgt := 75) dX9_draw_14 (by decide) (fun c => ?_) (fun c => ?_)
  · replace h := h.1 c
    refine J_aload_n dX9_draw_75 rfl rfl ?_
    refine J_iload_n dX9_draw_76 rfl rfl ?_
    refine J_iincN dX9_draw_77 rfl (by decide) h.1 ?_
    replace h := h.2
    change J _ _ _ _ _ _ [(0, _), (1, _), (2, _), (3, _)] _ _ _
    refine J_aload_n dX9_draw_80 rfl rfl ?_
    refine J_getR dX9_draw_81 ck_9 fw_X9_11 rfl sh_32 rr_32_1 ?_
    refine J_bipush dX9_draw_84 (ii_c rfl) (by decide) ?_
    refine J_iald dX9_draw_86 sh_33 (by decide) (by decide) ?_
    refine J_bipush dX9_draw_87 (ii_c rfl) (by decide) ?_
    refine J_ishr dX9_draw_89 ?_
    refine J_iast dX9_draw_90 ha1 h.1.1 h.1.2 ?_
    replace h := h.2 _ rfl
    refine J_aload_n dX9_draw_91 rfl rfl ?_
    refine J_iload_n dX9_draw_92 rfl rfl ?_
    refine J_iincN dX9_draw_93 rfl (by decide) h.1 ?_
    replace h := h.2
    change J _ _ _ _ _ _ [(0, _), (1, _), (2, _), (3, _)] _ _ _
    refine J_aload_n dX9_draw_96 rfl rfl ?_
    refine J_getR dX9_draw_97 ck_9 fw_X9_11 rfl sh_32 rr_32_1 ?_
    refine J_bipush dX9_draw_100 (ii_c rfl) (by decide) ?_
    refine J_iald dX9_draw_102 sh_33 (by decide) (by decide) ?_
    refine J_sipush dX9_draw_103 (ii_c rfl) (by decide) ?_
    refine J_iand dX9_draw_106 ?_
    refine J_iast dX9_draw_107 ha1 h.1.1 h.1.2 ?_
    replace h := h.2 _ rfl
    refine J_aload_n dX9_draw_108 rfl rfl ?_
    refine J_iload_n dX9_draw_109 rfl rfl ?_
    refine J_iincN dX9_draw_110 rfl (by decide) h.1 ?_
    replace h := h.2
    change J _ _ _ _ _ _ [(0, _), (1, _), (2, _), (3, _)] _ _ _
    refine J_aload_n dX9_draw_113 rfl rfl ?_
    refine J_getR dX9_draw_114 ck_9 fw_X9_11 rfl sh_32 rr_32_1 ?_
    refine J_bipush dX9_draw_117 (ii_c rfl) (by decide) ?_
    refine J_iald dX9_draw_119 sh_33 (by decide) (by decide) ?_
    refine J_iast dX9_draw_120 ha1 h.1.1 h.1.2 ?_
    replace h := h.2 _ rfl
    refine J_aload_n dX9_draw_121 rfl rfl ?_
    refine J_iload_n dX9_draw_122 rfl rfl ?_
    refine J_aload_n dX9_draw_123 rfl rfl ?_
    refine J_aload_n dX9_draw_124 rfl rfl ?_
    refine J_iload_n dX9_draw_125 rfl rfl ?_
    refine J_callV (as := [_, _]) (mc1 := 0) (ms1 := 0) (mc := 0) (ms := 0) dX9_draw_126 mv_X9_sumOf lk_X9_123 sh_32 rfl (Nat.le_of_ble_eq_true rfl) (Nat.le_of_ble_eq_true rfl) h (fun r σ hq _ => ?_)
    obtain ⟨x1, I4, rfl, rfl, h⟩ := hq
    change J _ _ _ _ _ _ _ [vI x1, _, _] _ _
    refine J_iast dX9_draw_129 ha1 h.1.1 h.1.2 ?_
    replace h := h.2 _ rfl
    refine J_iload_n dX9_draw_130 rfl rfl ?_
    refine J_iconst dX9_draw_131 (ii_c rfl) ?_
    refine J_iaddN dX9_draw_132 h.1 ?_
    replace h := h.2
    exact J_reti dX9_draw_133 rfl h
  · replace h := h.2 c
    refine J_aload_n dX9_draw_17 rfl rfl ?_
    refine J_iload_n dX9_draw_18 rfl rfl ?_
    refine J_iincN dX9_draw_19 rfl (by decide) h.1 ?_
    replace h := h.2
    change J _ _ _ _ _ _ [(0, _), (1, _), (2, _), (3, _)] _ _ _
    refine J_aload_n dX9_draw_22 rfl rfl ?_
    refine J_getR dX9_draw_23 ck_9 fw_X9_11 rfl sh_32 rr_32_1 ?_
    refine J_iload_n dX9_draw_26 rfl rfl ?_
    refine J_iald dX9_draw_27 sh_33 h.1.1 h.1.2 ?_
    replace h := h.2
    refine J_iast dX9_draw_28 ha1 h.1.1 h.1.2 ?_
    replace h := h.2 _ rfl
    refine J_iconst dX9_draw_29 (ii_c rfl) ?_
    refine J_istore dX9_draw_30 (by decide) ?_
    change J _ _ _ _ _ _ [(0, _), (1, _), (2, _), (3, _), (4, _)] _ _ _
    exact h
set_option maxRecDepth 20000 in
set_option maxHeartbeats 2000000 in
theorem bk_X9_draw_32 {d : Nat} {I : HI} {Q : Option AV → AH → Prop} {a1 n1 : Nat} {a2 : Int} {a3 : Int} {a4 : Int} (ha1 : SH0[a1]? = some (.inr (0, n1))) (h : ((0 : Int) ≤ a3 ∧ (a3 : Int) < 102) ∧ (((I 33 a3.toNat) ≤ a4 → (-2147483648 ≤ a3 + 1 ∧ a3 + 1 ≤ 2147483647) ∧ J none mX9_draw (d + 1) 0 0 4 [(0, vR 32), (1, vR a1), (2, vI a2), (3, vI (a3 + 1))] [] (mk I) Q) ∧ (¬ ((I 33 a3.toNat) ≤ a4) → (-2147483648 ≤ a2 + 1 ∧ a2 + 1 ≤ 2147483647) ∧ (-2147483648 ≤ a3 * 24 ∧ a3 * 24 ≤ 2147483647) ∧ (-2147483648 ≤ 4 + (a3 * 24) ∧ 4 + (a3 * 24) ≤ 2147483647) ∧ (-2147483648 ≤ (4 + (a3 * 24)) + a4 ∧ (4 + (a3 * 24)) + a4 ≤ 2147483647) ∧ ((0 : Int) ≤ ((4 + (a3 * 24)) + a4) ∧ ((4 + (a3 * 24)) + a4 : Int) < 102) ∧ ((0 : Int) ≤ a2 ∧ (a2 : Int) < n1) ∧ (∀ I1 : HI, I1 = up I a1 a2.toNat (I 33 ((4 + (a3 * 24)) + a4).toNat) → (-2147483648 ≤ a4 + 1 ∧ a4 + 1 ≤ 2147483647) ∧ J none mX9_draw (d + 1) 0 0 32 [(0, vR 32), (1, vR a1), (2, vI (a2 + 1)), (3, vI a3), (4, vI (a4 + 1))] [] (mk I1) Q)))) : J none mX9_draw (d + 1) 0 0 32 [(0, vR 32), (1, vR a1), (2, vI a2), (3, vI a3), (4, vI a4)] [] (mk I) Q := by
  refine J_iload dX9_draw_32 rfl ?_
  refine J_aload_n dX9_draw_34 rfl rfl ?_
  refine J_getR dX9_draw_35 ck_9 fw_X9_11 rfl sh_32 rr_32_1 ?_
  refine J_iload_n dX9_draw_38 rfl rfl ?_
  refine J_iald dX9_draw_39 sh_33 h.1.1 h.1.2 ?_
  replace h := h.2
  refine J_ic_ge (tgt := 69) dX9_draw_40 (by decide) (fun c => ?_) (fun c => ?_)
  · replace h := h.1 c
    refine J_iincN dX9_draw_69 rfl (by decide) h.1 ?_
    replace h := h.2
    change J _ _ _ _ _ _ [(0, _), (1, _), (2, _), (3, _), (4, _)] _ _ _
    refine J_goto (tgt := 4) dX9_draw_72 (by decide) ?_
    exact J_loc (ls_sub [0, 1, 2, 3] rfl) h
  · replace h := h.2 c
    refine J_aload_n dX9_draw_43 rfl rfl ?_
    refine J_iload_n dX9_draw_44 rfl rfl ?_
    refine J_iincN dX9_draw_45 rfl (by decide) h.1 ?_
    replace h := h.2
    change J _ _ _ _ _ _ [(0, _), (1, _), (2, _), (3, _), (4, _)] _ _ _
    refine J_aload_n dX9_draw_48 rfl rfl ?_
    refine J_getR dX9_draw_49 ck_9 fw_X9_11 rfl sh_32 rr_32_1 ?_
    refine J_iconst dX9_draw_52 (ii_c rfl) ?_
    refine J_iload_n dX9_draw_53 rfl rfl ?_
    refine J_bipush dX9_draw_54 (ii_c rfl) (by decide) ?_
    refine J_imulN dX9_draw_56 h.1 ?_
    replace h := h.2
    refine J_iaddN dX9_draw_57 h.1 ?_
    replace h := h.2
    refine J_iload dX9_draw_58 rfl ?_
    refine J_iaddN dX9_draw_60 h.1 ?_
    replace h := h.2
    refine J_iald dX9_draw_61 sh_33 h.1.1 h.1.2 ?_
    replace h := h.2
    refine J_iast dX9_draw_62 ha1 h.1.1 h.1.2 ?_
    replace h := h.2 _ rfl
    refine J_iincN dX9_draw_63 rfl (by decide) h.1 ?_
    replace h := h.2
    change J _ _ _ _ _ _ [(0, _), (1, _), (2, _), (3, _), (4, _)] _ _ _
    refine J_goto (tgt := 32) dX9_draw_66 (by decide) ?_
    exact h
set_option maxRecDepth 20000 in
set_option maxHeartbeats 2000000 in
theorem bk_X9_sumOf_0 {d : Nat} {I : HI} {Q : Option AV → AH → Prop} {a1 n1 : Nat} {a2 : Int} (ha1 : SH0[a1]? = some (.inr (0, n1))) (h : J none mX9_sumOf (d + 1) 0 0 6 [(0, vR 32), (1, vR a1), (2, vI a2), (3, vI 83), (4, vI 0)] [] (mk I) Q) : J none mX9_sumOf (d + 1) 0 0 0 [(0, vR 32), (1, vR a1), (2, vI a2)] [] (mk I) Q := by
  refine J_bipush dX9_sumOf_0 (ii_c rfl) (by decide) ?_
  refine J_istore_n dX9_sumOf_2 rfl (by decide) ?_
  change J _ _ _ _ _ _ [(0, _), (1, _), (2, _), (3, _)] _ _ _
  refine J_iconst dX9_sumOf_3 (ii_c rfl) ?_
  refine J_istore dX9_sumOf_4 (by decide) ?_
  change J _ _ _ _ _ _ [(0, _), (1, _), (2, _), (3, _), (4, _)] _ _ _
  exact h
set_option maxRecDepth 20000 in
set_option maxHeartbeats 2000000 in
theorem bk_X9_sumOf_6 {d : Nat} {I : HI} {Q : Option AV → AH → Prop} {a1 n1 : Nat} {a2 : Int} {a3 : Int} {a4 : Int} (ha1 : SH0[a1]? = some (.inr (0, n1))) (h : ((a2 ≤ a4 → Q (some (vI a3)) (mk I)) ∧ (¬ (a2 ≤ a4) → (-2147483648 ≤ 3 * a3 ∧ 3 * a3 ≤ 2147483647) ∧ ((0 : Int) ≤ a4 ∧ (a4 : Int) < n1) ∧ (-2147483648 ≤ (3 * a3) + (I a1 a4.toNat) ∧ (3 * a3) + (I a1 a4.toNat) ≤ 2147483647) ∧ (-2147483648 ≤ a4 + 1 ∧ a4 + 1 ≤ 2147483647) ∧ J none mX9_sumOf (d + 1) 0 0 6 [(0, vR 32), (1, vR a1), (2, vI a2), (3, vI (oM ((3 * a3) + (I a1 a4.toNat)) 247)), (4, vI (a4 + 1))] [] (mk I) Q))) : J none mX9_sumOf (d + 1) 0 0 6 [(0, vR 32), (1, vR a1), (2, vI a2), (3, vI a3), (4, vI a4)] [] (mk I) Q := by
  refine J_iload dX9_sumOf_6 rfl ?_
  refine J_iload_n dX9_sumOf_8 rfl rfl ?_
  refine J_ic_ge (tgt := 31) dX9_sumOf_9 (by decide) (fun c => ?_) (fun c => ?_)
  · replace h := h.1 c
    refine J_iload_n dX9_sumOf_31 rfl rfl ?_
    exact J_reti dX9_sumOf_32 rfl h
  · replace h := h.2 c
    refine J_iconst dX9_sumOf_12 (ii_c rfl) ?_
    refine J_iload_n dX9_sumOf_13 rfl rfl ?_
    refine J_imulN dX9_sumOf_14 h.1 ?_
    replace h := h.2
    refine J_aload_n dX9_sumOf_15 rfl rfl ?_
    refine J_iload dX9_sumOf_16 rfl ?_
    refine J_iald dX9_sumOf_18 ha1 h.1.1 h.1.2 ?_
    replace h := h.2
    refine J_iaddN dX9_sumOf_19 h.1 ?_
    replace h := h.2
    refine J_sipush dX9_sumOf_20 (ii_c rfl) (by decide) ?_
    refine J_irem dX9_sumOf_23 (by decide) ?_
    refine J_istore_n dX9_sumOf_24 rfl (by decide) ?_
    change J _ _ _ _ _ _ [(0, _), (1, _), (2, _), (3, _), (4, _)] _ _ _
    refine J_iincN dX9_sumOf_25 rfl (by decide) h.1 ?_
    replace h := h.2
    change J _ _ _ _ _ _ [(0, _), (1, _), (2, _), (3, _), (4, _)] _ _ _
    refine J_goto (tgt := 6) dX9_sumOf_28 (by decide) ?_
    exact h
