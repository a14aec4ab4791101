set_option maxRecDepth 20000 in
set_option maxHeartbeats 2000000 in
theorem bk_X10_city_0 {d : Nat} {I : HI} {Q : Option AV → AH → Prop}   (h : CV mX7_open d [vR 28, vI (I 0 12)] I (fun I1 => (∀ I2 : HI, I2 = up I1 0 12 0 → J none mX10_city (d + 1) 0 0 20 [(0, vR 0), (1, vI 0), (2, vI 1)] [] (mk I2) Q))) : J none mX10_city (d + 1) 0 0 0 [(0, vR 0)] [] (mk I) Q := by
  refine J_aload_n dX10_city_0 rfl rfl ?_
  refine J_getR dX10_city_1 ck_10 fw_X10_28 rfl sh_0 rr_0_3 ?_
  refine J_aload_n dX10_city_4 rfl rfl ?_
  refine J_getI dX10_city_5 ck_10 fw_X10_102 rfl sh_0 ?_
  refine J_callV (as := [_]) (mc1 := 0) (ms1 := 0) (mc := 0) (ms := 0) dX10_city_8 mv_X7_open lk_X10_109 sh_28 rfl (Nat.le_of_ble_eq_true rfl) (Nat.le_of_ble_eq_true rfl) h (fun r σ hq _ => ?_)
  obtain ⟨I1, rfl, rfl, h⟩ := hq
  change J _ _ _ _ _ _ _ [] _ _
  refine J_aload_n dX10_city_11 rfl rfl ?_
  refine J_iconst dX10_city_12 (ii_c rfl) ?_
  refine J_putI dX10_city_13 ck_10 fw_X10_102 rfl rfl (Or.inl rfl) sh_0 ?_
  replace h := h _ rfl
  refine J_iconst dX10_city_16 (ii_c rfl) ?_
  refine J_istore_n dX10_city_17 rfl (by decide) ?_
  refine J_iconst dX10_city_18 (ii_c rfl) ?_
  refine J_istore_n dX10_city_19 rfl (by decide) ?_
  exact h
set_option maxRecDepth 20000 in
set_option maxHeartbeats 2000000 in
theorem bk_X10_city_20 {d : Nat} {I : HI} {Q : Option AV → AH → Prop} {a1 : Int} {a2 : Int}  (h : ((a2 = 0 → (∀ I1 : HI, I1 = up I 0 14 (I 28 13) → (∀ I2 : HI, I2 = up I1 0 15 (I1 28 14) → ((a2 ≠ 0 → CV mX0_settle d [vR 14] I2 (fun I3 => CV mX0_copyFrom d [vR 1, vR 14] I3 (fun I4 => CV mX9_begin d [vR 32] I4 (fun I5 => CV mX1_forget d [vR 62] I5 (fun I6 => Q (some (vI a1)) (mk I6)))))) ∧ (a2 = 0 → Q (some (vI (-1))) (mk I2)))))) ∧ (¬ (a2 = 0) → ((70 < a1 → (∀ I7 : HI, I7 = up I 0 14 (I 28 13) → (∀ I8 : HI, I8 = up I7 0 15 (I7 28 14) → ((a2 ≠ 0 → CV mX0_settle d [vR 14] I8 (fun I9 => CV mX0_copyFrom d [vR 1, vR 14] I9 (fun I10 => CV mX9_begin d [vR 32] I10 (fun I11 => CV mX1_forget d [vR 62] I11 (fun I12 => Q (some (vI a1)) (mk I12)))))) ∧ (a2 = 0 → Q (some (vI (-1))) (mk I8)))))) ∧ (¬ (70 < a1) → CI mX7_more d [vR 28] I (fun x9 I13 => ((x9 = 0 → (∀ I14 : HI, I14 = up I13 0 14 (I13 28 13) → (∀ I15 : HI, I15 = up I14 0 15 (I14 28 14) → ((a2 ≠ 0 → CV mX0_settle d [vR 14] I15 (fun I16 => CV mX0_copyFrom d [vR 1, vR 14] I16 (fun I17 => CV mX9_begin d [vR 32] I17 (fun I18 => CV mX1_forget d [vR 62] I18 (fun I19 => Q (some (vI a1)) (mk I19)))))) ∧ (a2 = 0 → Q (some (vI (-1))) (mk I15)))))) ∧ (¬ (x9 = 0) → ((70 ≤ a1 → CI mX7_fail d [vR 28, vI 5, vI (I13 28 6)] I13 (fun x14 I20 => (-2147483648 ≤ a1 + 1 ∧ a1 + 1 ≤ 2147483647) ∧ J none mX10_city (d + 1) 0 0 20 [(0, vR 0), (1, vI (a1 + 1)), (2, vI x14)] [] (mk I20) Q)) ∧ (¬ (70 ≤ a1) → CI mX7_statement d [vR 28] I13 (fun x15 I21 => (-2147483648 ≤ a1 + 1 ∧ a1 + 1 ≤ 2147483647) ∧ J none mX10_city (d + 1) 0 0 20 [(0, vR 0), (1, vI (a1 + 1)), (2, vI x15)] [] (mk I21) Q))))))))))) : J none mX10_city (d + 1) 0 0 20 [(0, vR 0), (1, vI a1), (2, vI a2)] [] (mk I) Q := by
  refine J_iload_n dX10_city_20 rfl rfl ?_
  refine J_if_eq (tgt := 78) dX10_city_21 (by decide) (fun c => ?_) (fun c => ?_)
  · replace h := h.1 c
    refine J_aload_n dX10_city_78 rfl rfl ?_
    refine J_aload_n dX10_city_79 rfl rfl ?_
    refine J_getR dX10_city_80 ck_10 fw_X10_28 rfl sh_0 rr_0_3 ?_
    refine J_getI dX10_city_83 ck_7 fw_X10_126 rfl sh_28 ?_
    refine J_putI dX10_city_86 ck_10 fw_X10_129 rfl rfl (Or.inl rfl) sh_0 ?_
    replace h := h _ rfl
    refine J_aload_n dX10_city_89 rfl rfl ?_
    refine J_aload_n dX10_city_90 rfl rfl ?_
    refine J_getR dX10_city_91 ck_10 fw_X10_28 rfl sh_0 rr_0_3 ?_
    refine J_getI dX10_city_94 ck_7 fw_X10_130 rfl sh_28 ?_
    refine J_putI dX10_city_97 ck_10 fw_X10_92 rfl rfl (Or.inl rfl) sh_0 ?_
    replace h := h _ rfl
    refine J_iload_n dX10_city_100 rfl rfl ?_
    refine J_if_ne (tgt := 106) dX10_city_101 (by decide) (fun c => ?_) (fun c => ?_)
    · replace h := h.1 c
      refine J_aload_n dX10_city_106 rfl rfl ?_
      refine J_getR dX10_city_107 ck_10 fw_X10_16 rfl sh_0 rr_0_1 ?_
      refine J_callV (as := []) (mc1 := 0) (ms1 := 0) (mc := 0) (ms := 0) dX10_city_110 mv_X0_settle lk_X10_131 sh_14 rfl (Nat.le_of_ble_eq_true rfl) (Nat.le_of_ble_eq_true rfl) h (fun r σ hq _ => ?_)
      obtain ⟨I3, rfl, rfl, h⟩ := hq
      change J _ _ _ _ _ _ _ [] _ _
      refine J_aload_n dX10_city_113 rfl rfl ?_
      refine J_getR dX10_city_114 ck_10 fw_X10_10 rfl sh_0 rr_0_0 ?_
      refine J_aload_n dX10_city_117 rfl rfl ?_
      refine J_getR dX10_city_118 ck_10 fw_X10_16 rfl sh_0 rr_0_1 ?_
      refine J_callV (as := [_]) (mc1 := 0) (ms1 := 0) (mc := 0) (ms := 0) dX10_city_121 mv_X0_copyFrom lk_X10_134 sh_1 rfl (Nat.le_of_ble_eq_true rfl) (Nat.le_of_ble_eq_true rfl) h (fun r σ hq _ => ?_)
      obtain ⟨I4, rfl, rfl, h⟩ := hq
      change J _ _ _ _ _ _ _ [] _ _
      refine J_aload_n dX10_city_124 rfl rfl ?_
      refine J_getR dX10_city_125 ck_10 fw_X10_37 rfl sh_0 rr_0_4 ?_
      refine J_callV (as := []) (mc1 := 0) (ms1 := 0) (mc := 0) (ms := 0) dX10_city_128 mv_X9_begin lk_X10_99 sh_32 rfl (Nat.le_of_ble_eq_true rfl) (Nat.le_of_ble_eq_true rfl) h (fun r σ hq _ => ?_)
      obtain ⟨I5, rfl, rfl, h⟩ := hq
      change J _ _ _ _ _ _ _ [] _ _
      refine J_aload_n dX10_city_131 rfl rfl ?_
      refine J_getR dX10_city_132 ck_10 fw_X10_51 rfl sh_0 rr_0_6 ?_
      refine J_callV (as := []) (mc1 := 0) (ms1 := 0) (mc := 0) (ms := 0) dX10_city_135 mv_X1_forget lk_X10_137 sh_62 rfl (Nat.le_of_ble_eq_true rfl) (Nat.le_of_ble_eq_true rfl) h (fun r σ hq _ => ?_)
      obtain ⟨I6, rfl, rfl, h⟩ := hq
      change J _ _ _ _ _ _ _ [] _ _
      refine J_iload_n dX10_city_138 rfl rfl ?_
      exact J_reti dX10_city_139 rfl h
    · replace h := h.2 c
      refine J_iconst dX10_city_104 (ii_c rfl) ?_
      exact J_reti dX10_city_105 rfl h
  · replace h := h.2 c
    refine J_iload_n dX10_city_24 rfl rfl ?_
    refine J_bipush dX10_city_25 (ii_c rfl) (by decide) ?_
    refine J_ic_gt (tgt := 78) dX10_city_27 (by decide) (fun c => ?_) (fun c => ?_)
    · replace h := h.1 c
      refine J_aload_n dX10_city_78 rfl rfl ?_
      refine J_aload_n dX10_city_79 rfl rfl ?_
      refine J_getR dX10_city_80 ck_10 fw_X10_28 rfl sh_0 rr_0_3 ?_
      refine J_getI dX10_city_83 ck_7 fw_X10_126 rfl sh_28 ?_
      refine J_putI dX10_city_86 ck_10 fw_X10_129 rfl rfl (Or.inl rfl) sh_0 ?_
      replace h := h _ rfl
      refine J_aload_n dX10_city_89 rfl rfl ?_
      refine J_aload_n dX10_city_90 rfl rfl ?_
      refine J_getR dX10_city_91 ck_10 fw_X10_28 rfl sh_0 rr_0_3 ?_
      refine J_getI dX10_city_94 ck_7 fw_X10_130 rfl sh_28 ?_
      refine J_putI dX10_city_97 ck_10 fw_X10_92 rfl rfl (Or.inl rfl) sh_0 ?_
      replace h := h _ rfl
      refine J_iload_n dX10_city_100 rfl rfl ?_
      refine J_if_ne (tgt := 106) dX10_city_101 (by decide) (fun c => ?_) (fun c => ?_)
      · replace h := h.1 c
        refine J_aload_n dX10_city_106 rfl rfl ?_
        refine J_getR dX10_city_107 ck_10 fw_X10_16 rfl sh_0 rr_0_1 ?_
        refine J_callV (as := []) (mc1 := 0) (ms1 := 0) (mc := 0) (ms := 0) dX10_city_110 mv_X0_settle lk_X10_131 sh_14 rfl (Nat.le_of_ble_eq_true rfl) (Nat.le_of_ble_eq_true rfl) h (fun r σ hq _ => ?_)
        obtain ⟨I9, rfl, rfl, h⟩ := hq
        change J _ _ _ _ _ _ _ [] _ _
        refine J_aload_n dX10_city_113 rfl rfl ?_
        refine J_getR dX10_city_114 ck_10 fw_X10_10 rfl sh_0 rr_0_0 ?_
        refine J_aload_n dX10_city_117 rfl rfl ?_
        refine J_getR dX10_city_118 ck_10 fw_X10_16 rfl sh_0 rr_0_1 ?_
        refine J_callV (as := [_]) (mc1 := 0) (ms1 := 0) (mc := 0) (ms := 0) dX10_city_121 mv_X0_copyFrom lk_X10_134 sh_1 rfl (Nat.le_of_ble_eq_true rfl) (Nat.le_of_ble_eq_true rfl) h (fun r σ hq _ => ?_)
        obtain ⟨I10, rfl, rfl, h⟩ := hq
        change J _ _ _ _ _ _ _ [] _ _
        refine J_aload_n dX10_city_124 rfl rfl ?_
        refine J_getR dX10_city_125 ck_10 fw_X10_37 rfl sh_0 rr_0_4 ?_
        refine J_callV (as := []) (mc1 := 0) (ms1 := 0) (mc := 0) (ms := 0) dX10_city_128 mv_X9_begin lk_X10_99 sh_32 rfl (Nat.le_of_ble_eq_true rfl) (Nat.le_of_ble_eq_true rfl) h (fun r σ hq _ => ?_)
        obtain ⟨I11, rfl, rfl, h⟩ := hq
        change J _ _ _ _ _ _ _ [] _ _
        refine J_aload_n dX10_city_131 rfl rfl ?_
        refine J_getR dX10_city_132 ck_10 fw_X10_51 rfl sh_0 rr_0_6 ?_
        refine J_callV (as := []) (mc1 := 0) (ms1 := 0) (mc := 0) (ms := 0) dX10_city_135 mv_X1_forget lk_X10_137 sh_62 rfl (Nat.le_of_ble_eq_true rfl) (Nat.le_of_ble_eq_true rfl) h (fun r σ hq _ => ?_)
        obtain ⟨I12, rfl, rfl, h⟩ := hq
        change J _ _ _ _ _ _ _ [] _ _
        refine J_iload_n dX10_city_138 rfl rfl ?_
        exact J_reti dX10_city_139 rfl h
      · replace h := h.2 c
        refine J_iconst dX10_city_104 (ii_c rfl) ?_
        exact J_reti dX10_city_105 rfl h
    · replace h := h.2 c
      refine J_aload_n dX10_city_30 rfl rfl ?_
      refine J_getR dX10_city_31 ck_10 fw_X10_28 rfl sh_0 rr_0_3 ?_
      refine J_callV (as := []) (mc1 := 0) (ms1 := 0) (mc := 0) (ms := 0) dX10_city_34 mv_X7_more lk_X10_112 sh_28 rfl (Nat.le_of_ble_eq_true rfl) (Nat.le_of_ble_eq_true rfl) h (fun r σ hq _ => ?_)
      obtain ⟨x9, I13, rfl, rfl, h⟩ := hq
      change J _ _ _ _ _ _ _ [vI x9] _ _
      refine J_if_eq (tgt := 78) dX10_city_37 (by decide) (fun c => ?_) (fun c => ?_)
      · replace h := h.1 c
        refine J_aload_n dX10_city_78 rfl rfl ?_
        refine J_aload_n dX10_city_79 rfl rfl ?_
        refine J_getR dX10_city_80 ck_10 fw_X10_28 rfl sh_0 rr_0_3 ?_
        refine J_getI dX10_city_83 ck_7 fw_X10_126 rfl sh_28 ?_
        refine J_putI dX10_city_86 ck_10 fw_X10_129 rfl rfl (Or.inl rfl) sh_0 ?_
        replace h := h _ rfl
        refine J_aload_n dX10_city_89 rfl rfl ?_
        refine J_aload_n dX10_city_90 rfl rfl ?_
        refine J_getR dX10_city_91 ck_10 fw_X10_28 rfl sh_0 rr_0_3 ?_
        refine J_getI dX10_city_94 ck_7 fw_X10_130 rfl sh_28 ?_
        refine J_putI dX10_city_97 ck_10 fw_X10_92 rfl rfl (Or.inl rfl) sh_0 ?_
        replace h := h _ rfl
        refine J_iload_n dX10_city_100 rfl rfl ?_
        refine J_if_ne (tgt := 106) dX10_city_101 (by decide) (fun c => ?_) (fun c => ?_)
        · replace h := h.1 c
          refine J_aload_n dX10_city_106 rfl rfl ?_
          refine J_getR dX10_city_107 ck_10 fw_X10_16 rfl sh_0 rr_0_1 ?_
          refine J_callV (as := []) (mc1 := 0) (ms1 := 0) (mc := 0) (ms := 0) dX10_city_110 mv_X0_settle lk_X10_131 sh_14 rfl (Nat.le_of_ble_eq_true rfl) (Nat.le_of_ble_eq_true rfl) h (fun r σ hq _ => ?_)
          obtain ⟨I16, rfl, rfl, h⟩ := hq
          change J _ _ _ _ _ _ _ [] _ _
          refine J_aload_n dX10_city_113 rfl rfl ?_
          refine J_getR dX10_city_114 ck_10 fw_X10_10 rfl sh_0 rr_0_0 ?_
          refine J_aload_n dX10_city_117 rfl rfl ?_
          refine J_getR dX10_city_118 ck_10 fw_X10_16 rfl sh_0 rr_0_1 ?_
          refine J_callV (as := [_]) (mc1 := 0) (ms1 := 0) (mc := 0) (ms := 0) dX10_city_121 mv_X0_copyFrom lk_X10_134 sh_1 rfl (Nat.le_of_ble_eq_true rfl) (Nat.le_of_ble_eq_true rfl) h (fun r σ hq _ => ?_)
          obtain ⟨I17, rfl, rfl, h⟩ := hq
          change J _ _ _ _ _ _ _ [] _ _
          refine J_aload_n dX10_city_124 rfl rfl ?_
          refine J_getR dX10_city_125 ck_10 fw_X10_37 rfl sh_0 rr_0_4 ?_
          refine J_callV (as := []) (mc1 := 0) (ms1 := 0) (mc := 0) (ms := 0) dX10_city_128 mv_X9_begin lk_X10_99 sh_32 rfl (Nat.le_of_ble_eq_true rfl) (Nat.le_of_ble_eq_true rfl) h (fun r σ hq _ => ?_)
          obtain ⟨I18, rfl, rfl, h⟩ := hq
          change J _ _ _ _ _ _ _ [] _ _
          refine J_aload_n dX10_city_131 rfl rfl ?_
          refine J_getR dX10_city_132 ck_10 fw_X10_51 rfl sh_0 rr_0_6 ?_
          refine J_callV (as := []) (mc1 := 0) (ms1 := 0) (mc := 0) (ms := 0) dX10_city_135 mv_X1_forget lk_X10_137 sh_62 rfl (Nat.le_of_ble_eq_true rfl) (Nat.le_of_ble_eq_true rfl) h (fun r σ hq _ => ?_)
          obtain ⟨I19, rfl, rfl, h⟩ := hq
          change J _ _ _ _ _ _ _ [] _ _
          refine J_iload_n dX10_city_138 rfl rfl ?_
          exact J_reti dX10_city_139 rfl h
        · replace h := h.2 c
          refine J_iconst dX10_city_104 (ii_c rfl) ?_
          exact J_reti dX10_city_105 rfl h
      · replace h := h.2 c
        refine J_iload_n dX10_city_40 rfl rfl ?_
        refine J_bipush dX10_city_41 (ii_c rfl) (by decide) ?_
        refine J_ic_ge (tgt := 56) dX10_city_43 (by decide) (fun c => ?_) (fun c => ?_)
        · replace h := h.1 c
          refine J_aload_n dX10_city_56 rfl rfl ?_
          refine J_getR dX10_city_57 ck_10 fw_X10_28 rfl sh_0 rr_0_3 ?_
          refine J_iconst dX10_city_60 (ii_c rfl) ?_
          refine J_aload_n dX10_city_61 rfl rfl ?_
          refine J_getR dX10_city_62 ck_10 fw_X10_28 rfl sh_0 rr_0_3 ?_
          refine J_getI dX10_city_65 ck_7 fw_X10_119 rfl sh_28 ?_
          refine J_callV (as := [_, _]) (mc1 := 0) (ms1 := 0) (mc := 0) (ms := 0) dX10_city_68 mv_X7_fail lk_X10_122 sh_28 rfl (Nat.le_of_ble_eq_true rfl) (Nat.le_of_ble_eq_true rfl) h (fun r σ hq _ => ?_)
          obtain ⟨x14, I20, rfl, rfl, h⟩ := hq
          change J _ _ _ _ _ _ _ [vI x14] _ _
          refine J_istore_n dX10_city_71 rfl (by decide) ?_
          refine J_iincN dX10_city_72 rfl (by decide) h.1 ?_
          replace h := h.2
          refine J_goto (tgt := 20) dX10_city_75 (by decide) ?_
          exact h
        · replace h := h.2 c
          refine J_aload_n dX10_city_46 rfl rfl ?_
          refine J_getR dX10_city_47 ck_10 fw_X10_28 rfl sh_0 rr_0_3 ?_
          refine J_callV (as := []) (mc1 := 0) (ms1 := 0) (mc := 0) (ms := 0) dX10_city_50 mv_X7_statement lk_X10_116 sh_28 rfl (Nat.le_of_ble_eq_true rfl) (Nat.le_of_ble_eq_true rfl) h (fun r σ hq _ => ?_)
          obtain ⟨x15, I21, rfl, rfl, h⟩ := hq
          change J _ _ _ _ _ _ _ [vI x15] _ _
          refine J_goto (tgt := 71) dX10_city_53 (by decide) ?_
          refine J_istore_n dX10_city_71 rfl (by decide) ?_
          refine J_iincN dX10_city_72 rfl (by decide) h.1 ?_
          replace h := h.2
          refine J_goto (tgt := 20) dX10_city_75 (by decide) ?_
          exact h
set_option maxRecDepth 20000 in
set_option maxHeartbeats 2000000 in
theorem bk_X10_fault_0 {d : Nat} {I : HI} {Q : Option AV → AH → Prop} {a1 : Int}  (h : ((a1 = 0 → Q (some (vI (I 0 14))) (mk I)) ∧ (a1 = 1 → Q (some (vI (I 0 15))) (mk I)) ∧ ((a1 ≠ 0 ∧ a1 ≠ 1) → Q (some (vI (-1))) (mk I)))) : J none mX10_fault (d + 1) 0 0 0 [(0, vR 0), (1, vI a1)] [] (mk I) Q := by
  refine J_iload_n dX10_fault_0 rfl rfl ?_
  rcases (show a1 = 0 ∨ a1 = 1 ∨ (a1 ≠ 0 ∧ a1 ≠ 1) by omega) with c | c | c
  · replace h := h.1 c
    refine J_look (tgt := 28) (off := 27) dX10_fault_1 (by decide) (by rw [c]; rfl) (by decide) ?_
    refine J_aload_n dX10_fault_28 rfl rfl ?_
    refine J_getI dX10_fault_29 ck_10 fw_X10_129 rfl sh_0 ?_
    exact J_reti dX10_fault_32 rfl h
  · replace h := h.2.1 c
    refine J_look (tgt := 33) (off := 32) dX10_fault_1 (by decide) (by rw [c]; rfl) (by decide) ?_
    refine J_aload_n dX10_fault_33 rfl rfl ?_
    refine J_getI dX10_fault_34 ck_10 fw_X10_92 rfl sh_0 ?_
    exact J_reti dX10_fault_37 rfl h
  · replace h := h.2.2 c
    refine J_look (tgt := 38) (off := 37) dX10_fault_1 (by decide) (by simp [Op.lookupswitch.offset, c]) (by decide) ?_
    refine J_iconst dX10_fault_38 (ii_c rfl) ?_
    exact J_reti dX10_fault_39 rfl h
set_option maxRecDepth 20000 in
set_option maxHeartbeats 2000000 in
theorem bk_X10_has_0 {d : Nat} {I : HI} {Q : Option AV → AH → Prop} {a1 : Int}  (h : (((a1 < 0 ∨ 9 < a1) → Q (some (vI (-1))) (mk I)) ∧ ((0 ≤ a1 ∧ a1 ≤ 4) → ((0 : Int) ≤ a1 ∧ (a1 : Int) < 5) ∧ Q (some (vI (I 2 a1.toNat))) (mk I)) ∧ (a1 = 5 → Q (some (vI (I 1 13))) (mk I)) ∧ (a1 = 6 → CI mJ6_bitCount_0f7a4 d [vI (I 1 12)] I (fun x1 I1 => Q (some (vI x1)) (mk I1))) ∧ (a1 = 7 → CI mX9_shutBits d [vR 32] I (fun x2 I2 => CI mJ6_bitCount_0f7a4 d [vI x2] I2 (fun x3 I3 => Q (some (vI x3)) (mk I3)))) ∧ (a1 = 8 → CI mX9_onBits d [vR 32] I (fun x4 I4 => Q (some (vI x4)) (mk I4))) ∧ (a1 = 9 → Q (some (vI (I 32 6))) (mk I)))) : J none mX10_has (d + 1) 0 0 0 [(0, vR 0), (1, vI a1)] [] (mk I) Q := by
  refine J_iload_n dX10_has_0 rfl rfl ?_
  rcases (show (a1 < 0 ∨ 9 < a1) ∨ a1 = 0 ∨ a1 = 1 ∨ a1 = 2 ∨ a1 = 3 ∨ a1 = 4 ∨ a1 = 5 ∨ a1 = 6 ∨ a1 = 7 ∨ a1 = 8 ∨ a1 = 9 by omega) with c | c | c | c | c | c | c | c | c | c | c
  · replace h := h.1 c
    refine J_tabOut (tgt := 112) dX10_has_1 c (by decide) ?_
    refine J_iconst dX10_has_112 (ii_c rfl) ?_
    exact J_reti dX10_has_113 rfl h
  · replace h := h.2.1 (by omega)
    refine J_tabIn (tgt := 56) (off := 55) dX10_has_1 (by omega) (by omega) (by rw [c]; rfl) (by decide) ?_
    refine J_aload_n dX10_has_56 rfl rfl ?_
    refine J_getR dX10_has_57 ck_10 fw_X10_10 rfl sh_0 rr_0_0 ?_
    refine J_getR dX10_has_60 ck_0 fw_X10_140 rfl sh_1 rr_1_0 ?_
    refine J_iload_n dX10_has_63 rfl rfl ?_
    refine J_iald dX10_has_64 sh_2 h.1.1 h.1.2 ?_
    replace h := h.2
    exact J_reti dX10_has_65 rfl h
  · replace h := h.2.1 (by omega)
    refine J_tabIn (tgt := 56) (off := 55) dX10_has_1 (by omega) (by omega) (by rw [c]; rfl) (by decide) ?_
    refine J_aload_n dX10_has_56 rfl rfl ?_
    refine J_getR dX10_has_57 ck_10 fw_X10_10 rfl sh_0 rr_0_0 ?_
    refine J_getR dX10_has_60 ck_0 fw_X10_140 rfl sh_1 rr_1_0 ?_
    refine J_iload_n dX10_has_63 rfl rfl ?_
    refine J_iald dX10_has_64 sh_2 h.1.1 h.1.2 ?_
    replace h := h.2
    exact J_reti dX10_has_65 rfl h
  · replace h := h.2.1 (by omega)
    refine J_tabIn (tgt := 56) (off := 55) dX10_has_1 (by omega) (by omega) (by rw [c]; rfl) (by decide) ?_
    refine J_aload_n dX10_has_56 rfl rfl ?_
    refine J_getR dX10_has_57 ck_10 fw_X10_10 rfl sh_0 rr_0_0 ?_
    refine J_getR dX10_has_60 ck_0 fw_X10_140 rfl sh_1 rr_1_0 ?_
    refine J_iload_n dX10_has_63 rfl rfl ?_
    refine J_iald dX10_has_64 sh_2 h.1.1 h.1.2 ?_
    replace h := h.2
    exact J_reti dX10_has_65 rfl h
  · replace h := h.2.1 (by omega)
    refine J_tabIn (tgt := 56) (off := 55) dX10_has_1 (by omega) (by omega) (by rw [c]; rfl) (by decide) ?_
    refine J_aload_n dX10_has_56 rfl rfl ?_
    refine J_getR dX10_has_57 ck_10 fw_X10_10 rfl sh_0 rr_0_0 ?_
    refine J_getR dX10_has_60 ck_0 fw_X10_140 rfl sh_1 rr_1_0 ?_
    refine J_iload_n dX10_has_63 rfl rfl ?_
    refine J_iald dX10_has_64 sh_2 h.1.1 h.1.2 ?_
    replace h := h.2
    exact J_reti dX10_has_65 rfl h
  · replace h := h.2.1 (by omega)
    refine J_tabIn (tgt := 56) (off := 55) dX10_has_1 (by omega) (by omega) (by rw [c]; rfl) (by decide) ?_
    refine J_aload_n dX10_has_56 rfl rfl ?_
    refine J_getR dX10_has_57 ck_10 fw_X10_10 rfl sh_0 rr_0_0 ?_
    refine J_getR dX10_has_60 ck_0 fw_X10_140 rfl sh_1 rr_1_0 ?_
    refine J_iload_n dX10_has_63 rfl rfl ?_
    refine J_iald dX10_has_64 sh_2 h.1.1 h.1.2 ?_
    replace h := h.2
    exact J_reti dX10_has_65 rfl h
  · replace h := h.2.2.1 c
    refine J_tabIn (tgt := 66) (off := 65) dX10_has_1 (by omega) (by omega) (by rw [c]; rfl) (by decide) ?_
    refine J_aload_n dX10_has_66 rfl rfl ?_
    refine J_getR dX10_has_67 ck_10 fw_X10_10 rfl sh_0 rr_0_0 ?_
    refine J_getI dX10_has_70 ck_0 fw_X10_143 rfl sh_1 ?_
    exact J_reti dX10_has_73 rfl h
  · replace h := h.2.2.2.1 c
    refine J_tabIn (tgt := 74) (off := 73) dX10_has_1 (by omega) (by omega) (by rw [c]; rfl) (by decide) ?_
    refine J_aload_n dX10_has_74 rfl rfl ?_
    refine J_getR dX10_has_75 ck_10 fw_X10_10 rfl sh_0 rr_0_0 ?_
    refine J_getI dX10_has_78 ck_0 fw_X10_146 rfl sh_1 ?_
    refine J_callS (as := [_]) (mc1 := 0) (ms1 := 0) (mc := 0) (ms := 0) dX10_has_81 ms_J6_bitCount_0f7a4 lk_X10_149 rfl (Nat.le_of_ble_eq_true rfl) (Nat.le_of_ble_eq_true rfl) h (fun r σ hq _ => ?_)
    obtain ⟨x1, I1, rfl, rfl, h⟩ := hq
    change J _ _ _ _ _ _ _ [vI x1] _ _
    exact J_reti dX10_has_84 rfl h
  · replace h := h.2.2.2.2.1 c
    refine J_tabIn (tgt := 85) (off := 84) dX10_has_1 (by omega) (by omega) (by rw [c]; rfl) (by decide) ?_
    refine J_aload_n dX10_has_85 rfl rfl ?_
    refine J_getR dX10_has_86 ck_10 fw_X10_37 rfl sh_0 rr_0_4 ?_
    refine J_callV (as := []) (mc1 := 0) (ms1 := 0) (mc := 0) (ms := 0) dX10_has_89 mv_X9_shutBits lk_X10_155 sh_32 rfl (Nat.le_of_ble_eq_true rfl) (Nat.le_of_ble_eq_true rfl) h (fun r σ hq _ => ?_)
    obtain ⟨x2, I2, rfl, rfl, h⟩ := hq
    change J _ _ _ _ _ _ _ [vI x2] _ _
    refine J_callS (as := [_]) (mc1 := 0) (ms1 := 0) (mc := 0) (ms := 0) dX10_has_92 ms_J6_bitCount_0f7a4 lk_X10_149 rfl (Nat.le_of_ble_eq_true rfl) (Nat.le_of_ble_eq_true rfl) h (fun r σ hq _ => ?_)
    obtain ⟨x3, I3, rfl, rfl, h⟩ := hq
    change J _ _ _ _ _ _ _ [vI x3] _ _
    exact J_reti dX10_has_95 rfl h
  · replace h := h.2.2.2.2.2.1 c
    refine J_tabIn (tgt := 96) (off := 95) dX10_has_1 (by omega) (by omega) (by rw [c]; rfl) (by decide) ?_
    refine J_aload_n dX10_has_96 rfl rfl ?_
    refine J_getR dX10_has_97 ck_10 fw_X10_37 rfl sh_0 rr_0_4 ?_
    refine J_callV (as := []) (mc1 := 0) (ms1 := 0) (mc := 0) (ms := 0) dX10_has_100 mv_X9_onBits lk_X10_159 sh_32 rfl (Nat.le_of_ble_eq_true rfl) (Nat.le_of_ble_eq_true rfl) h (fun r σ hq _ => ?_)
    obtain ⟨x4, I4, rfl, rfl, h⟩ := hq
    change J _ _ _ _ _ _ _ [vI x4] _ _
    exact J_reti dX10_has_103 rfl h
  · replace h := h.2.2.2.2.2.2 c
    refine J_tabIn (tgt := 104) (off := 103) dX10_has_1 (by omega) (by omega) (by rw [c]; rfl) (by decide) ?_
    refine J_aload_n dX10_has_104 rfl rfl ?_
    refine J_getR dX10_has_105 ck_10 fw_X10_37 rfl sh_0 rr_0_4 ?_
    refine J_getI dX10_has_108 ck_9 fw_X10_162 rfl sh_32 ?_
    exact J_reti dX10_has_111 rfl h
set_option maxRecDepth 20000 in
set_option maxHeartbeats 2000000 in
theorem bk_X10_letter_0 {d : Nat} {I : HI} {Q : Option AV → AH → Prop} {a1 : Int} {a2 : Int} {a3 : Int}  (h : ((a1 < 0 → Q (some (vI (-1))) (mk I)) ∧ (¬ (a1 < 0) → ((1 < a1 → Q (some (vI (-1))) (mk I)) ∧ (¬ (1 < a1) → ((a3 < 0 → Q (some (vI (-1))) (mk I)) ∧ (¬ (a3 < 0) → ((a3 < 6 → ((a2 < 0 → Q (some (vI (-1))) (mk I)) ∧ (¬ (a2 < 0) → ((a1 ≠ 0 → ((a2 < (I 2 2) → ((a1 ≠ 0 → (-2147483648 ≤ a2 * 6 ∧ a2 * 6 ≤ 2147483647) ∧ (-2147483648 ≤ (a2 * 6) + a3 ∧ (a2 * 6) + a3 ≤ 2147483647) ∧ ((0 : Int) ≤ ((a2 * 6) + a3) ∧ ((a2 * 6) + a3 : Int) < 24) ∧ Q (some (vI (I 4 ((a2 * 6) + a3).toNat))) (mk I)) ∧ (a1 = 0 → (-2147483648 ≤ a2 * 6 ∧ a2 * 6 ≤ 2147483647) ∧ (-2147483648 ≤ (a2 * 6) + a3 ∧ (a2 * 6) + a3 ≤ 2147483647) ∧ ((0 : Int) ≤ ((a2 * 6) + a3) ∧ ((a2 * 6) + a3 : Int) < 60) ∧ Q (some (vI (I 3 ((a2 * 6) + a3).toNat))) (mk I)))) ∧ (¬ (a2 < (I 2 2)) → Q (some (vI (-1))) (mk I)))) ∧ (a1 = 0 → ((a2 < (I 2 0) → ((a1 ≠ 0 → (-2147483648 ≤ a2 * 6 ∧ a2 * 6 ≤ 2147483647) ∧ (-2147483648 ≤ (a2 * 6) + a3 ∧ (a2 * 6) + a3 ≤ 2147483647) ∧ ((0 : Int) ≤ ((a2 * 6) + a3) ∧ ((a2 * 6) + a3 : Int) < 24) ∧ Q (some (vI (I 4 ((a2 * 6) + a3).toNat))) (mk I)) ∧ (a1 = 0 → (-2147483648 ≤ a2 * 6 ∧ a2 * 6 ≤ 2147483647) ∧ (-2147483648 ≤ (a2 * 6) + a3 ∧ (a2 * 6) + a3 ≤ 2147483647) ∧ ((0 : Int) ≤ ((a2 * 6) + a3) ∧ ((a2 * 6) + a3 : Int) < 60) ∧ Q (some (vI (I 3 ((a2 * 6) + a3).toNat))) (mk I)))) ∧ (¬ (a2 < (I 2 0)) → Q (some (vI (-1))) (mk I)))))))) ∧ (¬ (a3 < 6) → Q (some (vI (-1))) (mk I)))))))))) : J none mX10_letter (d + 1) 0 0 0 [(0, vR 0), (1, vI a1), (2, vI a2), (3, vI a3)] [] (mk I) Q := by
  refine J_iload_n dX10_letter_0 rfl rfl ?_
  refine J_if_lt (tgt := 19) dX10_letter_1 (by decide) (fun c => ?_) (fun c => ?_)
  · replace h := h.1 c
    refine J_iconst dX10_letter_19 (ii_c rfl) ?_
    exact J_reti dX10_letter_20 rfl h
  · replace h := h.2 c
    refine J_iload_n dX10_letter_4 rfl rfl ?_
    refine J_iconst dX10_letter_5 (ii_c rfl) ?_
    refine J_ic_gt (tgt := 19) dX10_letter_6 (by decide) (fun c => ?_) (fun c => ?_)
    · replace h := h.1 c
      refine J_iconst dX10_letter_19 (ii_c rfl) ?_
      exact J_reti dX10_letter_20 rfl h
    · replace h := h.2 c
      refine J_iload_n dX10_letter_9 rfl rfl ?_
      refine J_if_lt (tgt := 19) dX10_letter_10 (by decide) (fun c => ?_) (fun c => ?_)
      · replace h := h.1 c
        refine J_iconst dX10_letter_19 (ii_c rfl) ?_
        exact J_reti dX10_letter_20 rfl h
      · replace h := h.2 c
        refine J_iload_n dX10_letter_13 rfl rfl ?_
        refine J_bipush dX10_letter_14 (ii_c rfl) (by decide) ?_
        refine J_ic_lt (tgt := 21) dX10_letter_16 (by decide) (fun c => ?_) (fun c => ?_)
        · replace h := h.1 c
          refine J_iload_n dX10_letter_21 rfl rfl ?_
          refine J_if_lt (tgt := 46) dX10_letter_22 (by decide) (fun c => ?_) (fun c => ?_)
          · replace h := h.1 c
            refine J_iconst dX10_letter_46 (ii_c rfl) ?_
            exact J_reti dX10_letter_47 rfl h
          · replace h := h.2 c
            refine J_iload_n dX10_letter_25 rfl rfl ?_
            refine J_aload_n dX10_letter_26 rfl rfl ?_
            refine J_getR dX10_letter_27 ck_10 fw_X10_10 rfl sh_0 rr_0_0 ?_
            refine J_getR dX10_letter_30 ck_0 fw_X10_140 rfl sh_1 rr_1_0 ?_
            refine J_iload_n dX10_letter_33 rfl rfl ?_
            refine J_if_ne (tgt := 41) dX10_letter_34 (by decide) (fun c => ?_) (fun c => ?_)
            · replace h := h.1 c
              refine J_iconst dX10_letter_41 (ii_c rfl) ?_
              refine J_iald dX10_letter_42 sh_2 (by decide) (by decide) ?_
              refine J_ic_lt (tgt := 48) dX10_letter_43 (by decide) (fun c => ?_) (fun c => ?_)
              · replace h := h.1 c
                refine J_iload_n dX10_letter_48 rfl rfl ?_
                refine J_if_ne (tgt := 62) dX10_letter_49 (by decide) (fun c => ?_) (fun c => ?_)
                · replace h := h.1 c
                  refine J_aload_n dX10_letter_62 rfl rfl ?_
                  refine J_getR dX10_letter_63 ck_10 fw_X10_10 rfl sh_0 rr_0_0 ?_
                  refine J_getR dX10_letter_66 ck_0 fw_X10_168 rfl sh_1 rr_1_2 ?_
                  refine J_iload_n dX10_letter_69 rfl rfl ?_
                  refine J_bipush dX10_letter_70 (ii_c rfl) (by decide) ?_
                  refine J_imulN dX10_letter_72 h.1 ?_
                  replace h := h.2
                  refine J_iload_n dX10_letter_73 rfl rfl ?_
                  refine J_iaddN dX10_letter_74 h.1 ?_
                  replace h := h.2
                  refine J_iald dX10_letter_75 sh_4 h.1.1 h.1.2 ?_
                  replace h := h.2
                  exact J_reti dX10_letter_76 rfl h
                · replace h := h.2 c
                  refine J_aload_n dX10_letter_52 rfl rfl ?_
                  refine J_getR dX10_letter_53 ck_10 fw_X10_10 rfl sh_0 rr_0_0 ?_
                  refine J_getR dX10_letter_56 ck_0 fw_X10_165 rfl sh_1 rr_1_1 ?_
                  refine J_goto (tgt := 69) dX10_letter_59 (by decide) ?_
                  refine J_iload_n dX10_letter_69 rfl rfl ?_
                  refine J_bipush dX10_letter_70 (ii_c rfl) (by decide) ?_
                  refine J_imulN dX10_letter_72 h.1 ?_
                  replace h := h.2
                  refine J_iload_n dX10_letter_73 rfl rfl ?_
                  refine J_iaddN dX10_letter_74 h.1 ?_
                  replace h := h.2
                  refine J_iald dX10_letter_75 sh_3 h.1.1 h.1.2 ?_
                  replace h := h.2
                  exact J_reti dX10_letter_76 rfl h
              · replace h := h.2 c
                refine J_iconst dX10_letter_46 (ii_c rfl) ?_
                exact J_reti dX10_letter_47 rfl h
            · replace h := h.2 c
              refine J_iconst dX10_letter_37 (ii_c rfl) ?_
              refine J_goto (tgt := 42) dX10_letter_38 (by decide) ?_
              refine J_iald dX10_letter_42 sh_2 (by decide) (by decide) ?_
              refine J_ic_lt (tgt := 48) dX10_letter_43 (by decide) (fun c => ?_) (fun c => ?_)
              · replace h := h.1 c
                refine J_iload_n dX10_letter_48 rfl rfl ?_
                refine J_if_ne (tgt := 62) dX10_letter_49 (by decide) (fun c => ?_) (fun c => ?_)
                · replace h := h.1 c
                  refine J_aload_n dX10_letter_62 rfl rfl ?_
                  refine J_getR dX10_letter_63 ck_10 fw_X10_10 rfl sh_0 rr_0_0 ?_
                  refine J_getR dX10_letter_66 ck_0 fw_X10_168 rfl sh_1 rr_1_2 ?_
                  refine J_iload_n dX10_letter_69 rfl rfl ?_
                  refine J_bipush dX10_letter_70 (ii_c rfl) (by decide) ?_
                  refine J_imulN dX10_letter_72 h.1 ?_
                  replace h := h.2
                  refine J_iload_n dX10_letter_73 rfl rfl ?_
                  refine J_iaddN dX10_letter_74 h.1 ?_
                  replace h := h.2
                  refine J_iald dX10_letter_75 sh_4 h.1.1 h.1.2 ?_
                  replace h := h.2
                  exact J_reti dX10_letter_76 rfl h
                · replace h := h.2 c
                  refine J_aload_n dX10_letter_52 rfl rfl ?_
                  refine J_getR dX10_letter_53 ck_10 fw_X10_10 rfl sh_0 rr_0_0 ?_
                  refine J_getR dX10_letter_56 ck_0 fw_X10_165 rfl sh_1 rr_1_1 ?_
                  refine J_goto (tgt := 69) dX10_letter_59 (by decide) ?_
                  refine J_iload_n dX10_letter_69 rfl rfl ?_
                  refine J_bipush dX10_letter_70 (ii_c rfl) (by decide) ?_
                  refine J_imulN dX10_letter_72 h.1 ?_
                  replace h := h.2
                  refine J_iload_n dX10_letter_73 rfl rfl ?_
                  refine J_iaddN dX10_letter_74 h.1 ?_
                  replace h := h.2
                  refine J_iald dX10_letter_75 sh_3 h.1.1 h.1.2 ?_
                  replace h := h.2
                  exact J_reti dX10_letter_76 rfl h
              · replace h := h.2 c
                refine J_iconst dX10_letter_46 (ii_c rfl) ?_
                exact J_reti dX10_letter_47 rfl h
        · replace h := h.2 c
          refine J_iconst dX10_letter_19 (ii_c rfl) ?_
          exact J_reti dX10_letter_20 rfl h
set_option maxRecDepth 20000 in
set_option maxHeartbeats 2000000 in
theorem bk_X10_lane_0 {d : Nat} {I : HI} {Q : Option AV → AH → Prop} {a1 : Int} {a2 : Int}  (h : CI mX10_isLane d [vR 0, vI a1] I (fun x1 I1 => ((x1 = 0 → Q (some (vI (-1))) (mk I1)) ∧ (¬ (x1 = 0) → ((a2 < 0 → Q (some (vI (-1))) (mk I1)) ∧ (¬ (a2 < 0) → ((a2 ≤ 4 → ((4 ≤ a2 → CI mX9_shutBits d [vR 32] I1 (fun x2 I2 => Q (some (vI (oA (oSr x2 a1) 1))) (mk I2))) ∧ (¬ (4 ≤ a2) → (-2147483648 ≤ a1 * 4 ∧ a1 * 4 ≤ 2147483647) ∧ (-2147483648 ≤ (a1 * 4) + a2 ∧ (a1 * 4) + a2 ≤ 2147483647) ∧ ((0 : Int) ≤ ((a1 * 4) + a2) ∧ ((a1 * 4) + a2 : Int) < 64) ∧ Q (some (vI (I1 6 ((a1 * 4) + a2).toNat))) (mk I1)))) ∧ (¬ (a2 ≤ 4) → Q (some (vI (-1))) (mk I1))))))))) : J none mX10_lane (d + 1) 0 0 0 [(0, vR 0), (1, vI a1), (2, vI a2)] [] (mk I) Q := by
  refine J_aload_n dX10_lane_0 rfl rfl ?_
  refine J_iload_n dX10_lane_1 rfl rfl ?_
  refine J_callV (as := [_]) (mc1 := 0) (ms1 := 0) (mc := 0) (ms := 0) dX10_lane_2 mv_X10_isLane lk_X10_171 sh_0 rfl (Nat.le_of_ble_eq_true rfl) (Nat.le_of_ble_eq_true rfl) h (fun r σ hq _ => ?_)
  obtain ⟨x1, I1, rfl, rfl, h⟩ := hq
  change J _ _ _ _ _ _ _ [vI x1] _ _
  refine J_if_eq (tgt := 17) dX10_lane_5 (by decide) (fun c => ?_) (fun c => ?_)
  · replace h := h.1 c
    refine J_iconst dX10_lane_17 (ii_c rfl) ?_
    exact J_reti dX10_lane_18 rfl h
  · replace h := h.2 c
    refine J_iload_n dX10_lane_8 rfl rfl ?_
    refine J_if_lt (tgt := 17) dX10_lane_9 (by decide) (fun c => ?_) (fun c => ?_)
    · replace h := h.1 c
      refine J_iconst dX10_lane_17 (ii_c rfl) ?_
      exact J_reti dX10_lane_18 rfl h
    · replace h := h.2 c
      refine J_iload_n dX10_lane_12 rfl rfl ?_
      refine J_iconst dX10_lane_13 (ii_c rfl) ?_
      refine J_ic_le (tgt := 19) dX10_lane_14 (by decide) (fun c => ?_) (fun c => ?_)
      · replace h := h.1 c
        refine J_iload_n dX10_lane_19 rfl rfl ?_
        refine J_iconst dX10_lane_20 (ii_c rfl) ?_
        refine J_ic_ge (tgt := 40) dX10_lane_21 (by decide) (fun c => ?_) (fun c => ?_)
        · replace h := h.1 c
          refine J_aload_n dX10_lane_40 rfl rfl ?_
          refine J_getR dX10_lane_41 ck_10 fw_X10_37 rfl sh_0 rr_0_4 ?_
          refine J_callV (as := []) (mc1 := 0) (ms1 := 0) (mc := 0) (ms := 0) dX10_lane_44 mv_X9_shutBits lk_X10_155 sh_32 rfl (Nat.le_of_ble_eq_true rfl) (Nat.le_of_ble_eq_true rfl) h (fun r σ hq _ => ?_)
          obtain ⟨x2, I2, rfl, rfl, h⟩ := hq
          change J _ _ _ _ _ _ _ [vI x2] _ _
          refine J_iload_n dX10_lane_47 rfl rfl ?_
          refine J_ishr dX10_lane_48 ?_
          refine J_iconst dX10_lane_49 (ii_c rfl) ?_
          refine J_iand dX10_lane_50 ?_
          exact J_reti dX10_lane_51 rfl h
        · replace h := h.2 c
          refine J_aload_n dX10_lane_24 rfl rfl ?_
          refine J_getR dX10_lane_25 ck_10 fw_X10_10 rfl sh_0 rr_0_0 ?_
          refine J_getR dX10_lane_28 ck_0 fw_X10_175 rfl sh_1 rr_1_4 ?_
          refine J_iload_n dX10_lane_31 rfl rfl ?_
          refine J_iconst dX10_lane_32 (ii_c rfl) ?_
          refine J_imulN dX10_lane_33 h.1 ?_
          replace h := h.2
          refine J_iload_n dX10_lane_34 rfl rfl ?_
          refine J_iaddN dX10_lane_35 h.1 ?_
          replace h := h.2
          refine J_iald dX10_lane_36 sh_6 h.1.1 h.1.2 ?_
          replace h := h.2
          refine J_goto (tgt := 51) dX10_lane_37 (by decide) ?_
          exact J_reti dX10_lane_51 rfl h
      · replace h := h.2 c
        refine J_iconst dX10_lane_17 (ii_c rfl) ?_
        exact J_reti dX10_lane_18 rfl h
set_option maxRecDepth 20000 in
set_option maxHeartbeats 2000000 in
theorem bk_X10_sound_0 {d : Nat} {I : HI} {Q : Option AV → AH → Prop} {a1 : Int} {a2 : Int}  (h : CI mX10_isCorner d [vR 0, vI a1] I (fun x1 I1 => ((x1 = 0 → Q (some (vI (-1))) (mk I1)) ∧ (¬ (x1 = 0) → CI mX10_isCorner d [vR 0, vI a2] I1 (fun x2 I2 => ((x2 = 0 → Q (some (vI (-1))) (mk I2)) ∧ (¬ (x2 = 0) → (-2147483648 ≤ a1 * 10 ∧ a1 * 10 ≤ 2147483647) ∧ (-2147483648 ≤ (a1 * 10) + a2 ∧ (a1 * 10) + a2 ≤ 2147483647) ∧ ((0 : Int) ≤ ((a1 * 10) + a2) ∧ ((a1 * 10) + a2 : Int) < 100) ∧ Q (some (vI (I2 13 ((a1 * 10) + a2).toNat))) (mk I2)))))))) : J none mX10_sound (d + 1) 0 0 0 [(0, vR 0), (1, vI a1), (2, vI a2)] [] (mk I) Q := by
  refine J_aload_n dX10_sound_0 rfl rfl ?_
  refine J_iload_n dX10_sound_1 rfl rfl ?_
  refine J_callV (as := [_]) (mc1 := 0) (ms1 := 0) (mc := 0) (ms := 0) dX10_sound_2 mv_X10_isCorner lk_X10_178 sh_0 rfl (Nat.le_of_ble_eq_true rfl) (Nat.le_of_ble_eq_true rfl) h (fun r σ hq _ => ?_)
  obtain ⟨x1, I1, rfl, rfl, h⟩ := hq
  change J _ _ _ _ _ _ _ [vI x1] _ _
  refine J_if_eq (tgt := 33) dX10_sound_5 (by decide) (fun c => ?_) (fun c => ?_)
  · replace h := h.1 c
    refine J_iconst dX10_sound_33 (ii_c rfl) ?_
    exact J_reti dX10_sound_34 rfl h
  · replace h := h.2 c
    refine J_aload_n dX10_sound_8 rfl rfl ?_
    refine J_iload_n dX10_sound_9 rfl rfl ?_
    refine J_callV (as := [_]) (mc1 := 0) (ms1 := 0) (mc := 0) (ms := 0) dX10_sound_10 mv_X10_isCorner lk_X10_178 sh_0 rfl (Nat.le_of_ble_eq_true rfl) (Nat.le_of_ble_eq_true rfl) h (fun r σ hq _ => ?_)
    obtain ⟨x2, I2, rfl, rfl, h⟩ := hq
    change J _ _ _ _ _ _ _ [vI x2] _ _
    refine J_if_eq (tgt := 33) dX10_sound_13 (by decide) (fun c => ?_) (fun c => ?_)
    · replace h := h.1 c
      refine J_iconst dX10_sound_33 (ii_c rfl) ?_
      exact J_reti dX10_sound_34 rfl h
    · replace h := h.2 c
      refine J_aload_n dX10_sound_16 rfl rfl ?_
      refine J_getR dX10_sound_17 ck_10 fw_X10_10 rfl sh_0 rr_0_0 ?_
      refine J_getR dX10_sound_20 ck_0 fw_X10_181 rfl sh_1 rr_1_11 ?_
      refine J_iload_n dX10_sound_23 rfl rfl ?_
      refine J_bipush dX10_sound_24 (ii_c rfl) (by decide) ?_
      refine J_imulN dX10_sound_26 h.1 ?_
      replace h := h.2
      refine J_iload_n dX10_sound_27 rfl rfl ?_
      refine J_iaddN dX10_sound_28 h.1 ?_
      replace h := h.2
      refine J_iald dX10_sound_29 sh_13 h.1.1 h.1.2 ?_
      replace h := h.2
      refine J_goto (tgt := 34) dX10_sound_30 (by decide) ?_
      exact J_reti dX10_sound_34 rfl h
set_option maxRecDepth 20000 in
set_option maxHeartbeats 2000000 in
theorem bk_X10_saint_0 {d : Nat} {I : HI} {Q : Option AV → AH → Prop} {a1 : Int} {a2 : Int}  (h : CI mX10_isSaint d [vR 0, vI a1] I (fun x1 I1 => ((x1 ≠ 0 → (((a2 < 0 ∨ 6 < a2) → Q (some (vI (-1))) (mk I1)) ∧ ((0 ≤ a2 ∧ a2 ≤ 3) → (-2147483648 ≤ a1 * 4 ∧ a1 * 4 ≤ 2147483647) ∧ (-2147483648 ≤ (a1 * 4) + a2 ∧ (a1 * 4) + a2 ≤ 2147483647) ∧ ((0 : Int) ≤ ((a1 * 4) + a2) ∧ ((a1 * 4) + a2 : Int) < 16) ∧ Q (some (vI (I1 7 ((a1 * 4) + a2).toNat))) (mk I1)) ∧ (a2 = 4 → CI mX9_steps d [vR 32, vI a1] I1 (fun x2 I2 => Q (some (vI x2)) (mk I2))) ∧ (a2 = 5 → ((0 : Int) ≤ a1 ∧ (a1 : Int) < 4) ∧ Q (some (vI (I1 (37 + 5 * a1.toNat) 5))) (mk I1)) ∧ (a2 = 6 → ((0 : Int) ≤ a1 ∧ (a1 : Int) < 4) ∧ CI mX8_lastCorner d [vR (37 + 5 * a1.toNat)] I1 (fun x5 I3 => Q (some (vI x5)) (mk I3))))) ∧ (x1 = 0 → Q (some (vI (-1))) (mk I1))))) : J none mX10_saint (d + 1) 0 0 0 [(0, vR 0), (1, vI a1), (2, vI a2)] [] (mk I) Q := by
  refine J_aload_n dX10_saint_0 rfl rfl ?_
  refine J_iload_n dX10_saint_1 rfl rfl ?_
  refine J_callV (as := [_]) (mc1 := 0) (ms1 := 0) (mc := 0) (ms := 0) dX10_saint_2 mv_X10_isSaint lk_X10_184 sh_0 rfl (Nat.le_of_ble_eq_true rfl) (Nat.le_of_ble_eq_true rfl) h (fun r σ hq _ => ?_)
  obtain ⟨x1, I1, rfl, rfl, h⟩ := hq
  change J _ _ _ _ _ _ _ [vI x1] _ _
  refine J_if_ne (tgt := 10) dX10_saint_5 (by decide) (fun c => ?_) (fun c => ?_)
  · replace h := h.1 c
    refine J_iload_n dX10_saint_10 rfl rfl ?_
    rcases (show (a2 < 0 ∨ 6 < a2) ∨ a2 = 0 ∨ a2 = 1 ∨ a2 = 2 ∨ a2 = 3 ∨ a2 = 4 ∨ a2 = 5 ∨ a2 = 6 by omega) with c | c | c | c | c | c | c | c
    · replace h := h.1 c
      refine J_tabOut (tgt := 101) dX10_saint_11 c (by decide) ?_
      refine J_iconst dX10_saint_101 (ii_c rfl) ?_
      exact J_reti dX10_saint_102 rfl h
    · replace h := h.2.1 (by omega)
      refine J_tabIn (tgt := 52) (off := 41) dX10_saint_11 (by omega) (by omega) (by rw [c]; rfl) (by decide) ?_
      refine J_aload_n dX10_saint_52 rfl rfl ?_
      refine J_getR dX10_saint_53 ck_10 fw_X10_10 rfl sh_0 rr_0_0 ?_
      refine J_getR dX10_saint_56 ck_0 fw_X10_187 rfl sh_1 rr_1_5 ?_
      refine J_iload_n dX10_saint_59 rfl rfl ?_
      refine J_iconst dX10_saint_60 (ii_c rfl) ?_
      refine J_imulN dX10_saint_61 h.1 ?_
      replace h := h.2
      refine J_iload_n dX10_saint_62 rfl rfl ?_
      refine J_iaddN dX10_saint_63 h.1 ?_
      replace h := h.2
      refine J_iald dX10_saint_64 sh_7 h.1.1 h.1.2 ?_
      replace h := h.2
      exact J_reti dX10_saint_65 rfl h
    · replace h := h.2.1 (by omega)
      refine J_tabIn (tgt := 52) (off := 41) dX10_saint_11 (by omega) (by omega) (by rw [c]; rfl) (by decide) ?_
      refine J_aload_n dX10_saint_52 rfl rfl ?_
      refine J_getR dX10_saint_53 ck_10 fw_X10_10 rfl sh_0 rr_0_0 ?_
      refine J_getR dX10_saint_56 ck_0 fw_X10_187 rfl sh_1 rr_1_5 ?_
      refine J_iload_n dX10_saint_59 rfl rfl ?_
      refine J_iconst dX10_saint_60 (ii_c rfl) ?_
      refine J_imulN dX10_saint_61 h.1 ?_
      replace h := h.2
      refine J_iload_n dX10_saint_62 rfl rfl ?_
      refine J_iaddN dX10_saint_63 h.1 ?_
      replace h := h.2
      refine J_iald dX10_saint_64 sh_7 h.1.1 h.1.2 ?_
      replace h := h.2
      exact J_reti dX10_saint_65 rfl h
    · replace h := h.2.1 (by omega)
      refine J_tabIn (tgt := 52) (off := 41) dX10_saint_11 (by omega) (by omega) (by rw [c]; rfl) (by decide) ?_
      refine J_aload_n dX10_saint_52 rfl rfl ?_
      refine J_getR dX10_saint_53 ck_10 fw_X10_10 rfl sh_0 rr_0_0 ?_
      refine J_getR dX10_saint_56 ck_0 fw_X10_187 rfl sh_1 rr_1_5 ?_
      refine J_iload_n dX10_saint_59 rfl rfl ?_
      refine J_iconst dX10_saint_60 (ii_c rfl) ?_
      refine J_imulN dX10_saint_61 h.1 ?_
      replace h := h.2
      refine J_iload_n dX10_saint_62 rfl rfl ?_
      refine J_iaddN dX10_saint_63 h.1 ?_
      replace h := h.2
      refine J_iald dX10_saint_64 sh_7 h.1.1 h.1.2 ?_
      replace h := h.2
      exact J_reti dX10_saint_65 rfl h
    · replace h := h.2.1 (by omega)
      refine J_tabIn (tgt := 52) (off := 41) dX10_saint_11 (by omega) (by omega) (by rw [c]; rfl) (by decide) ?_
      refine J_aload_n dX10_saint_52 rfl rfl ?_
      refine J_getR dX10_saint_53 ck_10 fw_X10_10 rfl sh_0 rr_0_0 ?_
      refine J_getR dX10_saint_56 ck_0 fw_X10_187 rfl sh_1 rr_1_5 ?_
      refine J_iload_n dX10_saint_59 rfl rfl ?_
      refine J_iconst dX10_saint_60 (ii_c rfl) ?_
      refine J_imulN dX10_saint_61 h.1 ?_
      replace h := h.2
      refine J_iload_n dX10_saint_62 rfl rfl ?_
      refine J_iaddN dX10_saint_63 h.1 ?_
      replace h := h.2
      refine J_iald dX10_saint_64 sh_7 h.1.1 h.1.2 ?_
      replace h := h.2
      exact J_reti dX10_saint_65 rfl h
    · replace h := h.2.2.1 c
      refine J_tabIn (tgt := 66) (off := 55) dX10_saint_11 (by omega) (by omega) (by rw [c]; rfl) (by decide) ?_
      refine J_aload_n dX10_saint_66 rfl rfl ?_
      refine J_getR dX10_saint_67 ck_10 fw_X10_37 rfl sh_0 rr_0_4 ?_
      refine J_iload_n dX10_saint_70 rfl rfl ?_
      refine J_callV (as := [_]) (mc1 := 0) (ms1 := 0) (mc := 0) (ms := 0) dX10_saint_71 mv_X9_steps lk_X10_190 sh_32 rfl (Nat.le_of_ble_eq_true rfl) (Nat.le_of_ble_eq_true rfl) h (fun r σ hq _ => ?_)
      obtain ⟨x2, I2, rfl, rfl, h⟩ := hq
      change J _ _ _ _ _ _ _ [vI x2] _ _
      exact J_reti dX10_saint_74 rfl h
    · replace h := h.2.2.2.1 c
      refine J_tabIn (tgt := 75) (off := 64) dX10_saint_11 (by omega) (by omega) (by rw [c]; rfl) (by decide) ?_
      refine J_aload_n dX10_saint_75 rfl rfl ?_
      refine J_getR dX10_saint_76 ck_10 fw_X10_37 rfl sh_0 rr_0_4 ?_
      refine J_getR dX10_saint_79 ck_9 fw_X10_193 rfl sh_32 rr_32_4 ?_
      refine J_iload_n dX10_saint_82 rfl rfl ?_
      have hb3 := h.1
      refine J_aald dX10_saint_83 sh_36 h.1.1 h.1.2 (RRw h.1.1 h.1.2) ?_
      replace h := h.2
      refine J_getI dX10_saint_84 ck_8 fw_X10_197 rfl ((TRw hb3.1 hb3.2).1) ?_
      exact J_reti dX10_saint_87 rfl h
    · replace h := h.2.2.2.2 c
      refine J_tabIn (tgt := 88) (off := 77) dX10_saint_11 (by omega) (by omega) (by rw [c]; rfl) (by decide) ?_
      refine J_aload_n dX10_saint_88 rfl rfl ?_
      refine J_getR dX10_saint_89 ck_10 fw_X10_37 rfl sh_0 rr_0_4 ?_
      refine J_getR dX10_saint_92 ck_9 fw_X10_193 rfl sh_32 rr_32_4 ?_
      refine J_iload_n dX10_saint_95 rfl rfl ?_
      have hb4 := h.1
      refine J_aald dX10_saint_96 sh_36 h.1.1 h.1.2 (RRw h.1.1 h.1.2) ?_
      replace h := h.2
      refine J_callV (as := []) (mc1 := 0) (ms1 := 0) (mc := 0) (ms := 0) dX10_saint_97 mv_X8_lastCorner lk_X10_202 ((TRw hb4.1 hb4.2).1) rfl (Nat.le_of_ble_eq_true rfl) (Nat.le_of_ble_eq_true rfl) h (fun r σ hq _ => ?_)
      obtain ⟨x5, I3, rfl, rfl, h⟩ := hq
      change J _ _ _ _ _ _ _ [vI x5] _ _
      exact J_reti dX10_saint_100 rfl h
  · replace h := h.2 c
    refine J_iconst dX10_saint_8 (ii_c rfl) ?_
    exact J_reti dX10_saint_9 rfl h
set_option maxRecDepth 20000 in
set_option maxHeartbeats 2000000 in
theorem bk_X10_go_0 {d : Nat} {I : HI} {Q : Option AV → AH → Prop} {a1 : Int} {a2 : Int}  (h : CI mX10_isSaint d [vR 0, vI a1] I (fun x1 I1 => ((x1 = 0 → Q (some (vI (-1))) (mk I1)) ∧ (¬ (x1 = 0) → CI mX10_isCorner d [vR 0, vI a2] I1 (fun x2 I2 => ((x2 = 0 → Q (some (vI (-1))) (mk I2)) ∧ (¬ (x2 = 0) → CI mX9_walk d [vR 32, vI a1, vI a2] I2 (fun x3 I3 => Q (some (vI x3)) (mk I3))))))))) : J none mX10_go (d + 1) 0 0 0 [(0, vR 0), (1, vI a1), (2, vI a2)] [] (mk I) Q := by
  refine J_aload_n dX10_go_0 rfl rfl ?_
  refine J_iload_n dX10_go_1 rfl rfl ?_
  refine J_callV (as := [_]) (mc1 := 0) (ms1 := 0) (mc := 0) (ms := 0) dX10_go_2 mv_X10_isSaint lk_X10_184 sh_0 rfl (Nat.le_of_ble_eq_true rfl) (Nat.le_of_ble_eq_true rfl) h (fun r σ hq _ => ?_)
  obtain ⟨x1, I1, rfl, rfl, h⟩ := hq
  change J _ _ _ _ _ _ _ [vI x1] _ _
  refine J_if_eq (tgt := 28) dX10_go_5 (by decide) (fun c => ?_) (fun c => ?_)
  · replace h := h.1 c
    refine J_iconst dX10_go_28 (ii_c rfl) ?_
    exact J_reti dX10_go_29 rfl h
  · replace h := h.2 c
    refine J_aload_n dX10_go_8 rfl rfl ?_
    refine J_iload_n dX10_go_9 rfl rfl ?_
    refine J_callV (as := [_]) (mc1 := 0) (ms1 := 0) (mc := 0) (ms := 0) dX10_go_10 mv_X10_isCorner lk_X10_178 sh_0 rfl (Nat.le_of_ble_eq_true rfl) (Nat.le_of_ble_eq_true rfl) h (fun r σ hq _ => ?_)
    obtain ⟨x2, I2, rfl, rfl, h⟩ := hq
    change J _ _ _ _ _ _ _ [vI x2] _ _
    refine J_if_eq (tgt := 28) dX10_go_13 (by decide) (fun c => ?_) (fun c => ?_)
    · replace h := h.1 c
      refine J_iconst dX10_go_28 (ii_c rfl) ?_
      exact J_reti dX10_go_29 rfl h
    · replace h := h.2 c
      refine J_aload_n dX10_go_16 rfl rfl ?_
      refine J_getR dX10_go_17 ck_10 fw_X10_37 rfl sh_0 rr_0_4 ?_
      refine J_iload_n dX10_go_20 rfl rfl ?_
      refine J_iload_n dX10_go_21 rfl rfl ?_
      refine J_callV (as := [_, _]) (mc1 := 0) (ms1 := 0) (mc := 0) (ms := 0) dX10_go_22 mv_X9_walk lk_X10_205 sh_32 rfl (Nat.le_of_ble_eq_true rfl) (Nat.le_of_ble_eq_true rfl) h (fun r σ hq _ => ?_)
      obtain ⟨x3, I3, rfl, rfl, h⟩ := hq
      change J _ _ _ _ _ _ _ [vI x3] _ _
      refine J_goto (tgt := 29) dX10_go_25 (by decide) ?_
      exact J_reti dX10_go_29 rfl h
set_option maxRecDepth 20000 in
set_option maxHeartbeats 2000000 in
theorem bk_X10_rest_0 {d : Nat} {I : HI} {Q : Option AV → AH → Prop} {a1 : Int} {a2 : Int}  (h : CI mX10_isSaint d [vR 0, vI a1] I (fun x1 I1 => ((x1 = 0 → Q (some (vI (-1))) (mk I1)) ∧ (¬ (x1 = 0) → ((a2 < 1 → Q (some (vI (-1))) (mk I1)) ∧ (¬ (a2 < 1) → ((30 < a2 → Q (some (vI (-1))) (mk I1)) ∧ (¬ (30 < a2) → CI mX9_pause d [vR 32, vI a1, vI a2] I1 (fun x2 I2 => Q (some (vI x2)) (mk I2)))))))))) : J none mX10_rest (d + 1) 0 0 0 [(0, vR 0), (1, vI a1), (2, vI a2)] [] (mk I) Q := by
  refine J_aload_n dX10_rest_0 rfl rfl ?_
  refine J_iload_n dX10_rest_1 rfl rfl ?_
  refine J_callV (as := [_]) (mc1 := 0) (ms1 := 0) (mc := 0) (ms := 0) dX10_rest_2 mv_X10_isSaint lk_X10_184 sh_0 rfl (Nat.le_of_ble_eq_true rfl) (Nat.le_of_ble_eq_true rfl) h (fun r σ hq _ => ?_)
  obtain ⟨x1, I1, rfl, rfl, h⟩ := hq
  change J _ _ _ _ _ _ _ [vI x1] _ _
  refine J_if_eq (tgt := 31) dX10_rest_5 (by decide) (fun c => ?_) (fun c => ?_)
  · replace h := h.1 c
    refine J_iconst dX10_rest_31 (ii_c rfl) ?_
    exact J_reti dX10_rest_32 rfl h
  · replace h := h.2 c
    refine J_iload_n dX10_rest_8 rfl rfl ?_
    refine J_iconst dX10_rest_9 (ii_c rfl) ?_
    refine J_ic_lt (tgt := 31) dX10_rest_10 (by decide) (fun c => ?_) (fun c => ?_)
    · replace h := h.1 c
      refine J_iconst dX10_rest_31 (ii_c rfl) ?_
      exact J_reti dX10_rest_32 rfl h
    · replace h := h.2 c
      refine J_iload_n dX10_rest_13 rfl rfl ?_
      refine J_bipush dX10_rest_14 (ii_c rfl) (by decide) ?_
      refine J_ic_gt (tgt := 31) dX10_rest_16 (by decide) (fun c => ?_) (fun c => ?_)
      · replace h := h.1 c
        refine J_iconst dX10_rest_31 (ii_c rfl) ?_
        exact J_reti dX10_rest_32 rfl h
      · replace h := h.2 c
        refine J_aload_n dX10_rest_19 rfl rfl ?_
        refine J_getR dX10_rest_20 ck_10 fw_X10_37 rfl sh_0 rr_0_4 ?_
        refine J_iload_n dX10_rest_23 rfl rfl ?_
        refine J_iload_n dX10_rest_24 rfl rfl ?_
        refine J_callV (as := [_, _]) (mc1 := 0) (ms1 := 0) (mc := 0) (ms := 0) dX10_rest_25 mv_X9_pause lk_X10_209 sh_32 rfl (Nat.le_of_ble_eq_true rfl) (Nat.le_of_ble_eq_true rfl) h (fun r σ hq _ => ?_)
        obtain ⟨x2, I2, rfl, rfl, h⟩ := hq
        change J _ _ _ _ _ _ _ [vI x2] _ _
        refine J_goto (tgt := 32) dX10_rest_28 (by decide) ?_
        exact J_reti dX10_rest_32 rfl h
set_option maxRecDepth 20000 in
set_option maxHeartbeats 2000000 in
theorem bk_X10_clear_0 {d : Nat} {I : HI} {Q : Option AV → AH → Prop} {a1 : Int}  (h : CI mX10_isSaint d [vR 0, vI a1] I (fun x1 I1 => ((x1 = 0 → Q (some (vI 0)) (mk I1)) ∧ (¬ (x1 = 0) → CI mX9_wipe d [vR 32, vI a1] I1 (fun x2 I2 => ((x2 = 0 → Q (some (vI 0)) (mk I2)) ∧ (¬ (x2 = 0) → Q (some (vI 1)) (mk I2)))))))) : J none mX10_clear (d + 1) 0 0 0 [(0, vR 0), (1, vI a1)] [] (mk I) Q := by
  refine J_aload_n dX10_clear_0 rfl rfl ?_
  refine J_iload_n dX10_clear_1 rfl rfl ?_
  refine J_callV (as := [_]) (mc1 := 0) (ms1 := 0) (mc := 0) (ms := 0) dX10_clear_2 mv_X10_isSaint lk_X10_184 sh_0 rfl (Nat.le_of_ble_eq_true rfl) (Nat.le_of_ble_eq_true rfl) h (fun r σ hq _ => ?_)
  obtain ⟨x1, I1, rfl, rfl, h⟩ := hq
  change J _ _ _ _ _ _ _ [vI x1] _ _
  refine J_if_eq (tgt := 23) dX10_clear_5 (by decide) (fun c => ?_) (fun c => ?_)
  · replace h := h.1 c
    refine J_iconst dX10_clear_23 (ii_c rfl) ?_
    exact J_retz dX10_clear_24 rfl (Or.inl rfl) h
  · replace h := h.2 c
    refine J_aload_n dX10_clear_8 rfl rfl ?_
    refine J_getR dX10_clear_9 ck_10 fw_X10_37 rfl sh_0 rr_0_4 ?_
    refine J_iload_n dX10_clear_12 rfl rfl ?_
    refine J_callV (as := [_]) (mc1 := 0) (ms1 := 0) (mc := 0) (ms := 0) dX10_clear_13 mv_X9_wipe lk_X10_212 sh_32 rfl (Nat.le_of_ble_eq_true rfl) (Nat.le_of_ble_eq_true rfl) h (fun r σ hq _ => ?_)
    obtain ⟨x2, I2, rfl, rfl, h⟩ := hq
    change J _ _ _ _ _ _ _ [vI x2] _ _
    refine J_if_eq (tgt := 23) dX10_clear_16 (by decide) (fun c => ?_) (fun c => ?_)
    · replace h := h.1 c
      refine J_iconst dX10_clear_23 (ii_c rfl) ?_
      exact J_retz dX10_clear_24 rfl (Or.inl rfl) h
    · replace h := h.2 c
      refine J_iconst dX10_clear_19 (ii_c rfl) ?_
      refine J_goto (tgt := 24) dX10_clear_20 (by decide) ?_
      exact J_retz dX10_clear_24 rfl (Or.inr rfl) h
set_option maxRecDepth 20000 in
set_option maxHeartbeats 2000000 in
theorem bk_X10_undo_0 {d : Nat} {I : HI} {Q : Option AV → AH → Prop}   (h : CI mX9_revert d [vR 32] I (fun x1 I1 => (x1 = 0 ∨ x1 = 1) ∧ Q (some (vI x1)) (mk I1))) : J none mX10_undo (d + 1) 0 0 0 [(0, vR 0)] [] (mk I) Q := by
  refine J_aload_n dX10_undo_0 rfl rfl ?_
  refine J_getR dX10_undo_1 ck_10 fw_X10_37 rfl sh_0 rr_0_4 ?_
  refine J_callV (as := []) (mc1 := 0) (ms1 := 0) (mc := 0) (ms := 0) dX10_undo_4 mv_X9_revert lk_X10_215 sh_32 rfl (Nat.le_of_ble_eq_true rfl) (Nat.le_of_ble_eq_true rfl) h (fun r σ hq _ => ?_)
  obtain ⟨x1, I1, rfl, rfl, h⟩ := hq
  change J _ _ _ _ _ _ _ [vI x1] _ _
  exact J_retz dX10_undo_7 rfl h.1 h.2
set_option maxRecDepth 20000 in
set_option maxHeartbeats 2000000 in
theorem bk_X10_where_0 {d : Nat} {I : HI} {Q : Option AV → AH → Prop} {a1 : Int} {a2 : Int}  (h : CI mX10_isSaint d [vR 0, vI a1] I (fun x1 I1 => ((x1 = 0 → Q (some (vI (-1))) (mk I1)) ∧ (¬ (x1 = 0) → CI mX10_isMinute d [vR 0, vI a2] I1 (fun x2 I2 => ((x2 = 0 → Q (some (vI (-1))) (mk I2)) ∧ (¬ (x2 = 0) → ((0 : Int) ≤ a1 ∧ (a1 : Int) < 4) ∧ CI mX8_cornerAt d [vR (37 + 5 * a1.toNat), vI a2] I2 (fun x4 I3 => Q (some (vI x4)) (mk I3))))))))) : J none mX10_where (d + 1) 0 0 0 [(0, vR 0), (1, vI a1), (2, vI a2)] [] (mk I) Q := by
  refine J_aload_n dX10_where_0 rfl rfl ?_
  refine J_iload_n dX10_where_1 rfl rfl ?_
  refine J_callV (as := [_]) (mc1 := 0) (ms1 := 0) (mc := 0) (ms := 0) dX10_where_2 mv_X10_isSaint lk_X10_184 sh_0 rfl (Nat.le_of_ble_eq_true rfl) (Nat.le_of_ble_eq_true rfl) h (fun r σ hq _ => ?_)
  obtain ⟨x1, I1, rfl, rfl, h⟩ := hq
  change J _ _ _ _ _ _ _ [vI x1] _ _
  refine J_if_eq (tgt := 32) dX10_where_5 (by decide) (fun c => ?_) (fun c => ?_)
  · replace h := h.1 c
    refine J_iconst dX10_where_32 (ii_c rfl) ?_
    exact J_reti dX10_where_33 rfl h
  · replace h := h.2 c
    refine J_aload_n dX10_where_8 rfl rfl ?_
    refine J_iload_n dX10_where_9 rfl rfl ?_
    refine J_callV (as := [_]) (mc1 := 0) (ms1 := 0) (mc := 0) (ms := 0) dX10_where_10 mv_X10_isMinute lk_X10_218 sh_0 rfl (Nat.le_of_ble_eq_true rfl) (Nat.le_of_ble_eq_true rfl) h (fun r σ hq _ => ?_)
    obtain ⟨x2, I2, rfl, rfl, h⟩ := hq
    change J _ _ _ _ _ _ _ [vI x2] _ _
    refine J_if_eq (tgt := 32) dX10_where_13 (by decide) (fun c => ?_) (fun c => ?_)
    · replace h := h.1 c
      refine J_iconst dX10_where_32 (ii_c rfl) ?_
      exact J_reti dX10_where_33 rfl h
    · replace h := h.2 c
      refine J_aload_n dX10_where_16 rfl rfl ?_
      refine J_getR dX10_where_17 ck_10 fw_X10_37 rfl sh_0 rr_0_4 ?_
      refine J_getR dX10_where_20 ck_9 fw_X10_193 rfl sh_32 rr_32_4 ?_
      refine J_iload_n dX10_where_23 rfl rfl ?_
      have hb3 := h.1
      refine J_aald dX10_where_24 sh_36 h.1.1 h.1.2 (RRw h.1.1 h.1.2) ?_
      replace h := h.2
      refine J_iload_n dX10_where_25 rfl rfl ?_
      refine J_callV (as := [_]) (mc1 := 0) (ms1 := 0) (mc := 0) (ms := 0) dX10_where_26 mv_X8_cornerAt lk_X10_221 ((TRw hb3.1 hb3.2).1) rfl (Nat.le_of_ble_eq_true rfl) (Nat.le_of_ble_eq_true rfl) h (fun r σ hq _ => ?_)
      obtain ⟨x4, I3, rfl, rfl, h⟩ := hq
      change J _ _ _ _ _ _ _ [vI x4] _ _
      refine J_goto (tgt := 33) dX10_where_29 (by decide) ?_
      exact J_reti dX10_where_33 rfl h
set_option maxRecDepth 20000 in
set_option maxHeartbeats 2000000 in
theorem bk_X10_on_0 {d : Nat} {I : HI} {Q : Option AV → AH → Prop} {a1 : Int} {a2 : Int}  (h : CI mX10_isSaint d [vR 0, vI a1] I (fun x1 I1 => ((x1 = 0 → Q (some (vI (-1))) (mk I1)) ∧ (¬ (x1 = 0) → CI mX10_isMinute d [vR 0, vI a2] I1 (fun x2 I2 => ((x2 = 0 → Q (some (vI (-1))) (mk I2)) ∧ (¬ (x2 = 0) → ((0 : Int) ≤ a1 ∧ (a1 : Int) < 4) ∧ CI mX8_laneAt d [vR (37 + 5 * a1.toNat), vI a2] I2 (fun x4 I3 => Q (some (vI x4)) (mk I3))))))))) : J none mX10_on (d + 1) 0 0 0 [(0, vR 0), (1, vI a1), (2, vI a2)] [] (mk I) Q := by
  refine J_aload_n dX10_on_0 rfl rfl ?_
  refine J_iload_n dX10_on_1 rfl rfl ?_
  refine J_callV (as := [_]) (mc1 := 0) (ms1 := 0) (mc := 0) (ms := 0) dX10_on_2 mv_X10_isSaint lk_X10_184 sh_0 rfl (Nat.le_of_ble_eq_true rfl) (Nat.le_of_ble_eq_true rfl) h (fun r σ hq _ => ?_)
  obtain ⟨x1, I1, rfl, rfl, h⟩ := hq
  change J _ _ _ _ _ _ _ [vI x1] _ _
  refine J_if_eq (tgt := 32) dX10_on_5 (by decide) (fun c => ?_) (fun c => ?_)
  · replace h := h.1 c
    refine J_iconst dX10_on_32 (ii_c rfl) ?_
    exact J_reti dX10_on_33 rfl h
  · replace h := h.2 c
    refine J_aload_n dX10_on_8 rfl rfl ?_
    refine J_iload_n dX10_on_9 rfl rfl ?_
    refine J_callV (as := [_]) (mc1 := 0) (ms1 := 0) (mc := 0) (ms := 0) dX10_on_10 mv_X10_isMinute lk_X10_218 sh_0 rfl (Nat.le_of_ble_eq_true rfl) (Nat.le_of_ble_eq_true rfl) h (fun r σ hq _ => ?_)
    obtain ⟨x2, I2, rfl, rfl, h⟩ := hq
    change J _ _ _ _ _ _ _ [vI x2] _ _
    refine J_if_eq (tgt := 32) dX10_on_13 (by decide) (fun c => ?_) (fun c => ?_)
    · replace h := h.1 c
      refine J_iconst dX10_on_32 (ii_c rfl) ?_
      exact J_reti dX10_on_33 rfl h
    · replace h := h.2 c
      refine J_aload_n dX10_on_16 rfl rfl ?_
      refine J_getR dX10_on_17 ck_10 fw_X10_37 rfl sh_0 rr_0_4 ?_
      refine J_getR dX10_on_20 ck_9 fw_X10_193 rfl sh_32 rr_32_4 ?_
      refine J_iload_n dX10_on_23 rfl rfl ?_
      have hb3 := h.1
      refine J_aald dX10_on_24 sh_36 h.1.1 h.1.2 (RRw h.1.1 h.1.2) ?_
      replace h := h.2
      refine J_iload_n dX10_on_25 rfl rfl ?_
      refine J_callV (as := [_]) (mc1 := 0) (ms1 := 0) (mc := 0) (ms := 0) dX10_on_26 mv_X8_laneAt lk_X10_224 ((TRw hb3.1 hb3.2).1) rfl (Nat.le_of_ble_eq_true rfl) (Nat.le_of_ble_eq_true rfl) h (fun r σ hq _ => ?_)
      obtain ⟨x4, I3, rfl, rfl, h⟩ := hq
      change J _ _ _ _ _ _ _ [vI x4] _ _
      refine J_goto (tgt := 33) dX10_on_29 (by decide) ?_
      exact J_reti dX10_on_33 rfl h
set_option maxRecDepth 20000 in
set_option maxHeartbeats 2000000 in
theorem bk_X10_petals_0 {d : Nat} {I : HI} {Q : Option AV → AH → Prop} {a1 : Int} {a2 : Int}  (h : CI mX10_isLane d [vR 0, vI a1] I (fun x1 I1 => ((x1 = 0 → Q (some (vI (-1))) (mk I1)) ∧ (¬ (x1 = 0) → CI mX10_isMinute d [vR 0, vI a2] I1 (fun x2 I2 => ((x2 ≠ 0 → J none mX10_petals (d + 1) 0 0 23 [(0, vR 0), (1, vI a1), (2, vI a2), (3, vI 0), (4, vI 0)] [] (mk I2) Q) ∧ (x2 = 0 → Q (some (vI (-1))) (mk I2)))))))) : J none mX10_petals (d + 1) 0 0 0 [(0, vR 0), (1, vI a1), (2, vI a2)] [] (mk I) Q := by
  refine J_aload_n dX10_petals_0 rfl rfl ?_
  refine J_iload_n dX10_petals_1 rfl rfl ?_
  refine J_callV (as := [_]) (mc1 := 0) (ms1 := 0) (mc := 0) (ms := 0) dX10_petals_2 mv_X10_isLane lk_X10_171 sh_0 rfl (Nat.le_of_ble_eq_true rfl) (Nat.le_of_ble_eq_true rfl) h (fun r σ hq _ => ?_)
  obtain ⟨x1, I1, rfl, rfl, h⟩ := hq
  change J _ _ _ _ _ _ _ [vI x1] _ _
  refine J_if_eq (tgt := 16) dX10_petals_5 (by decide) (fun c => ?_) (fun c => ?_)
  · replace h := h.1 c
    refine J_iconst dX10_petals_16 (ii_c rfl) ?_
    exact J_reti dX10_petals_17 rfl h
  · replace h := h.2 c
    refine J_aload_n dX10_petals_8 rfl rfl ?_
    refine J_iload_n dX10_petals_9 rfl rfl ?_
    refine J_callV (as := [_]) (mc1 := 0) (ms1 := 0) (mc := 0) (ms := 0) dX10_petals_10 mv_X10_isMinute lk_X10_218 sh_0 rfl (Nat.le_of_ble_eq_true rfl) (Nat.le_of_ble_eq_true rfl) h (fun r σ hq _ => ?_)
    obtain ⟨x2, I2, rfl, rfl, h⟩ := hq
    change J _ _ _ _ _ _ _ [vI x2] _ _
    refine J_if_ne (tgt := 18) dX10_petals_13 (by decide) (fun c => ?_) (fun c => ?_)
    · replace h := h.1 c
      refine J_iconst dX10_petals_18 (ii_c rfl) ?_
      refine J_istore_n dX10_petals_19 rfl (by decide) ?_
      refine J_iconst dX10_petals_20 (ii_c rfl) ?_
      refine J_istore dX10_petals_21 (by decide) ?_
      exact h
    · replace h := h.2 c
      refine J_iconst dX10_petals_16 (ii_c rfl) ?_
      exact J_reti dX10_petals_17 rfl h
set_option maxRecDepth 20000 in
set_option maxHeartbeats 2000000 in
theorem bk_X10_petals_23 {d : Nat} {I : HI} {Q : Option AV → AH → Prop} {a1 : Int} {a2 : Int} {a3 : Int} {a4 : Int}  (h : (((I 2 2) ≤ a4 → Q (some (vI a3)) (mk I)) ∧ (¬ ((I 2 2) ≤ a4) → ((0 : Int) ≤ a4 ∧ (a4 : Int) < 4) ∧ CI mX0_petalsOf d [vR 1, vI a4, vR (37 + 5 * a4.toNat), vI 0, vI a2] I (fun x2 I1 => (-2147483648 ≤ a4 + 1 ∧ a4 + 1 ≤ 2147483647) ∧ J none mX10_petals (d + 1) 0 0 23 [(0, vR 0), (1, vI a1), (2, vI a2), (3, vI (oO a3 (oSl (oA (oSr x2 a1) 1) a4))), (4, vI (a4 + 1))] [] (mk I1) Q)))) : J none mX10_petals (d + 1) 0 0 23 [(0, vR 0), (1, vI a1), (2, vI a2), (3, vI a3), (4, vI a4)] [] (mk I) Q := by
  refine J_iload dX10_petals_23 rfl ?_
  refine J_aload_n dX10_petals_25 rfl rfl ?_
  refine J_getR dX10_petals_26 ck_10 fw_X10_10 rfl sh_0 rr_0_0 ?_
  refine J_getR dX10_petals_29 ck_0 fw_X10_140 rfl sh_1 rr_1_0 ?_
  refine J_iconst dX10_petals_32 (ii_c rfl) ?_
  refine J_iald dX10_petals_33 sh_2 (by decide) (by decide) ?_
  refine J_ic_ge (tgt := 74) dX10_petals_34 (by decide) (fun c => ?_) (fun c => ?_)
  · replace h := h.1 c
    refine J_iload_n dX10_petals_74 rfl rfl ?_
    exact J_reti dX10_petals_75 rfl h
  · replace h := h.2 c
    refine J_iload_n dX10_petals_37 rfl rfl ?_
    refine J_aload_n dX10_petals_38 rfl rfl ?_
    refine J_getR dX10_petals_39 ck_10 fw_X10_10 rfl sh_0 rr_0_0 ?_
    refine J_iload dX10_petals_42 rfl ?_
    refine J_aload_n dX10_petals_44 rfl rfl ?_
    refine J_getR dX10_petals_45 ck_10 fw_X10_37 rfl sh_0 rr_0_4 ?_
    refine J_getR dX10_petals_48 ck_9 fw_X10_193 rfl sh_32 rr_32_4 ?_
    refine J_iload dX10_petals_51 rfl ?_
    have hb1 := h.1
    refine J_aald dX10_petals_53 sh_36 h.1.1 h.1.2 (RRw h.1.1 h.1.2) ?_
    replace h := h.2
    refine J_iconst dX10_petals_54 (ii_c rfl) ?_
    refine J_iload_n dX10_petals_55 rfl rfl ?_
    refine J_callV (as := [_, _, _, _]) (mc1 := 0) (ms1 := 0) (mc := 0) (ms := 0) dX10_petals_56 mv_X0_petalsOf lk_X10_227 sh_1 rfl (Nat.le_of_ble_eq_true rfl) (Nat.le_of_ble_eq_true rfl) h (fun r σ hq _ => ?_)
    obtain ⟨x2, I1, rfl, rfl, h⟩ := hq
    change J _ _ _ _ _ _ _ [vI x2, vI a3] _ _
    refine J_iload_n dX10_petals_59 rfl rfl ?_
    refine J_ishr dX10_petals_60 ?_
    refine J_iconst dX10_petals_61 (ii_c rfl) ?_
    refine J_iand dX10_petals_62 ?_
    refine J_iload dX10_petals_63 rfl ?_
    refine J_ishl dX10_petals_65 ?_
    refine J_ior dX10_petals_66 ?_
    refine J_istore_n dX10_petals_67 rfl (by decide) ?_
    refine J_iincN dX10_petals_68 rfl (by decide) h.1 ?_
    replace h := h.2
    refine J_goto (tgt := 23) dX10_petals_71 (by decide) ?_
    exact h
set_option maxRecDepth 20000 in
set_option maxHeartbeats 2000000 in
theorem bk_X10_passes_0 {d : Nat} {I : HI} {Q : Option AV → AH → Prop} {a1 : Int} {a2 : Int}  (h : CI mX10_isSaint d [vR 0, vI a1] I (fun x1 I1 => ((x1 = 0 → Q (some (vI (-1))) (mk I1)) ∧ (¬ (x1 = 0) → CI mX4_firstIn d [vR 67, vI a1, vI a2] I1 (fun x2 I2 => Q (some (vI x2)) (mk I2)))))) : J none mX10_passes (d + 1) 0 0 0 [(0, vR 0), (1, vI a1), (2, vI a2)] [] (mk I) Q := by
  refine J_aload_n dX10_passes_0 rfl rfl ?_
  refine J_iload_n dX10_passes_1 rfl rfl ?_
  refine J_callV (as := [_]) (mc1 := 0) (ms1 := 0) (mc := 0) (ms := 0) dX10_passes_2 mv_X10_isSaint lk_X10_184 sh_0 rfl (Nat.le_of_ble_eq_true rfl) (Nat.le_of_ble_eq_true rfl) h (fun r σ hq _ => ?_)
  obtain ⟨x1, I1, rfl, rfl, h⟩ := hq
  change J _ _ _ _ _ _ _ [vI x1] _ _
  refine J_if_eq (tgt := 20) dX10_passes_5 (by decide) (fun c => ?_) (fun c => ?_)
  · replace h := h.1 c
    refine J_iconst dX10_passes_20 (ii_c rfl) ?_
    exact J_reti dX10_passes_21 rfl h
  · replace h := h.2 c
    refine J_aload_n dX10_passes_8 rfl rfl ?_
    refine J_getR dX10_passes_9 ck_10 fw_X10_60 rfl sh_0 rr_0_7 ?_
    refine J_iload_n dX10_passes_12 rfl rfl ?_
    refine J_iload_n dX10_passes_13 rfl rfl ?_
    refine J_callV (as := [_, _]) (mc1 := 0) (ms1 := 0) (mc := 0) (ms := 0) dX10_passes_14 mv_X4_firstIn lk_X10_231 sh_67 rfl (Nat.le_of_ble_eq_true rfl) (Nat.le_of_ble_eq_true rfl) h (fun r σ hq _ => ?_)
    obtain ⟨x2, I2, rfl, rfl, h⟩ := hq
    change J _ _ _ _ _ _ _ [vI x2] _ _
    refine J_goto (tgt := 21) dX10_passes_17 (by decide) ?_
    exact J_reti dX10_passes_21 rfl h
set_option maxRecDepth 20000 in
set_option maxHeartbeats 2000000 in
theorem bk_X10_clash_0 {d : Nat} {I : HI} {Q : Option AV → AH → Prop} {a1 : Int}  (h : ((a1 < 0 → Q (some (vI (-1))) (mk I)) ∧ (¬ (a1 < 0) → ((a1 ≤ 3 → CI mX4_firstClash d [vR 67, vI a1] I (fun x1 I1 => Q (some (vI x1)) (mk I1))) ∧ (¬ (a1 ≤ 3) → Q (some (vI (-1))) (mk I)))))) : J none mX10_clash (d + 1) 0 0 0 [(0, vR 0), (1, vI a1)] [] (mk I) Q := by
  refine J_iload_n dX10_clash_0 rfl rfl ?_
  refine J_if_lt (tgt := 9) dX10_clash_1 (by decide) (fun c => ?_) (fun c => ?_)
  · replace h := h.1 c
    refine J_iconst dX10_clash_9 (ii_c rfl) ?_
    refine J_goto (tgt := 21) dX10_clash_10 (by decide) ?_
    exact J_reti dX10_clash_21 rfl h
  · replace h := h.2 c
    refine J_iload_n dX10_clash_4 rfl rfl ?_
    refine J_iconst dX10_clash_5 (ii_c rfl) ?_
    refine J_ic_le (tgt := 13) dX10_clash_6 (by decide) (fun c => ?_) (fun c => ?_)
    · replace h := h.1 c
      refine J_aload_n dX10_clash_13 rfl rfl ?_
      refine J_getR dX10_clash_14 ck_10 fw_X10_60 rfl sh_0 rr_0_7 ?_
      refine J_iload_n dX10_clash_17 rfl rfl ?_
      refine J_callV (as := [_]) (mc1 := 0) (ms1 := 0) (mc := 0) (ms := 0) dX10_clash_18 mv_X4_firstClash lk_X10_234 sh_67 rfl (Nat.le_of_ble_eq_true rfl) (Nat.le_of_ble_eq_true rfl) h (fun r σ hq _ => ?_)
      obtain ⟨x1, I1, rfl, rfl, h⟩ := hq
      change J _ _ _ _ _ _ _ [vI x1] _ _
      exact J_reti dX10_clash_21 rfl h
    · replace h := h.2 c
      refine J_iconst dX10_clash_9 (ii_c rfl) ?_
      refine J_goto (tgt := 21) dX10_clash_10 (by decide) ?_
      exact J_reti dX10_clash_21 rfl h
set_option maxRecDepth 20000 in
set_option maxHeartbeats 2000000 in
theorem bk_X10_clashes_0 {d : Nat} {I : HI} {Q : Option AV → AH → Prop} {a1 : Int}  (h : ((a1 < 0 → Q (some (vI (-1))) (mk I)) ∧ (¬ (a1 < 0) → ((a1 ≤ 1 → CI mX4_tally d [vR 67, vI a1] I (fun x1 I1 => Q (some (vI x1)) (mk I1))) ∧ (¬ (a1 ≤ 1) → Q (some (vI (-1))) (mk I)))))) : J none mX10_clashes (d + 1) 0 0 0 [(0, vR 0), (1, vI a1)] [] (mk I) Q := by
  refine J_iload_n dX10_clashes_0 rfl rfl ?_
  refine J_if_lt (tgt := 9) dX10_clashes_1 (by decide) (fun c => ?_) (fun c => ?_)
  · replace h := h.1 c
    refine J_iconst dX10_clashes_9 (ii_c rfl) ?_
    refine J_goto (tgt := 21) dX10_clashes_10 (by decide) ?_
    exact J_reti dX10_clashes_21 rfl h
  · replace h := h.2 c
    refine J_iload_n dX10_clashes_4 rfl rfl ?_
    refine J_iconst dX10_clashes_5 (ii_c rfl) ?_
    refine J_ic_le (tgt := 13) dX10_clashes_6 (by decide) (fun c => ?_) (fun c => ?_)
    · replace h := h.1 c
      refine J_aload_n dX10_clashes_13 rfl rfl ?_
      refine J_getR dX10_clashes_14 ck_10 fw_X10_60 rfl sh_0 rr_0_7 ?_
      refine J_iload_n dX10_clashes_17 rfl rfl ?_
      refine J_callV (as := [_]) (mc1 := 0) (ms1 := 0) (mc := 0) (ms := 0) dX10_clashes_18 mv_X4_tally lk_X10_237 sh_67 rfl (Nat.le_of_ble_eq_true rfl) (Nat.le_of_ble_eq_true rfl) h (fun r σ hq _ => ?_)
      obtain ⟨x1, I1, rfl, rfl, h⟩ := hq
      change J _ _ _ _ _ _ _ [vI x1] _ _
      exact J_reti dX10_clashes_21 rfl h
    · replace h := h.2 c
      refine J_iconst dX10_clashes_9 (ii_c rfl) ?_
      refine J_goto (tgt := 21) dX10_clashes_10 (by decide) ?_
      exact J_reti dX10_clashes_21 rfl h
set_option maxRecDepth 20000 in
set_option maxHeartbeats 2000000 in
theorem bk_X10_meet_0 {d : Nat} {I : HI} {Q : Option AV → AH → Prop} {a1 : Int} {a2 : Int}  (h : CI mX10_isSaint d [vR 0, vI a1] I (fun x1 I1 => ((x1 = 0 → Q (some (vI (-1))) (mk I1)) ∧ (¬ (x1 = 0) → CI mX10_isSaint d [vR 0, vI a2] I1 (fun x2 I2 => ((x2 = 0 → Q (some (vI (-1))) (mk I2)) ∧ (¬ (x2 = 0) → ((a1 ≠ a2 → CI mX4_firstMeeting d [vR 67, vI (min a1 a2), vI (max a1 a2)] I2 (fun x3 I3 => Q (some (vI x3)) (mk I3))) ∧ (a1 = a2 → Q (some (vI (-1))) (mk I2)))))))))) : J none mX10_meet (d + 1) 0 0 0 [(0, vR 0), (1, vI a1), (2, vI a2)] [] (mk I) Q := by
  refine J_aload_n dX10_meet_0 rfl rfl ?_
  refine J_iload_n dX10_meet_1 rfl rfl ?_
  refine J_callV (as := [_]) (mc1 := 0) (ms1 := 0) (mc := 0) (ms := 0) dX10_meet_2 mv_X10_isSaint lk_X10_184 sh_0 rfl (Nat.le_of_ble_eq_true rfl) (Nat.le_of_ble_eq_true rfl) h (fun r σ hq _ => ?_)
  obtain ⟨x1, I1, rfl, rfl, h⟩ := hq
  change J _ _ _ _ _ _ _ [vI x1] _ _
  refine J_if_eq (tgt := 21) dX10_meet_5 (by decide) (fun c => ?_) (fun c => ?_)
  · replace h := h.1 c
    refine J_iconst dX10_meet_21 (ii_c rfl) ?_
    exact J_reti dX10_meet_22 rfl h
  · replace h := h.2 c
    refine J_aload_n dX10_meet_8 rfl rfl ?_
    refine J_iload_n dX10_meet_9 rfl rfl ?_
    refine J_callV (as := [_]) (mc1 := 0) (ms1 := 0) (mc := 0) (ms := 0) dX10_meet_10 mv_X10_isSaint lk_X10_184 sh_0 rfl (Nat.le_of_ble_eq_true rfl) (Nat.le_of_ble_eq_true rfl) h (fun r σ hq _ => ?_)
    obtain ⟨x2, I2, rfl, rfl, h⟩ := hq
    change J _ _ _ _ _ _ _ [vI x2] _ _
    refine J_if_eq (tgt := 21) dX10_meet_13 (by decide) (fun c => ?_) (fun c => ?_)
    · replace h := h.1 c
      refine J_iconst dX10_meet_21 (ii_c rfl) ?_
      exact J_reti dX10_meet_22 rfl h
    · replace h := h.2 c
      refine J_iload_n dX10_meet_16 rfl rfl ?_
      refine J_iload_n dX10_meet_17 rfl rfl ?_
      refine J_ic_ne (tgt := 23) dX10_meet_18 (by decide) (fun c => ?_) (fun c => ?_)
      · replace h := h.1 c
        refine J_aload_n dX10_meet_23 rfl rfl ?_
        refine J_getR dX10_meet_24 ck_10 fw_X10_60 rfl sh_0 rr_0_7 ?_
        refine J_iload_n dX10_meet_27 rfl rfl ?_
        refine J_iload_n dX10_meet_28 rfl rfl ?_
        refine J_min dX10_meet_29 lk_X10_240 (Nat.le_of_ble_eq_true rfl) ?_
        refine J_iload_n dX10_meet_32 rfl rfl ?_
        refine J_iload_n dX10_meet_33 rfl rfl ?_
        refine J_max dX10_meet_34 lk_X10_245 (Nat.le_of_ble_eq_true rfl) ?_
        refine J_callV (as := [_, _]) (mc1 := 0) (ms1 := 0) (mc := 0) (ms := 0) dX10_meet_37 mv_X4_firstMeeting lk_X10_248 sh_67 rfl (Nat.le_of_ble_eq_true rfl) (Nat.le_of_ble_eq_true rfl) h (fun r σ hq _ => ?_)
        obtain ⟨x3, I3, rfl, rfl, h⟩ := hq
        change J _ _ _ _ _ _ _ [vI x3] _ _
        exact J_reti dX10_meet_40 rfl h
      · replace h := h.2 c
        refine J_iconst dX10_meet_21 (ii_c rfl) ?_
        exact J_reti dX10_meet_22 rfl h
set_option maxRecDepth 20000 in
set_option maxHeartbeats 2000000 in
theorem bk_X10_pleased_0 {d : Nat} {I : HI} {Q : Option AV → AH → Prop}   (h : CI mX4_joy d [vR 67] I (fun x1 I1 => Q (some (vI x1)) (mk I1))) : J none mX10_pleased (d + 1) 0 0 0 [(0, vR 0)] [] (mk I) Q := by
  refine J_aload_n dX10_pleased_0 rfl rfl ?_
  refine J_getR dX10_pleased_1 ck_10 fw_X10_60 rfl sh_0 rr_0_7 ?_
  refine J_callV (as := []) (mc1 := 0) (ms1 := 0) (mc := 0) (ms := 0) dX10_pleased_4 mv_X4_joy lk_X10_251 sh_67 rfl (Nat.le_of_ble_eq_true rfl) (Nat.le_of_ble_eq_true rfl) h (fun r σ hq _ => ?_)
  obtain ⟨x1, I1, rfl, rfl, h⟩ := hq
  change J _ _ _ _ _ _ _ [vI x1] _ _
  exact J_reti dX10_pleased_7 rfl h
set_option maxRecDepth 20000 in
set_option maxHeartbeats 2000000 in
theorem bk_X10_but_0 {d : Nat} {I : HI} {Q : Option AV → AH → Prop} {a1 : Int}  (h : ((a1 < 0 → Q (some (vI 0)) (mk I)) ∧ (¬ (a1 < 0) → (((oSl 1 (I 2 4)) ≤ a1 → Q (some (vI 0)) (mk I)) ∧ (¬ ((oSl 1 (I 2 4)) ≤ a1) → CI mX9_soften d [vR 32, vI a1] I (fun x1 I1 => ((x1 = 0 → Q (some (vI 0)) (mk I1)) ∧ (¬ (x1 = 0) → Q (some (vI 1)) (mk I1))))))))) : J none mX10_but (d + 1) 0 0 0 [(0, vR 0), (1, vI a1)] [] (mk I) Q := by
  refine J_iload_n dX10_but_0 rfl rfl ?_
  refine J_if_lt (tgt := 34) dX10_but_1 (by decide) (fun c => ?_) (fun c => ?_)
  · replace h := h.1 c
    refine J_iconst dX10_but_34 (ii_c rfl) ?_
    exact J_retz dX10_but_35 rfl (Or.inl rfl) h
  · replace h := h.2 c
    refine J_iload_n dX10_but_4 rfl rfl ?_
    refine J_iconst dX10_but_5 (ii_c rfl) ?_
    refine J_aload_n dX10_but_6 rfl rfl ?_
    refine J_getR dX10_but_7 ck_10 fw_X10_10 rfl sh_0 rr_0_0 ?_
    refine J_getR dX10_but_10 ck_0 fw_X10_140 rfl sh_1 rr_1_0 ?_
    refine J_iconst dX10_but_13 (ii_c rfl) ?_
    refine J_iald dX10_but_14 sh_2 (by decide) (by decide) ?_
    refine J_ishl dX10_but_15 ?_
    refine J_ic_ge (tgt := 34) dX10_but_16 (by decide) (fun c => ?_) (fun c => ?_)
    · replace h := h.1 c
      refine J_iconst dX10_but_34 (ii_c rfl) ?_
      exact J_retz dX10_but_35 rfl (Or.inl rfl) h
    · replace h := h.2 c
      refine J_aload_n dX10_but_19 rfl rfl ?_
      refine J_getR dX10_but_20 ck_10 fw_X10_37 rfl sh_0 rr_0_4 ?_
      refine J_iload_n dX10_but_23 rfl rfl ?_
      refine J_callV (as := [_]) (mc1 := 0) (ms1 := 0) (mc := 0) (ms := 0) dX10_but_24 mv_X9_soften lk_X10_254 sh_32 rfl (Nat.le_of_ble_eq_true rfl) (Nat.le_of_ble_eq_true rfl) h (fun r σ hq _ => ?_)
      obtain ⟨x1, I1, rfl, rfl, h⟩ := hq
      change J _ _ _ _ _ _ _ [vI x1] _ _
      refine J_if_eq (tgt := 34) dX10_but_27 (by decide) (fun c => ?_) (fun c => ?_)
      · replace h := h.1 c
        refine J_iconst dX10_but_34 (ii_c rfl) ?_
        exact J_retz dX10_but_35 rfl (Or.inl rfl) h
      · replace h := h.2 c
        refine J_iconst dX10_but_30 (ii_c rfl) ?_
        refine J_goto (tgt := 35) dX10_but_31 (by decide) ?_
        exact J_retz dX10_but_35 rfl (Or.inr rfl) h
set_option maxRecDepth 20000 in
set_option maxHeartbeats 2000000 in
theorem bk_X10_words_0 {d : Nat} {I : HI} {Q : Option AV → AH → Prop} {a1 : Int}  (h : ((a1 < 0 → Q (some (vI (-1))) (mk I)) ∧ (¬ (a1 < 0) → ((a1 < (I 2 4) → ((0 : Int) ≤ a1 ∧ (a1 : Int) < 6) ∧ Q (some (vI (I 11 a1.toNat))) (mk I)) ∧ (¬ (a1 < (I 2 4)) → Q (some (vI (-1))) (mk I)))))) : J none mX10_words (d + 1) 0 0 0 [(0, vR 0), (1, vI a1)] [] (mk I) Q := by
  refine J_iload_n dX10_words_0 rfl rfl ?_
  refine J_if_lt (tgt := 17) dX10_words_1 (by decide) (fun c => ?_) (fun c => ?_)
  · replace h := h.1 c
    refine J_iconst dX10_words_17 (ii_c rfl) ?_
    refine J_goto (tgt := 30) dX10_words_18 (by decide) ?_
    exact J_reti dX10_words_30 rfl h
  · replace h := h.2 c
    refine J_iload_n dX10_words_4 rfl rfl ?_
    refine J_aload_n dX10_words_5 rfl rfl ?_
    refine J_getR dX10_words_6 ck_10 fw_X10_10 rfl sh_0 rr_0_0 ?_
    refine J_getR dX10_words_9 ck_0 fw_X10_140 rfl sh_1 rr_1_0 ?_
    refine J_iconst dX10_words_12 (ii_c rfl) ?_
    refine J_iald dX10_words_13 sh_2 (by decide) (by decide) ?_
    refine J_ic_lt (tgt := 21) dX10_words_14 (by decide) (fun c => ?_) (fun c => ?_)
    · replace h := h.1 c
      refine J_aload_n dX10_words_21 rfl rfl ?_
      refine J_getR dX10_words_22 ck_10 fw_X10_10 rfl sh_0 rr_0_0 ?_
      refine J_getR dX10_words_25 ck_0 fw_X10_257 rfl sh_1 rr_1_9 ?_
      refine J_iload_n dX10_words_28 rfl rfl ?_
      refine J_iald dX10_words_29 sh_11 h.1.1 h.1.2 ?_
      replace h := h.2
      exact J_reti dX10_words_30 rfl h
    · replace h := h.2 c
      refine J_iconst dX10_words_17 (ii_c rfl) ?_
      refine J_goto (tgt := 30) dX10_words_18 (by decide) ?_
      exact J_reti dX10_words_30 rfl h
set_option maxRecDepth 20000 in
set_option maxHeartbeats 2000000 in
theorem bk_X10_softer_0 {d : Nat} {I : HI} {Q : Option AV → AH → Prop} {a1 : Int}  (h : ((a1 < 0 → Q (some (vI (-1))) (mk I)) ∧ (¬ (a1 < 0) → ((a1 ≤ 1 → CI mX4_softest d [vR 67] I (fun x1 I1 => ((a1 = 0 → Q (some (vI x1)) (mk I1)) ∧ (¬ (a1 = 0) → ((x1 ≠ (-1) → CI mX0_wordsOf d [vR 1, vI x1] I1 (fun x2 I2 => Q (some (vI x2)) (mk I2))) ∧ (x1 = (-1) → Q (some (vI x1)) (mk I1))))))) ∧ (¬ (a1 ≤ 1) → Q (some (vI (-1))) (mk I)))))) : J none mX10_softer (d + 1) 0 0 0 [(0, vR 0), (1, vI a1)] [] (mk I) Q := by
  refine J_iload_n dX10_softer_0 rfl rfl ?_
  refine J_if_lt (tgt := 9) dX10_softer_1 (by decide) (fun c => ?_) (fun c => ?_)
  · replace h := h.1 c
    refine J_iconst dX10_softer_9 (ii_c rfl) ?_
    exact J_reti dX10_softer_10 rfl h
  · replace h := h.2 c
    refine J_iload_n dX10_softer_4 rfl rfl ?_
    refine J_iconst dX10_softer_5 (ii_c rfl) ?_
    refine J_ic_le (tgt := 11) dX10_softer_6 (by decide) (fun c => ?_) (fun c => ?_)
    · replace h := h.1 c
      refine J_aload_n dX10_softer_11 rfl rfl ?_
      refine J_getR dX10_softer_12 ck_10 fw_X10_60 rfl sh_0 rr_0_7 ?_
      refine J_callV (as := []) (mc1 := 0) (ms1 := 0) (mc := 0) (ms := 0) dX10_softer_15 mv_X4_softest lk_X10_260 sh_67 rfl (Nat.le_of_ble_eq_true rfl) (Nat.le_of_ble_eq_true rfl) h (fun r σ hq _ => ?_)
      obtain ⟨x1, I1, rfl, rfl, h⟩ := hq
      change J _ _ _ _ _ _ _ [vI x1] _ _
      refine J_istore_n dX10_softer_18 rfl (by decide) ?_
      refine J_iload_n dX10_softer_19 rfl rfl ?_
      refine J_if_eq (tgt := 28) dX10_softer_20 (by decide) (fun c => ?_) (fun c => ?_)
      · replace h := h.1 c
        refine J_iload_n dX10_softer_28 rfl rfl ?_
        refine J_goto (tgt := 40) dX10_softer_29 (by decide) ?_
        exact J_reti dX10_softer_40 rfl h
      · replace h := h.2 c
        refine J_iload_n dX10_softer_23 rfl rfl ?_
        refine J_iconst dX10_softer_24 (ii_c rfl) ?_
        refine J_ic_ne (tgt := 32) dX10_softer_25 (by decide) (fun c => ?_) (fun c => ?_)
        · replace h := h.1 c
          refine J_aload_n dX10_softer_32 rfl rfl ?_
          refine J_getR dX10_softer_33 ck_10 fw_X10_10 rfl sh_0 rr_0_0 ?_
          refine J_iload_n dX10_softer_36 rfl rfl ?_
          refine J_callV (as := [_]) (mc1 := 0) (ms1 := 0) (mc := 0) (ms := 0) dX10_softer_37 mv_X0_wordsOf lk_X10_263 sh_1 rfl (Nat.le_of_ble_eq_true rfl) (Nat.le_of_ble_eq_true rfl) h (fun r σ hq _ => ?_)
          obtain ⟨x2, I2, rfl, rfl, h⟩ := hq
          change J _ _ _ _ _ _ _ [vI x2] _ _
          exact J_reti dX10_softer_40 rfl h
        · replace h := h.2 c
          refine J_iload_n dX10_softer_28 rfl rfl ?_
          refine J_goto (tgt := 40) dX10_softer_29 (by decide) ?_
          exact J_reti dX10_softer_40 rfl h
    · replace h := h.2 c
      refine J_iconst dX10_softer_9 (ii_c rfl) ?_
      exact J_reti dX10_softer_10 rfl h
set_option maxRecDepth 20000 in
set_option maxHeartbeats 2000000 in
theorem bk_X10_shut_0 {d : Nat} {I : HI} {Q : Option AV → AH → Prop} {a1 : Int} {a2 : Int}  (h : CI mX10_isLane d [vR 0, vI a1] I (fun x1 I1 => ((x1 = 0 → Q (some (vI 0)) (mk I1)) ∧ (¬ (x1 = 0) → CI mX9_bar d [vR 32, vI a1, vI a2] I1 (fun x2 I2 => ((x2 = 0 → Q (some (vI 0)) (mk I2)) ∧ (¬ (x2 = 0) → Q (some (vI 1)) (mk I2)))))))) : J none mX10_shut (d + 1) 0 0 0 [(0, vR 0), (1, vI a1), (2, vI a2)] [] (mk I) Q := by
  refine J_aload_n dX10_shut_0 rfl rfl ?_
  refine J_iload_n dX10_shut_1 rfl rfl ?_
  refine J_callV (as := [_]) (mc1 := 0) (ms1 := 0) (mc := 0) (ms := 0) dX10_shut_2 mv_X10_isLane lk_X10_171 sh_0 rfl (Nat.le_of_ble_eq_true rfl) (Nat.le_of_ble_eq_true rfl) h (fun r σ hq _ => ?_)
  obtain ⟨x1, I1, rfl, rfl, h⟩ := hq
  change J _ _ _ _ _ _ _ [vI x1] _ _
  refine J_if_eq (tgt := 24) dX10_shut_5 (by decide) (fun c => ?_) (fun c => ?_)
  · replace h := h.1 c
    refine J_iconst dX10_shut_24 (ii_c rfl) ?_
    exact J_retz dX10_shut_25 rfl (Or.inl rfl) h
  · replace h := h.2 c
    refine J_aload_n dX10_shut_8 rfl rfl ?_
    refine J_getR dX10_shut_9 ck_10 fw_X10_37 rfl sh_0 rr_0_4 ?_
    refine J_iload_n dX10_shut_12 rfl rfl ?_
    refine J_iload_n dX10_shut_13 rfl rfl ?_
    refine J_callV (as := [_, _]) (mc1 := 0) (ms1 := 0) (mc := 0) (ms := 0) dX10_shut_14 mv_X9_bar lk_X10_266 sh_32 rfl (Nat.le_of_ble_eq_true rfl) (Nat.le_of_ble_eq_true rfl) h (fun r σ hq _ => ?_)
    obtain ⟨x2, I2, rfl, rfl, h⟩ := hq
    change J _ _ _ _ _ _ _ [vI x2] _ _
    refine J_if_eq (tgt := 24) dX10_shut_17 (by decide) (fun c => ?_) (fun c => ?_)
    · replace h := h.1 c
      refine J_iconst dX10_shut_24 (ii_c rfl) ?_
      exact J_retz dX10_shut_25 rfl (Or.inl rfl) h
    · replace h := h.2 c
      refine J_iconst dX10_shut_20 (ii_c rfl) ?_
      refine J_goto (tgt := 25) dX10_shut_21 (by decide) ?_
      exact J_retz dX10_shut_25 rfl (Or.inr rfl) h
set_option maxRecDepth 20000 in
set_option maxHeartbeats 2000000 in
theorem bk_X10_sweep_0 {d : Nat} {I : HI} {Q : Option AV → AH → Prop} {a1 : Int}  (h : CI mX4_foul d [vR 67] I (fun x1 I1 => ((a1 ≠ (-1) → J none mX10_sweep (d + 1) 0 0 23 [(0, vR 0), (1, vI a1), (2, vI x1), (3, vI 0), (4, vI 0)] [] (mk I1) Q) ∧ (a1 = (-1) → CI mJ6_bitCount_0f7a4 d [vI x1] I1 (fun x2 I2 => Q (some (vI x2)) (mk I2)))))) : J none mX10_sweep (d + 1) 0 0 0 [(0, vR 0), (1, vI a1)] [] (mk I) Q := by
  refine J_aload_n dX10_sweep_0 rfl rfl ?_
  refine J_getR dX10_sweep_1 ck_10 fw_X10_60 rfl sh_0 rr_0_7 ?_
  refine J_callV (as := []) (mc1 := 0) (ms1 := 0) (mc := 0) (ms := 0) dX10_sweep_4 mv_X4_foul lk_X10_270 sh_67 rfl (Nat.le_of_ble_eq_true rfl) (Nat.le_of_ble_eq_true rfl) h (fun r σ hq _ => ?_)
  obtain ⟨x1, I1, rfl, rfl, h⟩ := hq
  change J _ _ _ _ _ _ _ [vI x1] _ _
  refine J_istore_n dX10_sweep_7 rfl (by decide) ?_
  refine J_iload_n dX10_sweep_8 rfl rfl ?_
  refine J_iconst dX10_sweep_9 (ii_c rfl) ?_
  refine J_ic_ne (tgt := 18) dX10_sweep_10 (by decide) (fun c => ?_) (fun c => ?_)
  · replace h := h.1 c
    refine J_iconst dX10_sweep_18 (ii_c rfl) ?_
    refine J_istore_n dX10_sweep_19 rfl (by decide) ?_
    refine J_iconst dX10_sweep_20 (ii_c rfl) ?_
    refine J_istore dX10_sweep_21 (by decide) ?_
    exact h
  · replace h := h.2 c
    refine J_iload_n dX10_sweep_13 rfl rfl ?_
    refine J_callS (as := [_]) (mc1 := 0) (ms1 := 0) (mc := 0) (ms := 0) dX10_sweep_14 ms_J6_bitCount_0f7a4 lk_X10_149 rfl (Nat.le_of_ble_eq_true rfl) (Nat.le_of_ble_eq_true rfl) h (fun r σ hq _ => ?_)
    obtain ⟨x2, I2, rfl, rfl, h⟩ := hq
    change J _ _ _ _ _ _ _ [vI x2] _ _
    exact J_reti dX10_sweep_17 rfl h
set_option maxRecDepth 20000 in
set_option maxHeartbeats 2000000 in
theorem bk_X10_sweep_23 {d : Nat} {I : HI} {Q : Option AV → AH → Prop} {a1 : Int} {a2 : Int} {a3 : Int} {a4 : Int}  (h : ((16 ≤ a4 → Q (some (vI (-1))) (mk I)) ∧ (¬ (16 ≤ a4) → (((oA (oSr a2 a4) 1) = 0 → (-2147483648 ≤ a4 + 1 ∧ a4 + 1 ≤ 2147483647) ∧ J none mX10_sweep (d + 1) 0 0 23 [(0, vR 0), (1, vI a1), (2, vI a2), (3, vI a3), (4, vI (a4 + 1))] [] (mk I) Q) ∧ (¬ ((oA (oSr a2 a4) 1) = 0) → (-2147483648 ≤ a3 + 1 ∧ a3 + 1 ≤ 2147483647) ∧ ((a3 ≠ a1 → (-2147483648 ≤ a4 + 1 ∧ a4 + 1 ≤ 2147483647) ∧ J none mX10_sweep (d + 1) 0 0 23 [(0, vR 0), (1, vI a1), (2, vI a2), (3, vI (a3 + 1)), (4, vI (a4 + 1))] [] (mk I) Q) ∧ (a3 = a1 → Q (some (vI a4)) (mk I)))))))) : J none mX10_sweep (d + 1) 0 0 23 [(0, vR 0), (1, vI a1), (2, vI a2), (3, vI a3), (4, vI a4)] [] (mk I) Q := by
  refine J_iload dX10_sweep_23 rfl ?_
  refine J_bipush dX10_sweep_25 (ii_c rfl) (by decide) ?_
  refine J_ic_ge (tgt := 56) dX10_sweep_27 (by decide) (fun c => ?_) (fun c => ?_)
  · replace h := h.1 c
    refine J_iconst dX10_sweep_56 (ii_c rfl) ?_
    exact J_reti dX10_sweep_57 rfl h
  · replace h := h.2 c
    refine J_iload_n dX10_sweep_30 rfl rfl ?_
    refine J_iload dX10_sweep_31 rfl ?_
    refine J_ishr dX10_sweep_33 ?_
    refine J_iconst dX10_sweep_34 (ii_c rfl) ?_
    refine J_iand dX10_sweep_35 ?_
    refine J_if_eq (tgt := 50) dX10_sweep_36 (by decide) (fun c => ?_) (fun c => ?_)
    · replace h := h.1 c
      refine J_iincN dX10_sweep_50 rfl (by decide) h.1 ?_
      replace h := h.2
      refine J_goto (tgt := 23) dX10_sweep_53 (by decide) ?_
      exact h
    · replace h := h.2 c
      refine J_iload_n dX10_sweep_39 rfl rfl ?_
      refine J_iincN dX10_sweep_40 rfl (by decide) h.1 ?_
      replace h := h.2
      refine J_iload_n dX10_sweep_43 rfl rfl ?_
      refine J_ic_ne (tgt := 50) dX10_sweep_44 (by decide) (fun c => ?_) (fun c => ?_)
      · replace h := h.1 c
        refine J_iincN dX10_sweep_50 rfl (by decide) h.1 ?_
        replace h := h.2
        refine J_goto (tgt := 23) dX10_sweep_53 (by decide) ?_
        exact h
      · replace h := h.2 c
        refine J_iload dX10_sweep_47 rfl ?_
        exact J_reti dX10_sweep_49 rfl h
set_option maxRecDepth 20000 in
set_option maxHeartbeats 2000000 in
theorem bk_X10_routes_0 {d : Nat} {I : HI} {Q : Option AV → AH → Prop} {a1 : Int}  (h : CI mX10_isSaint d [vR 0, vI a1] I (fun x1 I1 => ((x1 = 0 → Q (some (vI (-1))) (mk I1)) ∧ (¬ (x1 = 0) → CI mX5_routesOf d [vR 69, vI a1] I1 (fun x2 I2 => Q (some (vI x2)) (mk I2)))))) : J none mX10_routes (d + 1) 0 0 0 [(0, vR 0), (1, vI a1)] [] (mk I) Q := by
  refine J_aload_n dX10_routes_0 rfl rfl ?_
  refine J_iload_n dX10_routes_1 rfl rfl ?_
  refine J_callV (as := [_]) (mc1 := 0) (ms1 := 0) (mc := 0) (ms := 0) dX10_routes_2 mv_X10_isSaint lk_X10_184 sh_0 rfl (Nat.le_of_ble_eq_true rfl) (Nat.le_of_ble_eq_true rfl) h (fun r σ hq _ => ?_)
  obtain ⟨x1, I1, rfl, rfl, h⟩ := hq
  change J _ _ _ _ _ _ _ [vI x1] _ _
  refine J_if_eq (tgt := 19) dX10_routes_5 (by decide) (fun c => ?_) (fun c => ?_)
  · replace h := h.1 c
    refine J_iconst dX10_routes_19 (ii_c rfl) ?_
    exact J_reti dX10_routes_20 rfl h
  · replace h := h.2 c
    refine J_aload_n dX10_routes_8 rfl rfl ?_
    refine J_getR dX10_routes_9 ck_10 fw_X10_67 rfl sh_0 rr_0_8 ?_
    refine J_iload_n dX10_routes_12 rfl rfl ?_
    refine J_callV (as := [_]) (mc1 := 0) (ms1 := 0) (mc := 0) (ms := 0) dX10_routes_13 mv_X5_routesOf lk_X10_273 sh_69 rfl (Nat.le_of_ble_eq_true rfl) (Nat.le_of_ble_eq_true rfl) h (fun r σ hq _ => ?_)
    obtain ⟨x2, I2, rfl, rfl, h⟩ := hq
    change J _ _ _ _ _ _ _ [vI x2] _ _
    refine J_goto (tgt := 20) dX10_routes_16 (by decide) ?_
    exact J_reti dX10_routes_20 rfl h
set_option maxRecDepth 20000 in
set_option maxHeartbeats 2000000 in
theorem bk_X10_route_0 {d : Nat} {I : HI} {Q : Option AV → AH → Prop} {a1 : Int} {a2 : Int} {a3 : Int}  (h : CI mX10_isSaint d [vR 0, vI a1] I (fun x1 I1 => ((x1 = 0 → Q (some (vI (-1))) (mk I1)) ∧ (¬ (x1 = 0) → ((a2 < 0 → Q (some (vI (-1))) (mk I1)) ∧ (¬ (a2 < 0) → CI mX5_routesOf d [vR 69, vI a1] I1 (fun x2 I2 => ((a2 < x2 → (-2147483648 ≤ a1 * 20 ∧ a1 * 20 ≤ 2147483647) ∧ (-2147483648 ≤ (a1 * 20) + a2 ∧ (a1 * 20) + a2 ≤ 2147483647) ∧ ((0 : Int) ≤ ((a1 * 20) + a2) ∧ ((a1 * 20) + a2 : Int) < 80) ∧ ((a3 < 0 → Q (some (vI (-1))) (mk I2)) ∧ (¬ (a3 < 0) → ((a3 < (I2 (77 + 5 * ((a1 * 20) + a2).toNat) 4) → ((0 : Int) ≤ a3 ∧ (a3 : Int) < 10) ∧ Q (some (vI (I2 ((77 + 5 * ((a1 * 20) + a2).toNat) + 1) a3.toNat))) (mk I2)) ∧ (¬ (a3 < (I2 (77 + 5 * ((a1 * 20) + a2).toNat) 4)) → Q (some (vI (-1))) (mk I2)))))) ∧ (¬ (a2 < x2) → Q (some (vI (-1))) (mk I2)))))))))) : J none mX10_route (d + 1) 0 0 0 [(0, vR 0), (1, vI a1), (2, vI a2), (3, vI a3)] [] (mk I) Q := by
  refine J_aload_n dX10_route_0 rfl rfl ?_
  refine J_iload_n dX10_route_1 rfl rfl ?_
  refine J_callV (as := [_]) (mc1 := 0) (ms1 := 0) (mc := 0) (ms := 0) dX10_route_2 mv_X10_isSaint lk_X10_184 sh_0 rfl (Nat.le_of_ble_eq_true rfl) (Nat.le_of_ble_eq_true rfl) h (fun r σ hq _ => ?_)
  obtain ⟨x1, I1, rfl, rfl, h⟩ := hq
  change J _ _ _ _ _ _ _ [vI x1] _ _
  refine J_if_eq (tgt := 24) dX10_route_5 (by decide) (fun c => ?_) (fun c => ?_)
  · replace h := h.1 c
    refine J_iconst dX10_route_24 (ii_c rfl) ?_
    exact J_reti dX10_route_25 rfl h
  · replace h := h.2 c
    refine J_iload_n dX10_route_8 rfl rfl ?_
    refine J_if_lt (tgt := 24) dX10_route_9 (by decide) (fun c => ?_) (fun c => ?_)
    · replace h := h.1 c
      refine J_iconst dX10_route_24 (ii_c rfl) ?_
      exact J_reti dX10_route_25 rfl h
    · replace h := h.2 c
      refine J_iload_n dX10_route_12 rfl rfl ?_
      refine J_aload_n dX10_route_13 rfl rfl ?_
      refine J_getR dX10_route_14 ck_10 fw_X10_67 rfl sh_0 rr_0_8 ?_
      refine J_iload_n dX10_route_17 rfl rfl ?_
      refine J_callV (as := [_]) (mc1 := 0) (ms1 := 0) (mc := 0) (ms := 0) dX10_route_18 mv_X5_routesOf lk_X10_273 sh_69 rfl (Nat.le_of_ble_eq_true rfl) (Nat.le_of_ble_eq_true rfl) h (fun r σ hq _ => ?_)
      obtain ⟨x2, I2, rfl, rfl, h⟩ := hq
      change J _ _ _ _ _ _ _ [vI x2, vI a2] _ _
      refine J_ic_lt (tgt := 26) dX10_route_21 (by decide) (fun c => ?_) (fun c => ?_)
      · replace h := h.1 c
        refine J_aload_n dX10_route_26 rfl rfl ?_
        refine J_getR dX10_route_27 ck_10 fw_X10_67 rfl sh_0 rr_0_8 ?_
        refine J_getR dX10_route_30 ck_5 fw_X10_276 rfl sh_69 rr_69_4 ?_
        refine J_iload_n dX10_route_33 rfl rfl ?_
        refine J_bipush dX10_route_34 (ii_c rfl) (by decide) ?_
        refine J_imulN dX10_route_36 h.1 ?_
        replace h := h.2
        refine J_iload_n dX10_route_37 rfl rfl ?_
        refine J_iaddN dX10_route_38 h.1 ?_
        replace h := h.2
        have hb3 := h.1
        refine J_aald dX10_route_39 sh_70 h.1.1 h.1.2 (RRo h.1.1 h.1.2) ?_
        replace h := h.2
        refine J_astore dX10_route_40 (by decide) ?_
        refine J_iload_n dX10_route_42 rfl rfl ?_
        refine J_if_lt (tgt := 55) dX10_route_43 (by decide) (fun c => ?_) (fun c => ?_)
        · replace h := h.1 c
          refine J_iconst dX10_route_55 (ii_c rfl) ?_
          refine J_goto (tgt := 66) dX10_route_56 (by decide) ?_
          exact J_reti dX10_route_66 rfl h
        · replace h := h.2 c
          refine J_iload_n dX10_route_46 rfl rfl ?_
          refine J_aload dX10_route_47 rfl ?_
          refine J_getI dX10_route_49 ck_8 fw_X10_277 rfl ((TRo hb3.1 hb3.2).1) ?_
          refine J_ic_lt (tgt := 59) dX10_route_52 (by decide) (fun c => ?_) (fun c => ?_)
          · replace h := h.1 c
            refine J_aload dX10_route_59 rfl ?_
            refine J_getR dX10_route_61 ck_8 fw_X10_280 rfl ((TRo hb3.1 hb3.2).1) ((TRo hb3.1 hb3.2).2.1) ?_
            refine J_iload_n dX10_route_64 rfl rfl ?_
            refine J_iald dX10_route_65 ((TRo hb3.1 hb3.2).2.2.2.2.2.1) h.1.1 h.1.2 ?_
            replace h := h.2
            exact J_reti dX10_route_66 rfl h
          · replace h := h.2 c
            refine J_iconst dX10_route_55 (ii_c rfl) ?_
            refine J_goto (tgt := 66) dX10_route_56 (by decide) ?_
            exact J_reti dX10_route_66 rfl h
      · replace h := h.2 c
        refine J_iconst dX10_route_24 (ii_c rfl) ?_
        exact J_reti dX10_route_25 rfl h
set_option maxRecDepth 20000 in
set_option maxHeartbeats 2000000 in
theorem bk_X10_together_0 {d : Nat} {I : HI} {Q : Option AV → AH → Prop} {a1 : Int}  (h : CI mX10_allSaints d [vR 0] I (fun x1 I1 => CI mX6_solve d [vR 477, vI x1, vI 0] I1 (fun x2 I2 => ((a1 = (-1) → Q (some (vI x2)) (mk I2)) ∧ (¬ (a1 = (-1)) → ((x2 ≠ (-1) → CI mX10_isSaint d [vR 0, vI a1] I2 (fun x3 I3 => ((x3 = 0 → Q (some (vI (-1))) (mk I3)) ∧ (¬ (x3 = 0) → ((0 : Int) ≤ a1 ∧ (a1 : Int) < 4) ∧ (-2147483648 ≤ (I3 481 a1.toNat) - 1 ∧ (I3 481 a1.toNat) - 1 ≤ 2147483647) ∧ Q (some (vI ((I3 481 a1.toNat) - 1))) (mk I3))))) ∧ (x2 = (-1) → Q (some (vI x2)) (mk I2)))))))) : J none mX10_together (d + 1) 0 0 0 [(0, vR 0), (1, vI a1)] [] (mk I) Q := by
  refine J_aload_n dX10_together_0 rfl rfl ?_
  refine J_getR dX10_together_1 ck_10 fw_X10_76 rfl sh_0 rr_0_9 ?_
  refine J_aload_n dX10_together_4 rfl rfl ?_
  refine J_callV (as := []) (mc1 := 0) (ms1 := 0) (mc := 0) (ms := 0) dX10_together_5 mv_X10_allSaints lk_X10_283 sh_0 rfl (Nat.le_of_ble_eq_true rfl) (Nat.le_of_ble_eq_true rfl) h (fun r σ hq _ => ?_)
  obtain ⟨x1, I1, rfl, rfl, h⟩ := hq
  change J _ _ _ _ _ _ _ [vI x1, vR 477] _ _
  refine J_iconst dX10_together_8 (ii_c rfl) ?_
  refine J_callV (as := [_, _]) (mc1 := 0) (ms1 := 0) (mc := 0) (ms := 0) dX10_together_9 mv_X6_solve lk_X10_286 sh_477 rfl (Nat.le_of_ble_eq_true rfl) (Nat.le_of_ble_eq_true rfl) h (fun r σ hq _ => ?_)
  obtain ⟨x2, I2, rfl, rfl, h⟩ := hq
  change J _ _ _ _ _ _ _ [vI x2] _ _
  refine J_istore_n dX10_together_12 rfl (by decide) ?_
  refine J_iload_n dX10_together_13 rfl rfl ?_
  refine J_iconst dX10_together_14 (ii_c rfl) ?_
  refine J_ic_eq (tgt := 23) dX10_together_15 (by decide) (fun c => ?_) (fun c => ?_)
  · replace h := h.1 c
    refine J_iload_n dX10_together_23 rfl rfl ?_
    exact J_reti dX10_together_24 rfl h
  · replace h := h.2 c
    refine J_iload_n dX10_together_18 rfl rfl ?_
    refine J_iconst dX10_together_19 (ii_c rfl) ?_
    refine J_ic_ne (tgt := 25) dX10_together_20 (by decide) (fun c => ?_) (fun c => ?_)
    · replace h := h.1 c
      refine J_aload_n dX10_together_25 rfl rfl ?_
      refine J_iload_n dX10_together_26 rfl rfl ?_
      refine J_callV (as := [_]) (mc1 := 0) (ms1 := 0) (mc := 0) (ms := 0) dX10_together_27 mv_X10_isSaint lk_X10_184 sh_0 rfl (Nat.le_of_ble_eq_true rfl) (Nat.le_of_ble_eq_true rfl) h (fun r σ hq _ => ?_)
      obtain ⟨x3, I3, rfl, rfl, h⟩ := hq
      change J _ _ _ _ _ _ _ [vI x3] _ _
      refine J_if_eq (tgt := 47) dX10_together_30 (by decide) (fun c => ?_) (fun c => ?_)
      · replace h := h.1 c
        refine J_iconst dX10_together_47 (ii_c rfl) ?_
        exact J_reti dX10_together_48 rfl h
      · replace h := h.2 c
        refine J_aload_n dX10_together_33 rfl rfl ?_
        refine J_getR dX10_together_34 ck_10 fw_X10_76 rfl sh_0 rr_0_9 ?_
        refine J_getR dX10_together_37 ck_6 fw_X10_290 rfl sh_477 rr_477_6 ?_
        refine J_iload_n dX10_together_40 rfl rfl ?_
        refine J_iald dX10_together_41 sh_481 h.1.1 h.1.2 ?_
        replace h := h.2
        refine J_iconst dX10_together_42 (ii_c rfl) ?_
        refine J_isubN dX10_together_43 h.1 ?_
        replace h := h.2
        refine J_goto (tgt := 48) dX10_together_44 (by decide) ?_
        exact J_reti dX10_together_48 rfl h
    · replace h := h.2 c
      refine J_iload_n dX10_together_23 rfl rfl ?_
      exact J_reti dX10_together_24 rfl h
set_option maxRecDepth 20000 in
set_option maxHeartbeats 2000000 in
theorem bk_X10_bars_0 {d : Nat} {I : HI} {Q : Option AV → AH → Prop}   (h : CI mX10_allSaints d [vR 0] I (fun x1 I1 => J none mX10_bars (d + 1) 0 0 7 [(0, vR 0), (1, vI x1), (2, vI 0)] [] (mk I1) Q)) : J none mX10_bars (d + 1) 0 0 0 [(0, vR 0)] [] (mk I) Q := by
  refine J_aload_n dX10_bars_0 rfl rfl ?_
  refine J_callV (as := []) (mc1 := 0) (ms1 := 0) (mc := 0) (ms := 0) dX10_bars_1 mv_X10_allSaints lk_X10_283 sh_0 rfl (Nat.le_of_ble_eq_true rfl) (Nat.le_of_ble_eq_true rfl) h (fun r σ hq _ => ?_)
  obtain ⟨x1, I1, rfl, rfl, h⟩ := hq
  change J _ _ _ _ _ _ _ [vI x1] _ _
  refine J_istore_n dX10_bars_4 rfl (by decide) ?_
  refine J_iconst dX10_bars_5 (ii_c rfl) ?_
  refine J_istore_n dX10_bars_6 rfl (by decide) ?_
  exact h
set_option maxRecDepth 20000 in
set_option maxHeartbeats 2000000 in
theorem bk_X10_bars_7 {d : Nat} {I : HI} {Q : Option AV → AH → Prop} {a1 : Int} {a2 : Int}  (h : ((4 < a2 → Q (some (vI a1)) (mk I)) ∧ (¬ (4 < a2) → J none mX10_bars (d + 1) 0 0 14 [(0, vR 0), (1, vI a1), (2, vI a2), (3, vI 0)] [] (mk I) Q))) : J none mX10_bars (d + 1) 0 0 7 [(0, vR 0), (1, vI a1), (2, vI a2)] [] (mk I) Q := by
  refine J_iload_n dX10_bars_7 rfl rfl ?_
  refine J_iconst dX10_bars_8 (ii_c rfl) ?_
  refine J_ic_gt (tgt := 58) dX10_bars_9 (by decide) (fun c => ?_) (fun c => ?_)
  · replace h := h.1 c
    refine J_iload_n dX10_bars_58 rfl rfl ?_
    exact J_reti dX10_bars_59 rfl h
  · replace h := h.2 c
    refine J_iconst dX10_bars_12 (ii_c rfl) ?_
    refine J_istore_n dX10_bars_13 rfl (by decide) ?_
    exact h
set_option maxRecDepth 20000 in
set_option maxHeartbeats 2000000 in
theorem bk_X10_bars_14 {d : Nat} {I : HI} {Q : Option AV → AH → Prop} {a1 : Int} {a2 : Int} {a3 : Int}  (h : ((a1 < a3 → (-2147483648 ≤ a2 + 1 ∧ a2 + 1 ≤ 2147483647) ∧ J none mX10_bars (d + 1) 0 0 7 [(0, vR 0), (1, vI a1), (2, vI (a2 + 1))] [] (mk I) Q) ∧ (¬ (a1 < a3) → CI mJ6_bitCount_0f7a4 d [vI a3] I (fun x1 I1 => ((x1 ≠ a2 → (-2147483648 ≤ a3 + 1 ∧ a3 + 1 ≤ 2147483647) ∧ J none mX10_bars (d + 1) 0 0 14 [(0, vR 0), (1, vI a1), (2, vI a2), (3, vI (a3 + 1))] [] (mk I1) Q) ∧ (x1 = a2 → CI mX6_solve d [vR 477, vI (oA a1 (oX a3 (-1))), vI 0] I1 (fun x2 I2 => ((x2 = (-1) → (-2147483648 ≤ a3 + 1 ∧ a3 + 1 ≤ 2147483647) ∧ J none mX10_bars (d + 1) 0 0 14 [(0, vR 0), (1, vI a1), (2, vI a2), (3, vI (a3 + 1))] [] (mk I2) Q) ∧ (¬ (x2 = (-1)) → Q (some (vI a3)) (mk I2)))))))))) : J none mX10_bars (d + 1) 0 0 14 [(0, vR 0), (1, vI a1), (2, vI a2), (3, vI a3)] [] (mk I) Q := by
  refine J_iload_n dX10_bars_14 rfl rfl ?_
  refine J_iload_n dX10_bars_15 rfl rfl ?_
  refine J_ic_gt (tgt := 52) dX10_bars_16 (by decide) (fun c => ?_) (fun c => ?_)
  · replace h := h.1 c
    refine J_iincN dX10_bars_52 rfl (by decide) h.1 ?_
    replace h := h.2
    refine J_goto (tgt := 7) dX10_bars_55 (by decide) ?_
    exact J_loc (ls_sub [0, 1, 2] rfl) h
  · replace h := h.2 c
    refine J_iload_n dX10_bars_19 rfl rfl ?_
    refine J_callS (as := [_]) (mc1 := 0) (ms1 := 0) (mc := 0) (ms := 0) dX10_bars_20 ms_J6_bitCount_0f7a4 lk_X10_149 rfl (Nat.le_of_ble_eq_true rfl) (Nat.le_of_ble_eq_true rfl) h (fun r σ hq _ => ?_)
    obtain ⟨x1, I1, rfl, rfl, h⟩ := hq
    change J _ _ _ _ _ _ _ [vI x1] _ _
    refine J_iload_n dX10_bars_23 rfl rfl ?_
    refine J_ic_ne (tgt := 46) dX10_bars_24 (by decide) (fun c => ?_) (fun c => ?_)
    · replace h := h.1 c
      refine J_iincN dX10_bars_46 rfl (by decide) h.1 ?_
      replace h := h.2
      refine J_goto (tgt := 14) dX10_bars_49 (by decide) ?_
      exact h
    · replace h := h.2 c
      refine J_aload_n dX10_bars_27 rfl rfl ?_
      refine J_getR dX10_bars_28 ck_10 fw_X10_76 rfl sh_0 rr_0_9 ?_
      refine J_iload_n dX10_bars_31 rfl rfl ?_
      refine J_iload_n dX10_bars_32 rfl rfl ?_
      refine J_iconst dX10_bars_33 (ii_c rfl) ?_
      refine J_ixor dX10_bars_34 ?_
      refine J_iand dX10_bars_35 ?_
      refine J_iconst dX10_bars_36 (ii_c rfl) ?_
      refine J_callV (as := [_, _]) (mc1 := 0) (ms1 := 0) (mc := 0) (ms := 0) dX10_bars_37 mv_X6_solve lk_X10_286 sh_477 rfl (Nat.le_of_ble_eq_true rfl) (Nat.le_of_ble_eq_true rfl) h (fun r σ hq _ => ?_)
      obtain ⟨x2, I2, rfl, rfl, h⟩ := hq
      change J _ _ _ _ _ _ _ [vI x2] _ _
      refine J_iconst dX10_bars_40 (ii_c rfl) ?_
      refine J_ic_eq (tgt := 46) dX10_bars_41 (by decide) (fun c => ?_) (fun c => ?_)
      · replace h := h.1 c
        refine J_iincN dX10_bars_46 rfl (by decide) h.1 ?_
        replace h := h.2
        refine J_goto (tgt := 14) dX10_bars_49 (by decide) ?_
        exact h
      · replace h := h.2 c
        refine J_iload_n dX10_bars_44 rfl rfl ?_
        exact J_reti dX10_bars_45 rfl h
set_option maxRecDepth 20000 in
set_option maxHeartbeats 2000000 in
theorem bk_X10_take_0 {d : Nat} {I : HI} {Q : Option AV → AH → Prop}   (h : CI mX10_allSaints d [vR 0] I (fun x1 I1 => CI mX6_solve d [vR 477, vI x1, vI 0] I1 (fun x2 I2 => ((x2 = (-1) → Q (some (vI (-1))) (mk I2)) ∧ (¬ (x2 = (-1)) → (((I2 2 2) ≠ 0 → CV mX9_keep d [vR 32] I2 (fun I3 => CV mX9_commit d [vR 32] I3 (fun I4 => CI mX6_carryOut d [vR 477] I4 (fun x5 I5 => Q (some (vI x2)) (mk I5))))) ∧ ((I2 2 2) = 0 → Q (some (vI (-1))) (mk I2)))))))) : J none mX10_take (d + 1) 0 0 0 [(0, vR 0)] [] (mk I) Q := by
  refine J_aload_n dX10_take_0 rfl rfl ?_
  refine J_getR dX10_take_1 ck_10 fw_X10_76 rfl sh_0 rr_0_9 ?_
  refine J_aload_n dX10_take_4 rfl rfl ?_
  refine J_callV (as := []) (mc1 := 0) (ms1 := 0) (mc := 0) (ms := 0) dX10_take_5 mv_X10_allSaints lk_X10_283 sh_0 rfl (Nat.le_of_ble_eq_true rfl) (Nat.le_of_ble_eq_true rfl) h (fun r σ hq _ => ?_)
  obtain ⟨x1, I1, rfl, rfl, h⟩ := hq
  change J _ _ _ _ _ _ _ [vI x1, vR 477] _ _
  refine J_iconst dX10_take_8 (ii_c rfl) ?_
  refine J_callV (as := [_, _]) (mc1 := 0) (ms1 := 0) (mc := 0) (ms := 0) dX10_take_9 mv_X6_solve lk_X10_286 sh_477 rfl (Nat.le_of_ble_eq_true rfl) (Nat.le_of_ble_eq_true rfl) h (fun r σ hq _ => ?_)
  obtain ⟨x2, I2, rfl, rfl, h⟩ := hq
  change J _ _ _ _ _ _ _ [vI x2] _ _
  refine J_istore_n dX10_take_12 rfl (by decide) ?_
  refine J_iload_n dX10_take_13 rfl rfl ?_
  refine J_iconst dX10_take_14 (ii_c rfl) ?_
  refine J_ic_eq (tgt := 30) dX10_take_15 (by decide) (fun c => ?_) (fun c => ?_)
  · replace h := h.1 c
    refine J_iconst dX10_take_30 (ii_c rfl) ?_
    exact J_reti dX10_take_31 rfl h
  · replace h := h.2 c
    refine J_aload_n dX10_take_18 rfl rfl ?_
    refine J_getR dX10_take_19 ck_10 fw_X10_10 rfl sh_0 rr_0_0 ?_
    refine J_getR dX10_take_22 ck_0 fw_X10_140 rfl sh_1 rr_1_0 ?_
    refine J_iconst dX10_take_25 (ii_c rfl) ?_
    refine J_iald dX10_take_26 sh_2 (by decide) (by decide) ?_
    refine J_if_ne (tgt := 32) dX10_take_27 (by decide) (fun c => ?_) (fun c => ?_)
    · replace h := h.1 c
      refine J_aload_n dX10_take_32 rfl rfl ?_
      refine J_getR dX10_take_33 ck_10 fw_X10_37 rfl sh_0 rr_0_4 ?_
      refine J_callV (as := []) (mc1 := 0) (ms1 := 0) (mc := 0) (ms := 0) dX10_take_36 mv_X9_keep lk_X10_293 sh_32 rfl (Nat.le_of_ble_eq_true rfl) (Nat.le_of_ble_eq_true rfl) h (fun r σ hq _ => ?_)
      obtain ⟨I3, rfl, rfl, h⟩ := hq
      change J _ _ _ _ _ _ _ [] _ _
      refine J_aload_n dX10_take_39 rfl rfl ?_
      refine J_getR dX10_take_40 ck_10 fw_X10_37 rfl sh_0 rr_0_4 ?_
      refine J_callV (as := []) (mc1 := 0) (ms1 := 0) (mc := 0) (ms := 0) dX10_take_43 mv_X9_commit lk_X10_296 sh_32 rfl (Nat.le_of_ble_eq_true rfl) (Nat.le_of_ble_eq_true rfl) h (fun r σ hq _ => ?_)
      obtain ⟨I4, rfl, rfl, h⟩ := hq
      change J _ _ _ _ _ _ _ [] _ _
      refine J_aload_n dX10_take_46 rfl rfl ?_
      refine J_getR dX10_take_47 ck_10 fw_X10_76 rfl sh_0 rr_0_9 ?_
      refine J_callV (as := []) (mc1 := 0) (ms1 := 0) (mc := 0) (ms := 0) dX10_take_50 mv_X6_carryOut lk_X10_299 sh_477 rfl (Nat.le_of_ble_eq_true rfl) (Nat.le_of_ble_eq_true rfl) h (fun r σ hq _ => ?_)
      obtain ⟨x5, I5, rfl, rfl, h⟩ := hq
      change J _ _ _ _ _ _ _ [vI x5] _ _
      refine J_pop dX10_take_53 rfl ?_
      refine J_iload_n dX10_take_54 rfl rfl ?_
      exact J_reti dX10_take_55 rfl h
    · replace h := h.2 c
      refine J_iconst dX10_take_30 (ii_c rfl) ?_
      exact J_reti dX10_take_31 rfl h
set_option maxRecDepth 20000 in
set_option maxHeartbeats 2000000 in
theorem bk_X10_mend_0 {d : Nat} {I : HI} {Q : Option AV → AH → Prop}   (h : CI mX10_allSaints d [vR 0] I (fun x1 I1 => CI mX6_solve d [vR 477, vI x1, vI 1] I1 (fun x2 I2 => ((x2 ≠ (-1) → CV mX9_keep d [vR 32] I2 (fun I3 => CI mX6_carryOut d [vR 477] I3 (fun x4 I4 => ((x4 ≤ 0 → Q (some (vI x4)) (mk I4)) ∧ (¬ (x4 ≤ 0) → CV mX9_commit d [vR 32] I4 (fun I5 => Q (some (vI x4)) (mk I5))))))) ∧ (x2 = (-1) → Q (some (vI (-1))) (mk I2)))))) : J none mX10_mend (d + 1) 0 0 0 [(0, vR 0)] [] (mk I) Q := by
  refine J_aload_n dX10_mend_0 rfl rfl ?_
  refine J_getR dX10_mend_1 ck_10 fw_X10_76 rfl sh_0 rr_0_9 ?_
  refine J_aload_n dX10_mend_4 rfl rfl ?_
  refine J_callV (as := []) (mc1 := 0) (ms1 := 0) (mc := 0) (ms := 0) dX10_mend_5 mv_X10_allSaints lk_X10_283 sh_0 rfl (Nat.le_of_ble_eq_true rfl) (Nat.le_of_ble_eq_true rfl) h (fun r σ hq _ => ?_)
  obtain ⟨x1, I1, rfl, rfl, h⟩ := hq
  change J _ _ _ _ _ _ _ [vI x1, vR 477] _ _
  refine J_iconst dX10_mend_8 (ii_c rfl) ?_
  refine J_callV (as := [_, _]) (mc1 := 0) (ms1 := 0) (mc := 0) (ms := 0) dX10_mend_9 mv_X6_solve lk_X10_286 sh_477 rfl (Nat.le_of_ble_eq_true rfl) (Nat.le_of_ble_eq_true rfl) h (fun r σ hq _ => ?_)
  obtain ⟨x2, I2, rfl, rfl, h⟩ := hq
  change J _ _ _ _ _ _ _ [vI x2] _ _
  refine J_iconst dX10_mend_12 (ii_c rfl) ?_
  refine J_ic_ne (tgt := 18) dX10_mend_13 (by decide) (fun c => ?_) (fun c => ?_)
  · replace h := h.1 c
    refine J_aload_n dX10_mend_18 rfl rfl ?_
    refine J_getR dX10_mend_19 ck_10 fw_X10_37 rfl sh_0 rr_0_4 ?_
    refine J_callV (as := []) (mc1 := 0) (ms1 := 0) (mc := 0) (ms := 0) dX10_mend_22 mv_X9_keep lk_X10_293 sh_32 rfl (Nat.le_of_ble_eq_true rfl) (Nat.le_of_ble_eq_true rfl) h (fun r σ hq _ => ?_)
    obtain ⟨I3, rfl, rfl, h⟩ := hq
    change J _ _ _ _ _ _ _ [] _ _
    refine J_aload_n dX10_mend_25 rfl rfl ?_
    refine J_getR dX10_mend_26 ck_10 fw_X10_76 rfl sh_0 rr_0_9 ?_
    refine J_callV (as := []) (mc1 := 0) (ms1 := 0) (mc := 0) (ms := 0) dX10_mend_29 mv_X6_carryOut lk_X10_299 sh_477 rfl (Nat.le_of_ble_eq_true rfl) (Nat.le_of_ble_eq_true rfl) h (fun r σ hq _ => ?_)
    obtain ⟨x4, I4, rfl, rfl, h⟩ := hq
    change J _ _ _ _ _ _ _ [vI x4] _ _
    refine J_istore_n dX10_mend_32 rfl (by decide) ?_
    refine J_iload_n dX10_mend_33 rfl rfl ?_
    refine J_if_le (tgt := 44) dX10_mend_34 (by decide) (fun c => ?_) (fun c => ?_)
    · replace h := h.1 c
      refine J_iload_n dX10_mend_44 rfl rfl ?_
      exact J_reti dX10_mend_45 rfl h
    · replace h := h.2 c
      refine J_aload_n dX10_mend_37 rfl rfl ?_
      refine J_getR dX10_mend_38 ck_10 fw_X10_37 rfl sh_0 rr_0_4 ?_
      refine J_callV (as := []) (mc1 := 0) (ms1 := 0) (mc := 0) (ms := 0) dX10_mend_41 mv_X9_commit lk_X10_296 sh_32 rfl (Nat.le_of_ble_eq_true rfl) (Nat.le_of_ble_eq_true rfl) h (fun r σ hq _ => ?_)
      obtain ⟨I5, rfl, rfl, h⟩ := hq
      change J _ _ _ _ _ _ _ [] _ _
      refine J_iload_n dX10_mend_44 rfl rfl ?_
      exact J_reti dX10_mend_45 rfl h
  · replace h := h.2 c
    refine J_iconst dX10_mend_16 (ii_c rfl) ?_
    exact J_reti dX10_mend_17 rfl h
set_option maxRecDepth 20000 in
set_option maxHeartbeats 2000000 in
theorem bk_X10_turn_0 {d : Nat} {I : HI} {Q : Option AV → AH → Prop}   (h : CV mX9_keep d [vR 32] I (fun I1 => J none mX10_turn (d + 1) 0 0 11 [(0, vR 0), (1, vI 0), (2, vI 0)] [] (mk I1) Q)) : J none mX10_turn (d + 1) 0 0 0 [(0, vR 0)] [] (mk I) Q := by
  refine J_aload_n dX10_turn_0 rfl rfl ?_
  refine J_getR dX10_turn_1 ck_10 fw_X10_37 rfl sh_0 rr_0_4 ?_
  refine J_callV (as := []) (mc1 := 0) (ms1 := 0) (mc := 0) (ms := 0) dX10_turn_4 mv_X9_keep lk_X10_293 sh_32 rfl (Nat.le_of_ble_eq_true rfl) (Nat.le_of_ble_eq_true rfl) h (fun r σ hq _ => ?_)
  obtain ⟨I1, rfl, rfl, h⟩ := hq
  change J _ _ _ _ _ _ _ [] _ _
  refine J_iconst dX10_turn_7 (ii_c rfl) ?_
  refine J_istore_n dX10_turn_8 rfl (by decide) ?_
  refine J_iconst dX10_turn_9 (ii_c rfl) ?_
  refine J_istore_n dX10_turn_10 rfl (by decide) ?_
  exact h
set_option maxRecDepth 20000 in
set_option maxHeartbeats 2000000 in
theorem bk_X10_turn_11 {d : Nat} {I : HI} {Q : Option AV → AH → Prop} {a1 : Int} {a2 : Int}  (h : (((I 2 2) ≤ a2 → ((a1 ≤ 0 → Q (some (vI a1)) (mk I)) ∧ (¬ (a1 ≤ 0) → CV mX9_commit d [vR 32] I (fun I1 => Q (some (vI a1)) (mk I1))))) ∧ (¬ ((I 2 2) ≤ a2) → CI mX6_takeTurn d [vR 477, vI a2] I (fun x2 I2 => ((x2 = 0 → (-2147483648 ≤ a2 + 1 ∧ a2 + 1 ≤ 2147483647) ∧ J none mX10_turn (d + 1) 0 0 11 [(0, vR 0), (1, vI a1), (2, vI (a2 + 1))] [] (mk I2) Q) ∧ (¬ (x2 = 0) → (-2147483648 ≤ a1 + 1 ∧ a1 + 1 ≤ 2147483647) ∧ (-2147483648 ≤ a2 + 1 ∧ a2 + 1 ≤ 2147483647) ∧ J none mX10_turn (d + 1) 0 0 11 [(0, vR 0), (1, vI (a1 + 1)), (2, vI (a2 + 1))] [] (mk I2) Q)))))) : J none mX10_turn (d + 1) 0 0 11 [(0, vR 0), (1, vI a1), (2, vI a2)] [] (mk I) Q := by
  refine J_iload_n dX10_turn_11 rfl rfl ?_
  refine J_aload_n dX10_turn_12 rfl rfl ?_
  refine J_getR dX10_turn_13 ck_10 fw_X10_10 rfl sh_0 rr_0_0 ?_
  refine J_getR dX10_turn_16 ck_0 fw_X10_140 rfl sh_1 rr_1_0 ?_
  refine J_iconst dX10_turn_19 (ii_c rfl) ?_
  refine J_iald dX10_turn_20 sh_2 (by decide) (by decide) ?_
  refine J_ic_ge (tgt := 44) dX10_turn_21 (by decide) (fun c => ?_) (fun c => ?_)
  · replace h := h.1 c
    refine J_iload_n dX10_turn_44 rfl rfl ?_
    refine J_if_le (tgt := 55) dX10_turn_45 (by decide) (fun c => ?_) (fun c => ?_)
    · replace h := h.1 c
      refine J_iload_n dX10_turn_55 rfl rfl ?_
      exact J_reti dX10_turn_56 rfl h
    · replace h := h.2 c
      refine J_aload_n dX10_turn_48 rfl rfl ?_
      refine J_getR dX10_turn_49 ck_10 fw_X10_37 rfl sh_0 rr_0_4 ?_
      refine J_callV (as := []) (mc1 := 0) (ms1 := 0) (mc := 0) (ms := 0) dX10_turn_52 mv_X9_commit lk_X10_296 sh_32 rfl (Nat.le_of_ble_eq_true rfl) (Nat.le_of_ble_eq_true rfl) h (fun r σ hq _ => ?_)
      obtain ⟨I1, rfl, rfl, h⟩ := hq
      change J _ _ _ _ _ _ _ [] _ _
      refine J_iload_n dX10_turn_55 rfl rfl ?_
      exact J_reti dX10_turn_56 rfl h
  · replace h := h.2 c
    refine J_aload_n dX10_turn_24 rfl rfl ?_
    refine J_getR dX10_turn_25 ck_10 fw_X10_76 rfl sh_0 rr_0_9 ?_
    refine J_iload_n dX10_turn_28 rfl rfl ?_
    refine J_callV (as := [_]) (mc1 := 0) (ms1 := 0) (mc := 0) (ms := 0) dX10_turn_29 mv_X6_takeTurn lk_X10_302 sh_477 rfl (Nat.le_of_ble_eq_true rfl) (Nat.le_of_ble_eq_true rfl) h (fun r σ hq _ => ?_)
    obtain ⟨x2, I2, rfl, rfl, h⟩ := hq
    change J _ _ _ _ _ _ _ [vI x2] _ _
    refine J_if_eq (tgt := 38) dX10_turn_32 (by decide) (fun c => ?_) (fun c => ?_)
    · replace h := h.1 c
      refine J_iincN dX10_turn_38 rfl (by decide) h.1 ?_
      replace h := h.2
      refine J_goto (tgt := 11) dX10_turn_41 (by decide) ?_
      exact h
    · replace h := h.2 c
      refine J_iincN dX10_turn_35 rfl (by decide) h.1 ?_
      replace h := h.2
      refine J_iincN dX10_turn_38 rfl (by decide) h.1 ?_
      replace h := h.2
      refine J_goto (tgt := 11) dX10_turn_41 (by decide) ?_
      exact h
set_option maxRecDepth 20000 in
set_option maxHeartbeats 2000000 in
theorem bk_X10_lots_0 {d : Nat} {I : HI} {Q : Option AV → AH → Prop} {a1 : Int}  (h : CI mX10_isSaint d [vR 0, vI a1] I (fun x1 I1 => ((x1 ≠ 0 → J none mX10_lots (d + 1) 0 0 14 [(0, vR 0), (1, vI a1), (2, vI 0), (3, vI 0)] [] (mk I1) Q) ∧ (x1 = 0 → Q (some (vI (-1))) (mk I1))))) : J none mX10_lots (d + 1) 0 0 0 [(0, vR 0), (1, vI a1)] [] (mk I) Q := by
  refine J_aload_n dX10_lots_0 rfl rfl ?_
  refine J_iload_n dX10_lots_1 rfl rfl ?_
  refine J_callV (as := [_]) (mc1 := 0) (ms1 := 0) (mc := 0) (ms := 0) dX10_lots_2 mv_X10_isSaint lk_X10_184 sh_0 rfl (Nat.le_of_ble_eq_true rfl) (Nat.le_of_ble_eq_true rfl) h (fun r σ hq _ => ?_)
  obtain ⟨x1, I1, rfl, rfl, h⟩ := hq
  change J _ _ _ _ _ _ _ [vI x1] _ _
  refine J_if_ne (tgt := 10) dX10_lots_5 (by decide) (fun c => ?_) (fun c => ?_)
  · replace h := h.1 c
    refine J_iconst dX10_lots_10 (ii_c rfl) ?_
    refine J_istore_n dX10_lots_11 rfl (by decide) ?_
    refine J_iconst dX10_lots_12 (ii_c rfl) ?_
    refine J_istore_n dX10_lots_13 rfl (by decide) ?_
    exact h
  · replace h := h.2 c
    refine J_iconst dX10_lots_8 (ii_c rfl) ?_
    exact J_reti dX10_lots_9 rfl h
set_option maxRecDepth 20000 in
set_option maxHeartbeats 2000000 in
theorem bk_X10_lots_14 {d : Nat} {I : HI} {Q : Option AV → AH → Prop} {a1 : Int} {a2 : Int} {a3 : Int}  (h : ((256 ≤ a3 → Q (some (vI a2)) (mk I)) ∧ (¬ (256 ≤ a3) → CI mX6_drawOrder d [vR 477, vI a3] I (fun x1 I1 => ((x1 = 0 → (-2147483648 ≤ a3 + 1 ∧ a3 + 1 ≤ 2147483647) ∧ J none mX10_lots (d + 1) 0 0 14 [(0, vR 0), (1, vI a1), (2, vI a2), (3, vI (a3 + 1))] [] (mk I1) Q) ∧ (¬ (x1 = 0) → CI mX6_luckyIn d [vR 477, vI a1] I1 (fun x2 I2 => ((x2 = 0 → (-2147483648 ≤ a3 + 1 ∧ a3 + 1 ≤ 2147483647) ∧ J none mX10_lots (d + 1) 0 0 14 [(0, vR 0), (1, vI a1), (2, vI a2), (3, vI (a3 + 1))] [] (mk I2) Q) ∧ (¬ (x2 = 0) → (-2147483648 ≤ a2 + 1 ∧ a2 + 1 ≤ 2147483647) ∧ (-2147483648 ≤ a3 + 1 ∧ a3 + 1 ≤ 2147483647) ∧ J none mX10_lots (d + 1) 0 0 14 [(0, vR 0), (1, vI a1), (2, vI (a2 + 1)), (3, vI (a3 + 1))] [] (mk I2) Q))))))))) : J none mX10_lots (d + 1) 0 0 14 [(0, vR 0), (1, vI a1), (2, vI a2), (3, vI a3)] [] (mk I) Q := by
  refine J_iload_n dX10_lots_14 rfl rfl ?_
  refine J_sipush dX10_lots_15 (ii_c rfl) (by decide) ?_
  refine J_ic_ge (tgt := 52) dX10_lots_18 (by decide) (fun c => ?_) (fun c => ?_)
  · replace h := h.1 c
    refine J_iload_n dX10_lots_52 rfl rfl ?_
    exact J_reti dX10_lots_53 rfl h
  · replace h := h.2 c
    refine J_aload_n dX10_lots_21 rfl rfl ?_
    refine J_getR dX10_lots_22 ck_10 fw_X10_76 rfl sh_0 rr_0_9 ?_
    refine J_iload_n dX10_lots_25 rfl rfl ?_
    refine J_callV (as := [_]) (mc1 := 0) (ms1 := 0) (mc := 0) (ms := 0) dX10_lots_26 mv_X6_drawOrder lk_X10_305 sh_477 rfl (Nat.le_of_ble_eq_true rfl) (Nat.le_of_ble_eq_true rfl) h (fun r σ hq _ => ?_)
    obtain ⟨x1, I1, rfl, rfl, h⟩ := hq
    change J _ _ _ _ _ _ _ [vI x1] _ _
    refine J_if_eq (tgt := 46) dX10_lots_29 (by decide) (fun c => ?_) (fun c => ?_)
    · replace h := h.1 c
      refine J_iincN dX10_lots_46 rfl (by decide) h.1 ?_
      replace h := h.2
      refine J_goto (tgt := 14) dX10_lots_49 (by decide) ?_
      exact h
    · replace h := h.2 c
      refine J_aload_n dX10_lots_32 rfl rfl ?_
      refine J_getR dX10_lots_33 ck_10 fw_X10_76 rfl sh_0 rr_0_9 ?_
      refine J_iload_n dX10_lots_36 rfl rfl ?_
      refine J_callV (as := [_]) (mc1 := 0) (ms1 := 0) (mc := 0) (ms := 0) dX10_lots_37 mv_X6_luckyIn lk_X10_308 sh_477 rfl (Nat.le_of_ble_eq_true rfl) (Nat.le_of_ble_eq_true rfl) h (fun r σ hq _ => ?_)
      obtain ⟨x2, I2, rfl, rfl, h⟩ := hq
      change J _ _ _ _ _ _ _ [vI x2] _ _
      refine J_if_eq (tgt := 46) dX10_lots_40 (by decide) (fun c => ?_) (fun c => ?_)
      · replace h := h.1 c
        refine J_iincN dX10_lots_46 rfl (by decide) h.1 ?_
        replace h := h.2
        refine J_goto (tgt := 14) dX10_lots_49 (by decide) ?_
        exact h
      · replace h := h.2 c
        refine J_iincN dX10_lots_43 rfl (by decide) h.1 ?_
        replace h := h.2
        refine J_iincN dX10_lots_46 rfl (by decide) h.1 ?_
        replace h := h.2
        refine J_goto (tgt := 14) dX10_lots_49 (by decide) ?_
        exact h
set_option maxRecDepth 20000 in
set_option maxHeartbeats 2000000 in
theorem bk_X10_dawn_0 {d : Nat} {I : HI} {Q : Option AV → AH → Prop} {a1 : Int} {a2 : Int} {a3 : Int}  (h : ((a1 < 0 → Q (some (vI (-1))) (mk I)) ∧ (¬ (a1 < 0) → (((oSl 1 (I 2 1)) ≤ a1 → Q (some (vI (-1))) (mk I)) ∧ (¬ ((oSl 1 (I 2 1)) ≤ a1) → CI mX10_isMinute d [vR 0, vI a2] I (fun x1 I1 => ((x1 ≠ 0 → ((a3 < 0 → Q (some (vI (-1))) (mk I1)) ∧ (¬ (a3 < 0) → ((2 < a3 → Q (some (vI (-1))) (mk I1)) ∧ (¬ (2 < a3) → (((I1 2 2) ≤ 3 → CV mX2_look d [vR 482, vI a1, vI a2] I1 (fun I2 => ((a3 = 0 → Q (some (vI (I2 482 7))) (mk I2)) ∧ (a3 = 1 → (((I2 482 7) ≠ 0 → Q (some (vI (I2 482 8))) (mk I2)) ∧ ((I2 482 7) = 0 → Q (some (vI 0)) (mk I2)))) ∧ ((a3 ≠ 0 ∧ a3 ≠ 1) → (((I2 482 7) ≠ 0 → CI mX10_allSaints d [vR 0] I2 (fun x3 I3 => Q (some (vI (oA x3 (oX (I3 482 9) (-1))))) (mk I3))) ∧ ((I2 482 7) = 0 → Q (some (vI 0)) (mk I2))))))) ∧ (¬ ((I1 2 2) ≤ 3) → Q (some (vI (-1))) (mk I1)))))))) ∧ (x1 = 0 → Q (some (vI (-1))) (mk I1))))))))) : J none mX10_dawn (d + 1) 0 0 0 [(0, vR 0), (1, vI a1), (2, vI a2), (3, vI a3)] [] (mk I) Q := by
  refine J_iload_n dX10_dawn_0 rfl rfl ?_
  refine J_if_lt (tgt := 27) dX10_dawn_1 (by decide) (fun c => ?_) (fun c => ?_)
  · replace h := h.1 c
    refine J_iconst dX10_dawn_27 (ii_c rfl) ?_
    exact J_reti dX10_dawn_28 rfl h
  · replace h := h.2 c
    refine J_iload_n dX10_dawn_4 rfl rfl ?_
    refine J_iconst dX10_dawn_5 (ii_c rfl) ?_
    refine J_aload_n dX10_dawn_6 rfl rfl ?_
    refine J_getR dX10_dawn_7 ck_10 fw_X10_10 rfl sh_0 rr_0_0 ?_
    refine J_getR dX10_dawn_10 ck_0 fw_X10_140 rfl sh_1 rr_1_0 ?_
    refine J_iconst dX10_dawn_13 (ii_c rfl) ?_
    refine J_iald dX10_dawn_14 sh_2 (by decide) (by decide) ?_
    refine J_ishl dX10_dawn_15 ?_
    refine J_ic_ge (tgt := 27) dX10_dawn_16 (by decide) (fun c => ?_) (fun c => ?_)
    · replace h := h.1 c
      refine J_iconst dX10_dawn_27 (ii_c rfl) ?_
      exact J_reti dX10_dawn_28 rfl h
    · replace h := h.2 c
      refine J_aload_n dX10_dawn_19 rfl rfl ?_
      refine J_iload_n dX10_dawn_20 rfl rfl ?_
      refine J_callV (as := [_]) (mc1 := 0) (ms1 := 0) (mc := 0) (ms := 0) dX10_dawn_21 mv_X10_isMinute lk_X10_218 sh_0 rfl (Nat.le_of_ble_eq_true rfl) (Nat.le_of_ble_eq_true rfl) h (fun r σ hq _ => ?_)
      obtain ⟨x1, I1, rfl, rfl, h⟩ := hq
      change J _ _ _ _ _ _ _ [vI x1] _ _
      refine J_if_ne (tgt := 29) dX10_dawn_24 (by decide) (fun c => ?_) (fun c => ?_)
      · replace h := h.1 c
        refine J_iload_n dX10_dawn_29 rfl rfl ?_
        refine J_if_lt (tgt := 51) dX10_dawn_30 (by decide) (fun c => ?_) (fun c => ?_)
        · replace h := h.1 c
          refine J_iconst dX10_dawn_51 (ii_c rfl) ?_
          exact J_reti dX10_dawn_52 rfl h
        · replace h := h.2 c
          refine J_iload_n dX10_dawn_33 rfl rfl ?_
          refine J_iconst dX10_dawn_34 (ii_c rfl) ?_
          refine J_ic_gt (tgt := 51) dX10_dawn_35 (by decide) (fun c => ?_) (fun c => ?_)
          · replace h := h.1 c
            refine J_iconst dX10_dawn_51 (ii_c rfl) ?_
            exact J_reti dX10_dawn_52 rfl h
          · replace h := h.2 c
            refine J_aload_n dX10_dawn_38 rfl rfl ?_
            refine J_getR dX10_dawn_39 ck_10 fw_X10_10 rfl sh_0 rr_0_0 ?_
            refine J_getR dX10_dawn_42 ck_0 fw_X10_140 rfl sh_1 rr_1_0 ?_
            refine J_iconst dX10_dawn_45 (ii_c rfl) ?_
            refine J_iald dX10_dawn_46 sh_2 (by decide) (by decide) ?_
            refine J_iconst dX10_dawn_47 (ii_c rfl) ?_
            refine J_ic_le (tgt := 53) dX10_dawn_48 (by decide) (fun c => ?_) (fun c => ?_)
            · replace h := h.1 c
              refine J_aload_n dX10_dawn_53 rfl rfl ?_
              refine J_getR dX10_dawn_54 ck_10 fw_X10_85 rfl sh_0 rr_0_10 ?_
              refine J_iload_n dX10_dawn_57 rfl rfl ?_
              refine J_iload_n dX10_dawn_58 rfl rfl ?_
              refine J_callV (as := [_, _]) (mc1 := 0) (ms1 := 0) (mc := 0) (ms := 0) dX10_dawn_59 mv_X2_look lk_X10_311 sh_482 rfl (Nat.le_of_ble_eq_true rfl) (Nat.le_of_ble_eq_true rfl) h (fun r σ hq _ => ?_)
              obtain ⟨I2, rfl, rfl, h⟩ := hq
              change J _ _ _ _ _ _ _ [] _ _
              refine J_iload_n dX10_dawn_62 rfl rfl ?_
              rcases (show a3 = 0 ∨ a3 = 1 ∨ (a3 ≠ 0 ∧ a3 ≠ 1) by omega) with c | c | c
              · replace h := h.1 c
                refine J_look (tgt := 88) (off := 25) dX10_dawn_63 (by decide) (by rw [c]; rfl) (by decide) ?_
                refine J_aload_n dX10_dawn_88 rfl rfl ?_
                refine J_getR dX10_dawn_89 ck_10 fw_X10_85 rfl sh_0 rr_0_10 ?_
                refine J_getI dX10_dawn_92 ck_2 fw_X10_315 rfl sh_482 ?_
                exact J_reti dX10_dawn_95 rfl h
              · replace h := h.2.1 c
                refine J_look (tgt := 96) (off := 33) dX10_dawn_63 (by decide) (by rw [c]; rfl) (by decide) ?_
                refine J_aload_n dX10_dawn_96 rfl rfl ?_
                refine J_getR dX10_dawn_97 ck_10 fw_X10_85 rfl sh_0 rr_0_10 ?_
                refine J_getI dX10_dawn_100 ck_2 fw_X10_315 rfl sh_482 ?_
                refine J_if_ne (tgt := 110) dX10_dawn_103 (by decide) (fun c => ?_) (fun c => ?_)
                · replace h := h.1 c
                  refine J_aload_n dX10_dawn_110 rfl rfl ?_
                  refine J_getR dX10_dawn_111 ck_10 fw_X10_85 rfl sh_0 rr_0_10 ?_
                  refine J_getI dX10_dawn_114 ck_2 fw_X10_318 rfl sh_482 ?_
                  exact J_reti dX10_dawn_117 rfl h
                · replace h := h.2 c
                  refine J_iconst dX10_dawn_106 (ii_c rfl) ?_
                  refine J_goto (tgt := 117) dX10_dawn_107 (by decide) ?_
                  exact J_reti dX10_dawn_117 rfl h
              · replace h := h.2.2 c
                refine J_look (tgt := 118) (off := 55) dX10_dawn_63 (by decide) (by simp [Op.lookupswitch.offset, c]) (by decide) ?_
                refine J_aload_n dX10_dawn_118 rfl rfl ?_
                refine J_getR dX10_dawn_119 ck_10 fw_X10_85 rfl sh_0 rr_0_10 ?_
                refine J_getI dX10_dawn_122 ck_2 fw_X10_315 rfl sh_482 ?_
                refine J_if_ne (tgt := 132) dX10_dawn_125 (by decide) (fun c => ?_) (fun c => ?_)
                · replace h := h.1 c
                  refine J_aload_n dX10_dawn_132 rfl rfl ?_
                  refine J_callV (as := []) (mc1 := 0) (ms1 := 0) (mc := 0) (ms := 0) dX10_dawn_133 mv_X10_allSaints lk_X10_283 sh_0 rfl (Nat.le_of_ble_eq_true rfl) (Nat.le_of_ble_eq_true rfl) h (fun r σ hq _ => ?_)
                  obtain ⟨x3, I3, rfl, rfl, h⟩ := hq
                  change J _ _ _ _ _ _ _ [vI x3] _ _
                  refine J_aload_n dX10_dawn_136 rfl rfl ?_
                  refine J_getR dX10_dawn_137 ck_10 fw_X10_85 rfl sh_0 rr_0_10 ?_
                  refine J_getI dX10_dawn_140 ck_2 fw_X10_321 rfl sh_482 ?_
                  refine J_iconst dX10_dawn_143 (ii_c rfl) ?_
                  refine J_ixor dX10_dawn_144 ?_
                  refine J_iand dX10_dawn_145 ?_
                  exact J_reti dX10_dawn_146 rfl h
                · replace h := h.2 c
                  refine J_iconst dX10_dawn_128 (ii_c rfl) ?_
                  refine J_goto (tgt := 146) dX10_dawn_129 (by decide) ?_
                  exact J_reti dX10_dawn_146 rfl h
            · replace h := h.2 c
              refine J_iconst dX10_dawn_51 (ii_c rfl) ?_
              exact J_reti dX10_dawn_52 rfl h
      · replace h := h.2 c
        refine J_iconst dX10_dawn_27 (ii_c rfl) ?_
        exact J_reti dX10_dawn_28 rfl h
set_option maxRecDepth 20000 in
set_option maxHeartbeats 2000000 in
theorem bk_X10_image_0 {d : Nat} {I : HI} {Q : Option AV → AH → Prop}   (h : CI mX9_draw d [vR 32, vR 488] I (fun x1 I1 => (∀ I2 : HI, I2 = up I1 0 13 x1 → Q (some (vI (I2 0 13))) (mk I2)))) : J none mX10_image (d + 1) 0 0 0 [(0, vR 0)] [] (mk I) Q := by
  refine J_aload_n dX10_image_0 rfl rfl ?_
  refine J_aload_n dX10_image_1 rfl rfl ?_
  refine J_getR dX10_image_2 ck_10 fw_X10_37 rfl sh_0 rr_0_4 ?_
  refine J_aload_n dX10_image_5 rfl rfl ?_
  refine J_getR dX10_image_6 ck_10 fw_X10_89 rfl sh_0 rr_0_11 ?_
  refine J_callV (as := [_]) (mc1 := 0) (ms1 := 0) (mc := 0) (ms := 0) dX10_image_9 mv_X9_draw lk_X10_324 sh_32 rfl (Nat.le_of_ble_eq_true rfl) (Nat.le_of_ble_eq_true rfl) h (fun r σ hq _ => ?_)
  obtain ⟨x1, I1, rfl, rfl, h⟩ := hq
  change J _ _ _ _ _ _ _ [vI x1, vR 0] _ _
  refine J_putI dX10_image_12 ck_10 fw_X10_328 rfl rfl (Or.inl rfl) sh_0 ?_
  replace h := h _ rfl
  refine J_aload_n dX10_image_15 rfl rfl ?_
  refine J_getI dX10_image_16 ck_10 fw_X10_328 rfl sh_0 ?_
  exact J_reti dX10_image_19 rfl h
set_option maxRecDepth 20000 in
set_option maxHeartbeats 2000000 in
theorem bk_X10_octet_0 {d : Nat} {I : HI} {Q : Option AV → AH → Prop} {a1 : Int}  (h : ((a1 < 0 → Q (some (vI (-1))) (mk I)) ∧ (¬ (a1 < 0) → ((a1 < (I 0 13) → ((0 : Int) ≤ a1 ∧ (a1 : Int) < 104) ∧ Q (some (vI (I 488 a1.toNat))) (mk I)) ∧ (¬ (a1 < (I 0 13)) → Q (some (vI (-1))) (mk I)))))) : J none mX10_octet (d + 1) 0 0 0 [(0, vR 0), (1, vI a1)] [] (mk I) Q := by
  refine J_iload_n dX10_octet_0 rfl rfl ?_
  refine J_if_lt (tgt := 12) dX10_octet_1 (by decide) (fun c => ?_) (fun c => ?_)
  · replace h := h.1 c
    refine J_iconst dX10_octet_12 (ii_c rfl) ?_
    refine J_goto (tgt := 22) dX10_octet_13 (by decide) ?_
    exact J_reti dX10_octet_22 rfl h
  · replace h := h.2 c
    refine J_iload_n dX10_octet_4 rfl rfl ?_
    refine J_aload_n dX10_octet_5 rfl rfl ?_
    refine J_getI dX10_octet_6 ck_10 fw_X10_328 rfl sh_0 ?_
    refine J_ic_lt (tgt := 16) dX10_octet_9 (by decide) (fun c => ?_) (fun c => ?_)
    · replace h := h.1 c
      refine J_aload_n dX10_octet_16 rfl rfl ?_
      refine J_getR dX10_octet_17 ck_10 fw_X10_89 rfl sh_0 rr_0_11 ?_
      refine J_iload_n dX10_octet_20 rfl rfl ?_
      refine J_iald dX10_octet_21 sh_488 h.1.1 h.1.2 ?_
      replace h := h.2
      exact J_reti dX10_octet_22 rfl h
    · replace h := h.2 c
      refine J_iconst dX10_octet_12 (ii_c rfl) ?_
      refine J_goto (tgt := 22) dX10_octet_13 (by decide) ?_
      exact J_reti dX10_octet_22 rfl h
set_option maxRecDepth 20000 in
set_option maxHeartbeats 2000000 in
theorem bk_X10_back_0 {d : Nat} {I : HI} {Q : Option AV → AH → Prop}   (h : (∀ I1 : HI, I1 = up I 0 12 0 → CI mX9_accept d [vR 32, vR 27, vI (I 0 12)] I1 (fun x1 I2 => (x1 = 0 ∨ x1 = 1) ∧ Q (some (vI x1)) (mk I2)))) : J none mX10_back (d + 1) 0 0 0 [(0, vR 0)] [] (mk I) Q := by
  refine J_aload_n dX10_back_0 rfl rfl ?_
  refine J_getI dX10_back_1 ck_10 fw_X10_102 rfl sh_0 ?_
  refine J_istore_n dX10_back_4 rfl (by decide) ?_
  refine J_aload_n dX10_back_5 rfl rfl ?_
  refine J_iconst dX10_back_6 (ii_c rfl) ?_
  refine J_putI dX10_back_7 ck_10 fw_X10_102 rfl rfl (Or.inl rfl) sh_0 ?_
  replace h := h _ rfl
  refine J_aload_n dX10_back_10 rfl rfl ?_
  refine J_getR dX10_back_11 ck_10 fw_X10_37 rfl sh_0 rr_0_4 ?_
  refine J_aload_n dX10_back_14 rfl rfl ?_
  refine J_getR dX10_back_15 ck_10 fw_X10_19 rfl sh_0 rr_0_2 ?_
  refine J_iload_n dX10_back_18 rfl rfl ?_
  refine J_callV (as := [_, _]) (mc1 := 0) (ms1 := 0) (mc := 0) (ms := 0) dX10_back_19 mv_X9_accept lk_X10_331 sh_32 rfl (Nat.le_of_ble_eq_true rfl) (Nat.le_of_ble_eq_true rfl) h (fun r σ hq _ => ?_)
  obtain ⟨x1, I2, rfl, rfl, h⟩ := hq
  change J _ _ _ _ _ _ _ [vI x1] _ _
  exact J_retz dX10_back_22 rfl h.1 h.2
set_option maxRecDepth 20000 in
set_option maxHeartbeats 2000000 in
theorem bk_X10_isCorner_0 {d : Nat} {I : HI} {Q : Option AV → AH → Prop} {a1 : Int}  (h : ((a1 < 0 → Q (some (vI 0)) (mk I)) ∧ (¬ (a1 < 0) → (((I 2 0) ≤ a1 → Q (some (vI 0)) (mk I)) ∧ (¬ ((I 2 0) ≤ a1) → Q (some (vI 1)) (mk I)))))) : J none mX10_isCorner (d + 1) 0 0 0 [(0, vR 0), (1, vI a1)] [] (mk I) Q := by
  refine J_iload_n dX10_isCorner_0 rfl rfl ?_
  refine J_if_lt (tgt := 21) dX10_isCorner_1 (by decide) (fun c => ?_) (fun c => ?_)
  · replace h := h.1 c
    refine J_iconst dX10_isCorner_21 (ii_c rfl) ?_
    exact J_retz dX10_isCorner_22 rfl (Or.inl rfl) h
  · replace h := h.2 c
    refine J_iload_n dX10_isCorner_4 rfl rfl ?_
    refine J_aload_n dX10_isCorner_5 rfl rfl ?_
    refine J_getR dX10_isCorner_6 ck_10 fw_X10_10 rfl sh_0 rr_0_0 ?_
    refine J_getR dX10_isCorner_9 ck_0 fw_X10_140 rfl sh_1 rr_1_0 ?_
    refine J_iconst dX10_isCorner_12 (ii_c rfl) ?_
    refine J_iald dX10_isCorner_13 sh_2 (by decide) (by decide) ?_
    refine J_ic_ge (tgt := 21) dX10_isCorner_14 (by decide) (fun c => ?_) (fun c => ?_)
    · replace h := h.1 c
      refine J_iconst dX10_isCorner_21 (ii_c rfl) ?_
      exact J_retz dX10_isCorner_22 rfl (Or.inl rfl) h
    · replace h := h.2 c
      refine J_iconst dX10_isCorner_17 (ii_c rfl) ?_
      refine J_goto (tgt := 22) dX10_isCorner_18 (by decide) ?_
      exact J_retz dX10_isCorner_22 rfl (Or.inr rfl) h
set_option maxRecDepth 20000 in
set_option maxHeartbeats 2000000 in
theorem bk_X10_isLane_0 {d : Nat} {I : HI} {Q : Option AV → AH → Prop} {a1 : Int}  (h : ((a1 < 0 → Q (some (vI 0)) (mk I)) ∧ (¬ (a1 < 0) → (((I 2 1) ≤ a1 → Q (some (vI 0)) (mk I)) ∧ (¬ ((I 2 1) ≤ a1) → Q (some (vI 1)) (mk I)))))) : J none mX10_isLane (d + 1) 0 0 0 [(0, vR 0), (1, vI a1)] [] (mk I) Q := by
  refine J_iload_n dX10_isLane_0 rfl rfl ?_
  refine J_if_lt (tgt := 21) dX10_isLane_1 (by decide) (fun c => ?_) (fun c => ?_)
  · replace h := h.1 c
    refine J_iconst dX10_isLane_21 (ii_c rfl) ?_
    exact J_retz dX10_isLane_22 rfl (Or.inl rfl) h
  · replace h := h.2 c
    refine J_iload_n dX10_isLane_4 rfl rfl ?_
    refine J_aload_n dX10_isLane_5 rfl rfl ?_
    refine J_getR dX10_isLane_6 ck_10 fw_X10_10 rfl sh_0 rr_0_0 ?_
    refine J_getR dX10_isLane_9 ck_0 fw_X10_140 rfl sh_1 rr_1_0 ?_
    refine J_iconst dX10_isLane_12 (ii_c rfl) ?_
    refine J_iald dX10_isLane_13 sh_2 (by decide) (by decide) ?_
    refine J_ic_ge (tgt := 21) dX10_isLane_14 (by decide) (fun c => ?_) (fun c => ?_)
    · replace h := h.1 c
      refine J_iconst dX10_isLane_21 (ii_c rfl) ?_
      exact J_retz dX10_isLane_22 rfl (Or.inl rfl) h
    · replace h := h.2 c
      refine J_iconst dX10_isLane_17 (ii_c rfl) ?_
      refine J_goto (tgt := 22) dX10_isLane_18 (by decide) ?_
      exact J_retz dX10_isLane_22 rfl (Or.inr rfl) h
set_option maxRecDepth 20000 in
set_option maxHeartbeats 2000000 in
theorem bk_X10_isSaint_0 {d : Nat} {I : HI} {Q : Option AV → AH → Prop} {a1 : Int}  (h : ((a1 < 0 → Q (some (vI 0)) (mk I)) ∧ (¬ (a1 < 0) → (((I 2 2) ≤ a1 → Q (some (vI 0)) (mk I)) ∧ (¬ ((I 2 2) ≤ a1) → Q (some (vI 1)) (mk I)))))) : J none mX10_isSaint (d + 1) 0 0 0 [(0, vR 0), (1, vI a1)] [] (mk I) Q := by
  refine J_iload_n dX10_isSaint_0 rfl rfl ?_
  refine J_if_lt (tgt := 21) dX10_isSaint_1 (by decide) (fun c => ?_) (fun c => ?_)
  · replace h := h.1 c
    refine J_iconst dX10_isSaint_21 (ii_c rfl) ?_
    exact J_retz dX10_isSaint_22 rfl (Or.inl rfl) h
  · replace h := h.2 c
    refine J_iload_n dX10_isSaint_4 rfl rfl ?_
    refine J_aload_n dX10_isSaint_5 rfl rfl ?_
    refine J_getR dX10_isSaint_6 ck_10 fw_X10_10 rfl sh_0 rr_0_0 ?_
    refine J_getR dX10_isSaint_9 ck_0 fw_X10_140 rfl sh_1 rr_1_0 ?_
    refine J_iconst dX10_isSaint_12 (ii_c rfl) ?_
    refine J_iald dX10_isSaint_13 sh_2 (by decide) (by decide) ?_
    refine J_ic_ge (tgt := 21) dX10_isSaint_14 (by decide) (fun c => ?_) (fun c => ?_)
    · replace h := h.1 c
      refine J_iconst dX10_isSaint_21 (ii_c rfl) ?_
      exact J_retz dX10_isSaint_22 rfl (Or.inl rfl) h
    · replace h := h.2 c
      refine J_iconst dX10_isSaint_17 (ii_c rfl) ?_
      refine J_goto (tgt := 22) dX10_isSaint_18 (by decide) ?_
      exact J_retz dX10_isSaint_22 rfl (Or.inr rfl) h
set_option maxRecDepth 20000 in
set_option maxHeartbeats 2000000 in
theorem bk_X10_isMinute_0 {d : Nat} {I : HI} {Q : Option AV → AH → Prop} {a1 : Int}  (h : ((a1 < 0 → Q (some (vI 0)) (mk I)) ∧ (¬ (a1 < 0) → ((999 < a1 → Q (some (vI 0)) (mk I)) ∧ (¬ (999 < a1) → Q (some (vI 1)) (mk I)))))) : J none mX10_isMinute (d + 1) 0 0 0 [(0, vR 0), (1, vI a1)] [] (mk I) Q := by
  refine J_iload_n dX10_isMinute_0 rfl rfl ?_
  refine J_if_lt (tgt := 15) dX10_isMinute_1 (by decide) (fun c => ?_) (fun c => ?_)
  · replace h := h.1 c
    refine J_iconst dX10_isMinute_15 (ii_c rfl) ?_
    exact J_retz dX10_isMinute_16 rfl (Or.inl rfl) h
  · replace h := h.2 c
    refine J_iload_n dX10_isMinute_4 rfl rfl ?_
    refine J_sipush dX10_isMinute_5 (ii_c rfl) (by decide) ?_
    refine J_ic_gt (tgt := 15) dX10_isMinute_8 (by decide) (fun c => ?_) (fun c => ?_)
    · replace h := h.1 c
      refine J_iconst dX10_isMinute_15 (ii_c rfl) ?_
      exact J_retz dX10_isMinute_16 rfl (Or.inl rfl) h
    · replace h := h.2 c
      refine J_iconst dX10_isMinute_11 (ii_c rfl) ?_
      refine J_goto (tgt := 16) dX10_isMinute_12 (by decide) ?_
      exact J_retz dX10_isMinute_16 rfl (Or.inr rfl) h
set_option maxRecDepth 20000 in
set_option maxHeartbeats 2000000 in
theorem bk_X10_allSaints_0 {d : Nat} {I : HI} {Q : Option AV → AH → Prop}   (h : (-2147483648 ≤ (oSl 1 (I 2 2)) - 1 ∧ (oSl 1 (I 2 2)) - 1 ≤ 2147483647) ∧ Q (some (vI ((oSl 1 (I 2 2)) - 1))) (mk I)) : J none mX10_allSaints (d + 1) 0 0 0 [(0, vR 0)] [] (mk I) Q := by
  refine J_iconst dX10_allSaints_0 (ii_c rfl) ?_
  refine J_aload_n dX10_allSaints_1 rfl rfl ?_
  refine J_getR dX10_allSaints_2 ck_10 fw_X10_10 rfl sh_0 rr_0_0 ?_
  refine J_getR dX10_allSaints_5 ck_0 fw_X10_140 rfl sh_1 rr_1_0 ?_
  refine J_iconst dX10_allSaints_8 (ii_c rfl) ?_
  refine J_iald dX10_allSaints_9 sh_2 (by decide) (by decide) ?_
  refine J_ishl dX10_allSaints_10 ?_
  refine J_iconst dX10_allSaints_11 (ii_c rfl) ?_
  refine J_isubN dX10_allSaints_12 h.1 ?_
  replace h := h.2
  exact J_reti dX10_allSaints_13 rfl h
set_option maxRecDepth 20000 in
set_option maxHeartbeats 2000000 in
theorem bk_X10_pairOf_0 {d : Nat} {I : HI} {Q : Option AV → AH → Prop} {a0 : Int} {a1 : Int}  (h : (-2147483648 ≤ 7 - a0 ∧ 7 - a0 ≤ 2147483647) ∧ (-2147483648 ≤ a0 * (7 - a0) ∧ a0 * (7 - a0) ≤ 2147483647) ∧ (-2147483648 ≤ (oD (a0 * (7 - a0)) 2) + a1 ∧ (oD (a0 * (7 - a0)) 2) + a1 ≤ 2147483647) ∧ (-2147483648 ≤ ((oD (a0 * (7 - a0)) 2) + a1) - a0 ∧ ((oD (a0 * (7 - a0)) 2) + a1) - a0 ≤ 2147483647) ∧ (-2147483648 ≤ (((oD (a0 * (7 - a0)) 2) + a1) - a0) - 1 ∧ (((oD (a0 * (7 - a0)) 2) + a1) - a0) - 1 ≤ 2147483647) ∧ Q (some (vI ((((oD (a0 * (7 - a0)) 2) + a1) - a0) - 1))) (mk I)) : J none mX10_pairOf (d + 1) 0 0 0 [(0, vI a0), (1, vI a1)] [] (mk I) Q := by
  refine J_iload_n dX10_pairOf_0 rfl rfl ?_
  refine J_bipush dX10_pairOf_1 (ii_c rfl) (by decide) ?_
  refine J_iload_n dX10_pairOf_3 rfl rfl ?_
  refine J_isubN dX10_pairOf_4 h.1 ?_
  replace h := h.2
  refine J_imulN dX10_pairOf_5 h.1 ?_
  replace h := h.2
  refine J_iconst dX10_pairOf_6 (ii_c rfl) ?_
  refine J_idiv dX10_pairOf_7 (by decide) ?_
  refine J_iload_n dX10_pairOf_8 rfl rfl ?_
  refine J_iaddN dX10_pairOf_9 h.1 ?_
  replace h := h.2
  refine J_iload_n dX10_pairOf_10 rfl rfl ?_
  refine J_isubN dX10_pairOf_11 h.1 ?_
  replace h := h.2
  refine J_iconst dX10_pairOf_12 (ii_c rfl) ?_
  refine J_isubN dX10_pairOf_13 h.1 ?_
  replace h := h.2
  exact J_reti dX10_pairOf_14 rfl h
set_option maxRecDepth 20000 in
set_option maxHeartbeats 2000000 in
theorem bk_X7_open_0 {d : Nat} {I : HI} {Q : Option AV → AH → Prop} {a1 : Int}  (h : CV mX7_cut d [vR 28, vI (min a1 1600)] I (fun I1 => (∀ I2 : HI, I2 = up I1 28 5 0 → (∀ I3 : HI, I3 = up I2 28 7 0 → (∀ I4 : HI, I4 = up I3 28 8 29 → (∀ I5 : HI, I5 = up I4 28 12 0 → (∀ I6 : HI, I6 = up I5 28 13 0 → (∀ I7 : HI, I7 = up I6 28 14 (-1) → CV mX0_empty d [vR 14] I7 (fun I8 => CV mX7_advance d [vR 28] I8 (fun I9 => Q none (mk I9))))))))))) : J none mX7_open (d + 1) 0 0 0 [(0, vR 28), (1, vI a1)] [] (mk I) Q := by
  refine J_aload_n dX7_open_0 rfl rfl ?_
  refine J_iload_n dX7_open_1 rfl rfl ?_
  refine J_sipush dX7_open_2 (ii_c rfl) (by decide) ?_
  refine J_min dX7_open_5 lk_X7_28 (Nat.le_of_ble_eq_true rfl) ?_
  refine J_callV (as := [_]) (mc1 := 0) (ms1 := 0) (mc := 0) (ms := 0) dX7_open_8 mv_X7_cut lk_X7_34 sh_28 rfl (Nat.le_of_ble_eq_true rfl) (Nat.le_of_ble_eq_true rfl) h (fun r σ hq _ => ?_)
  obtain ⟨I1, rfl, rfl, h⟩ := hq
  change J _ _ _ _ _ _ _ [] _ _
  refine J_aload_n dX7_open_11 rfl rfl ?_
  refine J_iconst dX7_open_12 (ii_c rfl) ?_
  refine J_putI dX7_open_13 ck_7 fw_X7_38 rfl rfl (Or.inl rfl) sh_28 ?_
  replace h := h _ rfl
  refine J_aload_n dX7_open_16 rfl rfl ?_
  refine J_iconst dX7_open_17 (ii_c rfl) ?_
  refine J_putI dX7_open_18 ck_7 fw_X7_42 rfl rfl (Or.inl rfl) sh_28 ?_
  replace h := h _ rfl
  refine J_aload_n dX7_open_21 rfl rfl ?_
  refine J_bipush dX7_open_22 (ii_c rfl) (by decide) ?_
  refine J_putI dX7_open_24 ck_7 fw_X7_45 rfl rfl (Or.inl rfl) sh_28 ?_
  replace h := h _ rfl
  refine J_aload_n dX7_open_27 rfl rfl ?_
  refine J_iconst dX7_open_28 (ii_c rfl) ?_
  refine J_putI dX7_open_29 ck_7 fw_X7_48 rfl rfl (Or.inl rfl) sh_28 ?_
  replace h := h _ rfl
  refine J_aload_n dX7_open_32 rfl rfl ?_
  refine J_iconst dX7_open_33 (ii_c rfl) ?_
  refine J_putI dX7_open_34 ck_7 fw_X7_51 rfl rfl (Or.inl rfl) sh_28 ?_
  replace h := h _ rfl
  refine J_aload_n dX7_open_37 rfl rfl ?_
  refine J_iconst dX7_open_38 (ii_c rfl) ?_
  refine J_putI dX7_open_39 ck_7 fw_X7_54 rfl rfl (Or.inl rfl) sh_28 ?_
  replace h := h _ rfl
  refine J_aload_n dX7_open_42 rfl rfl ?_
  refine J_getR dX7_open_43 ck_7 fw_X7_21 rfl sh_28 rr_28_0 ?_
  refine J_callV (as := []) (mc1 := 0) (ms1 := 0) (mc := 0) (ms := 0) dX7_open_46 mv_X0_empty lk_X7_57 sh_14 rfl (Nat.le_of_ble_eq_true rfl) (Nat.le_of_ble_eq_true rfl) h (fun r σ hq _ => ?_)
  obtain ⟨I8, rfl, rfl, h⟩ := hq
  change J _ _ _ _ _ _ _ [] _ _
  refine J_aload_n dX7_open_49 rfl rfl ?_
  refine J_callV (as := []) (mc1 := 0) (ms1 := 0) (mc := 0) (ms := 0) dX7_open_50 mv_X7_advance lk_X7_62 sh_28 rfl (Nat.le_of_ble_eq_true rfl) (Nat.le_of_ble_eq_true rfl) h (fun r σ hq _ => ?_)
  obtain ⟨I9, rfl, rfl, h⟩ := hq
  change J _ _ _ _ _ _ _ [] _ _
  exact J_retv dX7_open_53 rfl h
