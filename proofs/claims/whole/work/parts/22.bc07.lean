set_option maxRecDepth 20000 in
set_option maxHeartbeats 2000000 in
theorem bk_X7_number_0 {d : Nat} {I : HI} {Q : Option AV → AH → Prop} {a1 : Int} {a2 : Int}  (h : (((I 28 8) ≠ 28 → CI mX7_fail d [vR 28, vI 1, vI (I 28 6)] I (fun x1 I1 => (x1 = 0 ∨ x1 = 1) ∧ Q (some (vI x1)) (mk I1))) ∧ ((I 28 8) = 28 → (((I 28 9) = 0 → (-2147483648 ≤ (I 28 7) - (I 28 6) ∧ (I 28 7) - (I 28 6) ≤ 2147483647) ∧ ((((I 28 7) - (I 28 6)) ≤ 4 → (∀ I2 : HI, I2 = up I 28 10 0 → J none mX7_number (d + 1) 0 0 61 [(0, vR 28), (1, vI a1), (2, vI a2), (3, vI (I2 28 6))] [] (mk I2) Q)) ∧ (¬ (((I 28 7) - (I 28 6)) ≤ 4) → (-2147483648 ≤ (I 28 6) + 4 ∧ (I 28 6) + 4 ≤ 2147483647) ∧ CI mX7_fail d [vR 28, vI 1, vI ((I 28 6) + 4)] I (fun x2 I3 => (x2 = 0 ∨ x2 = 1) ∧ Q (some (vI x2)) (mk I3))))) ∧ (¬ ((I 28 9) = 0) → CI mX7_fail d [vR 28, vI 1, vI (I 28 6)] I (fun x3 I4 => (x3 = 0 ∨ x3 = 1) ∧ Q (some (vI x3)) (mk I4))))))) : J none mX7_number (d + 1) 0 0 0 [(0, vR 28), (1, vI a1), (2, vI a2)] [] (mk I) Q := by
  refine J_aload_n dX7_number_0 rfl rfl ?_
  refine J_getI dX7_number_1 ck_7 fw_X7_45 rfl sh_28 ?_
  refine J_bipush dX7_number_4 (ii_c rfl) (by decide) ?_
  refine J_ic_ne (tgt := 16) dX7_number_6 (by decide) (fun c => ?_) (fun c => ?_)
  · replace h := h.1 c
    refine J_aload_n dX7_number_16 rfl rfl ?_
    refine J_iconst dX7_number_17 (ii_c rfl) ?_
    refine J_aload_n dX7_number_18 rfl rfl ?_
    refine J_getI dX7_number_19 ck_7 fw_X7_79 rfl sh_28 ?_
    refine J_callV (as := [_, _]) (mc1 := 0) (ms1 := 0) (mc := 0) (ms := 0) dX7_number_22 mv_X7_fail lk_X7_119 sh_28 rfl (Nat.le_of_ble_eq_true rfl) (Nat.le_of_ble_eq_true rfl) h (fun r σ hq _ => ?_)
    obtain ⟨x1, I1, rfl, rfl, h⟩ := hq
    change J _ _ _ _ _ _ _ [vI x1] _ _
    exact J_retz dX7_number_25 rfl h.1 h.2
  · replace h := h.2 c
    refine J_aload_n dX7_number_9 rfl rfl ?_
    refine J_getI dX7_number_10 ck_7 fw_X7_82 rfl sh_28 ?_
    refine J_if_eq (tgt := 26) dX7_number_13 (by decide) (fun c => ?_) (fun c => ?_)
    · replace h := h.1 c
      refine J_aload_n dX7_number_26 rfl rfl ?_
      refine J_getI dX7_number_27 ck_7 fw_X7_42 rfl sh_28 ?_
      refine J_aload_n dX7_number_30 rfl rfl ?_
      refine J_getI dX7_number_31 ck_7 fw_X7_79 rfl sh_28 ?_
      refine J_isubN dX7_number_34 h.1 ?_
      replace h := h.2
      refine J_iconst dX7_number_35 (ii_c rfl) ?_
      refine J_ic_le (tgt := 51) dX7_number_36 (by decide) (fun c => ?_) (fun c => ?_)
      · replace h := h.1 c
        refine J_aload_n dX7_number_51 rfl rfl ?_
        refine J_iconst dX7_number_52 (ii_c rfl) ?_
        refine J_putI dX7_number_53 ck_7 fw_X7_113 rfl rfl (Or.inl rfl) sh_28 ?_
        replace h := h _ rfl
        refine J_aload_n dX7_number_56 rfl rfl ?_
        refine J_getI dX7_number_57 ck_7 fw_X7_79 rfl sh_28 ?_
        refine J_istore_n dX7_number_60 rfl (by decide) ?_
        exact h
      · replace h := h.2 c
        refine J_aload_n dX7_number_39 rfl rfl ?_
        refine J_iconst dX7_number_40 (ii_c rfl) ?_
        refine J_aload_n dX7_number_41 rfl rfl ?_
        refine J_getI dX7_number_42 ck_7 fw_X7_79 rfl sh_28 ?_
        refine J_iconst dX7_number_45 (ii_c rfl) ?_
        refine J_iaddN dX7_number_46 h.1 ?_
        replace h := h.2
        refine J_callV (as := [_, _]) (mc1 := 0) (ms1 := 0) (mc := 0) (ms := 0) dX7_number_47 mv_X7_fail lk_X7_119 sh_28 rfl (Nat.le_of_ble_eq_true rfl) (Nat.le_of_ble_eq_true rfl) h (fun r σ hq _ => ?_)
        obtain ⟨x2, I3, rfl, rfl, h⟩ := hq
        change J _ _ _ _ _ _ _ [vI x2] _ _
        exact J_retz dX7_number_50 rfl h.1 h.2
    · replace h := h.2 c
      refine J_aload_n dX7_number_16 rfl rfl ?_
      refine J_iconst dX7_number_17 (ii_c rfl) ?_
      refine J_aload_n dX7_number_18 rfl rfl ?_
      refine J_getI dX7_number_19 ck_7 fw_X7_79 rfl sh_28 ?_
      refine J_callV (as := [_, _]) (mc1 := 0) (ms1 := 0) (mc := 0) (ms := 0) dX7_number_22 mv_X7_fail lk_X7_119 sh_28 rfl (Nat.le_of_ble_eq_true rfl) (Nat.le_of_ble_eq_true rfl) h (fun r σ hq _ => ?_)
      obtain ⟨x3, I4, rfl, rfl, h⟩ := hq
      change J _ _ _ _ _ _ _ [vI x3] _ _
      exact J_retz dX7_number_25 rfl h.1 h.2
set_option maxRecDepth 20000 in
set_option maxHeartbeats 2000000 in
theorem bk_X7_number_61 {d : Nat} {I : HI} {Q : Option AV → AH → Prop} {a1 : Int} {a2 : Int} {a3 : Int}  (h : (((I 28 7) ≤ a3 → (((I 28 10) < a1 → CI mX7_fail d [vR 28, vI 2, vI (I 28 6)] I (fun x1 I1 => (x1 = 0 ∨ x1 = 1) ∧ Q (some (vI x1)) (mk I1))) ∧ (¬ ((I 28 10) < a1) → (((I 28 10) ≤ a2 → CV mX7_advance d [vR 28] I (fun I2 => Q (some (vI 1)) (mk I2))) ∧ (¬ ((I 28 10) ≤ a2) → CI mX7_fail d [vR 28, vI 2, vI (I 28 6)] I (fun x3 I3 => (x3 = 0 ∨ x3 = 1) ∧ Q (some (vI x3)) (mk I3))))))) ∧ (¬ ((I 28 7) ≤ a3) → (-2147483648 ≤ (I 28 10) * 10 ∧ (I 28 10) * 10 ≤ 2147483647) ∧ ((0 : Int) ≤ a3 ∧ (a3 : Int) < 1600) ∧ (-2147483648 ≤ ((I 28 10) * 10) + (I 27 a3.toNat) ∧ ((I 28 10) * 10) + (I 27 a3.toNat) ≤ 2147483647) ∧ (-2147483648 ≤ (((I 28 10) * 10) + (I 27 a3.toNat)) - 48 ∧ (((I 28 10) * 10) + (I 27 a3.toNat)) - 48 ≤ 2147483647) ∧ (∀ I4 : HI, I4 = up I 28 10 ((((I 28 10) * 10) + (I 27 a3.toNat)) - 48) → (-2147483648 ≤ a3 + 1 ∧ a3 + 1 ≤ 2147483647) ∧ J none mX7_number (d + 1) 0 0 61 [(0, vR 28), (1, vI a1), (2, vI a2), (3, vI (a3 + 1))] [] (mk I4) Q)))) : J none mX7_number (d + 1) 0 0 61 [(0, vR 28), (1, vI a1), (2, vI a2), (3, vI a3)] [] (mk I) Q := by
  refine J_iload_n dX7_number_61 rfl rfl ?_
  refine J_aload_n dX7_number_62 rfl rfl ?_
  refine J_getI dX7_number_63 ck_7 fw_X7_42 rfl sh_28 ?_
  refine J_ic_ge (tgt := 96) dX7_number_66 (by decide) (fun c => ?_) (fun c => ?_)
  · replace h := h.1 c
    refine J_aload_n dX7_number_96 rfl rfl ?_
    refine J_getI dX7_number_97 ck_7 fw_X7_113 rfl sh_28 ?_
    refine J_iload_n dX7_number_100 rfl rfl ?_
    refine J_ic_lt (tgt := 112) dX7_number_101 (by decide) (fun c => ?_) (fun c => ?_)
    · replace h := h.1 c
      refine J_aload_n dX7_number_112 rfl rfl ?_
      refine J_iconst dX7_number_113 (ii_c rfl) ?_
      refine J_aload_n dX7_number_114 rfl rfl ?_
      refine J_getI dX7_number_115 ck_7 fw_X7_79 rfl sh_28 ?_
      refine J_callV (as := [_, _]) (mc1 := 0) (ms1 := 0) (mc := 0) (ms := 0) dX7_number_118 mv_X7_fail lk_X7_119 sh_28 rfl (Nat.le_of_ble_eq_true rfl) (Nat.le_of_ble_eq_true rfl) h (fun r σ hq _ => ?_)
      obtain ⟨x1, I1, rfl, rfl, h⟩ := hq
      change J _ _ _ _ _ _ _ [vI x1] _ _
      exact J_retz dX7_number_121 rfl h.1 h.2
    · replace h := h.2 c
      refine J_aload_n dX7_number_104 rfl rfl ?_
      refine J_getI dX7_number_105 ck_7 fw_X7_113 rfl sh_28 ?_
      refine J_iload_n dX7_number_108 rfl rfl ?_
      refine J_ic_le (tgt := 122) dX7_number_109 (by decide) (fun c => ?_) (fun c => ?_)
      · replace h := h.1 c
        refine J_aload_n dX7_number_122 rfl rfl ?_
        refine J_callV (as := []) (mc1 := 0) (ms1 := 0) (mc := 0) (ms := 0) dX7_number_123 mv_X7_advance lk_X7_62 sh_28 rfl (Nat.le_of_ble_eq_true rfl) (Nat.le_of_ble_eq_true rfl) h (fun r σ hq _ => ?_)
        obtain ⟨I2, rfl, rfl, h⟩ := hq
        change J _ _ _ _ _ _ _ [] _ _
        refine J_iconst dX7_number_126 (ii_c rfl) ?_
        exact J_retz dX7_number_127 rfl (Or.inr rfl) h
      · replace h := h.2 c
        refine J_aload_n dX7_number_112 rfl rfl ?_
        refine J_iconst dX7_number_113 (ii_c rfl) ?_
        refine J_aload_n dX7_number_114 rfl rfl ?_
        refine J_getI dX7_number_115 ck_7 fw_X7_79 rfl sh_28 ?_
        refine J_callV (as := [_, _]) (mc1 := 0) (ms1 := 0) (mc := 0) (ms := 0) dX7_number_118 mv_X7_fail lk_X7_119 sh_28 rfl (Nat.le_of_ble_eq_true rfl) (Nat.le_of_ble_eq_true rfl) h (fun r σ hq _ => ?_)
        obtain ⟨x3, I3, rfl, rfl, h⟩ := hq
        change J _ _ _ _ _ _ _ [vI x3] _ _
        exact J_retz dX7_number_121 rfl h.1 h.2
  · replace h := h.2 c
    refine J_aload_n dX7_number_69 rfl rfl ?_
    refine J_aload_n dX7_number_70 rfl rfl ?_
    refine J_getI dX7_number_71 ck_7 fw_X7_113 rfl sh_28 ?_
    refine J_bipush dX7_number_74 (ii_c rfl) (by decide) ?_
    refine J_imulN dX7_number_76 h.1 ?_
    replace h := h.2
    refine J_aload_n dX7_number_77 rfl rfl ?_
    refine J_getR dX7_number_78 ck_7 fw_X7_25 rfl sh_28 rr_28_1 ?_
    refine J_iload_n dX7_number_81 rfl rfl ?_
    refine J_iald dX7_number_82 sh_27 h.1.1 h.1.2 ?_
    replace h := h.2
    refine J_iaddN dX7_number_83 h.1 ?_
    replace h := h.2
    refine J_bipush dX7_number_84 (ii_c rfl) (by decide) ?_
    refine J_isubN dX7_number_86 h.1 ?_
    replace h := h.2
    refine J_putI dX7_number_87 ck_7 fw_X7_113 rfl rfl (Or.inl rfl) sh_28 ?_
    replace h := h _ rfl
    refine J_iincN dX7_number_90 rfl (by decide) h.1 ?_
    replace h := h.2
    refine J_goto (tgt := 61) dX7_number_93 (by decide) ?_
    exact h
set_option maxRecDepth 20000 in
set_option maxHeartbeats 2000000 in
theorem bk_X7_nameStands_0 {d : Nat} {I : HI} {Q : Option AV → AH → Prop}   (h : (((I 28 8) ≠ 27 → CI mX7_fail d [vR 28, vI 1, vI (I 28 6)] I (fun x1 I1 => (x1 = 0 ∨ x1 = 1) ∧ Q (some (vI x1)) (mk I1))) ∧ ((I 28 8) = 27 → (((I 28 9) = 0 → (-2147483648 ≤ (I 28 7) - (I 28 6) ∧ (I 28 7) - (I 28 6) ≤ 2147483647) ∧ ((((I 28 7) - (I 28 6)) ≤ 6 → Q (some (vI 1)) (mk I)) ∧ (¬ (((I 28 7) - (I 28 6)) ≤ 6) → (-2147483648 ≤ (I 28 6) + 6 ∧ (I 28 6) + 6 ≤ 2147483647) ∧ CI mX7_fail d [vR 28, vI 1, vI ((I 28 6) + 6)] I (fun x2 I2 => ((x2 = 0 → Q (some (vI 0)) (mk I2)) ∧ (¬ (x2 = 0) → Q (some (vI 1)) (mk I2))))))) ∧ (¬ ((I 28 9) = 0) → CI mX7_fail d [vR 28, vI 1, vI (I 28 6)] I (fun x3 I3 => (x3 = 0 ∨ x3 = 1) ∧ Q (some (vI x3)) (mk I3))))))) : J none mX7_nameStands (d + 1) 0 0 0 [(0, vR 28)] [] (mk I) Q := by
  refine J_aload_n dX7_nameStands_0 rfl rfl ?_
  refine J_getI dX7_nameStands_1 ck_7 fw_X7_45 rfl sh_28 ?_
  refine J_bipush dX7_nameStands_4 (ii_c rfl) (by decide) ?_
  refine J_ic_ne (tgt := 16) dX7_nameStands_6 (by decide) (fun c => ?_) (fun c => ?_)
  · replace h := h.1 c
    refine J_aload_n dX7_nameStands_16 rfl rfl ?_
    refine J_iconst dX7_nameStands_17 (ii_c rfl) ?_
    refine J_aload_n dX7_nameStands_18 rfl rfl ?_
    refine J_getI dX7_nameStands_19 ck_7 fw_X7_79 rfl sh_28 ?_
    refine J_callV (as := [_, _]) (mc1 := 0) (ms1 := 0) (mc := 0) (ms := 0) dX7_nameStands_22 mv_X7_fail lk_X7_119 sh_28 rfl (Nat.le_of_ble_eq_true rfl) (Nat.le_of_ble_eq_true rfl) h (fun r σ hq _ => ?_)
    obtain ⟨x1, I1, rfl, rfl, h⟩ := hq
    change J _ _ _ _ _ _ _ [vI x1] _ _
    exact J_retz dX7_nameStands_25 rfl h.1 h.2
  · replace h := h.2 c
    refine J_aload_n dX7_nameStands_9 rfl rfl ?_
    refine J_getI dX7_nameStands_10 ck_7 fw_X7_82 rfl sh_28 ?_
    refine J_if_eq (tgt := 26) dX7_nameStands_13 (by decide) (fun c => ?_) (fun c => ?_)
    · replace h := h.1 c
      refine J_aload_n dX7_nameStands_26 rfl rfl ?_
      refine J_getI dX7_nameStands_27 ck_7 fw_X7_42 rfl sh_28 ?_
      refine J_aload_n dX7_nameStands_30 rfl rfl ?_
      refine J_getI dX7_nameStands_31 ck_7 fw_X7_79 rfl sh_28 ?_
      refine J_isubN dX7_nameStands_34 h.1 ?_
      replace h := h.2
      refine J_bipush dX7_nameStands_35 (ii_c rfl) (by decide) ?_
      refine J_ic_le (tgt := 55) dX7_nameStands_37 (by decide) (fun c => ?_) (fun c => ?_)
      · replace h := h.1 c
        refine J_iconst dX7_nameStands_55 (ii_c rfl) ?_
        refine J_goto (tgt := 60) dX7_nameStands_56 (by decide) ?_
        exact J_retz dX7_nameStands_60 rfl (Or.inr rfl) h
      · replace h := h.2 c
        refine J_aload_n dX7_nameStands_40 rfl rfl ?_
        refine J_iconst dX7_nameStands_41 (ii_c rfl) ?_
        refine J_aload_n dX7_nameStands_42 rfl rfl ?_
        refine J_getI dX7_nameStands_43 ck_7 fw_X7_79 rfl sh_28 ?_
        refine J_bipush dX7_nameStands_46 (ii_c rfl) (by decide) ?_
        refine J_iaddN dX7_nameStands_48 h.1 ?_
        replace h := h.2
        refine J_callV (as := [_, _]) (mc1 := 0) (ms1 := 0) (mc := 0) (ms := 0) dX7_nameStands_49 mv_X7_fail lk_X7_119 sh_28 rfl (Nat.le_of_ble_eq_true rfl) (Nat.le_of_ble_eq_true rfl) h (fun r σ hq _ => ?_)
        obtain ⟨x2, I2, rfl, rfl, h⟩ := hq
        change J _ _ _ _ _ _ _ [vI x2] _ _
        refine J_if_eq (tgt := 59) dX7_nameStands_52 (by decide) (fun c => ?_) (fun c => ?_)
        · replace h := h.1 c
          refine J_iconst dX7_nameStands_59 (ii_c rfl) ?_
          exact J_retz dX7_nameStands_60 rfl (Or.inl rfl) h
        · replace h := h.2 c
          refine J_iconst dX7_nameStands_55 (ii_c rfl) ?_
          refine J_goto (tgt := 60) dX7_nameStands_56 (by decide) ?_
          exact J_retz dX7_nameStands_60 rfl (Or.inr rfl) h
    · replace h := h.2 c
      refine J_aload_n dX7_nameStands_16 rfl rfl ?_
      refine J_iconst dX7_nameStands_17 (ii_c rfl) ?_
      refine J_aload_n dX7_nameStands_18 rfl rfl ?_
      refine J_getI dX7_nameStands_19 ck_7 fw_X7_79 rfl sh_28 ?_
      refine J_callV (as := [_, _]) (mc1 := 0) (ms1 := 0) (mc := 0) (ms := 0) dX7_nameStands_22 mv_X7_fail lk_X7_119 sh_28 rfl (Nat.le_of_ble_eq_true rfl) (Nat.le_of_ble_eq_true rfl) h (fun r σ hq _ => ?_)
      obtain ⟨x3, I3, rfl, rfl, h⟩ := hq
      change J _ _ _ _ _ _ _ [vI x3] _ _
      exact J_retz dX7_nameStands_25 rfl h.1 h.2
set_option maxRecDepth 20000 in
set_option maxHeartbeats 2000000 in
theorem bk_X7_letterOfToken_0 {d : Nat} {I : HI} {Q : Option AV → AH → Prop} {a1 : Int}  (h : (-2147483648 ≤ (I 28 6) + a1 ∧ (I 28 6) + a1 ≤ 2147483647) ∧ (((I 28 7) ≤ ((I 28 6) + a1) → Q (some (vI 0)) (mk I)) ∧ (¬ ((I 28 7) ≤ ((I 28 6) + a1)) → (-2147483648 ≤ (I 28 6) + a1 ∧ (I 28 6) + a1 ≤ 2147483647) ∧ ((0 : Int) ≤ ((I 28 6) + a1) ∧ ((I 28 6) + a1 : Int) < 1600) ∧ (-2147483648 ≤ (I 27 ((I 28 6) + a1).toNat) - 97 ∧ (I 27 ((I 28 6) + a1).toNat) - 97 ≤ 2147483647) ∧ (-2147483648 ≤ ((I 27 ((I 28 6) + a1).toNat) - 97) + 1 ∧ ((I 27 ((I 28 6) + a1).toNat) - 97) + 1 ≤ 2147483647) ∧ Q (some (vI (((I 27 ((I 28 6) + a1).toNat) - 97) + 1))) (mk I)))) : J none mX7_letterOfToken (d + 1) 0 0 0 [(0, vR 28), (1, vI a1)] [] (mk I) Q := by
  refine J_aload_n dX7_letterOfToken_0 rfl rfl ?_
  refine J_getI dX7_letterOfToken_1 ck_7 fw_X7_79 rfl sh_28 ?_
  refine J_iload_n dX7_letterOfToken_4 rfl rfl ?_
  refine J_iaddN dX7_letterOfToken_5 h.1 ?_
  replace h := h.2
  refine J_aload_n dX7_letterOfToken_6 rfl rfl ?_
  refine J_getI dX7_letterOfToken_7 ck_7 fw_X7_42 rfl sh_28 ?_
  refine J_ic_ge (tgt := 32) dX7_letterOfToken_10 (by decide) (fun c => ?_) (fun c => ?_)
  · replace h := h.1 c
    refine J_iconst dX7_letterOfToken_32 (ii_c rfl) ?_
    exact J_reti dX7_letterOfToken_33 rfl h
  · replace h := h.2 c
    refine J_aload_n dX7_letterOfToken_13 rfl rfl ?_
    refine J_getR dX7_letterOfToken_14 ck_7 fw_X7_25 rfl sh_28 rr_28_1 ?_
    refine J_aload_n dX7_letterOfToken_17 rfl rfl ?_
    refine J_getI dX7_letterOfToken_18 ck_7 fw_X7_79 rfl sh_28 ?_
    refine J_iload_n dX7_letterOfToken_21 rfl rfl ?_
    refine J_iaddN dX7_letterOfToken_22 h.1 ?_
    replace h := h.2
    refine J_iald dX7_letterOfToken_23 sh_27 h.1.1 h.1.2 ?_
    replace h := h.2
    refine J_bipush dX7_letterOfToken_24 (ii_c rfl) (by decide) ?_
    refine J_isubN dX7_letterOfToken_26 h.1 ?_
    replace h := h.2
    refine J_iconst dX7_letterOfToken_27 (ii_c rfl) ?_
    refine J_iaddN dX7_letterOfToken_28 h.1 ?_
    replace h := h.2
    refine J_goto (tgt := 33) dX7_letterOfToken_29 (by decide) ?_
    exact J_reti dX7_letterOfToken_33 rfl h
set_option maxRecDepth 20000 in
set_option maxHeartbeats 2000000 in
theorem bk_X7_named_0 {d : Nat} {I : HI} {Q : Option AV → AH → Prop} {a1 n1 : Nat} {a2 : Int} (ha1 : SH0[a1]? = some (.inr (0, n1))) (h : J none mX7_named (d + 1) 0 0 2 [(0, vR 28), (1, vR a1), (2, vI a2), (3, vI 0)] [] (mk I) Q) : J none mX7_named (d + 1) 0 0 0 [(0, vR 28), (1, vR a1), (2, vI a2)] [] (mk I) Q := by
  refine J_iconst dX7_named_0 (ii_c rfl) ?_
  refine J_istore_n dX7_named_1 rfl (by decide) ?_
  exact h
set_option maxRecDepth 20000 in
set_option maxHeartbeats 2000000 in
theorem bk_X7_named_2 {d : Nat} {I : HI} {Q : Option AV → AH → Prop} {a1 n1 : Nat} {a2 : Int} {a3 : Int} (ha1 : SH0[a1]? = some (.inr (0, n1))) (h : ((a2 ≤ a3 → Q (some (vI (-1))) (mk I)) ∧ (¬ (a2 ≤ a3) → J none mX7_named (d + 1) 0 0 10 [(0, vR 28), (1, vR a1), (2, vI a2), (3, vI a3), (4, vI 0)] [] (mk I) Q))) : J none mX7_named (d + 1) 0 0 2 [(0, vR 28), (1, vR a1), (2, vI a2), (3, vI a3)] [] (mk I) Q := by
  refine J_iload_n dX7_named_2 rfl rfl ?_
  refine J_iload_n dX7_named_3 rfl rfl ?_
  refine J_ic_ge (tgt := 56) dX7_named_4 (by decide) (fun c => ?_) (fun c => ?_)
  · replace h := h.1 c
    refine J_iconst dX7_named_56 (ii_c rfl) ?_
    exact J_reti dX7_named_57 rfl h
  · replace h := h.2 c
    refine J_iconst dX7_named_7 (ii_c rfl) ?_
    refine J_istore dX7_named_8 (by decide) ?_
    exact h
set_option maxRecDepth 20000 in
set_option maxHeartbeats 2000000 in
theorem bk_X7_named_10 {d : Nat} {I : HI} {Q : Option AV → AH → Prop} {a1 n1 : Nat} {a2 : Int} {a3 : Int} {a4 : Int} (ha1 : SH0[a1]? = some (.inr (0, n1))) (h : ((6 ≤ a4 → ((a4 ≠ 6 → (-2147483648 ≤ a3 + 1 ∧ a3 + 1 ≤ 2147483647) ∧ J none mX7_named (d + 1) 0 0 2 [(0, vR 28), (1, vR a1), (2, vI a2), (3, vI (a3 + 1))] [] (mk I) Q) ∧ (a4 = 6 → Q (some (vI a3)) (mk I)))) ∧ (¬ (6 ≤ a4) → (-2147483648 ≤ a3 * 6 ∧ a3 * 6 ≤ 2147483647) ∧ (-2147483648 ≤ (a3 * 6) + a4 ∧ (a3 * 6) + a4 ≤ 2147483647) ∧ ((0 : Int) ≤ ((a3 * 6) + a4) ∧ ((a3 * 6) + a4 : Int) < n1) ∧ CI mX7_letterOfToken d [vR 28, vI a4] I (fun x1 I1 => (((I a1 ((a3 * 6) + a4).toNat) ≠ x1 → ((a4 ≠ 6 → (-2147483648 ≤ a3 + 1 ∧ a3 + 1 ≤ 2147483647) ∧ J none mX7_named (d + 1) 0 0 2 [(0, vR 28), (1, vR a1), (2, vI a2), (3, vI (a3 + 1))] [] (mk I1) Q) ∧ (a4 = 6 → Q (some (vI a3)) (mk I1)))) ∧ ((I a1 ((a3 * 6) + a4).toNat) = x1 → (-2147483648 ≤ a4 + 1 ∧ a4 + 1 ≤ 2147483647) ∧ J none mX7_named (d + 1) 0 0 10 [(0, vR 28), (1, vR a1), (2, vI a2), (3, vI a3), (4, vI (a4 + 1))] [] (mk I1) Q)))))) : J none mX7_named (d + 1) 0 0 10 [(0, vR 28), (1, vR a1), (2, vI a2), (3, vI a3), (4, vI a4)] [] (mk I) Q := by
  refine J_iload dX7_named_10 rfl ?_
  refine J_bipush dX7_named_12 (ii_c rfl) (by decide) ?_
  refine J_ic_ge (tgt := 41) dX7_named_14 (by decide) (fun c => ?_) (fun c => ?_)
  · replace h := h.1 c
    refine J_iload dX7_named_41 rfl ?_
    refine J_bipush dX7_named_43 (ii_c rfl) (by decide) ?_
    refine J_ic_ne (tgt := 50) dX7_named_45 (by decide) (fun c => ?_) (fun c => ?_)
    · replace h := h.1 c
      refine J_iincN dX7_named_50 rfl (by decide) h.1 ?_
      replace h := h.2
      refine J_goto (tgt := 2) dX7_named_53 (by decide) ?_
      exact J_loc (ls_sub [0, 1, 2, 3] rfl) h
    · replace h := h.2 c
      refine J_iload_n dX7_named_48 rfl rfl ?_
      exact J_reti dX7_named_49 rfl h
  · replace h := h.2 c
    refine J_aload_n dX7_named_17 rfl rfl ?_
    refine J_iload_n dX7_named_18 rfl rfl ?_
    refine J_bipush dX7_named_19 (ii_c rfl) (by decide) ?_
    refine J_imulN dX7_named_21 h.1 ?_
    replace h := h.2
    refine J_iload dX7_named_22 rfl ?_
    refine J_iaddN dX7_named_24 h.1 ?_
    replace h := h.2
    refine J_iald dX7_named_25 ha1 h.1.1 h.1.2 ?_
    replace h := h.2
    refine J_aload_n dX7_named_26 rfl rfl ?_
    refine J_iload dX7_named_27 rfl ?_
    refine J_callV (as := [_]) (mc1 := 0) (ms1 := 0) (mc := 0) (ms := 0) dX7_named_29 mv_X7_letterOfToken lk_X7_167 sh_28 rfl (Nat.le_of_ble_eq_true rfl) (Nat.le_of_ble_eq_true rfl) h (fun r σ hq _ => ?_)
    obtain ⟨x1, I1, rfl, rfl, h⟩ := hq
    change J _ _ _ _ _ _ _ [vI x1, vI (I a1 ((a3 * 6) + a4).toNat)] _ _
    refine J_ic_ne (tgt := 41) dX7_named_32 (by decide) (fun c => ?_) (fun c => ?_)
    · replace h := h.1 c
      refine J_iload dX7_named_41 rfl ?_
      refine J_bipush dX7_named_43 (ii_c rfl) (by decide) ?_
      refine J_ic_ne (tgt := 50) dX7_named_45 (by decide) (fun c => ?_) (fun c => ?_)
      · replace h := h.1 c
        refine J_iincN dX7_named_50 rfl (by decide) h.1 ?_
        replace h := h.2
        refine J_goto (tgt := 2) dX7_named_53 (by decide) ?_
        exact J_loc (ls_sub [0, 1, 2, 3] rfl) h
      · replace h := h.2 c
        refine J_iload_n dX7_named_48 rfl rfl ?_
        exact J_reti dX7_named_49 rfl h
    · replace h := h.2 c
      refine J_iincN dX7_named_35 rfl (by decide) h.1 ?_
      replace h := h.2
      refine J_goto (tgt := 10) dX7_named_38 (by decide) ?_
      exact h
set_option maxRecDepth 20000 in
set_option maxHeartbeats 2000000 in
theorem bk_X7_newName_0 {d : Nat} {I : HI} {Q : Option AV → AH → Prop} {a1 n1 : Nat} {a2 : Int} (ha1 : SH0[a1]? = some (.inr (0, n1))) (h : CI mX7_nameStands d [vR 28] I (fun x1 I1 => ((x1 ≠ 0 → CI mX7_named d [vR 28, vR 16, vI (I1 15 0)] I1 (fun x2 I2 => ((x2 ≠ (-1) → CI mX7_fail d [vR 28, vI 3, vI (I2 28 6)] I2 (fun x3 I3 => (x3 = 0 ∨ x3 = 1) ∧ Q (some (vI x3)) (mk I3))) ∧ (x2 = (-1) → CI mX7_named d [vR 28, vR 17, vI (I2 15 2)] I2 (fun x4 I4 => ((x4 = (-1) → J none mX7_newName (d + 1) 0 0 69 [(0, vR 28), (1, vR a1), (2, vI a2), (3, vI 0)] [] (mk I4) Q) ∧ (¬ (x4 = (-1)) → CI mX7_fail d [vR 28, vI 3, vI (I4 28 6)] I4 (fun x5 I5 => (x5 = 0 ∨ x5 = 1) ∧ Q (some (vI x5)) (mk I5))))))))) ∧ (x1 = 0 → Q (some (vI 0)) (mk I1))))) : J none mX7_newName (d + 1) 0 0 0 [(0, vR 28), (1, vR a1), (2, vI a2)] [] (mk I) Q := by
  refine J_aload_n dX7_newName_0 rfl rfl ?_
  refine J_callV (as := []) (mc1 := 0) (ms1 := 0) (mc := 0) (ms := 0) dX7_newName_1 mv_X7_nameStands lk_X7_170 sh_28 rfl (Nat.le_of_ble_eq_true rfl) (Nat.le_of_ble_eq_true rfl) h (fun r σ hq _ => ?_)
  obtain ⟨x1, I1, rfl, rfl, h⟩ := hq
  change J _ _ _ _ _ _ _ [vI x1] _ _
  refine J_if_ne (tgt := 9) dX7_newName_4 (by decide) (fun c => ?_) (fun c => ?_)
  · replace h := h.1 c
    refine J_aload_n dX7_newName_9 rfl rfl ?_
    refine J_aload_n dX7_newName_10 rfl rfl ?_
    refine J_getR dX7_newName_11 ck_7 fw_X7_21 rfl sh_28 rr_28_0 ?_
    refine J_getR dX7_newName_14 ck_0 fw_X7_128 rfl sh_14 rr_14_1 ?_
    refine J_aload_n dX7_newName_17 rfl rfl ?_
    refine J_getR dX7_newName_18 ck_7 fw_X7_21 rfl sh_28 rr_28_0 ?_
    refine J_getR dX7_newName_21 ck_0 fw_X7_125 rfl sh_14 rr_14_0 ?_
    refine J_iconst dX7_newName_24 (ii_c rfl) ?_
    refine J_iald dX7_newName_25 sh_15 (by decide) (by decide) ?_
    refine J_callV (as := [_, _]) (mc1 := 0) (ms1 := 0) (mc := 0) (ms := 0) dX7_newName_26 mv_X7_named lk_X7_173 sh_28 rfl (Nat.le_of_ble_eq_true rfl) (Nat.le_of_ble_eq_true rfl) h (fun r σ hq _ => ?_)
    obtain ⟨x2, I2, rfl, rfl, h⟩ := hq
    change J _ _ _ _ _ _ _ [vI x2] _ _
    refine J_iconst dX7_newName_29 (ii_c rfl) ?_
    refine J_ic_ne (tgt := 57) dX7_newName_30 (by decide) (fun c => ?_) (fun c => ?_)
    · replace h := h.1 c
      refine J_aload_n dX7_newName_57 rfl rfl ?_
      refine J_iconst dX7_newName_58 (ii_c rfl) ?_
      refine J_aload_n dX7_newName_59 rfl rfl ?_
      refine J_getI dX7_newName_60 ck_7 fw_X7_79 rfl sh_28 ?_
      refine J_callV (as := [_, _]) (mc1 := 0) (ms1 := 0) (mc := 0) (ms := 0) dX7_newName_63 mv_X7_fail lk_X7_119 sh_28 rfl (Nat.le_of_ble_eq_true rfl) (Nat.le_of_ble_eq_true rfl) h (fun r σ hq _ => ?_)
      obtain ⟨x3, I3, rfl, rfl, h⟩ := hq
      change J _ _ _ _ _ _ _ [vI x3] _ _
      exact J_retz dX7_newName_66 rfl h.1 h.2
    · replace h := h.2 c
      refine J_aload_n dX7_newName_33 rfl rfl ?_
      refine J_aload_n dX7_newName_34 rfl rfl ?_
      refine J_getR dX7_newName_35 ck_7 fw_X7_21 rfl sh_28 rr_28_0 ?_
      refine J_getR dX7_newName_38 ck_0 fw_X7_149 rfl sh_14 rr_14_2 ?_
      refine J_aload_n dX7_newName_41 rfl rfl ?_
      refine J_getR dX7_newName_42 ck_7 fw_X7_21 rfl sh_28 rr_28_0 ?_
      refine J_getR dX7_newName_45 ck_0 fw_X7_125 rfl sh_14 rr_14_0 ?_
      refine J_iconst dX7_newName_48 (ii_c rfl) ?_
      refine J_iald dX7_newName_49 sh_15 (by decide) (by decide) ?_
      refine J_callV (as := [_, _]) (mc1 := 0) (ms1 := 0) (mc := 0) (ms := 0) dX7_newName_50 mv_X7_named lk_X7_173 sh_28 rfl (Nat.le_of_ble_eq_true rfl) (Nat.le_of_ble_eq_true rfl) h (fun r σ hq _ => ?_)
      obtain ⟨x4, I4, rfl, rfl, h⟩ := hq
      change J _ _ _ _ _ _ _ [vI x4] _ _
      refine J_iconst dX7_newName_53 (ii_c rfl) ?_
      refine J_ic_eq (tgt := 67) dX7_newName_54 (by decide) (fun c => ?_) (fun c => ?_)
      · replace h := h.1 c
        refine J_iconst dX7_newName_67 (ii_c rfl) ?_
        refine J_istore_n dX7_newName_68 rfl (by decide) ?_
        exact h
      · replace h := h.2 c
        refine J_aload_n dX7_newName_57 rfl rfl ?_
        refine J_iconst dX7_newName_58 (ii_c rfl) ?_
        refine J_aload_n dX7_newName_59 rfl rfl ?_
        refine J_getI dX7_newName_60 ck_7 fw_X7_79 rfl sh_28 ?_
        refine J_callV (as := [_, _]) (mc1 := 0) (ms1 := 0) (mc := 0) (ms := 0) dX7_newName_63 mv_X7_fail lk_X7_119 sh_28 rfl (Nat.le_of_ble_eq_true rfl) (Nat.le_of_ble_eq_true rfl) h (fun r σ hq _ => ?_)
        obtain ⟨x5, I5, rfl, rfl, h⟩ := hq
        change J _ _ _ _ _ _ _ [vI x5] _ _
        exact J_retz dX7_newName_66 rfl h.1 h.2
  · replace h := h.2 c
    refine J_iconst dX7_newName_7 (ii_c rfl) ?_
    exact J_retz dX7_newName_8 rfl (Or.inl rfl) h
set_option maxRecDepth 20000 in
set_option maxHeartbeats 2000000 in
theorem bk_X7_newName_69 {d : Nat} {I : HI} {Q : Option AV → AH → Prop} {a1 n1 : Nat} {a2 : Int} {a3 : Int} (ha1 : SH0[a1]? = some (.inr (0, n1))) (h : ((6 ≤ a3 → CV mX7_advance d [vR 28] I (fun I1 => Q (some (vI 1)) (mk I1))) ∧ (¬ (6 ≤ a3) → (-2147483648 ≤ a2 * 6 ∧ a2 * 6 ≤ 2147483647) ∧ (-2147483648 ≤ (a2 * 6) + a3 ∧ (a2 * 6) + a3 ≤ 2147483647) ∧ CI mX7_letterOfToken d [vR 28, vI a3] I (fun x2 I2 => ((0 : Int) ≤ ((a2 * 6) + a3) ∧ ((a2 * 6) + a3 : Int) < n1) ∧ (∀ I3 : HI, I3 = up I2 a1 ((a2 * 6) + a3).toNat x2 → (-2147483648 ≤ a3 + 1 ∧ a3 + 1 ≤ 2147483647) ∧ J none mX7_newName (d + 1) 0 0 69 [(0, vR 28), (1, vR a1), (2, vI a2), (3, vI (a3 + 1))] [] (mk I3) Q))))) : J none mX7_newName (d + 1) 0 0 69 [(0, vR 28), (1, vR a1), (2, vI a2), (3, vI a3)] [] (mk I) Q := by
  refine J_iload_n dX7_newName_69 rfl rfl ?_
  refine J_bipush dX7_newName_70 (ii_c rfl) (by decide) ?_
  refine J_ic_ge (tgt := 94) dX7_newName_72 (by decide) (fun c => ?_) (fun c => ?_)
  · replace h := h.1 c
    refine J_aload_n dX7_newName_94 rfl rfl ?_
    refine J_callV (as := []) (mc1 := 0) (ms1 := 0) (mc := 0) (ms := 0) dX7_newName_95 mv_X7_advance lk_X7_62 sh_28 rfl (Nat.le_of_ble_eq_true rfl) (Nat.le_of_ble_eq_true rfl) h (fun r σ hq _ => ?_)
    obtain ⟨I1, rfl, rfl, h⟩ := hq
    change J _ _ _ _ _ _ _ [] _ _
    refine J_iconst dX7_newName_98 (ii_c rfl) ?_
    exact J_retz dX7_newName_99 rfl (Or.inr rfl) h
  · replace h := h.2 c
    refine J_aload_n dX7_newName_75 rfl rfl ?_
    refine J_iload_n dX7_newName_76 rfl rfl ?_
    refine J_bipush dX7_newName_77 (ii_c rfl) (by decide) ?_
    refine J_imulN dX7_newName_79 h.1 ?_
    replace h := h.2
    refine J_iload_n dX7_newName_80 rfl rfl ?_
    refine J_iaddN dX7_newName_81 h.1 ?_
    replace h := h.2
    refine J_aload_n dX7_newName_82 rfl rfl ?_
    refine J_iload_n dX7_newName_83 rfl rfl ?_
    refine J_callV (as := [_]) (mc1 := 0) (ms1 := 0) (mc := 0) (ms := 0) dX7_newName_84 mv_X7_letterOfToken lk_X7_167 sh_28 rfl (Nat.le_of_ble_eq_true rfl) (Nat.le_of_ble_eq_true rfl) h (fun r σ hq _ => ?_)
    obtain ⟨x2, I2, rfl, rfl, h⟩ := hq
    change J _ _ _ _ _ _ _ [vI x2, vI ((a2 * 6) + a3), vR a1] _ _
    refine J_iast dX7_newName_87 ha1 h.1.1 h.1.2 ?_
    replace h := h.2 _ rfl
    refine J_iincN dX7_newName_88 rfl (by decide) h.1 ?_
    replace h := h.2
    refine J_goto (tgt := 69) dX7_newName_91 (by decide) ?_
    exact h
set_option maxRecDepth 20000 in
set_option maxHeartbeats 2000000 in
theorem bk_X7_askedCorner_0 {d : Nat} {I : HI} {Q : Option AV → AH → Prop} {a1 : Int}  (h : CI mX7_nameStands d [vR 28] I (fun x1 I1 => ((x1 ≠ 0 → CI mX7_named d [vR 28, vR 16, vI (I1 15 0)] I1 (fun x2 I2 => ((a1 = (-1) → ((x2 = (-1) → CI mX7_fail d [vR 28, vI 3, vI (I2 28 6)] I2 (fun x3 I3 => Q (some (vI (-1))) (mk I3))) ∧ (¬ (x2 = (-1)) → CV mX7_advance d [vR 28] I2 (fun I4 => Q (some (vI x2)) (mk I4))))) ∧ (¬ (a1 = (-1)) → ((x2 = (-1) → ((x2 = (-1) → CI mX7_fail d [vR 28, vI 3, vI (I2 28 6)] I2 (fun x5 I5 => Q (some (vI (-1))) (mk I5))) ∧ (¬ (x2 = (-1)) → CV mX7_advance d [vR 28] I2 (fun I6 => Q (some (vI x2)) (mk I6))))) ∧ (¬ (x2 = (-1)) → ((x2 = a1 → ((x2 = (-1) → CI mX7_fail d [vR 28, vI 3, vI (I2 28 6)] I2 (fun x7 I7 => Q (some (vI (-1))) (mk I7))) ∧ (¬ (x2 = (-1)) → CI mX7_fail d [vR 28, vI 3, vI (I2 28 6)] I2 (fun x8 I8 => Q (some (vI (-1))) (mk I8))))) ∧ (¬ (x2 = a1) → (-2147483648 ≤ a1 * 10 ∧ a1 * 10 ≤ 2147483647) ∧ (-2147483648 ≤ (a1 * 10) + x2 ∧ (a1 * 10) + x2 ≤ 2147483647) ∧ ((0 : Int) ≤ ((a1 * 10) + x2) ∧ ((a1 * 10) + x2 : Int) < 100) ∧ (((I2 25 ((a1 * 10) + x2).toNat) = (-1) → ((x2 = (-1) → CI mX7_fail d [vR 28, vI 3, vI (I2 28 6)] I2 (fun x9 I9 => Q (some (vI (-1))) (mk I9))) ∧ (¬ (x2 = (-1)) → CV mX7_advance d [vR 28] I2 (fun I10 => Q (some (vI x2)) (mk I10))))) ∧ (¬ ((I2 25 ((a1 * 10) + x2).toNat) = (-1)) → ((x2 = (-1) → CI mX7_fail d [vR 28, vI 3, vI (I2 28 6)] I2 (fun x11 I11 => Q (some (vI (-1))) (mk I11))) ∧ (¬ (x2 = (-1)) → CI mX7_fail d [vR 28, vI 3, vI (I2 28 6)] I2 (fun x12 I12 => Q (some (vI (-1))) (mk I12)))))))))))))) ∧ (x1 = 0 → Q (some (vI (-1))) (mk I1))))) : J none mX7_askedCorner (d + 1) 0 0 0 [(0, vR 28), (1, vI a1)] [] (mk I) Q := by
  refine J_aload_n dX7_askedCorner_0 rfl rfl ?_
  refine J_callV (as := []) (mc1 := 0) (ms1 := 0) (mc := 0) (ms := 0) dX7_askedCorner_1 mv_X7_nameStands lk_X7_170 sh_28 rfl (Nat.le_of_ble_eq_true rfl) (Nat.le_of_ble_eq_true rfl) h (fun r σ hq _ => ?_)
  obtain ⟨x1, I1, rfl, rfl, h⟩ := hq
  change J _ _ _ _ _ _ _ [vI x1] _ _
  refine J_if_ne (tgt := 9) dX7_askedCorner_4 (by decide) (fun c => ?_) (fun c => ?_)
  · replace h := h.1 c
    refine J_aload_n dX7_askedCorner_9 rfl rfl ?_
    refine J_aload_n dX7_askedCorner_10 rfl rfl ?_
    refine J_getR dX7_askedCorner_11 ck_7 fw_X7_21 rfl sh_28 rr_28_0 ?_
    refine J_getR dX7_askedCorner_14 ck_0 fw_X7_128 rfl sh_14 rr_14_1 ?_
    refine J_aload_n dX7_askedCorner_17 rfl rfl ?_
    refine J_getR dX7_askedCorner_18 ck_7 fw_X7_21 rfl sh_28 rr_28_0 ?_
    refine J_getR dX7_askedCorner_21 ck_0 fw_X7_125 rfl sh_14 rr_14_0 ?_
    refine J_iconst dX7_askedCorner_24 (ii_c rfl) ?_
    refine J_iald dX7_askedCorner_25 sh_15 (by decide) (by decide) ?_
    refine J_callV (as := [_, _]) (mc1 := 0) (ms1 := 0) (mc := 0) (ms := 0) dX7_askedCorner_26 mv_X7_named lk_X7_173 sh_28 rfl (Nat.le_of_ble_eq_true rfl) (Nat.le_of_ble_eq_true rfl) h (fun r σ hq _ => ?_)
    obtain ⟨x2, I2, rfl, rfl, h⟩ := hq
    change J _ _ _ _ _ _ _ [vI x2] _ _
    refine J_istore_n dX7_askedCorner_29 rfl (by decide) ?_
    refine J_iload_n dX7_askedCorner_30 rfl rfl ?_
    refine J_iconst dX7_askedCorner_31 (ii_c rfl) ?_
    refine J_ic_eq (tgt := 67) dX7_askedCorner_32 (by decide) (fun c => ?_) (fun c => ?_)
    · replace h := h.1 c
      refine J_iconst dX7_askedCorner_67 (ii_c rfl) ?_
      refine J_istore_n dX7_askedCorner_68 rfl (by decide) ?_
      refine J_iload_n dX7_askedCorner_69 rfl rfl ?_
      refine J_iconst dX7_askedCorner_70 (ii_c rfl) ?_
      refine J_ic_eq (tgt := 78) dX7_askedCorner_71 (by decide) (fun c => ?_) (fun c => ?_)
      · replace h := h.1 c
        refine J_aload_n dX7_askedCorner_78 rfl rfl ?_
        refine J_iconst dX7_askedCorner_79 (ii_c rfl) ?_
        refine J_aload_n dX7_askedCorner_80 rfl rfl ?_
        refine J_getI dX7_askedCorner_81 ck_7 fw_X7_79 rfl sh_28 ?_
        refine J_callV (as := [_, _]) (mc1 := 0) (ms1 := 0) (mc := 0) (ms := 0) dX7_askedCorner_84 mv_X7_fail lk_X7_119 sh_28 rfl (Nat.le_of_ble_eq_true rfl) (Nat.le_of_ble_eq_true rfl) h (fun r σ hq _ => ?_)
        obtain ⟨x3, I3, rfl, rfl, h⟩ := hq
        change J _ _ _ _ _ _ _ [vI x3] _ _
        refine J_pop dX7_askedCorner_87 rfl ?_
        refine J_iconst dX7_askedCorner_88 (ii_c rfl) ?_
        exact J_reti dX7_askedCorner_89 rfl h
      · replace h := h.2 c
        refine J_iload_n dX7_askedCorner_74 rfl rfl ?_
        refine J_if_eq (tgt := 90) dX7_askedCorner_75 (by decide) (fun _ => ?_) (fun c => absurd (by decide) c)
        refine J_aload_n dX7_askedCorner_90 rfl rfl ?_
        refine J_callV (as := []) (mc1 := 0) (ms1 := 0) (mc := 0) (ms := 0) dX7_askedCorner_91 mv_X7_advance lk_X7_62 sh_28 rfl (Nat.le_of_ble_eq_true rfl) (Nat.le_of_ble_eq_true rfl) h (fun r σ hq _ => ?_)
        obtain ⟨I4, rfl, rfl, h⟩ := hq
        change J _ _ _ _ _ _ _ [] _ _
        refine J_iload_n dX7_askedCorner_94 rfl rfl ?_
        exact J_reti dX7_askedCorner_95 rfl h
    · replace h := h.2 c
      refine J_iload_n dX7_askedCorner_35 rfl rfl ?_
      refine J_iconst dX7_askedCorner_36 (ii_c rfl) ?_
      refine J_ic_eq (tgt := 67) dX7_askedCorner_37 (by decide) (fun c => ?_) (fun c => ?_)
      · replace h := h.1 c
        refine J_iconst dX7_askedCorner_67 (ii_c rfl) ?_
        refine J_istore_n dX7_askedCorner_68 rfl (by decide) ?_
        refine J_iload_n dX7_askedCorner_69 rfl rfl ?_
        refine J_iconst dX7_askedCorner_70 (ii_c rfl) ?_
        refine J_ic_eq (tgt := 78) dX7_askedCorner_71 (by decide) (fun c => ?_) (fun c => ?_)
        · replace h := h.1 c
          refine J_aload_n dX7_askedCorner_78 rfl rfl ?_
          refine J_iconst dX7_askedCorner_79 (ii_c rfl) ?_
          refine J_aload_n dX7_askedCorner_80 rfl rfl ?_
          refine J_getI dX7_askedCorner_81 ck_7 fw_X7_79 rfl sh_28 ?_
          refine J_callV (as := [_, _]) (mc1 := 0) (ms1 := 0) (mc := 0) (ms := 0) dX7_askedCorner_84 mv_X7_fail lk_X7_119 sh_28 rfl (Nat.le_of_ble_eq_true rfl) (Nat.le_of_ble_eq_true rfl) h (fun r σ hq _ => ?_)
          obtain ⟨x5, I5, rfl, rfl, h⟩ := hq
          change J _ _ _ _ _ _ _ [vI x5] _ _
          refine J_pop dX7_askedCorner_87 rfl ?_
          refine J_iconst dX7_askedCorner_88 (ii_c rfl) ?_
          exact J_reti dX7_askedCorner_89 rfl h
        · replace h := h.2 c
          refine J_iload_n dX7_askedCorner_74 rfl rfl ?_
          refine J_if_eq (tgt := 90) dX7_askedCorner_75 (by decide) (fun _ => ?_) (fun c => absurd (by decide) c)
          refine J_aload_n dX7_askedCorner_90 rfl rfl ?_
          refine J_callV (as := []) (mc1 := 0) (ms1 := 0) (mc := 0) (ms := 0) dX7_askedCorner_91 mv_X7_advance lk_X7_62 sh_28 rfl (Nat.le_of_ble_eq_true rfl) (Nat.le_of_ble_eq_true rfl) h (fun r σ hq _ => ?_)
          obtain ⟨I6, rfl, rfl, h⟩ := hq
          change J _ _ _ _ _ _ _ [] _ _
          refine J_iload_n dX7_askedCorner_94 rfl rfl ?_
          exact J_reti dX7_askedCorner_95 rfl h
      · replace h := h.2 c
        refine J_iload_n dX7_askedCorner_40 rfl rfl ?_
        refine J_iload_n dX7_askedCorner_41 rfl rfl ?_
        refine J_ic_eq (tgt := 63) dX7_askedCorner_42 (by decide) (fun c => ?_) (fun c => ?_)
        · replace h := h.1 c
          refine J_iconst dX7_askedCorner_63 (ii_c rfl) ?_
          refine J_goto (tgt := 68) dX7_askedCorner_64 (by decide) ?_
          refine J_istore_n dX7_askedCorner_68 rfl (by decide) ?_
          refine J_iload_n dX7_askedCorner_69 rfl rfl ?_
          refine J_iconst dX7_askedCorner_70 (ii_c rfl) ?_
          refine J_ic_eq (tgt := 78) dX7_askedCorner_71 (by decide) (fun c => ?_) (fun c => ?_)
          · replace h := h.1 c
            refine J_aload_n dX7_askedCorner_78 rfl rfl ?_
            refine J_iconst dX7_askedCorner_79 (ii_c rfl) ?_
            refine J_aload_n dX7_askedCorner_80 rfl rfl ?_
            refine J_getI dX7_askedCorner_81 ck_7 fw_X7_79 rfl sh_28 ?_
            refine J_callV (as := [_, _]) (mc1 := 0) (ms1 := 0) (mc := 0) (ms := 0) dX7_askedCorner_84 mv_X7_fail lk_X7_119 sh_28 rfl (Nat.le_of_ble_eq_true rfl) (Nat.le_of_ble_eq_true rfl) h (fun r σ hq _ => ?_)
            obtain ⟨x7, I7, rfl, rfl, h⟩ := hq
            change J _ _ _ _ _ _ _ [vI x7] _ _
            refine J_pop dX7_askedCorner_87 rfl ?_
            refine J_iconst dX7_askedCorner_88 (ii_c rfl) ?_
            exact J_reti dX7_askedCorner_89 rfl h
          · replace h := h.2 c
            refine J_iload_n dX7_askedCorner_74 rfl rfl ?_
            refine J_if_eq (tgt := 90) dX7_askedCorner_75 (by decide) (fun c => absurd c (by decide)) (fun _ => ?_)
            refine J_aload_n dX7_askedCorner_78 rfl rfl ?_
            refine J_iconst dX7_askedCorner_79 (ii_c rfl) ?_
            refine J_aload_n dX7_askedCorner_80 rfl rfl ?_
            refine J_getI dX7_askedCorner_81 ck_7 fw_X7_79 rfl sh_28 ?_
            refine J_callV (as := [_, _]) (mc1 := 0) (ms1 := 0) (mc := 0) (ms := 0) dX7_askedCorner_84 mv_X7_fail lk_X7_119 sh_28 rfl (Nat.le_of_ble_eq_true rfl) (Nat.le_of_ble_eq_true rfl) h (fun r σ hq _ => ?_)
            obtain ⟨x8, I8, rfl, rfl, h⟩ := hq
            change J _ _ _ _ _ _ _ [vI x8] _ _
            refine J_pop dX7_askedCorner_87 rfl ?_
            refine J_iconst dX7_askedCorner_88 (ii_c rfl) ?_
            exact J_reti dX7_askedCorner_89 rfl h
        · replace h := h.2 c
          refine J_aload_n dX7_askedCorner_45 rfl rfl ?_
          refine J_getR dX7_askedCorner_46 ck_7 fw_X7_21 rfl sh_28 rr_28_0 ?_
          refine J_getR dX7_askedCorner_49 ck_0 fw_X7_177 rfl sh_14 rr_14_10 ?_
          refine J_iload_n dX7_askedCorner_52 rfl rfl ?_
          refine J_bipush dX7_askedCorner_53 (ii_c rfl) (by decide) ?_
          refine J_imulN dX7_askedCorner_55 h.1 ?_
          replace h := h.2
          refine J_iload_n dX7_askedCorner_56 rfl rfl ?_
          refine J_iaddN dX7_askedCorner_57 h.1 ?_
          replace h := h.2
          refine J_iald dX7_askedCorner_58 sh_25 h.1.1 h.1.2 ?_
          replace h := h.2
          refine J_iconst dX7_askedCorner_59 (ii_c rfl) ?_
          refine J_ic_eq (tgt := 67) dX7_askedCorner_60 (by decide) (fun c => ?_) (fun c => ?_)
          · replace h := h.1 c
            refine J_iconst dX7_askedCorner_67 (ii_c rfl) ?_
            refine J_istore_n dX7_askedCorner_68 rfl (by decide) ?_
            refine J_iload_n dX7_askedCorner_69 rfl rfl ?_
            refine J_iconst dX7_askedCorner_70 (ii_c rfl) ?_
            refine J_ic_eq (tgt := 78) dX7_askedCorner_71 (by decide) (fun c => ?_) (fun c => ?_)
            · replace h := h.1 c
              refine J_aload_n dX7_askedCorner_78 rfl rfl ?_
              refine J_iconst dX7_askedCorner_79 (ii_c rfl) ?_
              refine J_aload_n dX7_askedCorner_80 rfl rfl ?_
              refine J_getI dX7_askedCorner_81 ck_7 fw_X7_79 rfl sh_28 ?_
              refine J_callV (as := [_, _]) (mc1 := 0) (ms1 := 0) (mc := 0) (ms := 0) dX7_askedCorner_84 mv_X7_fail lk_X7_119 sh_28 rfl (Nat.le_of_ble_eq_true rfl) (Nat.le_of_ble_eq_true rfl) h (fun r σ hq _ => ?_)
              obtain ⟨x9, I9, rfl, rfl, h⟩ := hq
              change J _ _ _ _ _ _ _ [vI x9] _ _
              refine J_pop dX7_askedCorner_87 rfl ?_
              refine J_iconst dX7_askedCorner_88 (ii_c rfl) ?_
              exact J_reti dX7_askedCorner_89 rfl h
            · replace h := h.2 c
              refine J_iload_n dX7_askedCorner_74 rfl rfl ?_
              refine J_if_eq (tgt := 90) dX7_askedCorner_75 (by decide) (fun _ => ?_) (fun c => absurd (by decide) c)
              refine J_aload_n dX7_askedCorner_90 rfl rfl ?_
              refine J_callV (as := []) (mc1 := 0) (ms1 := 0) (mc := 0) (ms := 0) dX7_askedCorner_91 mv_X7_advance lk_X7_62 sh_28 rfl (Nat.le_of_ble_eq_true rfl) (Nat.le_of_ble_eq_true rfl) h (fun r σ hq _ => ?_)
              obtain ⟨I10, rfl, rfl, h⟩ := hq
              change J _ _ _ _ _ _ _ [] _ _
              refine J_iload_n dX7_askedCorner_94 rfl rfl ?_
              exact J_reti dX7_askedCorner_95 rfl h
          · replace h := h.2 c
            refine J_iconst dX7_askedCorner_63 (ii_c rfl) ?_
            refine J_goto (tgt := 68) dX7_askedCorner_64 (by decide) ?_
            refine J_istore_n dX7_askedCorner_68 rfl (by decide) ?_
            refine J_iload_n dX7_askedCorner_69 rfl rfl ?_
            refine J_iconst dX7_askedCorner_70 (ii_c rfl) ?_
            refine J_ic_eq (tgt := 78) dX7_askedCorner_71 (by decide) (fun c => ?_) (fun c => ?_)
            · replace h := h.1 c
              refine J_aload_n dX7_askedCorner_78 rfl rfl ?_
              refine J_iconst dX7_askedCorner_79 (ii_c rfl) ?_
              refine J_aload_n dX7_askedCorner_80 rfl rfl ?_
              refine J_getI dX7_askedCorner_81 ck_7 fw_X7_79 rfl sh_28 ?_
              refine J_callV (as := [_, _]) (mc1 := 0) (ms1 := 0) (mc := 0) (ms := 0) dX7_askedCorner_84 mv_X7_fail lk_X7_119 sh_28 rfl (Nat.le_of_ble_eq_true rfl) (Nat.le_of_ble_eq_true rfl) h (fun r σ hq _ => ?_)
              obtain ⟨x11, I11, rfl, rfl, h⟩ := hq
              change J _ _ _ _ _ _ _ [vI x11] _ _
              refine J_pop dX7_askedCorner_87 rfl ?_
              refine J_iconst dX7_askedCorner_88 (ii_c rfl) ?_
              exact J_reti dX7_askedCorner_89 rfl h
            · replace h := h.2 c
              refine J_iload_n dX7_askedCorner_74 rfl rfl ?_
              refine J_if_eq (tgt := 90) dX7_askedCorner_75 (by decide) (fun c => absurd c (by decide)) (fun _ => ?_)
              refine J_aload_n dX7_askedCorner_78 rfl rfl ?_
              refine J_iconst dX7_askedCorner_79 (ii_c rfl) ?_
              refine J_aload_n dX7_askedCorner_80 rfl rfl ?_
              refine J_getI dX7_askedCorner_81 ck_7 fw_X7_79 rfl sh_28 ?_
              refine J_callV (as := [_, _]) (mc1 := 0) (ms1 := 0) (mc := 0) (ms := 0) dX7_askedCorner_84 mv_X7_fail lk_X7_119 sh_28 rfl (Nat.le_of_ble_eq_true rfl) (Nat.le_of_ble_eq_true rfl) h (fun r σ hq _ => ?_)
              obtain ⟨x12, I12, rfl, rfl, h⟩ := hq
              change J _ _ _ _ _ _ _ [vI x12] _ _
              refine J_pop dX7_askedCorner_87 rfl ?_
              refine J_iconst dX7_askedCorner_88 (ii_c rfl) ?_
              exact J_reti dX7_askedCorner_89 rfl h
  · replace h := h.2 c
    refine J_iconst dX7_askedCorner_7 (ii_c rfl) ?_
    exact J_reti dX7_askedCorner_8 rfl h
set_option maxRecDepth 20000 in
set_option maxHeartbeats 2000000 in
theorem bk_X7_emit_0 {d : Nat} {I : HI} {Q : Option AV → AH → Prop} {a1 : Int}  (h : ((1600 ≤ (I 28 12) → Q none (mk I)) ∧ (¬ (1600 ≤ (I 28 12)) → (-2147483648 ≤ (I 28 12) + 1 ∧ (I 28 12) + 1 ≤ 2147483647) ∧ (∀ I1 : HI, I1 = up I 28 12 ((I 28 12) + 1) → ((0 : Int) ≤ (I 28 12) ∧ (I 28 12 : Int) < 1600) ∧ (∀ I2 : HI, I2 = up I1 22 (I 28 12).toNat a1 → Q none (mk I2)))))) : J none mX7_emit (d + 1) 0 0 0 [(0, vR 28), (1, vI a1)] [] (mk I) Q := by
  refine J_aload_n dX7_emit_0 rfl rfl ?_
  refine J_getI dX7_emit_1 ck_7 fw_X7_48 rfl sh_28 ?_
  refine J_aload_n dX7_emit_4 rfl rfl ?_
  refine J_getR dX7_emit_5 ck_7 fw_X7_21 rfl sh_28 rr_28_0 ?_
  refine J_getR dX7_emit_8 ck_0 fw_X7_180 rfl sh_14 rr_14_7 ?_
  refine J_alen dX7_emit_11 sh_22 (by decide) (by decide) ?_
  refine J_ic_ge (tgt := 35) dX7_emit_12 (by decide) (fun c => ?_) (fun c => ?_)
  · replace h := h.1 c
    exact J_retv dX7_emit_35 rfl h
  · replace h := h.2 c
    refine J_aload_n dX7_emit_15 rfl rfl ?_
    refine J_getR dX7_emit_16 ck_7 fw_X7_21 rfl sh_28 rr_28_0 ?_
    refine J_getR dX7_emit_19 ck_0 fw_X7_180 rfl sh_14 rr_14_7 ?_
    refine J_aload_n dX7_emit_22 rfl rfl ?_
    refine J_dup dX7_emit_23 rfl ?_
    refine J_getI dX7_emit_24 ck_7 fw_X7_48 rfl sh_28 ?_
    refine J_dup_x1 dX7_emit_27 rfl rfl ?_
    refine J_iconst dX7_emit_28 (ii_c rfl) ?_
    refine J_iaddN dX7_emit_29 h.1 ?_
    replace h := h.2
    refine J_putI dX7_emit_30 ck_7 fw_X7_48 rfl rfl (Or.inl rfl) sh_28 ?_
    replace h := h _ rfl
    refine J_iload_n dX7_emit_33 rfl rfl ?_
    refine J_iast dX7_emit_34 sh_22 h.1.1 h.1.2 ?_
    replace h := h.2 _ rfl
    exact J_retv dX7_emit_35 rfl h
set_option maxRecDepth 20000 in
set_option maxHeartbeats 2000000 in
theorem bk_X7_test_0 {d : Nat} {I : HI} {Q : Option AV → AH → Prop} {a1 : Int}  (h : J none mX7_test (d + 1) 0 0 7 [(0, vR 28), (1, vI a1), (2, vI 0), (3, vI 0), (4, vI 0)] [] (mk I) Q) : J none mX7_test (d + 1) 0 0 0 [(0, vR 28), (1, vI a1)] [] (mk I) Q := by
  refine J_iconst dX7_test_0 (ii_c rfl) ?_
  refine J_istore_n dX7_test_1 rfl (by decide) ?_
  refine J_iconst dX7_test_2 (ii_c rfl) ?_
  refine J_istore_n dX7_test_3 rfl (by decide) ?_
  refine J_iconst dX7_test_4 (ii_c rfl) ?_
  refine J_istore dX7_test_5 (by decide) ?_
  exact h
set_option maxRecDepth 20000 in
set_option maxHeartbeats 2000000 in
theorem bk_X7_test_7 {d : Nat} {I : HI} {Q : Option AV → AH → Prop} {a1 : Int} {a2 : Int} {a3 : Int} {a4 : Int}  (h : ((1600 ≤ a4 → CI mX7_fail d [vR 28, vI 1, vI (I 28 6)] I (fun x1 I1 => (x1 = 0 ∨ x1 = 1) ∧ Q (some (vI x1)) (mk I1))) ∧ (¬ (1600 ≤ a4) → CI mX7_fact d [vR 28, vI a1] I (fun x2 I2 => ((x2 ≠ 0 → ((a2 = 0 → J none mX7_test (d + 1) 0 0 35 [(0, vR 28), (1, vI a1), (2, vI a2), (3, vI a3), (4, vI a4)] [] (mk I2) Q) ∧ (¬ (a2 = 0) → CV mX7_emit d [vR 28, vI (-16)] I2 (fun I3 => J none mX7_test (d + 1) 0 0 35 [(0, vR 28), (1, vI a1), (2, vI a2), (3, vI a3), (4, vI a4)] [] (mk I3) Q)))) ∧ (x2 = 0 → Q (some (vI 0)) (mk I2))))))) : J none mX7_test (d + 1) 0 0 7 [(0, vR 28), (1, vI a1), (2, vI a2), (3, vI a3), (4, vI a4)] [] (mk I) Q := by
  refine J_iload dX7_test_7 rfl ?_
  refine J_sipush dX7_test_9 (ii_c rfl) (by decide) ?_
  refine J_ic_ge (tgt := 109) dX7_test_12 (by decide) (fun c => ?_) (fun c => ?_)
  · replace h := h.1 c
    refine J_aload_n dX7_test_109 rfl rfl ?_
    refine J_iconst dX7_test_110 (ii_c rfl) ?_
    refine J_aload_n dX7_test_111 rfl rfl ?_
    refine J_getI dX7_test_112 ck_7 fw_X7_79 rfl sh_28 ?_
    refine J_callV (as := [_, _]) (mc1 := 0) (ms1 := 0) (mc := 0) (ms := 0) dX7_test_115 mv_X7_fail lk_X7_119 sh_28 rfl (Nat.le_of_ble_eq_true rfl) (Nat.le_of_ble_eq_true rfl) h (fun r σ hq _ => ?_)
    obtain ⟨x1, I1, rfl, rfl, h⟩ := hq
    change J _ _ _ _ _ _ _ [vI x1] _ _
    exact J_retz dX7_test_118 rfl h.1 h.2
  · replace h := h.2 c
    refine J_aload_n dX7_test_15 rfl rfl ?_
    refine J_iload_n dX7_test_16 rfl rfl ?_
    refine J_callV (as := [_]) (mc1 := 0) (ms1 := 0) (mc := 0) (ms := 0) dX7_test_17 mv_X7_fact lk_X7_183 sh_28 rfl (Nat.le_of_ble_eq_true rfl) (Nat.le_of_ble_eq_true rfl) h (fun r σ hq _ => ?_)
    obtain ⟨x2, I2, rfl, rfl, h⟩ := hq
    change J _ _ _ _ _ _ _ [vI x2] _ _
    refine J_if_ne (tgt := 25) dX7_test_20 (by decide) (fun c => ?_) (fun c => ?_)
    · replace h := h.1 c
      refine J_iload_n dX7_test_25 rfl rfl ?_
      refine J_if_eq (tgt := 35) dX7_test_26 (by decide) (fun c => ?_) (fun c => ?_)
      · replace h := h.1 c
        exact h
      · replace h := h.2 c
        refine J_aload_n dX7_test_29 rfl rfl ?_
        refine J_bipush dX7_test_30 (ii_c rfl) (by decide) ?_
        refine J_callV (as := [_]) (mc1 := 0) (ms1 := 0) (mc := 0) (ms := 0) dX7_test_32 mv_X7_emit lk_X7_186 sh_28 rfl (Nat.le_of_ble_eq_true rfl) (Nat.le_of_ble_eq_true rfl) h (fun r σ hq _ => ?_)
        obtain ⟨I3, rfl, rfl, h⟩ := hq
        change J _ _ _ _ _ _ _ [] _ _
        exact h
    · replace h := h.2 c
      refine J_iconst dX7_test_23 (ii_c rfl) ?_
      exact J_retz dX7_test_24 rfl (Or.inl rfl) h
set_option maxRecDepth 20000 in
set_option maxHeartbeats 2000000 in
theorem bk_X7_test_35 {d : Nat} {I : HI} {Q : Option AV → AH → Prop} {a1 : Int} {a2 : Int} {a3 : Int} {a4 : Int}  (h : (((I 28 8) ≠ 17 → J none mX7_test (d + 1) 0 0 55 [(0, vR 28), (1, vI a1), (2, vI a2), (3, vI a3), (4, vI a4)] [] (mk I) Q) ∧ ((I 28 8) = 17 → (((I 28 9) ≠ 0 → J none mX7_test (d + 1) 0 0 55 [(0, vR 28), (1, vI a1), (2, vI a2), (3, vI a3), (4, vI a4)] [] (mk I) Q) ∧ ((I 28 9) = 0 → CV mX7_advance d [vR 28] I (fun I1 => (-2147483648 ≤ a4 + 1 ∧ a4 + 1 ≤ 2147483647) ∧ J none mX7_test (d + 1) 0 0 7 [(0, vR 28), (1, vI a1), (2, vI 1), (3, vI a3), (4, vI (a4 + 1))] [] (mk I1) Q)))))) : J none mX7_test (d + 1) 0 0 35 [(0, vR 28), (1, vI a1), (2, vI a2), (3, vI a3), (4, vI a4)] [] (mk I) Q := by
  refine J_aload_n dX7_test_35 rfl rfl ?_
  refine J_getI dX7_test_36 ck_7 fw_X7_45 rfl sh_28 ?_
  refine J_bipush dX7_test_39 (ii_c rfl) (by decide) ?_
  refine J_ic_ne (tgt := 55) dX7_test_41 (by decide) (fun c => ?_) (fun c => ?_)
  · replace h := h.1 c
    exact h
  · replace h := h.2 c
    refine J_aload_n dX7_test_44 rfl rfl ?_
    refine J_getI dX7_test_45 ck_7 fw_X7_82 rfl sh_28 ?_
    refine J_if_ne (tgt := 55) dX7_test_48 (by decide) (fun c => ?_) (fun c => ?_)
    · replace h := h.1 c
      exact h
    · replace h := h.2 c
      refine J_iconst dX7_test_51 (ii_c rfl) ?_
      refine J_goto (tgt := 56) dX7_test_52 (by decide) ?_
      refine J_istore_n dX7_test_56 rfl (by decide) ?_
      refine J_iload_n dX7_test_57 rfl rfl ?_
      refine J_if_ne (tgt := 99) dX7_test_58 (by decide) (fun _ => ?_) (fun c => absurd (by decide) c)
      refine J_aload_n dX7_test_99 rfl rfl ?_
      refine J_callV (as := []) (mc1 := 0) (ms1 := 0) (mc := 0) (ms := 0) dX7_test_100 mv_X7_advance lk_X7_62 sh_28 rfl (Nat.le_of_ble_eq_true rfl) (Nat.le_of_ble_eq_true rfl) h (fun r σ hq _ => ?_)
      obtain ⟨I1, rfl, rfl, h⟩ := hq
      change J _ _ _ _ _ _ _ [] _ _
      refine J_iincN dX7_test_103 rfl (by decide) h.1 ?_
      replace h := h.2
      refine J_goto (tgt := 7) dX7_test_106 (by decide) ?_
      exact h
set_option maxRecDepth 20000 in
set_option maxHeartbeats 2000000 in
theorem bk_X7_test_55 {d : Nat} {I : HI} {Q : Option AV → AH → Prop} {a1 : Int} {a2 : Int} {a3 : Int} {a4 : Int}  (h : ((a3 = 0 → (((I 28 8) ≠ 16 → Q (some (vI 1)) (mk I)) ∧ ((I 28 8) = 16 → (((I 28 9) ≠ 0 → Q (some (vI 1)) (mk I)) ∧ ((I 28 9) = 0 → CV mX7_advance d [vR 28] I (fun I1 => (-2147483648 ≤ a4 + 1 ∧ a4 + 1 ≤ 2147483647) ∧ J none mX7_test (d + 1) 0 0 7 [(0, vR 28), (1, vI a1), (2, vI 0), (3, vI 1), (4, vI (a4 + 1))] [] (mk I1) Q)))))) ∧ (¬ (a3 = 0) → CV mX7_emit d [vR 28, vI (-17)] I (fun I2 => (((I2 28 8) ≠ 16 → Q (some (vI 1)) (mk I2)) ∧ ((I2 28 8) = 16 → (((I2 28 9) ≠ 0 → Q (some (vI 1)) (mk I2)) ∧ ((I2 28 9) = 0 → CV mX7_advance d [vR 28] I2 (fun I3 => (-2147483648 ≤ a4 + 1 ∧ a4 + 1 ≤ 2147483647) ∧ J none mX7_test (d + 1) 0 0 7 [(0, vR 28), (1, vI a1), (2, vI 0), (3, vI 1), (4, vI (a4 + 1))] [] (mk I3) Q))))))))) : J none mX7_test (d + 1) 0 0 55 [(0, vR 28), (1, vI a1), (2, vI a2), (3, vI a3), (4, vI a4)] [] (mk I) Q := by
  refine J_iconst dX7_test_55 (ii_c rfl) ?_
  refine J_istore_n dX7_test_56 rfl (by decide) ?_
  refine J_iload_n dX7_test_57 rfl rfl ?_
  refine J_if_ne (tgt := 99) dX7_test_58 (by decide) (fun c => absurd c (by decide)) (fun _ => ?_)
  refine J_iload_n dX7_test_61 rfl rfl ?_
  refine J_if_eq (tgt := 71) dX7_test_62 (by decide) (fun c => ?_) (fun c => ?_)
  · replace h := h.1 c
    refine J_aload_n dX7_test_71 rfl rfl ?_
    refine J_getI dX7_test_72 ck_7 fw_X7_45 rfl sh_28 ?_
    refine J_bipush dX7_test_75 (ii_c rfl) (by decide) ?_
    refine J_ic_ne (tgt := 91) dX7_test_77 (by decide) (fun c => ?_) (fun c => ?_)
    · replace h := h.1 c
      refine J_iconst dX7_test_91 (ii_c rfl) ?_
      refine J_istore_n dX7_test_92 rfl (by decide) ?_
      refine J_iload_n dX7_test_93 rfl rfl ?_
      refine J_if_ne (tgt := 99) dX7_test_94 (by decide) (fun c => absurd c (by decide)) (fun _ => ?_)
      refine J_iconst dX7_test_97 (ii_c rfl) ?_
      exact J_retz dX7_test_98 rfl (Or.inr rfl) h
    · replace h := h.2 c
      refine J_aload_n dX7_test_80 rfl rfl ?_
      refine J_getI dX7_test_81 ck_7 fw_X7_82 rfl sh_28 ?_
      refine J_if_ne (tgt := 91) dX7_test_84 (by decide) (fun c => ?_) (fun c => ?_)
      · replace h := h.1 c
        refine J_iconst dX7_test_91 (ii_c rfl) ?_
        refine J_istore_n dX7_test_92 rfl (by decide) ?_
        refine J_iload_n dX7_test_93 rfl rfl ?_
        refine J_if_ne (tgt := 99) dX7_test_94 (by decide) (fun c => absurd c (by decide)) (fun _ => ?_)
        refine J_iconst dX7_test_97 (ii_c rfl) ?_
        exact J_retz dX7_test_98 rfl (Or.inr rfl) h
      · replace h := h.2 c
        refine J_iconst dX7_test_87 (ii_c rfl) ?_
        refine J_goto (tgt := 92) dX7_test_88 (by decide) ?_
        refine J_istore_n dX7_test_92 rfl (by decide) ?_
        refine J_iload_n dX7_test_93 rfl rfl ?_
        refine J_if_ne (tgt := 99) dX7_test_94 (by decide) (fun _ => ?_) (fun c => absurd (by decide) c)
        refine J_aload_n dX7_test_99 rfl rfl ?_
        refine J_callV (as := []) (mc1 := 0) (ms1 := 0) (mc := 0) (ms := 0) dX7_test_100 mv_X7_advance lk_X7_62 sh_28 rfl (Nat.le_of_ble_eq_true rfl) (Nat.le_of_ble_eq_true rfl) h (fun r σ hq _ => ?_)
        obtain ⟨I1, rfl, rfl, h⟩ := hq
        change J _ _ _ _ _ _ _ [] _ _
        refine J_iincN dX7_test_103 rfl (by decide) h.1 ?_
        replace h := h.2
        refine J_goto (tgt := 7) dX7_test_106 (by decide) ?_
        exact h
  · replace h := h.2 c
    refine J_aload_n dX7_test_65 rfl rfl ?_
    refine J_bipush dX7_test_66 (ii_c rfl) (by decide) ?_
    refine J_callV (as := [_]) (mc1 := 0) (ms1 := 0) (mc := 0) (ms := 0) dX7_test_68 mv_X7_emit lk_X7_186 sh_28 rfl (Nat.le_of_ble_eq_true rfl) (Nat.le_of_ble_eq_true rfl) h (fun r σ hq _ => ?_)
    obtain ⟨I2, rfl, rfl, h⟩ := hq
    change J _ _ _ _ _ _ _ [] _ _
    refine J_aload_n dX7_test_71 rfl rfl ?_
    refine J_getI dX7_test_72 ck_7 fw_X7_45 rfl sh_28 ?_
    refine J_bipush dX7_test_75 (ii_c rfl) (by decide) ?_
    refine J_ic_ne (tgt := 91) dX7_test_77 (by decide) (fun c => ?_) (fun c => ?_)
    · replace h := h.1 c
      refine J_iconst dX7_test_91 (ii_c rfl) ?_
      refine J_istore_n dX7_test_92 rfl (by decide) ?_
      refine J_iload_n dX7_test_93 rfl rfl ?_
      refine J_if_ne (tgt := 99) dX7_test_94 (by decide) (fun c => absurd c (by decide)) (fun _ => ?_)
      refine J_iconst dX7_test_97 (ii_c rfl) ?_
      exact J_retz dX7_test_98 rfl (Or.inr rfl) h
    · replace h := h.2 c
      refine J_aload_n dX7_test_80 rfl rfl ?_
      refine J_getI dX7_test_81 ck_7 fw_X7_82 rfl sh_28 ?_
      refine J_if_ne (tgt := 91) dX7_test_84 (by decide) (fun c => ?_) (fun c => ?_)
      · replace h := h.1 c
        refine J_iconst dX7_test_91 (ii_c rfl) ?_
        refine J_istore_n dX7_test_92 rfl (by decide) ?_
        refine J_iload_n dX7_test_93 rfl rfl ?_
        refine J_if_ne (tgt := 99) dX7_test_94 (by decide) (fun c => absurd c (by decide)) (fun _ => ?_)
        refine J_iconst dX7_test_97 (ii_c rfl) ?_
        exact J_retz dX7_test_98 rfl (Or.inr rfl) h
      · replace h := h.2 c
        refine J_iconst dX7_test_87 (ii_c rfl) ?_
        refine J_goto (tgt := 92) dX7_test_88 (by decide) ?_
        refine J_istore_n dX7_test_92 rfl (by decide) ?_
        refine J_iload_n dX7_test_93 rfl rfl ?_
        refine J_if_ne (tgt := 99) dX7_test_94 (by decide) (fun _ => ?_) (fun c => absurd (by decide) c)
        refine J_aload_n dX7_test_99 rfl rfl ?_
        refine J_callV (as := []) (mc1 := 0) (ms1 := 0) (mc := 0) (ms := 0) dX7_test_100 mv_X7_advance lk_X7_62 sh_28 rfl (Nat.le_of_ble_eq_true rfl) (Nat.le_of_ble_eq_true rfl) h (fun r σ hq _ => ?_)
        obtain ⟨I3, rfl, rfl, h⟩ := hq
        change J _ _ _ _ _ _ _ [] _ _
        refine J_iincN dX7_test_103 rfl (by decide) h.1 ?_
        replace h := h.2
        refine J_goto (tgt := 7) dX7_test_106 (by decide) ?_
        exact h
set_option maxRecDepth 20000 in
set_option maxHeartbeats 2000000 in
theorem bk_X7_fact_0 {d : Nat} {I : HI} {Q : Option AV → AH → Prop} {a1 : Int}  (h : (((I 28 8) ≠ 18 → CI mX7_isSign d [vR 28, vI 91] I (fun x1 I1 => ((x1 = 0 → (((I1 28 8) ≠ 19 → CI mX7_sum d [vR 28, vI a1] I1 (fun x2 I2 => ((x2 ≠ 0 → CI mX7_isSign d [vR 28, vI 60] I2 (fun x3 I3 => ((x3 = 0 → CI mX7_isSign d [vR 28, vI 62] I3 (fun x4 I4 => ((x4 = 0 → CI mX7_isSign d [vR 28, vI 61] I4 (fun x5 I5 => ((x5 = 0 → CI mX7_fail d [vR 28, vI 1, vI (I5 28 6)] I5 (fun x6 I6 => (x6 = 0 ∨ x6 = 1) ∧ Q (some (vI x6)) (mk I6))) ∧ (¬ (x5 = 0) → CV mX7_advance d [vR 28] I5 (fun I7 => CI mX7_sum d [vR 28, vI a1] I7 (fun x8 I8 => CV mX7_emit d [vR 28, vI (-14)] I8 (fun I9 => (x8 = 0 ∨ x8 = 1) ∧ Q (some (vI x8)) (mk I9)))))))) ∧ (¬ (x4 = 0) → CV mX7_advance d [vR 28] I4 (fun I10 => CI mX7_sum d [vR 28, vI a1] I10 (fun x11 I11 => CV mX7_emit d [vR 28, vI (-13)] I11 (fun I12 => (x11 = 0 ∨ x11 = 1) ∧ Q (some (vI x11)) (mk I12)))))))) ∧ (¬ (x3 = 0) → CV mX7_advance d [vR 28] I3 (fun I13 => CI mX7_sum d [vR 28, vI a1] I13 (fun x14 I14 => CV mX7_emit d [vR 28, vI (-12)] I14 (fun I15 => (x14 = 0 ∨ x14 = 1) ∧ Q (some (vI x14)) (mk I15)))))))) ∧ (x2 = 0 → Q (some (vI 0)) (mk I2))))) ∧ ((I1 28 8) = 19 → CV mX7_emit d [vR 28, vI 1] I1 (fun I16 => CV mX7_advance d [vR 28] I16 (fun I17 => Q (some (vI 1)) (mk I17)))))) ∧ (¬ (x1 = 0) → CI mX7_roomIn d [vR 28, vI a1] I1 (fun x18 I18 => ((x18 = 0 → Q (some (vI 0)) (mk I18)) ∧ (¬ (x18 = 0) → CI mX7_sign d [vR 28, vI 91] I18 (fun x19 I19 => ((x19 = 0 → Q (some (vI 0)) (mk I19)) ∧ (¬ (x19 = 0) → (-2147483648 ≤ a1 + 1 ∧ a1 + 1 ≤ 2147483647) ∧ CI mX7_test d [vR 28, vI (a1 + 1)] I19 (fun x20 I20 => ((x20 = 0 → Q (some (vI 0)) (mk I20)) ∧ (¬ (x20 = 0) → CI mX7_sign d [vR 28, vI 93] I20 (fun x21 I21 => ((x21 = 0 → Q (some (vI 0)) (mk I21)) ∧ (¬ (x21 = 0) → Q (some (vI 1)) (mk I21))))))))))))))))) ∧ ((I 28 8) = 18 → CI mX7_roomIn d [vR 28, vI a1] I (fun x22 I22 => ((x22 ≠ 0 → CV mX7_advance d [vR 28] I22 (fun I23 => (-2147483648 ≤ a1 + 1 ∧ a1 + 1 ≤ 2147483647) ∧ CI mX7_fact d [vR 28, vI (a1 + 1)] I23 (fun x24 I24 => CV mX7_emit d [vR 28, vI (-15)] I24 (fun I25 => (x24 = 0 ∨ x24 = 1) ∧ Q (some (vI x24)) (mk I25))))) ∧ (x22 = 0 → Q (some (vI 0)) (mk I22))))))) : J none mX7_fact (d + 1) 0 0 0 [(0, vR 28), (1, vI a1)] [] (mk I) Q := by
  refine J_aload_n dX7_fact_0 rfl rfl ?_
  refine J_getI dX7_fact_1 ck_7 fw_X7_45 rfl sh_28 ?_
  refine J_bipush dX7_fact_4 (ii_c rfl) (by decide) ?_
  refine J_ic_ne (tgt := 39) dX7_fact_6 (by decide) (fun c => ?_) (fun c => ?_)
  · replace h := h.1 c
    refine J_aload_n dX7_fact_39 rfl rfl ?_
    refine J_bipush dX7_fact_40 (ii_c rfl) (by decide) ?_
    refine J_callV (as := [_]) (mc1 := 0) (ms1 := 0) (mc := 0) (ms := 0) dX7_fact_42 mv_X7_isSign lk_X7_164 sh_28 rfl (Nat.le_of_ble_eq_true rfl) (Nat.le_of_ble_eq_true rfl) h (fun r σ hq _ => ?_)
    obtain ⟨x1, I1, rfl, rfl, h⟩ := hq
    change J _ _ _ _ _ _ _ [vI x1] _ _
    refine J_if_eq (tgt := 90) dX7_fact_45 (by decide) (fun c => ?_) (fun c => ?_)
    · replace h := h.1 c
      refine J_aload_n dX7_fact_90 rfl rfl ?_
      refine J_getI dX7_fact_91 ck_7 fw_X7_45 rfl sh_28 ?_
      refine J_bipush dX7_fact_94 (ii_c rfl) (by decide) ?_
      refine J_ic_ne (tgt := 110) dX7_fact_96 (by decide) (fun c => ?_) (fun c => ?_)
      · replace h := h.1 c
        refine J_aload_n dX7_fact_110 rfl rfl ?_
        refine J_iload_n dX7_fact_111 rfl rfl ?_
        refine J_callV (as := [_]) (mc1 := 0) (ms1 := 0) (mc := 0) (ms := 0) dX7_fact_112 mv_X7_sum lk_X7_192 sh_28 rfl (Nat.le_of_ble_eq_true rfl) (Nat.le_of_ble_eq_true rfl) h (fun r σ hq _ => ?_)
        obtain ⟨x2, I2, rfl, rfl, h⟩ := hq
        change J _ _ _ _ _ _ _ [vI x2] _ _
        refine J_if_ne (tgt := 120) dX7_fact_115 (by decide) (fun c => ?_) (fun c => ?_)
        · replace h := h.1 c
          refine J_aload_n dX7_fact_120 rfl rfl ?_
          refine J_bipush dX7_fact_121 (ii_c rfl) (by decide) ?_
          refine J_callV (as := [_]) (mc1 := 0) (ms1 := 0) (mc := 0) (ms := 0) dX7_fact_123 mv_X7_isSign lk_X7_164 sh_28 rfl (Nat.le_of_ble_eq_true rfl) (Nat.le_of_ble_eq_true rfl) h (fun r σ hq _ => ?_)
          obtain ⟨x3, I3, rfl, rfl, h⟩ := hq
          change J _ _ _ _ _ _ _ [vI x3] _ _
          refine J_if_eq (tgt := 134) dX7_fact_126 (by decide) (fun c => ?_) (fun c => ?_)
          · replace h := h.1 c
            refine J_aload_n dX7_fact_134 rfl rfl ?_
            refine J_bipush dX7_fact_135 (ii_c rfl) (by decide) ?_
            refine J_callV (as := [_]) (mc1 := 0) (ms1 := 0) (mc := 0) (ms := 0) dX7_fact_137 mv_X7_isSign lk_X7_164 sh_28 rfl (Nat.le_of_ble_eq_true rfl) (Nat.le_of_ble_eq_true rfl) h (fun r σ hq _ => ?_)
            obtain ⟨x4, I4, rfl, rfl, h⟩ := hq
            change J _ _ _ _ _ _ _ [vI x4] _ _
            refine J_if_eq (tgt := 148) dX7_fact_140 (by decide) (fun c => ?_) (fun c => ?_)
            · replace h := h.1 c
              refine J_aload_n dX7_fact_148 rfl rfl ?_
              refine J_bipush dX7_fact_149 (ii_c rfl) (by decide) ?_
              refine J_callV (as := [_]) (mc1 := 0) (ms1 := 0) (mc := 0) (ms := 0) dX7_fact_151 mv_X7_isSign lk_X7_164 sh_28 rfl (Nat.le_of_ble_eq_true rfl) (Nat.le_of_ble_eq_true rfl) h (fun r σ hq _ => ?_)
              obtain ⟨x5, I5, rfl, rfl, h⟩ := hq
              change J _ _ _ _ _ _ _ [vI x5] _ _
              refine J_if_eq (tgt := 162) dX7_fact_154 (by decide) (fun c => ?_) (fun c => ?_)
              · replace h := h.1 c
                refine J_iconst dX7_fact_162 (ii_c rfl) ?_
                refine J_istore_n dX7_fact_163 rfl (by decide) ?_
                refine J_iload_n dX7_fact_164 rfl rfl ?_
                refine J_if_ne (tgt := 178) dX7_fact_165 (by decide) (fun c => absurd c (by decide)) (fun _ => ?_)
                refine J_aload_n dX7_fact_168 rfl rfl ?_
                refine J_iconst dX7_fact_169 (ii_c rfl) ?_
                refine J_aload_n dX7_fact_170 rfl rfl ?_
                refine J_getI dX7_fact_171 ck_7 fw_X7_79 rfl sh_28 ?_
                refine J_callV (as := [_, _]) (mc1 := 0) (ms1 := 0) (mc := 0) (ms := 0) dX7_fact_174 mv_X7_fail lk_X7_119 sh_28 rfl (Nat.le_of_ble_eq_true rfl) (Nat.le_of_ble_eq_true rfl) h (fun r σ hq _ => ?_)
                obtain ⟨x6, I6, rfl, rfl, h⟩ := hq
                change J _ _ _ _ _ _ _ [vI x6] _ _
                exact J_retz dX7_fact_177 rfl h.1 h.2
              · replace h := h.2 c
                refine J_bipush dX7_fact_157 (ii_c rfl) (by decide) ?_
                refine J_goto (tgt := 163) dX7_fact_159 (by decide) ?_
                refine J_istore_n dX7_fact_163 rfl (by decide) ?_
                refine J_iload_n dX7_fact_164 rfl rfl ?_
                refine J_if_ne (tgt := 178) dX7_fact_165 (by decide) (fun _ => ?_) (fun c => absurd (by decide) c)
                refine J_aload_n dX7_fact_178 rfl rfl ?_
                refine J_callV (as := []) (mc1 := 0) (ms1 := 0) (mc := 0) (ms := 0) dX7_fact_179 mv_X7_advance lk_X7_62 sh_28 rfl (Nat.le_of_ble_eq_true rfl) (Nat.le_of_ble_eq_true rfl) h (fun r σ hq _ => ?_)
                obtain ⟨I7, rfl, rfl, h⟩ := hq
                change J _ _ _ _ _ _ _ [] _ _
                refine J_aload_n dX7_fact_182 rfl rfl ?_
                refine J_iload_n dX7_fact_183 rfl rfl ?_
                refine J_callV (as := [_]) (mc1 := 0) (ms1 := 0) (mc := 0) (ms := 0) dX7_fact_184 mv_X7_sum lk_X7_192 sh_28 rfl (Nat.le_of_ble_eq_true rfl) (Nat.le_of_ble_eq_true rfl) h (fun r σ hq _ => ?_)
                obtain ⟨x8, I8, rfl, rfl, h⟩ := hq
                change J _ _ _ _ _ _ _ [vI x8] _ _
                refine J_istore_n dX7_fact_187 rfl (by decide) ?_
                refine J_aload_n dX7_fact_188 rfl rfl ?_
                refine J_iload_n dX7_fact_189 rfl rfl ?_
                refine J_callV (as := [_]) (mc1 := 0) (ms1 := 0) (mc := 0) (ms := 0) dX7_fact_190 mv_X7_emit lk_X7_186 sh_28 rfl (Nat.le_of_ble_eq_true rfl) (Nat.le_of_ble_eq_true rfl) h (fun r σ hq _ => ?_)
                obtain ⟨I9, rfl, rfl, h⟩ := hq
                change J _ _ _ _ _ _ _ [] _ _
                refine J_iload_n dX7_fact_193 rfl rfl ?_
                exact J_retz dX7_fact_194 rfl h.1 h.2
            · replace h := h.2 c
              refine J_bipush dX7_fact_143 (ii_c rfl) (by decide) ?_
              refine J_goto (tgt := 163) dX7_fact_145 (by decide) ?_
              refine J_istore_n dX7_fact_163 rfl (by decide) ?_
              refine J_iload_n dX7_fact_164 rfl rfl ?_
              refine J_if_ne (tgt := 178) dX7_fact_165 (by decide) (fun _ => ?_) (fun c => absurd (by decide) c)
              refine J_aload_n dX7_fact_178 rfl rfl ?_
              refine J_callV (as := []) (mc1 := 0) (ms1 := 0) (mc := 0) (ms := 0) dX7_fact_179 mv_X7_advance lk_X7_62 sh_28 rfl (Nat.le_of_ble_eq_true rfl) (Nat.le_of_ble_eq_true rfl) h (fun r σ hq _ => ?_)
              obtain ⟨I10, rfl, rfl, h⟩ := hq
              change J _ _ _ _ _ _ _ [] _ _
              refine J_aload_n dX7_fact_182 rfl rfl ?_
              refine J_iload_n dX7_fact_183 rfl rfl ?_
              refine J_callV (as := [_]) (mc1 := 0) (ms1 := 0) (mc := 0) (ms := 0) dX7_fact_184 mv_X7_sum lk_X7_192 sh_28 rfl (Nat.le_of_ble_eq_true rfl) (Nat.le_of_ble_eq_true rfl) h (fun r σ hq _ => ?_)
              obtain ⟨x11, I11, rfl, rfl, h⟩ := hq
              change J _ _ _ _ _ _ _ [vI x11] _ _
              refine J_istore_n dX7_fact_187 rfl (by decide) ?_
              refine J_aload_n dX7_fact_188 rfl rfl ?_
              refine J_iload_n dX7_fact_189 rfl rfl ?_
              refine J_callV (as := [_]) (mc1 := 0) (ms1 := 0) (mc := 0) (ms := 0) dX7_fact_190 mv_X7_emit lk_X7_186 sh_28 rfl (Nat.le_of_ble_eq_true rfl) (Nat.le_of_ble_eq_true rfl) h (fun r σ hq _ => ?_)
              obtain ⟨I12, rfl, rfl, h⟩ := hq
              change J _ _ _ _ _ _ _ [] _ _
              refine J_iload_n dX7_fact_193 rfl rfl ?_
              exact J_retz dX7_fact_194 rfl h.1 h.2
          · replace h := h.2 c
            refine J_bipush dX7_fact_129 (ii_c rfl) (by decide) ?_
            refine J_goto (tgt := 163) dX7_fact_131 (by decide) ?_
            refine J_istore_n dX7_fact_163 rfl (by decide) ?_
            refine J_iload_n dX7_fact_164 rfl rfl ?_
            refine J_if_ne (tgt := 178) dX7_fact_165 (by decide) (fun _ => ?_) (fun c => absurd (by decide) c)
            refine J_aload_n dX7_fact_178 rfl rfl ?_
            refine J_callV (as := []) (mc1 := 0) (ms1 := 0) (mc := 0) (ms := 0) dX7_fact_179 mv_X7_advance lk_X7_62 sh_28 rfl (Nat.le_of_ble_eq_true rfl) (Nat.le_of_ble_eq_true rfl) h (fun r σ hq _ => ?_)
            obtain ⟨I13, rfl, rfl, h⟩ := hq
            change J _ _ _ _ _ _ _ [] _ _
            refine J_aload_n dX7_fact_182 rfl rfl ?_
            refine J_iload_n dX7_fact_183 rfl rfl ?_
            refine J_callV (as := [_]) (mc1 := 0) (ms1 := 0) (mc := 0) (ms := 0) dX7_fact_184 mv_X7_sum lk_X7_192 sh_28 rfl (Nat.le_of_ble_eq_true rfl) (Nat.le_of_ble_eq_true rfl) h (fun r σ hq _ => ?_)
            obtain ⟨x14, I14, rfl, rfl, h⟩ := hq
            change J _ _ _ _ _ _ _ [vI x14] _ _
            refine J_istore_n dX7_fact_187 rfl (by decide) ?_
            refine J_aload_n dX7_fact_188 rfl rfl ?_
            refine J_iload_n dX7_fact_189 rfl rfl ?_
            refine J_callV (as := [_]) (mc1 := 0) (ms1 := 0) (mc := 0) (ms := 0) dX7_fact_190 mv_X7_emit lk_X7_186 sh_28 rfl (Nat.le_of_ble_eq_true rfl) (Nat.le_of_ble_eq_true rfl) h (fun r σ hq _ => ?_)
            obtain ⟨I15, rfl, rfl, h⟩ := hq
            change J _ _ _ _ _ _ _ [] _ _
            refine J_iload_n dX7_fact_193 rfl rfl ?_
            exact J_retz dX7_fact_194 rfl h.1 h.2
        · replace h := h.2 c
          refine J_iconst dX7_fact_118 (ii_c rfl) ?_
          exact J_retz dX7_fact_119 rfl (Or.inl rfl) h
      · replace h := h.2 c
        refine J_aload_n dX7_fact_99 rfl rfl ?_
        refine J_iconst dX7_fact_100 (ii_c rfl) ?_
        refine J_callV (as := [_]) (mc1 := 0) (ms1 := 0) (mc := 0) (ms := 0) dX7_fact_101 mv_X7_emit lk_X7_186 sh_28 rfl (Nat.le_of_ble_eq_true rfl) (Nat.le_of_ble_eq_true rfl) h (fun r σ hq _ => ?_)
        obtain ⟨I16, rfl, rfl, h⟩ := hq
        change J _ _ _ _ _ _ _ [] _ _
        refine J_aload_n dX7_fact_104 rfl rfl ?_
        refine J_callV (as := []) (mc1 := 0) (ms1 := 0) (mc := 0) (ms := 0) dX7_fact_105 mv_X7_advance lk_X7_62 sh_28 rfl (Nat.le_of_ble_eq_true rfl) (Nat.le_of_ble_eq_true rfl) h (fun r σ hq _ => ?_)
        obtain ⟨I17, rfl, rfl, h⟩ := hq
        change J _ _ _ _ _ _ _ [] _ _
        refine J_iconst dX7_fact_108 (ii_c rfl) ?_
        exact J_retz dX7_fact_109 rfl (Or.inr rfl) h
    · replace h := h.2 c
      refine J_aload_n dX7_fact_48 rfl rfl ?_
      refine J_iload_n dX7_fact_49 rfl rfl ?_
      refine J_callV (as := [_]) (mc1 := 0) (ms1 := 0) (mc := 0) (ms := 0) dX7_fact_50 mv_X7_roomIn lk_X7_189 sh_28 rfl (Nat.le_of_ble_eq_true rfl) (Nat.le_of_ble_eq_true rfl) h (fun r σ hq _ => ?_)
      obtain ⟨x18, I18, rfl, rfl, h⟩ := hq
      change J _ _ _ _ _ _ _ [vI x18] _ _
      refine J_if_eq (tgt := 88) dX7_fact_53 (by decide) (fun c => ?_) (fun c => ?_)
      · replace h := h.1 c
        refine J_iconst dX7_fact_88 (ii_c rfl) ?_
        exact J_retz dX7_fact_89 rfl (Or.inl rfl) h
      · replace h := h.2 c
        refine J_aload_n dX7_fact_56 rfl rfl ?_
        refine J_bipush dX7_fact_57 (ii_c rfl) (by decide) ?_
        refine J_callV (as := [_]) (mc1 := 0) (ms1 := 0) (mc := 0) (ms := 0) dX7_fact_59 mv_X7_sign lk_X7_122 sh_28 rfl (Nat.le_of_ble_eq_true rfl) (Nat.le_of_ble_eq_true rfl) h (fun r σ hq _ => ?_)
        obtain ⟨x19, I19, rfl, rfl, h⟩ := hq
        change J _ _ _ _ _ _ _ [vI x19] _ _
        refine J_if_eq (tgt := 88) dX7_fact_62 (by decide) (fun c => ?_) (fun c => ?_)
        · replace h := h.1 c
          refine J_iconst dX7_fact_88 (ii_c rfl) ?_
          exact J_retz dX7_fact_89 rfl (Or.inl rfl) h
        · replace h := h.2 c
          refine J_aload_n dX7_fact_65 rfl rfl ?_
          refine J_iload_n dX7_fact_66 rfl rfl ?_
          refine J_iconst dX7_fact_67 (ii_c rfl) ?_
          refine J_iaddN dX7_fact_68 h.1 ?_
          replace h := h.2
          refine J_callV (as := [_]) (mc1 := 0) (ms1 := 0) (mc := 0) (ms := 0) dX7_fact_69 mv_X7_test lk_X7_103 sh_28 rfl (Nat.le_of_ble_eq_true rfl) (Nat.le_of_ble_eq_true rfl) h (fun r σ hq _ => ?_)
          obtain ⟨x20, I20, rfl, rfl, h⟩ := hq
          change J _ _ _ _ _ _ _ [vI x20] _ _
          refine J_if_eq (tgt := 88) dX7_fact_72 (by decide) (fun c => ?_) (fun c => ?_)
          · replace h := h.1 c
            refine J_iconst dX7_fact_88 (ii_c rfl) ?_
            exact J_retz dX7_fact_89 rfl (Or.inl rfl) h
          · replace h := h.2 c
            refine J_aload_n dX7_fact_75 rfl rfl ?_
            refine J_bipush dX7_fact_76 (ii_c rfl) (by decide) ?_
            refine J_callV (as := [_]) (mc1 := 0) (ms1 := 0) (mc := 0) (ms := 0) dX7_fact_78 mv_X7_sign lk_X7_122 sh_28 rfl (Nat.le_of_ble_eq_true rfl) (Nat.le_of_ble_eq_true rfl) h (fun r σ hq _ => ?_)
            obtain ⟨x21, I21, rfl, rfl, h⟩ := hq
            change J _ _ _ _ _ _ _ [vI x21] _ _
            refine J_if_eq (tgt := 88) dX7_fact_81 (by decide) (fun c => ?_) (fun c => ?_)
            · replace h := h.1 c
              refine J_iconst dX7_fact_88 (ii_c rfl) ?_
              exact J_retz dX7_fact_89 rfl (Or.inl rfl) h
            · replace h := h.2 c
              refine J_iconst dX7_fact_84 (ii_c rfl) ?_
              refine J_goto (tgt := 89) dX7_fact_85 (by decide) ?_
              exact J_retz dX7_fact_89 rfl (Or.inr rfl) h
  · replace h := h.2 c
    refine J_aload_n dX7_fact_9 rfl rfl ?_
    refine J_iload_n dX7_fact_10 rfl rfl ?_
    refine J_callV (as := [_]) (mc1 := 0) (ms1 := 0) (mc := 0) (ms := 0) dX7_fact_11 mv_X7_roomIn lk_X7_189 sh_28 rfl (Nat.le_of_ble_eq_true rfl) (Nat.le_of_ble_eq_true rfl) h (fun r σ hq _ => ?_)
    obtain ⟨x22, I22, rfl, rfl, h⟩ := hq
    change J _ _ _ _ _ _ _ [vI x22] _ _
    refine J_if_ne (tgt := 19) dX7_fact_14 (by decide) (fun c => ?_) (fun c => ?_)
    · replace h := h.1 c
      refine J_aload_n dX7_fact_19 rfl rfl ?_
      refine J_callV (as := []) (mc1 := 0) (ms1 := 0) (mc := 0) (ms := 0) dX7_fact_20 mv_X7_advance lk_X7_62 sh_28 rfl (Nat.le_of_ble_eq_true rfl) (Nat.le_of_ble_eq_true rfl) h (fun r σ hq _ => ?_)
      obtain ⟨I23, rfl, rfl, h⟩ := hq
      change J _ _ _ _ _ _ _ [] _ _
      refine J_aload_n dX7_fact_23 rfl rfl ?_
      refine J_iload_n dX7_fact_24 rfl rfl ?_
      refine J_iconst dX7_fact_25 (ii_c rfl) ?_
      refine J_iaddN dX7_fact_26 h.1 ?_
      replace h := h.2
      refine J_callV (as := [_]) (mc1 := 0) (ms1 := 0) (mc := 0) (ms := 0) dX7_fact_27 mv_X7_fact lk_X7_183 sh_28 rfl (Nat.le_of_ble_eq_true rfl) (Nat.le_of_ble_eq_true rfl) h (fun r σ hq _ => ?_)
      obtain ⟨x24, I24, rfl, rfl, h⟩ := hq
      change J _ _ _ _ _ _ _ [vI x24] _ _
      refine J_istore_n dX7_fact_30 rfl (by decide) ?_
      refine J_aload_n dX7_fact_31 rfl rfl ?_
      refine J_bipush dX7_fact_32 (ii_c rfl) (by decide) ?_
      refine J_callV (as := [_]) (mc1 := 0) (ms1 := 0) (mc := 0) (ms := 0) dX7_fact_34 mv_X7_emit lk_X7_186 sh_28 rfl (Nat.le_of_ble_eq_true rfl) (Nat.le_of_ble_eq_true rfl) h (fun r σ hq _ => ?_)
      obtain ⟨I25, rfl, rfl, h⟩ := hq
      change J _ _ _ _ _ _ _ [] _ _
      refine J_iload_n dX7_fact_37 rfl rfl ?_
      exact J_retz dX7_fact_38 rfl h.1 h.2
    · replace h := h.2 c
      refine J_iconst dX7_fact_17 (ii_c rfl) ?_
      exact J_retz dX7_fact_18 rfl (Or.inl rfl) h
set_option maxRecDepth 20000 in
set_option maxHeartbeats 2000000 in
theorem bk_X7_roomIn_0 {d : Nat} {I : HI} {Q : Option AV → AH → Prop} {a1 : Int}  (h : ((a1 < 6 → Q (some (vI 1)) (mk I)) ∧ (¬ (a1 < 6) → CI mX7_fail d [vR 28, vI 4, vI (I 28 6)] I (fun x1 I1 => ((x1 = 0 → Q (some (vI 0)) (mk I1)) ∧ (¬ (x1 = 0) → Q (some (vI 1)) (mk I1))))))) : J none mX7_roomIn (d + 1) 0 0 0 [(0, vR 28), (1, vI a1)] [] (mk I) Q := by
  refine J_iload_n dX7_roomIn_0 rfl rfl ?_
  refine J_bipush dX7_roomIn_1 (ii_c rfl) (by decide) ?_
  refine J_ic_lt (tgt := 18) dX7_roomIn_3 (by decide) (fun c => ?_) (fun c => ?_)
  · replace h := h.1 c
    refine J_iconst dX7_roomIn_18 (ii_c rfl) ?_
    refine J_goto (tgt := 23) dX7_roomIn_19 (by decide) ?_
    exact J_retz dX7_roomIn_23 rfl (Or.inr rfl) h
  · replace h := h.2 c
    refine J_aload_n dX7_roomIn_6 rfl rfl ?_
    refine J_iconst dX7_roomIn_7 (ii_c rfl) ?_
    refine J_aload_n dX7_roomIn_8 rfl rfl ?_
    refine J_getI dX7_roomIn_9 ck_7 fw_X7_79 rfl sh_28 ?_
    refine J_callV (as := [_, _]) (mc1 := 0) (ms1 := 0) (mc := 0) (ms := 0) dX7_roomIn_12 mv_X7_fail lk_X7_119 sh_28 rfl (Nat.le_of_ble_eq_true rfl) (Nat.le_of_ble_eq_true rfl) h (fun r σ hq _ => ?_)
    obtain ⟨x1, I1, rfl, rfl, h⟩ := hq
    change J _ _ _ _ _ _ _ [vI x1] _ _
    refine J_if_eq (tgt := 22) dX7_roomIn_15 (by decide) (fun c => ?_) (fun c => ?_)
    · replace h := h.1 c
      refine J_iconst dX7_roomIn_22 (ii_c rfl) ?_
      exact J_retz dX7_roomIn_23 rfl (Or.inl rfl) h
    · replace h := h.2 c
      refine J_iconst dX7_roomIn_18 (ii_c rfl) ?_
      refine J_goto (tgt := 23) dX7_roomIn_19 (by decide) ?_
      exact J_retz dX7_roomIn_23 rfl (Or.inr rfl) h
set_option maxRecDepth 20000 in
set_option maxHeartbeats 2000000 in
theorem bk_X7_sum_0 {d : Nat} {I : HI} {Q : Option AV → AH → Prop} {a1 : Int}  (h : J none mX7_sum (d + 1) 0 0 7 [(0, vR 28), (1, vI a1), (2, vI 0), (3, vI 0), (4, vI 0)] [] (mk I) Q) : J none mX7_sum (d + 1) 0 0 0 [(0, vR 28), (1, vI a1)] [] (mk I) Q := by
  refine J_iconst dX7_sum_0 (ii_c rfl) ?_
  refine J_istore_n dX7_sum_1 rfl (by decide) ?_
  refine J_iconst dX7_sum_2 (ii_c rfl) ?_
  refine J_istore_n dX7_sum_3 rfl (by decide) ?_
  refine J_iconst dX7_sum_4 (ii_c rfl) ?_
  refine J_istore dX7_sum_5 (by decide) ?_
  exact h
set_option maxRecDepth 20000 in
set_option maxHeartbeats 2000000 in
theorem bk_X7_sum_7 {d : Nat} {I : HI} {Q : Option AV → AH → Prop} {a1 : Int} {a2 : Int} {a3 : Int} {a4 : Int}  (h : ((1600 ≤ a4 → CI mX7_fail d [vR 28, vI 1, vI (I 28 6)] I (fun x1 I1 => (x1 = 0 ∨ x1 = 1) ∧ Q (some (vI x1)) (mk I1))) ∧ (¬ (1600 ≤ a4) → CI mX7_part d [vR 28, vI a1] I (fun x2 I2 => ((x2 ≠ 0 → ((a2 = 0 → J none mX7_sum (d + 1) 0 0 34 [(0, vR 28), (1, vI a1), (2, vI a2), (3, vI a3), (4, vI a4)] [] (mk I2) Q) ∧ (¬ (a2 = 0) → CV mX7_emit d [vR 28, vI a2] I2 (fun I3 => J none mX7_sum (d + 1) 0 0 34 [(0, vR 28), (1, vI a1), (2, vI a2), (3, vI a3), (4, vI a4)] [] (mk I3) Q)))) ∧ (x2 = 0 → Q (some (vI 0)) (mk I2))))))) : J none mX7_sum (d + 1) 0 0 7 [(0, vR 28), (1, vI a1), (2, vI a2), (3, vI a3), (4, vI a4)] [] (mk I) Q := by
  refine J_iload dX7_sum_7 rfl ?_
  refine J_sipush dX7_sum_9 (ii_c rfl) (by decide) ?_
  refine J_ic_ge (tgt := 123) dX7_sum_12 (by decide) (fun c => ?_) (fun c => ?_)
  · replace h := h.1 c
    refine J_aload_n dX7_sum_123 rfl rfl ?_
    refine J_iconst dX7_sum_124 (ii_c rfl) ?_
    refine J_aload_n dX7_sum_125 rfl rfl ?_
    refine J_getI dX7_sum_126 ck_7 fw_X7_79 rfl sh_28 ?_
    refine J_callV (as := [_, _]) (mc1 := 0) (ms1 := 0) (mc := 0) (ms := 0) dX7_sum_129 mv_X7_fail lk_X7_119 sh_28 rfl (Nat.le_of_ble_eq_true rfl) (Nat.le_of_ble_eq_true rfl) h (fun r σ hq _ => ?_)
    obtain ⟨x1, I1, rfl, rfl, h⟩ := hq
    change J _ _ _ _ _ _ _ [vI x1] _ _
    exact J_retz dX7_sum_132 rfl h.1 h.2
  · replace h := h.2 c
    refine J_aload_n dX7_sum_15 rfl rfl ?_
    refine J_iload_n dX7_sum_16 rfl rfl ?_
    refine J_callV (as := [_]) (mc1 := 0) (ms1 := 0) (mc := 0) (ms := 0) dX7_sum_17 mv_X7_part lk_X7_195 sh_28 rfl (Nat.le_of_ble_eq_true rfl) (Nat.le_of_ble_eq_true rfl) h (fun r σ hq _ => ?_)
    obtain ⟨x2, I2, rfl, rfl, h⟩ := hq
    change J _ _ _ _ _ _ _ [vI x2] _ _
    refine J_if_ne (tgt := 25) dX7_sum_20 (by decide) (fun c => ?_) (fun c => ?_)
    · replace h := h.1 c
      refine J_iload_n dX7_sum_25 rfl rfl ?_
      refine J_if_eq (tgt := 34) dX7_sum_26 (by decide) (fun c => ?_) (fun c => ?_)
      · replace h := h.1 c
        exact h
      · replace h := h.2 c
        refine J_aload_n dX7_sum_29 rfl rfl ?_
        refine J_iload_n dX7_sum_30 rfl rfl ?_
        refine J_callV (as := [_]) (mc1 := 0) (ms1 := 0) (mc := 0) (ms := 0) dX7_sum_31 mv_X7_emit lk_X7_186 sh_28 rfl (Nat.le_of_ble_eq_true rfl) (Nat.le_of_ble_eq_true rfl) h (fun r σ hq _ => ?_)
        obtain ⟨I3, rfl, rfl, h⟩ := hq
        change J _ _ _ _ _ _ _ [] _ _
        exact h
    · replace h := h.2 c
      refine J_iconst dX7_sum_23 (ii_c rfl) ?_
      exact J_retz dX7_sum_24 rfl (Or.inl rfl) h
set_option maxRecDepth 20000 in
set_option maxHeartbeats 2000000 in
theorem bk_X7_sum_34 {d : Nat} {I : HI} {Q : Option AV → AH → Prop} {a1 : Int} {a2 : Int} {a3 : Int} {a4 : Int}  (h : CI mX7_isSign d [vR 28, vI 42] I (fun x1 I1 => ((x1 = 0 → CI mX7_isSign d [vR 28, vI 47] I1 (fun x2 I2 => ((x2 = 0 → ((a3 = 0 → CI mX7_isSign d [vR 28, vI 43] I2 (fun x3 I3 => ((x3 = 0 → CI mX7_isSign d [vR 28, vI 45] I3 (fun x4 I4 => ((x4 = 0 → Q (some (vI 1)) (mk I4)) ∧ (¬ (x4 = 0) → CV mX7_advance d [vR 28] I4 (fun I5 => (-2147483648 ≤ a4 + 1 ∧ a4 + 1 ≤ 2147483647) ∧ J none mX7_sum (d + 1) 0 0 7 [(0, vR 28), (1, vI a1), (2, vI 0), (3, vI (-7)), (4, vI (a4 + 1))] [] (mk I5) Q))))) ∧ (¬ (x3 = 0) → CV mX7_advance d [vR 28] I3 (fun I6 => (-2147483648 ≤ a4 + 1 ∧ a4 + 1 ≤ 2147483647) ∧ J none mX7_sum (d + 1) 0 0 7 [(0, vR 28), (1, vI a1), (2, vI 0), (3, vI (-6)), (4, vI (a4 + 1))] [] (mk I6) Q))))) ∧ (¬ (a3 = 0) → CV mX7_emit d [vR 28, vI a3] I2 (fun I7 => CI mX7_isSign d [vR 28, vI 43] I7 (fun x8 I8 => ((x8 = 0 → CI mX7_isSign d [vR 28, vI 45] I8 (fun x9 I9 => ((x9 = 0 → Q (some (vI 1)) (mk I9)) ∧ (¬ (x9 = 0) → CV mX7_advance d [vR 28] I9 (fun I10 => (-2147483648 ≤ a4 + 1 ∧ a4 + 1 ≤ 2147483647) ∧ J none mX7_sum (d + 1) 0 0 7 [(0, vR 28), (1, vI a1), (2, vI 0), (3, vI (-7)), (4, vI (a4 + 1))] [] (mk I10) Q))))) ∧ (¬ (x8 = 0) → CV mX7_advance d [vR 28] I8 (fun I11 => (-2147483648 ≤ a4 + 1 ∧ a4 + 1 ≤ 2147483647) ∧ J none mX7_sum (d + 1) 0 0 7 [(0, vR 28), (1, vI a1), (2, vI 0), (3, vI (-6)), (4, vI (a4 + 1))] [] (mk I11) Q)))))))) ∧ (¬ (x2 = 0) → CV mX7_advance d [vR 28] I2 (fun I12 => (-2147483648 ≤ a4 + 1 ∧ a4 + 1 ≤ 2147483647) ∧ J none mX7_sum (d + 1) 0 0 7 [(0, vR 28), (1, vI a1), (2, vI (-9)), (3, vI a3), (4, vI (a4 + 1))] [] (mk I12) Q))))) ∧ (¬ (x1 = 0) → CV mX7_advance d [vR 28] I1 (fun I13 => (-2147483648 ≤ a4 + 1 ∧ a4 + 1 ≤ 2147483647) ∧ J none mX7_sum (d + 1) 0 0 7 [(0, vR 28), (1, vI a1), (2, vI (-8)), (3, vI a3), (4, vI (a4 + 1))] [] (mk I13) Q))))) : J none mX7_sum (d + 1) 0 0 34 [(0, vR 28), (1, vI a1), (2, vI a2), (3, vI a3), (4, vI a4)] [] (mk I) Q := by
  refine J_aload_n dX7_sum_34 rfl rfl ?_
  refine J_bipush dX7_sum_35 (ii_c rfl) (by decide) ?_
  refine J_callV (as := [_]) (mc1 := 0) (ms1 := 0) (mc := 0) (ms := 0) dX7_sum_37 mv_X7_isSign lk_X7_164 sh_28 rfl (Nat.le_of_ble_eq_true rfl) (Nat.le_of_ble_eq_true rfl) h (fun r σ hq _ => ?_)
  obtain ⟨x1, I1, rfl, rfl, h⟩ := hq
  change J _ _ _ _ _ _ _ [vI x1] _ _
  refine J_if_eq (tgt := 48) dX7_sum_40 (by decide) (fun c => ?_) (fun c => ?_)
  · replace h := h.1 c
    refine J_aload_n dX7_sum_48 rfl rfl ?_
    refine J_bipush dX7_sum_49 (ii_c rfl) (by decide) ?_
    refine J_callV (as := [_]) (mc1 := 0) (ms1 := 0) (mc := 0) (ms := 0) dX7_sum_51 mv_X7_isSign lk_X7_164 sh_28 rfl (Nat.le_of_ble_eq_true rfl) (Nat.le_of_ble_eq_true rfl) h (fun r σ hq _ => ?_)
    obtain ⟨x2, I2, rfl, rfl, h⟩ := hq
    change J _ _ _ _ _ _ _ [vI x2] _ _
    refine J_if_eq (tgt := 62) dX7_sum_54 (by decide) (fun c => ?_) (fun c => ?_)
    · replace h := h.1 c
      refine J_iconst dX7_sum_62 (ii_c rfl) ?_
      refine J_istore_n dX7_sum_63 rfl (by decide) ?_
      refine J_iload_n dX7_sum_64 rfl rfl ?_
      refine J_if_ne (tgt := 113) dX7_sum_65 (by decide) (fun c => absurd c (by decide)) (fun _ => ?_)
      refine J_iload_n dX7_sum_68 rfl rfl ?_
      refine J_if_eq (tgt := 77) dX7_sum_69 (by decide) (fun c => ?_) (fun c => ?_)
      · replace h := h.1 c
        refine J_aload_n dX7_sum_77 rfl rfl ?_
        refine J_bipush dX7_sum_78 (ii_c rfl) (by decide) ?_
        refine J_callV (as := [_]) (mc1 := 0) (ms1 := 0) (mc := 0) (ms := 0) dX7_sum_80 mv_X7_isSign lk_X7_164 sh_28 rfl (Nat.le_of_ble_eq_true rfl) (Nat.le_of_ble_eq_true rfl) h (fun r σ hq _ => ?_)
        obtain ⟨x3, I3, rfl, rfl, h⟩ := hq
        change J _ _ _ _ _ _ _ [vI x3] _ _
        refine J_if_eq (tgt := 91) dX7_sum_83 (by decide) (fun c => ?_) (fun c => ?_)
        · replace h := h.1 c
          refine J_aload_n dX7_sum_91 rfl rfl ?_
          refine J_bipush dX7_sum_92 (ii_c rfl) (by decide) ?_
          refine J_callV (as := [_]) (mc1 := 0) (ms1 := 0) (mc := 0) (ms := 0) dX7_sum_94 mv_X7_isSign lk_X7_164 sh_28 rfl (Nat.le_of_ble_eq_true rfl) (Nat.le_of_ble_eq_true rfl) h (fun r σ hq _ => ?_)
          obtain ⟨x4, I4, rfl, rfl, h⟩ := hq
          change J _ _ _ _ _ _ _ [vI x4] _ _
          refine J_if_eq (tgt := 105) dX7_sum_97 (by decide) (fun c => ?_) (fun c => ?_)
          · replace h := h.1 c
            refine J_iconst dX7_sum_105 (ii_c rfl) ?_
            refine J_istore_n dX7_sum_106 rfl (by decide) ?_
            refine J_iload_n dX7_sum_107 rfl rfl ?_
            refine J_if_ne (tgt := 113) dX7_sum_108 (by decide) (fun c => absurd c (by decide)) (fun _ => ?_)
            refine J_iconst dX7_sum_111 (ii_c rfl) ?_
            exact J_retz dX7_sum_112 rfl (Or.inr rfl) h
          · replace h := h.2 c
            refine J_bipush dX7_sum_100 (ii_c rfl) (by decide) ?_
            refine J_goto (tgt := 106) dX7_sum_102 (by decide) ?_
            refine J_istore_n dX7_sum_106 rfl (by decide) ?_
            refine J_iload_n dX7_sum_107 rfl rfl ?_
            refine J_if_ne (tgt := 113) dX7_sum_108 (by decide) (fun _ => ?_) (fun c => absurd (by decide) c)
            refine J_aload_n dX7_sum_113 rfl rfl ?_
            refine J_callV (as := []) (mc1 := 0) (ms1 := 0) (mc := 0) (ms := 0) dX7_sum_114 mv_X7_advance lk_X7_62 sh_28 rfl (Nat.le_of_ble_eq_true rfl) (Nat.le_of_ble_eq_true rfl) h (fun r σ hq _ => ?_)
            obtain ⟨I5, rfl, rfl, h⟩ := hq
            change J _ _ _ _ _ _ _ [] _ _
            refine J_iincN dX7_sum_117 rfl (by decide) h.1 ?_
            replace h := h.2
            refine J_goto (tgt := 7) dX7_sum_120 (by decide) ?_
            exact h
        · replace h := h.2 c
          refine J_bipush dX7_sum_86 (ii_c rfl) (by decide) ?_
          refine J_goto (tgt := 106) dX7_sum_88 (by decide) ?_
          refine J_istore_n dX7_sum_106 rfl (by decide) ?_
          refine J_iload_n dX7_sum_107 rfl rfl ?_
          refine J_if_ne (tgt := 113) dX7_sum_108 (by decide) (fun _ => ?_) (fun c => absurd (by decide) c)
          refine J_aload_n dX7_sum_113 rfl rfl ?_
          refine J_callV (as := []) (mc1 := 0) (ms1 := 0) (mc := 0) (ms := 0) dX7_sum_114 mv_X7_advance lk_X7_62 sh_28 rfl (Nat.le_of_ble_eq_true rfl) (Nat.le_of_ble_eq_true rfl) h (fun r σ hq _ => ?_)
          obtain ⟨I6, rfl, rfl, h⟩ := hq
          change J _ _ _ _ _ _ _ [] _ _
          refine J_iincN dX7_sum_117 rfl (by decide) h.1 ?_
          replace h := h.2
          refine J_goto (tgt := 7) dX7_sum_120 (by decide) ?_
          exact h
      · replace h := h.2 c
        refine J_aload_n dX7_sum_72 rfl rfl ?_
        refine J_iload_n dX7_sum_73 rfl rfl ?_
        refine J_callV (as := [_]) (mc1 := 0) (ms1 := 0) (mc := 0) (ms := 0) dX7_sum_74 mv_X7_emit lk_X7_186 sh_28 rfl (Nat.le_of_ble_eq_true rfl) (Nat.le_of_ble_eq_true rfl) h (fun r σ hq _ => ?_)
        obtain ⟨I7, rfl, rfl, h⟩ := hq
        change J _ _ _ _ _ _ _ [] _ _
        refine J_aload_n dX7_sum_77 rfl rfl ?_
        refine J_bipush dX7_sum_78 (ii_c rfl) (by decide) ?_
        refine J_callV (as := [_]) (mc1 := 0) (ms1 := 0) (mc := 0) (ms := 0) dX7_sum_80 mv_X7_isSign lk_X7_164 sh_28 rfl (Nat.le_of_ble_eq_true rfl) (Nat.le_of_ble_eq_true rfl) h (fun r σ hq _ => ?_)
        obtain ⟨x8, I8, rfl, rfl, h⟩ := hq
        change J _ _ _ _ _ _ _ [vI x8] _ _
        refine J_if_eq (tgt := 91) dX7_sum_83 (by decide) (fun c => ?_) (fun c => ?_)
        · replace h := h.1 c
          refine J_aload_n dX7_sum_91 rfl rfl ?_
          refine J_bipush dX7_sum_92 (ii_c rfl) (by decide) ?_
          refine J_callV (as := [_]) (mc1 := 0) (ms1 := 0) (mc := 0) (ms := 0) dX7_sum_94 mv_X7_isSign lk_X7_164 sh_28 rfl (Nat.le_of_ble_eq_true rfl) (Nat.le_of_ble_eq_true rfl) h (fun r σ hq _ => ?_)
          obtain ⟨x9, I9, rfl, rfl, h⟩ := hq
          change J _ _ _ _ _ _ _ [vI x9] _ _
          refine J_if_eq (tgt := 105) dX7_sum_97 (by decide) (fun c => ?_) (fun c => ?_)
          · replace h := h.1 c
            refine J_iconst dX7_sum_105 (ii_c rfl) ?_
            refine J_istore_n dX7_sum_106 rfl (by decide) ?_
            refine J_iload_n dX7_sum_107 rfl rfl ?_
            refine J_if_ne (tgt := 113) dX7_sum_108 (by decide) (fun c => absurd c (by decide)) (fun _ => ?_)
            refine J_iconst dX7_sum_111 (ii_c rfl) ?_
            exact J_retz dX7_sum_112 rfl (Or.inr rfl) h
          · replace h := h.2 c
            refine J_bipush dX7_sum_100 (ii_c rfl) (by decide) ?_
            refine J_goto (tgt := 106) dX7_sum_102 (by decide) ?_
            refine J_istore_n dX7_sum_106 rfl (by decide) ?_
            refine J_iload_n dX7_sum_107 rfl rfl ?_
            refine J_if_ne (tgt := 113) dX7_sum_108 (by decide) (fun _ => ?_) (fun c => absurd (by decide) c)
            refine J_aload_n dX7_sum_113 rfl rfl ?_
            refine J_callV (as := []) (mc1 := 0) (ms1 := 0) (mc := 0) (ms := 0) dX7_sum_114 mv_X7_advance lk_X7_62 sh_28 rfl (Nat.le_of_ble_eq_true rfl) (Nat.le_of_ble_eq_true rfl) h (fun r σ hq _ => ?_)
            obtain ⟨I10, rfl, rfl, h⟩ := hq
            change J _ _ _ _ _ _ _ [] _ _
            refine J_iincN dX7_sum_117 rfl (by decide) h.1 ?_
            replace h := h.2
            refine J_goto (tgt := 7) dX7_sum_120 (by decide) ?_
            exact h
        · replace h := h.2 c
          refine J_bipush dX7_sum_86 (ii_c rfl) (by decide) ?_
          refine J_goto (tgt := 106) dX7_sum_88 (by decide) ?_
          refine J_istore_n dX7_sum_106 rfl (by decide) ?_
          refine J_iload_n dX7_sum_107 rfl rfl ?_
          refine J_if_ne (tgt := 113) dX7_sum_108 (by decide) (fun _ => ?_) (fun c => absurd (by decide) c)
          refine J_aload_n dX7_sum_113 rfl rfl ?_
          refine J_callV (as := []) (mc1 := 0) (ms1 := 0) (mc := 0) (ms := 0) dX7_sum_114 mv_X7_advance lk_X7_62 sh_28 rfl (Nat.le_of_ble_eq_true rfl) (Nat.le_of_ble_eq_true rfl) h (fun r σ hq _ => ?_)
          obtain ⟨I11, rfl, rfl, h⟩ := hq
          change J _ _ _ _ _ _ _ [] _ _
          refine J_iincN dX7_sum_117 rfl (by decide) h.1 ?_
          replace h := h.2
          refine J_goto (tgt := 7) dX7_sum_120 (by decide) ?_
          exact h
    · replace h := h.2 c
      refine J_bipush dX7_sum_57 (ii_c rfl) (by decide) ?_
      refine J_goto (tgt := 63) dX7_sum_59 (by decide) ?_
      refine J_istore_n dX7_sum_63 rfl (by decide) ?_
      refine J_iload_n dX7_sum_64 rfl rfl ?_
      refine J_if_ne (tgt := 113) dX7_sum_65 (by decide) (fun _ => ?_) (fun c => absurd (by decide) c)
      refine J_aload_n dX7_sum_113 rfl rfl ?_
      refine J_callV (as := []) (mc1 := 0) (ms1 := 0) (mc := 0) (ms := 0) dX7_sum_114 mv_X7_advance lk_X7_62 sh_28 rfl (Nat.le_of_ble_eq_true rfl) (Nat.le_of_ble_eq_true rfl) h (fun r σ hq _ => ?_)
      obtain ⟨I12, rfl, rfl, h⟩ := hq
      change J _ _ _ _ _ _ _ [] _ _
      refine J_iincN dX7_sum_117 rfl (by decide) h.1 ?_
      replace h := h.2
      refine J_goto (tgt := 7) dX7_sum_120 (by decide) ?_
      exact h
  · replace h := h.2 c
    refine J_bipush dX7_sum_43 (ii_c rfl) (by decide) ?_
    refine J_goto (tgt := 63) dX7_sum_45 (by decide) ?_
    refine J_istore_n dX7_sum_63 rfl (by decide) ?_
    refine J_iload_n dX7_sum_64 rfl rfl ?_
    refine J_if_ne (tgt := 113) dX7_sum_65 (by decide) (fun _ => ?_) (fun c => absurd (by decide) c)
    refine J_aload_n dX7_sum_113 rfl rfl ?_
    refine J_callV (as := []) (mc1 := 0) (ms1 := 0) (mc := 0) (ms := 0) dX7_sum_114 mv_X7_advance lk_X7_62 sh_28 rfl (Nat.le_of_ble_eq_true rfl) (Nat.le_of_ble_eq_true rfl) h (fun r σ hq _ => ?_)
    obtain ⟨I13, rfl, rfl, h⟩ := hq
    change J _ _ _ _ _ _ _ [] _ _
    refine J_iincN dX7_sum_117 rfl (by decide) h.1 ?_
    replace h := h.2
    refine J_goto (tgt := 7) dX7_sum_120 (by decide) ?_
    exact h
set_option maxRecDepth 20000 in
set_option maxHeartbeats 2000000 in
theorem bk_X7_part_0 {d : Nat} {I : HI} {Q : Option AV → AH → Prop} {a1 : Int}  (h : CI mX7_isSign d [vR 28, vI 40] I (fun x1 I1 => ((x1 = 0 → (((I1 28 8) < 20 → (((I1 28 8) = 25 → J none mX7_part (d + 1) 0 0 106 [(0, vR 28), (1, vI a1)] [] (mk I1) Q) ∧ (¬ ((I1 28 8) = 25) → (((I1 28 8) ≠ 26 → CI mX7_number d [vR 28, vI 0, vI 9999] I1 (fun x2 I2 => CV mX7_emit d [vR 28, vI (I2 28 10)] I2 (fun I3 => (x2 = 0 ∨ x2 = 1) ∧ Q (some (vI x2)) (mk I3)))) ∧ ((I1 28 8) = 26 → J none mX7_part (d + 1) 0 0 106 [(0, vR 28), (1, vI a1)] [] (mk I1) Q))))) ∧ (¬ ((I1 28 8) < 20) → ((24 < (I1 28 8) → (((I1 28 8) = 25 → J none mX7_part (d + 1) 0 0 106 [(0, vR 28), (1, vI a1)] [] (mk I1) Q) ∧ (¬ ((I1 28 8) = 25) → (((I1 28 8) ≠ 26 → CI mX7_number d [vR 28, vI 0, vI 9999] I1 (fun x4 I4 => CV mX7_emit d [vR 28, vI (I4 28 10)] I4 (fun I5 => (x4 = 0 ∨ x4 = 1) ∧ Q (some (vI x4)) (mk I5)))) ∧ ((I1 28 8) = 26 → J none mX7_part (d + 1) 0 0 106 [(0, vR 28), (1, vI a1)] [] (mk I1) Q))))) ∧ (¬ (24 < (I1 28 8)) → (-2147483648 ≤ (I1 28 8) - 20 ∧ (I1 28 8) - 20 ≤ 2147483647) ∧ (-2147483648 ≤ (-1) - ((I1 28 8) - 20) ∧ (-1) - ((I1 28 8) - 20) ≤ 2147483647) ∧ CV mX7_emit d [vR 28, vI ((-1) - ((I1 28 8) - 20))] I1 (fun I6 => CV mX7_advance d [vR 28] I6 (fun I7 => Q (some (vI 1)) (mk I7)))))))) ∧ (¬ (x1 = 0) → CI mX7_roomIn d [vR 28, vI a1] I1 (fun x8 I8 => ((x8 = 0 → Q (some (vI 0)) (mk I8)) ∧ (¬ (x8 = 0) → CI mX7_sign d [vR 28, vI 40] I8 (fun x9 I9 => ((x9 = 0 → Q (some (vI 0)) (mk I9)) ∧ (¬ (x9 = 0) → (-2147483648 ≤ a1 + 1 ∧ a1 + 1 ≤ 2147483647) ∧ CI mX7_sum d [vR 28, vI (a1 + 1)] I9 (fun x10 I10 => ((x10 = 0 → Q (some (vI 0)) (mk I10)) ∧ (¬ (x10 = 0) → CI mX7_sign d [vR 28, vI 41] I10 (fun x11 I11 => ((x11 = 0 → Q (some (vI 0)) (mk I11)) ∧ (¬ (x11 = 0) → Q (some (vI 1)) (mk I11))))))))))))))))) : J none mX7_part (d + 1) 0 0 0 [(0, vR 28), (1, vI a1)] [] (mk I) Q := by
  refine J_aload_n dX7_part_0 rfl rfl ?_
  refine J_bipush dX7_part_1 (ii_c rfl) (by decide) ?_
  refine J_callV (as := [_]) (mc1 := 0) (ms1 := 0) (mc := 0) (ms := 0) dX7_part_3 mv_X7_isSign lk_X7_164 sh_28 rfl (Nat.le_of_ble_eq_true rfl) (Nat.le_of_ble_eq_true rfl) h (fun r σ hq _ => ?_)
  obtain ⟨x1, I1, rfl, rfl, h⟩ := hq
  change J _ _ _ _ _ _ _ [vI x1] _ _
  refine J_if_eq (tgt := 51) dX7_part_6 (by decide) (fun c => ?_) (fun c => ?_)
  · replace h := h.1 c
    refine J_aload_n dX7_part_51 rfl rfl ?_
    refine J_getI dX7_part_52 ck_7 fw_X7_45 rfl sh_28 ?_
    refine J_bipush dX7_part_55 (ii_c rfl) (by decide) ?_
    refine J_ic_lt (tgt := 88) dX7_part_57 (by decide) (fun c => ?_) (fun c => ?_)
    · replace h := h.1 c
      refine J_aload_n dX7_part_88 rfl rfl ?_
      refine J_getI dX7_part_89 ck_7 fw_X7_45 rfl sh_28 ?_
      refine J_bipush dX7_part_92 (ii_c rfl) (by decide) ?_
      refine J_ic_eq (tgt := 106) dX7_part_94 (by decide) (fun c => ?_) (fun c => ?_)
      · replace h := h.1 c
        exact h
      · replace h := h.2 c
        refine J_aload_n dX7_part_97 rfl rfl ?_
        refine J_getI dX7_part_98 ck_7 fw_X7_45 rfl sh_28 ?_
        refine J_bipush dX7_part_101 (ii_c rfl) (by decide) ?_
        refine J_ic_ne (tgt := 228) dX7_part_103 (by decide) (fun c => ?_) (fun c => ?_)
        · replace h := h.1 c
          refine J_aload_n dX7_part_228 rfl rfl ?_
          refine J_iconst dX7_part_229 (ii_c rfl) ?_
          refine J_sipush dX7_part_230 (ii_c rfl) (by decide) ?_
          refine J_callV (as := [_, _]) (mc1 := 0) (ms1 := 0) (mc := 0) (ms := 0) dX7_part_233 mv_X7_number lk_X7_110 sh_28 rfl (Nat.le_of_ble_eq_true rfl) (Nat.le_of_ble_eq_true rfl) h (fun r σ hq _ => ?_)
          obtain ⟨x2, I2, rfl, rfl, h⟩ := hq
          change J _ _ _ _ _ _ _ [vI x2] _ _
          refine J_istore_n dX7_part_236 rfl (by decide) ?_
          refine J_aload_n dX7_part_237 rfl rfl ?_
          refine J_aload_n dX7_part_238 rfl rfl ?_
          refine J_getI dX7_part_239 ck_7 fw_X7_113 rfl sh_28 ?_
          refine J_callV (as := [_]) (mc1 := 0) (ms1 := 0) (mc := 0) (ms := 0) dX7_part_242 mv_X7_emit lk_X7_186 sh_28 rfl (Nat.le_of_ble_eq_true rfl) (Nat.le_of_ble_eq_true rfl) h (fun r σ hq _ => ?_)
          obtain ⟨I3, rfl, rfl, h⟩ := hq
          change J _ _ _ _ _ _ _ [] _ _
          refine J_iload_n dX7_part_245 rfl rfl ?_
          exact J_retz dX7_part_246 rfl h.1 h.2
        · replace h := h.2 c
          exact h
    · replace h := h.2 c
      refine J_aload_n dX7_part_60 rfl rfl ?_
      refine J_getI dX7_part_61 ck_7 fw_X7_45 rfl sh_28 ?_
      refine J_bipush dX7_part_64 (ii_c rfl) (by decide) ?_
      refine J_ic_gt (tgt := 88) dX7_part_66 (by decide) (fun c => ?_) (fun c => ?_)
      · replace h := h.1 c
        refine J_aload_n dX7_part_88 rfl rfl ?_
        refine J_getI dX7_part_89 ck_7 fw_X7_45 rfl sh_28 ?_
        refine J_bipush dX7_part_92 (ii_c rfl) (by decide) ?_
        refine J_ic_eq (tgt := 106) dX7_part_94 (by decide) (fun c => ?_) (fun c => ?_)
        · replace h := h.1 c
          exact h
        · replace h := h.2 c
          refine J_aload_n dX7_part_97 rfl rfl ?_
          refine J_getI dX7_part_98 ck_7 fw_X7_45 rfl sh_28 ?_
          refine J_bipush dX7_part_101 (ii_c rfl) (by decide) ?_
          refine J_ic_ne (tgt := 228) dX7_part_103 (by decide) (fun c => ?_) (fun c => ?_)
          · replace h := h.1 c
            refine J_aload_n dX7_part_228 rfl rfl ?_
            refine J_iconst dX7_part_229 (ii_c rfl) ?_
            refine J_sipush dX7_part_230 (ii_c rfl) (by decide) ?_
            refine J_callV (as := [_, _]) (mc1 := 0) (ms1 := 0) (mc := 0) (ms := 0) dX7_part_233 mv_X7_number lk_X7_110 sh_28 rfl (Nat.le_of_ble_eq_true rfl) (Nat.le_of_ble_eq_true rfl) h (fun r σ hq _ => ?_)
            obtain ⟨x4, I4, rfl, rfl, h⟩ := hq
            change J _ _ _ _ _ _ _ [vI x4] _ _
            refine J_istore_n dX7_part_236 rfl (by decide) ?_
            refine J_aload_n dX7_part_237 rfl rfl ?_
            refine J_aload_n dX7_part_238 rfl rfl ?_
            refine J_getI dX7_part_239 ck_7 fw_X7_113 rfl sh_28 ?_
            refine J_callV (as := [_]) (mc1 := 0) (ms1 := 0) (mc := 0) (ms := 0) dX7_part_242 mv_X7_emit lk_X7_186 sh_28 rfl (Nat.le_of_ble_eq_true rfl) (Nat.le_of_ble_eq_true rfl) h (fun r σ hq _ => ?_)
            obtain ⟨I5, rfl, rfl, h⟩ := hq
            change J _ _ _ _ _ _ _ [] _ _
            refine J_iload_n dX7_part_245 rfl rfl ?_
            exact J_retz dX7_part_246 rfl h.1 h.2
          · replace h := h.2 c
            exact h
      · replace h := h.2 c
        refine J_aload_n dX7_part_69 rfl rfl ?_
        refine J_iconst dX7_part_70 (ii_c rfl) ?_
        refine J_aload_n dX7_part_71 rfl rfl ?_
        refine J_getI dX7_part_72 ck_7 fw_X7_45 rfl sh_28 ?_
        refine J_bipush dX7_part_75 (ii_c rfl) (by decide) ?_
        refine J_isubN dX7_part_77 h.1 ?_
        replace h := h.2
        refine J_isubN dX7_part_78 h.1 ?_
        replace h := h.2
        refine J_callV (as := [_]) (mc1 := 0) (ms1 := 0) (mc := 0) (ms := 0) dX7_part_79 mv_X7_emit lk_X7_186 sh_28 rfl (Nat.le_of_ble_eq_true rfl) (Nat.le_of_ble_eq_true rfl) h (fun r σ hq _ => ?_)
        obtain ⟨I6, rfl, rfl, h⟩ := hq
        change J _ _ _ _ _ _ _ [] _ _
        refine J_aload_n dX7_part_82 rfl rfl ?_
        refine J_callV (as := []) (mc1 := 0) (ms1 := 0) (mc := 0) (ms := 0) dX7_part_83 mv_X7_advance lk_X7_62 sh_28 rfl (Nat.le_of_ble_eq_true rfl) (Nat.le_of_ble_eq_true rfl) h (fun r σ hq _ => ?_)
        obtain ⟨I7, rfl, rfl, h⟩ := hq
        change J _ _ _ _ _ _ _ [] _ _
        refine J_iconst dX7_part_86 (ii_c rfl) ?_
        exact J_retz dX7_part_87 rfl (Or.inr rfl) h
  · replace h := h.2 c
    refine J_aload_n dX7_part_9 rfl rfl ?_
    refine J_iload_n dX7_part_10 rfl rfl ?_
    refine J_callV (as := [_]) (mc1 := 0) (ms1 := 0) (mc := 0) (ms := 0) dX7_part_11 mv_X7_roomIn lk_X7_189 sh_28 rfl (Nat.le_of_ble_eq_true rfl) (Nat.le_of_ble_eq_true rfl) h (fun r σ hq _ => ?_)
    obtain ⟨x8, I8, rfl, rfl, h⟩ := hq
    change J _ _ _ _ _ _ _ [vI x8] _ _
    refine J_if_eq (tgt := 49) dX7_part_14 (by decide) (fun c => ?_) (fun c => ?_)
    · replace h := h.1 c
      refine J_iconst dX7_part_49 (ii_c rfl) ?_
      exact J_retz dX7_part_50 rfl (Or.inl rfl) h
    · replace h := h.2 c
      refine J_aload_n dX7_part_17 rfl rfl ?_
      refine J_bipush dX7_part_18 (ii_c rfl) (by decide) ?_
      refine J_callV (as := [_]) (mc1 := 0) (ms1 := 0) (mc := 0) (ms := 0) dX7_part_20 mv_X7_sign lk_X7_122 sh_28 rfl (Nat.le_of_ble_eq_true rfl) (Nat.le_of_ble_eq_true rfl) h (fun r σ hq _ => ?_)
      obtain ⟨x9, I9, rfl, rfl, h⟩ := hq
      change J _ _ _ _ _ _ _ [vI x9] _ _
      refine J_if_eq (tgt := 49) dX7_part_23 (by decide) (fun c => ?_) (fun c => ?_)
      · replace h := h.1 c
        refine J_iconst dX7_part_49 (ii_c rfl) ?_
        exact J_retz dX7_part_50 rfl (Or.inl rfl) h
      · replace h := h.2 c
        refine J_aload_n dX7_part_26 rfl rfl ?_
        refine J_iload_n dX7_part_27 rfl rfl ?_
        refine J_iconst dX7_part_28 (ii_c rfl) ?_
        refine J_iaddN dX7_part_29 h.1 ?_
        replace h := h.2
        refine J_callV (as := [_]) (mc1 := 0) (ms1 := 0) (mc := 0) (ms := 0) dX7_part_30 mv_X7_sum lk_X7_192 sh_28 rfl (Nat.le_of_ble_eq_true rfl) (Nat.le_of_ble_eq_true rfl) h (fun r σ hq _ => ?_)
        obtain ⟨x10, I10, rfl, rfl, h⟩ := hq
        change J _ _ _ _ _ _ _ [vI x10] _ _
        refine J_if_eq (tgt := 49) dX7_part_33 (by decide) (fun c => ?_) (fun c => ?_)
        · replace h := h.1 c
          refine J_iconst dX7_part_49 (ii_c rfl) ?_
          exact J_retz dX7_part_50 rfl (Or.inl rfl) h
        · replace h := h.2 c
          refine J_aload_n dX7_part_36 rfl rfl ?_
          refine J_bipush dX7_part_37 (ii_c rfl) (by decide) ?_
          refine J_callV (as := [_]) (mc1 := 0) (ms1 := 0) (mc := 0) (ms := 0) dX7_part_39 mv_X7_sign lk_X7_122 sh_28 rfl (Nat.le_of_ble_eq_true rfl) (Nat.le_of_ble_eq_true rfl) h (fun r σ hq _ => ?_)
          obtain ⟨x11, I11, rfl, rfl, h⟩ := hq
          change J _ _ _ _ _ _ _ [vI x11] _ _
          refine J_if_eq (tgt := 49) dX7_part_42 (by decide) (fun c => ?_) (fun c => ?_)
          · replace h := h.1 c
            refine J_iconst dX7_part_49 (ii_c rfl) ?_
            exact J_retz dX7_part_50 rfl (Or.inl rfl) h
          · replace h := h.2 c
            refine J_iconst dX7_part_45 (ii_c rfl) ?_
            refine J_goto (tgt := 50) dX7_part_46 (by decide) ?_
            exact J_retz dX7_part_50 rfl (Or.inr rfl) h
set_option maxRecDepth 20000 in
set_option maxHeartbeats 2000000 in
theorem bk_X7_part_106 {d : Nat} {I : HI} {Q : Option AV → AH → Prop} {a1 : Int}  (h : (((I 28 8) ≠ 25 → CV mX7_advance d [vR 28] I (fun I1 => CI mX7_isSign d [vR 28, vI 40] I1 (fun x2 I2 => ((x2 = 0 → CI mX7_fail d [vR 28, vI 1, vI (I2 28 6)] I2 (fun x3 I3 => ((x3 = 0 → CV mX7_emit d [vR 28, vI (-11)] I3 (fun I4 => Q (some (vI 0)) (mk I4))) ∧ (¬ (x3 = 0) → (-2147483648 ≤ a1 + 1 ∧ a1 + 1 ≤ 2147483647) ∧ CI mX7_sum d [vR 28, vI (a1 + 1)] I3 (fun x5 I5 => ((x5 = 0 → CV mX7_emit d [vR 28, vI (-11)] I5 (fun I6 => Q (some (vI 0)) (mk I6))) ∧ (¬ (x5 = 0) → CI mX7_sign d [vR 28, vI 44] I5 (fun x7 I7 => ((x7 = 0 → CV mX7_emit d [vR 28, vI (-11)] I7 (fun I8 => Q (some (vI 0)) (mk I8))) ∧ (¬ (x7 = 0) → (-2147483648 ≤ a1 + 1 ∧ a1 + 1 ≤ 2147483647) ∧ CI mX7_sum d [vR 28, vI (a1 + 1)] I7 (fun x9 I9 => ((x9 = 0 → CV mX7_emit d [vR 28, vI (-11)] I9 (fun I10 => Q (some (vI 0)) (mk I10))) ∧ (¬ (x9 = 0) → CI mX7_sign d [vR 28, vI 41] I9 (fun x11 I11 => ((x11 = 0 → CV mX7_emit d [vR 28, vI (-11)] I11 (fun I12 => Q (some (vI 0)) (mk I12))) ∧ (¬ (x11 = 0) → CV mX7_emit d [vR 28, vI (-11)] I11 (fun I13 => Q (some (vI 1)) (mk I13)))))))))))))))))) ∧ (¬ (x2 = 0) → CI mX7_roomIn d [vR 28, vI a1] I2 (fun x14 I14 => ((x14 = 0 → J none mX7_part (d + 1) 0 0 157 [(0, vR 28), (1, vI a1), (2, vI (-11))] [] (mk I14) Q) ∧ (¬ (x14 = 0) → CI mX7_sign d [vR 28, vI 40] I14 (fun x15 I15 => ((x15 = 0 → J none mX7_part (d + 1) 0 0 157 [(0, vR 28), (1, vI a1), (2, vI (-11))] [] (mk I15) Q) ∧ (¬ (x15 = 0) → (-2147483648 ≤ a1 + 1 ∧ a1 + 1 ≤ 2147483647) ∧ CI mX7_sum d [vR 28, vI (a1 + 1)] I15 (fun x16 I16 => ((x16 = 0 → CV mX7_emit d [vR 28, vI (-11)] I16 (fun I17 => Q (some (vI 0)) (mk I17))) ∧ (¬ (x16 = 0) → CI mX7_sign d [vR 28, vI 44] I16 (fun x18 I18 => ((x18 = 0 → CV mX7_emit d [vR 28, vI (-11)] I18 (fun I19 => Q (some (vI 0)) (mk I19))) ∧ (¬ (x18 = 0) → (-2147483648 ≤ a1 + 1 ∧ a1 + 1 ≤ 2147483647) ∧ CI mX7_sum d [vR 28, vI (a1 + 1)] I18 (fun x20 I20 => ((x20 = 0 → CV mX7_emit d [vR 28, vI (-11)] I20 (fun I21 => Q (some (vI 0)) (mk I21))) ∧ (¬ (x20 = 0) → CI mX7_sign d [vR 28, vI 41] I20 (fun x22 I22 => ((x22 = 0 → CV mX7_emit d [vR 28, vI (-11)] I22 (fun I23 => Q (some (vI 0)) (mk I23))) ∧ (¬ (x22 = 0) → CV mX7_emit d [vR 28, vI (-11)] I22 (fun I24 => Q (some (vI 1)) (mk I24))))))))))))))))))))))))) ∧ ((I 28 8) = 25 → CV mX7_advance d [vR 28] I (fun I25 => CI mX7_isSign d [vR 28, vI 40] I25 (fun x26 I26 => ((x26 = 0 → CI mX7_fail d [vR 28, vI 1, vI (I26 28 6)] I26 (fun x27 I27 => ((x27 = 0 → CV mX7_emit d [vR 28, vI (-10)] I27 (fun I28 => Q (some (vI 0)) (mk I28))) ∧ (¬ (x27 = 0) → (-2147483648 ≤ a1 + 1 ∧ a1 + 1 ≤ 2147483647) ∧ CI mX7_sum d [vR 28, vI (a1 + 1)] I27 (fun x29 I29 => ((x29 = 0 → CV mX7_emit d [vR 28, vI (-10)] I29 (fun I30 => Q (some (vI 0)) (mk I30))) ∧ (¬ (x29 = 0) → CI mX7_sign d [vR 28, vI 44] I29 (fun x31 I31 => ((x31 = 0 → CV mX7_emit d [vR 28, vI (-10)] I31 (fun I32 => Q (some (vI 0)) (mk I32))) ∧ (¬ (x31 = 0) → (-2147483648 ≤ a1 + 1 ∧ a1 + 1 ≤ 2147483647) ∧ CI mX7_sum d [vR 28, vI (a1 + 1)] I31 (fun x33 I33 => ((x33 = 0 → CV mX7_emit d [vR 28, vI (-10)] I33 (fun I34 => Q (some (vI 0)) (mk I34))) ∧ (¬ (x33 = 0) → CI mX7_sign d [vR 28, vI 41] I33 (fun x35 I35 => ((x35 = 0 → CV mX7_emit d [vR 28, vI (-10)] I35 (fun I36 => Q (some (vI 0)) (mk I36))) ∧ (¬ (x35 = 0) → CV mX7_emit d [vR 28, vI (-10)] I35 (fun I37 => Q (some (vI 1)) (mk I37)))))))))))))))))) ∧ (¬ (x26 = 0) → CI mX7_roomIn d [vR 28, vI a1] I26 (fun x38 I38 => ((x38 = 0 → J none mX7_part (d + 1) 0 0 157 [(0, vR 28), (1, vI a1), (2, vI (-10))] [] (mk I38) Q) ∧ (¬ (x38 = 0) → CI mX7_sign d [vR 28, vI 40] I38 (fun x39 I39 => ((x39 = 0 → J none mX7_part (d + 1) 0 0 157 [(0, vR 28), (1, vI a1), (2, vI (-10))] [] (mk I39) Q) ∧ (¬ (x39 = 0) → (-2147483648 ≤ a1 + 1 ∧ a1 + 1 ≤ 2147483647) ∧ CI mX7_sum d [vR 28, vI (a1 + 1)] I39 (fun x40 I40 => ((x40 = 0 → CV mX7_emit d [vR 28, vI (-10)] I40 (fun I41 => Q (some (vI 0)) (mk I41))) ∧ (¬ (x40 = 0) → CI mX7_sign d [vR 28, vI 44] I40 (fun x42 I42 => ((x42 = 0 → CV mX7_emit d [vR 28, vI (-10)] I42 (fun I43 => Q (some (vI 0)) (mk I43))) ∧ (¬ (x42 = 0) → (-2147483648 ≤ a1 + 1 ∧ a1 + 1 ≤ 2147483647) ∧ CI mX7_sum d [vR 28, vI (a1 + 1)] I42 (fun x44 I44 => ((x44 = 0 → CV mX7_emit d [vR 28, vI (-10)] I44 (fun I45 => Q (some (vI 0)) (mk I45))) ∧ (¬ (x44 = 0) → CI mX7_sign d [vR 28, vI 41] I44 (fun x46 I46 => ((x46 = 0 → CV mX7_emit d [vR 28, vI (-10)] I46 (fun I47 => Q (some (vI 0)) (mk I47))) ∧ (¬ (x46 = 0) → CV mX7_emit d [vR 28, vI (-10)] I46 (fun I48 => Q (some (vI 1)) (mk I48))))))))))))))))))))))))))) : J none mX7_part (d + 1) 0 0 106 [(0, vR 28), (1, vI a1)] [] (mk I) Q := by
  refine J_aload_n dX7_part_106 rfl rfl ?_
  refine J_getI dX7_part_107 ck_7 fw_X7_45 rfl sh_28 ?_
  refine J_bipush dX7_part_110 (ii_c rfl) (by decide) ?_
  refine J_ic_ne (tgt := 120) dX7_part_112 (by decide) (fun c => ?_) (fun c => ?_)
  · replace h := h.1 c
    refine J_bipush dX7_part_120 (ii_c rfl) (by decide) ?_
    refine J_istore_n dX7_part_122 rfl (by decide) ?_
    refine J_aload_n dX7_part_123 rfl rfl ?_
    refine J_callV (as := []) (mc1 := 0) (ms1 := 0) (mc := 0) (ms := 0) dX7_part_124 mv_X7_advance lk_X7_62 sh_28 rfl (Nat.le_of_ble_eq_true rfl) (Nat.le_of_ble_eq_true rfl) h (fun r σ hq _ => ?_)
    obtain ⟨I1, rfl, rfl, h⟩ := hq
    change J _ _ _ _ _ _ _ [] _ _
    refine J_aload_n dX7_part_127 rfl rfl ?_
    refine J_bipush dX7_part_128 (ii_c rfl) (by decide) ?_
    refine J_callV (as := [_]) (mc1 := 0) (ms1 := 0) (mc := 0) (ms := 0) dX7_part_130 mv_X7_isSign lk_X7_164 sh_28 rfl (Nat.le_of_ble_eq_true rfl) (Nat.le_of_ble_eq_true rfl) h (fun r σ hq _ => ?_)
    obtain ⟨x2, I2, rfl, rfl, h⟩ := hq
    change J _ _ _ _ _ _ _ [vI x2] _ _
    refine J_if_eq (tgt := 161) dX7_part_133 (by decide) (fun c => ?_) (fun c => ?_)
    · replace h := h.1 c
      refine J_aload_n dX7_part_161 rfl rfl ?_
      refine J_iconst dX7_part_162 (ii_c rfl) ?_
      refine J_aload_n dX7_part_163 rfl rfl ?_
      refine J_getI dX7_part_164 ck_7 fw_X7_79 rfl sh_28 ?_
      refine J_callV (as := [_, _]) (mc1 := 0) (ms1 := 0) (mc := 0) (ms := 0) dX7_part_167 mv_X7_fail lk_X7_119 sh_28 rfl (Nat.le_of_ble_eq_true rfl) (Nat.le_of_ble_eq_true rfl) h (fun r σ hq _ => ?_)
      obtain ⟨x3, I3, rfl, rfl, h⟩ := hq
      change J _ _ _ _ _ _ _ [vI x3] _ _
      refine J_istore_n dX7_part_170 rfl (by decide) ?_
      refine J_iload_n dX7_part_171 rfl rfl ?_
      refine J_if_eq (tgt := 217) dX7_part_172 (by decide) (fun c => ?_) (fun c => ?_)
      · replace h := h.1 c
        refine J_iconst dX7_part_217 (ii_c rfl) ?_
        refine J_istore dX7_part_218 (by decide) ?_
        refine J_aload_n dX7_part_220 rfl rfl ?_
        refine J_iload_n dX7_part_221 rfl rfl ?_
        refine J_callV (as := [_]) (mc1 := 0) (ms1 := 0) (mc := 0) (ms := 0) dX7_part_222 mv_X7_emit lk_X7_186 sh_28 rfl (Nat.le_of_ble_eq_true rfl) (Nat.le_of_ble_eq_true rfl) h (fun r σ hq _ => ?_)
        obtain ⟨I4, rfl, rfl, h⟩ := hq
        change J _ _ _ _ _ _ _ [] _ _
        refine J_iload dX7_part_225 rfl ?_
        exact J_retz dX7_part_227 rfl (Or.inl rfl) h
      · replace h := h.2 c
        refine J_aload_n dX7_part_175 rfl rfl ?_
        refine J_iload_n dX7_part_176 rfl rfl ?_
        refine J_iconst dX7_part_177 (ii_c rfl) ?_
        refine J_iaddN dX7_part_178 h.1 ?_
        replace h := h.2
        refine J_callV (as := [_]) (mc1 := 0) (ms1 := 0) (mc := 0) (ms := 0) dX7_part_179 mv_X7_sum lk_X7_192 sh_28 rfl (Nat.le_of_ble_eq_true rfl) (Nat.le_of_ble_eq_true rfl) h (fun r σ hq _ => ?_)
        obtain ⟨x5, I5, rfl, rfl, h⟩ := hq
        change J _ _ _ _ _ _ _ [vI x5] _ _
        refine J_if_eq (tgt := 217) dX7_part_182 (by decide) (fun c => ?_) (fun c => ?_)
        · replace h := h.1 c
          refine J_iconst dX7_part_217 (ii_c rfl) ?_
          refine J_istore dX7_part_218 (by decide) ?_
          refine J_aload_n dX7_part_220 rfl rfl ?_
          refine J_iload_n dX7_part_221 rfl rfl ?_
          refine J_callV (as := [_]) (mc1 := 0) (ms1 := 0) (mc := 0) (ms := 0) dX7_part_222 mv_X7_emit lk_X7_186 sh_28 rfl (Nat.le_of_ble_eq_true rfl) (Nat.le_of_ble_eq_true rfl) h (fun r σ hq _ => ?_)
          obtain ⟨I6, rfl, rfl, h⟩ := hq
          change J _ _ _ _ _ _ _ [] _ _
          refine J_iload dX7_part_225 rfl ?_
          exact J_retz dX7_part_227 rfl (Or.inl rfl) h
        · replace h := h.2 c
          refine J_aload_n dX7_part_185 rfl rfl ?_
          refine J_bipush dX7_part_186 (ii_c rfl) (by decide) ?_
          refine J_callV (as := [_]) (mc1 := 0) (ms1 := 0) (mc := 0) (ms := 0) dX7_part_188 mv_X7_sign lk_X7_122 sh_28 rfl (Nat.le_of_ble_eq_true rfl) (Nat.le_of_ble_eq_true rfl) h (fun r σ hq _ => ?_)
          obtain ⟨x7, I7, rfl, rfl, h⟩ := hq
          change J _ _ _ _ _ _ _ [vI x7] _ _
          refine J_if_eq (tgt := 217) dX7_part_191 (by decide) (fun c => ?_) (fun c => ?_)
          · replace h := h.1 c
            refine J_iconst dX7_part_217 (ii_c rfl) ?_
            refine J_istore dX7_part_218 (by decide) ?_
            refine J_aload_n dX7_part_220 rfl rfl ?_
            refine J_iload_n dX7_part_221 rfl rfl ?_
            refine J_callV (as := [_]) (mc1 := 0) (ms1 := 0) (mc := 0) (ms := 0) dX7_part_222 mv_X7_emit lk_X7_186 sh_28 rfl (Nat.le_of_ble_eq_true rfl) (Nat.le_of_ble_eq_true rfl) h (fun r σ hq _ => ?_)
            obtain ⟨I8, rfl, rfl, h⟩ := hq
            change J _ _ _ _ _ _ _ [] _ _
            refine J_iload dX7_part_225 rfl ?_
            exact J_retz dX7_part_227 rfl (Or.inl rfl) h
          · replace h := h.2 c
            refine J_aload_n dX7_part_194 rfl rfl ?_
            refine J_iload_n dX7_part_195 rfl rfl ?_
            refine J_iconst dX7_part_196 (ii_c rfl) ?_
            refine J_iaddN dX7_part_197 h.1 ?_
            replace h := h.2
            refine J_callV (as := [_]) (mc1 := 0) (ms1 := 0) (mc := 0) (ms := 0) dX7_part_198 mv_X7_sum lk_X7_192 sh_28 rfl (Nat.le_of_ble_eq_true rfl) (Nat.le_of_ble_eq_true rfl) h (fun r σ hq _ => ?_)
            obtain ⟨x9, I9, rfl, rfl, h⟩ := hq
            change J _ _ _ _ _ _ _ [vI x9] _ _
            refine J_if_eq (tgt := 217) dX7_part_201 (by decide) (fun c => ?_) (fun c => ?_)
            · replace h := h.1 c
              refine J_iconst dX7_part_217 (ii_c rfl) ?_
              refine J_istore dX7_part_218 (by decide) ?_
              refine J_aload_n dX7_part_220 rfl rfl ?_
              refine J_iload_n dX7_part_221 rfl rfl ?_
              refine J_callV (as := [_]) (mc1 := 0) (ms1 := 0) (mc := 0) (ms := 0) dX7_part_222 mv_X7_emit lk_X7_186 sh_28 rfl (Nat.le_of_ble_eq_true rfl) (Nat.le_of_ble_eq_true rfl) h (fun r σ hq _ => ?_)
              obtain ⟨I10, rfl, rfl, h⟩ := hq
              change J _ _ _ _ _ _ _ [] _ _
              refine J_iload dX7_part_225 rfl ?_
              exact J_retz dX7_part_227 rfl (Or.inl rfl) h
            · replace h := h.2 c
              refine J_aload_n dX7_part_204 rfl rfl ?_
              refine J_bipush dX7_part_205 (ii_c rfl) (by decide) ?_
              refine J_callV (as := [_]) (mc1 := 0) (ms1 := 0) (mc := 0) (ms := 0) dX7_part_207 mv_X7_sign lk_X7_122 sh_28 rfl (Nat.le_of_ble_eq_true rfl) (Nat.le_of_ble_eq_true rfl) h (fun r σ hq _ => ?_)
              obtain ⟨x11, I11, rfl, rfl, h⟩ := hq
              change J _ _ _ _ _ _ _ [vI x11] _ _
              refine J_if_eq (tgt := 217) dX7_part_210 (by decide) (fun c => ?_) (fun c => ?_)
              · replace h := h.1 c
                refine J_iconst dX7_part_217 (ii_c rfl) ?_
                refine J_istore dX7_part_218 (by decide) ?_
                refine J_aload_n dX7_part_220 rfl rfl ?_
                refine J_iload_n dX7_part_221 rfl rfl ?_
                refine J_callV (as := [_]) (mc1 := 0) (ms1 := 0) (mc := 0) (ms := 0) dX7_part_222 mv_X7_emit lk_X7_186 sh_28 rfl (Nat.le_of_ble_eq_true rfl) (Nat.le_of_ble_eq_true rfl) h (fun r σ hq _ => ?_)
                obtain ⟨I12, rfl, rfl, h⟩ := hq
                change J _ _ _ _ _ _ _ [] _ _
                refine J_iload dX7_part_225 rfl ?_
                exact J_retz dX7_part_227 rfl (Or.inl rfl) h
              · replace h := h.2 c
                refine J_iconst dX7_part_213 (ii_c rfl) ?_
                refine J_goto (tgt := 218) dX7_part_214 (by decide) ?_
                refine J_istore dX7_part_218 (by decide) ?_
                refine J_aload_n dX7_part_220 rfl rfl ?_
                refine J_iload_n dX7_part_221 rfl rfl ?_
                refine J_callV (as := [_]) (mc1 := 0) (ms1 := 0) (mc := 0) (ms := 0) dX7_part_222 mv_X7_emit lk_X7_186 sh_28 rfl (Nat.le_of_ble_eq_true rfl) (Nat.le_of_ble_eq_true rfl) h (fun r σ hq _ => ?_)
                obtain ⟨I13, rfl, rfl, h⟩ := hq
                change J _ _ _ _ _ _ _ [] _ _
                refine J_iload dX7_part_225 rfl ?_
                exact J_retz dX7_part_227 rfl (Or.inr rfl) h
    · replace h := h.2 c
      refine J_aload_n dX7_part_136 rfl rfl ?_
      refine J_iload_n dX7_part_137 rfl rfl ?_
      refine J_callV (as := [_]) (mc1 := 0) (ms1 := 0) (mc := 0) (ms := 0) dX7_part_138 mv_X7_roomIn lk_X7_189 sh_28 rfl (Nat.le_of_ble_eq_true rfl) (Nat.le_of_ble_eq_true rfl) h (fun r σ hq _ => ?_)
      obtain ⟨x14, I14, rfl, rfl, h⟩ := hq
      change J _ _ _ _ _ _ _ [vI x14] _ _
      refine J_if_eq (tgt := 157) dX7_part_141 (by decide) (fun c => ?_) (fun c => ?_)
      · replace h := h.1 c
        exact h
      · replace h := h.2 c
        refine J_aload_n dX7_part_144 rfl rfl ?_
        refine J_bipush dX7_part_145 (ii_c rfl) (by decide) ?_
        refine J_callV (as := [_]) (mc1 := 0) (ms1 := 0) (mc := 0) (ms := 0) dX7_part_147 mv_X7_sign lk_X7_122 sh_28 rfl (Nat.le_of_ble_eq_true rfl) (Nat.le_of_ble_eq_true rfl) h (fun r σ hq _ => ?_)
        obtain ⟨x15, I15, rfl, rfl, h⟩ := hq
        change J _ _ _ _ _ _ _ [vI x15] _ _
        refine J_if_eq (tgt := 157) dX7_part_150 (by decide) (fun c => ?_) (fun c => ?_)
        · replace h := h.1 c
          exact h
        · replace h := h.2 c
          refine J_iconst dX7_part_153 (ii_c rfl) ?_
          refine J_goto (tgt := 170) dX7_part_154 (by decide) ?_
          refine J_istore_n dX7_part_170 rfl (by decide) ?_
          refine J_iload_n dX7_part_171 rfl rfl ?_
          refine J_if_eq (tgt := 217) dX7_part_172 (by decide) (fun c => absurd c (by decide)) (fun _ => ?_)
          refine J_aload_n dX7_part_175 rfl rfl ?_
          refine J_iload_n dX7_part_176 rfl rfl ?_
          refine J_iconst dX7_part_177 (ii_c rfl) ?_
          refine J_iaddN dX7_part_178 h.1 ?_
          replace h := h.2
          refine J_callV (as := [_]) (mc1 := 0) (ms1 := 0) (mc := 0) (ms := 0) dX7_part_179 mv_X7_sum lk_X7_192 sh_28 rfl (Nat.le_of_ble_eq_true rfl) (Nat.le_of_ble_eq_true rfl) h (fun r σ hq _ => ?_)
          obtain ⟨x16, I16, rfl, rfl, h⟩ := hq
          change J _ _ _ _ _ _ _ [vI x16] _ _
          refine J_if_eq (tgt := 217) dX7_part_182 (by decide) (fun c => ?_) (fun c => ?_)
          · replace h := h.1 c
            refine J_iconst dX7_part_217 (ii_c rfl) ?_
            refine J_istore dX7_part_218 (by decide) ?_
            refine J_aload_n dX7_part_220 rfl rfl ?_
            refine J_iload_n dX7_part_221 rfl rfl ?_
            refine J_callV (as := [_]) (mc1 := 0) (ms1 := 0) (mc := 0) (ms := 0) dX7_part_222 mv_X7_emit lk_X7_186 sh_28 rfl (Nat.le_of_ble_eq_true rfl) (Nat.le_of_ble_eq_true rfl) h (fun r σ hq _ => ?_)
            obtain ⟨I17, rfl, rfl, h⟩ := hq
            change J _ _ _ _ _ _ _ [] _ _
            refine J_iload dX7_part_225 rfl ?_
            exact J_retz dX7_part_227 rfl (Or.inl rfl) h
          · replace h := h.2 c
            refine J_aload_n dX7_part_185 rfl rfl ?_
            refine J_bipush dX7_part_186 (ii_c rfl) (by decide) ?_
            refine J_callV (as := [_]) (mc1 := 0) (ms1 := 0) (mc := 0) (ms := 0) dX7_part_188 mv_X7_sign lk_X7_122 sh_28 rfl (Nat.le_of_ble_eq_true rfl) (Nat.le_of_ble_eq_true rfl) h (fun r σ hq _ => ?_)
            obtain ⟨x18, I18, rfl, rfl, h⟩ := hq
            change J _ _ _ _ _ _ _ [vI x18] _ _
            refine J_if_eq (tgt := 217) dX7_part_191 (by decide) (fun c => ?_) (fun c => ?_)
            · replace h := h.1 c
              refine J_iconst dX7_part_217 (ii_c rfl) ?_
              refine J_istore dX7_part_218 (by decide) ?_
              refine J_aload_n dX7_part_220 rfl rfl ?_
              refine J_iload_n dX7_part_221 rfl rfl ?_
              refine J_callV (as := [_]) (mc1 := 0) (ms1 := 0) (mc := 0) (ms := 0) dX7_part_222 mv_X7_emit lk_X7_186 sh_28 rfl (Nat.le_of_ble_eq_true rfl) (Nat.le_of_ble_eq_true rfl) h (fun r σ hq _ => ?_)
              obtain ⟨I19, rfl, rfl, h⟩ := hq
              change J _ _ _ _ _ _ _ [] _ _
              refine J_iload dX7_part_225 rfl ?_
              exact J_retz dX7_part_227 rfl (Or.inl rfl) h
            · replace h := h.2 c
              refine J_aload_n dX7_part_194 rfl rfl ?_
              refine J_iload_n dX7_part_195 rfl rfl ?_
              refine J_iconst dX7_part_196 (ii_c rfl) ?_
              refine J_iaddN dX7_part_197 h.1 ?_
              replace h := h.2
              refine J_callV (as := [_]) (mc1 := 0) (ms1 := 0) (mc := 0) (ms := 0) dX7_part_198 mv_X7_sum lk_X7_192 sh_28 rfl (Nat.le_of_ble_eq_true rfl) (Nat.le_of_ble_eq_true rfl) h (fun r σ hq _ => ?_)
              obtain ⟨x20, I20, rfl, rfl, h⟩ := hq
              change J _ _ _ _ _ _ _ [vI x20] _ _
              refine J_if_eq (tgt := 217) dX7_part_201 (by decide) (fun c => ?_) (fun c => ?_)
              · replace h := h.1 c
                refine J_iconst dX7_part_217 (ii_c rfl) ?_
                refine J_istore dX7_part_218 (by decide) ?_
                refine J_aload_n dX7_part_220 rfl rfl ?_
                refine J_iload_n dX7_part_221 rfl rfl ?_
                refine J_callV (as := [_]) (mc1 := 0) (ms1 := 0) (mc := 0) (ms := 0) dX7_part_222 mv_X7_emit lk_X7_186 sh_28 rfl (Nat.le_of_ble_eq_true rfl) (Nat.le_of_ble_eq_true rfl) h (fun r σ hq _ => ?_)
                obtain ⟨I21, rfl, rfl, h⟩ := hq
                change J _ _ _ _ _ _ _ [] _ _
                refine J_iload dX7_part_225 rfl ?_
                exact J_retz dX7_part_227 rfl (Or.inl rfl) h
              · replace h := h.2 c
                refine J_aload_n dX7_part_204 rfl rfl ?_
                refine J_bipush dX7_part_205 (ii_c rfl) (by decide) ?_
                refine J_callV (as := [_]) (mc1 := 0) (ms1 := 0) (mc := 0) (ms := 0) dX7_part_207 mv_X7_sign lk_X7_122 sh_28 rfl (Nat.le_of_ble_eq_true rfl) (Nat.le_of_ble_eq_true rfl) h (fun r σ hq _ => ?_)
                obtain ⟨x22, I22, rfl, rfl, h⟩ := hq
                change J _ _ _ _ _ _ _ [vI x22] _ _
                refine J_if_eq (tgt := 217) dX7_part_210 (by decide) (fun c => ?_) (fun c => ?_)
                · replace h := h.1 c
                  refine J_iconst dX7_part_217 (ii_c rfl) ?_
                  refine J_istore dX7_part_218 (by decide) ?_
                  refine J_aload_n dX7_part_220 rfl rfl ?_
                  refine J_iload_n dX7_part_221 rfl rfl ?_
                  refine J_callV (as := [_]) (mc1 := 0) (ms1 := 0) (mc := 0) (ms := 0) dX7_part_222 mv_X7_emit lk_X7_186 sh_28 rfl (Nat.le_of_ble_eq_true rfl) (Nat.le_of_ble_eq_true rfl) h (fun r σ hq _ => ?_)
                  obtain ⟨I23, rfl, rfl, h⟩ := hq
                  change J _ _ _ _ _ _ _ [] _ _
                  refine J_iload dX7_part_225 rfl ?_
                  exact J_retz dX7_part_227 rfl (Or.inl rfl) h
                · replace h := h.2 c
                  refine J_iconst dX7_part_213 (ii_c rfl) ?_
                  refine J_goto (tgt := 218) dX7_part_214 (by decide) ?_
                  refine J_istore dX7_part_218 (by decide) ?_
                  refine J_aload_n dX7_part_220 rfl rfl ?_
                  refine J_iload_n dX7_part_221 rfl rfl ?_
                  refine J_callV (as := [_]) (mc1 := 0) (ms1 := 0) (mc := 0) (ms := 0) dX7_part_222 mv_X7_emit lk_X7_186 sh_28 rfl (Nat.le_of_ble_eq_true rfl) (Nat.le_of_ble_eq_true rfl) h (fun r σ hq _ => ?_)
                  obtain ⟨I24, rfl, rfl, h⟩ := hq
                  change J _ _ _ _ _ _ _ [] _ _
                  refine J_iload dX7_part_225 rfl ?_
                  exact J_retz dX7_part_227 rfl (Or.inr rfl) h
  · replace h := h.2 c
    refine J_bipush dX7_part_115 (ii_c rfl) (by decide) ?_
    refine J_goto (tgt := 122) dX7_part_117 (by decide) ?_
    refine J_istore_n dX7_part_122 rfl (by decide) ?_
    refine J_aload_n dX7_part_123 rfl rfl ?_
    refine J_callV (as := []) (mc1 := 0) (ms1 := 0) (mc := 0) (ms := 0) dX7_part_124 mv_X7_advance lk_X7_62 sh_28 rfl (Nat.le_of_ble_eq_true rfl) (Nat.le_of_ble_eq_true rfl) h (fun r σ hq _ => ?_)
    obtain ⟨I25, rfl, rfl, h⟩ := hq
    change J _ _ _ _ _ _ _ [] _ _
    refine J_aload_n dX7_part_127 rfl rfl ?_
    refine J_bipush dX7_part_128 (ii_c rfl) (by decide) ?_
    refine J_callV (as := [_]) (mc1 := 0) (ms1 := 0) (mc := 0) (ms := 0) dX7_part_130 mv_X7_isSign lk_X7_164 sh_28 rfl (Nat.le_of_ble_eq_true rfl) (Nat.le_of_ble_eq_true rfl) h (fun r σ hq _ => ?_)
    obtain ⟨x26, I26, rfl, rfl, h⟩ := hq
    change J _ _ _ _ _ _ _ [vI x26] _ _
    refine J_if_eq (tgt := 161) dX7_part_133 (by decide) (fun c => ?_) (fun c => ?_)
    · replace h := h.1 c
      refine J_aload_n dX7_part_161 rfl rfl ?_
      refine J_iconst dX7_part_162 (ii_c rfl) ?_
      refine J_aload_n dX7_part_163 rfl rfl ?_
      refine J_getI dX7_part_164 ck_7 fw_X7_79 rfl sh_28 ?_
      refine J_callV (as := [_, _]) (mc1 := 0) (ms1 := 0) (mc := 0) (ms := 0) dX7_part_167 mv_X7_fail lk_X7_119 sh_28 rfl (Nat.le_of_ble_eq_true rfl) (Nat.le_of_ble_eq_true rfl) h (fun r σ hq _ => ?_)
      obtain ⟨x27, I27, rfl, rfl, h⟩ := hq
      change J _ _ _ _ _ _ _ [vI x27] _ _
      refine J_istore_n dX7_part_170 rfl (by decide) ?_
      refine J_iload_n dX7_part_171 rfl rfl ?_
      refine J_if_eq (tgt := 217) dX7_part_172 (by decide) (fun c => ?_) (fun c => ?_)
      · replace h := h.1 c
        refine J_iconst dX7_part_217 (ii_c rfl) ?_
        refine J_istore dX7_part_218 (by decide) ?_
        refine J_aload_n dX7_part_220 rfl rfl ?_
        refine J_iload_n dX7_part_221 rfl rfl ?_
        refine J_callV (as := [_]) (mc1 := 0) (ms1 := 0) (mc := 0) (ms := 0) dX7_part_222 mv_X7_emit lk_X7_186 sh_28 rfl (Nat.le_of_ble_eq_true rfl) (Nat.le_of_ble_eq_true rfl) h (fun r σ hq _ => ?_)
        obtain ⟨I28, rfl, rfl, h⟩ := hq
        change J _ _ _ _ _ _ _ [] _ _
        refine J_iload dX7_part_225 rfl ?_
        exact J_retz dX7_part_227 rfl (Or.inl rfl) h
      · replace h := h.2 c
        refine J_aload_n dX7_part_175 rfl rfl ?_
        refine J_iload_n dX7_part_176 rfl rfl ?_
        refine J_iconst dX7_part_177 (ii_c rfl) ?_
        refine J_iaddN dX7_part_178 h.1 ?_
        replace h := h.2
        refine J_callV (as := [_]) (mc1 := 0) (ms1 := 0) (mc := 0) (ms := 0) dX7_part_179 mv_X7_sum lk_X7_192 sh_28 rfl (Nat.le_of_ble_eq_true rfl) (Nat.le_of_ble_eq_true rfl) h (fun r σ hq _ => ?_)
        obtain ⟨x29, I29, rfl, rfl, h⟩ := hq
        change J _ _ _ _ _ _ _ [vI x29] _ _
        refine J_if_eq (tgt := 217) dX7_part_182 (by decide) (fun c => ?_) (fun c => ?_)
        · replace h := h.1 c
          refine J_iconst dX7_part_217 (ii_c rfl) ?_
          refine J_istore dX7_part_218 (by decide) ?_
          refine J_aload_n dX7_part_220 rfl rfl ?_
          refine J_iload_n dX7_part_221 rfl rfl ?_
          refine J_callV (as := [_]) (mc1 := 0) (ms1 := 0) (mc := 0) (ms := 0) dX7_part_222 mv_X7_emit lk_X7_186 sh_28 rfl (Nat.le_of_ble_eq_true rfl) (Nat.le_of_ble_eq_true rfl) h (fun r σ hq _ => ?_)
          obtain ⟨I30, rfl, rfl, h⟩ := hq
          change J _ _ _ _ _ _ _ [] _ _
          refine J_iload dX7_part_225 rfl ?_
          exact J_retz dX7_part_227 rfl (Or.inl rfl) h
        · replace h := h.2 c
          refine J_aload_n dX7_part_185 rfl rfl ?_
          refine J_bipush dX7_part_186 (ii_c rfl) (by decide) ?_
          refine J_callV (as := [_]) (mc1 := 0) (ms1 := 0) (mc := 0) (ms := 0) dX7_part_188 mv_X7_sign lk_X7_122 sh_28 rfl (Nat.le_of_ble_eq_true rfl) (Nat.le_of_ble_eq_true rfl) h (fun r σ hq _ => ?_)
          obtain ⟨x31, I31, rfl, rfl, h⟩ := hq
          change J _ _ _ _ _ _ _ [vI x31] _ _
          refine J_if_eq (tgt := 217) dX7_part_191 (by decide) (fun c => ?_) (fun c => ?_)
          · replace h := h.1 c
            refine J_iconst dX7_part_217 (ii_c rfl) ?_
            refine J_istore dX7_part_218 (by decide) ?_
            refine J_aload_n dX7_part_220 rfl rfl ?_
            refine J_iload_n dX7_part_221 rfl rfl ?_
            refine J_callV (as := [_]) (mc1 := 0) (ms1 := 0) (mc := 0) (ms := 0) dX7_part_222 mv_X7_emit lk_X7_186 sh_28 rfl (Nat.le_of_ble_eq_true rfl) (Nat.le_of_ble_eq_true rfl) h (fun r σ hq _ => ?_)
            obtain ⟨I32, rfl, rfl, h⟩ := hq
            change J _ _ _ _ _ _ _ [] _ _
            refine J_iload dX7_part_225 rfl ?_
            exact J_retz dX7_part_227 rfl (Or.inl rfl) h
          · replace h := h.2 c
            refine J_aload_n dX7_part_194 rfl rfl ?_
            refine J_iload_n dX7_part_195 rfl rfl ?_
            refine J_iconst dX7_part_196 (ii_c rfl) ?_
            refine J_iaddN dX7_part_197 h.1 ?_
            replace h := h.2
            refine J_callV (as := [_]) (mc1 := 0) (ms1 := 0) (mc := 0) (ms := 0) dX7_part_198 mv_X7_sum lk_X7_192 sh_28 rfl (Nat.le_of_ble_eq_true rfl) (Nat.le_of_ble_eq_true rfl) h (fun r σ hq _ => ?_)
            obtain ⟨x33, I33, rfl, rfl, h⟩ := hq
            change J _ _ _ _ _ _ _ [vI x33] _ _
            refine J_if_eq (tgt := 217) dX7_part_201 (by decide) (fun c => ?_) (fun c => ?_)
            · replace h := h.1 c
              refine J_iconst dX7_part_217 (ii_c rfl) ?_
              refine J_istore dX7_part_218 (by decide) ?_
              refine J_aload_n dX7_part_220 rfl rfl ?_
              refine J_iload_n dX7_part_221 rfl rfl ?_
              refine J_callV (as := [_]) (mc1 := 0) (ms1 := 0) (mc := 0) (ms := 0) dX7_part_222 mv_X7_emit lk_X7_186 sh_28 rfl (Nat.le_of_ble_eq_true rfl) (Nat.le_of_ble_eq_true rfl) h (fun r σ hq _ => ?_)
              obtain ⟨I34, rfl, rfl, h⟩ := hq
              change J _ _ _ _ _ _ _ [] _ _
              refine J_iload dX7_part_225 rfl ?_
              exact J_retz dX7_part_227 rfl (Or.inl rfl) h
            · replace h := h.2 c
              refine J_aload_n dX7_part_204 rfl rfl ?_
              refine J_bipush dX7_part_205 (ii_c rfl) (by decide) ?_
              refine J_callV (as := [_]) (mc1 := 0) (ms1 := 0) (mc := 0) (ms := 0) dX7_part_207 mv_X7_sign lk_X7_122 sh_28 rfl (Nat.le_of_ble_eq_true rfl) (Nat.le_of_ble_eq_true rfl) h (fun r σ hq _ => ?_)
              obtain ⟨x35, I35, rfl, rfl, h⟩ := hq
              change J _ _ _ _ _ _ _ [vI x35] _ _
              refine J_if_eq (tgt := 217) dX7_part_210 (by decide) (fun c => ?_) (fun c => ?_)
              · replace h := h.1 c
                refine J_iconst dX7_part_217 (ii_c rfl) ?_
                refine J_istore dX7_part_218 (by decide) ?_
                refine J_aload_n dX7_part_220 rfl rfl ?_
                refine J_iload_n dX7_part_221 rfl rfl ?_
                refine J_callV (as := [_]) (mc1 := 0) (ms1 := 0) (mc := 0) (ms := 0) dX7_part_222 mv_X7_emit lk_X7_186 sh_28 rfl (Nat.le_of_ble_eq_true rfl) (Nat.le_of_ble_eq_true rfl) h (fun r σ hq _ => ?_)
                obtain ⟨I36, rfl, rfl, h⟩ := hq
                change J _ _ _ _ _ _ _ [] _ _
                refine J_iload dX7_part_225 rfl ?_
                exact J_retz dX7_part_227 rfl (Or.inl rfl) h
              · replace h := h.2 c
                refine J_iconst dX7_part_213 (ii_c rfl) ?_
                refine J_goto (tgt := 218) dX7_part_214 (by decide) ?_
                refine J_istore dX7_part_218 (by decide) ?_
                refine J_aload_n dX7_part_220 rfl rfl ?_
                refine J_iload_n dX7_part_221 rfl rfl ?_
                refine J_callV (as := [_]) (mc1 := 0) (ms1 := 0) (mc := 0) (ms := 0) dX7_part_222 mv_X7_emit lk_X7_186 sh_28 rfl (Nat.le_of_ble_eq_true rfl) (Nat.le_of_ble_eq_true rfl) h (fun r σ hq _ => ?_)
                obtain ⟨I37, rfl, rfl, h⟩ := hq
                change J _ _ _ _ _ _ _ [] _ _
                refine J_iload dX7_part_225 rfl ?_
                exact J_retz dX7_part_227 rfl (Or.inr rfl) h
    · replace h := h.2 c
      refine J_aload_n dX7_part_136 rfl rfl ?_
      refine J_iload_n dX7_part_137 rfl rfl ?_
      refine J_callV (as := [_]) (mc1 := 0) (ms1 := 0) (mc := 0) (ms := 0) dX7_part_138 mv_X7_roomIn lk_X7_189 sh_28 rfl (Nat.le_of_ble_eq_true rfl) (Nat.le_of_ble_eq_true rfl) h (fun r σ hq _ => ?_)
      obtain ⟨x38, I38, rfl, rfl, h⟩ := hq
      change J _ _ _ _ _ _ _ [vI x38] _ _
      refine J_if_eq (tgt := 157) dX7_part_141 (by decide) (fun c => ?_) (fun c => ?_)
      · replace h := h.1 c
        exact h
      · replace h := h.2 c
        refine J_aload_n dX7_part_144 rfl rfl ?_
        refine J_bipush dX7_part_145 (ii_c rfl) (by decide) ?_
        refine J_callV (as := [_]) (mc1 := 0) (ms1 := 0) (mc := 0) (ms := 0) dX7_part_147 mv_X7_sign lk_X7_122 sh_28 rfl (Nat.le_of_ble_eq_true rfl) (Nat.le_of_ble_eq_true rfl) h (fun r σ hq _ => ?_)
        obtain ⟨x39, I39, rfl, rfl, h⟩ := hq
        change J _ _ _ _ _ _ _ [vI x39] _ _
        refine J_if_eq (tgt := 157) dX7_part_150 (by decide) (fun c => ?_) (fun c => ?_)
        · replace h := h.1 c
          exact h
        · replace h := h.2 c
          refine J_iconst dX7_part_153 (ii_c rfl) ?_
          refine J_goto (tgt := 170) dX7_part_154 (by decide) ?_
          refine J_istore_n dX7_part_170 rfl (by decide) ?_
          refine J_iload_n dX7_part_171 rfl rfl ?_
          refine J_if_eq (tgt := 217) dX7_part_172 (by decide) (fun c => absurd c (by decide)) (fun _ => ?_)
          refine J_aload_n dX7_part_175 rfl rfl ?_
          refine J_iload_n dX7_part_176 rfl rfl ?_
          refine J_iconst dX7_part_177 (ii_c rfl) ?_
          refine J_iaddN dX7_part_178 h.1 ?_
          replace h := h.2
          refine J_callV (as := [_]) (mc1 := 0) (ms1 := 0) (mc := 0) (ms := 0) dX7_part_179 mv_X7_sum lk_X7_192 sh_28 rfl (Nat.le_of_ble_eq_true rfl) (Nat.le_of_ble_eq_true rfl) h (fun r σ hq _ => ?_)
          obtain ⟨x40, I40, rfl, rfl, h⟩ := hq
          change J _ _ _ _ _ _ _ [vI x40] _ _
          refine J_if_eq (tgt := 217) dX7_part_182 (by decide) (fun c => ?_) (fun c => ?_)
          · replace h := h.1 c
            refine J_iconst dX7_part_217 (ii_c rfl) ?_
            refine J_istore dX7_part_218 (by decide) ?_
            refine J_aload_n dX7_part_220 rfl rfl ?_
            refine J_iload_n dX7_part_221 rfl rfl ?_
            refine J_callV (as := [_]) (mc1 := 0) (ms1 := 0) (mc := 0) (ms := 0) dX7_part_222 mv_X7_emit lk_X7_186 sh_28 rfl (Nat.le_of_ble_eq_true rfl) (Nat.le_of_ble_eq_true rfl) h (fun r σ hq _ => ?_)
            obtain ⟨I41, rfl, rfl, h⟩ := hq
            change J _ _ _ _ _ _ _ [] _ _
            refine J_iload dX7_part_225 rfl ?_
            exact J_retz dX7_part_227 rfl (Or.inl rfl) h
          · replace h := h.2 c
            refine J_aload_n dX7_part_185 rfl rfl ?_
            refine J_bipush dX7_part_186 (ii_c rfl) (by decide) ?_
            refine J_callV (as := [_]) (mc1 := 0) (ms1 := 0) (mc := 0) (ms := 0) dX7_part_188 mv_X7_sign lk_X7_122 sh_28 rfl (Nat.le_of_ble_eq_true rfl) (Nat.le_of_ble_eq_true rfl) h (fun r σ hq _ => ?_)
            obtain ⟨x42, I42, rfl, rfl, h⟩ := hq
            change J _ _ _ _ _ _ _ [vI x42] _ _
            refine J_if_eq (tgt := 217) dX7_part_191 (by decide) (fun c => ?_) (fun c => ?_)
            · replace h := h.1 c
              refine J_iconst dX7_part_217 (ii_c rfl) ?_
              refine J_istore dX7_part_218 (by decide) ?_
              refine J_aload_n dX7_part_220 rfl rfl ?_
              refine J_iload_n dX7_part_221 rfl rfl ?_
              refine J_callV (as := [_]) (mc1 := 0) (ms1 := 0) (mc := 0) (ms := 0) dX7_part_222 mv_X7_emit lk_X7_186 sh_28 rfl (Nat.le_of_ble_eq_true rfl) (Nat.le_of_ble_eq_true rfl) h (fun r σ hq _ => ?_)
              obtain ⟨I43, rfl, rfl, h⟩ := hq
              change J _ _ _ _ _ _ _ [] _ _
              refine J_iload dX7_part_225 rfl ?_
              exact J_retz dX7_part_227 rfl (Or.inl rfl) h
            · replace h := h.2 c
              refine J_aload_n dX7_part_194 rfl rfl ?_
              refine J_iload_n dX7_part_195 rfl rfl ?_
              refine J_iconst dX7_part_196 (ii_c rfl) ?_
              refine J_iaddN dX7_part_197 h.1 ?_
              replace h := h.2
              refine J_callV (as := [_]) (mc1 := 0) (ms1 := 0) (mc := 0) (ms := 0) dX7_part_198 mv_X7_sum lk_X7_192 sh_28 rfl (Nat.le_of_ble_eq_true rfl) (Nat.le_of_ble_eq_true rfl) h (fun r σ hq _ => ?_)
              obtain ⟨x44, I44, rfl, rfl, h⟩ := hq
              change J _ _ _ _ _ _ _ [vI x44] _ _
              refine J_if_eq (tgt := 217) dX7_part_201 (by decide) (fun c => ?_) (fun c => ?_)
              · replace h := h.1 c
                refine J_iconst dX7_part_217 (ii_c rfl) ?_
                refine J_istore dX7_part_218 (by decide) ?_
                refine J_aload_n dX7_part_220 rfl rfl ?_
                refine J_iload_n dX7_part_221 rfl rfl ?_
                refine J_callV (as := [_]) (mc1 := 0) (ms1 := 0) (mc := 0) (ms := 0) dX7_part_222 mv_X7_emit lk_X7_186 sh_28 rfl (Nat.le_of_ble_eq_true rfl) (Nat.le_of_ble_eq_true rfl) h (fun r σ hq _ => ?_)
                obtain ⟨I45, rfl, rfl, h⟩ := hq
                change J _ _ _ _ _ _ _ [] _ _
                refine J_iload dX7_part_225 rfl ?_
                exact J_retz dX7_part_227 rfl (Or.inl rfl) h
              · replace h := h.2 c
                refine J_aload_n dX7_part_204 rfl rfl ?_
                refine J_bipush dX7_part_205 (ii_c rfl) (by decide) ?_
                refine J_callV (as := [_]) (mc1 := 0) (ms1 := 0) (mc := 0) (ms := 0) dX7_part_207 mv_X7_sign lk_X7_122 sh_28 rfl (Nat.le_of_ble_eq_true rfl) (Nat.le_of_ble_eq_true rfl) h (fun r σ hq _ => ?_)
                obtain ⟨x46, I46, rfl, rfl, h⟩ := hq
                change J _ _ _ _ _ _ _ [vI x46] _ _
                refine J_if_eq (tgt := 217) dX7_part_210 (by decide) (fun c => ?_) (fun c => ?_)
                · replace h := h.1 c
                  refine J_iconst dX7_part_217 (ii_c rfl) ?_
                  refine J_istore dX7_part_218 (by decide) ?_
                  refine J_aload_n dX7_part_220 rfl rfl ?_
                  refine J_iload_n dX7_part_221 rfl rfl ?_
                  refine J_callV (as := [_]) (mc1 := 0) (ms1 := 0) (mc := 0) (ms := 0) dX7_part_222 mv_X7_emit lk_X7_186 sh_28 rfl (Nat.le_of_ble_eq_true rfl) (Nat.le_of_ble_eq_true rfl) h (fun r σ hq _ => ?_)
                  obtain ⟨I47, rfl, rfl, h⟩ := hq
                  change J _ _ _ _ _ _ _ [] _ _
                  refine J_iload dX7_part_225 rfl ?_
                  exact J_retz dX7_part_227 rfl (Or.inl rfl) h
                · replace h := h.2 c
                  refine J_iconst dX7_part_213 (ii_c rfl) ?_
                  refine J_goto (tgt := 218) dX7_part_214 (by decide) ?_
                  refine J_istore dX7_part_218 (by decide) ?_
                  refine J_aload_n dX7_part_220 rfl rfl ?_
                  refine J_iload_n dX7_part_221 rfl rfl ?_
                  refine J_callV (as := [_]) (mc1 := 0) (ms1 := 0) (mc := 0) (ms := 0) dX7_part_222 mv_X7_emit lk_X7_186 sh_28 rfl (Nat.le_of_ble_eq_true rfl) (Nat.le_of_ble_eq_true rfl) h (fun r σ hq _ => ?_)
                  obtain ⟨I48, rfl, rfl, h⟩ := hq
                  change J _ _ _ _ _ _ _ [] _ _
                  refine J_iload dX7_part_225 rfl ?_
                  exact J_retz dX7_part_227 rfl (Or.inr rfl) h
set_option maxRecDepth 20000 in
set_option maxHeartbeats 2000000 in
theorem bk_X7_part_157 {d : Nat} {I : HI} {Q : Option AV → AH → Prop} {a1 : Int} {a2 : Int}  (h : CV mX7_emit d [vR 28, vI a2] I (fun I1 => Q (some (vI 0)) (mk I1))) : J none mX7_part (d + 1) 0 0 157 [(0, vR 28), (1, vI a1), (2, vI a2)] [] (mk I) Q := by
  refine J_iconst dX7_part_157 (ii_c rfl) ?_
  refine J_goto (tgt := 170) dX7_part_158 (by decide) ?_
  refine J_istore_n dX7_part_170 rfl (by decide) ?_
  refine J_iload_n dX7_part_171 rfl rfl ?_
  refine J_if_eq (tgt := 217) dX7_part_172 (by decide) (fun _ => ?_) (fun c => absurd (by decide) c)
  refine J_iconst dX7_part_217 (ii_c rfl) ?_
  refine J_istore dX7_part_218 (by decide) ?_
  refine J_aload_n dX7_part_220 rfl rfl ?_
  refine J_iload_n dX7_part_221 rfl rfl ?_
  refine J_callV (as := [_]) (mc1 := 0) (ms1 := 0) (mc := 0) (ms := 0) dX7_part_222 mv_X7_emit lk_X7_186 sh_28 rfl (Nat.le_of_ble_eq_true rfl) (Nat.le_of_ble_eq_true rfl) h (fun r σ hq _ => ?_)
  obtain ⟨I1, rfl, rfl, h⟩ := hq
  change J _ _ _ _ _ _ _ [] _ _
  refine J_iload dX7_part_225 rfl ?_
  exact J_retz dX7_part_227 rfl (Or.inl rfl) h
