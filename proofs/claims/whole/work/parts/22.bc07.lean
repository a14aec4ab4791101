set_option maxRecDepth 20000 in
set_option maxHeartbeats 2000000 in
theorem bk_X7_tellLane_0 {d : Nat} {I : HI} {Q : Option AV → AH → Prop}   (h : CI mX7_full d [vR 28, vI 1, vI 16] I (fun x1 I1 => ((x1 = 0 → CI mX7_askedCorner d [vR 28, vI (-1)] I1 (fun x2 I2 => ((x2 ≠ (-1) → CI mX7_askedCorner d [vR 28, vI x2] I2 (fun x3 I3 => ((x3 = (-1) → Q (some (vI 0)) (mk I3)) ∧ (¬ (x3 = (-1)) → CI mX7_word d [vR 28, vI 3] I3 (fun x4 I4 => ((x4 = 0 → Q (some (vI 0)) (mk I4)) ∧ (¬ (x4 = 0) → CI mX7_number d [vR 28, vI 1, vI 9] I4 (fun x5 I5 => ((x5 ≠ 0 → CI mX7_word d [vR 28, vI 4] I5 (fun x6 I6 => ((x6 = 0 → Q (some (vI 0)) (mk I6)) ∧ (¬ (x6 = 0) → CI mX7_number d [vR 28, vI 0, vI 9] I6 (fun x7 I7 => ((x7 ≠ 0 → CV mX0_addLane d [vR 14, vI x2, vI x3, vI (I5 28 10), vI (I7 28 10)] I7 (fun I8 => Q (some (vI 1)) (mk I8))) ∧ (x7 = 0 → Q (some (vI 0)) (mk I7)))))))) ∧ (x5 = 0 → Q (some (vI 0)) (mk I5))))))))))) ∧ (x2 = (-1) → Q (some (vI 0)) (mk I2))))) ∧ (¬ (x1 = 0) → Q (some (vI 0)) (mk I1))))) : J none mX7_tellLane (d + 1) 0 0 0 [(0, vR 28)] [] (mk I) Q := by
  refine J_aload_n dX7_tellLane_0 rfl rfl ?_
  refine J_iconst dX7_tellLane_1 (ii_c rfl) ?_
  refine J_bipush dX7_tellLane_2 (ii_c rfl) (by decide) ?_
  refine J_callV (as := [_, _]) (mc1 := 0) (ms1 := 0) (mc := 0) (ms := 0) dX7_tellLane_4 mv_X7_full lk_X7_99 sh_28 rfl (Nat.le_of_ble_eq_true rfl) (Nat.le_of_ble_eq_true rfl) h (fun r σ hq _ => ?_)
  obtain ⟨x1, I1, rfl, rfl, h⟩ := hq
  change J _ _ _ _ _ _ _ [vI x1] _ _
  refine J_if_eq (tgt := 12) dX7_tellLane_7 (by decide) (fun c => ?_) (fun c => ?_)
  · replace h := h.1 c
    refine J_aload_n dX7_tellLane_12 rfl rfl ?_
    refine J_iconst dX7_tellLane_13 (ii_c rfl) ?_
    refine J_callV (as := [_]) (mc1 := 0) (ms1 := 0) (mc := 0) (ms := 0) dX7_tellLane_14 mv_X7_askedCorner lk_X7_141 sh_28 rfl (Nat.le_of_ble_eq_true rfl) (Nat.le_of_ble_eq_true rfl) h (fun r σ hq _ => ?_)
    obtain ⟨x2, I2, rfl, rfl, h⟩ := hq
    change J _ _ _ _ _ _ _ [vI x2] _ _
    refine J_istore_n dX7_tellLane_17 rfl (by decide) ?_
    change J _ _ _ _ _ _ [(0, _), (1, _)] _ _ _
    refine J_iload_n dX7_tellLane_18 rfl rfl ?_
    refine J_iconst dX7_tellLane_19 (ii_c rfl) ?_
    refine J_ic_ne (tgt := 25) dX7_tellLane_20 (by decide) (fun c => ?_) (fun c => ?_)
    · replace h := h.1 c
      refine J_aload_n dX7_tellLane_25 rfl rfl ?_
      refine J_iload_n dX7_tellLane_26 rfl rfl ?_
      refine J_callV (as := [_]) (mc1 := 0) (ms1 := 0) (mc := 0) (ms := 0) dX7_tellLane_27 mv_X7_askedCorner lk_X7_141 sh_28 rfl (Nat.le_of_ble_eq_true rfl) (Nat.le_of_ble_eq_true rfl) h (fun r σ hq _ => ?_)
      obtain ⟨x3, I3, rfl, rfl, h⟩ := hq
      change J _ _ _ _ _ _ _ [vI x3] _ _
      refine J_istore_n dX7_tellLane_30 rfl (by decide) ?_
      change J _ _ _ _ _ _ [(0, _), (1, _), (2, _)] _ _ _
      refine J_iload_n dX7_tellLane_31 rfl rfl ?_
      refine J_iconst dX7_tellLane_32 (ii_c rfl) ?_
      refine J_ic_eq (tgt := 54) dX7_tellLane_33 (by decide) (fun c => ?_) (fun c => ?_)
      · replace h := h.1 c
        refine J_iconst dX7_tellLane_54 (ii_c rfl) ?_
        exact J_retz dX7_tellLane_55 rfl (Or.inl rfl) h
      · replace h := h.2 c
        refine J_aload_n dX7_tellLane_36 rfl rfl ?_
        refine J_iconst dX7_tellLane_37 (ii_c rfl) ?_
        refine J_callV (as := [_]) (mc1 := 0) (ms1 := 0) (mc := 0) (ms := 0) dX7_tellLane_38 mv_X7_word lk_X7_135 sh_28 rfl (Nat.le_of_ble_eq_true rfl) (Nat.le_of_ble_eq_true rfl) h (fun r σ hq _ => ?_)
        obtain ⟨x4, I4, rfl, rfl, h⟩ := hq
        change J _ _ _ _ _ _ _ [vI x4] _ _
        refine J_if_eq (tgt := 54) dX7_tellLane_41 (by decide) (fun c => ?_) (fun c => ?_)
        · replace h := h.1 c
          refine J_iconst dX7_tellLane_54 (ii_c rfl) ?_
          exact J_retz dX7_tellLane_55 rfl (Or.inl rfl) h
        · replace h := h.2 c
          refine J_aload_n dX7_tellLane_44 rfl rfl ?_
          refine J_iconst dX7_tellLane_45 (ii_c rfl) ?_
          refine J_bipush dX7_tellLane_46 (ii_c rfl) (by decide) ?_
          refine J_callV (as := [_, _]) (mc1 := 0) (ms1 := 0) (mc := 0) (ms := 0) dX7_tellLane_48 mv_X7_number lk_X7_110 sh_28 rfl (Nat.le_of_ble_eq_true rfl) (Nat.le_of_ble_eq_true rfl) h (fun r σ hq _ => ?_)
          obtain ⟨x5, I5, rfl, rfl, h⟩ := hq
          change J _ _ _ _ _ _ _ [vI x5] _ _
          refine J_if_ne (tgt := 56) dX7_tellLane_51 (by decide) (fun c => ?_) (fun c => ?_)
          · replace h := h.1 c
            refine J_aload_n dX7_tellLane_56 rfl rfl ?_
            refine J_getI dX7_tellLane_57 ck_7 fw_X7_113 rfl sh_28 ?_
            refine J_istore_n dX7_tellLane_60 rfl (by decide) ?_
            change J _ _ _ _ _ _ [(0, _), (1, _), (2, _), (3, _)] _ _ _
            refine J_aload_n dX7_tellLane_61 rfl rfl ?_
            refine J_iconst dX7_tellLane_62 (ii_c rfl) ?_
            refine J_callV (as := [_]) (mc1 := 0) (ms1 := 0) (mc := 0) (ms := 0) dX7_tellLane_63 mv_X7_word lk_X7_135 sh_28 rfl (Nat.le_of_ble_eq_true rfl) (Nat.le_of_ble_eq_true rfl) h (fun r σ hq _ => ?_)
            obtain ⟨x6, I6, rfl, rfl, h⟩ := hq
            change J _ _ _ _ _ _ _ [vI x6] _ _
            refine J_if_eq (tgt := 79) dX7_tellLane_66 (by decide) (fun c => ?_) (fun c => ?_)
            · replace h := h.1 c
              refine J_iconst dX7_tellLane_79 (ii_c rfl) ?_
              exact J_retz dX7_tellLane_80 rfl (Or.inl rfl) h
            · replace h := h.2 c
              refine J_aload_n dX7_tellLane_69 rfl rfl ?_
              refine J_iconst dX7_tellLane_70 (ii_c rfl) ?_
              refine J_bipush dX7_tellLane_71 (ii_c rfl) (by decide) ?_
              refine J_callV (as := [_, _]) (mc1 := 0) (ms1 := 0) (mc := 0) (ms := 0) dX7_tellLane_73 mv_X7_number lk_X7_110 sh_28 rfl (Nat.le_of_ble_eq_true rfl) (Nat.le_of_ble_eq_true rfl) h (fun r σ hq _ => ?_)
              obtain ⟨x7, I7, rfl, rfl, h⟩ := hq
              change J _ _ _ _ _ _ _ [vI x7] _ _
              refine J_if_ne (tgt := 81) dX7_tellLane_76 (by decide) (fun c => ?_) (fun c => ?_)
              · replace h := h.1 c
                refine J_aload_n dX7_tellLane_81 rfl rfl ?_
                refine J_getR dX7_tellLane_82 ck_7 fw_X7_21 rfl sh_28 rr_28_0 ?_
                refine J_iload_n dX7_tellLane_85 rfl rfl ?_
                refine J_iload_n dX7_tellLane_86 rfl rfl ?_
                refine J_iload_n dX7_tellLane_87 rfl rfl ?_
                refine J_aload_n dX7_tellLane_88 rfl rfl ?_
                refine J_getI dX7_tellLane_89 ck_7 fw_X7_113 rfl sh_28 ?_
                refine J_callV (as := [_, _, _, _]) (mc1 := 0) (ms1 := 0) (mc := 0) (ms := 0) dX7_tellLane_92 mv_X0_addLane lk_X7_145 sh_14 rfl (Nat.le_of_ble_eq_true rfl) (Nat.le_of_ble_eq_true rfl) h (fun r σ hq _ => ?_)
                obtain ⟨I8, rfl, rfl, h⟩ := hq
                change J _ _ _ _ _ _ _ [] _ _
                refine J_iconst dX7_tellLane_95 (ii_c rfl) ?_
                exact J_retz dX7_tellLane_96 rfl (Or.inr rfl) h
              · replace h := h.2 c
                refine J_iconst dX7_tellLane_79 (ii_c rfl) ?_
                exact J_retz dX7_tellLane_80 rfl (Or.inl rfl) h
          · replace h := h.2 c
            refine J_iconst dX7_tellLane_54 (ii_c rfl) ?_
            exact J_retz dX7_tellLane_55 rfl (Or.inl rfl) h
    · replace h := h.2 c
      refine J_iconst dX7_tellLane_23 (ii_c rfl) ?_
      exact J_retz dX7_tellLane_24 rfl (Or.inl rfl) h
  · replace h := h.2 c
    refine J_iconst dX7_tellLane_10 (ii_c rfl) ?_
    exact J_retz dX7_tellLane_11 rfl (Or.inl rfl) h
set_option maxRecDepth 20000 in
set_option maxHeartbeats 2000000 in
theorem bk_X7_tellSaint_0 {d : Nat} {I : HI} {Q : Option AV → AH → Prop}   (h : CI mX7_full d [vR 28, vI 2, vI 4] I (fun x1 I1 => ((x1 = 0 → CI mX7_newName d [vR 28, vR 17, vI (I1 15 2)] I1 (fun x2 I2 => ((x2 = 0 → Q (some (vI 0)) (mk I2)) ∧ (¬ (x2 = 0) → CI mX7_word d [vR 28, vI 6] I2 (fun x3 I3 => ((x3 ≠ 0 → CI mX7_askedCorner d [vR 28, vI (-1)] I3 (fun x4 I4 => (-2147483648 ≤ (I1 15 2) * 4 ∧ (I1 15 2) * 4 ≤ 2147483647) ∧ ((0 : Int) ≤ ((I1 15 2) * 4) ∧ ((I1 15 2) * 4 : Int) < 16) ∧ (∀ I5 : HI, I5 = up I4 20 ((I1 15 2) * 4).toNat x4 → ((x4 = (-1) → Q (some (vI 0)) (mk I5)) ∧ (¬ (x4 = (-1)) → CI mX7_word d [vR 28, vI 7] I5 (fun x5 I6 => ((x5 = 0 → Q (some (vI 0)) (mk I6)) ∧ (¬ (x5 = 0) → CI mX7_number d [vR 28, vI 1, vI 5] I6 (fun x6 I7 => ((x6 ≠ 0 → (-2147483648 ≤ (I1 15 2) * 4 ∧ (I1 15 2) * 4 ≤ 2147483647) ∧ (-2147483648 ≤ ((I1 15 2) * 4) + 1 ∧ ((I1 15 2) * 4) + 1 ≤ 2147483647) ∧ ((0 : Int) ≤ (((I1 15 2) * 4) + 1) ∧ (((I1 15 2) * 4) + 1 : Int) < 16) ∧ (∀ I8 : HI, I8 = up I7 20 (((I1 15 2) * 4) + 1).toNat (I7 28 10) → CI mX7_word d [vR 28, vI 8] I8 (fun x7 I9 => ((x7 = 0 → Q (some (vI 0)) (mk I9)) ∧ (¬ (x7 = 0) → CI mX7_number d [vR 28, vI 0, vI 20] I9 (fun x8 I10 => ((x8 ≠ 0 → (-2147483648 ≤ (I1 15 2) * 4 ∧ (I1 15 2) * 4 ≤ 2147483647) ∧ (-2147483648 ≤ ((I1 15 2) * 4) + 2 ∧ ((I1 15 2) * 4) + 2 ≤ 2147483647) ∧ ((0 : Int) ≤ (((I1 15 2) * 4) + 2) ∧ (((I1 15 2) * 4) + 2 : Int) < 16) ∧ (∀ I11 : HI, I11 = up I10 20 (((I1 15 2) * 4) + 2).toNat (I10 28 10) → CI mX7_word d [vR 28, vI 9] I11 (fun x9 I12 => ((x9 = 0 → Q (some (vI 0)) (mk I12)) ∧ (¬ (x9 = 0) → CI mX7_number d [vR 28, vI 0, vI 99] I12 (fun x10 I13 => ((x10 ≠ 0 → (-2147483648 ≤ (I1 15 2) * 4 ∧ (I1 15 2) * 4 ≤ 2147483647) ∧ (-2147483648 ≤ ((I1 15 2) * 4) + 3 ∧ ((I1 15 2) * 4) + 3 ≤ 2147483647) ∧ ((0 : Int) ≤ (((I1 15 2) * 4) + 3) ∧ (((I1 15 2) * 4) + 3 : Int) < 16) ∧ (∀ I14 : HI, I14 = up I13 20 (((I1 15 2) * 4) + 3).toNat (I13 28 10) → (-2147483648 ≤ (I14 15 2) + 1 ∧ (I14 15 2) + 1 ≤ 2147483647) ∧ (∀ I15 : HI, I15 = up I14 15 2 ((I14 15 2) + 1) → Q (some (vI 1)) (mk I15)))) ∧ (x10 = 0 → Q (some (vI 0)) (mk I13))))))))) ∧ (x8 = 0 → Q (some (vI 0)) (mk I10))))))))) ∧ (x6 = 0 → Q (some (vI 0)) (mk I7)))))))))))) ∧ (x3 = 0 → Q (some (vI 0)) (mk I3)))))))) ∧ (¬ (x1 = 0) → Q (some (vI 0)) (mk I1))))) : J none mX7_tellSaint (d + 1) 0 0 0 [(0, vR 28)] [] (mk I) Q := by
  refine J_aload_n dX7_tellSaint_0 rfl rfl ?_
  refine J_iconst dX7_tellSaint_1 (ii_c rfl) ?_
  refine J_iconst dX7_tellSaint_2 (ii_c rfl) ?_
  refine J_callV (as := [_, _]) (mc1 := 0) (ms1 := 0) (mc := 0) (ms := 0) dX7_tellSaint_3 mv_X7_full lk_X7_99 sh_28 rfl (Nat.le_of_ble_eq_true rfl) (Nat.le_of_ble_eq_true rfl) h (fun r σ hq _ => ?_)
  obtain ⟨x1, I1, rfl, rfl, h⟩ := hq
  change J _ _ _ _ _ _ _ [vI x1] _ _
  refine J_if_eq (tgt := 11) dX7_tellSaint_6 (by decide) (fun c => ?_) (fun c => ?_)
  · replace h := h.1 c
    refine J_aload_n dX7_tellSaint_11 rfl rfl ?_
    refine J_getR dX7_tellSaint_12 ck_7 fw_X7_21 rfl sh_28 rr_28_0 ?_
    refine J_getR dX7_tellSaint_15 ck_0 fw_X7_125 rfl sh_14 rr_14_0 ?_
    refine J_iconst dX7_tellSaint_18 (ii_c rfl) ?_
    refine J_iald dX7_tellSaint_19 sh_15 (by decide) (by decide) ?_
    refine J_istore_n dX7_tellSaint_20 rfl (by decide) ?_
    change J _ _ _ _ _ _ [(0, _), (1, _)] _ _ _
    refine J_aload_n dX7_tellSaint_21 rfl rfl ?_
    refine J_aload_n dX7_tellSaint_22 rfl rfl ?_
    refine J_getR dX7_tellSaint_23 ck_7 fw_X7_21 rfl sh_28 rr_28_0 ?_
    refine J_getR dX7_tellSaint_26 ck_0 fw_X7_149 rfl sh_14 rr_14_2 ?_
    refine J_iload_n dX7_tellSaint_29 rfl rfl ?_
    refine J_callV (as := [_, _]) (mc1 := 0) (ms1 := 0) (mc := 0) (ms := 0) dX7_tellSaint_30 mv_X7_newName lk_X7_131 sh_28 rfl (Nat.le_of_ble_eq_true rfl) (Nat.le_of_ble_eq_true rfl) h (fun r σ hq _ => ?_)
    obtain ⟨x2, I2, rfl, rfl, h⟩ := hq
    change J _ _ _ _ _ _ _ [vI x2] _ _
    refine J_if_eq (tgt := 45) dX7_tellSaint_33 (by decide) (fun c => ?_) (fun c => ?_)
    · replace h := h.1 c
      refine J_iconst dX7_tellSaint_45 (ii_c rfl) ?_
      exact J_retz dX7_tellSaint_46 rfl (Or.inl rfl) h
    · replace h := h.2 c
      refine J_aload_n dX7_tellSaint_36 rfl rfl ?_
      refine J_bipush dX7_tellSaint_37 (ii_c rfl) (by decide) ?_
      refine J_callV (as := [_]) (mc1 := 0) (ms1 := 0) (mc := 0) (ms := 0) dX7_tellSaint_39 mv_X7_word lk_X7_135 sh_28 rfl (Nat.le_of_ble_eq_true rfl) (Nat.le_of_ble_eq_true rfl) h (fun r σ hq _ => ?_)
      obtain ⟨x3, I3, rfl, rfl, h⟩ := hq
      change J _ _ _ _ _ _ _ [vI x3] _ _
      refine J_if_ne (tgt := 47) dX7_tellSaint_42 (by decide) (fun c => ?_) (fun c => ?_)
      · replace h := h.1 c
        refine J_aload_n dX7_tellSaint_47 rfl rfl ?_
        refine J_iconst dX7_tellSaint_48 (ii_c rfl) ?_
        refine J_callV (as := [_]) (mc1 := 0) (ms1 := 0) (mc := 0) (ms := 0) dX7_tellSaint_49 mv_X7_askedCorner lk_X7_141 sh_28 rfl (Nat.le_of_ble_eq_true rfl) (Nat.le_of_ble_eq_true rfl) h (fun r σ hq _ => ?_)
        obtain ⟨x4, I4, rfl, rfl, h⟩ := hq
        change J _ _ _ _ _ _ _ [vI x4] _ _
        refine J_istore_n dX7_tellSaint_52 rfl (by decide) ?_
        change J _ _ _ _ _ _ [(0, _), (1, _), (2, _)] _ _ _
        refine J_aload_n dX7_tellSaint_53 rfl rfl ?_
        refine J_getR dX7_tellSaint_54 ck_7 fw_X7_21 rfl sh_28 rr_28_0 ?_
        refine J_getR dX7_tellSaint_57 ck_0 fw_X7_152 rfl sh_14 rr_14_5 ?_
        refine J_iload_n dX7_tellSaint_60 rfl rfl ?_
        refine J_iconst dX7_tellSaint_61 (ii_c rfl) ?_
        refine J_imulN dX7_tellSaint_62 h.1 ?_
        replace h := h.2
        refine J_iload_n dX7_tellSaint_63 rfl rfl ?_
        refine J_iast dX7_tellSaint_64 sh_20 h.1.1 h.1.2 ?_
        replace h := h.2 _ rfl
        refine J_iload_n dX7_tellSaint_65 rfl rfl ?_
        refine J_iconst dX7_tellSaint_66 (ii_c rfl) ?_
        refine J_ic_eq (tgt := 88) dX7_tellSaint_67 (by decide) (fun c => ?_) (fun c => ?_)
        · replace h := h.1 c
          refine J_iconst dX7_tellSaint_88 (ii_c rfl) ?_
          exact J_retz dX7_tellSaint_89 rfl (Or.inl rfl) h
        · replace h := h.2 c
          refine J_aload_n dX7_tellSaint_70 rfl rfl ?_
          refine J_bipush dX7_tellSaint_71 (ii_c rfl) (by decide) ?_
          refine J_callV (as := [_]) (mc1 := 0) (ms1 := 0) (mc := 0) (ms := 0) dX7_tellSaint_73 mv_X7_word lk_X7_135 sh_28 rfl (Nat.le_of_ble_eq_true rfl) (Nat.le_of_ble_eq_true rfl) h (fun r σ hq _ => ?_)
          obtain ⟨x5, I6, rfl, rfl, h⟩ := hq
          change J _ _ _ _ _ _ _ [vI x5] _ _
          refine J_if_eq (tgt := 88) dX7_tellSaint_76 (by decide) (fun c => ?_) (fun c => ?_)
          · replace h := h.1 c
            refine J_iconst dX7_tellSaint_88 (ii_c rfl) ?_
            exact J_retz dX7_tellSaint_89 rfl (Or.inl rfl) h
          · replace h := h.2 c
            refine J_aload_n dX7_tellSaint_79 rfl rfl ?_
            refine J_iconst dX7_tellSaint_80 (ii_c rfl) ?_
            refine J_iconst dX7_tellSaint_81 (ii_c rfl) ?_
            refine J_callV (as := [_, _]) (mc1 := 0) (ms1 := 0) (mc := 0) (ms := 0) dX7_tellSaint_82 mv_X7_number lk_X7_110 sh_28 rfl (Nat.le_of_ble_eq_true rfl) (Nat.le_of_ble_eq_true rfl) h (fun r σ hq _ => ?_)
            obtain ⟨x6, I7, rfl, rfl, h⟩ := hq
            change J _ _ _ _ _ _ _ [vI x6] _ _
            refine J_if_ne (tgt := 90) dX7_tellSaint_85 (by decide) (fun c => ?_) (fun c => ?_)
            · replace h := h.1 c
              refine J_aload_n dX7_tellSaint_90 rfl rfl ?_
              refine J_getR dX7_tellSaint_91 ck_7 fw_X7_21 rfl sh_28 rr_28_0 ?_
              refine J_getR dX7_tellSaint_94 ck_0 fw_X7_152 rfl sh_14 rr_14_5 ?_
              refine J_iload_n dX7_tellSaint_97 rfl rfl ?_
              refine J_iconst dX7_tellSaint_98 (ii_c rfl) ?_
              refine J_imulN dX7_tellSaint_99 h.1 ?_
              replace h := h.2
              refine J_iconst dX7_tellSaint_100 (ii_c rfl) ?_
              refine J_iaddN dX7_tellSaint_101 h.1 ?_
              replace h := h.2
              refine J_aload_n dX7_tellSaint_102 rfl rfl ?_
              refine J_getI dX7_tellSaint_103 ck_7 fw_X7_113 rfl sh_28 ?_
              refine J_iast dX7_tellSaint_106 sh_20 h.1.1 h.1.2 ?_
              replace h := h.2 _ rfl
              refine J_aload_n dX7_tellSaint_107 rfl rfl ?_
              refine J_bipush dX7_tellSaint_108 (ii_c rfl) (by decide) ?_
              refine J_callV (as := [_]) (mc1 := 0) (ms1 := 0) (mc := 0) (ms := 0) dX7_tellSaint_110 mv_X7_word lk_X7_135 sh_28 rfl (Nat.le_of_ble_eq_true rfl) (Nat.le_of_ble_eq_true rfl) h (fun r σ hq _ => ?_)
              obtain ⟨x7, I9, rfl, rfl, h⟩ := hq
              change J _ _ _ _ _ _ _ [vI x7] _ _
              refine J_if_eq (tgt := 126) dX7_tellSaint_113 (by decide) (fun c => ?_) (fun c => ?_)
              · replace h := h.1 c
                refine J_iconst dX7_tellSaint_126 (ii_c rfl) ?_
                exact J_retz dX7_tellSaint_127 rfl (Or.inl rfl) h
              · replace h := h.2 c
                refine J_aload_n dX7_tellSaint_116 rfl rfl ?_
                refine J_iconst dX7_tellSaint_117 (ii_c rfl) ?_
                refine J_bipush dX7_tellSaint_118 (ii_c rfl) (by decide) ?_
                refine J_callV (as := [_, _]) (mc1 := 0) (ms1 := 0) (mc := 0) (ms := 0) dX7_tellSaint_120 mv_X7_number lk_X7_110 sh_28 rfl (Nat.le_of_ble_eq_true rfl) (Nat.le_of_ble_eq_true rfl) h (fun r σ hq _ => ?_)
                obtain ⟨x8, I10, rfl, rfl, h⟩ := hq
                change J _ _ _ _ _ _ _ [vI x8] _ _
                refine J_if_ne (tgt := 128) dX7_tellSaint_123 (by decide) (fun c => ?_) (fun c => ?_)
                · replace h := h.1 c
                  refine J_aload_n dX7_tellSaint_128 rfl rfl ?_
                  refine J_getR dX7_tellSaint_129 ck_7 fw_X7_21 rfl sh_28 rr_28_0 ?_
                  refine J_getR dX7_tellSaint_132 ck_0 fw_X7_152 rfl sh_14 rr_14_5 ?_
                  refine J_iload_n dX7_tellSaint_135 rfl rfl ?_
                  refine J_iconst dX7_tellSaint_136 (ii_c rfl) ?_
                  refine J_imulN dX7_tellSaint_137 h.1 ?_
                  replace h := h.2
                  refine J_iconst dX7_tellSaint_138 (ii_c rfl) ?_
                  refine J_iaddN dX7_tellSaint_139 h.1 ?_
                  replace h := h.2
                  refine J_aload_n dX7_tellSaint_140 rfl rfl ?_
                  refine J_getI dX7_tellSaint_141 ck_7 fw_X7_113 rfl sh_28 ?_
                  refine J_iast dX7_tellSaint_144 sh_20 h.1.1 h.1.2 ?_
                  replace h := h.2 _ rfl
                  refine J_aload_n dX7_tellSaint_145 rfl rfl ?_
                  refine J_bipush dX7_tellSaint_146 (ii_c rfl) (by decide) ?_
                  refine J_callV (as := [_]) (mc1 := 0) (ms1 := 0) (mc := 0) (ms := 0) dX7_tellSaint_148 mv_X7_word lk_X7_135 sh_28 rfl (Nat.le_of_ble_eq_true rfl) (Nat.le_of_ble_eq_true rfl) h (fun r σ hq _ => ?_)
                  obtain ⟨x9, I12, rfl, rfl, h⟩ := hq
                  change J _ _ _ _ _ _ _ [vI x9] _ _
                  refine J_if_eq (tgt := 164) dX7_tellSaint_151 (by decide) (fun c => ?_) (fun c => ?_)
                  · replace h := h.1 c
                    refine J_iconst dX7_tellSaint_164 (ii_c rfl) ?_
                    exact J_retz dX7_tellSaint_165 rfl (Or.inl rfl) h
                  · replace h := h.2 c
                    refine J_aload_n dX7_tellSaint_154 rfl rfl ?_
                    refine J_iconst dX7_tellSaint_155 (ii_c rfl) ?_
                    refine J_bipush dX7_tellSaint_156 (ii_c rfl) (by decide) ?_
                    refine J_callV (as := [_, _]) (mc1 := 0) (ms1 := 0) (mc := 0) (ms := 0) dX7_tellSaint_158 mv_X7_number lk_X7_110 sh_28 rfl (Nat.le_of_ble_eq_true rfl) (Nat.le_of_ble_eq_true rfl) h (fun r σ hq _ => ?_)
                    obtain ⟨x10, I13, rfl, rfl, h⟩ := hq
                    change J _ _ _ _ _ _ _ [vI x10] _ _
                    refine J_if_ne (tgt := 166) dX7_tellSaint_161 (by decide) (fun c => ?_) (fun c => ?_)
                    · replace h := h.1 c
                      refine J_aload_n dX7_tellSaint_166 rfl rfl ?_
                      refine J_getR dX7_tellSaint_167 ck_7 fw_X7_21 rfl sh_28 rr_28_0 ?_
                      refine J_getR dX7_tellSaint_170 ck_0 fw_X7_152 rfl sh_14 rr_14_5 ?_
                      refine J_iload_n dX7_tellSaint_173 rfl rfl ?_
                      refine J_iconst dX7_tellSaint_174 (ii_c rfl) ?_
                      refine J_imulN dX7_tellSaint_175 h.1 ?_
                      replace h := h.2
                      refine J_iconst dX7_tellSaint_176 (ii_c rfl) ?_
                      refine J_iaddN dX7_tellSaint_177 h.1 ?_
                      replace h := h.2
                      refine J_aload_n dX7_tellSaint_178 rfl rfl ?_
                      refine J_getI dX7_tellSaint_179 ck_7 fw_X7_113 rfl sh_28 ?_
                      refine J_iast dX7_tellSaint_182 sh_20 h.1.1 h.1.2 ?_
                      replace h := h.2 _ rfl
                      refine J_aload_n dX7_tellSaint_183 rfl rfl ?_
                      refine J_getR dX7_tellSaint_184 ck_7 fw_X7_21 rfl sh_28 rr_28_0 ?_
                      refine J_getR dX7_tellSaint_187 ck_0 fw_X7_125 rfl sh_14 rr_14_0 ?_
                      refine J_iconst dX7_tellSaint_190 (ii_c rfl) ?_
                      refine J_dup2 dX7_tellSaint_191 rfl rfl ?_
                      refine J_iald dX7_tellSaint_192 sh_15 (by decide) (by decide) ?_
                      refine J_iconst dX7_tellSaint_193 (ii_c rfl) ?_
                      refine J_iaddN dX7_tellSaint_194 h.1 ?_
                      replace h := h.2
                      refine J_iast dX7_tellSaint_195 sh_15 (by decide) (by decide) ?_
                      replace h := h _ rfl
                      refine J_iconst dX7_tellSaint_196 (ii_c rfl) ?_
                      exact J_retz dX7_tellSaint_197 rfl (Or.inr rfl) h
                    · replace h := h.2 c
                      refine J_iconst dX7_tellSaint_164 (ii_c rfl) ?_
                      exact J_retz dX7_tellSaint_165 rfl (Or.inl rfl) h
                · replace h := h.2 c
                  refine J_iconst dX7_tellSaint_126 (ii_c rfl) ?_
                  exact J_retz dX7_tellSaint_127 rfl (Or.inl rfl) h
            · replace h := h.2 c
              refine J_iconst dX7_tellSaint_88 (ii_c rfl) ?_
              exact J_retz dX7_tellSaint_89 rfl (Or.inl rfl) h
      · replace h := h.2 c
        refine J_iconst dX7_tellSaint_45 (ii_c rfl) ?_
        exact J_retz dX7_tellSaint_46 rfl (Or.inl rfl) h
  · replace h := h.2 c
    refine J_iconst dX7_tellSaint_9 (ii_c rfl) ?_
    exact J_retz dX7_tellSaint_10 rfl (Or.inl rfl) h
set_option maxRecDepth 20000 in
set_option maxHeartbeats 2000000 in
theorem bk_X7_tellBalcony_0 {d : Nat} {I : HI} {Q : Option AV → AH → Prop}   (h : CI mX7_full d [vR 28, vI 3, vI 10] I (fun x1 I1 => ((x1 ≠ 0 → Q (some (vI 0)) (mk I1)) ∧ (x1 = 0 → CI mX7_word d [vR 28, vI 6] I1 (fun x2 I2 => ((x2 ≠ 0 → (-2147483648 ≤ (I2 15 3) * 4 ∧ (I2 15 3) * 4 ≤ 2147483647) ∧ CI mX7_askedCorner d [vR 28, vI (-1)] I2 (fun x3 I3 => ((0 : Int) ≤ ((I2 15 3) * 4) ∧ ((I2 15 3) * 4 : Int) < 40) ∧ (∀ I4 : HI, I4 = up I3 21 ((I2 15 3) * 4).toNat x3 → ((x3 = (-1) → Q (some (vI 0)) (mk I4)) ∧ (¬ (x3 = (-1)) → CI mX7_word d [vR 28, vI 11] I4 (fun x4 I5 => ((x4 = 0 → Q (some (vI 0)) (mk I5)) ∧ (¬ (x4 = 0) → CI mX7_number d [vR 28, vI 0, vI 999] I5 (fun x5 I6 => ((x5 ≠ 0 → (-2147483648 ≤ ((I2 15 3) * 4) + 1 ∧ ((I2 15 3) * 4) + 1 ≤ 2147483647) ∧ ((0 : Int) ≤ (((I2 15 3) * 4) + 1) ∧ (((I2 15 3) * 4) + 1 : Int) < 40) ∧ (∀ I7 : HI, I7 = up I6 21 (((I2 15 3) * 4) + 1).toNat (I6 28 10) → CI mX7_word d [vR 28, vI 12] I7 (fun x6 I8 => ((x6 = 0 → Q (some (vI 0)) (mk I8)) ∧ (¬ (x6 = 0) → CI mX7_number d [vR 28, vI (I8 28 10), vI 999] I8 (fun x7 I9 => ((x7 ≠ 0 → (-2147483648 ≤ ((I2 15 3) * 4) + 2 ∧ ((I2 15 3) * 4) + 2 ≤ 2147483647) ∧ ((0 : Int) ≤ (((I2 15 3) * 4) + 2) ∧ (((I2 15 3) * 4) + 2 : Int) < 40) ∧ (∀ I10 : HI, I10 = up I9 21 (((I2 15 3) * 4) + 2).toNat (I9 28 10) → CI mX7_word d [vR 28, vI 13] I10 (fun x8 I11 => ((x8 = 0 → Q (some (vI 0)) (mk I11)) ∧ (¬ (x8 = 0) → CI mX7_number d [vR 28, vI 1, vI 99] I11 (fun x9 I12 => ((x9 ≠ 0 → (-2147483648 ≤ ((I2 15 3) * 4) + 3 ∧ ((I2 15 3) * 4) + 3 ≤ 2147483647) ∧ ((0 : Int) ≤ (((I2 15 3) * 4) + 3) ∧ (((I2 15 3) * 4) + 3 : Int) < 40) ∧ (∀ I13 : HI, I13 = up I12 21 (((I2 15 3) * 4) + 3).toNat (I12 28 10) → (-2147483648 ≤ (I13 15 3) + 1 ∧ (I13 15 3) + 1 ≤ 2147483647) ∧ (∀ I14 : HI, I14 = up I13 15 3 ((I13 15 3) + 1) → Q (some (vI 1)) (mk I14)))) ∧ (x9 = 0 → Q (some (vI 0)) (mk I12))))))))) ∧ (x7 = 0 → Q (some (vI 0)) (mk I9))))))))) ∧ (x5 = 0 → Q (some (vI 0)) (mk I6)))))))))))) ∧ (x2 = 0 → Q (some (vI 0)) (mk I2)))))))) : J none mX7_tellBalcony (d + 1) 0 0 0 [(0, vR 28)] [] (mk I) Q := by
  refine J_aload_n dX7_tellBalcony_0 rfl rfl ?_
  refine J_iconst dX7_tellBalcony_1 (ii_c rfl) ?_
  refine J_bipush dX7_tellBalcony_2 (ii_c rfl) (by decide) ?_
  refine J_callV (as := [_, _]) (mc1 := 0) (ms1 := 0) (mc := 0) (ms := 0) dX7_tellBalcony_4 mv_X7_full lk_X7_99 sh_28 rfl (Nat.le_of_ble_eq_true rfl) (Nat.le_of_ble_eq_true rfl) h (fun r σ hq _ => ?_)
  obtain ⟨x1, I1, rfl, rfl, h⟩ := hq
  change J _ _ _ _ _ _ _ [vI x1] _ _
  refine J_if_ne (tgt := 19) dX7_tellBalcony_7 (by decide) (fun c => ?_) (fun c => ?_)
  · replace h := h.1 c
    refine J_iconst dX7_tellBalcony_19 (ii_c rfl) ?_
    exact J_retz dX7_tellBalcony_20 rfl (Or.inl rfl) h
  · replace h := h.2 c
    refine J_aload_n dX7_tellBalcony_10 rfl rfl ?_
    refine J_bipush dX7_tellBalcony_11 (ii_c rfl) (by decide) ?_
    refine J_callV (as := [_]) (mc1 := 0) (ms1 := 0) (mc := 0) (ms := 0) dX7_tellBalcony_13 mv_X7_word lk_X7_135 sh_28 rfl (Nat.le_of_ble_eq_true rfl) (Nat.le_of_ble_eq_true rfl) h (fun r σ hq _ => ?_)
    obtain ⟨x2, I2, rfl, rfl, h⟩ := hq
    change J _ _ _ _ _ _ _ [vI x2] _ _
    refine J_if_ne (tgt := 21) dX7_tellBalcony_16 (by decide) (fun c => ?_) (fun c => ?_)
    · replace h := h.1 c
      refine J_aload_n dX7_tellBalcony_21 rfl rfl ?_
      refine J_getR dX7_tellBalcony_22 ck_7 fw_X7_21 rfl sh_28 rr_28_0 ?_
      refine J_getR dX7_tellBalcony_25 ck_0 fw_X7_125 rfl sh_14 rr_14_0 ?_
      refine J_iconst dX7_tellBalcony_28 (ii_c rfl) ?_
      refine J_iald dX7_tellBalcony_29 sh_15 (by decide) (by decide) ?_
      refine J_iconst dX7_tellBalcony_30 (ii_c rfl) ?_
      refine J_imulN dX7_tellBalcony_31 h.1 ?_
      replace h := h.2
      refine J_istore_n dX7_tellBalcony_32 rfl (by decide) ?_
      change J _ _ _ _ _ _ [(0, _), (1, _)] _ _ _
      refine J_aload_n dX7_tellBalcony_33 rfl rfl ?_
      refine J_iconst dX7_tellBalcony_34 (ii_c rfl) ?_
      refine J_callV (as := [_]) (mc1 := 0) (ms1 := 0) (mc := 0) (ms := 0) dX7_tellBalcony_35 mv_X7_askedCorner lk_X7_141 sh_28 rfl (Nat.le_of_ble_eq_true rfl) (Nat.le_of_ble_eq_true rfl) h (fun r σ hq _ => ?_)
      obtain ⟨x3, I3, rfl, rfl, h⟩ := hq
      change J _ _ _ _ _ _ _ [vI x3] _ _
      refine J_istore_n dX7_tellBalcony_38 rfl (by decide) ?_
      change J _ _ _ _ _ _ [(0, _), (1, _), (2, _)] _ _ _
      refine J_aload_n dX7_tellBalcony_39 rfl rfl ?_
      refine J_getR dX7_tellBalcony_40 ck_7 fw_X7_21 rfl sh_28 rr_28_0 ?_
      refine J_getR dX7_tellBalcony_43 ck_0 fw_X7_155 rfl sh_14 rr_14_6 ?_
      refine J_iload_n dX7_tellBalcony_46 rfl rfl ?_
      refine J_iload_n dX7_tellBalcony_47 rfl rfl ?_
      refine J_iast dX7_tellBalcony_48 sh_21 h.1.1 h.1.2 ?_
      replace h := h.2 _ rfl
      refine J_iload_n dX7_tellBalcony_49 rfl rfl ?_
      refine J_iconst dX7_tellBalcony_50 (ii_c rfl) ?_
      refine J_ic_eq (tgt := 74) dX7_tellBalcony_51 (by decide) (fun c => ?_) (fun c => ?_)
      · replace h := h.1 c
        refine J_iconst dX7_tellBalcony_74 (ii_c rfl) ?_
        exact J_retz dX7_tellBalcony_75 rfl (Or.inl rfl) h
      · replace h := h.2 c
        refine J_aload_n dX7_tellBalcony_54 rfl rfl ?_
        refine J_bipush dX7_tellBalcony_55 (ii_c rfl) (by decide) ?_
        refine J_callV (as := [_]) (mc1 := 0) (ms1 := 0) (mc := 0) (ms := 0) dX7_tellBalcony_57 mv_X7_word lk_X7_135 sh_28 rfl (Nat.le_of_ble_eq_true rfl) (Nat.le_of_ble_eq_true rfl) h (fun r σ hq _ => ?_)
        obtain ⟨x4, I5, rfl, rfl, h⟩ := hq
        change J _ _ _ _ _ _ _ [vI x4] _ _
        refine J_if_eq (tgt := 74) dX7_tellBalcony_60 (by decide) (fun c => ?_) (fun c => ?_)
        · replace h := h.1 c
          refine J_iconst dX7_tellBalcony_74 (ii_c rfl) ?_
          exact J_retz dX7_tellBalcony_75 rfl (Or.inl rfl) h
        · replace h := h.2 c
          refine J_aload_n dX7_tellBalcony_63 rfl rfl ?_
          refine J_iconst dX7_tellBalcony_64 (ii_c rfl) ?_
          refine J_sipush dX7_tellBalcony_65 (ii_c rfl) (by decide) ?_
          refine J_callV (as := [_, _]) (mc1 := 0) (ms1 := 0) (mc := 0) (ms := 0) dX7_tellBalcony_68 mv_X7_number lk_X7_110 sh_28 rfl (Nat.le_of_ble_eq_true rfl) (Nat.le_of_ble_eq_true rfl) h (fun r σ hq _ => ?_)
          obtain ⟨x5, I6, rfl, rfl, h⟩ := hq
          change J _ _ _ _ _ _ _ [vI x5] _ _
          refine J_if_ne (tgt := 76) dX7_tellBalcony_71 (by decide) (fun c => ?_) (fun c => ?_)
          · replace h := h.1 c
            refine J_aload_n dX7_tellBalcony_76 rfl rfl ?_
            refine J_getR dX7_tellBalcony_77 ck_7 fw_X7_21 rfl sh_28 rr_28_0 ?_
            refine J_getR dX7_tellBalcony_80 ck_0 fw_X7_155 rfl sh_14 rr_14_6 ?_
            refine J_iload_n dX7_tellBalcony_83 rfl rfl ?_
            refine J_iconst dX7_tellBalcony_84 (ii_c rfl) ?_
            refine J_iaddN dX7_tellBalcony_85 h.1 ?_
            replace h := h.2
            refine J_aload_n dX7_tellBalcony_86 rfl rfl ?_
            refine J_getI dX7_tellBalcony_87 ck_7 fw_X7_113 rfl sh_28 ?_
            refine J_iast dX7_tellBalcony_90 sh_21 h.1.1 h.1.2 ?_
            replace h := h.2 _ rfl
            refine J_aload_n dX7_tellBalcony_91 rfl rfl ?_
            refine J_bipush dX7_tellBalcony_92 (ii_c rfl) (by decide) ?_
            refine J_callV (as := [_]) (mc1 := 0) (ms1 := 0) (mc := 0) (ms := 0) dX7_tellBalcony_94 mv_X7_word lk_X7_135 sh_28 rfl (Nat.le_of_ble_eq_true rfl) (Nat.le_of_ble_eq_true rfl) h (fun r σ hq _ => ?_)
            obtain ⟨x6, I8, rfl, rfl, h⟩ := hq
            change J _ _ _ _ _ _ _ [vI x6] _ _
            refine J_if_eq (tgt := 114) dX7_tellBalcony_97 (by decide) (fun c => ?_) (fun c => ?_)
            · replace h := h.1 c
              refine J_iconst dX7_tellBalcony_114 (ii_c rfl) ?_
              exact J_retz dX7_tellBalcony_115 rfl (Or.inl rfl) h
            · replace h := h.2 c
              refine J_aload_n dX7_tellBalcony_100 rfl rfl ?_
              refine J_aload_n dX7_tellBalcony_101 rfl rfl ?_
              refine J_getI dX7_tellBalcony_102 ck_7 fw_X7_113 rfl sh_28 ?_
              refine J_sipush dX7_tellBalcony_105 (ii_c rfl) (by decide) ?_
              refine J_callV (as := [_, _]) (mc1 := 0) (ms1 := 0) (mc := 0) (ms := 0) dX7_tellBalcony_108 mv_X7_number lk_X7_110 sh_28 rfl (Nat.le_of_ble_eq_true rfl) (Nat.le_of_ble_eq_true rfl) h (fun r σ hq _ => ?_)
              obtain ⟨x7, I9, rfl, rfl, h⟩ := hq
              change J _ _ _ _ _ _ _ [vI x7] _ _
              refine J_if_ne (tgt := 116) dX7_tellBalcony_111 (by decide) (fun c => ?_) (fun c => ?_)
              · replace h := h.1 c
                refine J_aload_n dX7_tellBalcony_116 rfl rfl ?_
                refine J_getR dX7_tellBalcony_117 ck_7 fw_X7_21 rfl sh_28 rr_28_0 ?_
                refine J_getR dX7_tellBalcony_120 ck_0 fw_X7_155 rfl sh_14 rr_14_6 ?_
                refine J_iload_n dX7_tellBalcony_123 rfl rfl ?_
                refine J_iconst dX7_tellBalcony_124 (ii_c rfl) ?_
                refine J_iaddN dX7_tellBalcony_125 h.1 ?_
                replace h := h.2
                refine J_aload_n dX7_tellBalcony_126 rfl rfl ?_
                refine J_getI dX7_tellBalcony_127 ck_7 fw_X7_113 rfl sh_28 ?_
                refine J_iast dX7_tellBalcony_130 sh_21 h.1.1 h.1.2 ?_
                replace h := h.2 _ rfl
                refine J_aload_n dX7_tellBalcony_131 rfl rfl ?_
                refine J_bipush dX7_tellBalcony_132 (ii_c rfl) (by decide) ?_
                refine J_callV (as := [_]) (mc1 := 0) (ms1 := 0) (mc := 0) (ms := 0) dX7_tellBalcony_134 mv_X7_word lk_X7_135 sh_28 rfl (Nat.le_of_ble_eq_true rfl) (Nat.le_of_ble_eq_true rfl) h (fun r σ hq _ => ?_)
                obtain ⟨x8, I11, rfl, rfl, h⟩ := hq
                change J _ _ _ _ _ _ _ [vI x8] _ _
                refine J_if_eq (tgt := 150) dX7_tellBalcony_137 (by decide) (fun c => ?_) (fun c => ?_)
                · replace h := h.1 c
                  refine J_iconst dX7_tellBalcony_150 (ii_c rfl) ?_
                  exact J_retz dX7_tellBalcony_151 rfl (Or.inl rfl) h
                · replace h := h.2 c
                  refine J_aload_n dX7_tellBalcony_140 rfl rfl ?_
                  refine J_iconst dX7_tellBalcony_141 (ii_c rfl) ?_
                  refine J_bipush dX7_tellBalcony_142 (ii_c rfl) (by decide) ?_
                  refine J_callV (as := [_, _]) (mc1 := 0) (ms1 := 0) (mc := 0) (ms := 0) dX7_tellBalcony_144 mv_X7_number lk_X7_110 sh_28 rfl (Nat.le_of_ble_eq_true rfl) (Nat.le_of_ble_eq_true rfl) h (fun r σ hq _ => ?_)
                  obtain ⟨x9, I12, rfl, rfl, h⟩ := hq
                  change J _ _ _ _ _ _ _ [vI x9] _ _
                  refine J_if_ne (tgt := 152) dX7_tellBalcony_147 (by decide) (fun c => ?_) (fun c => ?_)
                  · replace h := h.1 c
                    refine J_aload_n dX7_tellBalcony_152 rfl rfl ?_
                    refine J_getR dX7_tellBalcony_153 ck_7 fw_X7_21 rfl sh_28 rr_28_0 ?_
                    refine J_getR dX7_tellBalcony_156 ck_0 fw_X7_155 rfl sh_14 rr_14_6 ?_
                    refine J_iload_n dX7_tellBalcony_159 rfl rfl ?_
                    refine J_iconst dX7_tellBalcony_160 (ii_c rfl) ?_
                    refine J_iaddN dX7_tellBalcony_161 h.1 ?_
                    replace h := h.2
                    refine J_aload_n dX7_tellBalcony_162 rfl rfl ?_
                    refine J_getI dX7_tellBalcony_163 ck_7 fw_X7_113 rfl sh_28 ?_
                    refine J_iast dX7_tellBalcony_166 sh_21 h.1.1 h.1.2 ?_
                    replace h := h.2 _ rfl
                    refine J_aload_n dX7_tellBalcony_167 rfl rfl ?_
                    refine J_getR dX7_tellBalcony_168 ck_7 fw_X7_21 rfl sh_28 rr_28_0 ?_
                    refine J_getR dX7_tellBalcony_171 ck_0 fw_X7_125 rfl sh_14 rr_14_0 ?_
                    refine J_iconst dX7_tellBalcony_174 (ii_c rfl) ?_
                    refine J_dup2 dX7_tellBalcony_175 rfl rfl ?_
                    refine J_iald dX7_tellBalcony_176 sh_15 (by decide) (by decide) ?_
                    refine J_iconst dX7_tellBalcony_177 (ii_c rfl) ?_
                    refine J_iaddN dX7_tellBalcony_178 h.1 ?_
                    replace h := h.2
                    refine J_iast dX7_tellBalcony_179 sh_15 (by decide) (by decide) ?_
                    replace h := h _ rfl
                    refine J_iconst dX7_tellBalcony_180 (ii_c rfl) ?_
                    exact J_retz dX7_tellBalcony_181 rfl (Or.inr rfl) h
                  · replace h := h.2 c
                    refine J_iconst dX7_tellBalcony_150 (ii_c rfl) ?_
                    exact J_retz dX7_tellBalcony_151 rfl (Or.inl rfl) h
              · replace h := h.2 c
                refine J_iconst dX7_tellBalcony_114 (ii_c rfl) ?_
                exact J_retz dX7_tellBalcony_115 rfl (Or.inl rfl) h
          · replace h := h.2 c
            refine J_iconst dX7_tellBalcony_74 (ii_c rfl) ?_
            exact J_retz dX7_tellBalcony_75 rfl (Or.inl rfl) h
    · replace h := h.2 c
      refine J_iconst dX7_tellBalcony_19 (ii_c rfl) ?_
      exact J_retz dX7_tellBalcony_20 rfl (Or.inl rfl) h
set_option maxRecDepth 20000 in
set_option maxHeartbeats 2000000 in
theorem bk_X7_exceptionStands_0 {d : Nat} {I : HI} {Q : Option AV → AH → Prop}   (h : (-2147483648 ≤ (I 15 4) + 1 ∧ (I 15 4) + 1 ≤ 2147483647) ∧ (∀ I1 : HI, I1 = up I 15 4 ((I 15 4) + 1) → ((0 : Int) ≤ (I 15 4) ∧ (I 15 4 : Int) < 6) ∧ (∀ I2 : HI, I2 = up I1 24 (I 15 4).toNat (I1 28 11) → (-2147483648 ≤ (I 15 4) + 1 ∧ (I 15 4) + 1 ≤ 2147483647) ∧ ((0 : Int) ≤ ((I 15 4) + 1) ∧ ((I 15 4) + 1 : Int) < 7) ∧ (∀ I3 : HI, I3 = up I2 23 ((I 15 4) + 1).toNat (I2 28 12) → Q (some (vI 1)) (mk I3))))) : J none mX7_exceptionStands (d + 1) 0 0 0 [(0, vR 28)] [] (mk I) Q := by
  refine J_aload_n dX7_exceptionStands_0 rfl rfl ?_
  refine J_getR dX7_exceptionStands_1 ck_7 fw_X7_21 rfl sh_28 rr_28_0 ?_
  refine J_getR dX7_exceptionStands_4 ck_0 fw_X7_125 rfl sh_14 rr_14_0 ?_
  refine J_iconst dX7_exceptionStands_7 (ii_c rfl) ?_
  refine J_dup2 dX7_exceptionStands_8 rfl rfl ?_
  refine J_iald dX7_exceptionStands_9 sh_15 (by decide) (by decide) ?_
  refine J_dup_x2 dX7_exceptionStands_10 rfl rfl rfl ?_
  refine J_iconst dX7_exceptionStands_11 (ii_c rfl) ?_
  refine J_iaddN dX7_exceptionStands_12 h.1 ?_
  replace h := h.2
  refine J_iast dX7_exceptionStands_13 sh_15 (by decide) (by decide) ?_
  replace h := h _ rfl
  refine J_istore_n dX7_exceptionStands_14 rfl (by decide) ?_
  change J _ _ _ _ _ _ [(0, _), (1, _)] _ _ _
  refine J_aload_n dX7_exceptionStands_15 rfl rfl ?_
  refine J_getR dX7_exceptionStands_16 ck_7 fw_X7_21 rfl sh_28 rr_28_0 ?_
  refine J_getR dX7_exceptionStands_19 ck_0 fw_X7_158 rfl sh_14 rr_14_9 ?_
  refine J_iload_n dX7_exceptionStands_22 rfl rfl ?_
  refine J_aload_n dX7_exceptionStands_23 rfl rfl ?_
  refine J_getI dX7_exceptionStands_24 ck_7 fw_X7_76 rfl sh_28 ?_
  refine J_iast dX7_exceptionStands_27 sh_24 h.1.1 h.1.2 ?_
  replace h := h.2 _ rfl
  refine J_aload_n dX7_exceptionStands_28 rfl rfl ?_
  refine J_getR dX7_exceptionStands_29 ck_7 fw_X7_21 rfl sh_28 rr_28_0 ?_
  refine J_getR dX7_exceptionStands_32 ck_0 fw_X7_161 rfl sh_14 rr_14_8 ?_
  refine J_iload_n dX7_exceptionStands_35 rfl rfl ?_
  refine J_iconst dX7_exceptionStands_36 (ii_c rfl) ?_
  refine J_iaddN dX7_exceptionStands_37 h.1 ?_
  replace h := h.2
  refine J_aload_n dX7_exceptionStands_38 rfl rfl ?_
  refine J_getI dX7_exceptionStands_39 ck_7 fw_X7_48 rfl sh_28 ?_
  refine J_iast dX7_exceptionStands_42 sh_23 h.1.1 h.1.2 ?_
  replace h := h.2 _ rfl
  refine J_iconst dX7_exceptionStands_43 (ii_c rfl) ?_
  exact J_retz dX7_exceptionStands_44 rfl (Or.inr rfl) h
set_option maxRecDepth 20000 in
set_option maxHeartbeats 2000000 in
theorem bk_X7_word_0 {d : Nat} {I : HI} {Q : Option AV → AH → Prop} {a1 : Int}  (h : (((I 28 8) ≠ a1 → CI mX7_fail d [vR 28, vI 1, vI (I 28 6)] I (fun x1 I1 => (x1 = 0 ∨ x1 = 1) ∧ Q (some (vI x1)) (mk I1))) ∧ ((I 28 8) = a1 → (((I 28 9) = 0 → CV mX7_advance d [vR 28] I (fun I2 => Q (some (vI 1)) (mk I2))) ∧ (¬ ((I 28 9) = 0) → CI mX7_fail d [vR 28, vI 1, vI (I 28 6)] I (fun x3 I3 => (x3 = 0 ∨ x3 = 1) ∧ Q (some (vI x3)) (mk I3))))))) : J none mX7_word (d + 1) 0 0 0 [(0, vR 28), (1, vI a1)] [] (mk I) Q := by
  refine J_aload_n dX7_word_0 rfl rfl ?_
  refine J_getI dX7_word_1 ck_7 fw_X7_45 rfl sh_28 ?_
  refine J_iload_n dX7_word_4 rfl rfl ?_
  refine J_ic_ne (tgt := 15) dX7_word_5 (by decide) (fun c => ?_) (fun c => ?_)
  · replace h := h.1 c
    refine J_aload_n dX7_word_15 rfl rfl ?_
    refine J_iconst dX7_word_16 (ii_c rfl) ?_
    refine J_aload_n dX7_word_17 rfl rfl ?_
    refine J_getI dX7_word_18 ck_7 fw_X7_79 rfl sh_28 ?_
    refine J_callV (as := [_, _]) (mc1 := 0) (ms1 := 0) (mc := 0) (ms := 0) dX7_word_21 mv_X7_fail lk_X7_119 sh_28 rfl (Nat.le_of_ble_eq_true rfl) (Nat.le_of_ble_eq_true rfl) h (fun r σ hq _ => ?_)
    obtain ⟨x1, I1, rfl, rfl, h⟩ := hq
    change J _ _ _ _ _ _ _ [vI x1] _ _
    exact J_retz dX7_word_24 rfl h.1 h.2
  · replace h := h.2 c
    refine J_aload_n dX7_word_8 rfl rfl ?_
    refine J_getI dX7_word_9 ck_7 fw_X7_82 rfl sh_28 ?_
    refine J_if_eq (tgt := 25) dX7_word_12 (by decide) (fun c => ?_) (fun c => ?_)
    · replace h := h.1 c
      refine J_aload_n dX7_word_25 rfl rfl ?_
      refine J_callV (as := []) (mc1 := 0) (ms1 := 0) (mc := 0) (ms := 0) dX7_word_26 mv_X7_advance lk_X7_62 sh_28 rfl (Nat.le_of_ble_eq_true rfl) (Nat.le_of_ble_eq_true rfl) h (fun r σ hq _ => ?_)
      obtain ⟨I2, rfl, rfl, h⟩ := hq
      change J _ _ _ _ _ _ _ [] _ _
      refine J_iconst dX7_word_29 (ii_c rfl) ?_
      exact J_retz dX7_word_30 rfl (Or.inr rfl) h
    · replace h := h.2 c
      refine J_aload_n dX7_word_15 rfl rfl ?_
      refine J_iconst dX7_word_16 (ii_c rfl) ?_
      refine J_aload_n dX7_word_17 rfl rfl ?_
      refine J_getI dX7_word_18 ck_7 fw_X7_79 rfl sh_28 ?_
      refine J_callV (as := [_, _]) (mc1 := 0) (ms1 := 0) (mc := 0) (ms := 0) dX7_word_21 mv_X7_fail lk_X7_119 sh_28 rfl (Nat.le_of_ble_eq_true rfl) (Nat.le_of_ble_eq_true rfl) h (fun r σ hq _ => ?_)
      obtain ⟨x3, I3, rfl, rfl, h⟩ := hq
      change J _ _ _ _ _ _ _ [vI x3] _ _
      exact J_retz dX7_word_24 rfl h.1 h.2
set_option maxRecDepth 20000 in
set_option maxHeartbeats 2000000 in
theorem bk_X7_isSign_0 {d : Nat} {I : HI} {Q : Option AV → AH → Prop} {a1 : Int}  (h : (((I 28 8) ≠ 29 → Q (some (vI 0)) (mk I)) ∧ ((I 28 8) = 29 → ((0 : Int) ≤ (I 28 6) ∧ (I 28 6 : Int) < 1600) ∧ (((I 27 (I 28 6).toNat) ≠ a1 → Q (some (vI 0)) (mk I)) ∧ ((I 27 (I 28 6).toNat) = a1 → Q (some (vI 1)) (mk I)))))) : J none mX7_isSign (d + 1) 0 0 0 [(0, vR 28), (1, vI a1)] [] (mk I) Q := by
  refine J_aload_n dX7_isSign_0 rfl rfl ?_
  refine J_getI dX7_isSign_1 ck_7 fw_X7_45 rfl sh_28 ?_
  refine J_bipush dX7_isSign_4 (ii_c rfl) (by decide) ?_
  refine J_ic_ne (tgt := 26) dX7_isSign_6 (by decide) (fun c => ?_) (fun c => ?_)
  · replace h := h.1 c
    refine J_iconst dX7_isSign_26 (ii_c rfl) ?_
    exact J_retz dX7_isSign_27 rfl (Or.inl rfl) h
  · replace h := h.2 c
    refine J_aload_n dX7_isSign_9 rfl rfl ?_
    refine J_getR dX7_isSign_10 ck_7 fw_X7_25 rfl sh_28 rr_28_1 ?_
    refine J_aload_n dX7_isSign_13 rfl rfl ?_
    refine J_getI dX7_isSign_14 ck_7 fw_X7_79 rfl sh_28 ?_
    refine J_iald dX7_isSign_17 sh_27 h.1.1 h.1.2 ?_
    replace h := h.2
    refine J_iload_n dX7_isSign_18 rfl rfl ?_
    refine J_ic_ne (tgt := 26) dX7_isSign_19 (by decide) (fun c => ?_) (fun c => ?_)
    · replace h := h.1 c
      refine J_iconst dX7_isSign_26 (ii_c rfl) ?_
      exact J_retz dX7_isSign_27 rfl (Or.inl rfl) h
    · replace h := h.2 c
      refine J_iconst dX7_isSign_22 (ii_c rfl) ?_
      refine J_goto (tgt := 27) dX7_isSign_23 (by decide) ?_
      exact J_retz dX7_isSign_27 rfl (Or.inr rfl) h
set_option maxRecDepth 20000 in
set_option maxHeartbeats 2000000 in
theorem bk_X7_sign_0 {d : Nat} {I : HI} {Q : Option AV → AH → Prop} {a1 : Int}  (h : CI mX7_isSign d [vR 28, vI a1] I (fun x1 I1 => ((x1 ≠ 0 → CV mX7_advance d [vR 28] I1 (fun I2 => Q (some (vI 1)) (mk I2))) ∧ (x1 = 0 → CI mX7_fail d [vR 28, vI 1, vI (I1 28 6)] I1 (fun x3 I3 => (x3 = 0 ∨ x3 = 1) ∧ Q (some (vI x3)) (mk I3)))))) : J none mX7_sign (d + 1) 0 0 0 [(0, vR 28), (1, vI a1)] [] (mk I) Q := by
  refine J_aload_n dX7_sign_0 rfl rfl ?_
  refine J_iload_n dX7_sign_1 rfl rfl ?_
  refine J_callV (as := [_]) (mc1 := 0) (ms1 := 0) (mc := 0) (ms := 0) dX7_sign_2 mv_X7_isSign lk_X7_164 sh_28 rfl (Nat.le_of_ble_eq_true rfl) (Nat.le_of_ble_eq_true rfl) h (fun r σ hq _ => ?_)
  obtain ⟨x1, I1, rfl, rfl, h⟩ := hq
  change J _ _ _ _ _ _ _ [vI x1] _ _
  refine J_if_ne (tgt := 18) dX7_sign_5 (by decide) (fun c => ?_) (fun c => ?_)
  · replace h := h.1 c
    refine J_aload_n dX7_sign_18 rfl rfl ?_
    refine J_callV (as := []) (mc1 := 0) (ms1 := 0) (mc := 0) (ms := 0) dX7_sign_19 mv_X7_advance lk_X7_62 sh_28 rfl (Nat.le_of_ble_eq_true rfl) (Nat.le_of_ble_eq_true rfl) h (fun r σ hq _ => ?_)
    obtain ⟨I2, rfl, rfl, h⟩ := hq
    change J _ _ _ _ _ _ _ [] _ _
    refine J_iconst dX7_sign_22 (ii_c rfl) ?_
    exact J_retz dX7_sign_23 rfl (Or.inr rfl) h
  · replace h := h.2 c
    refine J_aload_n dX7_sign_8 rfl rfl ?_
    refine J_iconst dX7_sign_9 (ii_c rfl) ?_
    refine J_aload_n dX7_sign_10 rfl rfl ?_
    refine J_getI dX7_sign_11 ck_7 fw_X7_79 rfl sh_28 ?_
    refine J_callV (as := [_, _]) (mc1 := 0) (ms1 := 0) (mc := 0) (ms := 0) dX7_sign_14 mv_X7_fail lk_X7_119 sh_28 rfl (Nat.le_of_ble_eq_true rfl) (Nat.le_of_ble_eq_true rfl) h (fun r σ hq _ => ?_)
    obtain ⟨x3, I3, rfl, rfl, h⟩ := hq
    change J _ _ _ _ _ _ _ [vI x3] _ _
    exact J_retz dX7_sign_17 rfl h.1 h.2
set_option maxRecDepth 20000 in
set_option maxHeartbeats 2000000 in
theorem bk_X7_number_0 {d : Nat} {I : HI} {Q : Option AV → AH → Prop} {a1 : Int} {a2 : Int}  (h : (((I 28 8) ≠ 28 → CI mX7_fail d [vR 28, vI 1, vI (I 28 6)] I (fun x1 I1 => (x1 = 0 ∨ x1 = 1) ∧ Q (some (vI x1)) (mk I1))) ∧ ((I 28 8) = 28 → (((I 28 9) = 0 → (-2147483648 ≤ (I 28 7) - (I 28 6) ∧ (I 28 7) - (I 28 6) ≤ 2147483647) ∧ ((((I 28 7) - (I 28 6)) ≤ 4 → (∀ I2 : HI, I2 = up I 28 10 0 → J none mX7_number (d + 1) 0 0 61 [(0, vR 28), (1, vI a1), (2, vI a2), (3, vI (I2 28 6))] [] (mk I2) Q)) ∧ (¬ (((I 28 7) - (I 28 6)) ≤ 4) → (-2147483648 ≤ (I 28 6) + 4 ∧ (I 28 6) + 4 ≤ 2147483647) ∧ CI mX7_fail d [vR 28, vI 1, vI ((I 28 6) + 4)] I (fun x2 I3 => (x2 = 0 ∨ x2 = 1) ∧ Q (some (vI x2)) (mk I3))))) ∧ (¬ ((I 28 9) = 0) → CI mX7_fail d [vR 28, vI 1, vI (I 28 6)] I (fun x3 I4 => (x3 = 0 ∨ x3 = 1) ∧ Q (some (vI x3)) (mk I4))))))) : J none mX7_number (d + 1) 0 0 0 [(0, vR 28), (1, vI a1), (2, vI a2)] [] (mk I) Q := by
  refine J_aload_n dX7_number_0 rfl rfl ?_
  refine J_getI dX7_number_1 ck_7 fw_X7_45 rfl sh_28 ?_
  refine J_bipush dX7_number_4 (ii_c rfl) (by decide) ?_
  refine J_ic_ne (tgt := 16) dX7_number_6 (by decide) (fun c => ?_) (fun c => ?_)
  · replace h := h.1 c
    refine J_aload_n dX7_number_16 rfl rfl ?_
    refine J_iconst dX7_number_17 (ii_c rfl) ?_
    refine J_aload_n dX7_number_18 rfl rfl ?_
    refine J_getI dX7_number_19 ck_7 fw_X7_79 rfl sh_28 ?_
    refine J_callV (as := [_, _]) (mc1 := 0) (ms1 := 0) (mc := 0) (ms := 0) dX7_number_22 mv_X7_fail lk_X7_119 sh_28 rfl (Nat.le_of_ble_eq_true rfl) (Nat.le_of_ble_eq_true rfl) h (fun r σ hq _ => ?_)
    obtain ⟨x1, I1, rfl, rfl, h⟩ := hq
    change J _ _ _ _ _ _ _ [vI x1] _ _
    exact J_retz dX7_number_25 rfl h.1 h.2
  · replace h := h.2 c
    refine J_aload_n dX7_number_9 rfl rfl ?_
    refine J_getI dX7_number_10 ck_7 fw_X7_82 rfl sh_28 ?_
    refine J_if_eq (tgt := 26) dX7_number_13 (by decide) (fun c => ?_) (fun c => ?_)
    · replace h := h.1 c
      refine J_aload_n dX7_number_26 rfl rfl ?_
      refine J_getI dX7_number_27 ck_7 fw_X7_42 rfl sh_28 ?_
      refine J_aload_n dX7_number_30 rfl rfl ?_
      refine J_getI dX7_number_31 ck_7 fw_X7_79 rfl sh_28 ?_
      refine J_isubN dX7_number_34 h.1 ?_
      replace h := h.2
      refine J_iconst dX7_number_35 (ii_c rfl) ?_
      refine J_ic_le (tgt := 51) dX7_number_36 (by decide) (fun c => ?_) (fun c => ?_)
      · replace h := h.1 c
        refine J_aload_n dX7_number_51 rfl rfl ?_
        refine J_iconst dX7_number_52 (ii_c rfl) ?_
        refine J_putI dX7_number_53 ck_7 fw_X7_113 rfl rfl (Or.inl rfl) sh_28 ?_
        replace h := h _ rfl
        refine J_aload_n dX7_number_56 rfl rfl ?_
        refine J_getI dX7_number_57 ck_7 fw_X7_79 rfl sh_28 ?_
        refine J_istore_n dX7_number_60 rfl (by decide) ?_
        change J _ _ _ _ _ _ [(0, _), (1, _), (2, _), (3, _)] _ _ _
        exact h
      · replace h := h.2 c
        refine J_aload_n dX7_number_39 rfl rfl ?_
        refine J_iconst dX7_number_40 (ii_c rfl) ?_
        refine J_aload_n dX7_number_41 rfl rfl ?_
        refine J_getI dX7_number_42 ck_7 fw_X7_79 rfl sh_28 ?_
        refine J_iconst dX7_number_45 (ii_c rfl) ?_
        refine J_iaddN dX7_number_46 h.1 ?_
        replace h := h.2
        refine J_callV (as := [_, _]) (mc1 := 0) (ms1 := 0) (mc := 0) (ms := 0) dX7_number_47 mv_X7_fail lk_X7_119 sh_28 rfl (Nat.le_of_ble_eq_true rfl) (Nat.le_of_ble_eq_true rfl) h (fun r σ hq _ => ?_)
        obtain ⟨x2, I3, rfl, rfl, h⟩ := hq
        change J _ _ _ _ _ _ _ [vI x2] _ _
        exact J_retz dX7_number_50 rfl h.1 h.2
    · replace h := h.2 c
      refine J_aload_n dX7_number_16 rfl rfl ?_
      refine J_iconst dX7_number_17 (ii_c rfl) ?_
      refine J_aload_n dX7_number_18 rfl rfl ?_
      refine J_getI dX7_number_19 ck_7 fw_X7_79 rfl sh_28 ?_
      refine J_callV (as := [_, _]) (mc1 := 0) (ms1 := 0) (mc := 0) (ms := 0) dX7_number_22 mv_X7_fail lk_X7_119 sh_28 rfl (Nat.le_of_ble_eq_true rfl) (Nat.le_of_ble_eq_true rfl) h (fun r σ hq _ => ?_)
      obtain ⟨x3, I4, rfl, rfl, h⟩ := hq
      change J _ _ _ _ _ _ _ [vI x3] _ _
      exact J_retz dX7_number_25 rfl h.1 h.2
set_option maxRecDepth 20000 in
set_option maxHeartbeats 2000000 in
theorem bk_X7_number_61 {d : Nat} {I : HI} {Q : Option AV → AH → Prop} {a1 : Int} {a2 : Int} {a3 : Int}  (h : (((I 28 7) ≤ a3 → (((I 28 10) < a1 → CI mX7_fail d [vR 28, vI 2, vI (I 28 6)] I (fun x1 I1 => (x1 = 0 ∨ x1 = 1) ∧ Q (some (vI x1)) (mk I1))) ∧ (¬ ((I 28 10) < a1) → (((I 28 10) ≤ a2 → CV mX7_advance d [vR 28] I (fun I2 => Q (some (vI 1)) (mk I2))) ∧ (¬ ((I 28 10) ≤ a2) → CI mX7_fail d [vR 28, vI 2, vI (I 28 6)] I (fun x3 I3 => (x3 = 0 ∨ x3 = 1) ∧ Q (some (vI x3)) (mk I3))))))) ∧ (¬ ((I 28 7) ≤ a3) → (-2147483648 ≤ (I 28 10) * 10 ∧ (I 28 10) * 10 ≤ 2147483647) ∧ ((0 : Int) ≤ a3 ∧ (a3 : Int) < 1600) ∧ (-2147483648 ≤ ((I 28 10) * 10) + (I 27 a3.toNat) ∧ ((I 28 10) * 10) + (I 27 a3.toNat) ≤ 2147483647) ∧ (-2147483648 ≤ (((I 28 10) * 10) + (I 27 a3.toNat)) - 48 ∧ (((I 28 10) * 10) + (I 27 a3.toNat)) - 48 ≤ 2147483647) ∧ (∀ I4 : HI, I4 = up I 28 10 ((((I 28 10) * 10) + (I 27 a3.toNat)) - 48) → (-2147483648 ≤ a3 + 1 ∧ a3 + 1 ≤ 2147483647) ∧ J none mX7_number (d + 1) 0 0 61 [(0, vR 28), (1, vI a1), (2, vI a2), (3, vI (a3 + 1))] [] (mk I4) Q)))) : J none mX7_number (d + 1) 0 0 61 [(0, vR 28), (1, vI a1), (2, vI a2), (3, vI a3)] [] (mk I) Q := by
  refine J_iload_n dX7_number_61 rfl rfl ?_
  refine J_aload_n dX7_number_62 rfl rfl ?_
  refine J_getI dX7_number_63 ck_7 fw_X7_42 rfl sh_28 ?_
  refine J_ic_ge (tgt := 96) dX7_number_66 (by decide) (fun c => ?_) (fun c => ?_)
  · replace h := h.1 c
    refine J_aload_n dX7_number_96 rfl rfl ?_
    refine J_getI dX7_number_97 ck_7 fw_X7_113 rfl sh_28 ?_
    refine J_iload_n dX7_number_100 rfl rfl ?_
    refine J_ic_lt (tgt := 112) dX7_number_101 (by decide) (fun c => ?_) (fun c => ?_)
    · replace h := h.1 c
      refine J_aload_n dX7_number_112 rfl rfl ?_
      refine J_iconst dX7_number_113 (ii_c rfl) ?_
      refine J_aload_n dX7_number_114 rfl rfl ?_
      refine J_getI dX7_number_115 ck_7 fw_X7_79 rfl sh_28 ?_
      refine J_callV (as := [_, _]) (mc1 := 0) (ms1 := 0) (mc := 0) (ms := 0) dX7_number_118 mv_X7_fail lk_X7_119 sh_28 rfl (Nat.le_of_ble_eq_true rfl) (Nat.le_of_ble_eq_true rfl) h (fun r σ hq _ => ?_)
      obtain ⟨x1, I1, rfl, rfl, h⟩ := hq
      change J _ _ _ _ _ _ _ [vI x1] _ _
      exact J_retz dX7_number_121 rfl h.1 h.2
    · replace h := h.2 c
      refine J_aload_n dX7_number_104 rfl rfl ?_
      refine J_getI dX7_number_105 ck_7 fw_X7_113 rfl sh_28 ?_
      refine J_iload_n dX7_number_108 rfl rfl ?_
      refine J_ic_le (tgt := 122) dX7_number_109 (by decide) (fun c => ?_) (fun c => ?_)
      · replace h := h.1 c
        refine J_aload_n dX7_number_122 rfl rfl ?_
        refine J_callV (as := []) (mc1 := 0) (ms1 := 0) (mc := 0) (ms := 0) dX7_number_123 mv_X7_advance lk_X7_62 sh_28 rfl (Nat.le_of_ble_eq_true rfl) (Nat.le_of_ble_eq_true rfl) h (fun r σ hq _ => ?_)
        obtain ⟨I2, rfl, rfl, h⟩ := hq
        change J _ _ _ _ _ _ _ [] _ _
        refine J_iconst dX7_number_126 (ii_c rfl) ?_
        exact J_retz dX7_number_127 rfl (Or.inr rfl) h
      · replace h := h.2 c
        refine J_aload_n dX7_number_112 rfl rfl ?_
        refine J_iconst dX7_number_113 (ii_c rfl) ?_
        refine J_aload_n dX7_number_114 rfl rfl ?_
        refine J_getI dX7_number_115 ck_7 fw_X7_79 rfl sh_28 ?_
        refine J_callV (as := [_, _]) (mc1 := 0) (ms1 := 0) (mc := 0) (ms := 0) dX7_number_118 mv_X7_fail lk_X7_119 sh_28 rfl (Nat.le_of_ble_eq_true rfl) (Nat.le_of_ble_eq_true rfl) h (fun r σ hq _ => ?_)
        obtain ⟨x3, I3, rfl, rfl, h⟩ := hq
        change J _ _ _ _ _ _ _ [vI x3] _ _
        exact J_retz dX7_number_121 rfl h.1 h.2
  · replace h := h.2 c
    refine J_aload_n dX7_number_69 rfl rfl ?_
    refine J_aload_n dX7_number_70 rfl rfl ?_
    refine J_getI dX7_number_71 ck_7 fw_X7_113 rfl sh_28 ?_
    refine J_bipush dX7_number_74 (ii_c rfl) (by decide) ?_
    refine J_imulN dX7_number_76 h.1 ?_
    replace h := h.2
    refine J_aload_n dX7_number_77 rfl rfl ?_
    refine J_getR dX7_number_78 ck_7 fw_X7_25 rfl sh_28 rr_28_1 ?_
    refine J_iload_n dX7_number_81 rfl rfl ?_
    refine J_iald dX7_number_82 sh_27 h.1.1 h.1.2 ?_
    replace h := h.2
    refine J_iaddN dX7_number_83 h.1 ?_
    replace h := h.2
    refine J_bipush dX7_number_84 (ii_c rfl) (by decide) ?_
    refine J_isubN dX7_number_86 h.1 ?_
    replace h := h.2
    refine J_putI dX7_number_87 ck_7 fw_X7_113 rfl rfl (Or.inl rfl) sh_28 ?_
    replace h := h _ rfl
    refine J_iincN dX7_number_90 rfl (by decide) h.1 ?_
    replace h := h.2
    change J _ _ _ _ _ _ [(0, _), (1, _), (2, _), (3, _)] _ _ _
    refine J_goto (tgt := 61) dX7_number_93 (by decide) ?_
    exact h
set_option maxRecDepth 20000 in
set_option maxHeartbeats 2000000 in
theorem bk_X7_nameStands_0 {d : Nat} {I : HI} {Q : Option AV → AH → Prop}   (h : (((I 28 8) ≠ 27 → CI mX7_fail d [vR 28, vI 1, vI (I 28 6)] I (fun x1 I1 => (x1 = 0 ∨ x1 = 1) ∧ Q (some (vI x1)) (mk I1))) ∧ ((I 28 8) = 27 → (((I 28 9) = 0 → (-2147483648 ≤ (I 28 7) - (I 28 6) ∧ (I 28 7) - (I 28 6) ≤ 2147483647) ∧ ((((I 28 7) - (I 28 6)) ≤ 6 → Q (some (vI 1)) (mk I)) ∧ (¬ (((I 28 7) - (I 28 6)) ≤ 6) → (-2147483648 ≤ (I 28 6) + 6 ∧ (I 28 6) + 6 ≤ 2147483647) ∧ CI mX7_fail d [vR 28, vI 1, vI ((I 28 6) + 6)] I (fun x2 I2 => ((x2 = 0 → Q (some (vI 0)) (mk I2)) ∧ (¬ (x2 = 0) → Q (some (vI 1)) (mk I2))))))) ∧ (¬ ((I 28 9) = 0) → CI mX7_fail d [vR 28, vI 1, vI (I 28 6)] I (fun x3 I3 => (x3 = 0 ∨ x3 = 1) ∧ Q (some (vI x3)) (mk I3))))))) : J none mX7_nameStands (d + 1) 0 0 0 [(0, vR 28)] [] (mk I) Q := by
  refine J_aload_n dX7_nameStands_0 rfl rfl ?_
  refine J_getI dX7_nameStands_1 ck_7 fw_X7_45 rfl sh_28 ?_
  refine J_bipush dX7_nameStands_4 (ii_c rfl) (by decide) ?_
  refine J_ic_ne (tgt := 16) dX7_nameStands_6 (by decide) (fun c => ?_) (fun c => ?_)
  · replace h := h.1 c
    refine J_aload_n dX7_nameStands_16 rfl rfl ?_
    refine J_iconst dX7_nameStands_17 (ii_c rfl) ?_
    refine J_aload_n dX7_nameStands_18 rfl rfl ?_
    refine J_getI dX7_nameStands_19 ck_7 fw_X7_79 rfl sh_28 ?_
    refine J_callV (as := [_, _]) (mc1 := 0) (ms1 := 0) (mc := 0) (ms := 0) dX7_nameStands_22 mv_X7_fail lk_X7_119 sh_28 rfl (Nat.le_of_ble_eq_true rfl) (Nat.le_of_ble_eq_true rfl) h (fun r σ hq _ => ?_)
    obtain ⟨x1, I1, rfl, rfl, h⟩ := hq
    change J _ _ _ _ _ _ _ [vI x1] _ _
    exact J_retz dX7_nameStands_25 rfl h.1 h.2
  · replace h := h.2 c
    refine J_aload_n dX7_nameStands_9 rfl rfl ?_
    refine J_getI dX7_nameStands_10 ck_7 fw_X7_82 rfl sh_28 ?_
    refine J_if_eq (tgt := 26) dX7_nameStands_13 (by decide) (fun c => ?_) (fun c => ?_)
    · replace h := h.1 c
      refine J_aload_n dX7_nameStands_26 rfl rfl ?_
      refine J_getI dX7_nameStands_27 ck_7 fw_X7_42 rfl sh_28 ?_
      refine J_aload_n dX7_nameStands_30 rfl rfl ?_
      refine J_getI dX7_nameStands_31 ck_7 fw_X7_79 rfl sh_28 ?_
      refine J_isubN dX7_nameStands_34 h.1 ?_
      replace h := h.2
      refine J_bipush dX7_nameStands_35 (ii_c rfl) (by decide) ?_
      refine J_ic_le (tgt := 55) dX7_nameStands_37 (by decide) (fun c => ?_) (fun c => ?_)
      · replace h := h.1 c
        refine J_iconst dX7_nameStands_55 (ii_c rfl) ?_
        refine J_goto (tgt := 60) dX7_nameStands_56 (by decide) ?_
        exact J_retz dX7_nameStands_60 rfl (Or.inr rfl) h
      · replace h := h.2 c
        refine J_aload_n dX7_nameStands_40 rfl rfl ?_
        refine J_iconst dX7_nameStands_41 (ii_c rfl) ?_
        refine J_aload_n dX7_nameStands_42 rfl rfl ?_
        refine J_getI dX7_nameStands_43 ck_7 fw_X7_79 rfl sh_28 ?_
        refine J_bipush dX7_nameStands_46 (ii_c rfl) (by decide) ?_
        refine J_iaddN dX7_nameStands_48 h.1 ?_
        replace h := h.2
        refine J_callV (as := [_, _]) (mc1 := 0) (ms1 := 0) (mc := 0) (ms := 0) dX7_nameStands_49 mv_X7_fail lk_X7_119 sh_28 rfl (Nat.le_of_ble_eq_true rfl) (Nat.le_of_ble_eq_true rfl) h (fun r σ hq _ => ?_)
        obtain ⟨x2, I2, rfl, rfl, h⟩ := hq
        change J _ _ _ _ _ _ _ [vI x2] _ _
        refine J_if_eq (tgt := 59) dX7_nameStands_52 (by decide) (fun c => ?_) (fun c => ?_)
        · replace h := h.1 c
          refine J_iconst dX7_nameStands_59 (ii_c rfl) ?_
          exact J_retz dX7_nameStands_60 rfl (Or.inl rfl) h
        · replace h := h.2 c
          refine J_iconst dX7_nameStands_55 (ii_c rfl) ?_
          refine J_goto (tgt := 60) dX7_nameStands_56 (by decide) ?_
          exact J_retz dX7_nameStands_60 rfl (Or.inr rfl) h
    · replace h := h.2 c
      refine J_aload_n dX7_nameStands_16 rfl rfl ?_
      refine J_iconst dX7_nameStands_17 (ii_c rfl) ?_
      refine J_aload_n dX7_nameStands_18 rfl rfl ?_
      refine J_getI dX7_nameStands_19 ck_7 fw_X7_79 rfl sh_28 ?_
      refine J_callV (as := [_, _]) (mc1 := 0) (ms1 := 0) (mc := 0) (ms := 0) dX7_nameStands_22 mv_X7_fail lk_X7_119 sh_28 rfl (Nat.le_of_ble_eq_true rfl) (Nat.le_of_ble_eq_true rfl) h (fun r σ hq _ => ?_)
      obtain ⟨x3, I3, rfl, rfl, h⟩ := hq
      change J _ _ _ _ _ _ _ [vI x3] _ _
      exact J_retz dX7_nameStands_25 rfl h.1 h.2
set_option maxRecDepth 20000 in
set_option maxHeartbeats 2000000 in
theorem bk_X7_letterOfToken_0 {d : Nat} {I : HI} {Q : Option AV → AH → Prop} {a1 : Int}  (h : (-2147483648 ≤ (I 28 6) + a1 ∧ (I 28 6) + a1 ≤ 2147483647) ∧ (((I 28 7) ≤ ((I 28 6) + a1) → Q (some (vI 0)) (mk I)) ∧ (¬ ((I 28 7) ≤ ((I 28 6) + a1)) → (-2147483648 ≤ (I 28 6) + a1 ∧ (I 28 6) + a1 ≤ 2147483647) ∧ ((0 : Int) ≤ ((I 28 6) + a1) ∧ ((I 28 6) + a1 : Int) < 1600) ∧ (-2147483648 ≤ (I 27 ((I 28 6) + a1).toNat) - 97 ∧ (I 27 ((I 28 6) + a1).toNat) - 97 ≤ 2147483647) ∧ (-2147483648 ≤ ((I 27 ((I 28 6) + a1).toNat) - 97) + 1 ∧ ((I 27 ((I 28 6) + a1).toNat) - 97) + 1 ≤ 2147483647) ∧ Q (some (vI (((I 27 ((I 28 6) + a1).toNat) - 97) + 1))) (mk I)))) : J none mX7_letterOfToken (d + 1) 0 0 0 [(0, vR 28), (1, vI a1)] [] (mk I) Q := by
  refine J_aload_n dX7_letterOfToken_0 rfl rfl ?_
  refine J_getI dX7_letterOfToken_1 ck_7 fw_X7_79 rfl sh_28 ?_
  refine J_iload_n dX7_letterOfToken_4 rfl rfl ?_
  refine J_iaddN dX7_letterOfToken_5 h.1 ?_
  replace h := h.2
  refine J_aload_n dX7_letterOfToken_6 rfl rfl ?_
  refine J_getI dX7_letterOfToken_7 ck_7 fw_X7_42 rfl sh_28 ?_
  refine J_ic_ge (tgt := 32) dX7_letterOfToken_10 (by decide) (fun c => ?_) (fun c => ?_)
  · replace h := h.1 c
    refine J_iconst dX7_letterOfToken_32 (ii_c rfl) ?_
    exact J_reti dX7_letterOfToken_33 rfl h
  · replace h := h.2 c
    refine J_aload_n dX7_letterOfToken_13 rfl rfl ?_
    refine J_getR dX7_letterOfToken_14 ck_7 fw_X7_25 rfl sh_28 rr_28_1 ?_
    refine J_aload_n dX7_letterOfToken_17 rfl rfl ?_
    refine J_getI dX7_letterOfToken_18 ck_7 fw_X7_79 rfl sh_28 ?_
    refine J_iload_n dX7_letterOfToken_21 rfl rfl ?_
    refine J_iaddN dX7_letterOfToken_22 h.1 ?_
    replace h := h.2
    refine J_iald dX7_letterOfToken_23 sh_27 h.1.1 h.1.2 ?_
    replace h := h.2
    refine J_bipush dX7_letterOfToken_24 (ii_c rfl) (by decide) ?_
    refine J_isubN dX7_letterOfToken_26 h.1 ?_
    replace h := h.2
    refine J_iconst dX7_letterOfToken_27 (ii_c rfl) ?_
    refine J_iaddN dX7_letterOfToken_28 h.1 ?_
    replace h := h.2
    refine J_goto (tgt := 33) dX7_letterOfToken_29 (by decide) ?_
    exact J_reti dX7_letterOfToken_33 rfl h
set_option maxRecDepth 20000 in
set_option maxHeartbeats 2000000 in
theorem bk_X7_named_0 {d : Nat} {I : HI} {Q : Option AV → AH → Prop} {a1 n1 : Nat} {a2 : Int} (ha1 : SH0[a1]? = some (.inr (0, n1))) (h : J none mX7_named (d + 1) 0 0 2 [(0, vR 28), (1, vR a1), (2, vI a2), (3, vI 0)] [] (mk I) Q) : J none mX7_named (d + 1) 0 0 0 [(0, vR 28), (1, vR a1), (2, vI a2)] [] (mk I) Q := by
  refine J_iconst dX7_named_0 (ii_c rfl) ?_
  refine J_istore_n dX7_named_1 rfl (by decide) ?_
  change J _ _ _ _ _ _ [(0, _), (1, _), (2, _), (3, _)] _ _ _
  exact h
set_option maxRecDepth 20000 in
set_option maxHeartbeats 2000000 in
theorem bk_X7_named_2 {d : Nat} {I : HI} {Q : Option AV → AH → Prop} {a1 n1 : Nat} {a2 : Int} {a3 : Int} (ha1 : SH0[a1]? = some (.inr (0, n1))) (h : ((a2 ≤ a3 → Q (some (vI (-1))) (mk I)) ∧ (¬ (a2 ≤ a3) → J none mX7_named (d + 1) 0 0 10 [(0, vR 28), (1, vR a1), (2, vI a2), (3, vI a3), (4, vI 0)] [] (mk I) Q))) : J none mX7_named (d + 1) 0 0 2 [(0, vR 28), (1, vR a1), (2, vI a2), (3, vI a3)] [] (mk I) Q := by
  refine J_iload_n dX7_named_2 rfl rfl ?_
  refine J_iload_n dX7_named_3 rfl rfl ?_
  refine J_ic_ge (tgt := 56) dX7_named_4 (by decide) (fun c => ?_) (fun c => ?_)
  · replace h := h.1 c
    refine J_iconst dX7_named_56 (ii_c rfl) ?_
    exact J_reti dX7_named_57 rfl h
  · replace h := h.2 c
    refine J_iconst dX7_named_7 (ii_c rfl) ?_
    refine J_istore dX7_named_8 (by decide) ?_
    change J _ _ _ _ _ _ [(0, _), (1, _), (2, _), (3, _), (4, _)] _ _ _
    exact h
set_option maxRecDepth 20000 in
set_option maxHeartbeats 2000000 in
theorem bk_X7_named_10 {d : Nat} {I : HI} {Q : Option AV → AH → Prop} {a1 n1 : Nat} {a2 : Int} {a3 : Int} {a4 : Int} (ha1 : SH0[a1]? = some (.inr (0, n1))) (h : ((6 ≤ a4 → ((a4 ≠ 6 → (-2147483648 ≤ a3 + 1 ∧ a3 + 1 ≤ 2147483647) ∧ J none mX7_named (d + 1) 0 0 2 [(0, vR 28), (1, vR a1), (2, vI a2), (3, vI (a3 + 1))] [] (mk I) Q) ∧ (a4 = 6 → Q (some (vI a3)) (mk I)))) ∧ (¬ (6 ≤ a4) → (-2147483648 ≤ a3 * 6 ∧ a3 * 6 ≤ 2147483647) ∧ (-2147483648 ≤ (a3 * 6) + a4 ∧ (a3 * 6) + a4 ≤ 2147483647) ∧ ((0 : Int) ≤ ((a3 * 6) + a4) ∧ ((a3 * 6) + a4 : Int) < n1) ∧ CI mX7_letterOfToken d [vR 28, vI a4] I (fun x1 I1 => (((I a1 ((a3 * 6) + a4).toNat) ≠ x1 → ((a4 ≠ 6 → (-2147483648 ≤ a3 + 1 ∧ a3 + 1 ≤ 2147483647) ∧ J none mX7_named (d + 1) 0 0 2 [(0, vR 28), (1, vR a1), (2, vI a2), (3, vI (a3 + 1))] [] (mk I1) Q) ∧ (a4 = 6 → Q (some (vI a3)) (mk I1)))) ∧ ((I a1 ((a3 * 6) + a4).toNat) = x1 → (-2147483648 ≤ a4 + 1 ∧ a4 + 1 ≤ 2147483647) ∧ J none mX7_named (d + 1) 0 0 10 [(0, vR 28), (1, vR a1), (2, vI a2), (3, vI a3), (4, vI (a4 + 1))] [] (mk I1) Q)))))) : J none mX7_named (d + 1) 0 0 10 [(0, vR 28), (1, vR a1), (2, vI a2), (3, vI a3), (4, vI a4)] [] (mk I) Q := by
  refine J_iload dX7_named_10 rfl ?_
  refine J_bipush dX7_named_12 (ii_c rfl) (by decide) ?_
  refine J_ic_ge (tgt := 41) dX7_named_14 (by decide) (fun c => ?_) (fun c => ?_)
  · replace h := h.1 c
    refine J_iload dX7_named_41 rfl ?_
    refine J_bipush dX7_named_43 (ii_c rfl) (by decide) ?_
    refine J_ic_ne (tgt := 50) dX7_named_45 (by decide) (fun c => ?_) (fun c => ?_)
    · replace h := h.1 c
      refine J_iincN dX7_named_50 rfl (by decide) h.1 ?_
      replace h := h.2
      change J _ _ _ _ _ _ [(0, _), (1, _), (2, _), (3, _), (4, _)] _ _ _
      refine J_goto (tgt := 2) dX7_named_53 (by decide) ?_
      exact J_loc (ls_sub [0, 1, 2, 3] rfl) h
    · replace h := h.2 c
      refine J_iload_n dX7_named_48 rfl rfl ?_
      exact J_reti dX7_named_49 rfl h
  · replace h := h.2 c
    refine J_aload_n dX7_named_17 rfl rfl ?_
    refine J_iload_n dX7_named_18 rfl rfl ?_
    refine J_bipush dX7_named_19 (ii_c rfl) (by decide) ?_
    refine J_imulN dX7_named_21 h.1 ?_
    replace h := h.2
    refine J_iload dX7_named_22 rfl ?_
    refine J_iaddN dX7_named_24 h.1 ?_
    replace h := h.2
    refine J_iald dX7_named_25 ha1 h.1.1 h.1.2 ?_
    replace h := h.2
    refine J_aload_n dX7_named_26 rfl rfl ?_
    refine J_iload dX7_named_27 rfl ?_
    refine J_callV (as := [_]) (mc1 := 0) (ms1 := 0) (mc := 0) (ms := 0) dX7_named_29 mv_X7_letterOfToken lk_X7_167 sh_28 rfl (Nat.le_of_ble_eq_true rfl) (Nat.le_of_ble_eq_true rfl) h (fun r σ hq _ => ?_)
    obtain ⟨x1, I1, rfl, rfl, h⟩ := hq
    change J _ _ _ _ _ _ _ [vI x1, _] _ _
    refine J_ic_ne (tgt := 41) dX7_named_32 (by decide) (fun c => ?_) (fun c => ?_)
    · replace h := h.1 c
      refine J_iload dX7_named_41 rfl ?_
      refine J_bipush dX7_named_43 (ii_c rfl) (by decide) ?_
      refine J_ic_ne (tgt := 50) dX7_named_45 (by decide) (fun c => ?_) (fun c => ?_)
      · replace h := h.1 c
        refine J_iincN dX7_named_50 rfl (by decide) h.1 ?_
        replace h := h.2
        change J _ _ _ _ _ _ [(0, _), (1, _), (2, _), (3, _), (4, _)] _ _ _
        refine J_goto (tgt := 2) dX7_named_53 (by decide) ?_
        exact J_loc (ls_sub [0, 1, 2, 3] rfl) h
      · replace h := h.2 c
        refine J_iload_n dX7_named_48 rfl rfl ?_
        exact J_reti dX7_named_49 rfl h
    · replace h := h.2 c
      refine J_iincN dX7_named_35 rfl (by decide) h.1 ?_
      replace h := h.2
      change J _ _ _ _ _ _ [(0, _), (1, _), (2, _), (3, _), (4, _)] _ _ _
      refine J_goto (tgt := 10) dX7_named_38 (by decide) ?_
      exact h
set_option maxRecDepth 20000 in
set_option maxHeartbeats 2000000 in
theorem bk_X7_newName_0 {d : Nat} {I : HI} {Q : Option AV → AH → Prop} {a1 n1 : Nat} {a2 : Int} (ha1 : SH0[a1]? = some (.inr (0, n1))) (h : CI mX7_nameStands d [vR 28] I (fun x1 I1 => ((x1 ≠ 0 → CI mX7_named d [vR 28, vR 16, vI (I1 15 0)] I1 (fun x2 I2 => ((x2 ≠ (-1) → CI mX7_fail d [vR 28, vI 3, vI (I2 28 6)] I2 (fun x3 I3 => (x3 = 0 ∨ x3 = 1) ∧ Q (some (vI x3)) (mk I3))) ∧ (x2 = (-1) → CI mX7_named d [vR 28, vR 17, vI (I2 15 2)] I2 (fun x4 I4 => ((x4 = (-1) → J none mX7_newName (d + 1) 0 0 69 [(0, vR 28), (1, vR a1), (2, vI a2), (3, vI 0)] [] (mk I4) Q) ∧ (¬ (x4 = (-1)) → CI mX7_fail d [vR 28, vI 3, vI (I4 28 6)] I4 (fun x5 I5 => (x5 = 0 ∨ x5 = 1) ∧ Q (some (vI x5)) (mk I5))))))))) ∧ (x1 = 0 → Q (some (vI 0)) (mk I1))))) : J none mX7_newName (d + 1) 0 0 0 [(0, vR 28), (1, vR a1), (2, vI a2)] [] (mk I) Q := by
  refine J_aload_n dX7_newName_0 rfl rfl ?_
  refine J_callV (as := []) (mc1 := 0) (ms1 := 0) (mc := 0) (ms := 0) dX7_newName_1 mv_X7_nameStands lk_X7_170 sh_28 rfl (Nat.le_of_ble_eq_true rfl) (Nat.le_of_ble_eq_true rfl) h (fun r σ hq _ => ?_)
  obtain ⟨x1, I1, rfl, rfl, h⟩ := hq
  change J _ _ _ _ _ _ _ [vI x1] _ _
  refine J_if_ne (tgt := 9) dX7_newName_4 (by decide) (fun c => ?_) (fun c => ?_)
  · replace h := h.1 c
    refine J_aload_n dX7_newName_9 rfl rfl ?_
    refine J_aload_n dX7_newName_10 rfl rfl ?_
    refine J_getR dX7_newName_11 ck_7 fw_X7_21 rfl sh_28 rr_28_0 ?_
    refine J_getR dX7_newName_14 ck_0 fw_X7_128 rfl sh_14 rr_14_1 ?_
    refine J_aload_n dX7_newName_17 rfl rfl ?_
    refine J_getR dX7_newName_18 ck_7 fw_X7_21 rfl sh_28 rr_28_0 ?_
    refine J_getR dX7_newName_21 ck_0 fw_X7_125 rfl sh_14 rr_14_0 ?_
    refine J_iconst dX7_newName_24 (ii_c rfl) ?_
    refine J_iald dX7_newName_25 sh_15 (by decide) (by decide) ?_
    refine J_callV (as := [_, _]) (mc1 := 0) (ms1 := 0) (mc := 0) (ms := 0) dX7_newName_26 mv_X7_named lk_X7_173 sh_28 rfl (Nat.le_of_ble_eq_true rfl) (Nat.le_of_ble_eq_true rfl) h (fun r σ hq _ => ?_)
    obtain ⟨x2, I2, rfl, rfl, h⟩ := hq
    change J _ _ _ _ _ _ _ [vI x2] _ _
    refine J_iconst dX7_newName_29 (ii_c rfl) ?_
    refine J_ic_ne (tgt := 57) dX7_newName_30 (by decide) (fun c => ?_) (fun c => ?_)
    · replace h := h.1 c
      refine J_aload_n dX7_newName_57 rfl rfl ?_
      refine J_iconst dX7_newName_58 (ii_c rfl) ?_
      refine J_aload_n dX7_newName_59 rfl rfl ?_
      refine J_getI dX7_newName_60 ck_7 fw_X7_79 rfl sh_28 ?_
      refine J_callV (as := [_, _]) (mc1 := 0) (ms1 := 0) (mc := 0) (ms := 0) dX7_newName_63 mv_X7_fail lk_X7_119 sh_28 rfl (Nat.le_of_ble_eq_true rfl) (Nat.le_of_ble_eq_true rfl) h (fun r σ hq _ => ?_)
      obtain ⟨x3, I3, rfl, rfl, h⟩ := hq
      change J _ _ _ _ _ _ _ [vI x3] _ _
      exact J_retz dX7_newName_66 rfl h.1 h.2
    · replace h := h.2 c
      refine J_aload_n dX7_newName_33 rfl rfl ?_
      refine J_aload_n dX7_newName_34 rfl rfl ?_
      refine J_getR dX7_newName_35 ck_7 fw_X7_21 rfl sh_28 rr_28_0 ?_
      refine J_getR dX7_newName_38 ck_0 fw_X7_149 rfl sh_14 rr_14_2 ?_
      refine J_aload_n dX7_newName_41 rfl rfl ?_
      refine J_getR dX7_newName_42 ck_7 fw_X7_21 rfl sh_28 rr_28_0 ?_
      refine J_getR dX7_newName_45 ck_0 fw_X7_125 rfl sh_14 rr_14_0 ?_
      refine J_iconst dX7_newName_48 (ii_c rfl) ?_
      refine J_iald dX7_newName_49 sh_15 (by decide) (by decide) ?_
      refine J_callV (as := [_, _]) (mc1 := 0) (ms1 := 0) (mc := 0) (ms := 0) dX7_newName_50 mv_X7_named lk_X7_173 sh_28 rfl (Nat.le_of_ble_eq_true rfl) (Nat.le_of_ble_eq_true rfl) h (fun r σ hq _ => ?_)
      obtain ⟨x4, I4, rfl, rfl, h⟩ := hq
      change J _ _ _ _ _ _ _ [vI x4] _ _
      refine J_iconst dX7_newName_53 (ii_c rfl) ?_
      refine J_ic_eq (tgt := 67) dX7_newName_54 (by decide) (fun c => ?_) (fun c => ?_)
      · replace h := h.1 c
        refine J_iconst dX7_newName_67 (ii_c rfl) ?_
        refine J_istore_n dX7_newName_68 rfl (by decide) ?_
        change J _ _ _ _ _ _ [(0, _), (1, _), (2, _), (3, _)] _ _ _
        exact h
      · replace h := h.2 c
        refine J_aload_n dX7_newName_57 rfl rfl ?_
        refine J_iconst dX7_newName_58 (ii_c rfl) ?_
        refine J_aload_n dX7_newName_59 rfl rfl ?_
        refine J_getI dX7_newName_60 ck_7 fw_X7_79 rfl sh_28 ?_
        refine J_callV (as := [_, _]) (mc1 := 0) (ms1 := 0) (mc := 0) (ms := 0) dX7_newName_63 mv_X7_fail lk_X7_119 sh_28 rfl (Nat.le_of_ble_eq_true rfl) (Nat.le_of_ble_eq_true rfl) h (fun r σ hq _ => ?_)
        obtain ⟨x5, I5, rfl, rfl, h⟩ := hq
        change J _ _ _ _ _ _ _ [vI x5] _ _
        exact J_retz dX7_newName_66 rfl h.1 h.2
  · replace h := h.2 c
    refine J_iconst dX7_newName_7 (ii_c rfl) ?_
    exact J_retz dX7_newName_8 rfl (Or.inl rfl) h
set_option maxRecDepth 20000 in
set_option maxHeartbeats 2000000 in
theorem bk_X7_newName_69 {d : Nat} {I : HI} {Q : Option AV → AH → Prop} {a1 n1 : Nat} {a2 : Int} {a3 : Int} (ha1 : SH0[a1]? = some (.inr (0, n1))) (h : ((6 ≤ a3 → CV mX7_advance d [vR 28] I (fun I1 => Q (some (vI 1)) (mk I1))) ∧ (¬ (6 ≤ a3) → (-2147483648 ≤ a2 * 6 ∧ a2 * 6 ≤ 2147483647) ∧ (-2147483648 ≤ (a2 * 6) + a3 ∧ (a2 * 6) + a3 ≤ 2147483647) ∧ CI mX7_letterOfToken d [vR 28, vI a3] I (fun x2 I2 => ((0 : Int) ≤ ((a2 * 6) + a3) ∧ ((a2 * 6) + a3 : Int) < n1) ∧ (∀ I3 : HI, I3 = up I2 a1 ((a2 * 6) + a3).toNat x2 → (-2147483648 ≤ a3 + 1 ∧ a3 + 1 ≤ 2147483647) ∧ J none mX7_newName (d + 1) 0 0 69 [(0, vR 28), (1, vR a1), (2, vI a2), (3, vI (a3 + 1))] [] (mk I3) Q))))) : J none mX7_newName (d + 1) 0 0 69 [(0, vR 28), (1, vR a1), (2, vI a2), (3, vI a3)] [] (mk I) Q := by
  refine J_iload_n dX7_newName_69 rfl rfl ?_
  refine J_bipush dX7_newName_70 (ii_c rfl) (by decide) ?_
  refine J_ic_ge (tgt := 94) dX7_newName_72 (by decide) (fun c => ?_) (fun c => ?_)
  · replace h := h.1 c
    refine J_aload_n dX7_newName_94 rfl rfl ?_
    refine J_callV (as := []) (mc1 := 0) (ms1 := 0) (mc := 0) (ms := 0) dX7_newName_95 mv_X7_advance lk_X7_62 sh_28 rfl (Nat.le_of_ble_eq_true rfl) (Nat.le_of_ble_eq_true rfl) h (fun r σ hq _ => ?_)
    obtain ⟨I1, rfl, rfl, h⟩ := hq
    change J _ _ _ _ _ _ _ [] _ _
    refine J_iconst dX7_newName_98 (ii_c rfl) ?_
    exact J_retz dX7_newName_99 rfl (Or.inr rfl) h
  · replace h := h.2 c
    refine J_aload_n dX7_newName_75 rfl rfl ?_
    refine J_iload_n dX7_newName_76 rfl rfl ?_
    refine J_bipush dX7_newName_77 (ii_c rfl) (by decide) ?_
    refine J_imulN dX7_newName_79 h.1 ?_
    replace h := h.2
    refine J_iload_n dX7_newName_80 rfl rfl ?_
    refine J_iaddN dX7_newName_81 h.1 ?_
    replace h := h.2
    refine J_aload_n dX7_newName_82 rfl rfl ?_
    refine J_iload_n dX7_newName_83 rfl rfl ?_
    refine J_callV (as := [_]) (mc1 := 0) (ms1 := 0) (mc := 0) (ms := 0) dX7_newName_84 mv_X7_letterOfToken lk_X7_167 sh_28 rfl (Nat.le_of_ble_eq_true rfl) (Nat.le_of_ble_eq_true rfl) h (fun r σ hq _ => ?_)
    obtain ⟨x2, I2, rfl, rfl, h⟩ := hq
    change J _ _ _ _ _ _ _ [vI x2, _, _] _ _
    refine J_iast dX7_newName_87 ha1 h.1.1 h.1.2 ?_
    replace h := h.2 _ rfl
    refine J_iincN dX7_newName_88 rfl (by decide) h.1 ?_
    replace h := h.2
    change J _ _ _ _ _ _ [(0, _), (1, _), (2, _), (3, _)] _ _ _
    refine J_goto (tgt := 69) dX7_newName_91 (by decide) ?_
    exact h
set_option maxRecDepth 20000 in
set_option maxHeartbeats 2000000 in
theorem bk_X7_askedCorner_0 {d : Nat} {I : HI} {Q : Option AV → AH → Prop} {a1 : Int}  (h : CI mX7_nameStands d [vR 28] I (fun x1 I1 => ((x1 ≠ 0 → CI mX7_named d [vR 28, vR 16, vI (I1 15 0)] I1 (fun x2 I2 => ((a1 = (-1) → ((x2 = (-1) → CI mX7_fail d [vR 28, vI 3, vI (I2 28 6)] I2 (fun x3 I3 => Q (some (vI (-1))) (mk I3))) ∧ (¬ (x2 = (-1)) → CV mX7_advance d [vR 28] I2 (fun I4 => Q (some (vI x2)) (mk I4))))) ∧ (¬ (a1 = (-1)) → ((x2 = (-1) → ((x2 = (-1) → CI mX7_fail d [vR 28, vI 3, vI (I2 28 6)] I2 (fun x5 I5 => Q (some (vI (-1))) (mk I5))) ∧ (¬ (x2 = (-1)) → CV mX7_advance d [vR 28] I2 (fun I6 => Q (some (vI x2)) (mk I6))))) ∧ (¬ (x2 = (-1)) → ((x2 = a1 → ((x2 = (-1) → CI mX7_fail d [vR 28, vI 3, vI (I2 28 6)] I2 (fun x7 I7 => Q (some (vI (-1))) (mk I7))) ∧ (¬ (x2 = (-1)) → CI mX7_fail d [vR 28, vI 3, vI (I2 28 6)] I2 (fun x8 I8 => Q (some (vI (-1))) (mk I8))))) ∧ (¬ (x2 = a1) → (-2147483648 ≤ a1 * 10 ∧ a1 * 10 ≤ 2147483647) ∧ (-2147483648 ≤ (a1 * 10) + x2 ∧ (a1 * 10) + x2 ≤ 2147483647) ∧ ((0 : Int) ≤ ((a1 * 10) + x2) ∧ ((a1 * 10) + x2 : Int) < 100) ∧ (((I2 25 ((a1 * 10) + x2).toNat) = (-1) → ((x2 = (-1) → CI mX7_fail d [vR 28, vI 3, vI (I2 28 6)] I2 (fun x9 I9 => Q (some (vI (-1))) (mk I9))) ∧ (¬ (x2 = (-1)) → CV mX7_advance d [vR 28] I2 (fun I10 => Q (some (vI x2)) (mk I10))))) ∧ (¬ ((I2 25 ((a1 * 10) + x2).toNat) = (-1)) → ((x2 = (-1) → CI mX7_fail d [vR 28, vI 3, vI (I2 28 6)] I2 (fun x11 I11 => Q (some (vI (-1))) (mk I11))) ∧ (¬ (x2 = (-1)) → CI mX7_fail d [vR 28, vI 3, vI (I2 28 6)] I2 (fun x12 I12 => Q (some (vI (-1))) (mk I12)))))))))))))) ∧ (x1 = 0 → Q (some (vI (-1))) (mk I1))))) : J none mX7_askedCorner (d + 1) 0 0 0 [(0, vR 28), (1, vI a1)] [] (mk I) Q := by
  refine J_aload_n dX7_askedCorner_0 rfl rfl ?_
  refine J_callV (as := []) (mc1 := 0) (ms1 := 0) (mc := 0) (ms := 0) dX7_askedCorner_1 mv_X7_nameStands lk_X7_170 sh_28 rfl (Nat.le_of_ble_eq_true rfl) (Nat.le_of_ble_eq_true rfl) h (fun r σ hq _ => ?_)
  obtain ⟨x1, I1, rfl, rfl, h⟩ := hq
  change J _ _ _ _ _ _ _ [vI x1] _ _
  refine J_if_ne (tgt := 9) dX7_askedCorner_4 (by decide) (fun c => ?_) (fun c => ?_)
  · replace h := h.1 c
    refine J_aload_n dX7_askedCorner_9 rfl rfl ?_
    refine J_aload_n dX7_askedCorner_10 rfl rfl ?_
    refine J_getR dX7_askedCorner_11 ck_7 fw_X7_21 rfl sh_28 rr_28_0 ?_
    refine J_getR dX7_askedCorner_14 ck_0 fw_X7_128 rfl sh_14 rr_14_1 ?_
    refine J_aload_n dX7_askedCorner_17 rfl rfl ?_
    refine J_getR dX7_askedCorner_18 ck_7 fw_X7_21 rfl sh_28 rr_28_0 ?_
    refine J_getR dX7_askedCorner_21 ck_0 fw_X7_125 rfl sh_14 rr_14_0 ?_
    refine J_iconst dX7_askedCorner_24 (ii_c rfl) ?_
    refine J_iald dX7_askedCorner_25 sh_15 (by decide) (by decide) ?_
    refine J_callV (as := [_, _]) (mc1 := 0) (ms1 := 0) (mc := 0) (ms := 0) dX7_askedCorner_26 mv_X7_named lk_X7_173 sh_28 rfl (Nat.le_of_ble_eq_true rfl) (Nat.le_of_ble_eq_true rfl) h (fun r σ hq _ => ?_)
    obtain ⟨x2, I2, rfl, rfl, h⟩ := hq
    change J _ _ _ _ _ _ _ [vI x2] _ _
    refine J_istore_n dX7_askedCorner_29 rfl (by decide) ?_
    change J _ _ _ _ _ _ [(0, _), (1, _), (2, _)] _ _ _
    refine J_iload_n dX7_askedCorner_30 rfl rfl ?_
    refine J_iconst dX7_askedCorner_31 (ii_c rfl) ?_
    refine J_ic_eq (tgt := 67) dX7_askedCorner_32 (by decide) (fun c => ?_) (fun c => ?_)
    · replace h := h.1 c
      refine J_iconst dX7_askedCorner_67 (ii_c rfl) ?_
      refine J_istore_n dX7_askedCorner_68 rfl (by decide) ?_
      change J _ _ _ _ _ _ [(0, _), (1, _), (2, _), (3, _)] _ _ _
      refine J_iload_n dX7_askedCorner_69 rfl rfl ?_
      refine J_iconst dX7_askedCorner_70 (ii_c rfl) ?_
      refine J_ic_eq (tgt := 78) dX7_askedCorner_71 (by decide) (fun c => ?_) (fun c => ?_)
      · replace h := h.1 c
        refine J_aload_n dX7_askedCorner_78 rfl rfl ?_
        refine J_iconst dX7_askedCorner_79 (ii_c rfl) ?_
        refine J_aload_n dX7_askedCorner_80 rfl rfl ?_
        refine J_getI dX7_askedCorner_81 ck_7 fw_X7_79 rfl sh_28 ?_
        refine J_callV (as := [_, _]) (mc1 := 0) (ms1 := 0) (mc := 0) (ms := 0) dX7_askedCorner_84 mv_X7_fail lk_X7_119 sh_28 rfl (Nat.le_of_ble_eq_true rfl) (Nat.le_of_ble_eq_true rfl) h (fun r σ hq _ => ?_)
        obtain ⟨x3, I3, rfl, rfl, h⟩ := hq
        change J _ _ _ _ _ _ _ [vI x3] _ _
        refine J_pop dX7_askedCorner_87 rfl ?_
        refine J_iconst dX7_askedCorner_88 (ii_c rfl) ?_
        exact J_reti dX7_askedCorner_89 rfl h
      · replace h := h.2 c
        refine J_iload_n dX7_askedCorner_74 rfl rfl ?_
        refine J_if_eq (tgt := 90) dX7_askedCorner_75 (by decide) (fun _ => ?_) (fun c => absurd (by decide) c)
        refine J_aload_n dX7_askedCorner_90 rfl rfl ?_
        refine J_callV (as := []) (mc1 := 0) (ms1 := 0) (mc := 0) (ms := 0) dX7_askedCorner_91 mv_X7_advance lk_X7_62 sh_28 rfl (Nat.le_of_ble_eq_true rfl) (Nat.le_of_ble_eq_true rfl) h (fun r σ hq _ => ?_)
        obtain ⟨I4, rfl, rfl, h⟩ := hq
        change J _ _ _ _ _ _ _ [] _ _
        refine J_iload_n dX7_askedCorner_94 rfl rfl ?_
        exact J_reti dX7_askedCorner_95 rfl h
    · replace h := h.2 c
      refine J_iload_n dX7_askedCorner_35 rfl rfl ?_
      refine J_iconst dX7_askedCorner_36 (ii_c rfl) ?_
      refine J_ic_eq (tgt := 67) dX7_askedCorner_37 (by decide) (fun c => ?_) (fun c => ?_)
      · replace h := h.1 c
        refine J_iconst dX7_askedCorner_67 (ii_c rfl) ?_
        refine J_istore_n dX7_askedCorner_68 rfl (by decide) ?_
        change J _ _ _ _ _ _ [(0, _), (1, _), (2, _), (3, _)] _ _ _
        refine J_iload_n dX7_askedCorner_69 rfl rfl ?_
        refine J_iconst dX7_askedCorner_70 (ii_c rfl) ?_
        refine J_ic_eq (tgt := 78) dX7_askedCorner_71 (by decide) (fun c => ?_) (fun c => ?_)
        · replace h := h.1 c
          refine J_aload_n dX7_askedCorner_78 rfl rfl ?_
          refine J_iconst dX7_askedCorner_79 (ii_c rfl) ?_
          refine J_aload_n dX7_askedCorner_80 rfl rfl ?_
          refine J_getI dX7_askedCorner_81 ck_7 fw_X7_79 rfl sh_28 ?_
          refine J_callV (as := [_, _]) (mc1 := 0) (ms1 := 0) (mc := 0) (ms := 0) dX7_askedCorner_84 mv_X7_fail lk_X7_119 sh_28 rfl (Nat.le_of_ble_eq_true rfl) (Nat.le_of_ble_eq_true rfl) h (fun r σ hq _ => ?_)
          obtain ⟨x5, I5, rfl, rfl, h⟩ := hq
          change J _ _ _ _ _ _ _ [vI x5] _ _
          refine J_pop dX7_askedCorner_87 rfl ?_
          refine J_iconst dX7_askedCorner_88 (ii_c rfl) ?_
          exact J_reti dX7_askedCorner_89 rfl h
        · replace h := h.2 c
          refine J_iload_n dX7_askedCorner_74 rfl rfl ?_
          refine J_if_eq (tgt := 90) dX7_askedCorner_75 (by decide) (fun _ => ?_) (fun c => absurd (by decide) c)
          refine J_aload_n dX7_askedCorner_90 rfl rfl ?_
          refine J_callV (as := []) (mc1 := 0) (ms1 := 0) (mc := 0) (ms := 0) dX7_askedCorner_91 mv_X7_advance lk_X7_62 sh_28 rfl (Nat.le_of_ble_eq_true rfl) (Nat.le_of_ble_eq_true rfl) h (fun r σ hq _ => ?_)
          obtain ⟨I6, rfl, rfl, h⟩ := hq
          change J _ _ _ _ _ _ _ [] _ _
          refine J_iload_n dX7_askedCorner_94 rfl rfl ?_
          exact J_reti dX7_askedCorner_95 rfl h
      · replace h := h.2 c
        refine J_iload_n dX7_askedCorner_40 rfl rfl ?_
        refine J_iload_n dX7_askedCorner_41 rfl rfl ?_
        refine J_ic_eq (tgt := 63) dX7_askedCorner_42 (by decide) (fun c => ?_) (fun c => ?_)
        · replace h := h.1 c
          refine J_iconst dX7_askedCorner_63 (ii_c rfl) ?_
          refine J_goto (tgt := 68) dX7_askedCorner_64 (by decide) ?_
          refine J_istore_n dX7_askedCorner_68 rfl (by decide) ?_
          change J _ _ _ _ _ _ [(0, _), (1, _), (2, _), (3, _)] _ _ _
          refine J_iload_n dX7_askedCorner_69 rfl rfl ?_
          refine J_iconst dX7_askedCorner_70 (ii_c rfl) ?_
          refine J_ic_eq (tgt := 78) dX7_askedCorner_71 (by decide) (fun c => ?_) (fun c => ?_)
          · replace h := h.1 c
            refine J_aload_n dX7_askedCorner_78 rfl rfl ?_
            refine J_iconst dX7_askedCorner_79 (ii_c rfl) ?_
            refine J_aload_n dX7_askedCorner_80 rfl rfl ?_
            refine J_getI dX7_askedCorner_81 ck_7 fw_X7_79 rfl sh_28 ?_
            refine J_callV (as := [_, _]) (mc1 := 0) (ms1 := 0) (mc := 0) (ms := 0) dX7_askedCorner_84 mv_X7_fail lk_X7_119 sh_28 rfl (Nat.le_of_ble_eq_true rfl) (Nat.le_of_ble_eq_true rfl) h (fun r σ hq _ => ?_)
            obtain ⟨x7, I7, rfl, rfl, h⟩ := hq
            change J _ _ _ _ _ _ _ [vI x7] _ _
            refine J_pop dX7_askedCorner_87 rfl ?_
            refine J_iconst dX7_askedCorner_88 (ii_c rfl) ?_
            exact J_reti dX7_askedCorner_89 rfl h
          · replace h := h.2 c
            refine J_iload_n dX7_askedCorner_74 rfl rfl ?_
            refine J_if_eq (tgt := 90) dX7_askedCorner_75 (by decide) (fun c => absurd c (by decide)) (fun _ => ?_)
            refine J_aload_n dX7_askedCorner_78 rfl rfl ?_
            refine J_iconst dX7_askedCorner_79 (ii_c rfl) ?_
            refine J_aload_n dX7_askedCorner_80 rfl rfl ?_
            refine J_getI dX7_askedCorner_81 ck_7 fw_X7_79 rfl sh_28 ?_
            refine J_callV (as := [_, _]) (mc1 := 0) (ms1 := 0) (mc := 0) (ms := 0) dX7_askedCorner_84 mv_X7_fail lk_X7_119 sh_28 rfl (Nat.le_of_ble_eq_true rfl) (Nat.le_of_ble_eq_true rfl) h (fun r σ hq _ => ?_)
            obtain ⟨x8, I8, rfl, rfl, h⟩ := hq
            change J _ _ _ _ _ _ _ [vI x8] _ _
            refine J_pop dX7_askedCorner_87 rfl ?_
            refine J_iconst dX7_askedCorner_88 (ii_c rfl) ?_
            exact J_reti dX7_askedCorner_89 rfl h
        · replace h := h.2 c
          refine J_aload_n dX7_askedCorner_45 rfl rfl ?_
          refine J_getR dX7_askedCorner_46 ck_7 fw_X7_21 rfl sh_28 rr_28_0 ?_
          refine J_getR dX7_askedCorner_49 ck_0 fw_X7_177 rfl sh_14 rr_14_10 ?_
          refine J_iload_n dX7_askedCorner_52 rfl rfl ?_
          refine J_bipush dX7_askedCorner_53 (ii_c rfl) (by decide) ?_
          refine J_imulN dX7_askedCorner_55 h.1 ?_
          replace h := h.2
          refine J_iload_n dX7_askedCorner_56 rfl rfl ?_
          refine J_iaddN dX7_askedCorner_57 h.1 ?_
          replace h := h.2
          refine J_iald dX7_askedCorner_58 sh_25 h.1.1 h.1.2 ?_
          replace h := h.2
          refine J_iconst dX7_askedCorner_59 (ii_c rfl) ?_
          refine J_ic_eq (tgt := 67) dX7_askedCorner_60 (by decide) (fun c => ?_) (fun c => ?_)
          · replace h := h.1 c
            refine J_iconst dX7_askedCorner_67 (ii_c rfl) ?_
            refine J_istore_n dX7_askedCorner_68 rfl (by decide) ?_
            change J _ _ _ _ _ _ [(0, _), (1, _), (2, _), (3, _)] _ _ _
            refine J_iload_n dX7_askedCorner_69 rfl rfl ?_
            refine J_iconst dX7_askedCorner_70 (ii_c rfl) ?_
            refine J_ic_eq (tgt := 78) dX7_askedCorner_71 (by decide) (fun c => ?_) (fun c => ?_)
            · replace h := h.1 c
              refine J_aload_n dX7_askedCorner_78 rfl rfl ?_
              refine J_iconst dX7_askedCorner_79 (ii_c rfl) ?_
              refine J_aload_n dX7_askedCorner_80 rfl rfl ?_
              refine J_getI dX7_askedCorner_81 ck_7 fw_X7_79 rfl sh_28 ?_
              refine J_callV (as := [_, _]) (mc1 := 0) (ms1 := 0) (mc := 0) (ms := 0) dX7_askedCorner_84 mv_X7_fail lk_X7_119 sh_28 rfl (Nat.le_of_ble_eq_true rfl) (Nat.le_of_ble_eq_true rfl) h (fun r σ hq _ => ?_)
              obtain ⟨x9, I9, rfl, rfl, h⟩ := hq
              change J _ _ _ _ _ _ _ [vI x9] _ _
              refine J_pop dX7_askedCorner_87 rfl ?_
              refine J_iconst dX7_askedCorner_88 (ii_c rfl) ?_
              exact J_reti dX7_askedCorner_89 rfl h
            · replace h := h.2 c
              refine J_iload_n dX7_askedCorner_74 rfl rfl ?_
              refine J_if_eq (tgt := 90) dX7_askedCorner_75 (by decide) (fun _ => ?_) (fun c => absurd (by decide) c)
              refine J_aload_n dX7_askedCorner_90 rfl rfl ?_
              refine J_callV (as := []) (mc1 := 0) (ms1 := 0) (mc := 0) (ms := 0) dX7_askedCorner_91 mv_X7_advance lk_X7_62 sh_28 rfl (Nat.le_of_ble_eq_true rfl) (Nat.le_of_ble_eq_true rfl) h (fun r σ hq _ => ?_)
              obtain ⟨I10, rfl, rfl, h⟩ := hq
              change J _ _ _ _ _ _ _ [] _ _
              refine J_iload_n dX7_askedCorner_94 rfl rfl ?_
              exact J_reti dX7_askedCorner_95 rfl h
          · replace h := h.2 c
            refine J_iconst dX7_askedCorner_63 (ii_c rfl) ?_
            refine J_goto (tgt := 68) dX7_askedCorner_64 (by decide) ?_
            refine J_istore_n dX7_askedCorner_68 rfl (by decide) ?_
            change J _ _ _ _ _ _ [(0, _), (1, _), (2, _), (3, _)] _ _ _
            refine J_iload_n dX7_askedCorner_69 rfl rfl ?_
            refine J_iconst dX7_askedCorner_70 (ii_c rfl) ?_
            refine J_ic_eq (tgt := 78) dX7_askedCorner_71 (by decide) (fun c => ?_) (fun c => ?_)
            · replace h := h.1 c
              refine J_aload_n dX7_askedCorner_78 rfl rfl ?_
              refine J_iconst dX7_askedCorner_79 (ii_c rfl) ?_
              refine J_aload_n dX7_askedCorner_80 rfl rfl ?_
              refine J_getI dX7_askedCorner_81 ck_7 fw_X7_79 rfl sh_28 ?_
              refine J_callV (as := [_, _]) (mc1 := 0) (ms1 := 0) (mc := 0) (ms := 0) dX7_askedCorner_84 mv_X7_fail lk_X7_119 sh_28 rfl (Nat.le_of_ble_eq_true rfl) (Nat.le_of_ble_eq_true rfl) h (fun r σ hq _ => ?_)
              obtain ⟨x11, I11, rfl, rfl, h⟩ := hq
              change J _ _ _ _ _ _ _ [vI x11] _ _
              refine J_pop dX7_askedCorner_87 rfl ?_
              refine J_iconst dX7_askedCorner_88 (ii_c rfl) ?_
              exact J_reti dX7_askedCorner_89 rfl h
            · replace h := h.2 c
              refine J_iload_n dX7_askedCorner_74 rfl rfl ?_
              refine J_if_eq (tgt := 90) dX7_askedCorner_75 (by decide) (fun c => absurd c (by decide)) (fun _ => ?_)
              refine J_aload_n dX7_askedCorner_78 rfl rfl ?_
              refine J_iconst dX7_askedCorner_79 (ii_c rfl) ?_
              refine J_aload_n dX7_askedCorner_80 rfl rfl ?_
              refine J_getI dX7_askedCorner_81 ck_7 fw_X7_79 rfl sh_28 ?_
              refine J_callV (as := [_, _]) (mc1 := 0) (ms1 := 0) (mc := 0) (ms := 0) dX7_askedCorner_84 mv_X7_fail lk_X7_119 sh_28 rfl (Nat.le_of_ble_eq_true rfl) (Nat.le_of_ble_eq_true rfl) h (fun r σ hq _ => ?_)
              obtain ⟨x12, I12, rfl, rfl, h⟩ := hq
              change J _ _ _ _ _ _ _ [vI x12] _ _
              refine J_pop dX7_askedCorner_87 rfl ?_
              refine J_iconst dX7_askedCorner_88 (ii_c rfl) ?_
              exact J_reti dX7_askedCorner_89 rfl h
  · replace h := h.2 c
    refine J_iconst dX7_askedCorner_7 (ii_c rfl) ?_
    exact J_reti dX7_askedCorner_8 rfl h
set_option maxRecDepth 20000 in
set_option maxHeartbeats 2000000 in
theorem bk_X7_emit_0 {d : Nat} {I : HI} {Q : Option AV → AH → Prop} {a1 : Int}  (h : ((1600 ≤ (I 28 12) → Q none (mk I)) ∧ (¬ (1600 ≤ (I 28 12)) → (-2147483648 ≤ (I 28 12) + 1 ∧ (I 28 12) + 1 ≤ 2147483647) ∧ (∀ I1 : HI, I1 = up I 28 12 ((I 28 12) + 1) → ((0 : Int) ≤ (I 28 12) ∧ (I 28 12 : Int) < 1600) ∧ (∀ I2 : HI, I2 = up I1 22 (I 28 12).toNat a1 → Q none (mk I2)))))) : J none mX7_emit (d + 1) 0 0 0 [(0, vR 28), (1, vI a1)] [] (mk I) Q := by
  refine J_aload_n dX7_emit_0 rfl rfl ?_
  refine J_getI dX7_emit_1 ck_7 fw_X7_48 rfl sh_28 ?_
  refine J_aload_n dX7_emit_4 rfl rfl ?_
  refine J_getR dX7_emit_5 ck_7 fw_X7_21 rfl sh_28 rr_28_0 ?_
  refine J_getR dX7_emit_8 ck_0 fw_X7_180 rfl sh_14 rr_14_7 ?_
  refine J_alen dX7_emit_11 sh_22 (by decide) (by decide) ?_
  refine J_ic_ge (tgt := 35) dX7_emit_12 (by decide) (fun c => ?_) (fun c => ?_)
  · replace h := h.1 c
    exact J_retv dX7_emit_35 rfl h
  · replace h := h.2 c
    refine J_aload_n dX7_emit_15 rfl rfl ?_
    refine J_getR dX7_emit_16 ck_7 fw_X7_21 rfl sh_28 rr_28_0 ?_
    refine J_getR dX7_emit_19 ck_0 fw_X7_180 rfl sh_14 rr_14_7 ?_
    refine J_aload_n dX7_emit_22 rfl rfl ?_
    refine J_dup dX7_emit_23 rfl ?_
    refine J_getI dX7_emit_24 ck_7 fw_X7_48 rfl sh_28 ?_
    refine J_dup_x1 dX7_emit_27 rfl rfl ?_
    refine J_iconst dX7_emit_28 (ii_c rfl) ?_
    refine J_iaddN dX7_emit_29 h.1 ?_
    replace h := h.2
    refine J_putI dX7_emit_30 ck_7 fw_X7_48 rfl rfl (Or.inl rfl) sh_28 ?_
    replace h := h _ rfl
    refine J_iload_n dX7_emit_33 rfl rfl ?_
    refine J_iast dX7_emit_34 sh_22 h.1.1 h.1.2 ?_
    replace h := h.2 _ rfl
    exact J_retv dX7_emit_35 rfl h
set_option maxRecDepth 20000 in
set_option maxHeartbeats 2000000 in
theorem bk_X7_test_0 {d : Nat} {I : HI} {Q : Option AV → AH → Prop} {a1 : Int}  (h : J none mX7_test (d + 1) 0 0 7 [(0, vR 28), (1, vI a1), (2, vI 0), (3, vI 0), (4, vI 0)] [] (mk I) Q) : J none mX7_test (d + 1) 0 0 0 [(0, vR 28), (1, vI a1)] [] (mk I) Q := by
  refine J_iconst dX7_test_0 (ii_c rfl) ?_
  refine J_istore_n dX7_test_1 rfl (by decide) ?_
  change J _ _ _ _ _ _ [(0, _), (1, _), (2, _)] _ _ _
  refine J_iconst dX7_test_2 (ii_c rfl) ?_
  refine J_istore_n dX7_test_3 rfl (by decide) ?_
  change J _ _ _ _ _ _ [(0, _), (1, _), (2, _), (3, _)] _ _ _
  refine J_iconst dX7_test_4 (ii_c rfl) ?_
  refine J_istore dX7_test_5 (by decide) ?_
  change J _ _ _ _ _ _ [(0, _), (1, _), (2, _), (3, _), (4, _)] _ _ _
  exact h
set_option maxRecDepth 20000 in
set_option maxHeartbeats 2000000 in
theorem bk_X7_test_7 {d : Nat} {I : HI} {Q : Option AV → AH → Prop} {a1 : Int} {a2 : Int} {a3 : Int} {a4 : Int}  (h : ((1600 ≤ a4 → CI mX7_fail d [vR 28, vI 1, vI (I 28 6)] I (fun x1 I1 => (x1 = 0 ∨ x1 = 1) ∧ Q (some (vI x1)) (mk I1))) ∧ (¬ (1600 ≤ a4) → CI mX7_fact d [vR 28, vI a1] I (fun x2 I2 => ((x2 ≠ 0 → ((a2 = 0 → J none mX7_test (d + 1) 0 0 35 [(0, vR 28), (1, vI a1), (2, vI a2), (3, vI a3), (4, vI a4)] [] (mk I2) Q) ∧ (¬ (a2 = 0) → CV mX7_emit d [vR 28, vI (-16)] I2 (fun I3 => J none mX7_test (d + 1) 0 0 35 [(0, vR 28), (1, vI a1), (2, vI a2), (3, vI a3), (4, vI a4)] [] (mk I3) Q)))) ∧ (x2 = 0 → Q (some (vI 0)) (mk I2))))))) : J none mX7_test (d + 1) 0 0 7 [(0, vR 28), (1, vI a1), (2, vI a2), (3, vI a3), (4, vI a4)] [] (mk I) Q := by
  refine J_iload dX7_test_7 rfl ?_
  refine J_sipush dX7_test_9 (ii_c rfl) (by decide) ?_
  refine J_ic_ge (tgt := 109) dX7_test_12 (by decide) (fun c => ?_) (fun c => ?_)
  · replace h := h.1 c
    refine J_aload_n dX7_test_109 rfl rfl ?_
    refine J_iconst dX7_test_110 (ii_c rfl) ?_
    refine J_aload_n dX7_test_111 rfl rfl ?_
    refine J_getI dX7_test_112 ck_7 fw_X7_79 rfl sh_28 ?_
    refine J_callV (as := [_, _]) (mc1 := 0) (ms1 := 0) (mc := 0) (ms := 0) dX7_test_115 mv_X7_fail lk_X7_119 sh_28 rfl (Nat.le_of_ble_eq_true rfl) (Nat.le_of_ble_eq_true rfl) h (fun r σ hq _ => ?_)
    obtain ⟨x1, I1, rfl, rfl, h⟩ := hq
    change J _ _ _ _ _ _ _ [vI x1] _ _
    exact J_retz dX7_test_118 rfl h.1 h.2
  · replace h := h.2 c
    refine J_aload_n dX7_test_15 rfl rfl ?_
    refine J_iload_n dX7_test_16 rfl rfl ?_
    refine J_callV (as := [_]) (mc1 := 0) (ms1 := 0) (mc := 0) (ms := 0) dX7_test_17 mv_X7_fact lk_X7_183 sh_28 rfl (Nat.le_of_ble_eq_true rfl) (Nat.le_of_ble_eq_true rfl) h (fun r σ hq _ => ?_)
    obtain ⟨x2, I2, rfl, rfl, h⟩ := hq
    change J _ _ _ _ _ _ _ [vI x2] _ _
    refine J_if_ne (tgt := 25) dX7_test_20 (by decide) (fun c => ?_) (fun c => ?_)
    · replace h := h.1 c
      refine J_iload_n dX7_test_25 rfl rfl ?_
      refine J_if_eq (tgt := 35) dX7_test_26 (by decide) (fun c => ?_) (fun c => ?_)
      · replace h := h.1 c
        exact h
      · replace h := h.2 c
        refine J_aload_n dX7_test_29 rfl rfl ?_
        refine J_bipush dX7_test_30 (ii_c rfl) (by decide) ?_
        refine J_callV (as := [_]) (mc1 := 0) (ms1 := 0) (mc := 0) (ms := 0) dX7_test_32 mv_X7_emit lk_X7_186 sh_28 rfl (Nat.le_of_ble_eq_true rfl) (Nat.le_of_ble_eq_true rfl) h (fun r σ hq _ => ?_)
        obtain ⟨I3, rfl, rfl, h⟩ := hq
        change J _ _ _ _ _ _ _ [] _ _
        exact h
    · replace h := h.2 c
      refine J_iconst dX7_test_23 (ii_c rfl) ?_
      exact J_retz dX7_test_24 rfl (Or.inl rfl) h
set_option maxRecDepth 20000 in
set_option maxHeartbeats 2000000 in
theorem bk_X7_test_35 {d : Nat} {I : HI} {Q : Option AV → AH → Prop} {a1 : Int} {a2 : Int} {a3 : Int} {a4 : Int}  (h : (((I 28 8) ≠ 17 → J none mX7_test (d + 1) 0 0 55 [(0, vR 28), (1, vI a1), (2, vI a2), (3, vI a3), (4, vI a4)] [] (mk I) Q) ∧ ((I 28 8) = 17 → (((I 28 9) ≠ 0 → J none mX7_test (d + 1) 0 0 55 [(0, vR 28), (1, vI a1), (2, vI a2), (3, vI a3), (4, vI a4)] [] (mk I) Q) ∧ ((I 28 9) = 0 → CV mX7_advance d [vR 28] I (fun I1 => (-2147483648 ≤ a4 + 1 ∧ a4 + 1 ≤ 2147483647) ∧ J none mX7_test (d + 1) 0 0 7 [(0, vR 28), (1, vI a1), (2, vI 1), (3, vI a3), (4, vI (a4 + 1))] [] (mk I1) Q)))))) : J none mX7_test (d + 1) 0 0 35 [(0, vR 28), (1, vI a1), (2, vI a2), (3, vI a3), (4, vI a4)] [] (mk I) Q := by
  refine J_aload_n dX7_test_35 rfl rfl ?_
  refine J_getI dX7_test_36 ck_7 fw_X7_45 rfl sh_28 ?_
  refine J_bipush dX7_test_39 (ii_c rfl) (by decide) ?_
  refine J_ic_ne (tgt := 55) dX7_test_41 (by decide) (fun c => ?_) (fun c => ?_)
  · replace h := h.1 c
    exact h
  · replace h := h.2 c
    refine J_aload_n dX7_test_44 rfl rfl ?_
    refine J_getI dX7_test_45 ck_7 fw_X7_82 rfl sh_28 ?_
    refine J_if_ne (tgt := 55) dX7_test_48 (by decide) (fun c => ?_) (fun c => ?_)
    · replace h := h.1 c
      exact h
    · replace h := h.2 c
      refine J_iconst dX7_test_51 (ii_c rfl) ?_
      refine J_goto (tgt := 56) dX7_test_52 (by decide) ?_
      refine J_istore_n dX7_test_56 rfl (by decide) ?_
      change J _ _ _ _ _ _ [(0, _), (1, _), (2, _), (3, _), (4, _)] _ _ _
      refine J_iload_n dX7_test_57 rfl rfl ?_
      refine J_if_ne (tgt := 99) dX7_test_58 (by decide) (fun _ => ?_) (fun c => absurd c (by decide))
      refine J_aload_n dX7_test_99 rfl rfl ?_
      refine J_callV (as := []) (mc1 := 0) (ms1 := 0) (mc := 0) (ms := 0) dX7_test_100 mv_X7_advance lk_X7_62 sh_28 rfl (Nat.le_of_ble_eq_true rfl) (Nat.le_of_ble_eq_true rfl) h (fun r σ hq _ => ?_)
      obtain ⟨I1, rfl, rfl, h⟩ := hq
      change J _ _ _ _ _ _ _ [] _ _
      refine J_iincN dX7_test_103 rfl (by decide) h.1 ?_
      replace h := h.2
      change J _ _ _ _ _ _ [(0, _), (1, _), (2, _), (3, _), (4, _)] _ _ _
      refine J_goto (tgt := 7) dX7_test_106 (by decide) ?_
      exact h
set_option maxRecDepth 20000 in
set_option maxHeartbeats 2000000 in
theorem bk_X7_test_55 {d : Nat} {I : HI} {Q : Option AV → AH → Prop} {a1 : Int} {a2 : Int} {a3 : Int} {a4 : Int}  (h : ((a3 = 0 → (((I 28 8) ≠ 16 → Q (some (vI 1)) (mk I)) ∧ ((I 28 8) = 16 → (((I 28 9) ≠ 0 → Q (some (vI 1)) (mk I)) ∧ ((I 28 9) = 0 → CV mX7_advance d [vR 28] I (fun I1 => (-2147483648 ≤ a4 + 1 ∧ a4 + 1 ≤ 2147483647) ∧ J none mX7_test (d + 1) 0 0 7 [(0, vR 28), (1, vI a1), (2, vI 0), (3, vI 1), (4, vI (a4 + 1))] [] (mk I1) Q)))))) ∧ (¬ (a3 = 0) → CV mX7_emit d [vR 28, vI (-17)] I (fun I2 => (((I2 28 8) ≠ 16 → Q (some (vI 1)) (mk I2)) ∧ ((I2 28 8) = 16 → (((I2 28 9) ≠ 0 → Q (some (vI 1)) (mk I2)) ∧ ((I2 28 9) = 0 → CV mX7_advance d [vR 28] I2 (fun I3 => (-2147483648 ≤ a4 + 1 ∧ a4 + 1 ≤ 2147483647) ∧ J none mX7_test (d + 1) 0 0 7 [(0, vR 28), (1, vI a1), (2, vI 0), (3, vI 1), (4, vI (a4 + 1))] [] (mk I3) Q))))))))) : J none mX7_test (d + 1) 0 0 55 [(0, vR 28), (1, vI a1), (2, vI a2), (3, vI a3), (4, vI a4)] [] (mk I) Q := by
  refine J_iconst dX7_test_55 (ii_c rfl) ?_
  refine J_istore_n dX7_test_56 rfl (by decide) ?_
  change J _ _ _ _ _ _ [(0, _), (1, _), (2, _), (3, _), (4, _)] _ _ _
  refine J_iload_n dX7_test_57 rfl rfl ?_
  refine J_if_ne (tgt := 99) dX7_test_58 (by decide) (fun c => absurd rfl c) (fun _ => ?_)
  refine J_iload_n dX7_test_61 rfl rfl ?_
  refine J_if_eq (tgt := 71) dX7_test_62 (by decide) (fun c => ?_) (fun c => ?_)
  · replace h := h.1 c
    refine J_aload_n dX7_test_71 rfl rfl ?_
    refine J_getI dX7_test_72 ck_7 fw_X7_45 rfl sh_28 ?_
    refine J_bipush dX7_test_75 (ii_c rfl) (by decide) ?_
    refine J_ic_ne (tgt := 91) dX7_test_77 (by decide) (fun c => ?_) (fun c => ?_)
    · replace h := h.1 c
      refine J_iconst dX7_test_91 (ii_c rfl) ?_
      refine J_istore_n dX7_test_92 rfl (by decide) ?_
      change J _ _ _ _ _ _ [(0, _), (1, _), (2, _), (3, _), (4, _)] _ _ _
      refine J_iload_n dX7_test_93 rfl rfl ?_
      refine J_if_ne (tgt := 99) dX7_test_94 (by decide) (fun c => absurd rfl c) (fun _ => ?_)
      refine J_iconst dX7_test_97 (ii_c rfl) ?_
      exact J_retz dX7_test_98 rfl (Or.inr rfl) h
    · replace h := h.2 c
      refine J_aload_n dX7_test_80 rfl rfl ?_
      refine J_getI dX7_test_81 ck_7 fw_X7_82 rfl sh_28 ?_
      refine J_if_ne (tgt := 91) dX7_test_84 (by decide) (fun c => ?_) (fun c => ?_)
      · replace h := h.1 c
        refine J_iconst dX7_test_91 (ii_c rfl) ?_
        refine J_istore_n dX7_test_92 rfl (by decide) ?_
        change J _ _ _ _ _ _ [(0, _), (1, _), (2, _), (3, _), (4, _)] _ _ _
        refine J_iload_n dX7_test_93 rfl rfl ?_
        refine J_if_ne (tgt := 99) dX7_test_94 (by decide) (fun c => absurd rfl c) (fun _ => ?_)
        refine J_iconst dX7_test_97 (ii_c rfl) ?_
        exact J_retz dX7_test_98 rfl (Or.inr rfl) h
      · replace h := h.2 c
        refine J_iconst dX7_test_87 (ii_c rfl) ?_
        refine J_goto (tgt := 92) dX7_test_88 (by decide) ?_
        refine J_istore_n dX7_test_92 rfl (by decide) ?_
        change J _ _ _ _ _ _ [(0, _), (1, _), (2, _), (3, _), (4, _)] _ _ _
        refine J_iload_n dX7_test_93 rfl rfl ?_
        refine J_if_ne (tgt := 99) dX7_test_94 (by decide) (fun _ => ?_) (fun c => absurd c (by decide))
        refine J_aload_n dX7_test_99 rfl rfl ?_
        refine J_callV (as := []) (mc1 := 0) (ms1 := 0) (mc := 0) (ms := 0) dX7_test_100 mv_X7_advance lk_X7_62 sh_28 rfl (Nat.le_of_ble_eq_true rfl) (Nat.le_of_ble_eq_true rfl) h (fun r σ hq _ => ?_)
        obtain ⟨I1, rfl, rfl, h⟩ := hq
        change J _ _ _ _ _ _ _ [] _ _
        refine J_iincN dX7_test_103 rfl (by decide) h.1 ?_
        replace h := h.2
        change J _ _ _ _ _ _ [(0, _), (1, _), (2, _), (3, _), (4, _)] _ _ _
        refine J_goto (tgt := 7) dX7_test_106 (by decide) ?_
        exact h
  · replace h := h.2 c
    refine J_aload_n dX7_test_65 rfl rfl ?_
    refine J_bipush dX7_test_66 (ii_c rfl) (by decide) ?_
    refine J_callV (as := [_]) (mc1 := 0) (ms1 := 0) (mc := 0) (ms := 0) dX7_test_68 mv_X7_emit lk_X7_186 sh_28 rfl (Nat.le_of_ble_eq_true rfl) (Nat.le_of_ble_eq_true rfl) h (fun r σ hq _ => ?_)
    obtain ⟨I2, rfl, rfl, h⟩ := hq
    change J _ _ _ _ _ _ _ [] _ _
    refine J_aload_n dX7_test_71 rfl rfl ?_
    refine J_getI dX7_test_72 ck_7 fw_X7_45 rfl sh_28 ?_
    refine J_bipush dX7_test_75 (ii_c rfl) (by decide) ?_
    refine J_ic_ne (tgt := 91) dX7_test_77 (by decide) (fun c => ?_) (fun c => ?_)
    · replace h := h.1 c
      refine J_iconst dX7_test_91 (ii_c rfl) ?_
      refine J_istore_n dX7_test_92 rfl (by decide) ?_
      change J _ _ _ _ _ _ [(0, _), (1, _), (2, _), (3, _), (4, _)] _ _ _
      refine J_iload_n dX7_test_93 rfl rfl ?_
      refine J_if_ne (tgt := 99) dX7_test_94 (by decide) (fun c => absurd rfl c) (fun _ => ?_)
      refine J_iconst dX7_test_97 (ii_c rfl) ?_
      exact J_retz dX7_test_98 rfl (Or.inr rfl) h
    · replace h := h.2 c
      refine J_aload_n dX7_test_80 rfl rfl ?_
      refine J_getI dX7_test_81 ck_7 fw_X7_82 rfl sh_28 ?_
      refine J_if_ne (tgt := 91) dX7_test_84 (by decide) (fun c => ?_) (fun c => ?_)
      · replace h := h.1 c
        refine J_iconst dX7_test_91 (ii_c rfl) ?_
        refine J_istore_n dX7_test_92 rfl (by decide) ?_
        change J _ _ _ _ _ _ [(0, _), (1, _), (2, _), (3, _), (4, _)] _ _ _
        refine J_iload_n dX7_test_93 rfl rfl ?_
        refine J_if_ne (tgt := 99) dX7_test_94 (by decide) (fun c => absurd rfl c) (fun _ => ?_)
        refine J_iconst dX7_test_97 (ii_c rfl) ?_
        exact J_retz dX7_test_98 rfl (Or.inr rfl) h
      · replace h := h.2 c
        refine J_iconst dX7_test_87 (ii_c rfl) ?_
        refine J_goto (tgt := 92) dX7_test_88 (by decide) ?_
        refine J_istore_n dX7_test_92 rfl (by decide) ?_
        change J _ _ _ _ _ _ [(0, _), (1, _), (2, _), (3, _), (4, _)] _ _ _
        refine J_iload_n dX7_test_93 rfl rfl ?_
        refine J_if_ne (tgt := 99) dX7_test_94 (by decide) (fun _ => ?_) (fun c => absurd c (by decide))
        refine J_aload_n dX7_test_99 rfl rfl ?_
        refine J_callV (as := []) (mc1 := 0) (ms1 := 0) (mc := 0) (ms := 0) dX7_test_100 mv_X7_advance lk_X7_62 sh_28 rfl (Nat.le_of_ble_eq_true rfl) (Nat.le_of_ble_eq_true rfl) h (fun r σ hq _ => ?_)
        obtain ⟨I3, rfl, rfl, h⟩ := hq
        change J _ _ _ _ _ _ _ [] _ _
        refine J_iincN dX7_test_103 rfl (by decide) h.1 ?_
        replace h := h.2
        change J _ _ _ _ _ _ [(0, _), (1, _), (2, _), (3, _), (4, _)] _ _ _
        refine J_goto (tgt := 7) dX7_test_106 (by decide) ?_
        exact h
set_option maxRecDepth 20000 in
set_option maxHeartbeats 2000000 in
theorem bk_X7_fact_0 {d : Nat} {I : HI} {Q : Option AV → AH → Prop} {a1 : Int}  (h : (((I 28 8) ≠ 18 → CI mX7_isSign d [vR 28, vI 91] I (fun x1 I1 => ((x1 = 0 → (((I1 28 8) ≠ 19 → CI mX7_sum d [vR 28, vI a1] I1 (fun x2 I2 => ((x2 ≠ 0 → CI mX7_isSign d [vR 28, vI 60] I2 (fun x3 I3 => ((x3 = 0 → CI mX7_isSign d [vR 28, vI 62] I3 (fun x4 I4 => ((x4 = 0 → CI mX7_isSign d [vR 28, vI 61] I4 (fun x5 I5 => ((x5 = 0 → CI mX7_fail d [vR 28, vI 1, vI (I5 28 6)] I5 (fun x6 I6 => (x6 = 0 ∨ x6 = 1) ∧ Q (some (vI x6)) (mk I6))) ∧ (¬ (x5 = 0) → CV mX7_advance d [vR 28] I5 (fun I7 => CI mX7_sum d [vR 28, vI a1] I7 (fun x8 I8 => CV mX7_emit d [vR 28, vI (-14)] I8 (fun I9 => (x8 = 0 ∨ x8 = 1) ∧ Q (some (vI x8)) (mk I9)))))))) ∧ (¬ (x4 = 0) → CV mX7_advance d [vR 28] I4 (fun I10 => CI mX7_sum d [vR 28, vI a1] I10 (fun x11 I11 => CV mX7_emit d [vR 28, vI (-13)] I11 (fun I12 => (x11 = 0 ∨ x11 = 1) ∧ Q (some (vI x11)) (mk I12)))))))) ∧ (¬ (x3 = 0) → CV mX7_advance d [vR 28] I3 (fun I13 => CI mX7_sum d [vR 28, vI a1] I13 (fun x14 I14 => CV mX7_emit d [vR 28, vI (-12)] I14 (fun I15 => (x14 = 0 ∨ x14 = 1) ∧ Q (some (vI x14)) (mk I15)))))))) ∧ (x2 = 0 → Q (some (vI 0)) (mk I2))))) ∧ ((I1 28 8) = 19 → CV mX7_emit d [vR 28, vI 1] I1 (fun I16 => CV mX7_advance d [vR 28] I16 (fun I17 => Q (some (vI 1)) (mk I17)))))) ∧ (¬ (x1 = 0) → CI mX7_roomIn d [vR 28, vI a1] I1 (fun x18 I18 => ((x18 = 0 → Q (some (vI 0)) (mk I18)) ∧ (¬ (x18 = 0) → CI mX7_sign d [vR 28, vI 91] I18 (fun x19 I19 => ((x19 = 0 → Q (some (vI 0)) (mk I19)) ∧ (¬ (x19 = 0) → (-2147483648 ≤ a1 + 1 ∧ a1 + 1 ≤ 2147483647) ∧ CI mX7_test d [vR 28, vI (a1 + 1)] I19 (fun x20 I20 => ((x20 = 0 → Q (some (vI 0)) (mk I20)) ∧ (¬ (x20 = 0) → CI mX7_sign d [vR 28, vI 93] I20 (fun x21 I21 => ((x21 = 0 → Q (some (vI 0)) (mk I21)) ∧ (¬ (x21 = 0) → Q (some (vI 1)) (mk I21))))))))))))))))) ∧ ((I 28 8) = 18 → CI mX7_roomIn d [vR 28, vI a1] I (fun x22 I22 => ((x22 ≠ 0 → CV mX7_advance d [vR 28] I22 (fun I23 => (-2147483648 ≤ a1 + 1 ∧ a1 + 1 ≤ 2147483647) ∧ CI mX7_fact d [vR 28, vI (a1 + 1)] I23 (fun x24 I24 => CV mX7_emit d [vR 28, vI (-15)] I24 (fun I25 => (x24 = 0 ∨ x24 = 1) ∧ Q (some (vI x24)) (mk I25))))) ∧ (x22 = 0 → Q (some (vI 0)) (mk I22))))))) : J none mX7_fact (d + 1) 0 0 0 [(0, vR 28), (1, vI a1)] [] (mk I) Q := by
  refine J_aload_n dX7_fact_0 rfl rfl ?_
  refine J_getI dX7_fact_1 ck_7 fw_X7_45 rfl sh_28 ?_
  refine J_bipush dX7_fact_4 (ii_c rfl) (by decide) ?_
  refine J_ic_ne (tgt := 39) dX7_fact_6 (by decide) (fun c => ?_) (fun c => ?_)
  · replace h := h.1 c
    refine J_aload_n dX7_fact_39 rfl rfl ?_
    refine J_bipush dX7_fact_40 (ii_c rfl) (by decide) ?_
    refine J_callV (as := [_]) (mc1 := 0) (ms1 := 0) (mc := 0) (ms := 0) dX7_fact_42 mv_X7_isSign lk_X7_164 sh_28 rfl (Nat.le_of_ble_eq_true rfl) (Nat.le_of_ble_eq_true rfl) h (fun r σ hq _ => ?_)
    obtain ⟨x1, I1, rfl, rfl, h⟩ := hq
    change J _ _ _ _ _ _ _ [vI x1] _ _
    refine J_if_eq (tgt := 90) dX7_fact_45 (by decide) (fun c => ?_) (fun c => ?_)
    · replace h := h.1 c
      refine J_aload_n dX7_fact_90 rfl rfl ?_
      refine J_getI dX7_fact_91 ck_7 fw_X7_45 rfl sh_28 ?_
      refine J_bipush dX7_fact_94 (ii_c rfl) (by decide) ?_
      refine J_ic_ne (tgt := 110) dX7_fact_96 (by decide) (fun c => ?_) (fun c => ?_)
      · replace h := h.1 c
        refine J_aload_n dX7_fact_110 rfl rfl ?_
        refine J_iload_n dX7_fact_111 rfl rfl ?_
        refine J_callV (as := [_]) (mc1 := 0) (ms1 := 0) (mc := 0) (ms := 0) dX7_fact_112 mv_X7_sum lk_X7_192 sh_28 rfl (Nat.le_of_ble_eq_true rfl) (Nat.le_of_ble_eq_true rfl) h (fun r σ hq _ => ?_)
        obtain ⟨x2, I2, rfl, rfl, h⟩ := hq
        change J _ _ _ _ _ _ _ [vI x2] _ _
        refine J_if_ne (tgt := 120) dX7_fact_115 (by decide) (fun c => ?_) (fun c => ?_)
        · replace h := h.1 c
          refine J_aload_n dX7_fact_120 rfl rfl ?_
          refine J_bipush dX7_fact_121 (ii_c rfl) (by decide) ?_
          refine J_callV (as := [_]) (mc1 := 0) (ms1 := 0) (mc := 0) (ms := 0) dX7_fact_123 mv_X7_isSign lk_X7_164 sh_28 rfl (Nat.le_of_ble_eq_true rfl) (Nat.le_of_ble_eq_true rfl) h (fun r σ hq _ => ?_)
          obtain ⟨x3, I3, rfl, rfl, h⟩ := hq
          change J _ _ _ _ _ _ _ [vI x3] _ _
          refine J_if_eq (tgt := 134) dX7_fact_126 (by decide) (fun c => ?_) (fun c => ?_)
          · replace h := h.1 c
            refine J_aload_n dX7_fact_134 rfl rfl ?_
            refine J_bipush dX7_fact_135 (ii_c rfl) (by decide) ?_
            refine J_callV (as := [_]) (mc1 := 0) (ms1 := 0) (mc := 0) (ms := 0) dX7_fact_137 mv_X7_isSign lk_X7_164 sh_28 rfl (Nat.le_of_ble_eq_true rfl) (Nat.le_of_ble_eq_true rfl) h (fun r σ hq _ => ?_)
            obtain ⟨x4, I4, rfl, rfl, h⟩ := hq
            change J _ _ _ _ _ _ _ [vI x4] _ _
            refine J_if_eq (tgt := 148) dX7_fact_140 (by decide) (fun c => ?_) (fun c => ?_)
            · replace h := h.1 c
              refine J_aload_n dX7_fact_148 rfl rfl ?_
              refine J_bipush dX7_fact_149 (ii_c rfl) (by decide) ?_
              refine J_callV (as := [_]) (mc1 := 0) (ms1 := 0) (mc := 0) (ms := 0) dX7_fact_151 mv_X7_isSign lk_X7_164 sh_28 rfl (Nat.le_of_ble_eq_true rfl) (Nat.le_of_ble_eq_true rfl) h (fun r σ hq _ => ?_)
              obtain ⟨x5, I5, rfl, rfl, h⟩ := hq
              change J _ _ _ _ _ _ _ [vI x5] _ _
              refine J_if_eq (tgt := 162) dX7_fact_154 (by decide) (fun c => ?_) (fun c => ?_)
              · replace h := h.1 c
                refine J_iconst dX7_fact_162 (ii_c rfl) ?_
                refine J_istore_n dX7_fact_163 rfl (by decide) ?_
                change J _ _ _ _ _ _ [(0, _), (1, _), (2, _)] _ _ _
                refine J_iload_n dX7_fact_164 rfl rfl ?_
                refine J_if_ne (tgt := 178) dX7_fact_165 (by decide) (fun c => absurd rfl c) (fun _ => ?_)
                refine J_aload_n dX7_fact_168 rfl rfl ?_
                refine J_iconst dX7_fact_169 (ii_c rfl) ?_
                refine J_aload_n dX7_fact_170 rfl rfl ?_
                refine J_getI dX7_fact_171 ck_7 fw_X7_79 rfl sh_28 ?_
                refine J_callV (as := [_, _]) (mc1 := 0) (ms1 := 0) (mc := 0) (ms := 0) dX7_fact_174 mv_X7_fail lk_X7_119 sh_28 rfl (Nat.le_of_ble_eq_true rfl) (Nat.le_of_ble_eq_true rfl) h (fun r σ hq _ => ?_)
                obtain ⟨x6, I6, rfl, rfl, h⟩ := hq
                change J _ _ _ _ _ _ _ [vI x6] _ _
                exact J_retz dX7_fact_177 rfl h.1 h.2
              · replace h := h.2 c
                refine J_bipush dX7_fact_157 (ii_c rfl) (by decide) ?_
                refine J_goto (tgt := 163) dX7_fact_159 (by decide) ?_
                refine J_istore_n dX7_fact_163 rfl (by decide) ?_
                change J _ _ _ _ _ _ [(0, _), (1, _), (2, _)] _ _ _
                refine J_iload_n dX7_fact_164 rfl rfl ?_
                refine J_if_ne (tgt := 178) dX7_fact_165 (by decide) (fun _ => ?_) (fun c => absurd c (by decide))
                refine J_aload_n dX7_fact_178 rfl rfl ?_
                refine J_callV (as := []) (mc1 := 0) (ms1 := 0) (mc := 0) (ms := 0) dX7_fact_179 mv_X7_advance lk_X7_62 sh_28 rfl (Nat.le_of_ble_eq_true rfl) (Nat.le_of_ble_eq_true rfl) h (fun r σ hq _ => ?_)
                obtain ⟨I7, rfl, rfl, h⟩ := hq
                change J _ _ _ _ _ _ _ [] _ _
                refine J_aload_n dX7_fact_182 rfl rfl ?_
                refine J_iload_n dX7_fact_183 rfl rfl ?_
                refine J_callV (as := [_]) (mc1 := 0) (ms1 := 0) (mc := 0) (ms := 0) dX7_fact_184 mv_X7_sum lk_X7_192 sh_28 rfl (Nat.le_of_ble_eq_true rfl) (Nat.le_of_ble_eq_true rfl) h (fun r σ hq _ => ?_)
                obtain ⟨x8, I8, rfl, rfl, h⟩ := hq
                change J _ _ _ _ _ _ _ [vI x8] _ _
                refine J_istore_n dX7_fact_187 rfl (by decide) ?_
                change J _ _ _ _ _ _ [(0, _), (1, _), (2, _), (3, _)] _ _ _
                refine J_aload_n dX7_fact_188 rfl rfl ?_
                refine J_iload_n dX7_fact_189 rfl rfl ?_
                refine J_callV (as := [_]) (mc1 := 0) (ms1 := 0) (mc := 0) (ms := 0) dX7_fact_190 mv_X7_emit lk_X7_186 sh_28 rfl (Nat.le_of_ble_eq_true rfl) (Nat.le_of_ble_eq_true rfl) h (fun r σ hq _ => ?_)
                obtain ⟨I9, rfl, rfl, h⟩ := hq
                change J _ _ _ _ _ _ _ [] _ _
                refine J_iload_n dX7_fact_193 rfl rfl ?_
                exact J_retz dX7_fact_194 rfl h.1 h.2
            · replace h := h.2 c
              refine J_bipush dX7_fact_143 (ii_c rfl) (by decide) ?_
              refine J_goto (tgt := 163) dX7_fact_145 (by decide) ?_
              refine J_istore_n dX7_fact_163 rfl (by decide) ?_
              change J _ _ _ _ _ _ [(0, _), (1, _), (2, _)] _ _ _
              refine J_iload_n dX7_fact_164 rfl rfl ?_
              refine J_if_ne (tgt := 178) dX7_fact_165 (by decide) (fun _ => ?_) (fun c => absurd c (by decide))
              refine J_aload_n dX7_fact_178 rfl rfl ?_
              refine J_callV (as := []) (mc1 := 0) (ms1 := 0) (mc := 0) (ms := 0) dX7_fact_179 mv_X7_advance lk_X7_62 sh_28 rfl (Nat.le_of_ble_eq_true rfl) (Nat.le_of_ble_eq_true rfl) h (fun r σ hq _ => ?_)
              obtain ⟨I10, rfl, rfl, h⟩ := hq
              change J _ _ _ _ _ _ _ [] _ _
              refine J_aload_n dX7_fact_182 rfl rfl ?_
              refine J_iload_n dX7_fact_183 rfl rfl ?_
              refine J_callV (as := [_]) (mc1 := 0) (ms1 := 0) (mc := 0) (ms := 0) dX7_fact_184 mv_X7_sum lk_X7_192 sh_28 rfl (Nat.le_of_ble_eq_true rfl) (Nat.le_of_ble_eq_true rfl) h (fun r σ hq _ => ?_)
              obtain ⟨x11, I11, rfl, rfl, h⟩ := hq
              change J _ _ _ _ _ _ _ [vI x11] _ _
              refine J_istore_n dX7_fact_187 rfl (by decide) ?_
              change J _ _ _ _ _ _ [(0, _), (1, _), (2, _), (3, _)] _ _ _
              refine J_aload_n dX7_fact_188 rfl rfl ?_
              refine J_iload_n dX7_fact_189 rfl rfl ?_
              refine J_callV (as := [_]) (mc1 := 0) (ms1 := 0) (mc := 0) (ms := 0) dX7_fact_190 mv_X7_emit lk_X7_186 sh_28 rfl (Nat.le_of_ble_eq_true rfl) (Nat.le_of_ble_eq_true rfl) h (fun r σ hq _ => ?_)
              obtain ⟨I12, rfl, rfl, h⟩ := hq
              change J _ _ _ _ _ _ _ [] _ _
              refine J_iload_n dX7_fact_193 rfl rfl ?_
              exact J_retz dX7_fact_194 rfl h.1 h.2
          · replace h := h.2 c
            refine J_bipush dX7_fact_129 (ii_c rfl) (by decide) ?_
            refine J_goto (tgt := 163) dX7_fact_131 (by decide) ?_
            refine J_istore_n dX7_fact_163 rfl (by decide) ?_
            change J _ _ _ _ _ _ [(0, _), (1, _), (2, _)] _ _ _
            refine J_iload_n dX7_fact_164 rfl rfl ?_
            refine J_if_ne (tgt := 178) dX7_fact_165 (by decide) (fun _ => ?_) (fun c => absurd c (by decide))
            refine J_aload_n dX7_fact_178 rfl rfl ?_
            refine J_callV (as := []) (mc1 := 0) (ms1 := 0) (mc := 0) (ms := 0) dX7_fact_179 mv_X7_advance lk_X7_62 sh_28 rfl (Nat.le_of_ble_eq_true rfl) (Nat.le_of_ble_eq_true rfl) h (fun r σ hq _ => ?_)
            obtain ⟨I13, rfl, rfl, h⟩ := hq
            change J _ _ _ _ _ _ _ [] _ _
            refine J_aload_n dX7_fact_182 rfl rfl ?_
            refine J_iload_n dX7_fact_183 rfl rfl ?_
            refine J_callV (as := [_]) (mc1 := 0) (ms1 := 0) (mc := 0) (ms := 0) dX7_fact_184 mv_X7_sum lk_X7_192 sh_28 rfl (Nat.le_of_ble_eq_true rfl) (Nat.le_of_ble_eq_true rfl) h (fun r σ hq _ => ?_)
            obtain ⟨x14, I14, rfl, rfl, h⟩ := hq
            change J _ _ _ _ _ _ _ [vI x14] _ _
            refine J_istore_n dX7_fact_187 rfl (by decide) ?_
            change J _ _ _ _ _ _ [(0, _), (1, _), (2, _), (3, _)] _ _ _
            refine J_aload_n dX7_fact_188 rfl rfl ?_
            refine J_iload_n dX7_fact_189 rfl rfl ?_
            refine J_callV (as := [_]) (mc1 := 0) (ms1 := 0) (mc := 0) (ms := 0) dX7_fact_190 mv_X7_emit lk_X7_186 sh_28 rfl (Nat.le_of_ble_eq_true rfl) (Nat.le_of_ble_eq_true rfl) h (fun r σ hq _ => ?_)
            obtain ⟨I15, rfl, rfl, h⟩ := hq
            change J _ _ _ _ _ _ _ [] _ _
            refine J_iload_n dX7_fact_193 rfl rfl ?_
            exact J_retz dX7_fact_194 rfl h.1 h.2
        · replace h := h.2 c
          refine J_iconst dX7_fact_118 (ii_c rfl) ?_
          exact J_retz dX7_fact_119 rfl (Or.inl rfl) h
      · replace h := h.2 c
        refine J_aload_n dX7_fact_99 rfl rfl ?_
        refine J_iconst dX7_fact_100 (ii_c rfl) ?_
        refine J_callV (as := [_]) (mc1 := 0) (ms1 := 0) (mc := 0) (ms := 0) dX7_fact_101 mv_X7_emit lk_X7_186 sh_28 rfl (Nat.le_of_ble_eq_true rfl) (Nat.le_of_ble_eq_true rfl) h (fun r σ hq _ => ?_)
        obtain ⟨I16, rfl, rfl, h⟩ := hq
        change J _ _ _ _ _ _ _ [] _ _
        refine J_aload_n dX7_fact_104 rfl rfl ?_
        refine J_callV (as := []) (mc1 := 0) (ms1 := 0) (mc := 0) (ms := 0) dX7_fact_105 mv_X7_advance lk_X7_62 sh_28 rfl (Nat.le_of_ble_eq_true rfl) (Nat.le_of_ble_eq_true rfl) h (fun r σ hq _ => ?_)
        obtain ⟨I17, rfl, rfl, h⟩ := hq
        change J _ _ _ _ _ _ _ [] _ _
        refine J_iconst dX7_fact_108 (ii_c rfl) ?_
        exact J_retz dX7_fact_109 rfl (Or.inr rfl) h
    · replace h := h.2 c
      refine J_aload_n dX7_fact_48 rfl rfl ?_
      refine J_iload_n dX7_fact_49 rfl rfl ?_
      refine J_callV (as := [_]) (mc1 := 0) (ms1 := 0) (mc := 0) (ms := 0) dX7_fact_50 mv_X7_roomIn lk_X7_189 sh_28 rfl (Nat.le_of_ble_eq_true rfl) (Nat.le_of_ble_eq_true rfl) h (fun r σ hq _ => ?_)
      obtain ⟨x18, I18, rfl, rfl, h⟩ := hq
      change J _ _ _ _ _ _ _ [vI x18] _ _
      refine J_if_eq (tgt := 88) dX7_fact_53 (by decide) (fun c => ?_) (fun c => ?_)
      · replace h := h.1 c
        refine J_iconst dX7_fact_88 (ii_c rfl) ?_
        exact J_retz dX7_fact_89 rfl (Or.inl rfl) h
      · replace h := h.2 c
        refine J_aload_n dX7_fact_56 rfl rfl ?_
        refine J_bipush dX7_fact_57 (ii_c rfl) (by decide) ?_
        refine J_callV (as := [_]) (mc1 := 0) (ms1 := 0) (mc := 0) (ms := 0) dX7_fact_59 mv_X7_sign lk_X7_122 sh_28 rfl (Nat.le_of_ble_eq_true rfl) (Nat.le_of_ble_eq_true rfl) h (fun r σ hq _ => ?_)
        obtain ⟨x19, I19, rfl, rfl, h⟩ := hq
        change J _ _ _ _ _ _ _ [vI x19] _ _
        refine J_if_eq (tgt := 88) dX7_fact_62 (by decide) (fun c => ?_) (fun c => ?_)
        · replace h := h.1 c
          refine J_iconst dX7_fact_88 (ii_c rfl) ?_
          exact J_retz dX7_fact_89 rfl (Or.inl rfl) h
        · replace h := h.2 c
          refine J_aload_n dX7_fact_65 rfl rfl ?_
          refine J_iload_n dX7_fact_66 rfl rfl ?_
          refine J_iconst dX7_fact_67 (ii_c rfl) ?_
          refine J_iaddN dX7_fact_68 h.1 ?_
          replace h := h.2
          refine J_callV (as := [_]) (mc1 := 0) (ms1 := 0) (mc := 0) (ms := 0) dX7_fact_69 mv_X7_test lk_X7_103 sh_28 rfl (Nat.le_of_ble_eq_true rfl) (Nat.le_of_ble_eq_true rfl) h (fun r σ hq _ => ?_)
          obtain ⟨x20, I20, rfl, rfl, h⟩ := hq
          change J _ _ _ _ _ _ _ [vI x20] _ _
          refine J_if_eq (tgt := 88) dX7_fact_72 (by decide) (fun c => ?_) (fun c => ?_)
          · replace h := h.1 c
            refine J_iconst dX7_fact_88 (ii_c rfl) ?_
            exact J_retz dX7_fact_89 rfl (Or.inl rfl) h
          · replace h := h.2 c
            refine J_aload_n dX7_fact_75 rfl rfl ?_
            refine J_bipush dX7_fact_76 (ii_c rfl) (by decide) ?_
            refine J_callV (as := [_]) (mc1 := 0) (ms1 := 0) (mc := 0) (ms := 0) dX7_fact_78 mv_X7_sign lk_X7_122 sh_28 rfl (Nat.le_of_ble_eq_true rfl) (Nat.le_of_ble_eq_true rfl) h (fun r σ hq _ => ?_)
            obtain ⟨x21, I21, rfl, rfl, h⟩ := hq
            change J _ _ _ _ _ _ _ [vI x21] _ _
            refine J_if_eq (tgt := 88) dX7_fact_81 (by decide) (fun c => ?_) (fun c => ?_)
            · replace h := h.1 c
              refine J_iconst dX7_fact_88 (ii_c rfl) ?_
              exact J_retz dX7_fact_89 rfl (Or.inl rfl) h
            · replace h := h.2 c
              refine J_iconst dX7_fact_84 (ii_c rfl) ?_
              refine J_goto (tgt := 89) dX7_fact_85 (by decide) ?_
              exact J_retz dX7_fact_89 rfl (Or.inr rfl) h
  · replace h := h.2 c
    refine J_aload_n dX7_fact_9 rfl rfl ?_
    refine J_iload_n dX7_fact_10 rfl rfl ?_
    refine J_callV (as := [_]) (mc1 := 0) (ms1 := 0) (mc := 0) (ms := 0) dX7_fact_11 mv_X7_roomIn lk_X7_189 sh_28 rfl (Nat.le_of_ble_eq_true rfl) (Nat.le_of_ble_eq_true rfl) h (fun r σ hq _ => ?_)
    obtain ⟨x22, I22, rfl, rfl, h⟩ := hq
    change J _ _ _ _ _ _ _ [vI x22] _ _
    refine J_if_ne (tgt := 19) dX7_fact_14 (by decide) (fun c => ?_) (fun c => ?_)
    · replace h := h.1 c
      refine J_aload_n dX7_fact_19 rfl rfl ?_
      refine J_callV (as := []) (mc1 := 0) (ms1 := 0) (mc := 0) (ms := 0) dX7_fact_20 mv_X7_advance lk_X7_62 sh_28 rfl (Nat.le_of_ble_eq_true rfl) (Nat.le_of_ble_eq_true rfl) h (fun r σ hq _ => ?_)
      obtain ⟨I23, rfl, rfl, h⟩ := hq
      change J _ _ _ _ _ _ _ [] _ _
      refine J_aload_n dX7_fact_23 rfl rfl ?_
      refine J_iload_n dX7_fact_24 rfl rfl ?_
      refine J_iconst dX7_fact_25 (ii_c rfl) ?_
      refine J_iaddN dX7_fact_26 h.1 ?_
      replace h := h.2
      refine J_callV (as := [_]) (mc1 := 0) (ms1 := 0) (mc := 0) (ms := 0) dX7_fact_27 mv_X7_fact lk_X7_183 sh_28 rfl (Nat.le_of_ble_eq_true rfl) (Nat.le_of_ble_eq_true rfl) h (fun r σ hq _ => ?_)
      obtain ⟨x24, I24, rfl, rfl, h⟩ := hq
      change J _ _ _ _ _ _ _ [vI x24] _ _
      refine J_istore_n dX7_fact_30 rfl (by decide) ?_
      change J _ _ _ _ _ _ [(0, _), (1, _), (2, _)] _ _ _
      refine J_aload_n dX7_fact_31 rfl rfl ?_
      refine J_bipush dX7_fact_32 (ii_c rfl) (by decide) ?_
      refine J_callV (as := [_]) (mc1 := 0) (ms1 := 0) (mc := 0) (ms := 0) dX7_fact_34 mv_X7_emit lk_X7_186 sh_28 rfl (Nat.le_of_ble_eq_true rfl) (Nat.le_of_ble_eq_true rfl) h (fun r σ hq _ => ?_)
      obtain ⟨I25, rfl, rfl, h⟩ := hq
      change J _ _ _ _ _ _ _ [] _ _
      refine J_iload_n dX7_fact_37 rfl rfl ?_
      exact J_retz dX7_fact_38 rfl h.1 h.2
    · replace h := h.2 c
      refine J_iconst dX7_fact_17 (ii_c rfl) ?_
      exact J_retz dX7_fact_18 rfl (Or.inl rfl) h
set_option maxRecDepth 20000 in
set_option maxHeartbeats 2000000 in
theorem bk_X7_roomIn_0 {d : Nat} {I : HI} {Q : Option AV → AH → Prop} {a1 : Int}  (h : ((a1 < 6 → Q (some (vI 1)) (mk I)) ∧ (¬ (a1 < 6) → CI mX7_fail d [vR 28, vI 4, vI (I 28 6)] I (fun x1 I1 => ((x1 = 0 → Q (some (vI 0)) (mk I1)) ∧ (¬ (x1 = 0) → Q (some (vI 1)) (mk I1))))))) : J none mX7_roomIn (d + 1) 0 0 0 [(0, vR 28), (1, vI a1)] [] (mk I) Q := by
  refine J_iload_n dX7_roomIn_0 rfl rfl ?_
  refine J_bipush dX7_roomIn_1 (ii_c rfl) (by decide) ?_
  refine J_ic_lt (tgt := 18) dX7_roomIn_3 (by decide) (fun c => ?_) (fun c => ?_)
  · replace h := h.1 c
    refine J_iconst dX7_roomIn_18 (ii_c rfl) ?_
    refine J_goto (tgt := 23) dX7_roomIn_19 (by decide) ?_
    exact J_retz dX7_roomIn_23 rfl (Or.inr rfl) h
  · replace h := h.2 c
    refine J_aload_n dX7_roomIn_6 rfl rfl ?_
    refine J_iconst dX7_roomIn_7 (ii_c rfl) ?_
    refine J_aload_n dX7_roomIn_8 rfl rfl ?_
    refine J_getI dX7_roomIn_9 ck_7 fw_X7_79 rfl sh_28 ?_
    refine J_callV (as := [_, _]) (mc1 := 0) (ms1 := 0) (mc := 0) (ms := 0) dX7_roomIn_12 mv_X7_fail lk_X7_119 sh_28 rfl (Nat.le_of_ble_eq_true rfl) (Nat.le_of_ble_eq_true rfl) h (fun r σ hq _ => ?_)
    obtain ⟨x1, I1, rfl, rfl, h⟩ := hq
    change J _ _ _ _ _ _ _ [vI x1] _ _
    refine J_if_eq (tgt := 22) dX7_roomIn_15 (by decide) (fun c => ?_) (fun c => ?_)
    · replace h := h.1 c
      refine J_iconst dX7_roomIn_22 (ii_c rfl) ?_
      exact J_retz dX7_roomIn_23 rfl (Or.inl rfl) h
    · replace h := h.2 c
      refine J_iconst dX7_roomIn_18 (ii_c rfl) ?_
      refine J_goto (tgt := 23) dX7_roomIn_19 (by decide) ?_
      exact J_retz dX7_roomIn_23 rfl (Or.inr rfl) h
set_option maxRecDepth 20000 in
set_option maxHeartbeats 2000000 in
theorem bk_X7_sum_0 {d : Nat} {I : HI} {Q : Option AV → AH → Prop} {a1 : Int}  (h : J none mX7_sum (d + 1) 0 0 7 [(0, vR 28), (1, vI a1), (2, vI 0), (3, vI 0), (4, vI 0)] [] (mk I) Q) : J none mX7_sum (d + 1) 0 0 0 [(0, vR 28), (1, vI a1)] [] (mk I) Q := by
  refine J_iconst dX7_sum_0 (ii_c rfl) ?_
  refine J_istore_n dX7_sum_1 rfl (by decide) ?_
  change J _ _ _ _ _ _ [(0, _), (1, _), (2, _)] _ _ _
  refine J_iconst dX7_sum_2 (ii_c rfl) ?_
  refine J_istore_n dX7_sum_3 rfl (by decide) ?_
  change J _ _ _ _ _ _ [(0, _), (1, _), (2, _), (3, _)] _ _ _
  refine J_iconst dX7_sum_4 (ii_c rfl) ?_
  refine J_istore dX7_sum_5 (by decide) ?_
  change J _ _ _ _ _ _ [(0, _), (1, _), (2, _), (3, _), (4, _)] _ _ _
  exact h
set_option maxRecDepth 20000 in
set_option maxHeartbeats 2000000 in
theorem bk_X7_sum_7 {d : Nat} {I : HI} {Q : Option AV → AH → Prop} {a1 : Int} {a2 : Int} {a3 : Int} {a4 : Int}  (h : ((1600 ≤ a4 → CI mX7_fail d [vR 28, vI 1, vI (I 28 6)] I (fun x1 I1 => (x1 = 0 ∨ x1 = 1) ∧ Q (some (vI x1)) (mk I1))) ∧ (¬ (1600 ≤ a4) → CI mX7_part d [vR 28, vI a1] I (fun x2 I2 => ((x2 ≠ 0 → ((a2 = 0 → J none mX7_sum (d + 1) 0 0 34 [(0, vR 28), (1, vI a1), (2, vI a2), (3, vI a3), (4, vI a4)] [] (mk I2) Q) ∧ (¬ (a2 = 0) → CV mX7_emit d [vR 28, vI a2] I2 (fun I3 => J none mX7_sum (d + 1) 0 0 34 [(0, vR 28), (1, vI a1), (2, vI a2), (3, vI a3), (4, vI a4)] [] (mk I3) Q)))) ∧ (x2 = 0 → Q (some (vI 0)) (mk I2))))))) : J none mX7_sum (d + 1) 0 0 7 [(0, vR 28), (1, vI a1), (2, vI a2), (3, vI a3), (4, vI a4)] [] (mk I) Q := by
  refine J_iload dX7_sum_7 rfl ?_
  refine J_sipush dX7_sum_9 (ii_c rfl) (by decide) ?_
  refine J_ic_ge (tgt := 123) dX7_sum_12 (by decide) (fun c => ?_) (fun c => ?_)
  · replace h := h.1 c
    refine J_aload_n dX7_sum_123 rfl rfl ?_
    refine J_iconst dX7_sum_124 (ii_c rfl) ?_
    refine J_aload_n dX7_sum_125 rfl rfl ?_
    refine J_getI dX7_sum_126 ck_7 fw_X7_79 rfl sh_28 ?_
    refine J_callV (as := [_, _]) (mc1 := 0) (ms1 := 0) (mc := 0) (ms := 0) dX7_sum_129 mv_X7_fail lk_X7_119 sh_28 rfl (Nat.le_of_ble_eq_true rfl) (Nat.le_of_ble_eq_true rfl) h (fun r σ hq _ => ?_)
    obtain ⟨x1, I1, rfl, rfl, h⟩ := hq
    change J _ _ _ _ _ _ _ [vI x1] _ _
    exact J_retz dX7_sum_132 rfl h.1 h.2
  · replace h := h.2 c
    refine J_aload_n dX7_sum_15 rfl rfl ?_
    refine J_iload_n dX7_sum_16 rfl rfl ?_
    refine J_callV (as := [_]) (mc1 := 0) (ms1 := 0) (mc := 0) (ms := 0) dX7_sum_17 mv_X7_part lk_X7_195 sh_28 rfl (Nat.le_of_ble_eq_true rfl) (Nat.le_of_ble_eq_true rfl) h (fun r σ hq _ => ?_)
    obtain ⟨x2, I2, rfl, rfl, h⟩ := hq
    change J _ _ _ _ _ _ _ [vI x2] _ _
    refine J_if_ne (tgt := 25) dX7_sum_20 (by decide) (fun c => ?_) (fun c => ?_)
    · replace h := h.1 c
      refine J_iload_n dX7_sum_25 rfl rfl ?_
      refine J_if_eq (tgt := 34) dX7_sum_26 (by decide) (fun c => ?_) (fun c => ?_)
      · replace h := h.1 c
        exact h
      · replace h := h.2 c
        refine J_aload_n dX7_sum_29 rfl rfl ?_
        refine J_iload_n dX7_sum_30 rfl rfl ?_
        refine J_callV (as := [_]) (mc1 := 0) (ms1 := 0) (mc := 0) (ms := 0) dX7_sum_31 mv_X7_emit lk_X7_186 sh_28 rfl (Nat.le_of_ble_eq_true rfl) (Nat.le_of_ble_eq_true rfl) h (fun r σ hq _ => ?_)
        obtain ⟨I3, rfl, rfl, h⟩ := hq
        change J _ _ _ _ _ _ _ [] _ _
        exact h
    · replace h := h.2 c
      refine J_iconst dX7_sum_23 (ii_c rfl) ?_
      exact J_retz dX7_sum_24 rfl (Or.inl rfl) h
set_option maxRecDepth 20000 in
set_option maxHeartbeats 2000000 in
theorem bk_X7_sum_34 {d : Nat} {I : HI} {Q : Option AV → AH → Prop} {a1 : Int} {a2 : Int} {a3 : Int} {a4 : Int}  (h : CI mX7_isSign d [vR 28, vI 42] I (fun x1 I1 => ((x1 = 0 → CI mX7_isSign d [vR 28, vI 47] I1 (fun x2 I2 => ((x2 = 0 → ((a3 = 0 → CI mX7_isSign d [vR 28, vI 43] I2 (fun x3 I3 => ((x3 = 0 → CI mX7_isSign d [vR 28, vI 45] I3 (fun x4 I4 => ((x4 = 0 → Q (some (vI 1)) (mk I4)) ∧ (¬ (x4 = 0) → CV mX7_advance d [vR 28] I4 (fun I5 => (-2147483648 ≤ a4 + 1 ∧ a4 + 1 ≤ 2147483647) ∧ J none mX7_sum (d + 1) 0 0 7 [(0, vR 28), (1, vI a1), (2, vI 0), (3, vI (-7)), (4, vI (a4 + 1))] [] (mk I5) Q))))) ∧ (¬ (x3 = 0) → CV mX7_advance d [vR 28] I3 (fun I6 => (-2147483648 ≤ a4 + 1 ∧ a4 + 1 ≤ 2147483647) ∧ J none mX7_sum (d + 1) 0 0 7 [(0, vR 28), (1, vI a1), (2, vI 0), (3, vI (-6)), (4, vI (a4 + 1))] [] (mk I6) Q))))) ∧ (¬ (a3 = 0) → CV mX7_emit d [vR 28, vI a3] I2 (fun I7 => CI mX7_isSign d [vR 28, vI 43] I7 (fun x8 I8 => ((x8 = 0 → CI mX7_isSign d [vR 28, vI 45] I8 (fun x9 I9 => ((x9 = 0 → Q (some (vI 1)) (mk I9)) ∧ (¬ (x9 = 0) → CV mX7_advance d [vR 28] I9 (fun I10 => (-2147483648 ≤ a4 + 1 ∧ a4 + 1 ≤ 2147483647) ∧ J none mX7_sum (d + 1) 0 0 7 [(0, vR 28), (1, vI a1), (2, vI 0), (3, vI (-7)), (4, vI (a4 + 1))] [] (mk I10) Q))))) ∧ (¬ (x8 = 0) → CV mX7_advance d [vR 28] I8 (fun I11 => (-2147483648 ≤ a4 + 1 ∧ a4 + 1 ≤ 2147483647) ∧ J none mX7_sum (d + 1) 0 0 7 [(0, vR 28), (1, vI a1), (2, vI 0), (3, vI (-6)), (4, vI (a4 + 1))] [] (mk I11) Q)))))))) ∧ (¬ (x2 = 0) → CV mX7_advance d [vR 28] I2 (fun I12 => (-2147483648 ≤ a4 + 1 ∧ a4 + 1 ≤ 2147483647) ∧ J none mX7_sum (d + 1) 0 0 7 [(0, vR 28), (1, vI a1), (2, vI (-9)), (3, vI a3), (4, vI (a4 + 1))] [] (mk I12) Q))))) ∧ (¬ (x1 = 0) → CV mX7_advance d [vR 28] I1 (fun I13 => (-2147483648 ≤ a4 + 1 ∧ a4 + 1 ≤ 2147483647) ∧ J none mX7_sum (d + 1) 0 0 7 [(0, vR 28), (1, vI a1), (2, vI (-8)), (3, vI a3), (4, vI (a4 + 1))] [] (mk I13) Q))))) : J none mX7_sum (d + 1) 0 0 34 [(0, vR 28), (1, vI a1), (2, vI a2), (3, vI a3), (4, vI a4)] [] (mk I) Q := by
  refine J_aload_n dX7_sum_34 rfl rfl ?_
  refine J_bipush dX7_sum_35 (ii_c rfl) (by decide) ?_
  refine J_callV (as := [_]) (mc1 := 0) (ms1 := 0) (mc := 0) (ms := 0) dX7_sum_37 mv_X7_isSign lk_X7_164 sh_28 rfl (Nat.le_of_ble_eq_true rfl) (Nat.le_of_ble_eq_true rfl) h (fun r σ hq _ => ?_)
  obtain ⟨x1, I1, rfl, rfl, h⟩ := hq
  change J _ _ _ _ _ _ _ [vI x1] _ _
  refine J_if_eq (tgt := 48) dX7_sum_40 (by decide) (fun c => ?_) (fun c => ?_)
  · replace h := h.1 c
    refine J_aload_n dX7_sum_48 rfl rfl ?_
    refine J_bipush dX7_sum_49 (ii_c rfl) (by decide) ?_
    refine J_callV (as := [_]) (mc1 := 0) (ms1 := 0) (mc := 0) (ms := 0) dX7_sum_51 mv_X7_isSign lk_X7_164 sh_28 rfl (Nat.le_of_ble_eq_true rfl) (Nat.le_of_ble_eq_true rfl) h (fun r σ hq _ => ?_)
    obtain ⟨x2, I2, rfl, rfl, h⟩ := hq
    change J _ _ _ _ _ _ _ [vI x2] _ _
    refine J_if_eq (tgt := 62) dX7_sum_54 (by decide) (fun c => ?_) (fun c => ?_)
    · replace h := h.1 c
      refine J_iconst dX7_sum_62 (ii_c rfl) ?_
      refine J_istore_n dX7_sum_63 rfl (by decide) ?_
      change J _ _ _ _ _ _ [(0, _), (1, _), (2, _), (3, _), (4, _)] _ _ _
      refine J_iload_n dX7_sum_64 rfl rfl ?_
      refine J_if_ne (tgt := 113) dX7_sum_65 (by decide) (fun c => absurd rfl c) (fun _ => ?_)
      refine J_iload_n dX7_sum_68 rfl rfl ?_
      refine J_if_eq (tgt := 77) dX7_sum_69 (by decide) (fun c => ?_) (fun c => ?_)
      · replace h := h.1 c
        refine J_aload_n dX7_sum_77 rfl rfl ?_
        refine J_bipush dX7_sum_78 (ii_c rfl) (by decide) ?_
        refine J_callV (as := [_]) (mc1 := 0) (ms1 := 0) (mc := 0) (ms := 0) dX7_sum_80 mv_X7_isSign lk_X7_164 sh_28 rfl (Nat.le_of_ble_eq_true rfl) (Nat.le_of_ble_eq_true rfl) h (fun r σ hq _ => ?_)
        obtain ⟨x3, I3, rfl, rfl, h⟩ := hq
        change J _ _ _ _ _ _ _ [vI x3] _ _
        refine J_if_eq (tgt := 91) dX7_sum_83 (by decide) (fun c => ?_) (fun c => ?_)
        · replace h := h.1 c
          refine J_aload_n dX7_sum_91 rfl rfl ?_
          refine J_bipush dX7_sum_92 (ii_c rfl) (by decide) ?_
          refine J_callV (as := [_]) (mc1 := 0) (ms1 := 0) (mc := 0) (ms := 0) dX7_sum_94 mv_X7_isSign lk_X7_164 sh_28 rfl (Nat.le_of_ble_eq_true rfl) (Nat.le_of_ble_eq_true rfl) h (fun r σ hq _ => ?_)
          obtain ⟨x4, I4, rfl, rfl, h⟩ := hq
          change J _ _ _ _ _ _ _ [vI x4] _ _
          refine J_if_eq (tgt := 105) dX7_sum_97 (by decide) (fun c => ?_) (fun c => ?_)
          · replace h := h.1 c
            refine J_iconst dX7_sum_105 (ii_c rfl) ?_
            refine J_istore_n dX7_sum_106 rfl (by decide) ?_
            change J _ _ _ _ _ _ [(0, _), (1, _), (2, _), (3, _), (4, _)] _ _ _
            refine J_iload_n dX7_sum_107 rfl rfl ?_
            refine J_if_ne (tgt := 113) dX7_sum_108 (by decide) (fun c => absurd rfl c) (fun _ => ?_)
            refine J_iconst dX7_sum_111 (ii_c rfl) ?_
            exact J_retz dX7_sum_112 rfl (Or.inr rfl) h
          · replace h := h.2 c
            refine J_bipush dX7_sum_100 (ii_c rfl) (by decide) ?_
            refine J_goto (tgt := 106) dX7_sum_102 (by decide) ?_
            refine J_istore_n dX7_sum_106 rfl (by decide) ?_
            change J _ _ _ _ _ _ [(0, _), (1, _), (2, _), (3, _), (4, _)] _ _ _
            refine J_iload_n dX7_sum_107 rfl rfl ?_
            refine J_if_ne (tgt := 113) dX7_sum_108 (by decide) (fun _ => ?_) (fun c => absurd c (by decide))
            refine J_aload_n dX7_sum_113 rfl rfl ?_
            refine J_callV (as := []) (mc1 := 0) (ms1 := 0) (mc := 0) (ms := 0) dX7_sum_114 mv_X7_advance lk_X7_62 sh_28 rfl (Nat.le_of_ble_eq_true rfl) (Nat.le_of_ble_eq_true rfl) h (fun r σ hq _ => ?_)
            obtain ⟨I5, rfl, rfl, h⟩ := hq
            change J _ _ _ _ _ _ _ [] _ _
            refine J_iincN dX7_sum_117 rfl (by decide) h.1 ?_
            replace h := h.2
            change J _ _ _ _ _ _ [(0, _), (1, _), (2, _), (3, _), (4, _)] _ _ _
            refine J_goto (tgt := 7) dX7_sum_120 (by decide) ?_
            exact h
        · replace h := h.2 c
          refine J_bipush dX7_sum_86 (ii_c rfl) (by decide) ?_
          refine J_goto (tgt := 106) dX7_sum_88 (by decide) ?_
          refine J_istore_n dX7_sum_106 rfl (by decide) ?_
          change J _ _ _ _ _ _ [(0, _), (1, _), (2, _), (3, _), (4, _)] _ _ _
          refine J_iload_n dX7_sum_107 rfl rfl ?_
          refine J_if_ne (tgt := 113) dX7_sum_108 (by decide) (fun _ => ?_) (fun c => absurd c (by decide))
          refine J_aload_n dX7_sum_113 rfl rfl ?_
          refine J_callV (as := []) (mc1 := 0) (ms1 := 0) (mc := 0) (ms := 0) dX7_sum_114 mv_X7_advance lk_X7_62 sh_28 rfl (Nat.le_of_ble_eq_true rfl) (Nat.le_of_ble_eq_true rfl) h (fun r σ hq _ => ?_)
          obtain ⟨I6, rfl, rfl, h⟩ := hq
          change J _ _ _ _ _ _ _ [] _ _
          refine J_iincN dX7_sum_117 rfl (by decide) h.1 ?_
          replace h := h.2
          change J _ _ _ _ _ _ [(0, _), (1, _), (2, _), (3, _), (4, _)] _ _ _
          refine J_goto (tgt := 7) dX7_sum_120 (by decide) ?_
          exact h
      · replace h := h.2 c
        refine J_aload_n dX7_sum_72 rfl rfl ?_
        refine J_iload_n dX7_sum_73 rfl rfl ?_
        refine J_callV (as := [_]) (mc1 := 0) (ms1 := 0) (mc := 0) (ms := 0) dX7_sum_74 mv_X7_emit lk_X7_186 sh_28 rfl (Nat.le_of_ble_eq_true rfl) (Nat.le_of_ble_eq_true rfl) h (fun r σ hq _ => ?_)
        obtain ⟨I7, rfl, rfl, h⟩ := hq
        change J _ _ _ _ _ _ _ [] _ _
        refine J_aload_n dX7_sum_77 rfl rfl ?_
        refine J_bipush dX7_sum_78 (ii_c rfl) (by decide) ?_
        refine J_callV (as := [_]) (mc1 := 0) (ms1 := 0) (mc := 0) (ms := 0) dX7_sum_80 mv_X7_isSign lk_X7_164 sh_28 rfl (Nat.le_of_ble_eq_true rfl) (Nat.le_of_ble_eq_true rfl) h (fun r σ hq _ => ?_)
        obtain ⟨x8, I8, rfl, rfl, h⟩ := hq
        change J _ _ _ _ _ _ _ [vI x8] _ _
        refine J_if_eq (tgt := 91) dX7_sum_83 (by decide) (fun c => ?_) (fun c => ?_)
        · replace h := h.1 c
          refine J_aload_n dX7_sum_91 rfl rfl ?_
          refine J_bipush dX7_sum_92 (ii_c rfl) (by decide) ?_
          refine J_callV (as := [_]) (mc1 := 0) (ms1 := 0) (mc := 0) (ms := 0) dX7_sum_94 mv_X7_isSign lk_X7_164 sh_28 rfl (Nat.le_of_ble_eq_true rfl) (Nat.le_of_ble_eq_true rfl) h (fun r σ hq _ => ?_)
          obtain ⟨x9, I9, rfl, rfl, h⟩ := hq
          change J _ _ _ _ _ _ _ [vI x9] _ _
          refine J_if_eq (tgt := 105) dX7_sum_97 (by decide) (fun c => ?_) (fun c => ?_)
          · replace h := h.1 c
            refine J_iconst dX7_sum_105 (ii_c rfl) ?_
            refine J_istore_n dX7_sum_106 rfl (by decide) ?_
            change J _ _ _ _ _ _ [(0, _), (1, _), (2, _), (3, _), (4, _)] _ _ _
            refine J_iload_n dX7_sum_107 rfl rfl ?_
            refine J_if_ne (tgt := 113) dX7_sum_108 (by decide) (fun c => absurd rfl c) (fun _ => ?_)
            refine J_iconst dX7_sum_111 (ii_c rfl) ?_
            exact J_retz dX7_sum_112 rfl (Or.inr rfl) h
          · replace h := h.2 c
            refine J_bipush dX7_sum_100 (ii_c rfl) (by decide) ?_
            refine J_goto (tgt := 106) dX7_sum_102 (by decide) ?_
            refine J_istore_n dX7_sum_106 rfl (by decide) ?_
            change J _ _ _ _ _ _ [(0, _), (1, _), (2, _), (3, _), (4, _)] _ _ _
            refine J_iload_n dX7_sum_107 rfl rfl ?_
            refine J_if_ne (tgt := 113) dX7_sum_108 (by decide) (fun _ => ?_) (fun c => absurd c (by decide))
            refine J_aload_n dX7_sum_113 rfl rfl ?_
            refine J_callV (as := []) (mc1 := 0) (ms1 := 0) (mc := 0) (ms := 0) dX7_sum_114 mv_X7_advance lk_X7_62 sh_28 rfl (Nat.le_of_ble_eq_true rfl) (Nat.le_of_ble_eq_true rfl) h (fun r σ hq _ => ?_)
            obtain ⟨I10, rfl, rfl, h⟩ := hq
            change J _ _ _ _ _ _ _ [] _ _
            refine J_iincN dX7_sum_117 rfl (by decide) h.1 ?_
            replace h := h.2
            change J _ _ _ _ _ _ [(0, _), (1, _), (2, _), (3, _), (4, _)] _ _ _
            refine J_goto (tgt := 7) dX7_sum_120 (by decide) ?_
            exact h
        · replace h := h.2 c
          refine J_bipush dX7_sum_86 (ii_c rfl) (by decide) ?_
          refine J_goto (tgt := 106) dX7_sum_88 (by decide) ?_
          refine J_istore_n dX7_sum_106 rfl (by decide) ?_
          change J _ _ _ _ _ _ [(0, _), (1, _), (2, _), (3, _), (4, _)] _ _ _
          refine J_iload_n dX7_sum_107 rfl rfl ?_
          refine J_if_ne (tgt := 113) dX7_sum_108 (by decide) (fun _ => ?_) (fun c => absurd c (by decide))
          refine J_aload_n dX7_sum_113 rfl rfl ?_
          refine J_callV (as := []) (mc1 := 0) (ms1 := 0) (mc := 0) (ms := 0) dX7_sum_114 mv_X7_advance lk_X7_62 sh_28 rfl (Nat.le_of_ble_eq_true rfl) (Nat.le_of_ble_eq_true rfl) h (fun r σ hq _ => ?_)
          obtain ⟨I11, rfl, rfl, h⟩ := hq
          change J _ _ _ _ _ _ _ [] _ _
          refine J_iincN dX7_sum_117 rfl (by decide) h.1 ?_
          replace h := h.2
          change J _ _ _ _ _ _ [(0, _), (1, _), (2, _), (3, _), (4, _)] _ _ _
          refine J_goto (tgt := 7) dX7_sum_120 (by decide) ?_
          exact h
    · replace h := h.2 c
      refine J_bipush dX7_sum_57 (ii_c rfl) (by decide) ?_
      refine J_goto (tgt := 63) dX7_sum_59 (by decide) ?_
      refine J_istore_n dX7_sum_63 rfl (by decide) ?_
      change J _ _ _ _ _ _ [(0, _), (1, _), (2, _), (3, _), (4, _)] _ _ _
      refine J_iload_n dX7_sum_64 rfl rfl ?_
      refine J_if_ne (tgt := 113) dX7_sum_65 (by decide) (fun _ => ?_) (fun c => absurd c (by decide))
      refine J_aload_n dX7_sum_113 rfl rfl ?_
      refine J_callV (as := []) (mc1 := 0) (ms1 := 0) (mc := 0) (ms := 0) dX7_sum_114 mv_X7_advance lk_X7_62 sh_28 rfl (Nat.le_of_ble_eq_true rfl) (Nat.le_of_ble_eq_true rfl) h (fun r σ hq _ => ?_)
      obtain ⟨I12, rfl, rfl, h⟩ := hq
      change J _ _ _ _ _ _ _ [] _ _
      refine J_iincN dX7_sum_117 rfl (by decide) h.1 ?_
      replace h := h.2
      change J _ _ _ _ _ _ [(0, _), (1, _), (2, _), (3, _), (4, _)] _ _ _
      refine J_goto (tgt := 7) dX7_sum_120 (by decide) ?_
      exact h
  · replace h := h.2 c
    refine J_bipush dX7_sum_43 (ii_c rfl) (by decide) ?_
    refine J_goto (tgt := 63) dX7_sum_45 (by decide) ?_
    refine J_istore_n dX7_sum_63 rfl (by decide) ?_
    change J _ _ _ _ _ _ [(0, _), (1, _), (2, _), (3, _), (4, _)] _ _ _
    refine J_iload_n dX7_sum_64 rfl rfl ?_
    refine J_if_ne (tgt := 113) dX7_sum_65 (by decide) (fun _ => ?_) (fun c => absurd c (by decide))
    refine J_aload_n dX7_sum_113 rfl rfl ?_
    refine J_callV (as := []) (mc1 := 0) (ms1 := 0) (mc := 0) (ms := 0) dX7_sum_114 mv_X7_advance lk_X7_62 sh_28 rfl (Nat.le_of_ble_eq_true rfl) (Nat.le_of_ble_eq_true rfl) h (fun r σ hq _ => ?_)
    obtain ⟨I13, rfl, rfl, h⟩ := hq
    change J _ _ _ _ _ _ _ [] _ _
    refine J_iincN dX7_sum_117 rfl (by decide) h.1 ?_
    replace h := h.2
    change J _ _ _ _ _ _ [(0, _), (1, _), (2, _), (3, _), (4, _)] _ _ _
    refine J_goto (tgt := 7) dX7_sum_120 (by decide) ?_
    exact h
