set_option maxRecDepth 20000 in
set_option maxHeartbeats 2000000 in
theorem bk_X7_part_0 {d : Nat} {I : HI} {Q : Option AV → AH → Prop} {a1 : Int}  (h : CI mX7_isSign d [vR 28, vI 40] I (fun x1 I1 => ((x1 = 0 → (((I1 28 8) < 20 → (((I1 28 8) = 25 → J none mX7_part (d + 1) 0 0 106 [(0, vR 28), (1, vI a1)] [] (mk I1) Q) ∧ (¬ ((I1 28 8) = 25) → (((I1 28 8) ≠ 26 → CI mX7_number d [vR 28, vI 0, vI 9999] I1 (fun x2 I2 => CV mX7_emit d [vR 28, vI (I2 28 10)] I2 (fun I3 => (x2 = 0 ∨ x2 = 1) ∧ Q (some (vI x2)) (mk I3)))) ∧ ((I1 28 8) = 26 → J none mX7_part (d + 1) 0 0 106 [(0, vR 28), (1, vI a1)] [] (mk I1) Q))))) ∧ (¬ ((I1 28 8) < 20) → ((24 < (I1 28 8) → (((I1 28 8) = 25 → J none mX7_part (d + 1) 0 0 106 [(0, vR 28), (1, vI a1)] [] (mk I1) Q) ∧ (¬ ((I1 28 8) = 25) → (((I1 28 8) ≠ 26 → CI mX7_number d [vR 28, vI 0, vI 9999] I1 (fun x4 I4 => CV mX7_emit d [vR 28, vI (I4 28 10)] I4 (fun I5 => (x4 = 0 ∨ x4 = 1) ∧ Q (some (vI x4)) (mk I5)))) ∧ ((I1 28 8) = 26 → J none mX7_part (d + 1) 0 0 106 [(0, vR 28), (1, vI a1)] [] (mk I1) Q))))) ∧ (¬ (24 < (I1 28 8)) → (-2147483648 ≤ (I1 28 8) - 20 ∧ (I1 28 8) - 20 ≤ 2147483647) ∧ (-2147483648 ≤ (-1) - ((I1 28 8) - 20) ∧ (-1) - ((I1 28 8) - 20) ≤ 2147483647) ∧ CV mX7_emit d [vR 28, vI ((-1) - ((I1 28 8) - 20))] I1 (fun I6 => CV mX7_advance d [vR 28] I6 (fun I7 => Q (some (vI 1)) (mk I7)))))))) ∧ (¬ (x1 = 0) → CI mX7_roomIn d [vR 28, vI a1] I1 (fun x8 I8 => ((x8 = 0 → Q (some (vI 0)) (mk I8)) ∧ (¬ (x8 = 0) → CI mX7_sign d [vR 28, vI 40] I8 (fun x9 I9 => ((x9 = 0 → Q (some (vI 0)) (mk I9)) ∧ (¬ (x9 = 0) → (-2147483648 ≤ a1 + 1 ∧ a1 + 1 ≤ 2147483647) ∧ CI mX7_sum d [vR 28, vI (a1 + 1)] I9 (fun x10 I10 => ((x10 = 0 → Q (some (vI 0)) (mk I10)) ∧ (¬ (x10 = 0) → CI mX7_sign d [vR 28, vI 41] I10 (fun x11 I11 => ((x11 = 0 → Q (some (vI 0)) (mk I11)) ∧ (¬ (x11 = 0) → Q (some (vI 1)) (mk I11))))))))))))))))) : J none mX7_part (d + 1) 0 0 0 [(0, vR 28), (1, vI a1)] [] (mk I) Q := by
  refine J_aload_n dX7_part_0 rfl rfl ?_
  refine J_bipush dX7_part_1 (ii_c rfl) (by decide) ?_
  refine J_callV (as := [_]) (mc1 := 0) (ms1 := 0) (mc := 0) (ms := 0) dX7_part_3 mv_X7_isSign lk_X7_164 sh_28 rfl (Nat.le_of_ble_eq_true rfl) (Nat.le_of_ble_eq_true rfl) h (fun r σ hq _ => ?_)
  obtain ⟨x1, I1, rfl, rfl, h⟩ := hq
  change J _ _ _ _ _ _ _ [vI x1] _ _
  refine J_if_eq (tgt := 51) dX7_part_6 (by decide) (fun c => ?_) (fun c => ?_)
  · replace h := h.1 c
    refine J_aload_n dX7_part_51 rfl rfl ?_
    refine J_getI dX7_part_52 ck_7 fw_X7_45 rfl sh_28 ?_
    refine J_bipush dX7_part_55 (ii_c rfl) (by decide) ?_
    refine J_ic_lt (tgt := 88) dX7_part_57 (by decide) (fun c => ?_) (fun c => ?_)
    · replace h := h.1 c
      refine J_aload_n dX7_part_88 rfl rfl ?_
      refine J_getI dX7_part_89 ck_7 fw_X7_45 rfl sh_28 ?_
      refine J_bipush dX7_part_92 (ii_c rfl) (by decide) ?_
      refine J_ic_eq (tgt := 106) dX7_part_94 (by decide) (fun c => ?_) (fun c => ?_)
      · replace h := h.1 c
        exact h
      · replace h := h.2 c
        refine J_aload_n dX7_part_97 rfl rfl ?_
        refine J_getI dX7_part_98 ck_7 fw_X7_45 rfl sh_28 ?_
        refine J_bipush dX7_part_101 (ii_c rfl) (by decide) ?_
        refine J_ic_ne (tgt := 228) dX7_part_103 (by decide) (fun c => ?_) (fun c => ?_)
        · replace h := h.1 c
          refine J_aload_n dX7_part_228 rfl rfl ?_
          refine J_iconst dX7_part_229 (ii_c rfl) ?_
          refine J_sipush dX7_part_230 (ii_c rfl) (by decide) ?_
          refine J_callV (as := [_, _]) (mc1 := 0) (ms1 := 0) (mc := 0) (ms := 0) dX7_part_233 mv_X7_number lk_X7_110 sh_28 rfl (Nat.le_of_ble_eq_true rfl) (Nat.le_of_ble_eq_true rfl) h (fun r σ hq _ => ?_)
          obtain ⟨x2, I2, rfl, rfl, h⟩ := hq
          change J _ _ _ _ _ _ _ [vI x2] _ _
          refine J_istore_n dX7_part_236 rfl (by decide) ?_
          change J _ _ _ _ _ _ [(0, _), (1, _), (2, _)] _ _ _
          refine J_aload_n dX7_part_237 rfl rfl ?_
          refine J_aload_n dX7_part_238 rfl rfl ?_
          refine J_getI dX7_part_239 ck_7 fw_X7_113 rfl sh_28 ?_
          refine J_callV (as := [_]) (mc1 := 0) (ms1 := 0) (mc := 0) (ms := 0) dX7_part_242 mv_X7_emit lk_X7_186 sh_28 rfl (Nat.le_of_ble_eq_true rfl) (Nat.le_of_ble_eq_true rfl) h (fun r σ hq _ => ?_)
          obtain ⟨I3, rfl, rfl, h⟩ := hq
          change J _ _ _ _ _ _ _ [] _ _
          refine J_iload_n dX7_part_245 rfl rfl ?_
          exact J_retz dX7_part_246 rfl h.1 h.2
        · replace h := h.2 c
          exact h
    · replace h := h.2 c
      refine J_aload_n dX7_part_60 rfl rfl ?_
      refine J_getI dX7_part_61 ck_7 fw_X7_45 rfl sh_28 ?_
      refine J_bipush dX7_part_64 (ii_c rfl) (by decide) ?_
      refine J_ic_gt (tgt := 88) dX7_part_66 (by decide) (fun c => ?_) (fun c => ?_)
      · replace h := h.1 c
        refine J_aload_n dX7_part_88 rfl rfl ?_
        refine J_getI dX7_part_89 ck_7 fw_X7_45 rfl sh_28 ?_
        refine J_bipush dX7_part_92 (ii_c rfl) (by decide) ?_
        refine J_ic_eq (tgt := 106) dX7_part_94 (by decide) (fun c => ?_) (fun c => ?_)
        · replace h := h.1 c
          exact h
        · replace h := h.2 c
          refine J_aload_n dX7_part_97 rfl rfl ?_
          refine J_getI dX7_part_98 ck_7 fw_X7_45 rfl sh_28 ?_
          refine J_bipush dX7_part_101 (ii_c rfl) (by decide) ?_
          refine J_ic_ne (tgt := 228) dX7_part_103 (by decide) (fun c => ?_) (fun c => ?_)
          · replace h := h.1 c
            refine J_aload_n dX7_part_228 rfl rfl ?_
            refine J_iconst dX7_part_229 (ii_c rfl) ?_
            refine J_sipush dX7_part_230 (ii_c rfl) (by decide) ?_
            refine J_callV (as := [_, _]) (mc1 := 0) (ms1 := 0) (mc := 0) (ms := 0) dX7_part_233 mv_X7_number lk_X7_110 sh_28 rfl (Nat.le_of_ble_eq_true rfl) (Nat.le_of_ble_eq_true rfl) h (fun r σ hq _ => ?_)
            obtain ⟨x4, I4, rfl, rfl, h⟩ := hq
            change J _ _ _ _ _ _ _ [vI x4] _ _
            refine J_istore_n dX7_part_236 rfl (by decide) ?_
            change J _ _ _ _ _ _ [(0, _), (1, _), (2, _)] _ _ _
            refine J_aload_n dX7_part_237 rfl rfl ?_
            refine J_aload_n dX7_part_238 rfl rfl ?_
            refine J_getI dX7_part_239 ck_7 fw_X7_113 rfl sh_28 ?_
            refine J_callV (as := [_]) (mc1 := 0) (ms1 := 0) (mc := 0) (ms := 0) dX7_part_242 mv_X7_emit lk_X7_186 sh_28 rfl (Nat.le_of_ble_eq_true rfl) (Nat.le_of_ble_eq_true rfl) h (fun r σ hq _ => ?_)
            obtain ⟨I5, rfl, rfl, h⟩ := hq
            change J _ _ _ _ _ _ _ [] _ _
            refine J_iload_n dX7_part_245 rfl rfl ?_
            exact J_retz dX7_part_246 rfl h.1 h.2
          · replace h := h.2 c
            exact h
      · replace h := h.2 c
        refine J_aload_n dX7_part_69 rfl rfl ?_
        refine J_iconst dX7_part_70 (ii_c rfl) ?_
        refine J_aload_n dX7_part_71 rfl rfl ?_
        refine J_getI dX7_part_72 ck_7 fw_X7_45 rfl sh_28 ?_
        refine J_bipush dX7_part_75 (ii_c rfl) (by decide) ?_
        refine J_isubN dX7_part_77 h.1 ?_
        replace h := h.2
        refine J_isubN dX7_part_78 h.1 ?_
        replace h := h.2
        refine J_callV (as := [_]) (mc1 := 0) (ms1 := 0) (mc := 0) (ms := 0) dX7_part_79 mv_X7_emit lk_X7_186 sh_28 rfl (Nat.le_of_ble_eq_true rfl) (Nat.le_of_ble_eq_true rfl) h (fun r σ hq _ => ?_)
        obtain ⟨I6, rfl, rfl, h⟩ := hq
        change J _ _ _ _ _ _ _ [] _ _
        refine J_aload_n dX7_part_82 rfl rfl ?_
        refine J_callV (as := []) (mc1 := 0) (ms1 := 0) (mc := 0) (ms := 0) dX7_part_83 mv_X7_advance lk_X7_62 sh_28 rfl (Nat.le_of_ble_eq_true rfl) (Nat.le_of_ble_eq_true rfl) h (fun r σ hq _ => ?_)
        obtain ⟨I7, rfl, rfl, h⟩ := hq
        change J _ _ _ _ _ _ _ [] _ _
        refine J_iconst dX7_part_86 (ii_c rfl) ?_
        exact J_retz dX7_part_87 rfl (Or.inr rfl) h
  · replace h := h.2 c
    refine J_aload_n dX7_part_9 rfl rfl ?_
    refine J_iload_n dX7_part_10 rfl rfl ?_
    refine J_callV (as := [_]) (mc1 := 0) (ms1 := 0) (mc := 0) (ms := 0) dX7_part_11 mv_X7_roomIn lk_X7_189 sh_28 rfl (Nat.le_of_ble_eq_true rfl) (Nat.le_of_ble_eq_true rfl) h (fun r σ hq _ => ?_)
    obtain ⟨x8, I8, rfl, rfl, h⟩ := hq
    change J _ _ _ _ _ _ _ [vI x8] _ _
    refine J_if_eq (tgt := 49) dX7_part_14 (by decide) (fun c => ?_) (fun c => ?_)
    · replace h := h.1 c
      refine J_iconst dX7_part_49 (ii_c rfl) ?_
      exact J_retz dX7_part_50 rfl (Or.inl rfl) h
    · replace h := h.2 c
      refine J_aload_n dX7_part_17 rfl rfl ?_
      refine J_bipush dX7_part_18 (ii_c rfl) (by decide) ?_
      refine J_callV (as := [_]) (mc1 := 0) (ms1 := 0) (mc := 0) (ms := 0) dX7_part_20 mv_X7_sign lk_X7_122 sh_28 rfl (Nat.le_of_ble_eq_true rfl) (Nat.le_of_ble_eq_true rfl) h (fun r σ hq _ => ?_)
      obtain ⟨x9, I9, rfl, rfl, h⟩ := hq
      change J _ _ _ _ _ _ _ [vI x9] _ _
      refine J_if_eq (tgt := 49) dX7_part_23 (by decide) (fun c => ?_) (fun c => ?_)
      · replace h := h.1 c
        refine J_iconst dX7_part_49 (ii_c rfl) ?_
        exact J_retz dX7_part_50 rfl (Or.inl rfl) h
      · replace h := h.2 c
        refine J_aload_n dX7_part_26 rfl rfl ?_
        refine J_iload_n dX7_part_27 rfl rfl ?_
        refine J_iconst dX7_part_28 (ii_c rfl) ?_
        refine J_iaddN dX7_part_29 h.1 ?_
        replace h := h.2
        refine J_callV (as := [_]) (mc1 := 0) (ms1 := 0) (mc := 0) (ms := 0) dX7_part_30 mv_X7_sum lk_X7_192 sh_28 rfl (Nat.le_of_ble_eq_true rfl) (Nat.le_of_ble_eq_true rfl) h (fun r σ hq _ => ?_)
        obtain ⟨x10, I10, rfl, rfl, h⟩ := hq
        change J _ _ _ _ _ _ _ [vI x10] _ _
        refine J_if_eq (tgt := 49) dX7_part_33 (by decide) (fun c => ?_) (fun c => ?_)
        · replace h := h.1 c
          refine J_iconst dX7_part_49 (ii_c rfl) ?_
          exact J_retz dX7_part_50 rfl (Or.inl rfl) h
        · replace h := h.2 c
          refine J_aload_n dX7_part_36 rfl rfl ?_
          refine J_bipush dX7_part_37 (ii_c rfl) (by decide) ?_
          refine J_callV (as := [_]) (mc1 := 0) (ms1 := 0) (mc := 0) (ms := 0) dX7_part_39 mv_X7_sign lk_X7_122 sh_28 rfl (Nat.le_of_ble_eq_true rfl) (Nat.le_of_ble_eq_true rfl) h (fun r σ hq _ => ?_)
          obtain ⟨x11, I11, rfl, rfl, h⟩ := hq
          change J _ _ _ _ _ _ _ [vI x11] _ _
          refine J_if_eq (tgt := 49) dX7_part_42 (by decide) (fun c => ?_) (fun c => ?_)
          · replace h := h.1 c
            refine J_iconst dX7_part_49 (ii_c rfl) ?_
            exact J_retz dX7_part_50 rfl (Or.inl rfl) h
          · replace h := h.2 c
            refine J_iconst dX7_part_45 (ii_c rfl) ?_
            refine J_goto (tgt := 50) dX7_part_46 (by decide) ?_
            exact J_retz dX7_part_50 rfl (Or.inr rfl) h
set_option maxRecDepth 20000 in
set_option maxHeartbeats 2000000 in
theorem bk_X7_part_106 {d : Nat} {I : HI} {Q : Option AV → AH → Prop} {a1 : Int}  (h : (((I 28 8) ≠ 25 → CV mX7_advance d [vR 28] I (fun I1 => CI mX7_isSign d [vR 28, vI 40] I1 (fun x2 I2 => ((x2 = 0 → CI mX7_fail d [vR 28, vI 1, vI (I2 28 6)] I2 (fun x3 I3 => ((x3 = 0 → CV mX7_emit d [vR 28, vI (-11)] I3 (fun I4 => Q (some (vI 0)) (mk I4))) ∧ (¬ (x3 = 0) → (-2147483648 ≤ a1 + 1 ∧ a1 + 1 ≤ 2147483647) ∧ CI mX7_sum d [vR 28, vI (a1 + 1)] I3 (fun x5 I5 => ((x5 = 0 → CV mX7_emit d [vR 28, vI (-11)] I5 (fun I6 => Q (some (vI 0)) (mk I6))) ∧ (¬ (x5 = 0) → CI mX7_sign d [vR 28, vI 44] I5 (fun x7 I7 => ((x7 = 0 → CV mX7_emit d [vR 28, vI (-11)] I7 (fun I8 => Q (some (vI 0)) (mk I8))) ∧ (¬ (x7 = 0) → (-2147483648 ≤ a1 + 1 ∧ a1 + 1 ≤ 2147483647) ∧ CI mX7_sum d [vR 28, vI (a1 + 1)] I7 (fun x9 I9 => ((x9 = 0 → CV mX7_emit d [vR 28, vI (-11)] I9 (fun I10 => Q (some (vI 0)) (mk I10))) ∧ (¬ (x9 = 0) → CI mX7_sign d [vR 28, vI 41] I9 (fun x11 I11 => ((x11 = 0 → CV mX7_emit d [vR 28, vI (-11)] I11 (fun I12 => Q (some (vI 0)) (mk I12))) ∧ (¬ (x11 = 0) → CV mX7_emit d [vR 28, vI (-11)] I11 (fun I13 => Q (some (vI 1)) (mk I13)))))))))))))))))) ∧ (¬ (x2 = 0) → CI mX7_roomIn d [vR 28, vI a1] I2 (fun x14 I14 => ((x14 = 0 → J none mX7_part (d + 1) 0 0 157 [(0, vR 28), (1, vI a1), (2, vI (-11))] [] (mk I14) Q) ∧ (¬ (x14 = 0) → CI mX7_sign d [vR 28, vI 40] I14 (fun x15 I15 => ((x15 = 0 → J none mX7_part (d + 1) 0 0 157 [(0, vR 28), (1, vI a1), (2, vI (-11))] [] (mk I15) Q) ∧ (¬ (x15 = 0) → (-2147483648 ≤ a1 + 1 ∧ a1 + 1 ≤ 2147483647) ∧ CI mX7_sum d [vR 28, vI (a1 + 1)] I15 (fun x16 I16 => ((x16 = 0 → CV mX7_emit d [vR 28, vI (-11)] I16 (fun I17 => Q (some (vI 0)) (mk I17))) ∧ (¬ (x16 = 0) → CI mX7_sign d [vR 28, vI 44] I16 (fun x18 I18 => ((x18 = 0 → CV mX7_emit d [vR 28, vI (-11)] I18 (fun I19 => Q (some (vI 0)) (mk I19))) ∧ (¬ (x18 = 0) → (-2147483648 ≤ a1 + 1 ∧ a1 + 1 ≤ 2147483647) ∧ CI mX7_sum d [vR 28, vI (a1 + 1)] I18 (fun x20 I20 => ((x20 = 0 → CV mX7_emit d [vR 28, vI (-11)] I20 (fun I21 => Q (some (vI 0)) (mk I21))) ∧ (¬ (x20 = 0) → CI mX7_sign d [vR 28, vI 41] I20 (fun x22 I22 => ((x22 = 0 → CV mX7_emit d [vR 28, vI (-11)] I22 (fun I23 => Q (some (vI 0)) (mk I23))) ∧ (¬ (x22 = 0) → CV mX7_emit d [vR 28, vI (-11)] I22 (fun I24 => Q (some (vI 1)) (mk I24))))))))))))))))))))))))) ∧ ((I 28 8) = 25 → CV mX7_advance d [vR 28] I (fun I25 => CI mX7_isSign d [vR 28, vI 40] I25 (fun x26 I26 => ((x26 = 0 → CI mX7_fail d [vR 28, vI 1, vI (I26 28 6)] I26 (fun x27 I27 => ((x27 = 0 → CV mX7_emit d [vR 28, vI (-10)] I27 (fun I28 => Q (some (vI 0)) (mk I28))) ∧ (¬ (x27 = 0) → (-2147483648 ≤ a1 + 1 ∧ a1 + 1 ≤ 2147483647) ∧ CI mX7_sum d [vR 28, vI (a1 + 1)] I27 (fun x29 I29 => ((x29 = 0 → CV mX7_emit d [vR 28, vI (-10)] I29 (fun I30 => Q (some (vI 0)) (mk I30))) ∧ (¬ (x29 = 0) → CI mX7_sign d [vR 28, vI 44] I29 (fun x31 I31 => ((x31 = 0 → CV mX7_emit d [vR 28, vI (-10)] I31 (fun I32 => Q (some (vI 0)) (mk I32))) ∧ (¬ (x31 = 0) → (-2147483648 ≤ a1 + 1 ∧ a1 + 1 ≤ 2147483647) ∧ CI mX7_sum d [vR 28, vI (a1 + 1)] I31 (fun x33 I33 => ((x33 = 0 → CV mX7_emit d [vR 28, vI (-10)] I33 (fun I34 => Q (some (vI 0)) (mk I34))) ∧ (¬ (x33 = 0) → CI mX7_sign d [vR 28, vI 41] I33 (fun x35 I35 => ((x35 = 0 → CV mX7_emit d [vR 28, vI (-10)] I35 (fun I36 => Q (some (vI 0)) (mk I36))) ∧ (¬ (x35 = 0) → CV mX7_emit d [vR 28, vI (-10)] I35 (fun I37 => Q (some (vI 1)) (mk I37)))))))))))))))))) ∧ (¬ (x26 = 0) → CI mX7_roomIn d [vR 28, vI a1] I26 (fun x38 I38 => ((x38 = 0 → J none mX7_part (d + 1) 0 0 157 [(0, vR 28), (1, vI a1), (2, vI (-10))] [] (mk I38) Q) ∧ (¬ (x38 = 0) → CI mX7_sign d [vR 28, vI 40] I38 (fun x39 I39 => ((x39 = 0 → J none mX7_part (d + 1) 0 0 157 [(0, vR 28), (1, vI a1), (2, vI (-10))] [] (mk I39) Q) ∧ (¬ (x39 = 0) → (-2147483648 ≤ a1 + 1 ∧ a1 + 1 ≤ 2147483647) ∧ CI mX7_sum d [vR 28, vI (a1 + 1)] I39 (fun x40 I40 => ((x40 = 0 → CV mX7_emit d [vR 28, vI (-10)] I40 (fun I41 => Q (some (vI 0)) (mk I41))) ∧ (¬ (x40 = 0) → CI mX7_sign d [vR 28, vI 44] I40 (fun x42 I42 => ((x42 = 0 → CV mX7_emit d [vR 28, vI (-10)] I42 (fun I43 => Q (some (vI 0)) (mk I43))) ∧ (¬ (x42 = 0) → (-2147483648 ≤ a1 + 1 ∧ a1 + 1 ≤ 2147483647) ∧ CI mX7_sum d [vR 28, vI (a1 + 1)] I42 (fun x44 I44 => ((x44 = 0 → CV mX7_emit d [vR 28, vI (-10)] I44 (fun I45 => Q (some (vI 0)) (mk I45))) ∧ (¬ (x44 = 0) → CI mX7_sign d [vR 28, vI 41] I44 (fun x46 I46 => ((x46 = 0 → CV mX7_emit d [vR 28, vI (-10)] I46 (fun I47 => Q (some (vI 0)) (mk I47))) ∧ (¬ (x46 = 0) → CV mX7_emit d [vR 28, vI (-10)] I46 (fun I48 => Q (some (vI 1)) (mk I48))))))))))))))))))))))))))) : J none mX7_part (d + 1) 0 0 106 [(0, vR 28), (1, vI a1)] [] (mk I) Q := by
  refine J_aload_n dX7_part_106 rfl rfl ?_
  refine J_getI dX7_part_107 ck_7 fw_X7_45 rfl sh_28 ?_
  refine J_bipush dX7_part_110 (ii_c rfl) (by decide) ?_
  refine J_ic_ne (tgt := 120) dX7_part_112 (by decide) (fun c => ?_) (fun c => ?_)
  · replace h := h.1 c
    refine J_bipush dX7_part_120 (ii_c rfl) (by decide) ?_
    refine J_istore_n dX7_part_122 rfl (by decide) ?_
    change J _ _ _ _ _ _ [(0, _), (1, _), (2, _)] _ _ _
    refine J_aload_n dX7_part_123 rfl rfl ?_
    refine J_callV (as := []) (mc1 := 0) (ms1 := 0) (mc := 0) (ms := 0) dX7_part_124 mv_X7_advance lk_X7_62 sh_28 rfl (Nat.le_of_ble_eq_true rfl) (Nat.le_of_ble_eq_true rfl) h (fun r σ hq _ => ?_)
    obtain ⟨I1, rfl, rfl, h⟩ := hq
    change J _ _ _ _ _ _ _ [] _ _
    refine J_aload_n dX7_part_127 rfl rfl ?_
    refine J_bipush dX7_part_128 (ii_c rfl) (by decide) ?_
    refine J_callV (as := [_]) (mc1 := 0) (ms1 := 0) (mc := 0) (ms := 0) dX7_part_130 mv_X7_isSign lk_X7_164 sh_28 rfl (Nat.le_of_ble_eq_true rfl) (Nat.le_of_ble_eq_true rfl) h (fun r σ hq _ => ?_)
    obtain ⟨x2, I2, rfl, rfl, h⟩ := hq
    change J _ _ _ _ _ _ _ [vI x2] _ _
    refine J_if_eq (tgt := 161) dX7_part_133 (by decide) (fun c => ?_) (fun c => ?_)
    · replace h := h.1 c
      refine J_aload_n dX7_part_161 rfl rfl ?_
      refine J_iconst dX7_part_162 (ii_c rfl) ?_
      refine J_aload_n dX7_part_163 rfl rfl ?_
      refine J_getI dX7_part_164 ck_7 fw_X7_79 rfl sh_28 ?_
      refine J_callV (as := [_, _]) (mc1 := 0) (ms1 := 0) (mc := 0) (ms := 0) dX7_part_167 mv_X7_fail lk_X7_119 sh_28 rfl (Nat.le_of_ble_eq_true rfl) (Nat.le_of_ble_eq_true rfl) h (fun r σ hq _ => ?_)
      obtain ⟨x3, I3, rfl, rfl, h⟩ := hq
      change J _ _ _ _ _ _ _ [vI x3] _ _
      refine J_istore_n dX7_part_170 rfl (by decide) ?_
      change J _ _ _ _ _ _ [(0, _), (1, _), (2, _), (3, _)] _ _ _
      refine J_iload_n dX7_part_171 rfl rfl ?_
      refine J_if_eq (tgt := 217) dX7_part_172 (by decide) (fun c => ?_) (fun c => ?_)
      · replace h := h.1 c
        refine J_iconst dX7_part_217 (ii_c rfl) ?_
        refine J_istore dX7_part_218 (by decide) ?_
        change J _ _ _ _ _ _ [(0, _), (1, _), (2, _), (3, _), (4, _)] _ _ _
        refine J_aload_n dX7_part_220 rfl rfl ?_
        refine J_iload_n dX7_part_221 rfl rfl ?_
        refine J_callV (as := [_]) (mc1 := 0) (ms1 := 0) (mc := 0) (ms := 0) dX7_part_222 mv_X7_emit lk_X7_186 sh_28 rfl (Nat.le_of_ble_eq_true rfl) (Nat.le_of_ble_eq_true rfl) h (fun r σ hq _ => ?_)
        obtain ⟨I4, rfl, rfl, h⟩ := hq
        change J _ _ _ _ _ _ _ [] _ _
        refine J_iload dX7_part_225 rfl ?_
        exact J_retz dX7_part_227 rfl (Or.inl rfl) h
      · replace h := h.2 c
        refine J_aload_n dX7_part_175 rfl rfl ?_
        refine J_iload_n dX7_part_176 rfl rfl ?_
        refine J_iconst dX7_part_177 (ii_c rfl) ?_
        refine J_iaddN dX7_part_178 h.1 ?_
        replace h := h.2
        refine J_callV (as := [_]) (mc1 := 0) (ms1 := 0) (mc := 0) (ms := 0) dX7_part_179 mv_X7_sum lk_X7_192 sh_28 rfl (Nat.le_of_ble_eq_true rfl) (Nat.le_of_ble_eq_true rfl) h (fun r σ hq _ => ?_)
        obtain ⟨x5, I5, rfl, rfl, h⟩ := hq
        change J _ _ _ _ _ _ _ [vI x5] _ _
        refine J_if_eq (tgt := 217) dX7_part_182 (by decide) (fun c => ?_) (fun c => ?_)
        · replace h := h.1 c
          refine J_iconst dX7_part_217 (ii_c rfl) ?_
          refine J_istore dX7_part_218 (by decide) ?_
          change J _ _ _ _ _ _ [(0, _), (1, _), (2, _), (3, _), (4, _)] _ _ _
          refine J_aload_n dX7_part_220 rfl rfl ?_
          refine J_iload_n dX7_part_221 rfl rfl ?_
          refine J_callV (as := [_]) (mc1 := 0) (ms1 := 0) (mc := 0) (ms := 0) dX7_part_222 mv_X7_emit lk_X7_186 sh_28 rfl (Nat.le_of_ble_eq_true rfl) (Nat.le_of_ble_eq_true rfl) h (fun r σ hq _ => ?_)
          obtain ⟨I6, rfl, rfl, h⟩ := hq
          change J _ _ _ _ _ _ _ [] _ _
          refine J_iload dX7_part_225 rfl ?_
          exact J_retz dX7_part_227 rfl (Or.inl rfl) h
        · replace h := h.2 c
          refine J_aload_n dX7_part_185 rfl rfl ?_
          refine J_bipush dX7_part_186 (ii_c rfl) (by decide) ?_
          refine J_callV (as := [_]) (mc1 := 0) (ms1 := 0) (mc := 0) (ms := 0) dX7_part_188 mv_X7_sign lk_X7_122 sh_28 rfl (Nat.le_of_ble_eq_true rfl) (Nat.le_of_ble_eq_true rfl) h (fun r σ hq _ => ?_)
          obtain ⟨x7, I7, rfl, rfl, h⟩ := hq
          change J _ _ _ _ _ _ _ [vI x7] _ _
          refine J_if_eq (tgt := 217) dX7_part_191 (by decide) (fun c => ?_) (fun c => ?_)
          · replace h := h.1 c
            refine J_iconst dX7_part_217 (ii_c rfl) ?_
            refine J_istore dX7_part_218 (by decide) ?_
            change J _ _ _ _ _ _ [(0, _), (1, _), (2, _), (3, _), (4, _)] _ _ _
            refine J_aload_n dX7_part_220 rfl rfl ?_
            refine J_iload_n dX7_part_221 rfl rfl ?_
            refine J_callV (as := [_]) (mc1 := 0) (ms1 := 0) (mc := 0) (ms := 0) dX7_part_222 mv_X7_emit lk_X7_186 sh_28 rfl (Nat.le_of_ble_eq_true rfl) (Nat.le_of_ble_eq_true rfl) h (fun r σ hq _ => ?_)
            obtain ⟨I8, rfl, rfl, h⟩ := hq
            change J _ _ _ _ _ _ _ [] _ _
            refine J_iload dX7_part_225 rfl ?_
            exact J_retz dX7_part_227 rfl (Or.inl rfl) h
          · replace h := h.2 c
            refine J_aload_n dX7_part_194 rfl rfl ?_
            refine J_iload_n dX7_part_195 rfl rfl ?_
            refine J_iconst dX7_part_196 (ii_c rfl) ?_
            refine J_iaddN dX7_part_197 h.1 ?_
            replace h := h.2
            refine J_callV (as := [_]) (mc1 := 0) (ms1 := 0) (mc := 0) (ms := 0) dX7_part_198 mv_X7_sum lk_X7_192 sh_28 rfl (Nat.le_of_ble_eq_true rfl) (Nat.le_of_ble_eq_true rfl) h (fun r σ hq _ => ?_)
            obtain ⟨x9, I9, rfl, rfl, h⟩ := hq
            change J _ _ _ _ _ _ _ [vI x9] _ _
            refine J_if_eq (tgt := 217) dX7_part_201 (by decide) (fun c => ?_) (fun c => ?_)
            · replace h := h.1 c
              refine J_iconst dX7_part_217 (ii_c rfl) ?_
              refine J_istore dX7_part_218 (by decide) ?_
              change J _ _ _ _ _ _ [(0, _), (1, _), (2, _), (3, _), (4, _)] _ _ _
              refine J_aload_n dX7_part_220 rfl rfl ?_
              refine J_iload_n dX7_part_221 rfl rfl ?_
              refine J_callV (as := [_]) (mc1 := 0) (ms1 := 0) (mc := 0) (ms := 0) dX7_part_222 mv_X7_emit lk_X7_186 sh_28 rfl (Nat.le_of_ble_eq_true rfl) (Nat.le_of_ble_eq_true rfl) h (fun r σ hq _ => ?_)
              obtain ⟨I10, rfl, rfl, h⟩ := hq
              change J _ _ _ _ _ _ _ [] _ _
              refine J_iload dX7_part_225 rfl ?_
              exact J_retz dX7_part_227 rfl (Or.inl rfl) h
            · replace h := h.2 c
              refine J_aload_n dX7_part_204 rfl rfl ?_
              refine J_bipush dX7_part_205 (ii_c rfl) (by decide) ?_
              refine J_callV (as := [_]) (mc1 := 0) (ms1 := 0) (mc := 0) (ms := 0) dX7_part_207 mv_X7_sign lk_X7_122 sh_28 rfl (Nat.le_of_ble_eq_true rfl) (Nat.le_of_ble_eq_true rfl) h (fun r σ hq _ => ?_)
              obtain ⟨x11, I11, rfl, rfl, h⟩ := hq
              change J _ _ _ _ _ _ _ [vI x11] _ _
              refine J_if_eq (tgt := 217) dX7_part_210 (by decide) (fun c => ?_) (fun c => ?_)
              · replace h := h.1 c
                refine J_iconst dX7_part_217 (ii_c rfl) ?_
                refine J_istore dX7_part_218 (by decide) ?_
                change J _ _ _ _ _ _ [(0, _), (1, _), (2, _), (3, _), (4, _)] _ _ _
                refine J_aload_n dX7_part_220 rfl rfl ?_
                refine J_iload_n dX7_part_221 rfl rfl ?_
                refine J_callV (as := [_]) (mc1 := 0) (ms1 := 0) (mc := 0) (ms := 0) dX7_part_222 mv_X7_emit lk_X7_186 sh_28 rfl (Nat.le_of_ble_eq_true rfl) (Nat.le_of_ble_eq_true rfl) h (fun r σ hq _ => ?_)
                obtain ⟨I12, rfl, rfl, h⟩ := hq
                change J _ _ _ _ _ _ _ [] _ _
                refine J_iload dX7_part_225 rfl ?_
                exact J_retz dX7_part_227 rfl (Or.inl rfl) h
              · replace h := h.2 c
                refine J_iconst dX7_part_213 (ii_c rfl) ?_
                refine J_goto (tgt := 218) dX7_part_214 (by decide) ?_
                refine J_istore dX7_part_218 (by decide) ?_
                change J _ _ _ _ _ _ [(0, _), (1, _), (2, _), (3, _), (4, _)] _ _ _
                refine J_aload_n dX7_part_220 rfl rfl ?_
                refine J_iload_n dX7_part_221 rfl rfl ?_
                refine J_callV (as := [_]) (mc1 := 0) (ms1 := 0) (mc := 0) (ms := 0) dX7_part_222 mv_X7_emit lk_X7_186 sh_28 rfl (Nat.le_of_ble_eq_true rfl) (Nat.le_of_ble_eq_true rfl) h (fun r σ hq _ => ?_)
                obtain ⟨I13, rfl, rfl, h⟩ := hq
                change J _ _ _ _ _ _ _ [] _ _
                refine J_iload dX7_part_225 rfl ?_
                exact J_retz dX7_part_227 rfl (Or.inr rfl) h
    · replace h := h.2 c
      refine J_aload_n dX7_part_136 rfl rfl ?_
      refine J_iload_n dX7_part_137 rfl rfl ?_
      refine J_callV (as := [_]) (mc1 := 0) (ms1 := 0) (mc := 0) (ms := 0) dX7_part_138 mv_X7_roomIn lk_X7_189 sh_28 rfl (Nat.le_of_ble_eq_true rfl) (Nat.le_of_ble_eq_true rfl) h (fun r σ hq _ => ?_)
      obtain ⟨x14, I14, rfl, rfl, h⟩ := hq
      change J _ _ _ _ _ _ _ [vI x14] _ _
      refine J_if_eq (tgt := 157) dX7_part_141 (by decide) (fun c => ?_) (fun c => ?_)
      · replace h := h.1 c
        exact h
      · replace h := h.2 c
        refine J_aload_n dX7_part_144 rfl rfl ?_
        refine J_bipush dX7_part_145 (ii_c rfl) (by decide) ?_
        refine J_callV (as := [_]) (mc1 := 0) (ms1 := 0) (mc := 0) (ms := 0) dX7_part_147 mv_X7_sign lk_X7_122 sh_28 rfl (Nat.le_of_ble_eq_true rfl) (Nat.le_of_ble_eq_true rfl) h (fun r σ hq _ => ?_)
        obtain ⟨x15, I15, rfl, rfl, h⟩ := hq
        change J _ _ _ _ _ _ _ [vI x15] _ _
        refine J_if_eq (tgt := 157) dX7_part_150 (by decide) (fun c => ?_) (fun c => ?_)
        · replace h := h.1 c
          exact h
        · replace h := h.2 c
          refine J_iconst dX7_part_153 (ii_c rfl) ?_
          refine J_goto (tgt := 170) dX7_part_154 (by decide) ?_
          refine J_istore_n dX7_part_170 rfl (by decide) ?_
          change J _ _ _ _ _ _ [(0, _), (1, _), (2, _), (3, _)] _ _ _
          refine J_iload_n dX7_part_171 rfl rfl ?_
          refine J_if_eq (tgt := 217) dX7_part_172 (by decide) (fun c => absurd c (by decide)) (fun _ => ?_)
          refine J_aload_n dX7_part_175 rfl rfl ?_
          refine J_iload_n dX7_part_176 rfl rfl ?_
          refine J_iconst dX7_part_177 (ii_c rfl) ?_
          refine J_iaddN dX7_part_178 h.1 ?_
          replace h := h.2
          refine J_callV (as := [_]) (mc1 := 0) (ms1 := 0) (mc := 0) (ms := 0) dX7_part_179 mv_X7_sum lk_X7_192 sh_28 rfl (Nat.le_of_ble_eq_true rfl) (Nat.le_of_ble_eq_true rfl) h (fun r σ hq _ => ?_)
          obtain ⟨x16, I16, rfl, rfl, h⟩ := hq
          change J _ _ _ _ _ _ _ [vI x16] _ _
          refine J_if_eq (tgt := 217) dX7_part_182 (by decide) (fun c => ?_) (fun c => ?_)
          · replace h := h.1 c
            refine J_iconst dX7_part_217 (ii_c rfl) ?_
            refine J_istore dX7_part_218 (by decide) ?_
            change J _ _ _ _ _ _ [(0, _), (1, _), (2, _), (3, _), (4, _)] _ _ _
            refine J_aload_n dX7_part_220 rfl rfl ?_
            refine J_iload_n dX7_part_221 rfl rfl ?_
            refine J_callV (as := [_]) (mc1 := 0) (ms1 := 0) (mc := 0) (ms := 0) dX7_part_222 mv_X7_emit lk_X7_186 sh_28 rfl (Nat.le_of_ble_eq_true rfl) (Nat.le_of_ble_eq_true rfl) h (fun r σ hq _ => ?_)
            obtain ⟨I17, rfl, rfl, h⟩ := hq
            change J _ _ _ _ _ _ _ [] _ _
            refine J_iload dX7_part_225 rfl ?_
            exact J_retz dX7_part_227 rfl (Or.inl rfl) h
          · replace h := h.2 c
            refine J_aload_n dX7_part_185 rfl rfl ?_
            refine J_bipush dX7_part_186 (ii_c rfl) (by decide) ?_
            refine J_callV (as := [_]) (mc1 := 0) (ms1 := 0) (mc := 0) (ms := 0) dX7_part_188 mv_X7_sign lk_X7_122 sh_28 rfl (Nat.le_of_ble_eq_true rfl) (Nat.le_of_ble_eq_true rfl) h (fun r σ hq _ => ?_)
            obtain ⟨x18, I18, rfl, rfl, h⟩ := hq
            change J _ _ _ _ _ _ _ [vI x18] _ _
            refine J_if_eq (tgt := 217) dX7_part_191 (by decide) (fun c => ?_) (fun c => ?_)
            · replace h := h.1 c
              refine J_iconst dX7_part_217 (ii_c rfl) ?_
              refine J_istore dX7_part_218 (by decide) ?_
              change J _ _ _ _ _ _ [(0, _), (1, _), (2, _), (3, _), (4, _)] _ _ _
              refine J_aload_n dX7_part_220 rfl rfl ?_
              refine J_iload_n dX7_part_221 rfl rfl ?_
              refine J_callV (as := [_]) (mc1 := 0) (ms1 := 0) (mc := 0) (ms := 0) dX7_part_222 mv_X7_emit lk_X7_186 sh_28 rfl (Nat.le_of_ble_eq_true rfl) (Nat.le_of_ble_eq_true rfl) h (fun r σ hq _ => ?_)
              obtain ⟨I19, rfl, rfl, h⟩ := hq
              change J _ _ _ _ _ _ _ [] _ _
              refine J_iload dX7_part_225 rfl ?_
              exact J_retz dX7_part_227 rfl (Or.inl rfl) h
            · replace h := h.2 c
              refine J_aload_n dX7_part_194 rfl rfl ?_
              refine J_iload_n dX7_part_195 rfl rfl ?_
              refine J_iconst dX7_part_196 (ii_c rfl) ?_
              refine J_iaddN dX7_part_197 h.1 ?_
              replace h := h.2
              refine J_callV (as := [_]) (mc1 := 0) (ms1 := 0) (mc := 0) (ms := 0) dX7_part_198 mv_X7_sum lk_X7_192 sh_28 rfl (Nat.le_of_ble_eq_true rfl) (Nat.le_of_ble_eq_true rfl) h (fun r σ hq _ => ?_)
              obtain ⟨x20, I20, rfl, rfl, h⟩ := hq
              change J _ _ _ _ _ _ _ [vI x20] _ _
              refine J_if_eq (tgt := 217) dX7_part_201 (by decide) (fun c => ?_) (fun c => ?_)
              · replace h := h.1 c
                refine J_iconst dX7_part_217 (ii_c rfl) ?_
                refine J_istore dX7_part_218 (by decide) ?_
                change J _ _ _ _ _ _ [(0, _), (1, _), (2, _), (3, _), (4, _)] _ _ _
                refine J_aload_n dX7_part_220 rfl rfl ?_
                refine J_iload_n dX7_part_221 rfl rfl ?_
                refine J_callV (as := [_]) (mc1 := 0) (ms1 := 0) (mc := 0) (ms := 0) dX7_part_222 mv_X7_emit lk_X7_186 sh_28 rfl (Nat.le_of_ble_eq_true rfl) (Nat.le_of_ble_eq_true rfl) h (fun r σ hq _ => ?_)
                obtain ⟨I21, rfl, rfl, h⟩ := hq
                change J _ _ _ _ _ _ _ [] _ _
                refine J_iload dX7_part_225 rfl ?_
                exact J_retz dX7_part_227 rfl (Or.inl rfl) h
              · replace h := h.2 c
                refine J_aload_n dX7_part_204 rfl rfl ?_
                refine J_bipush dX7_part_205 (ii_c rfl) (by decide) ?_
                refine J_callV (as := [_]) (mc1 := 0) (ms1 := 0) (mc := 0) (ms := 0) dX7_part_207 mv_X7_sign lk_X7_122 sh_28 rfl (Nat.le_of_ble_eq_true rfl) (Nat.le_of_ble_eq_true rfl) h (fun r σ hq _ => ?_)
                obtain ⟨x22, I22, rfl, rfl, h⟩ := hq
                change J _ _ _ _ _ _ _ [vI x22] _ _
                refine J_if_eq (tgt := 217) dX7_part_210 (by decide) (fun c => ?_) (fun c => ?_)
                · replace h := h.1 c
                  refine J_iconst dX7_part_217 (ii_c rfl) ?_
                  refine J_istore dX7_part_218 (by decide) ?_
                  change J _ _ _ _ _ _ [(0, _), (1, _), (2, _), (3, _), (4, _)] _ _ _
                  refine J_aload_n dX7_part_220 rfl rfl ?_
                  refine J_iload_n dX7_part_221 rfl rfl ?_
                  refine J_callV (as := [_]) (mc1 := 0) (ms1 := 0) (mc := 0) (ms := 0) dX7_part_222 mv_X7_emit lk_X7_186 sh_28 rfl (Nat.le_of_ble_eq_true rfl) (Nat.le_of_ble_eq_true rfl) h (fun r σ hq _ => ?_)
                  obtain ⟨I23, rfl, rfl, h⟩ := hq
                  change J _ _ _ _ _ _ _ [] _ _
                  refine J_iload dX7_part_225 rfl ?_
                  exact J_retz dX7_part_227 rfl (Or.inl rfl) h
                · replace h := h.2 c
                  refine J_iconst dX7_part_213 (ii_c rfl) ?_
                  refine J_goto (tgt := 218) dX7_part_214 (by decide) ?_
                  refine J_istore dX7_part_218 (by decide) ?_
                  change J _ _ _ _ _ _ [(0, _), (1, _), (2, _), (3, _), (4, _)] _ _ _
                  refine J_aload_n dX7_part_220 rfl rfl ?_
                  refine J_iload_n dX7_part_221 rfl rfl ?_
                  refine J_callV (as := [_]) (mc1 := 0) (ms1 := 0) (mc := 0) (ms := 0) dX7_part_222 mv_X7_emit lk_X7_186 sh_28 rfl (Nat.le_of_ble_eq_true rfl) (Nat.le_of_ble_eq_true rfl) h (fun r σ hq _ => ?_)
                  obtain ⟨I24, rfl, rfl, h⟩ := hq
                  change J _ _ _ _ _ _ _ [] _ _
                  refine J_iload dX7_part_225 rfl ?_
                  exact J_retz dX7_part_227 rfl (Or.inr rfl) h
  · replace h := h.2 c
    refine J_bipush dX7_part_115 (ii_c rfl) (by decide) ?_
    refine J_goto (tgt := 122) dX7_part_117 (by decide) ?_
    refine J_istore_n dX7_part_122 rfl (by decide) ?_
    change J _ _ _ _ _ _ [(0, _), (1, _), (2, _)] _ _ _
    refine J_aload_n dX7_part_123 rfl rfl ?_
    refine J_callV (as := []) (mc1 := 0) (ms1 := 0) (mc := 0) (ms := 0) dX7_part_124 mv_X7_advance lk_X7_62 sh_28 rfl (Nat.le_of_ble_eq_true rfl) (Nat.le_of_ble_eq_true rfl) h (fun r σ hq _ => ?_)
    obtain ⟨I25, rfl, rfl, h⟩ := hq
    change J _ _ _ _ _ _ _ [] _ _
    refine J_aload_n dX7_part_127 rfl rfl ?_
    refine J_bipush dX7_part_128 (ii_c rfl) (by decide) ?_
    refine J_callV (as := [_]) (mc1 := 0) (ms1 := 0) (mc := 0) (ms := 0) dX7_part_130 mv_X7_isSign lk_X7_164 sh_28 rfl (Nat.le_of_ble_eq_true rfl) (Nat.le_of_ble_eq_true rfl) h (fun r σ hq _ => ?_)
    obtain ⟨x26, I26, rfl, rfl, h⟩ := hq
    change J _ _ _ _ _ _ _ [vI x26] _ _
    refine J_if_eq (tgt := 161) dX7_part_133 (by decide) (fun c => ?_) (fun c => ?_)
    · replace h := h.1 c
      refine J_aload_n dX7_part_161 rfl rfl ?_
      refine J_iconst dX7_part_162 (ii_c rfl) ?_
      refine J_aload_n dX7_part_163 rfl rfl ?_
      refine J_getI dX7_part_164 ck_7 fw_X7_79 rfl sh_28 ?_
      refine J_callV (as := [_, _]) (mc1 := 0) (ms1 := 0) (mc := 0) (ms := 0) dX7_part_167 mv_X7_fail lk_X7_119 sh_28 rfl (Nat.le_of_ble_eq_true rfl) (Nat.le_of_ble_eq_true rfl) h (fun r σ hq _ => ?_)
      obtain ⟨x27, I27, rfl, rfl, h⟩ := hq
      change J _ _ _ _ _ _ _ [vI x27] _ _
      refine J_istore_n dX7_part_170 rfl (by decide) ?_
      change J _ _ _ _ _ _ [(0, _), (1, _), (2, _), (3, _)] _ _ _
      refine J_iload_n dX7_part_171 rfl rfl ?_
      refine J_if_eq (tgt := 217) dX7_part_172 (by decide) (fun c => ?_) (fun c => ?_)
      · replace h := h.1 c
        refine J_iconst dX7_part_217 (ii_c rfl) ?_
        refine J_istore dX7_part_218 (by decide) ?_
        change J _ _ _ _ _ _ [(0, _), (1, _), (2, _), (3, _), (4, _)] _ _ _
        refine J_aload_n dX7_part_220 rfl rfl ?_
        refine J_iload_n dX7_part_221 rfl rfl ?_
        refine J_callV (as := [_]) (mc1 := 0) (ms1 := 0) (mc := 0) (ms := 0) dX7_part_222 mv_X7_emit lk_X7_186 sh_28 rfl (Nat.le_of_ble_eq_true rfl) (Nat.le_of_ble_eq_true rfl) h (fun r σ hq _ => ?_)
        obtain ⟨I28, rfl, rfl, h⟩ := hq
        change J _ _ _ _ _ _ _ [] _ _
        refine J_iload dX7_part_225 rfl ?_
        exact J_retz dX7_part_227 rfl (Or.inl rfl) h
      · replace h := h.2 c
        refine J_aload_n dX7_part_175 rfl rfl ?_
        refine J_iload_n dX7_part_176 rfl rfl ?_
        refine J_iconst dX7_part_177 (ii_c rfl) ?_
        refine J_iaddN dX7_part_178 h.1 ?_
        replace h := h.2
        refine J_callV (as := [_]) (mc1 := 0) (ms1 := 0) (mc := 0) (ms := 0) dX7_part_179 mv_X7_sum lk_X7_192 sh_28 rfl (Nat.le_of_ble_eq_true rfl) (Nat.le_of_ble_eq_true rfl) h (fun r σ hq _ => ?_)
        obtain ⟨x29, I29, rfl, rfl, h⟩ := hq
        change J _ _ _ _ _ _ _ [vI x29] _ _
        refine J_if_eq (tgt := 217) dX7_part_182 (by decide) (fun c => ?_) (fun c => ?_)
        · replace h := h.1 c
          refine J_iconst dX7_part_217 (ii_c rfl) ?_
          refine J_istore dX7_part_218 (by decide) ?_
          change J _ _ _ _ _ _ [(0, _), (1, _), (2, _), (3, _), (4, _)] _ _ _
          refine J_aload_n dX7_part_220 rfl rfl ?_
          refine J_iload_n dX7_part_221 rfl rfl ?_
          refine J_callV (as := [_]) (mc1 := 0) (ms1 := 0) (mc := 0) (ms := 0) dX7_part_222 mv_X7_emit lk_X7_186 sh_28 rfl (Nat.le_of_ble_eq_true rfl) (Nat.le_of_ble_eq_true rfl) h (fun r σ hq _ => ?_)
          obtain ⟨I30, rfl, rfl, h⟩ := hq
          change J _ _ _ _ _ _ _ [] _ _
          refine J_iload dX7_part_225 rfl ?_
          exact J_retz dX7_part_227 rfl (Or.inl rfl) h
        · replace h := h.2 c
          refine J_aload_n dX7_part_185 rfl rfl ?_
          refine J_bipush dX7_part_186 (ii_c rfl) (by decide) ?_
          refine J_callV (as := [_]) (mc1 := 0) (ms1 := 0) (mc := 0) (ms := 0) dX7_part_188 mv_X7_sign lk_X7_122 sh_28 rfl (Nat.le_of_ble_eq_true rfl) (Nat.le_of_ble_eq_true rfl) h (fun r σ hq _ => ?_)
          obtain ⟨x31, I31, rfl, rfl, h⟩ := hq
          change J _ _ _ _ _ _ _ [vI x31] _ _
          refine J_if_eq (tgt := 217) dX7_part_191 (by decide) (fun c => ?_) (fun c => ?_)
          · replace h := h.1 c
            refine J_iconst dX7_part_217 (ii_c rfl) ?_
            refine J_istore dX7_part_218 (by decide) ?_
            change J _ _ _ _ _ _ [(0, _), (1, _), (2, _), (3, _), (4, _)] _ _ _
            refine J_aload_n dX7_part_220 rfl rfl ?_
            refine J_iload_n dX7_part_221 rfl rfl ?_
            refine J_callV (as := [_]) (mc1 := 0) (ms1 := 0) (mc := 0) (ms := 0) dX7_part_222 mv_X7_emit lk_X7_186 sh_28 rfl (Nat.le_of_ble_eq_true rfl) (Nat.le_of_ble_eq_true rfl) h (fun r σ hq _ => ?_)
            obtain ⟨I32, rfl, rfl, h⟩ := hq
            change J _ _ _ _ _ _ _ [] _ _
            refine J_iload dX7_part_225 rfl ?_
            exact J_retz dX7_part_227 rfl (Or.inl rfl) h
          · replace h := h.2 c
            refine J_aload_n dX7_part_194 rfl rfl ?_
            refine J_iload_n dX7_part_195 rfl rfl ?_
            refine J_iconst dX7_part_196 (ii_c rfl) ?_
            refine J_iaddN dX7_part_197 h.1 ?_
            replace h := h.2
            refine J_callV (as := [_]) (mc1 := 0) (ms1 := 0) (mc := 0) (ms := 0) dX7_part_198 mv_X7_sum lk_X7_192 sh_28 rfl (Nat.le_of_ble_eq_true rfl) (Nat.le_of_ble_eq_true rfl) h (fun r σ hq _ => ?_)
            obtain ⟨x33, I33, rfl, rfl, h⟩ := hq
            change J _ _ _ _ _ _ _ [vI x33] _ _
            refine J_if_eq (tgt := 217) dX7_part_201 (by decide) (fun c => ?_) (fun c => ?_)
            · replace h := h.1 c
              refine J_iconst dX7_part_217 (ii_c rfl) ?_
              refine J_istore dX7_part_218 (by decide) ?_
              change J _ _ _ _ _ _ [(0, _), (1, _), (2, _), (3, _), (4, _)] _ _ _
              refine J_aload_n dX7_part_220 rfl rfl ?_
              refine J_iload_n dX7_part_221 rfl rfl ?_
              refine J_callV (as := [_]) (mc1 := 0) (ms1 := 0) (mc := 0) (ms := 0) dX7_part_222 mv_X7_emit lk_X7_186 sh_28 rfl (Nat.le_of_ble_eq_true rfl) (Nat.le_of_ble_eq_true rfl) h (fun r σ hq _ => ?_)
              obtain ⟨I34, rfl, rfl, h⟩ := hq
              change J _ _ _ _ _ _ _ [] _ _
              refine J_iload dX7_part_225 rfl ?_
              exact J_retz dX7_part_227 rfl (Or.inl rfl) h
            · replace h := h.2 c
              refine J_aload_n dX7_part_204 rfl rfl ?_
              refine J_bipush dX7_part_205 (ii_c rfl) (by decide) ?_
              refine J_callV (as := [_]) (mc1 := 0) (ms1 := 0) (mc := 0) (ms := 0) dX7_part_207 mv_X7_sign lk_X7_122 sh_28 rfl (Nat.le_of_ble_eq_true rfl) (Nat.le_of_ble_eq_true rfl) h (fun r σ hq _ => ?_)
              obtain ⟨x35, I35, rfl, rfl, h⟩ := hq
              change J _ _ _ _ _ _ _ [vI x35] _ _
              refine J_if_eq (tgt := 217) dX7_part_210 (by decide) (fun c => ?_) (fun c => ?_)
              · replace h := h.1 c
                refine J_iconst dX7_part_217 (ii_c rfl) ?_
                refine J_istore dX7_part_218 (by decide) ?_
                change J _ _ _ _ _ _ [(0, _), (1, _), (2, _), (3, _), (4, _)] _ _ _
                refine J_aload_n dX7_part_220 rfl rfl ?_
                refine J_iload_n dX7_part_221 rfl rfl ?_
                refine J_callV (as := [_]) (mc1 := 0) (ms1 := 0) (mc := 0) (ms := 0) dX7_part_222 mv_X7_emit lk_X7_186 sh_28 rfl (Nat.le_of_ble_eq_true rfl) (Nat.le_of_ble_eq_true rfl) h (fun r σ hq _ => ?_)
                obtain ⟨I36, rfl, rfl, h⟩ := hq
                change J _ _ _ _ _ _ _ [] _ _
                refine J_iload dX7_part_225 rfl ?_
                exact J_retz dX7_part_227 rfl (Or.inl rfl) h
              · replace h := h.2 c
                refine J_iconst dX7_part_213 (ii_c rfl) ?_
                refine J_goto (tgt := 218) dX7_part_214 (by decide) ?_
                refine J_istore dX7_part_218 (by decide) ?_
                change J _ _ _ _ _ _ [(0, _), (1, _), (2, _), (3, _), (4, _)] _ _ _
                refine J_aload_n dX7_part_220 rfl rfl ?_
                refine J_iload_n dX7_part_221 rfl rfl ?_
                refine J_callV (as := [_]) (mc1 := 0) (ms1 := 0) (mc := 0) (ms := 0) dX7_part_222 mv_X7_emit lk_X7_186 sh_28 rfl (Nat.le_of_ble_eq_true rfl) (Nat.le_of_ble_eq_true rfl) h (fun r σ hq _ => ?_)
                obtain ⟨I37, rfl, rfl, h⟩ := hq
                change J _ _ _ _ _ _ _ [] _ _
                refine J_iload dX7_part_225 rfl ?_
                exact J_retz dX7_part_227 rfl (Or.inr rfl) h
    · replace h := h.2 c
      refine J_aload_n dX7_part_136 rfl rfl ?_
      refine J_iload_n dX7_part_137 rfl rfl ?_
      refine J_callV (as := [_]) (mc1 := 0) (ms1 := 0) (mc := 0) (ms := 0) dX7_part_138 mv_X7_roomIn lk_X7_189 sh_28 rfl (Nat.le_of_ble_eq_true rfl) (Nat.le_of_ble_eq_true rfl) h (fun r σ hq _ => ?_)
      obtain ⟨x38, I38, rfl, rfl, h⟩ := hq
      change J _ _ _ _ _ _ _ [vI x38] _ _
      refine J_if_eq (tgt := 157) dX7_part_141 (by decide) (fun c => ?_) (fun c => ?_)
      · replace h := h.1 c
        exact h
      · replace h := h.2 c
        refine J_aload_n dX7_part_144 rfl rfl ?_
        refine J_bipush dX7_part_145 (ii_c rfl) (by decide) ?_
        refine J_callV (as := [_]) (mc1 := 0) (ms1 := 0) (mc := 0) (ms := 0) dX7_part_147 mv_X7_sign lk_X7_122 sh_28 rfl (Nat.le_of_ble_eq_true rfl) (Nat.le_of_ble_eq_true rfl) h (fun r σ hq _ => ?_)
        obtain ⟨x39, I39, rfl, rfl, h⟩ := hq
        change J _ _ _ _ _ _ _ [vI x39] _ _
        refine J_if_eq (tgt := 157) dX7_part_150 (by decide) (fun c => ?_) (fun c => ?_)
        · replace h := h.1 c
          exact h
        · replace h := h.2 c
          refine J_iconst dX7_part_153 (ii_c rfl) ?_
          refine J_goto (tgt := 170) dX7_part_154 (by decide) ?_
          refine J_istore_n dX7_part_170 rfl (by decide) ?_
          change J _ _ _ _ _ _ [(0, _), (1, _), (2, _), (3, _)] _ _ _
          refine J_iload_n dX7_part_171 rfl rfl ?_
          refine J_if_eq (tgt := 217) dX7_part_172 (by decide) (fun c => absurd c (by decide)) (fun _ => ?_)
          refine J_aload_n dX7_part_175 rfl rfl ?_
          refine J_iload_n dX7_part_176 rfl rfl ?_
          refine J_iconst dX7_part_177 (ii_c rfl) ?_
          refine J_iaddN dX7_part_178 h.1 ?_
          replace h := h.2
          refine J_callV (as := [_]) (mc1 := 0) (ms1 := 0) (mc := 0) (ms := 0) dX7_part_179 mv_X7_sum lk_X7_192 sh_28 rfl (Nat.le_of_ble_eq_true rfl) (Nat.le_of_ble_eq_true rfl) h (fun r σ hq _ => ?_)
          obtain ⟨x40, I40, rfl, rfl, h⟩ := hq
          change J _ _ _ _ _ _ _ [vI x40] _ _
          refine J_if_eq (tgt := 217) dX7_part_182 (by decide) (fun c => ?_) (fun c => ?_)
          · replace h := h.1 c
            refine J_iconst dX7_part_217 (ii_c rfl) ?_
            refine J_istore dX7_part_218 (by decide) ?_
            change J _ _ _ _ _ _ [(0, _), (1, _), (2, _), (3, _), (4, _)] _ _ _
            refine J_aload_n dX7_part_220 rfl rfl ?_
            refine J_iload_n dX7_part_221 rfl rfl ?_
            refine J_callV (as := [_]) (mc1 := 0) (ms1 := 0) (mc := 0) (ms := 0) dX7_part_222 mv_X7_emit lk_X7_186 sh_28 rfl (Nat.le_of_ble_eq_true rfl) (Nat.le_of_ble_eq_true rfl) h (fun r σ hq _ => ?_)
            obtain ⟨I41, rfl, rfl, h⟩ := hq
            change J _ _ _ _ _ _ _ [] _ _
            refine J_iload dX7_part_225 rfl ?_
            exact J_retz dX7_part_227 rfl (Or.inl rfl) h
          · replace h := h.2 c
            refine J_aload_n dX7_part_185 rfl rfl ?_
            refine J_bipush dX7_part_186 (ii_c rfl) (by decide) ?_
            refine J_callV (as := [_]) (mc1 := 0) (ms1 := 0) (mc := 0) (ms := 0) dX7_part_188 mv_X7_sign lk_X7_122 sh_28 rfl (Nat.le_of_ble_eq_true rfl) (Nat.le_of_ble_eq_true rfl) h (fun r σ hq _ => ?_)
            obtain ⟨x42, I42, rfl, rfl, h⟩ := hq
            change J _ _ _ _ _ _ _ [vI x42] _ _
            refine J_if_eq (tgt := 217) dX7_part_191 (by decide) (fun c => ?_) (fun c => ?_)
            · replace h := h.1 c
              refine J_iconst dX7_part_217 (ii_c rfl) ?_
              refine J_istore dX7_part_218 (by decide) ?_
              change J _ _ _ _ _ _ [(0, _), (1, _), (2, _), (3, _), (4, _)] _ _ _
              refine J_aload_n dX7_part_220 rfl rfl ?_
              refine J_iload_n dX7_part_221 rfl rfl ?_
              refine J_callV (as := [_]) (mc1 := 0) (ms1 := 0) (mc := 0) (ms := 0) dX7_part_222 mv_X7_emit lk_X7_186 sh_28 rfl (Nat.le_of_ble_eq_true rfl) (Nat.le_of_ble_eq_true rfl) h (fun r σ hq _ => ?_)
              obtain ⟨I43, rfl, rfl, h⟩ := hq
              change J _ _ _ _ _ _ _ [] _ _
              refine J_iload dX7_part_225 rfl ?_
              exact J_retz dX7_part_227 rfl (Or.inl rfl) h
            · replace h := h.2 c
              refine J_aload_n dX7_part_194 rfl rfl ?_
              refine J_iload_n dX7_part_195 rfl rfl ?_
              refine J_iconst dX7_part_196 (ii_c rfl) ?_
              refine J_iaddN dX7_part_197 h.1 ?_
              replace h := h.2
              refine J_callV (as := [_]) (mc1 := 0) (ms1 := 0) (mc := 0) (ms := 0) dX7_part_198 mv_X7_sum lk_X7_192 sh_28 rfl (Nat.le_of_ble_eq_true rfl) (Nat.le_of_ble_eq_true rfl) h (fun r σ hq _ => ?_)
              obtain ⟨x44, I44, rfl, rfl, h⟩ := hq
              change J _ _ _ _ _ _ _ [vI x44] _ _
              refine J_if_eq (tgt := 217) dX7_part_201 (by decide) (fun c => ?_) (fun c => ?_)
              · replace h := h.1 c
                refine J_iconst dX7_part_217 (ii_c rfl) ?_
                refine J_istore dX7_part_218 (by decide) ?_
                change J _ _ _ _ _ _ [(0, _), (1, _), (2, _), (3, _), (4, _)] _ _ _
                refine J_aload_n dX7_part_220 rfl rfl ?_
                refine J_iload_n dX7_part_221 rfl rfl ?_
                refine J_callV (as := [_]) (mc1 := 0) (ms1 := 0) (mc := 0) (ms := 0) dX7_part_222 mv_X7_emit lk_X7_186 sh_28 rfl (Nat.le_of_ble_eq_true rfl) (Nat.le_of_ble_eq_true rfl) h (fun r σ hq _ => ?_)
                obtain ⟨I45, rfl, rfl, h⟩ := hq
                change J _ _ _ _ _ _ _ [] _ _
                refine J_iload dX7_part_225 rfl ?_
                exact J_retz dX7_part_227 rfl (Or.inl rfl) h
              · replace h := h.2 c
                refine J_aload_n dX7_part_204 rfl rfl ?_
                refine J_bipush dX7_part_205 (ii_c rfl) (by decide) ?_
                refine J_callV (as := [_]) (mc1 := 0) (ms1 := 0) (mc := 0) (ms := 0) dX7_part_207 mv_X7_sign lk_X7_122 sh_28 rfl (Nat.le_of_ble_eq_true rfl) (Nat.le_of_ble_eq_true rfl) h (fun r σ hq _ => ?_)
                obtain ⟨x46, I46, rfl, rfl, h⟩ := hq
                change J _ _ _ _ _ _ _ [vI x46] _ _
                refine J_if_eq (tgt := 217) dX7_part_210 (by decide) (fun c => ?_) (fun c => ?_)
                · replace h := h.1 c
                  refine J_iconst dX7_part_217 (ii_c rfl) ?_
                  refine J_istore dX7_part_218 (by decide) ?_
                  change J _ _ _ _ _ _ [(0, _), (1, _), (2, _), (3, _), (4, _)] _ _ _
                  refine J_aload_n dX7_part_220 rfl rfl ?_
                  refine J_iload_n dX7_part_221 rfl rfl ?_
                  refine J_callV (as := [_]) (mc1 := 0) (ms1 := 0) (mc := 0) (ms := 0) dX7_part_222 mv_X7_emit lk_X7_186 sh_28 rfl (Nat.le_of_ble_eq_true rfl) (Nat.le_of_ble_eq_true rfl) h (fun r σ hq _ => ?_)
                  obtain ⟨I47, rfl, rfl, h⟩ := hq
                  change J _ _ _ _ _ _ _ [] _ _
                  refine J_iload dX7_part_225 rfl ?_
                  exact J_retz dX7_part_227 rfl (Or.inl rfl) h
                · replace h := h.2 c
                  refine J_iconst dX7_part_213 (ii_c rfl) ?_
                  refine J_goto (tgt := 218) dX7_part_214 (by decide) ?_
                  refine J_istore dX7_part_218 (by decide) ?_
                  change J _ _ _ _ _ _ [(0, _), (1, _), (2, _), (3, _), (4, _)] _ _ _
                  refine J_aload_n dX7_part_220 rfl rfl ?_
                  refine J_iload_n dX7_part_221 rfl rfl ?_
                  refine J_callV (as := [_]) (mc1 := 0) (ms1 := 0) (mc := 0) (ms := 0) dX7_part_222 mv_X7_emit lk_X7_186 sh_28 rfl (Nat.le_of_ble_eq_true rfl) (Nat.le_of_ble_eq_true rfl) h (fun r σ hq _ => ?_)
                  obtain ⟨I48, rfl, rfl, h⟩ := hq
                  change J _ _ _ _ _ _ _ [] _ _
                  refine J_iload dX7_part_225 rfl ?_
                  exact J_retz dX7_part_227 rfl (Or.inr rfl) h
set_option maxRecDepth 20000 in
set_option maxHeartbeats 2000000 in
theorem bk_X7_part_157 {d : Nat} {I : HI} {Q : Option AV → AH → Prop} {a1 : Int} {a2 : Int}  (h : CV mX7_emit d [vR 28, vI a2] I (fun I1 => Q (some (vI 0)) (mk I1))) : J none mX7_part (d + 1) 0 0 157 [(0, vR 28), (1, vI a1), (2, vI a2)] [] (mk I) Q := by
  refine J_iconst dX7_part_157 (ii_c rfl) ?_
  refine J_goto (tgt := 170) dX7_part_158 (by decide) ?_
  refine J_istore_n dX7_part_170 rfl (by decide) ?_
  change J _ _ _ _ _ _ [(0, _), (1, _), (2, _), (3, _)] _ _ _
  refine J_iload_n dX7_part_171 rfl rfl ?_
  refine J_if_eq (tgt := 217) dX7_part_172 (by decide) (fun _ => ?_) (fun c => absurd (by decide) c)
  refine J_iconst dX7_part_217 (ii_c rfl) ?_
  refine J_istore dX7_part_218 (by decide) ?_
  change J _ _ _ _ _ _ [(0, _), (1, _), (2, _), (3, _), (4, _)] _ _ _
  refine J_aload_n dX7_part_220 rfl rfl ?_
  refine J_iload_n dX7_part_221 rfl rfl ?_
  refine J_callV (as := [_]) (mc1 := 0) (ms1 := 0) (mc := 0) (ms := 0) dX7_part_222 mv_X7_emit lk_X7_186 sh_28 rfl (Nat.le_of_ble_eq_true rfl) (Nat.le_of_ble_eq_true rfl) h (fun r σ hq _ => ?_)
  obtain ⟨I1, rfl, rfl, h⟩ := hq
  change J _ _ _ _ _ _ _ [] _ _
  refine J_iload dX7_part_225 rfl ?_
  exact J_retz dX7_part_227 rfl (Or.inl rfl) h
