set_option maxRecDepth 20000 in
set_option maxHeartbeats 2000000 in
theorem bk_X10_bars_0 {d : Nat} {I : HI} {Q : Option AV → AH → Prop}   (h : CI mX10_allSaints d [vR 0] I (fun x1 I1 => J none mX10_bars (d + 1) 0 0 7 [(0, vR 0), (1, vI x1), (2, vI 0)] [] (mk I1) Q)) : J none mX10_bars (d + 1) 0 0 0 [(0, vR 0)] [] (mk I) Q := by
  refine J_aload_n dX10_bars_0 rfl rfl ?_
  refine J_callV (as := []) (mc1 := 0) (ms1 := 0) (mc := 0) (ms := 0) dX10_bars_1 mv_X10_allSaints lk_X10_283 sh_0 rfl (Nat.le_of_ble_eq_true rfl) (Nat.le_of_ble_eq_true rfl) h (fun r σ hq _ => ?_)
  obtain ⟨x1, I1, rfl, rfl, h⟩ := hq
  change J _ _ _ _ _ _ _ [vI x1] _ _
  refine J_istore_n dX10_bars_4 rfl (by decide) ?_
  change J _ _ _ _ _ _ [(0, _), (1, _)] _ _ _
  refine J_iconst dX10_bars_5 (ii_c rfl) ?_
  refine J_istore_n dX10_bars_6 rfl (by decide) ?_
  change J _ _ _ _ _ _ [(0, _), (1, _), (2, _)] _ _ _
  exact h
set_option maxRecDepth 20000 in
set_option maxHeartbeats 2000000 in
theorem bk_X10_bars_7 {d : Nat} {I : HI} {Q : Option AV → AH → Prop} {a1 : Int} {a2 : Int}  (h : ((4 < a2 → Q (some (vI a1)) (mk I)) ∧ (¬ (4 < a2) → J none mX10_bars (d + 1) 0 0 14 [(0, vR 0), (1, vI a1), (2, vI a2), (3, vI 0)] [] (mk I) Q))) : J none mX10_bars (d + 1) 0 0 7 [(0, vR 0), (1, vI a1), (2, vI a2)] [] (mk I) Q := by
  refine J_iload_n dX10_bars_7 rfl rfl ?_
  refine J_iconst dX10_bars_8 (ii_c rfl) ?_
  refine J_ic_gt (tgt := 58) dX10_bars_9 (by decide) (fun c => ?_) (fun c => ?_)
  · replace h := h.1 c
    refine J_iload_n dX10_bars_58 rfl rfl ?_
    exact J_reti dX10_bars_59 rfl h
  · replace h := h.2 c
    refine J_iconst dX10_bars_12 (ii_c rfl) ?_
    refine J_istore_n dX10_bars_13 rfl (by decide) ?_
    change J _ _ _ _ _ _ [(0, _), (1, _), (2, _), (3, _)] _ _ _
    exact h
set_option maxRecDepth 20000 in
set_option maxHeartbeats 2000000 in
theorem bk_X10_bars_14 {d : Nat} {I : HI} {Q : Option AV → AH → Prop} {a1 : Int} {a2 : Int} {a3 : Int}  (h : ((a1 < a3 → (-2147483648 ≤ a2 + 1 ∧ a2 + 1 ≤ 2147483647) ∧ J none mX10_bars (d + 1) 0 0 7 [(0, vR 0), (1, vI a1), (2, vI (a2 + 1))] [] (mk I) Q) ∧ (¬ (a1 < a3) → CI mJ6_bitCount_0f7a4 d [vI a3] I (fun x1 I1 => ((x1 ≠ a2 → (-2147483648 ≤ a3 + 1 ∧ a3 + 1 ≤ 2147483647) ∧ J none mX10_bars (d + 1) 0 0 14 [(0, vR 0), (1, vI a1), (2, vI a2), (3, vI (a3 + 1))] [] (mk I1) Q) ∧ (x1 = a2 → CI mX6_solve d [vR 477, vI (oA a1 (oX a3 (-1))), vI 0] I1 (fun x2 I2 => ((x2 = (-1) → (-2147483648 ≤ a3 + 1 ∧ a3 + 1 ≤ 2147483647) ∧ J none mX10_bars (d + 1) 0 0 14 [(0, vR 0), (1, vI a1), (2, vI a2), (3, vI (a3 + 1))] [] (mk I2) Q) ∧ (¬ (x2 = (-1)) → Q (some (vI a3)) (mk I2)))))))))) : J none mX10_bars (d + 1) 0 0 14 [(0, vR 0), (1, vI a1), (2, vI a2), (3, vI a3)] [] (mk I) Q := by
  refine J_iload_n dX10_bars_14 rfl rfl ?_
  refine J_iload_n dX10_bars_15 rfl rfl ?_
  refine J_ic_gt (tgt := 52) dX10_bars_16 (by decide) (fun c => ?_) (fun c => ?_)
  · replace h := h.1 c
    refine J_iincN dX10_bars_52 rfl (by decide) h.1 ?_
    replace h := h.2
    change J _ _ _ _ _ _ [(0, _), (1, _), (2, _), (3, _)] _ _ _
    refine J_goto (tgt := 7) dX10_bars_55 (by decide) ?_
    exact J_loc (ls_sub [0, 1, 2] rfl) h
  · replace h := h.2 c
    refine J_iload_n dX10_bars_19 rfl rfl ?_
    refine J_callS (as := [_]) (mc1 := 0) (ms1 := 0) (mc := 0) (ms := 0) dX10_bars_20 ms_J6_bitCount_0f7a4 lk_X10_149 rfl (Nat.le_of_ble_eq_true rfl) (Nat.le_of_ble_eq_true rfl) h (fun r σ hq _ => ?_)
    obtain ⟨x1, I1, rfl, rfl, h⟩ := hq
    change J _ _ _ _ _ _ _ [vI x1] _ _
    refine J_iload_n dX10_bars_23 rfl rfl ?_
    refine J_ic_ne (tgt := 46) dX10_bars_24 (by decide) (fun c => ?_) (fun c => ?_)
    · replace h := h.1 c
      refine J_iincN dX10_bars_46 rfl (by decide) h.1 ?_
      replace h := h.2
      change J _ _ _ _ _ _ [(0, _), (1, _), (2, _), (3, _)] _ _ _
      refine J_goto (tgt := 14) dX10_bars_49 (by decide) ?_
      exact h
    · replace h := h.2 c
      refine J_aload_n dX10_bars_27 rfl rfl ?_
      refine J_getR dX10_bars_28 ck_10 fw_X10_76 rfl sh_0 rr_0_9 ?_
      refine J_iload_n dX10_bars_31 rfl rfl ?_
      refine J_iload_n dX10_bars_32 rfl rfl ?_
      refine J_iconst dX10_bars_33 (ii_c rfl) ?_
      refine J_ixor dX10_bars_34 ?_
      refine J_iand dX10_bars_35 ?_
      refine J_iconst dX10_bars_36 (ii_c rfl) ?_
      refine J_callV (as := [_, _]) (mc1 := 0) (ms1 := 0) (mc := 0) (ms := 0) dX10_bars_37 mv_X6_solve lk_X10_286 sh_477 rfl (Nat.le_of_ble_eq_true rfl) (Nat.le_of_ble_eq_true rfl) h (fun r σ hq _ => ?_)
      obtain ⟨x2, I2, rfl, rfl, h⟩ := hq
      change J _ _ _ _ _ _ _ [vI x2] _ _
      refine J_iconst dX10_bars_40 (ii_c rfl) ?_
      refine J_ic_eq (tgt := 46) dX10_bars_41 (by decide) (fun c => ?_) (fun c => ?_)
      · replace h := h.1 c
        refine J_iincN dX10_bars_46 rfl (by decide) h.1 ?_
        replace h := h.2
        change J _ _ _ _ _ _ [(0, _), (1, _), (2, _), (3, _)] _ _ _
        refine J_goto (tgt := 14) dX10_bars_49 (by decide) ?_
        exact h
      · replace h := h.2 c
        refine J_iload_n dX10_bars_44 rfl rfl ?_
        exact J_reti dX10_bars_45 rfl h
set_option maxRecDepth 20000 in
set_option maxHeartbeats 2000000 in
theorem bk_X10_take_0 {d : Nat} {I : HI} {Q : Option AV → AH → Prop}   (h : CI mX10_allSaints d [vR 0] I (fun x1 I1 => CI mX6_solve d [vR 477, vI x1, vI 0] I1 (fun x2 I2 => ((x2 = (-1) → Q (some (vI (-1))) (mk I2)) ∧ (¬ (x2 = (-1)) → (((I2 2 2) ≠ 0 → CV mX9_keep d [vR 32] I2 (fun I3 => CV mX9_commit d [vR 32] I3 (fun I4 => CI mX6_carryOut d [vR 477] I4 (fun x5 I5 => Q (some (vI x2)) (mk I5))))) ∧ ((I2 2 2) = 0 → Q (some (vI (-1))) (mk I2)))))))) : J none mX10_take (d + 1) 0 0 0 [(0, vR 0)] [] (mk I) Q := by
  refine J_aload_n dX10_take_0 rfl rfl ?_
  refine J_getR dX10_take_1 ck_10 fw_X10_76 rfl sh_0 rr_0_9 ?_
  refine J_aload_n dX10_take_4 rfl rfl ?_
  refine J_callV (as := []) (mc1 := 0) (ms1 := 0) (mc := 0) (ms := 0) dX10_take_5 mv_X10_allSaints lk_X10_283 sh_0 rfl (Nat.le_of_ble_eq_true rfl) (Nat.le_of_ble_eq_true rfl) h (fun r σ hq _ => ?_)
  obtain ⟨x1, I1, rfl, rfl, h⟩ := hq
  change J _ _ _ _ _ _ _ [vI x1, _] _ _
  refine J_iconst dX10_take_8 (ii_c rfl) ?_
  refine J_callV (as := [_, _]) (mc1 := 0) (ms1 := 0) (mc := 0) (ms := 0) dX10_take_9 mv_X6_solve lk_X10_286 sh_477 rfl (Nat.le_of_ble_eq_true rfl) (Nat.le_of_ble_eq_true rfl) h (fun r σ hq _ => ?_)
  obtain ⟨x2, I2, rfl, rfl, h⟩ := hq
  change J _ _ _ _ _ _ _ [vI x2] _ _
  refine J_istore_n dX10_take_12 rfl (by decide) ?_
  change J _ _ _ _ _ _ [(0, _), (1, _)] _ _ _
  refine J_iload_n dX10_take_13 rfl rfl ?_
  refine J_iconst dX10_take_14 (ii_c rfl) ?_
  refine J_ic_eq (tgt := 30) dX10_take_15 (by decide) (fun c => ?_) (fun c => ?_)
  · replace h := h.1 c
    refine J_iconst dX10_take_30 (ii_c rfl) ?_
    exact J_reti dX10_take_31 rfl h
  · replace h := h.2 c
    refine J_aload_n dX10_take_18 rfl rfl ?_
    refine J_getR dX10_take_19 ck_10 fw_X10_10 rfl sh_0 rr_0_0 ?_
    refine J_getR dX10_take_22 ck_0 fw_X10_140 rfl sh_1 rr_1_0 ?_
    refine J_iconst dX10_take_25 (ii_c rfl) ?_
    refine J_iald dX10_take_26 sh_2 (by decide) (by decide) ?_
    refine J_if_ne (tgt := 32) dX10_take_27 (by decide) (fun c => ?_) (fun c => ?_)
    · replace h := h.1 c
      refine J_aload_n dX10_take_32 rfl rfl ?_
      refine J_getR dX10_take_33 ck_10 fw_X10_37 rfl sh_0 rr_0_4 ?_
      refine J_callV (as := []) (mc1 := 0) (ms1 := 0) (mc := 0) (ms := 0) dX10_take_36 mv_X9_keep lk_X10_293 sh_32 rfl (Nat.le_of_ble_eq_true rfl) (Nat.le_of_ble_eq_true rfl) h (fun r σ hq _ => ?_)
      obtain ⟨I3, rfl, rfl, h⟩ := hq
      change J _ _ _ _ _ _ _ [] _ _
      refine J_aload_n dX10_take_39 rfl rfl ?_
      refine J_getR dX10_take_40 ck_10 fw_X10_37 rfl sh_0 rr_0_4 ?_
      refine J_callV (as := []) (mc1 := 0) (ms1 := 0) (mc := 0) (ms := 0) dX10_take_43 mv_X9_commit lk_X10_296 sh_32 rfl (Nat.le_of_ble_eq_true rfl) (Nat.le_of_ble_eq_true rfl) h (fun r σ hq _ => ?_)
      obtain ⟨I4, rfl, rfl, h⟩ := hq
      change J _ _ _ _ _ _ _ [] _ _
      refine J_aload_n dX10_take_46 rfl rfl ?_
      refine J_getR dX10_take_47 ck_10 fw_X10_76 rfl sh_0 rr_0_9 ?_
      refine J_callV (as := []) (mc1 := 0) (ms1 := 0) (mc := 0) (ms := 0) dX10_take_50 mv_X6_carryOut lk_X10_299 sh_477 rfl (Nat.le_of_ble_eq_true rfl) (Nat.le_of_ble_eq_true rfl) h (fun r σ hq _ => ?_)
      obtain ⟨x5, I5, rfl, rfl, h⟩ := hq
      change J _ _ _ _ _ _ _ [vI x5] _ _
      refine J_pop dX10_take_53 rfl ?_
      refine J_iload_n dX10_take_54 rfl rfl ?_
      exact J_reti dX10_take_55 rfl h
    · replace h := h.2 c
      refine J_iconst dX10_take_30 (ii_c rfl) ?_
      exact J_reti dX10_take_31 rfl h
set_option maxRecDepth 20000 in
set_option maxHeartbeats 2000000 in
theorem bk_X10_mend_0 {d : Nat} {I : HI} {Q : Option AV → AH → Prop}   (h : CI mX10_allSaints d [vR 0] I (fun x1 I1 => CI mX6_solve d [vR 477, vI x1, vI 1] I1 (fun x2 I2 => ((x2 ≠ (-1) → CV mX9_keep d [vR 32] I2 (fun I3 => CI mX6_carryOut d [vR 477] I3 (fun x4 I4 => ((x4 ≤ 0 → Q (some (vI x4)) (mk I4)) ∧ (¬ (x4 ≤ 0) → CV mX9_commit d [vR 32] I4 (fun I5 => Q (some (vI x4)) (mk I5))))))) ∧ (x2 = (-1) → Q (some (vI (-1))) (mk I2)))))) : J none mX10_mend (d + 1) 0 0 0 [(0, vR 0)] [] (mk I) Q := by
  refine J_aload_n dX10_mend_0 rfl rfl ?_
  refine J_getR dX10_mend_1 ck_10 fw_X10_76 rfl sh_0 rr_0_9 ?_
  refine J_aload_n dX10_mend_4 rfl rfl ?_
  refine J_callV (as := []) (mc1 := 0) (ms1 := 0) (mc := 0) (ms := 0) dX10_mend_5 mv_X10_allSaints lk_X10_283 sh_0 rfl (Nat.le_of_ble_eq_true rfl) (Nat.le_of_ble_eq_true rfl) h (fun r σ hq _ => ?_)
  obtain ⟨x1, I1, rfl, rfl, h⟩ := hq
  change J _ _ _ _ _ _ _ [vI x1, _] _ _
  refine J_iconst dX10_mend_8 (ii_c rfl) ?_
  refine J_callV (as := [_, _]) (mc1 := 0) (ms1 := 0) (mc := 0) (ms := 0) dX10_mend_9 mv_X6_solve lk_X10_286 sh_477 rfl (Nat.le_of_ble_eq_true rfl) (Nat.le_of_ble_eq_true rfl) h (fun r σ hq _ => ?_)
  obtain ⟨x2, I2, rfl, rfl, h⟩ := hq
  change J _ _ _ _ _ _ _ [vI x2] _ _
  refine J_iconst dX10_mend_12 (ii_c rfl) ?_
  refine J_ic_ne (tgt := 18) dX10_mend_13 (by decide) (fun c => ?_) (fun c => ?_)
  · replace h := h.1 c
    refine J_aload_n dX10_mend_18 rfl rfl ?_
    refine J_getR dX10_mend_19 ck_10 fw_X10_37 rfl sh_0 rr_0_4 ?_
    refine J_callV (as := []) (mc1 := 0) (ms1 := 0) (mc := 0) (ms := 0) dX10_mend_22 mv_X9_keep lk_X10_293 sh_32 rfl (Nat.le_of_ble_eq_true rfl) (Nat.le_of_ble_eq_true rfl) h (fun r σ hq _ => ?_)
    obtain ⟨I3, rfl, rfl, h⟩ := hq
    change J _ _ _ _ _ _ _ [] _ _
    refine J_aload_n dX10_mend_25 rfl rfl ?_
    refine J_getR dX10_mend_26 ck_10 fw_X10_76 rfl sh_0 rr_0_9 ?_
    refine J_callV (as := []) (mc1 := 0) (ms1 := 0) (mc := 0) (ms := 0) dX10_mend_29 mv_X6_carryOut lk_X10_299 sh_477 rfl (Nat.le_of_ble_eq_true rfl) (Nat.le_of_ble_eq_true rfl) h (fun r σ hq _ => ?_)
    obtain ⟨x4, I4, rfl, rfl, h⟩ := hq
    change J _ _ _ _ _ _ _ [vI x4] _ _
    refine J_istore_n dX10_mend_32 rfl (by decide) ?_
    change J _ _ _ _ _ _ [(0, _), (1, _)] _ _ _
    refine J_iload_n dX10_mend_33 rfl rfl ?_
    refine J_if_le (tgt := 44) dX10_mend_34 (by decide) (fun c => ?_) (fun c => ?_)
    · replace h := h.1 c
      refine J_iload_n dX10_mend_44 rfl rfl ?_
      exact J_reti dX10_mend_45 rfl h
    · replace h := h.2 c
      refine J_aload_n dX10_mend_37 rfl rfl ?_
      refine J_getR dX10_mend_38 ck_10 fw_X10_37 rfl sh_0 rr_0_4 ?_
      refine J_callV (as := []) (mc1 := 0) (ms1 := 0) (mc := 0) (ms := 0) dX10_mend_41 mv_X9_commit lk_X10_296 sh_32 rfl (Nat.le_of_ble_eq_true rfl) (Nat.le_of_ble_eq_true rfl) h (fun r σ hq _ => ?_)
      obtain ⟨I5, rfl, rfl, h⟩ := hq
      change J _ _ _ _ _ _ _ [] _ _
      refine J_iload_n dX10_mend_44 rfl rfl ?_
      exact J_reti dX10_mend_45 rfl h
  · replace h := h.2 c
    refine J_iconst dX10_mend_16 (ii_c rfl) ?_
    exact J_reti dX10_mend_17 rfl h
set_option maxRecDepth 20000 in
set_option maxHeartbeats 2000000 in
theorem bk_X10_turn_0 {d : Nat} {I : HI} {Q : Option AV → AH → Prop}   (h : CV mX9_keep d [vR 32] I (fun I1 => J none mX10_turn (d + 1) 0 0 11 [(0, vR 0), (1, vI 0), (2, vI 0)] [] (mk I1) Q)) : J none mX10_turn (d + 1) 0 0 0 [(0, vR 0)] [] (mk I) Q := by
  refine J_aload_n dX10_turn_0 rfl rfl ?_
  refine J_getR dX10_turn_1 ck_10 fw_X10_37 rfl sh_0 rr_0_4 ?_
  refine J_callV (as := []) (mc1 := 0) (ms1 := 0) (mc := 0) (ms := 0) dX10_turn_4 mv_X9_keep lk_X10_293 sh_32 rfl (Nat.le_of_ble_eq_true rfl) (Nat.le_of_ble_eq_true rfl) h (fun r σ hq _ => ?_)
  obtain ⟨I1, rfl, rfl, h⟩ := hq
  change J _ _ _ _ _ _ _ [] _ _
  refine J_iconst dX10_turn_7 (ii_c rfl) ?_
  refine J_istore_n dX10_turn_8 rfl (by decide) ?_
  change J _ _ _ _ _ _ [(0, _), (1, _)] _ _ _
  refine J_iconst dX10_turn_9 (ii_c rfl) ?_
  refine J_istore_n dX10_turn_10 rfl (by decide) ?_
  change J _ _ _ _ _ _ [(0, _), (1, _), (2, _)] _ _ _
  exact h
set_option maxRecDepth 20000 in
set_option maxHeartbeats 2000000 in
theorem bk_X10_turn_11 {d : Nat} {I : HI} {Q : Option AV → AH → Prop} {a1 : Int} {a2 : Int}  (h : (((I 2 2) ≤ a2 → ((a1 ≤ 0 → Q (some (vI a1)) (mk I)) ∧ (¬ (a1 ≤ 0) → CV mX9_commit d [vR 32] I (fun I1 => Q (some (vI a1)) (mk I1))))) ∧ (¬ ((I 2 2) ≤ a2) → CI mX6_takeTurn d [vR 477, vI a2] I (fun x2 I2 => ((x2 = 0 → (-2147483648 ≤ a2 + 1 ∧ a2 + 1 ≤ 2147483647) ∧ J none mX10_turn (d + 1) 0 0 11 [(0, vR 0), (1, vI a1), (2, vI (a2 + 1))] [] (mk I2) Q) ∧ (¬ (x2 = 0) → (-2147483648 ≤ a1 + 1 ∧ a1 + 1 ≤ 2147483647) ∧ (-2147483648 ≤ a2 + 1 ∧ a2 + 1 ≤ 2147483647) ∧ J none mX10_turn (d + 1) 0 0 11 [(0, vR 0), (1, vI (a1 + 1)), (2, vI (a2 + 1))] [] (mk I2) Q)))))) : J none mX10_turn (d + 1) 0 0 11 [(0, vR 0), (1, vI a1), (2, vI a2)] [] (mk I) Q := by
  refine J_iload_n dX10_turn_11 rfl rfl ?_
  refine J_aload_n dX10_turn_12 rfl rfl ?_
  refine J_getR dX10_turn_13 ck_10 fw_X10_10 rfl sh_0 rr_0_0 ?_
  refine J_getR dX10_turn_16 ck_0 fw_X10_140 rfl sh_1 rr_1_0 ?_
  refine J_iconst dX10_turn_19 (ii_c rfl) ?_
  refine J_iald dX10_turn_20 sh_2 (by decide) (by decide) ?_
  refine J_ic_ge (tgt := 44) dX10_turn_21 (by decide) (fun c => ?_) (fun c => ?_)
  · replace h := h.1 c
    refine J_iload_n dX10_turn_44 rfl rfl ?_
    refine J_if_le (tgt := 55) dX10_turn_45 (by decide) (fun c => ?_) (fun c => ?_)
    · replace h := h.1 c
      refine J_iload_n dX10_turn_55 rfl rfl ?_
      exact J_reti dX10_turn_56 rfl h
    · replace h := h.2 c
      refine J_aload_n dX10_turn_48 rfl rfl ?_
      refine J_getR dX10_turn_49 ck_10 fw_X10_37 rfl sh_0 rr_0_4 ?_
      refine J_callV (as := []) (mc1 := 0) (ms1 := 0) (mc := 0) (ms := 0) dX10_turn_52 mv_X9_commit lk_X10_296 sh_32 rfl (Nat.le_of_ble_eq_true rfl) (Nat.le_of_ble_eq_true rfl) h (fun r σ hq _ => ?_)
      obtain ⟨I1, rfl, rfl, h⟩ := hq
      change J _ _ _ _ _ _ _ [] _ _
      refine J_iload_n dX10_turn_55 rfl rfl ?_
      exact J_reti dX10_turn_56 rfl h
  · replace h := h.2 c
    refine J_aload_n dX10_turn_24 rfl rfl ?_
    refine J_getR dX10_turn_25 ck_10 fw_X10_76 rfl sh_0 rr_0_9 ?_
    refine J_iload_n dX10_turn_28 rfl rfl ?_
    refine J_callV (as := [_]) (mc1 := 0) (ms1 := 0) (mc := 0) (ms := 0) dX10_turn_29 mv_X6_takeTurn lk_X10_302 sh_477 rfl (Nat.le_of_ble_eq_true rfl) (Nat.le_of_ble_eq_true rfl) h (fun r σ hq _ => ?_)
    obtain ⟨x2, I2, rfl, rfl, h⟩ := hq
    change J _ _ _ _ _ _ _ [vI x2] _ _
    refine J_if_eq (tgt := 38) dX10_turn_32 (by decide) (fun c => ?_) (fun c => ?_)
    · replace h := h.1 c
      refine J_iincN dX10_turn_38 rfl (by decide) h.1 ?_
      replace h := h.2
      change J _ _ _ _ _ _ [(0, _), (1, _), (2, _)] _ _ _
      refine J_goto (tgt := 11) dX10_turn_41 (by decide) ?_
      exact h
    · replace h := h.2 c
      refine J_iincN dX10_turn_35 rfl (by decide) h.1 ?_
      replace h := h.2
      change J _ _ _ _ _ _ [(0, _), (1, _), (2, _)] _ _ _
      refine J_iincN dX10_turn_38 rfl (by decide) h.1 ?_
      replace h := h.2
      change J _ _ _ _ _ _ [(0, _), (1, _), (2, _)] _ _ _
      refine J_goto (tgt := 11) dX10_turn_41 (by decide) ?_
      exact h
set_option maxRecDepth 20000 in
set_option maxHeartbeats 2000000 in
theorem bk_X10_lots_0 {d : Nat} {I : HI} {Q : Option AV → AH → Prop} {a1 : Int}  (h : CI mX10_isSaint d [vR 0, vI a1] I (fun x1 I1 => ((x1 ≠ 0 → J none mX10_lots (d + 1) 0 0 14 [(0, vR 0), (1, vI a1), (2, vI 0), (3, vI 0)] [] (mk I1) Q) ∧ (x1 = 0 → Q (some (vI (-1))) (mk I1))))) : J none mX10_lots (d + 1) 0 0 0 [(0, vR 0), (1, vI a1)] [] (mk I) Q := by
  refine J_aload_n dX10_lots_0 rfl rfl ?_
  refine J_iload_n dX10_lots_1 rfl rfl ?_
  refine J_callV (as := [_]) (mc1 := 0) (ms1 := 0) (mc := 0) (ms := 0) dX10_lots_2 mv_X10_isSaint lk_X10_184 sh_0 rfl (Nat.le_of_ble_eq_true rfl) (Nat.le_of_ble_eq_true rfl) h (fun r σ hq _ => ?_)
  obtain ⟨x1, I1, rfl, rfl, h⟩ := hq
  change J _ _ _ _ _ _ _ [vI x1] _ _
  refine J_if_ne (tgt := 10) dX10_lots_5 (by decide) (fun c => ?_) (fun c => ?_)
  · replace h := h.1 c
    refine J_iconst dX10_lots_10 (ii_c rfl) ?_
    refine J_istore_n dX10_lots_11 rfl (by decide) ?_
    change J _ _ _ _ _ _ [(0, _), (1, _), (2, _)] _ _ _
    refine J_iconst dX10_lots_12 (ii_c rfl) ?_
    refine J_istore_n dX10_lots_13 rfl (by decide) ?_
    change J _ _ _ _ _ _ [(0, _), (1, _), (2, _), (3, _)] _ _ _
    exact h
  · replace h := h.2 c
    refine J_iconst dX10_lots_8 (ii_c rfl) ?_
    exact J_reti dX10_lots_9 rfl h
set_option maxRecDepth 20000 in
set_option maxHeartbeats 2000000 in
theorem bk_X10_lots_14 {d : Nat} {I : HI} {Q : Option AV → AH → Prop} {a1 : Int} {a2 : Int} {a3 : Int}  (h : ((256 ≤ a3 → Q (some (vI a2)) (mk I)) ∧ (¬ (256 ≤ a3) → CI mX6_drawOrder d [vR 477, vI a3] I (fun x1 I1 => ((x1 = 0 → (-2147483648 ≤ a3 + 1 ∧ a3 + 1 ≤ 2147483647) ∧ J none mX10_lots (d + 1) 0 0 14 [(0, vR 0), (1, vI a1), (2, vI a2), (3, vI (a3 + 1))] [] (mk I1) Q) ∧ (¬ (x1 = 0) → CI mX6_luckyIn d [vR 477, vI a1] I1 (fun x2 I2 => ((x2 = 0 → (-2147483648 ≤ a3 + 1 ∧ a3 + 1 ≤ 2147483647) ∧ J none mX10_lots (d + 1) 0 0 14 [(0, vR 0), (1, vI a1), (2, vI a2), (3, vI (a3 + 1))] [] (mk I2) Q) ∧ (¬ (x2 = 0) → (-2147483648 ≤ a2 + 1 ∧ a2 + 1 ≤ 2147483647) ∧ (-2147483648 ≤ a3 + 1 ∧ a3 + 1 ≤ 2147483647) ∧ J none mX10_lots (d + 1) 0 0 14 [(0, vR 0), (1, vI a1), (2, vI (a2 + 1)), (3, vI (a3 + 1))] [] (mk I2) Q))))))))) : J none mX10_lots (d + 1) 0 0 14 [(0, vR 0), (1, vI a1), (2, vI a2), (3, vI a3)] [] (mk I) Q := by
  refine J_iload_n dX10_lots_14 rfl rfl ?_
  refine J_sipush dX10_lots_15 (ii_c rfl) (by decide) ?_
  refine J_ic_ge (tgt := 52) dX10_lots_18 (by decide) (fun c => ?_) (fun c => ?_)
  · replace h := h.1 c
    refine J_iload_n dX10_lots_52 rfl rfl ?_
    exact J_reti dX10_lots_53 rfl h
  · replace h := h.2 c
    refine J_aload_n dX10_lots_21 rfl rfl ?_
    refine J_getR dX10_lots_22 ck_10 fw_X10_76 rfl sh_0 rr_0_9 ?_
    refine J_iload_n dX10_lots_25 rfl rfl ?_
    refine J_callV (as := [_]) (mc1 := 0) (ms1 := 0) (mc := 0) (ms := 0) dX10_lots_26 mv_X6_drawOrder lk_X10_305 sh_477 rfl (Nat.le_of_ble_eq_true rfl) (Nat.le_of_ble_eq_true rfl) h (fun r σ hq _ => ?_)
    obtain ⟨x1, I1, rfl, rfl, h⟩ := hq
    change J _ _ _ _ _ _ _ [vI x1] _ _
    refine J_if_eq (tgt := 46) dX10_lots_29 (by decide) (fun c => ?_) (fun c => ?_)
    · replace h := h.1 c
      refine J_iincN dX10_lots_46 rfl (by decide) h.1 ?_
      replace h := h.2
      change J _ _ _ _ _ _ [(0, _), (1, _), (2, _), (3, _)] _ _ _
      refine J_goto (tgt := 14) dX10_lots_49 (by decide) ?_
      exact h
    · replace h := h.2 c
      refine J_aload_n dX10_lots_32 rfl rfl ?_
      refine J_getR dX10_lots_33 ck_10 fw_X10_76 rfl sh_0 rr_0_9 ?_
      refine J_iload_n dX10_lots_36 rfl rfl ?_
      refine J_callV (as := [_]) (mc1 := 0) (ms1 := 0) (mc := 0) (ms := 0) dX10_lots_37 mv_X6_luckyIn lk_X10_308 sh_477 rfl (Nat.le_of_ble_eq_true rfl) (Nat.le_of_ble_eq_true rfl) h (fun r σ hq _ => ?_)
      obtain ⟨x2, I2, rfl, rfl, h⟩ := hq
      change J _ _ _ _ _ _ _ [vI x2] _ _
      refine J_if_eq (tgt := 46) dX10_lots_40 (by decide) (fun c => ?_) (fun c => ?_)
      · replace h := h.1 c
        refine J_iincN dX10_lots_46 rfl (by decide) h.1 ?_
        replace h := h.2
        change J _ _ _ _ _ _ [(0, _), (1, _), (2, _), (3, _)] _ _ _
        refine J_goto (tgt := 14) dX10_lots_49 (by decide) ?_
        exact h
      · replace h := h.2 c
        refine J_iincN dX10_lots_43 rfl (by decide) h.1 ?_
        replace h := h.2
        change J _ _ _ _ _ _ [(0, _), (1, _), (2, _), (3, _)] _ _ _
        refine J_iincN dX10_lots_46 rfl (by decide) h.1 ?_
        replace h := h.2
        change J _ _ _ _ _ _ [(0, _), (1, _), (2, _), (3, _)] _ _ _
        refine J_goto (tgt := 14) dX10_lots_49 (by decide) ?_
        exact h
set_option maxRecDepth 20000 in
set_option maxHeartbeats 2000000 in
theorem bk_X10_dawn_0 {d : Nat} {I : HI} {Q : Option AV → AH → Prop} {a1 : Int} {a2 : Int} {a3 : Int}  (h : ((a1 < 0 → Q (some (vI (-1))) (mk I)) ∧ (¬ (a1 < 0) → (((oSl 1 (I 2 1)) ≤ a1 → Q (some (vI (-1))) (mk I)) ∧ (¬ ((oSl 1 (I 2 1)) ≤ a1) → CI mX10_isMinute d [vR 0, vI a2] I (fun x1 I1 => ((x1 ≠ 0 → ((a3 < 0 → Q (some (vI (-1))) (mk I1)) ∧ (¬ (a3 < 0) → ((2 < a3 → Q (some (vI (-1))) (mk I1)) ∧ (¬ (2 < a3) → (((I1 2 2) ≤ 3 → CV mX2_look d [vR 482, vI a1, vI a2] I1 (fun I2 => ((a3 = 0 → Q (some (vI (I2 482 7))) (mk I2)) ∧ (a3 = 1 → (((I2 482 7) ≠ 0 → Q (some (vI (I2 482 8))) (mk I2)) ∧ ((I2 482 7) = 0 → Q (some (vI 0)) (mk I2)))) ∧ ((a3 ≠ 0 ∧ a3 ≠ 1) → (((I2 482 7) ≠ 0 → CI mX10_allSaints d [vR 0] I2 (fun x3 I3 => Q (some (vI (oA x3 (oX (I3 482 9) (-1))))) (mk I3))) ∧ ((I2 482 7) = 0 → Q (some (vI 0)) (mk I2))))))) ∧ (¬ ((I1 2 2) ≤ 3) → Q (some (vI (-1))) (mk I1)))))))) ∧ (x1 = 0 → Q (some (vI (-1))) (mk I1))))))))) : J none mX10_dawn (d + 1) 0 0 0 [(0, vR 0), (1, vI a1), (2, vI a2), (3, vI a3)] [] (mk I) Q := by
  refine J_iload_n dX10_dawn_0 rfl rfl ?_
  refine J_if_lt (tgt := 27) dX10_dawn_1 (by decide) (fun c => ?_) (fun c => ?_)
  · replace h := h.1 c
    refine J_iconst dX10_dawn_27 (ii_c rfl) ?_
    exact J_reti dX10_dawn_28 rfl h
  · replace h := h.2 c
    refine J_iload_n dX10_dawn_4 rfl rfl ?_
    refine J_iconst dX10_dawn_5 (ii_c rfl) ?_
    refine J_aload_n dX10_dawn_6 rfl rfl ?_
    refine J_getR dX10_dawn_7 ck_10 fw_X10_10 rfl sh_0 rr_0_0 ?_
    refine J_getR dX10_dawn_10 ck_0 fw_X10_140 rfl sh_1 rr_1_0 ?_
    refine J_iconst dX10_dawn_13 (ii_c rfl) ?_
    refine J_iald dX10_dawn_14 sh_2 (by decide) (by decide) ?_
    refine J_ishl dX10_dawn_15 ?_
    refine J_ic_ge (tgt := 27) dX10_dawn_16 (by decide) (fun c => ?_) (fun c => ?_)
    · replace h := h.1 c
      refine J_iconst dX10_dawn_27 (ii_c rfl) ?_
      exact J_reti dX10_dawn_28 rfl h
    · replace h := h.2 c
      refine J_aload_n dX10_dawn_19 rfl rfl ?_
      refine J_iload_n dX10_dawn_20 rfl rfl ?_
      refine J_callV (as := [_]) (mc1 := 0) (ms1 := 0) (mc := 0) (ms := 0) dX10_dawn_21 mv_X10_isMinute lk_X10_218 sh_0 rfl (Nat.le_of_ble_eq_true rfl) (Nat.le_of_ble_eq_true rfl) h (fun r σ hq _ => ?_)
      obtain ⟨x1, I1, rfl, rfl, h⟩ := hq
      change J _ _ _ _ _ _ _ [vI x1] _ _
      refine J_if_ne (tgt := 29) dX10_dawn_24 (by decide) (fun c => ?_) (fun c => ?_)
      · replace h := h.1 c
        refine J_iload_n dX10_dawn_29 rfl rfl ?_
        refine J_if_lt (tgt := 51) dX10_dawn_30 (by decide) (fun c => ?_) (fun c => ?_)
        · replace h := h.1 c
          refine J_iconst dX10_dawn_51 (ii_c rfl) ?_
          exact J_reti dX10_dawn_52 rfl h
        · replace h := h.2 c
          refine J_iload_n dX10_dawn_33 rfl rfl ?_
          refine J_iconst dX10_dawn_34 (ii_c rfl) ?_
          refine J_ic_gt (tgt := 51) dX10_dawn_35 (by decide) (fun c => ?_) (fun c => ?_)
          · replace h := h.1 c
            refine J_iconst dX10_dawn_51 (ii_c rfl) ?_
            exact J_reti dX10_dawn_52 rfl h
          · replace h := h.2 c
            refine J_aload_n dX10_dawn_38 rfl rfl ?_
            refine J_getR dX10_dawn_39 ck_10 fw_X10_10 rfl sh_0 rr_0_0 ?_
            refine J_getR dX10_dawn_42 ck_0 fw_X10_140 rfl sh_1 rr_1_0 ?_
            refine J_iconst dX10_dawn_45 (ii_c rfl) ?_
            refine J_iald dX10_dawn_46 sh_2 (by decide) (by decide) ?_
            refine J_iconst dX10_dawn_47 (ii_c rfl) ?_
            refine J_ic_le (tgt := 53) dX10_dawn_48 (by decide) (fun c => ?_) (fun c => ?_)
            · replace h := h.1 c
              refine J_aload_n dX10_dawn_53 rfl rfl ?_
              refine J_getR dX10_dawn_54 ck_10 fw_X10_85 rfl sh_0 rr_0_10 ?_
              refine J_iload_n dX10_dawn_57 rfl rfl ?_
              refine J_iload_n dX10_dawn_58 rfl rfl ?_
              refine J_callV (as := [_, _]) (mc1 := 0) (ms1 := 0) (mc := 0) (ms := 0) dX10_dawn_59 mv_X2_look lk_X10_311 sh_482 rfl (Nat.le_of_ble_eq_true rfl) (Nat.le_of_ble_eq_true rfl) h (fun r σ hq _ => ?_)
              obtain ⟨I2, rfl, rfl, h⟩ := hq
              change J _ _ _ _ _ _ _ [] _ _
              refine J_iload_n dX10_dawn_62 rfl rfl ?_
              rcases (show a3 = 0 ∨ a3 = 1 ∨ (a3 ≠ 0 ∧ a3 ≠ 1) by omega) with c | c | c
              · replace h := h.1 c
                refine J_look (tgt := 88) (off := 25) dX10_dawn_63 (by decide) (by rw [c]; rfl) (by decide) ?_
                refine J_aload_n dX10_dawn_88 rfl rfl ?_
                refine J_getR dX10_dawn_89 ck_10 fw_X10_85 rfl sh_0 rr_0_10 ?_
                refine J_getI dX10_dawn_92 ck_2 fw_X10_315 rfl sh_482 ?_
                exact J_reti dX10_dawn_95 rfl h
              · replace h := h.2.1 c
                refine J_look (tgt := 96) (off := 33) dX10_dawn_63 (by decide) (by rw [c]; rfl) (by decide) ?_
                refine J_aload_n dX10_dawn_96 rfl rfl ?_
                refine J_getR dX10_dawn_97 ck_10 fw_X10_85 rfl sh_0 rr_0_10 ?_
                refine J_getI dX10_dawn_100 ck_2 fw_X10_315 rfl sh_482 ?_
                refine J_if_ne (tgt := 110) dX10_dawn_103 (by decide) (fun c => ?_) (fun c => ?_)
                · replace h := h.1 c
                  refine J_aload_n dX10_dawn_110 rfl rfl ?_
                  refine J_getR dX10_dawn_111 ck_10 fw_X10_85 rfl sh_0 rr_0_10 ?_
                  refine J_getI dX10_dawn_114 ck_2 fw_X10_318 rfl sh_482 ?_
                  exact J_reti dX10_dawn_117 rfl h
                · replace h := h.2 c
                  refine J_iconst dX10_dawn_106 (ii_c rfl) ?_
                  refine J_goto (tgt := 117) dX10_dawn_107 (by decide) ?_
                  exact J_reti dX10_dawn_117 rfl h
              · replace h := h.2.2 c
                refine J_look (tgt := 118) (off := 55) dX10_dawn_63 (by decide) (by simp [Op.lookupswitch.offset, Ne.symm (c.1), Ne.symm (c.2)]) (by decide) ?_
                refine J_aload_n dX10_dawn_118 rfl rfl ?_
                refine J_getR dX10_dawn_119 ck_10 fw_X10_85 rfl sh_0 rr_0_10 ?_
                refine J_getI dX10_dawn_122 ck_2 fw_X10_315 rfl sh_482 ?_
                refine J_if_ne (tgt := 132) dX10_dawn_125 (by decide) (fun c => ?_) (fun c => ?_)
                · replace h := h.1 c
                  refine J_aload_n dX10_dawn_132 rfl rfl ?_
                  refine J_callV (as := []) (mc1 := 0) (ms1 := 0) (mc := 0) (ms := 0) dX10_dawn_133 mv_X10_allSaints lk_X10_283 sh_0 rfl (Nat.le_of_ble_eq_true rfl) (Nat.le_of_ble_eq_true rfl) h (fun r σ hq _ => ?_)
                  obtain ⟨x3, I3, rfl, rfl, h⟩ := hq
                  change J _ _ _ _ _ _ _ [vI x3] _ _
                  refine J_aload_n dX10_dawn_136 rfl rfl ?_
                  refine J_getR dX10_dawn_137 ck_10 fw_X10_85 rfl sh_0 rr_0_10 ?_
                  refine J_getI dX10_dawn_140 ck_2 fw_X10_321 rfl sh_482 ?_
                  refine J_iconst dX10_dawn_143 (ii_c rfl) ?_
                  refine J_ixor dX10_dawn_144 ?_
                  refine J_iand dX10_dawn_145 ?_
                  exact J_reti dX10_dawn_146 rfl h
                · replace h := h.2 c
                  refine J_iconst dX10_dawn_128 (ii_c rfl) ?_
                  refine J_goto (tgt := 146) dX10_dawn_129 (by decide) ?_
                  exact J_reti dX10_dawn_146 rfl h
            · replace h := h.2 c
              refine J_iconst dX10_dawn_51 (ii_c rfl) ?_
              exact J_reti dX10_dawn_52 rfl h
      · replace h := h.2 c
        refine J_iconst dX10_dawn_27 (ii_c rfl) ?_
        exact J_reti dX10_dawn_28 rfl h
set_option maxRecDepth 20000 in
set_option maxHeartbeats 2000000 in
theorem bk_X10_image_0 {d : Nat} {I : HI} {Q : Option AV → AH → Prop}   (h : CI mX9_draw d [vR 32, vR 488] I (fun x1 I1 => (∀ I2 : HI, I2 = up I1 0 13 x1 → Q (some (vI (I2 0 13))) (mk I2)))) : J none mX10_image (d + 1) 0 0 0 [(0, vR 0)] [] (mk I) Q := by
  refine J_aload_n dX10_image_0 rfl rfl ?_
  refine J_aload_n dX10_image_1 rfl rfl ?_
  refine J_getR dX10_image_2 ck_10 fw_X10_37 rfl sh_0 rr_0_4 ?_
  refine J_aload_n dX10_image_5 rfl rfl ?_
  refine J_getR dX10_image_6 ck_10 fw_X10_89 rfl sh_0 rr_0_11 ?_
  refine J_callV (as := [_]) (mc1 := 0) (ms1 := 0) (mc := 0) (ms := 0) dX10_image_9 mv_X9_draw lk_X10_324 sh_32 rfl (Nat.le_of_ble_eq_true rfl) (Nat.le_of_ble_eq_true rfl) h (fun r σ hq _ => ?_)
  obtain ⟨x1, I1, rfl, rfl, h⟩ := hq
  change J _ _ _ _ _ _ _ [vI x1, _] _ _
  refine J_putI dX10_image_12 ck_10 fw_X10_328 rfl rfl (Or.inl rfl) sh_0 ?_
  replace h := h _ rfl
  refine J_aload_n dX10_image_15 rfl rfl ?_
  refine J_getI dX10_image_16 ck_10 fw_X10_328 rfl sh_0 ?_
  exact J_reti dX10_image_19 rfl h
set_option maxRecDepth 20000 in
set_option maxHeartbeats 2000000 in
theorem bk_X10_octet_0 {d : Nat} {I : HI} {Q : Option AV → AH → Prop} {a1 : Int}  (h : ((a1 < 0 → Q (some (vI (-1))) (mk I)) ∧ (¬ (a1 < 0) → ((a1 < (I 0 13) → ((0 : Int) ≤ a1 ∧ (a1 : Int) < 104) ∧ Q (some (vI (I 488 a1.toNat))) (mk I)) ∧ (¬ (a1 < (I 0 13)) → Q (some (vI (-1))) (mk I)))))) : J none mX10_octet (d + 1) 0 0 0 [(0, vR 0), (1, vI a1)] [] (mk I) Q := by
  refine J_iload_n dX10_octet_0 rfl rfl ?_
  refine J_if_lt (tgt := 12) dX10_octet_1 (by decide) (fun c => ?_) (fun c => ?_)
  · replace h := h.1 c
    refine J_iconst dX10_octet_12 (ii_c rfl) ?_
    refine J_goto (tgt := 22) dX10_octet_13 (by decide) ?_
    exact J_reti dX10_octet_22 rfl h
  · replace h := h.2 c
    refine J_iload_n dX10_octet_4 rfl rfl ?_
    refine J_aload_n dX10_octet_5 rfl rfl ?_
    refine J_getI dX10_octet_6 ck_10 fw_X10_328 rfl sh_0 ?_
    refine J_ic_lt (tgt := 16) dX10_octet_9 (by decide) (fun c => ?_) (fun c => ?_)
    · replace h := h.1 c
      refine J_aload_n dX10_octet_16 rfl rfl ?_
      refine J_getR dX10_octet_17 ck_10 fw_X10_89 rfl sh_0 rr_0_11 ?_
      refine J_iload_n dX10_octet_20 rfl rfl ?_
      refine J_iald dX10_octet_21 sh_488 h.1.1 h.1.2 ?_
      replace h := h.2
      exact J_reti dX10_octet_22 rfl h
    · replace h := h.2 c
      refine J_iconst dX10_octet_12 (ii_c rfl) ?_
      refine J_goto (tgt := 22) dX10_octet_13 (by decide) ?_
      exact J_reti dX10_octet_22 rfl h
set_option maxRecDepth 20000 in
set_option maxHeartbeats 2000000 in
theorem bk_X10_back_0 {d : Nat} {I : HI} {Q : Option AV → AH → Prop}   (h : (∀ I1 : HI, I1 = up I 0 12 0 → CI mX9_accept d [vR 32, vR 27, vI (I 0 12)] I1 (fun x1 I2 => (x1 = 0 ∨ x1 = 1) ∧ Q (some (vI x1)) (mk I2)))) : J none mX10_back (d + 1) 0 0 0 [(0, vR 0)] [] (mk I) Q := by
  refine J_aload_n dX10_back_0 rfl rfl ?_
  refine J_getI dX10_back_1 ck_10 fw_X10_102 rfl sh_0 ?_
  refine J_istore_n dX10_back_4 rfl (by decide) ?_
  change J _ _ _ _ _ _ [(0, _), (1, _)] _ _ _
  refine J_aload_n dX10_back_5 rfl rfl ?_
  refine J_iconst dX10_back_6 (ii_c rfl) ?_
  refine J_putI dX10_back_7 ck_10 fw_X10_102 rfl rfl (Or.inl rfl) sh_0 ?_
  replace h := h _ rfl
  refine J_aload_n dX10_back_10 rfl rfl ?_
  refine J_getR dX10_back_11 ck_10 fw_X10_37 rfl sh_0 rr_0_4 ?_
  refine J_aload_n dX10_back_14 rfl rfl ?_
  refine J_getR dX10_back_15 ck_10 fw_X10_19 rfl sh_0 rr_0_2 ?_
  refine J_iload_n dX10_back_18 rfl rfl ?_
  refine J_callV (as := [_, _]) (mc1 := 0) (ms1 := 0) (mc := 0) (ms := 0) dX10_back_19 mv_X9_accept lk_X10_331 sh_32 rfl (Nat.le_of_ble_eq_true rfl) (Nat.le_of_ble_eq_true rfl) h (fun r σ hq _ => ?_)
  obtain ⟨x1, I2, rfl, rfl, h⟩ := hq
  change J _ _ _ _ _ _ _ [vI x1] _ _
  exact J_retz dX10_back_22 rfl h.1 h.2
set_option maxRecDepth 20000 in
set_option maxHeartbeats 2000000 in
theorem bk_X10_isCorner_0 {d : Nat} {I : HI} {Q : Option AV → AH → Prop} {a1 : Int}  (h : ((a1 < 0 → Q (some (vI 0)) (mk I)) ∧ (¬ (a1 < 0) → (((I 2 0) ≤ a1 → Q (some (vI 0)) (mk I)) ∧ (¬ ((I 2 0) ≤ a1) → Q (some (vI 1)) (mk I)))))) : J none mX10_isCorner (d + 1) 0 0 0 [(0, vR 0), (1, vI a1)] [] (mk I) Q := by
  refine J_iload_n dX10_isCorner_0 rfl rfl ?_
  refine J_if_lt (tgt := 21) dX10_isCorner_1 (by decide) (fun c => ?_) (fun c => ?_)
  · replace h := h.1 c
    refine J_iconst dX10_isCorner_21 (ii_c rfl) ?_
    exact J_retz dX10_isCorner_22 rfl (Or.inl rfl) h
  · replace h := h.2 c
    refine J_iload_n dX10_isCorner_4 rfl rfl ?_
    refine J_aload_n dX10_isCorner_5 rfl rfl ?_
    refine J_getR dX10_isCorner_6 ck_10 fw_X10_10 rfl sh_0 rr_0_0 ?_
    refine J_getR dX10_isCorner_9 ck_0 fw_X10_140 rfl sh_1 rr_1_0 ?_
    refine J_iconst dX10_isCorner_12 (ii_c rfl) ?_
    refine J_iald dX10_isCorner_13 sh_2 (by decide) (by decide) ?_
    refine J_ic_ge (tgt := 21) dX10_isCorner_14 (by decide) (fun c => ?_) (fun c => ?_)
    · replace h := h.1 c
      refine J_iconst dX10_isCorner_21 (ii_c rfl) ?_
      exact J_retz dX10_isCorner_22 rfl (Or.inl rfl) h
    · replace h := h.2 c
      refine J_iconst dX10_isCorner_17 (ii_c rfl) ?_
      refine J_goto (tgt := 22) dX10_isCorner_18 (by decide) ?_
      exact J_retz dX10_isCorner_22 rfl (Or.inr rfl) h
set_option maxRecDepth 20000 in
set_option maxHeartbeats 2000000 in
theorem bk_X10_isLane_0 {d : Nat} {I : HI} {Q : Option AV → AH → Prop} {a1 : Int}  (h : ((a1 < 0 → Q (some (vI 0)) (mk I)) ∧ (¬ (a1 < 0) → (((I 2 1) ≤ a1 → Q (some (vI 0)) (mk I)) ∧ (¬ ((I 2 1) ≤ a1) → Q (some (vI 1)) (mk I)))))) : J none mX10_isLane (d + 1) 0 0 0 [(0, vR 0), (1, vI a1)] [] (mk I) Q := by
  refine J_iload_n dX10_isLane_0 rfl rfl ?_
  refine J_if_lt (tgt := 21) dX10_isLane_1 (by decide) (fun c => ?_) (fun c => ?_)
  · replace h := h.1 c
    refine J_iconst dX10_isLane_21 (ii_c rfl) ?_
    exact J_retz dX10_isLane_22 rfl (Or.inl rfl) h
  · replace h := h.2 c
    refine J_iload_n dX10_isLane_4 rfl rfl ?_
    refine J_aload_n dX10_isLane_5 rfl rfl ?_
    refine J_getR dX10_isLane_6 ck_10 fw_X10_10 rfl sh_0 rr_0_0 ?_
    refine J_getR dX10_isLane_9 ck_0 fw_X10_140 rfl sh_1 rr_1_0 ?_
    refine J_iconst dX10_isLane_12 (ii_c rfl) ?_
    refine J_iald dX10_isLane_13 sh_2 (by decide) (by decide) ?_
    refine J_ic_ge (tgt := 21) dX10_isLane_14 (by decide) (fun c => ?_) (fun c => ?_)
    · replace h := h.1 c
      refine J_iconst dX10_isLane_21 (ii_c rfl) ?_
      exact J_retz dX10_isLane_22 rfl (Or.inl rfl) h
    · replace h := h.2 c
      refine J_iconst dX10_isLane_17 (ii_c rfl) ?_
      refine J_goto (tgt := 22) dX10_isLane_18 (by decide) ?_
      exact J_retz dX10_isLane_22 rfl (Or.inr rfl) h
set_option maxRecDepth 20000 in
set_option maxHeartbeats 2000000 in
theorem bk_X10_isSaint_0 {d : Nat} {I : HI} {Q : Option AV → AH → Prop} {a1 : Int}  (h : ((a1 < 0 → Q (some (vI 0)) (mk I)) ∧ (¬ (a1 < 0) → (((I 2 2) ≤ a1 → Q (some (vI 0)) (mk I)) ∧ (¬ ((I 2 2) ≤ a1) → Q (some (vI 1)) (mk I)))))) : J none mX10_isSaint (d + 1) 0 0 0 [(0, vR 0), (1, vI a1)] [] (mk I) Q := by
  refine J_iload_n dX10_isSaint_0 rfl rfl ?_
  refine J_if_lt (tgt := 21) dX10_isSaint_1 (by decide) (fun c => ?_) (fun c => ?_)
  · replace h := h.1 c
    refine J_iconst dX10_isSaint_21 (ii_c rfl) ?_
    exact J_retz dX10_isSaint_22 rfl (Or.inl rfl) h
  · replace h := h.2 c
    refine J_iload_n dX10_isSaint_4 rfl rfl ?_
    refine J_aload_n dX10_isSaint_5 rfl rfl ?_
    refine J_getR dX10_isSaint_6 ck_10 fw_X10_10 rfl sh_0 rr_0_0 ?_
    refine J_getR dX10_isSaint_9 ck_0 fw_X10_140 rfl sh_1 rr_1_0 ?_
    refine J_iconst dX10_isSaint_12 (ii_c rfl) ?_
    refine J_iald dX10_isSaint_13 sh_2 (by decide) (by decide) ?_
    refine J_ic_ge (tgt := 21) dX10_isSaint_14 (by decide) (fun c => ?_) (fun c => ?_)
    · replace h := h.1 c
      refine J_iconst dX10_isSaint_21 (ii_c rfl) ?_
      exact J_retz dX10_isSaint_22 rfl (Or.inl rfl) h
    · replace h := h.2 c
      refine J_iconst dX10_isSaint_17 (ii_c rfl) ?_
      refine J_goto (tgt := 22) dX10_isSaint_18 (by decide) ?_
      exact J_retz dX10_isSaint_22 rfl (Or.inr rfl) h
set_option maxRecDepth 20000 in
set_option maxHeartbeats 2000000 in
theorem bk_X10_isMinute_0 {d : Nat} {I : HI} {Q : Option AV → AH → Prop} {a1 : Int}  (h : ((a1 < 0 → Q (some (vI 0)) (mk I)) ∧ (¬ (a1 < 0) → ((999 < a1 → Q (some (vI 0)) (mk I)) ∧ (¬ (999 < a1) → Q (some (vI 1)) (mk I)))))) : J none mX10_isMinute (d + 1) 0 0 0 [(0, vR 0), (1, vI a1)] [] (mk I) Q := by
  refine J_iload_n dX10_isMinute_0 rfl rfl ?_
  refine J_if_lt (tgt := 15) dX10_isMinute_1 (by decide) (fun c => ?_) (fun c => ?_)
  · replace h := h.1 c
    refine J_iconst dX10_isMinute_15 (ii_c rfl) ?_
    exact J_retz dX10_isMinute_16 rfl (Or.inl rfl) h
  · replace h := h.2 c
    refine J_iload_n dX10_isMinute_4 rfl rfl ?_
    refine J_sipush dX10_isMinute_5 (ii_c rfl) (by decide) ?_
    refine J_ic_gt (tgt := 15) dX10_isMinute_8 (by decide) (fun c => ?_) (fun c => ?_)
    · replace h := h.1 c
      refine J_iconst dX10_isMinute_15 (ii_c rfl) ?_
      exact J_retz dX10_isMinute_16 rfl (Or.inl rfl) h
    · replace h := h.2 c
      refine J_iconst dX10_isMinute_11 (ii_c rfl) ?_
      refine J_goto (tgt := 16) dX10_isMinute_12 (by decide) ?_
      exact J_retz dX10_isMinute_16 rfl (Or.inr rfl) h
set_option maxRecDepth 20000 in
set_option maxHeartbeats 2000000 in
theorem bk_X10_allSaints_0 {d : Nat} {I : HI} {Q : Option AV → AH → Prop}   (h : (-2147483648 ≤ (oSl 1 (I 2 2)) - 1 ∧ (oSl 1 (I 2 2)) - 1 ≤ 2147483647) ∧ Q (some (vI ((oSl 1 (I 2 2)) - 1))) (mk I)) : J none mX10_allSaints (d + 1) 0 0 0 [(0, vR 0)] [] (mk I) Q := by
  refine J_iconst dX10_allSaints_0 (ii_c rfl) ?_
  refine J_aload_n dX10_allSaints_1 rfl rfl ?_
  refine J_getR dX10_allSaints_2 ck_10 fw_X10_10 rfl sh_0 rr_0_0 ?_
  refine J_getR dX10_allSaints_5 ck_0 fw_X10_140 rfl sh_1 rr_1_0 ?_
  refine J_iconst dX10_allSaints_8 (ii_c rfl) ?_
  refine J_iald dX10_allSaints_9 sh_2 (by decide) (by decide) ?_
  refine J_ishl dX10_allSaints_10 ?_
  refine J_iconst dX10_allSaints_11 (ii_c rfl) ?_
  refine J_isubN dX10_allSaints_12 h.1 ?_
  replace h := h.2
  exact J_reti dX10_allSaints_13 rfl h
set_option maxRecDepth 20000 in
set_option maxHeartbeats 2000000 in
theorem bk_X10_pairOf_0 {d : Nat} {I : HI} {Q : Option AV → AH → Prop} {a0 : Int} {a1 : Int}  (h : (-2147483648 ≤ 7 - a0 ∧ 7 - a0 ≤ 2147483647) ∧ (-2147483648 ≤ a0 * (7 - a0) ∧ a0 * (7 - a0) ≤ 2147483647) ∧ (-2147483648 ≤ (oD (a0 * (7 - a0)) 2) + a1 ∧ (oD (a0 * (7 - a0)) 2) + a1 ≤ 2147483647) ∧ (-2147483648 ≤ ((oD (a0 * (7 - a0)) 2) + a1) - a0 ∧ ((oD (a0 * (7 - a0)) 2) + a1) - a0 ≤ 2147483647) ∧ (-2147483648 ≤ (((oD (a0 * (7 - a0)) 2) + a1) - a0) - 1 ∧ (((oD (a0 * (7 - a0)) 2) + a1) - a0) - 1 ≤ 2147483647) ∧ Q (some (vI ((((oD (a0 * (7 - a0)) 2) + a1) - a0) - 1))) (mk I)) : J none mX10_pairOf (d + 1) 0 0 0 [(0, vI a0), (1, vI a1)] [] (mk I) Q := by
  refine J_iload_n dX10_pairOf_0 rfl rfl ?_
  refine J_bipush dX10_pairOf_1 (ii_c rfl) (by decide) ?_
  refine J_iload_n dX10_pairOf_3 rfl rfl ?_
  refine J_isubN dX10_pairOf_4 h.1 ?_
  replace h := h.2
  refine J_imulN dX10_pairOf_5 h.1 ?_
  replace h := h.2
  refine J_iconst dX10_pairOf_6 (ii_c rfl) ?_
  refine J_idiv dX10_pairOf_7 (by decide) ?_
  refine J_iload_n dX10_pairOf_8 rfl rfl ?_
  refine J_iaddN dX10_pairOf_9 h.1 ?_
  replace h := h.2
  refine J_iload_n dX10_pairOf_10 rfl rfl ?_
  refine J_isubN dX10_pairOf_11 h.1 ?_
  replace h := h.2
  refine J_iconst dX10_pairOf_12 (ii_c rfl) ?_
  refine J_isubN dX10_pairOf_13 h.1 ?_
  replace h := h.2
  exact J_reti dX10_pairOf_14 rfl h
set_option maxRecDepth 20000 in
set_option maxHeartbeats 2000000 in
theorem bk_X7_open_0 {d : Nat} {I : HI} {Q : Option AV → AH → Prop} {a1 : Int}  (h : CV mX7_cut d [vR 28, vI (min a1 1600)] I (fun I1 => (∀ I2 : HI, I2 = up I1 28 5 0 → (∀ I3 : HI, I3 = up I2 28 7 0 → (∀ I4 : HI, I4 = up I3 28 8 29 → (∀ I5 : HI, I5 = up I4 28 12 0 → (∀ I6 : HI, I6 = up I5 28 13 0 → (∀ I7 : HI, I7 = up I6 28 14 (-1) → CV mX0_empty d [vR 14] I7 (fun I8 => CV mX7_advance d [vR 28] I8 (fun I9 => Q none (mk I9))))))))))) : J none mX7_open (d + 1) 0 0 0 [(0, vR 28), (1, vI a1)] [] (mk I) Q := by
  refine J_aload_n dX7_open_0 rfl rfl ?_
  refine J_iload_n dX7_open_1 rfl rfl ?_
  refine J_sipush dX7_open_2 (ii_c rfl) (by decide) ?_
  refine J_min dX7_open_5 lk_X7_28 (Nat.le_of_ble_eq_true rfl) ?_
  refine J_callV (as := [_]) (mc1 := 0) (ms1 := 0) (mc := 0) (ms := 0) dX7_open_8 mv_X7_cut lk_X7_34 sh_28 rfl (Nat.le_of_ble_eq_true rfl) (Nat.le_of_ble_eq_true rfl) h (fun r σ hq _ => ?_)
  obtain ⟨I1, rfl, rfl, h⟩ := hq
  change J _ _ _ _ _ _ _ [] _ _
  refine J_aload_n dX7_open_11 rfl rfl ?_
  refine J_iconst dX7_open_12 (ii_c rfl) ?_
  refine J_putI dX7_open_13 ck_7 fw_X7_38 rfl rfl (Or.inl rfl) sh_28 ?_
  replace h := h _ rfl
  refine J_aload_n dX7_open_16 rfl rfl ?_
  refine J_iconst dX7_open_17 (ii_c rfl) ?_
  refine J_putI dX7_open_18 ck_7 fw_X7_42 rfl rfl (Or.inl rfl) sh_28 ?_
  replace h := h _ rfl
  refine J_aload_n dX7_open_21 rfl rfl ?_
  refine J_bipush dX7_open_22 (ii_c rfl) (by decide) ?_
  refine J_putI dX7_open_24 ck_7 fw_X7_45 rfl rfl (Or.inl rfl) sh_28 ?_
  replace h := h _ rfl
  refine J_aload_n dX7_open_27 rfl rfl ?_
  refine J_iconst dX7_open_28 (ii_c rfl) ?_
  refine J_putI dX7_open_29 ck_7 fw_X7_48 rfl rfl (Or.inl rfl) sh_28 ?_
  replace h := h _ rfl
  refine J_aload_n dX7_open_32 rfl rfl ?_
  refine J_iconst dX7_open_33 (ii_c rfl) ?_
  refine J_putI dX7_open_34 ck_7 fw_X7_51 rfl rfl (Or.inl rfl) sh_28 ?_
  replace h := h _ rfl
  refine J_aload_n dX7_open_37 rfl rfl ?_
  refine J_iconst dX7_open_38 (ii_c rfl) ?_
  refine J_putI dX7_open_39 ck_7 fw_X7_54 rfl rfl (Or.inl rfl) sh_28 ?_
  replace h := h _ rfl
  refine J_aload_n dX7_open_42 rfl rfl ?_
  refine J_getR dX7_open_43 ck_7 fw_X7_21 rfl sh_28 rr_28_0 ?_
  refine J_callV (as := []) (mc1 := 0) (ms1 := 0) (mc := 0) (ms := 0) dX7_open_46 mv_X0_empty lk_X7_57 sh_14 rfl (Nat.le_of_ble_eq_true rfl) (Nat.le_of_ble_eq_true rfl) h (fun r σ hq _ => ?_)
  obtain ⟨I8, rfl, rfl, h⟩ := hq
  change J _ _ _ _ _ _ _ [] _ _
  refine J_aload_n dX7_open_49 rfl rfl ?_
  refine J_callV (as := []) (mc1 := 0) (ms1 := 0) (mc := 0) (ms := 0) dX7_open_50 mv_X7_advance lk_X7_62 sh_28 rfl (Nat.le_of_ble_eq_true rfl) (Nat.le_of_ble_eq_true rfl) h (fun r σ hq _ => ?_)
  obtain ⟨I9, rfl, rfl, h⟩ := hq
  change J _ _ _ _ _ _ _ [] _ _
  exact J_retv dX7_open_53 rfl h
set_option maxRecDepth 20000 in
set_option maxHeartbeats 2000000 in
theorem bk_X7_cut_0 {d : Nat} {I : HI} {Q : Option AV → AH → Prop} {a1 : Int}  (h : J none mX7_cut (d + 1) 0 0 4 [(0, vR 28), (1, vI a1), (2, vI 0), (3, vI 0)] [] (mk I) Q) : J none mX7_cut (d + 1) 0 0 0 [(0, vR 28), (1, vI a1)] [] (mk I) Q := by
  refine J_iconst dX7_cut_0 (ii_c rfl) ?_
  refine J_istore_n dX7_cut_1 rfl (by decide) ?_
  change J _ _ _ _ _ _ [(0, _), (1, _), (2, _)] _ _ _
  refine J_iconst dX7_cut_2 (ii_c rfl) ?_
  refine J_istore_n dX7_cut_3 rfl (by decide) ?_
  change J _ _ _ _ _ _ [(0, _), (1, _), (2, _), (3, _)] _ _ _
  exact h
set_option maxRecDepth 20000 in
set_option maxHeartbeats 2000000 in
theorem bk_X7_cut_4 {d : Nat} {I : HI} {Q : Option AV → AH → Prop} {a1 : Int} {a2 : Int} {a3 : Int}  (h : ((a1 ≤ a3 → ((0 : Int) ≤ a2 ∧ (a2 : Int) < 1601) ∧ (∀ I1 : HI, I1 = up I 29 a2.toNat a1 → ((0 : Int) ≤ a2 ∧ (a2 : Int) < 1601) ∧ (∀ I2 : HI, I2 = up I1 30 a2.toNat a1 → ((0 : Int) ≤ a2 ∧ (a2 : Int) < 1601) ∧ (∀ I3 : HI, I3 = up I2 31 a2.toNat 30 → Q none (mk I3))))) ∧ (¬ (a1 ≤ a3) → (-2147483648 ≤ a3 + 1 ∧ a3 + 1 ≤ 2147483647) ∧ ((0 : Int) ≤ a3 ∧ (a3 : Int) < 1600) ∧ (((I 27 a3.toNat) = 10 → J none mX7_cut (d + 1) 0 0 4 [(0, vR 28), (1, vI a1), (2, vI a2), (3, vI (a3 + 1))] [] (mk I) Q) ∧ (¬ ((I 27 a3.toNat) = 10) → (((I 27 a3.toNat) ≠ 32 → (((I 27 a3.toNat) < 97 → (((I 27 a3.toNat) < 48 → ((0 : Int) ≤ a2 ∧ (a2 : Int) < 1601) ∧ (∀ I4 : HI, I4 = up I 29 a2.toNat a3 → ((0 : Int) ≤ a2 ∧ (a2 : Int) < 1601) ∧ (∀ I5 : HI, I5 = up I4 30 a2.toNat (a3 + 1) → (-2147483648 ≤ a2 + 1 ∧ a2 + 1 ≤ 2147483647) ∧ ((0 : Int) ≤ a2 ∧ (a2 : Int) < 1601) ∧ (∀ I6 : HI, I6 = up I5 31 a2.toNat 29 → J none mX7_cut (d + 1) 0 0 4 [(0, vR 28), (1, vI a1), (2, vI (a2 + 1)), (3, vI (a3 + 1))] [] (mk I6) Q)))) ∧ (¬ ((I 27 a3.toNat) < 48) → ((57 < (I 27 a3.toNat) → ((0 : Int) ≤ a2 ∧ (a2 : Int) < 1601) ∧ (∀ I7 : HI, I7 = up I 29 a2.toNat a3 → ((0 : Int) ≤ a2 ∧ (a2 : Int) < 1601) ∧ (∀ I8 : HI, I8 = up I7 30 a2.toNat (a3 + 1) → (-2147483648 ≤ a2 + 1 ∧ a2 + 1 ≤ 2147483647) ∧ ((0 : Int) ≤ a2 ∧ (a2 : Int) < 1601) ∧ (∀ I9 : HI, I9 = up I8 31 a2.toNat 29 → J none mX7_cut (d + 1) 0 0 4 [(0, vR 28), (1, vI a1), (2, vI (a2 + 1)), (3, vI (a3 + 1))] [] (mk I9) Q)))) ∧ (¬ (57 < (I 27 a3.toNat)) → J none mX7_cut (d + 1) 0 0 117 [(0, vR 28), (1, vI a1), (2, vI a2), (3, vI (a3 + 1)), (4, vI a3), (5, vI (I 27 a3.toNat)), (6, vI 29)] [] (mk I) Q))))) ∧ (¬ ((I 27 a3.toNat) < 97) → ((122 < (I 27 a3.toNat) → (((I 27 a3.toNat) < 48 → ((0 : Int) ≤ a2 ∧ (a2 : Int) < 1601) ∧ (∀ I10 : HI, I10 = up I 29 a2.toNat a3 → ((0 : Int) ≤ a2 ∧ (a2 : Int) < 1601) ∧ (∀ I11 : HI, I11 = up I10 30 a2.toNat (a3 + 1) → (-2147483648 ≤ a2 + 1 ∧ a2 + 1 ≤ 2147483647) ∧ ((0 : Int) ≤ a2 ∧ (a2 : Int) < 1601) ∧ (∀ I12 : HI, I12 = up I11 31 a2.toNat 29 → J none mX7_cut (d + 1) 0 0 4 [(0, vR 28), (1, vI a1), (2, vI (a2 + 1)), (3, vI (a3 + 1))] [] (mk I12) Q)))) ∧ (¬ ((I 27 a3.toNat) < 48) → ((57 < (I 27 a3.toNat) → ((0 : Int) ≤ a2 ∧ (a2 : Int) < 1601) ∧ (∀ I13 : HI, I13 = up I 29 a2.toNat a3 → ((0 : Int) ≤ a2 ∧ (a2 : Int) < 1601) ∧ (∀ I14 : HI, I14 = up I13 30 a2.toNat (a3 + 1) → (-2147483648 ≤ a2 + 1 ∧ a2 + 1 ≤ 2147483647) ∧ ((0 : Int) ≤ a2 ∧ (a2 : Int) < 1601) ∧ (∀ I15 : HI, I15 = up I14 31 a2.toNat 29 → J none mX7_cut (d + 1) 0 0 4 [(0, vR 28), (1, vI a1), (2, vI (a2 + 1)), (3, vI (a3 + 1))] [] (mk I15) Q)))) ∧ (¬ (57 < (I 27 a3.toNat)) → J none mX7_cut (d + 1) 0 0 117 [(0, vR 28), (1, vI a1), (2, vI a2), (3, vI (a3 + 1)), (4, vI a3), (5, vI (I 27 a3.toNat)), (6, vI 29)] [] (mk I) Q))))) ∧ (¬ (122 < (I 27 a3.toNat)) → J none mX7_cut (d + 1) 0 0 58 [(0, vR 28), (1, vI a1), (2, vI a2), (3, vI (a3 + 1)), (4, vI a3), (5, vI (I 27 a3.toNat)), (6, vI 29)] [] (mk I) Q))))) ∧ ((I 27 a3.toNat) = 32 → J none mX7_cut (d + 1) 0 0 4 [(0, vR 28), (1, vI a1), (2, vI a2), (3, vI (a3 + 1))] [] (mk I) Q))))))) : J none mX7_cut (d + 1) 0 0 4 [(0, vR 28), (1, vI a1), (2, vI a2), (3, vI a3)] [] (mk I) Q := by
  refine J_iload_n dX7_cut_4 rfl rfl ?_
  refine J_iload_n dX7_cut_5 rfl rfl ?_
  refine J_ic_ge (tgt := 183) dX7_cut_6 (by decide) (fun c => ?_) (fun c => ?_)
  · replace h := h.1 c
    refine J_aload_n dX7_cut_183 rfl rfl ?_
    refine J_getR dX7_cut_184 ck_7 fw_X7_9 rfl sh_28 rr_28_2 ?_
    refine J_iload_n dX7_cut_187 rfl rfl ?_
    refine J_iload_n dX7_cut_188 rfl rfl ?_
    refine J_iast dX7_cut_189 sh_29 h.1.1 h.1.2 ?_
    replace h := h.2 _ rfl
    refine J_aload_n dX7_cut_190 rfl rfl ?_
    refine J_getR dX7_cut_191 ck_7 fw_X7_15 rfl sh_28 rr_28_3 ?_
    refine J_iload_n dX7_cut_194 rfl rfl ?_
    refine J_iload_n dX7_cut_195 rfl rfl ?_
    refine J_iast dX7_cut_196 sh_30 h.1.1 h.1.2 ?_
    replace h := h.2 _ rfl
    refine J_aload_n dX7_cut_197 rfl rfl ?_
    refine J_getR dX7_cut_198 ck_7 fw_X7_18 rfl sh_28 rr_28_4 ?_
    refine J_iload_n dX7_cut_201 rfl rfl ?_
    refine J_bipush dX7_cut_202 (ii_c rfl) (by decide) ?_
    refine J_iast dX7_cut_204 sh_31 h.1.1 h.1.2 ?_
    replace h := h.2 _ rfl
    exact J_retv dX7_cut_205 rfl h
  · replace h := h.2 c
    refine J_iload_n dX7_cut_9 rfl rfl ?_
    refine J_istore dX7_cut_10 (by decide) ?_
    change J _ _ _ _ _ _ [(0, _), (1, _), (2, _), (3, _), (4, _)] _ _ _
    refine J_aload_n dX7_cut_12 rfl rfl ?_
    refine J_getR dX7_cut_13 ck_7 fw_X7_25 rfl sh_28 rr_28_1 ?_
    refine J_iload_n dX7_cut_16 rfl rfl ?_
    refine J_iincN dX7_cut_17 rfl (by decide) h.1 ?_
    replace h := h.2
    change J _ _ _ _ _ _ [(0, _), (1, _), (2, _), (3, _), (4, _)] _ _ _
    refine J_iald dX7_cut_20 sh_27 h.1.1 h.1.2 ?_
    replace h := h.2
    refine J_istore dX7_cut_21 (by decide) ?_
    change J _ _ _ _ _ _ [(0, _), (1, _), (2, _), (3, _), (4, _), (5, _)] _ _ _
    refine J_iload dX7_cut_23 rfl ?_
    refine J_bipush dX7_cut_25 (ii_c rfl) (by decide) ?_
    refine J_ic_eq (tgt := 4) dX7_cut_27 (by decide) (fun c => ?_) (fun c => ?_)
    · replace h := h.1 c
      exact J_loc (ls_sub [0, 1, 2, 3] rfl) h
    · replace h := h.2 c
      refine J_iload dX7_cut_30 rfl ?_
      refine J_bipush dX7_cut_32 (ii_c rfl) (by decide) ?_
      refine J_ic_ne (tgt := 40) dX7_cut_34 (by decide) (fun c => ?_) (fun c => ?_)
      · replace h := h.1 c
        refine J_bipush dX7_cut_40 (ii_c rfl) (by decide) ?_
        refine J_istore dX7_cut_42 (by decide) ?_
        change J _ _ _ _ _ _ [(0, _), (1, _), (2, _), (3, _), (4, _), (5, _), (6, _)] _ _ _
        refine J_iload dX7_cut_44 rfl ?_
        refine J_bipush dX7_cut_46 (ii_c rfl) (by decide) ?_
        refine J_ic_lt (tgt := 103) dX7_cut_48 (by decide) (fun c => ?_) (fun c => ?_)
        · replace h := h.1 c
          refine J_iload dX7_cut_103 rfl ?_
          refine J_bipush dX7_cut_105 (ii_c rfl) (by decide) ?_
          refine J_ic_lt (tgt := 154) dX7_cut_107 (by decide) (fun c => ?_) (fun c => ?_)
          · replace h := h.1 c
            refine J_aload_n dX7_cut_154 rfl rfl ?_
            refine J_getR dX7_cut_155 ck_7 fw_X7_9 rfl sh_28 rr_28_2 ?_
            refine J_iload_n dX7_cut_158 rfl rfl ?_
            refine J_iload dX7_cut_159 rfl ?_
            refine J_iast dX7_cut_161 sh_29 h.1.1 h.1.2 ?_
            replace h := h.2 _ rfl
            refine J_aload_n dX7_cut_162 rfl rfl ?_
            refine J_getR dX7_cut_163 ck_7 fw_X7_15 rfl sh_28 rr_28_3 ?_
            refine J_iload_n dX7_cut_166 rfl rfl ?_
            refine J_iload_n dX7_cut_167 rfl rfl ?_
            refine J_iast dX7_cut_168 sh_30 h.1.1 h.1.2 ?_
            replace h := h.2 _ rfl
            refine J_aload_n dX7_cut_169 rfl rfl ?_
            refine J_getR dX7_cut_170 ck_7 fw_X7_18 rfl sh_28 rr_28_4 ?_
            refine J_iload_n dX7_cut_173 rfl rfl ?_
            refine J_iincN dX7_cut_174 rfl (by decide) h.1 ?_
            replace h := h.2
            change J _ _ _ _ _ _ [(0, _), (1, _), (2, _), (3, _), (4, _), (5, _), (6, _)] _ _ _
            refine J_iload dX7_cut_177 rfl ?_
            refine J_iast dX7_cut_179 sh_31 h.1.1 h.1.2 ?_
            replace h := h.2 _ rfl
            refine J_goto (tgt := 4) dX7_cut_180 (by decide) ?_
            exact J_loc (ls_sub [0, 1, 2, 3] rfl) h
          · replace h := h.2 c
            refine J_iload dX7_cut_110 rfl ?_
            refine J_bipush dX7_cut_112 (ii_c rfl) (by decide) ?_
            refine J_ic_gt (tgt := 154) dX7_cut_114 (by decide) (fun c => ?_) (fun c => ?_)
            · replace h := h.1 c
              refine J_aload_n dX7_cut_154 rfl rfl ?_
              refine J_getR dX7_cut_155 ck_7 fw_X7_9 rfl sh_28 rr_28_2 ?_
              refine J_iload_n dX7_cut_158 rfl rfl ?_
              refine J_iload dX7_cut_159 rfl ?_
              refine J_iast dX7_cut_161 sh_29 h.1.1 h.1.2 ?_
              replace h := h.2 _ rfl
              refine J_aload_n dX7_cut_162 rfl rfl ?_
              refine J_getR dX7_cut_163 ck_7 fw_X7_15 rfl sh_28 rr_28_3 ?_
              refine J_iload_n dX7_cut_166 rfl rfl ?_
              refine J_iload_n dX7_cut_167 rfl rfl ?_
              refine J_iast dX7_cut_168 sh_30 h.1.1 h.1.2 ?_
              replace h := h.2 _ rfl
              refine J_aload_n dX7_cut_169 rfl rfl ?_
              refine J_getR dX7_cut_170 ck_7 fw_X7_18 rfl sh_28 rr_28_4 ?_
              refine J_iload_n dX7_cut_173 rfl rfl ?_
              refine J_iincN dX7_cut_174 rfl (by decide) h.1 ?_
              replace h := h.2
              change J _ _ _ _ _ _ [(0, _), (1, _), (2, _), (3, _), (4, _), (5, _), (6, _)] _ _ _
              refine J_iload dX7_cut_177 rfl ?_
              refine J_iast dX7_cut_179 sh_31 h.1.1 h.1.2 ?_
              replace h := h.2 _ rfl
              refine J_goto (tgt := 4) dX7_cut_180 (by decide) ?_
              exact J_loc (ls_sub [0, 1, 2, 3] rfl) h
            · replace h := h.2 c
              exact h
        · replace h := h.2 c
          refine J_iload dX7_cut_51 rfl ?_
          refine J_bipush dX7_cut_53 (ii_c rfl) (by decide) ?_
          refine J_ic_gt (tgt := 103) dX7_cut_55 (by decide) (fun c => ?_) (fun c => ?_)
          · replace h := h.1 c
            refine J_iload dX7_cut_103 rfl ?_
            refine J_bipush dX7_cut_105 (ii_c rfl) (by decide) ?_
            refine J_ic_lt (tgt := 154) dX7_cut_107 (by decide) (fun c => ?_) (fun c => ?_)
            · replace h := h.1 c
              refine J_aload_n dX7_cut_154 rfl rfl ?_
              refine J_getR dX7_cut_155 ck_7 fw_X7_9 rfl sh_28 rr_28_2 ?_
              refine J_iload_n dX7_cut_158 rfl rfl ?_
              refine J_iload dX7_cut_159 rfl ?_
              refine J_iast dX7_cut_161 sh_29 h.1.1 h.1.2 ?_
              replace h := h.2 _ rfl
              refine J_aload_n dX7_cut_162 rfl rfl ?_
              refine J_getR dX7_cut_163 ck_7 fw_X7_15 rfl sh_28 rr_28_3 ?_
              refine J_iload_n dX7_cut_166 rfl rfl ?_
              refine J_iload_n dX7_cut_167 rfl rfl ?_
              refine J_iast dX7_cut_168 sh_30 h.1.1 h.1.2 ?_
              replace h := h.2 _ rfl
              refine J_aload_n dX7_cut_169 rfl rfl ?_
              refine J_getR dX7_cut_170 ck_7 fw_X7_18 rfl sh_28 rr_28_4 ?_
              refine J_iload_n dX7_cut_173 rfl rfl ?_
              refine J_iincN dX7_cut_174 rfl (by decide) h.1 ?_
              replace h := h.2
              change J _ _ _ _ _ _ [(0, _), (1, _), (2, _), (3, _), (4, _), (5, _), (6, _)] _ _ _
              refine J_iload dX7_cut_177 rfl ?_
              refine J_iast dX7_cut_179 sh_31 h.1.1 h.1.2 ?_
              replace h := h.2 _ rfl
              refine J_goto (tgt := 4) dX7_cut_180 (by decide) ?_
              exact J_loc (ls_sub [0, 1, 2, 3] rfl) h
            · replace h := h.2 c
              refine J_iload dX7_cut_110 rfl ?_
              refine J_bipush dX7_cut_112 (ii_c rfl) (by decide) ?_
              refine J_ic_gt (tgt := 154) dX7_cut_114 (by decide) (fun c => ?_) (fun c => ?_)
              · replace h := h.1 c
                refine J_aload_n dX7_cut_154 rfl rfl ?_
                refine J_getR dX7_cut_155 ck_7 fw_X7_9 rfl sh_28 rr_28_2 ?_
                refine J_iload_n dX7_cut_158 rfl rfl ?_
                refine J_iload dX7_cut_159 rfl ?_
                refine J_iast dX7_cut_161 sh_29 h.1.1 h.1.2 ?_
                replace h := h.2 _ rfl
                refine J_aload_n dX7_cut_162 rfl rfl ?_
                refine J_getR dX7_cut_163 ck_7 fw_X7_15 rfl sh_28 rr_28_3 ?_
                refine J_iload_n dX7_cut_166 rfl rfl ?_
                refine J_iload_n dX7_cut_167 rfl rfl ?_
                refine J_iast dX7_cut_168 sh_30 h.1.1 h.1.2 ?_
                replace h := h.2 _ rfl
                refine J_aload_n dX7_cut_169 rfl rfl ?_
                refine J_getR dX7_cut_170 ck_7 fw_X7_18 rfl sh_28 rr_28_4 ?_
                refine J_iload_n dX7_cut_173 rfl rfl ?_
                refine J_iincN dX7_cut_174 rfl (by decide) h.1 ?_
                replace h := h.2
                change J _ _ _ _ _ _ [(0, _), (1, _), (2, _), (3, _), (4, _), (5, _), (6, _)] _ _ _
                refine J_iload dX7_cut_177 rfl ?_
                refine J_iast dX7_cut_179 sh_31 h.1.1 h.1.2 ?_
                replace h := h.2 _ rfl
                refine J_goto (tgt := 4) dX7_cut_180 (by decide) ?_
                exact J_loc (ls_sub [0, 1, 2, 3] rfl) h
              · replace h := h.2 c
                exact h
          · replace h := h.2 c
            exact h
      · replace h := h.2 c
        refine J_goto (tgt := 4) dX7_cut_37 (by decide) ?_
        exact J_loc (ls_sub [0, 1, 2, 3] rfl) h
set_option maxRecDepth 20000 in
set_option maxHeartbeats 2000000 in
theorem bk_X7_cut_58 {d : Nat} {I : HI} {Q : Option AV → AH → Prop} {a1 : Int} {a2 : Int} {a3 : Int} {a4 : Int} {a5 : Int} {a6 : Int}  (h : ((a1 ≤ a3 → CI mX7_kindOfWord d [vR 28, vI a4, vI a3] I (fun x1 I1 => ((0 : Int) ≤ a2 ∧ (a2 : Int) < 1601) ∧ (∀ I2 : HI, I2 = up I1 29 a2.toNat a4 → ((0 : Int) ≤ a2 ∧ (a2 : Int) < 1601) ∧ (∀ I3 : HI, I3 = up I2 30 a2.toNat a3 → (-2147483648 ≤ a2 + 1 ∧ a2 + 1 ≤ 2147483647) ∧ ((0 : Int) ≤ a2 ∧ (a2 : Int) < 1601) ∧ (∀ I4 : HI, I4 = up I3 31 a2.toNat x1 → J none mX7_cut (d + 1) 0 0 4 [(0, vR 28), (1, vI a1), (2, vI (a2 + 1)), (3, vI a3)] [] (mk I4) Q))))) ∧ (¬ (a1 ≤ a3) → ((0 : Int) ≤ a3 ∧ (a3 : Int) < 1600) ∧ (((I 27 a3.toNat) < 97 → CI mX7_kindOfWord d [vR 28, vI a4, vI a3] I (fun x2 I5 => ((0 : Int) ≤ a2 ∧ (a2 : Int) < 1601) ∧ (∀ I6 : HI, I6 = up I5 29 a2.toNat a4 → ((0 : Int) ≤ a2 ∧ (a2 : Int) < 1601) ∧ (∀ I7 : HI, I7 = up I6 30 a2.toNat a3 → (-2147483648 ≤ a2 + 1 ∧ a2 + 1 ≤ 2147483647) ∧ ((0 : Int) ≤ a2 ∧ (a2 : Int) < 1601) ∧ (∀ I8 : HI, I8 = up I7 31 a2.toNat x2 → J none mX7_cut (d + 1) 0 0 4 [(0, vR 28), (1, vI a1), (2, vI (a2 + 1)), (3, vI a3)] [] (mk I8) Q))))) ∧ (¬ ((I 27 a3.toNat) < 97) → ((0 : Int) ≤ a3 ∧ (a3 : Int) < 1600) ∧ ((122 < (I 27 a3.toNat) → CI mX7_kindOfWord d [vR 28, vI a4, vI a3] I (fun x3 I9 => ((0 : Int) ≤ a2 ∧ (a2 : Int) < 1601) ∧ (∀ I10 : HI, I10 = up I9 29 a2.toNat a4 → ((0 : Int) ≤ a2 ∧ (a2 : Int) < 1601) ∧ (∀ I11 : HI, I11 = up I10 30 a2.toNat a3 → (-2147483648 ≤ a2 + 1 ∧ a2 + 1 ≤ 2147483647) ∧ ((0 : Int) ≤ a2 ∧ (a2 : Int) < 1601) ∧ (∀ I12 : HI, I12 = up I11 31 a2.toNat x3 → J none mX7_cut (d + 1) 0 0 4 [(0, vR 28), (1, vI a1), (2, vI (a2 + 1)), (3, vI a3)] [] (mk I12) Q))))) ∧ (¬ (122 < (I 27 a3.toNat)) → (-2147483648 ≤ a3 + 1 ∧ a3 + 1 ≤ 2147483647) ∧ J none mX7_cut (d + 1) 0 0 58 [(0, vR 28), (1, vI a1), (2, vI a2), (3, vI (a3 + 1)), (4, vI a4), (5, vI a5), (6, vI a6)] [] (mk I) Q))))))) : J none mX7_cut (d + 1) 0 0 58 [(0, vR 28), (1, vI a1), (2, vI a2), (3, vI a3), (4, vI a4), (5, vI a5), (6, vI a6)] [] (mk I) Q := by
  refine J_iload_n dX7_cut_58 rfl rfl ?_
  refine J_iload_n dX7_cut_59 rfl rfl ?_
  refine J_ic_ge (tgt := 91) dX7_cut_60 (by decide) (fun c => ?_) (fun c => ?_)
  · replace h := h.1 c
    refine J_aload_n dX7_cut_91 rfl rfl ?_
    refine J_iload dX7_cut_92 rfl ?_
    refine J_iload_n dX7_cut_94 rfl rfl ?_
    refine J_callV (as := [_, _]) (mc1 := 0) (ms1 := 0) (mc := 0) (ms := 0) dX7_cut_95 mv_X7_kindOfWord lk_X7_65 sh_28 rfl (Nat.le_of_ble_eq_true rfl) (Nat.le_of_ble_eq_true rfl) h (fun r σ hq _ => ?_)
    obtain ⟨x1, I1, rfl, rfl, h⟩ := hq
    change J _ _ _ _ _ _ _ [vI x1] _ _
    refine J_istore dX7_cut_98 (by decide) ?_
    change J _ _ _ _ _ _ [(0, _), (1, _), (2, _), (3, _), (4, _), (5, _), (6, _)] _ _ _
    refine J_goto (tgt := 154) dX7_cut_100 (by decide) ?_
    refine J_aload_n dX7_cut_154 rfl rfl ?_
    refine J_getR dX7_cut_155 ck_7 fw_X7_9 rfl sh_28 rr_28_2 ?_
    refine J_iload_n dX7_cut_158 rfl rfl ?_
    refine J_iload dX7_cut_159 rfl ?_
    refine J_iast dX7_cut_161 sh_29 h.1.1 h.1.2 ?_
    replace h := h.2 _ rfl
    refine J_aload_n dX7_cut_162 rfl rfl ?_
    refine J_getR dX7_cut_163 ck_7 fw_X7_15 rfl sh_28 rr_28_3 ?_
    refine J_iload_n dX7_cut_166 rfl rfl ?_
    refine J_iload_n dX7_cut_167 rfl rfl ?_
    refine J_iast dX7_cut_168 sh_30 h.1.1 h.1.2 ?_
    replace h := h.2 _ rfl
    refine J_aload_n dX7_cut_169 rfl rfl ?_
    refine J_getR dX7_cut_170 ck_7 fw_X7_18 rfl sh_28 rr_28_4 ?_
    refine J_iload_n dX7_cut_173 rfl rfl ?_
    refine J_iincN dX7_cut_174 rfl (by decide) h.1 ?_
    replace h := h.2
    change J _ _ _ _ _ _ [(0, _), (1, _), (2, _), (3, _), (4, _), (5, _), (6, _)] _ _ _
    refine J_iload dX7_cut_177 rfl ?_
    refine J_iast dX7_cut_179 sh_31 h.1.1 h.1.2 ?_
    replace h := h.2 _ rfl
    refine J_goto (tgt := 4) dX7_cut_180 (by decide) ?_
    exact J_loc (ls_sub [0, 1, 2, 3] rfl) h
  · replace h := h.2 c
    refine J_aload_n dX7_cut_63 rfl rfl ?_
    refine J_getR dX7_cut_64 ck_7 fw_X7_25 rfl sh_28 rr_28_1 ?_
    refine J_iload_n dX7_cut_67 rfl rfl ?_
    refine J_iald dX7_cut_68 sh_27 h.1.1 h.1.2 ?_
    replace h := h.2
    refine J_bipush dX7_cut_69 (ii_c rfl) (by decide) ?_
    refine J_ic_lt (tgt := 91) dX7_cut_71 (by decide) (fun c => ?_) (fun c => ?_)
    · replace h := h.1 c
      refine J_aload_n dX7_cut_91 rfl rfl ?_
      refine J_iload dX7_cut_92 rfl ?_
      refine J_iload_n dX7_cut_94 rfl rfl ?_
      refine J_callV (as := [_, _]) (mc1 := 0) (ms1 := 0) (mc := 0) (ms := 0) dX7_cut_95 mv_X7_kindOfWord lk_X7_65 sh_28 rfl (Nat.le_of_ble_eq_true rfl) (Nat.le_of_ble_eq_true rfl) h (fun r σ hq _ => ?_)
      obtain ⟨x2, I5, rfl, rfl, h⟩ := hq
      change J _ _ _ _ _ _ _ [vI x2] _ _
      refine J_istore dX7_cut_98 (by decide) ?_
      change J _ _ _ _ _ _ [(0, _), (1, _), (2, _), (3, _), (4, _), (5, _), (6, _)] _ _ _
      refine J_goto (tgt := 154) dX7_cut_100 (by decide) ?_
      refine J_aload_n dX7_cut_154 rfl rfl ?_
      refine J_getR dX7_cut_155 ck_7 fw_X7_9 rfl sh_28 rr_28_2 ?_
      refine J_iload_n dX7_cut_158 rfl rfl ?_
      refine J_iload dX7_cut_159 rfl ?_
      refine J_iast dX7_cut_161 sh_29 h.1.1 h.1.2 ?_
      replace h := h.2 _ rfl
      refine J_aload_n dX7_cut_162 rfl rfl ?_
      refine J_getR dX7_cut_163 ck_7 fw_X7_15 rfl sh_28 rr_28_3 ?_
      refine J_iload_n dX7_cut_166 rfl rfl ?_
      refine J_iload_n dX7_cut_167 rfl rfl ?_
      refine J_iast dX7_cut_168 sh_30 h.1.1 h.1.2 ?_
      replace h := h.2 _ rfl
      refine J_aload_n dX7_cut_169 rfl rfl ?_
      refine J_getR dX7_cut_170 ck_7 fw_X7_18 rfl sh_28 rr_28_4 ?_
      refine J_iload_n dX7_cut_173 rfl rfl ?_
      refine J_iincN dX7_cut_174 rfl (by decide) h.1 ?_
      replace h := h.2
      change J _ _ _ _ _ _ [(0, _), (1, _), (2, _), (3, _), (4, _), (5, _), (6, _)] _ _ _
      refine J_iload dX7_cut_177 rfl ?_
      refine J_iast dX7_cut_179 sh_31 h.1.1 h.1.2 ?_
      replace h := h.2 _ rfl
      refine J_goto (tgt := 4) dX7_cut_180 (by decide) ?_
      exact J_loc (ls_sub [0, 1, 2, 3] rfl) h
    · replace h := h.2 c
      refine J_aload_n dX7_cut_74 rfl rfl ?_
      refine J_getR dX7_cut_75 ck_7 fw_X7_25 rfl sh_28 rr_28_1 ?_
      refine J_iload_n dX7_cut_78 rfl rfl ?_
      refine J_iald dX7_cut_79 sh_27 h.1.1 h.1.2 ?_
      replace h := h.2
      refine J_bipush dX7_cut_80 (ii_c rfl) (by decide) ?_
      refine J_ic_gt (tgt := 91) dX7_cut_82 (by decide) (fun c => ?_) (fun c => ?_)
      · replace h := h.1 c
        refine J_aload_n dX7_cut_91 rfl rfl ?_
        refine J_iload dX7_cut_92 rfl ?_
        refine J_iload_n dX7_cut_94 rfl rfl ?_
        refine J_callV (as := [_, _]) (mc1 := 0) (ms1 := 0) (mc := 0) (ms := 0) dX7_cut_95 mv_X7_kindOfWord lk_X7_65 sh_28 rfl (Nat.le_of_ble_eq_true rfl) (Nat.le_of_ble_eq_true rfl) h (fun r σ hq _ => ?_)
        obtain ⟨x3, I9, rfl, rfl, h⟩ := hq
        change J _ _ _ _ _ _ _ [vI x3] _ _
        refine J_istore dX7_cut_98 (by decide) ?_
        change J _ _ _ _ _ _ [(0, _), (1, _), (2, _), (3, _), (4, _), (5, _), (6, _)] _ _ _
        refine J_goto (tgt := 154) dX7_cut_100 (by decide) ?_
        refine J_aload_n dX7_cut_154 rfl rfl ?_
        refine J_getR dX7_cut_155 ck_7 fw_X7_9 rfl sh_28 rr_28_2 ?_
        refine J_iload_n dX7_cut_158 rfl rfl ?_
        refine J_iload dX7_cut_159 rfl ?_
        refine J_iast dX7_cut_161 sh_29 h.1.1 h.1.2 ?_
        replace h := h.2 _ rfl
        refine J_aload_n dX7_cut_162 rfl rfl ?_
        refine J_getR dX7_cut_163 ck_7 fw_X7_15 rfl sh_28 rr_28_3 ?_
        refine J_iload_n dX7_cut_166 rfl rfl ?_
        refine J_iload_n dX7_cut_167 rfl rfl ?_
        refine J_iast dX7_cut_168 sh_30 h.1.1 h.1.2 ?_
        replace h := h.2 _ rfl
        refine J_aload_n dX7_cut_169 rfl rfl ?_
        refine J_getR dX7_cut_170 ck_7 fw_X7_18 rfl sh_28 rr_28_4 ?_
        refine J_iload_n dX7_cut_173 rfl rfl ?_
        refine J_iincN dX7_cut_174 rfl (by decide) h.1 ?_
        replace h := h.2
        change J _ _ _ _ _ _ [(0, _), (1, _), (2, _), (3, _), (4, _), (5, _), (6, _)] _ _ _
        refine J_iload dX7_cut_177 rfl ?_
        refine J_iast dX7_cut_179 sh_31 h.1.1 h.1.2 ?_
        replace h := h.2 _ rfl
        refine J_goto (tgt := 4) dX7_cut_180 (by decide) ?_
        exact J_loc (ls_sub [0, 1, 2, 3] rfl) h
      · replace h := h.2 c
        refine J_iincN dX7_cut_85 rfl (by decide) h.1 ?_
        replace h := h.2
        change J _ _ _ _ _ _ [(0, _), (1, _), (2, _), (3, _), (4, _), (5, _), (6, _)] _ _ _
        refine J_goto (tgt := 58) dX7_cut_88 (by decide) ?_
        exact h
set_option maxRecDepth 20000 in
set_option maxHeartbeats 2000000 in
theorem bk_X7_cut_117 {d : Nat} {I : HI} {Q : Option AV → AH → Prop} {a1 : Int} {a2 : Int} {a3 : Int} {a4 : Int} {a5 : Int} {a6 : Int}  (h : ((a1 ≤ a3 → ((0 : Int) ≤ a2 ∧ (a2 : Int) < 1601) ∧ (∀ I1 : HI, I1 = up I 29 a2.toNat a4 → ((0 : Int) ≤ a2 ∧ (a2 : Int) < 1601) ∧ (∀ I2 : HI, I2 = up I1 30 a2.toNat a3 → (-2147483648 ≤ a2 + 1 ∧ a2 + 1 ≤ 2147483647) ∧ ((0 : Int) ≤ a2 ∧ (a2 : Int) < 1601) ∧ (∀ I3 : HI, I3 = up I2 31 a2.toNat 28 → J none mX7_cut (d + 1) 0 0 4 [(0, vR 28), (1, vI a1), (2, vI (a2 + 1)), (3, vI a3)] [] (mk I3) Q)))) ∧ (¬ (a1 ≤ a3) → ((0 : Int) ≤ a3 ∧ (a3 : Int) < 1600) ∧ (((I 27 a3.toNat) < 48 → ((0 : Int) ≤ a2 ∧ (a2 : Int) < 1601) ∧ (∀ I4 : HI, I4 = up I 29 a2.toNat a4 → ((0 : Int) ≤ a2 ∧ (a2 : Int) < 1601) ∧ (∀ I5 : HI, I5 = up I4 30 a2.toNat a3 → (-2147483648 ≤ a2 + 1 ∧ a2 + 1 ≤ 2147483647) ∧ ((0 : Int) ≤ a2 ∧ (a2 : Int) < 1601) ∧ (∀ I6 : HI, I6 = up I5 31 a2.toNat 28 → J none mX7_cut (d + 1) 0 0 4 [(0, vR 28), (1, vI a1), (2, vI (a2 + 1)), (3, vI a3)] [] (mk I6) Q)))) ∧ (¬ ((I 27 a3.toNat) < 48) → ((0 : Int) ≤ a3 ∧ (a3 : Int) < 1600) ∧ ((57 < (I 27 a3.toNat) → ((0 : Int) ≤ a2 ∧ (a2 : Int) < 1601) ∧ (∀ I7 : HI, I7 = up I 29 a2.toNat a4 → ((0 : Int) ≤ a2 ∧ (a2 : Int) < 1601) ∧ (∀ I8 : HI, I8 = up I7 30 a2.toNat a3 → (-2147483648 ≤ a2 + 1 ∧ a2 + 1 ≤ 2147483647) ∧ ((0 : Int) ≤ a2 ∧ (a2 : Int) < 1601) ∧ (∀ I9 : HI, I9 = up I8 31 a2.toNat 28 → J none mX7_cut (d + 1) 0 0 4 [(0, vR 28), (1, vI a1), (2, vI (a2 + 1)), (3, vI a3)] [] (mk I9) Q)))) ∧ (¬ (57 < (I 27 a3.toNat)) → (-2147483648 ≤ a3 + 1 ∧ a3 + 1 ≤ 2147483647) ∧ J none mX7_cut (d + 1) 0 0 117 [(0, vR 28), (1, vI a1), (2, vI a2), (3, vI (a3 + 1)), (4, vI a4), (5, vI a5), (6, vI a6)] [] (mk I) Q))))))) : J none mX7_cut (d + 1) 0 0 117 [(0, vR 28), (1, vI a1), (2, vI a2), (3, vI a3), (4, vI a4), (5, vI a5), (6, vI a6)] [] (mk I) Q := by
  refine J_iload_n dX7_cut_117 rfl rfl ?_
  refine J_iload_n dX7_cut_118 rfl rfl ?_
  refine J_ic_ge (tgt := 150) dX7_cut_119 (by decide) (fun c => ?_) (fun c => ?_)
  · replace h := h.1 c
    refine J_bipush dX7_cut_150 (ii_c rfl) (by decide) ?_
    refine J_istore dX7_cut_152 (by decide) ?_
    change J _ _ _ _ _ _ [(0, _), (1, _), (2, _), (3, _), (4, _), (5, _), (6, _)] _ _ _
    refine J_aload_n dX7_cut_154 rfl rfl ?_
    refine J_getR dX7_cut_155 ck_7 fw_X7_9 rfl sh_28 rr_28_2 ?_
    refine J_iload_n dX7_cut_158 rfl rfl ?_
    refine J_iload dX7_cut_159 rfl ?_
    refine J_iast dX7_cut_161 sh_29 h.1.1 h.1.2 ?_
    replace h := h.2 _ rfl
    refine J_aload_n dX7_cut_162 rfl rfl ?_
    refine J_getR dX7_cut_163 ck_7 fw_X7_15 rfl sh_28 rr_28_3 ?_
    refine J_iload_n dX7_cut_166 rfl rfl ?_
    refine J_iload_n dX7_cut_167 rfl rfl ?_
    refine J_iast dX7_cut_168 sh_30 h.1.1 h.1.2 ?_
    replace h := h.2 _ rfl
    refine J_aload_n dX7_cut_169 rfl rfl ?_
    refine J_getR dX7_cut_170 ck_7 fw_X7_18 rfl sh_28 rr_28_4 ?_
    refine J_iload_n dX7_cut_173 rfl rfl ?_
    refine J_iincN dX7_cut_174 rfl (by decide) h.1 ?_
    replace h := h.2
    change J _ _ _ _ _ _ [(0, _), (1, _), (2, _), (3, _), (4, _), (5, _), (6, _)] _ _ _
    refine J_iload dX7_cut_177 rfl ?_
    refine J_iast dX7_cut_179 sh_31 h.1.1 h.1.2 ?_
    replace h := h.2 _ rfl
    refine J_goto (tgt := 4) dX7_cut_180 (by decide) ?_
    exact J_loc (ls_sub [0, 1, 2, 3] rfl) h
  · replace h := h.2 c
    refine J_aload_n dX7_cut_122 rfl rfl ?_
    refine J_getR dX7_cut_123 ck_7 fw_X7_25 rfl sh_28 rr_28_1 ?_
    refine J_iload_n dX7_cut_126 rfl rfl ?_
    refine J_iald dX7_cut_127 sh_27 h.1.1 h.1.2 ?_
    replace h := h.2
    refine J_bipush dX7_cut_128 (ii_c rfl) (by decide) ?_
    refine J_ic_lt (tgt := 150) dX7_cut_130 (by decide) (fun c => ?_) (fun c => ?_)
    · replace h := h.1 c
      refine J_bipush dX7_cut_150 (ii_c rfl) (by decide) ?_
      refine J_istore dX7_cut_152 (by decide) ?_
      change J _ _ _ _ _ _ [(0, _), (1, _), (2, _), (3, _), (4, _), (5, _), (6, _)] _ _ _
      refine J_aload_n dX7_cut_154 rfl rfl ?_
      refine J_getR dX7_cut_155 ck_7 fw_X7_9 rfl sh_28 rr_28_2 ?_
      refine J_iload_n dX7_cut_158 rfl rfl ?_
      refine J_iload dX7_cut_159 rfl ?_
      refine J_iast dX7_cut_161 sh_29 h.1.1 h.1.2 ?_
      replace h := h.2 _ rfl
      refine J_aload_n dX7_cut_162 rfl rfl ?_
      refine J_getR dX7_cut_163 ck_7 fw_X7_15 rfl sh_28 rr_28_3 ?_
      refine J_iload_n dX7_cut_166 rfl rfl ?_
      refine J_iload_n dX7_cut_167 rfl rfl ?_
      refine J_iast dX7_cut_168 sh_30 h.1.1 h.1.2 ?_
      replace h := h.2 _ rfl
      refine J_aload_n dX7_cut_169 rfl rfl ?_
      refine J_getR dX7_cut_170 ck_7 fw_X7_18 rfl sh_28 rr_28_4 ?_
      refine J_iload_n dX7_cut_173 rfl rfl ?_
      refine J_iincN dX7_cut_174 rfl (by decide) h.1 ?_
      replace h := h.2
      change J _ _ _ _ _ _ [(0, _), (1, _), (2, _), (3, _), (4, _), (5, _), (6, _)] _ _ _
      refine J_iload dX7_cut_177 rfl ?_
      refine J_iast dX7_cut_179 sh_31 h.1.1 h.1.2 ?_
      replace h := h.2 _ rfl
      refine J_goto (tgt := 4) dX7_cut_180 (by decide) ?_
      exact J_loc (ls_sub [0, 1, 2, 3] rfl) h
    · replace h := h.2 c
      refine J_aload_n dX7_cut_133 rfl rfl ?_
      refine J_getR dX7_cut_134 ck_7 fw_X7_25 rfl sh_28 rr_28_1 ?_
      refine J_iload_n dX7_cut_137 rfl rfl ?_
      refine J_iald dX7_cut_138 sh_27 h.1.1 h.1.2 ?_
      replace h := h.2
      refine J_bipush dX7_cut_139 (ii_c rfl) (by decide) ?_
      refine J_ic_gt (tgt := 150) dX7_cut_141 (by decide) (fun c => ?_) (fun c => ?_)
      · replace h := h.1 c
        refine J_bipush dX7_cut_150 (ii_c rfl) (by decide) ?_
        refine J_istore dX7_cut_152 (by decide) ?_
        change J _ _ _ _ _ _ [(0, _), (1, _), (2, _), (3, _), (4, _), (5, _), (6, _)] _ _ _
        refine J_aload_n dX7_cut_154 rfl rfl ?_
        refine J_getR dX7_cut_155 ck_7 fw_X7_9 rfl sh_28 rr_28_2 ?_
        refine J_iload_n dX7_cut_158 rfl rfl ?_
        refine J_iload dX7_cut_159 rfl ?_
        refine J_iast dX7_cut_161 sh_29 h.1.1 h.1.2 ?_
        replace h := h.2 _ rfl
        refine J_aload_n dX7_cut_162 rfl rfl ?_
        refine J_getR dX7_cut_163 ck_7 fw_X7_15 rfl sh_28 rr_28_3 ?_
        refine J_iload_n dX7_cut_166 rfl rfl ?_
        refine J_iload_n dX7_cut_167 rfl rfl ?_
        refine J_iast dX7_cut_168 sh_30 h.1.1 h.1.2 ?_
        replace h := h.2 _ rfl
        refine J_aload_n dX7_cut_169 rfl rfl ?_
        refine J_getR dX7_cut_170 ck_7 fw_X7_18 rfl sh_28 rr_28_4 ?_
        refine J_iload_n dX7_cut_173 rfl rfl ?_
        refine J_iincN dX7_cut_174 rfl (by decide) h.1 ?_
        replace h := h.2
        change J _ _ _ _ _ _ [(0, _), (1, _), (2, _), (3, _), (4, _), (5, _), (6, _)] _ _ _
        refine J_iload dX7_cut_177 rfl ?_
        refine J_iast dX7_cut_179 sh_31 h.1.1 h.1.2 ?_
        replace h := h.2 _ rfl
        refine J_goto (tgt := 4) dX7_cut_180 (by decide) ?_
        exact J_loc (ls_sub [0, 1, 2, 3] rfl) h
      · replace h := h.2 c
        refine J_iincN dX7_cut_144 rfl (by decide) h.1 ?_
        replace h := h.2
        change J _ _ _ _ _ _ [(0, _), (1, _), (2, _), (3, _), (4, _), (5, _), (6, _)] _ _ _
        refine J_goto (tgt := 117) dX7_cut_147 (by decide) ?_
        exact h
set_option maxRecDepth 20000 in
set_option maxHeartbeats 2000000 in
theorem bk_X7_kindOfWord_0 {d : Nat} {I : HI} {Q : Option AV → AH → Prop} {a1 : Int} {a2 : Int}  (h : (-2147483648 ≤ a2 - a1 ∧ a2 - a1 ≤ 2147483647) ∧ J none mX7_kindOfWord (d + 1) 0 0 7 [(0, vR 28), (1, vI a1), (2, vI a2), (3, vI (a2 - a1)), (4, vI 0)] [] (mk I) Q) : J none mX7_kindOfWord (d + 1) 0 0 0 [(0, vR 28), (1, vI a1), (2, vI a2)] [] (mk I) Q := by
  refine J_iload_n dX7_kindOfWord_0 rfl rfl ?_
  refine J_iload_n dX7_kindOfWord_1 rfl rfl ?_
  refine J_isubN dX7_kindOfWord_2 h.1 ?_
  replace h := h.2
  refine J_istore_n dX7_kindOfWord_3 rfl (by decide) ?_
  change J _ _ _ _ _ _ [(0, _), (1, _), (2, _), (3, _)] _ _ _
  refine J_iconst dX7_kindOfWord_4 (ii_c rfl) ?_
  refine J_istore dX7_kindOfWord_5 (by decide) ?_
  change J _ _ _ _ _ _ [(0, _), (1, _), (2, _), (3, _), (4, _)] _ _ _
  exact h
set_option maxRecDepth 20000 in
set_option maxHeartbeats 2000000 in
theorem bk_X7_kindOfWord_7 {d : Nat} {I : HI} {Q : Option AV → AH → Prop} {a1 : Int} {a2 : Int} {a3 : Int} {a4 : Int}  (h : ((26 < a4 → Q (some (vI 27)) (mk I)) ∧ (¬ (26 < a4) → ((8 ≤ a3 → Q (some (vI 27)) (mk I)) ∧ (¬ (8 ≤ a3) → J none mX7_kindOfWord (d + 1) 0 0 23 [(0, vR 28), (1, vI a1), (2, vI a2), (3, vI a3), (4, vI a4), (5, vI 0)] [] (mk I) Q))))) : J none mX7_kindOfWord (d + 1) 0 0 7 [(0, vR 28), (1, vI a1), (2, vI a2), (3, vI a3), (4, vI a4)] [] (mk I) Q := by
  refine J_iload dX7_kindOfWord_7 rfl ?_
  refine J_bipush dX7_kindOfWord_9 (ii_c rfl) (by decide) ?_
  refine J_ic_gt (tgt := 93) dX7_kindOfWord_11 (by decide) (fun c => ?_) (fun c => ?_)
  · replace h := h.1 c
    refine J_bipush dX7_kindOfWord_93 (ii_c rfl) (by decide) ?_
    exact J_reti dX7_kindOfWord_95 rfl h
  · replace h := h.2 c
    refine J_iload_n dX7_kindOfWord_14 rfl rfl ?_
    refine J_bipush dX7_kindOfWord_15 (ii_c rfl) (by decide) ?_
    refine J_ic_ge (tgt := 93) dX7_kindOfWord_17 (by decide) (fun c => ?_) (fun c => ?_)
    · replace h := h.1 c
      refine J_bipush dX7_kindOfWord_93 (ii_c rfl) (by decide) ?_
      exact J_reti dX7_kindOfWord_95 rfl h
    · replace h := h.2 c
      refine J_iconst dX7_kindOfWord_20 (ii_c rfl) ?_
      refine J_istore dX7_kindOfWord_21 (by decide) ?_
      change J _ _ _ _ _ _ [(0, _), (1, _), (2, _), (3, _), (4, _), (5, _)] _ _ _
      exact h
set_option maxRecDepth 20000 in
set_option maxHeartbeats 2000000 in
theorem bk_X7_kindOfWord_23 {d : Nat} {I : HI} {Q : Option AV → AH → Prop} {a1 : Int} {a2 : Int} {a3 : Int} {a4 : Int} {a5 : Int}  (h : ((a3 ≤ a5 → ((a5 ≠ a3 → (-2147483648 ≤ a4 + 1 ∧ a4 + 1 ≤ 2147483647) ∧ J none mX7_kindOfWord (d + 1) 0 0 7 [(0, vR 28), (1, vI a1), (2, vI a2), (3, vI a3), (4, vI (a4 + 1))] [] (mk I) Q) ∧ (a5 = a3 → (-2147483648 ≤ a4 * 8 ∧ a4 * 8 ≤ 2147483647) ∧ (-2147483648 ≤ (a4 * 8) + a5 ∧ (a4 * 8) + a5 ≤ 2147483647) ∧ CI mJ0_charAt_5068e d [vS, vI ((a4 * 8) + a5)] I (fun x1 I1 => ((x1 ≠ 32 → (-2147483648 ≤ a4 + 1 ∧ a4 + 1 ≤ 2147483647) ∧ J none mX7_kindOfWord (d + 1) 0 0 7 [(0, vR 28), (1, vI a1), (2, vI a2), (3, vI a3), (4, vI (a4 + 1))] [] (mk I1) Q) ∧ (x1 = 32 → Q (some (vI a4)) (mk I1))))))) ∧ (¬ (a3 ≤ a5) → (-2147483648 ≤ a4 * 8 ∧ a4 * 8 ≤ 2147483647) ∧ (-2147483648 ≤ (a4 * 8) + a5 ∧ (a4 * 8) + a5 ≤ 2147483647) ∧ CI mJ0_charAt_5068e d [vS, vI ((a4 * 8) + a5)] I (fun x2 I2 => (-2147483648 ≤ a1 + a5 ∧ a1 + a5 ≤ 2147483647) ∧ ((0 : Int) ≤ (a1 + a5) ∧ (a1 + a5 : Int) < 1600) ∧ ((x2 ≠ (I2 27 (a1 + a5).toNat) → ((a5 ≠ a3 → (-2147483648 ≤ a4 + 1 ∧ a4 + 1 ≤ 2147483647) ∧ J none mX7_kindOfWord (d + 1) 0 0 7 [(0, vR 28), (1, vI a1), (2, vI a2), (3, vI a3), (4, vI (a4 + 1))] [] (mk I2) Q) ∧ (a5 = a3 → (-2147483648 ≤ a4 * 8 ∧ a4 * 8 ≤ 2147483647) ∧ (-2147483648 ≤ (a4 * 8) + a5 ∧ (a4 * 8) + a5 ≤ 2147483647) ∧ CI mJ0_charAt_5068e d [vS, vI ((a4 * 8) + a5)] I2 (fun x3 I3 => ((x3 ≠ 32 → (-2147483648 ≤ a4 + 1 ∧ a4 + 1 ≤ 2147483647) ∧ J none mX7_kindOfWord (d + 1) 0 0 7 [(0, vR 28), (1, vI a1), (2, vI a2), (3, vI a3), (4, vI (a4 + 1))] [] (mk I3) Q) ∧ (x3 = 32 → Q (some (vI a4)) (mk I3))))))) ∧ (x2 = (I2 27 (a1 + a5).toNat) → (-2147483648 ≤ a5 + 1 ∧ a5 + 1 ≤ 2147483647) ∧ J none mX7_kindOfWord (d + 1) 0 0 23 [(0, vR 28), (1, vI a1), (2, vI a2), (3, vI a3), (4, vI a4), (5, vI (a5 + 1))] [] (mk I2) Q)))))) : J none mX7_kindOfWord (d + 1) 0 0 23 [(0, vR 28), (1, vI a1), (2, vI a2), (3, vI a3), (4, vI a4), (5, vI a5)] [] (mk I) Q := by
  refine J_iload dX7_kindOfWord_23 rfl ?_
  refine J_iload_n dX7_kindOfWord_25 rfl rfl ?_
  refine J_ic_ge (tgt := 60) dX7_kindOfWord_26 (by decide) (fun c => ?_) (fun c => ?_)
  · replace h := h.1 c
    refine J_iload dX7_kindOfWord_60 rfl ?_
    refine J_iload_n dX7_kindOfWord_62 rfl rfl ?_
    refine J_ic_ne (tgt := 87) dX7_kindOfWord_63 (by decide) (fun c => ?_) (fun c => ?_)
    · replace h := h.1 c
      refine J_iincN dX7_kindOfWord_87 rfl (by decide) h.1 ?_
      replace h := h.2
      change J _ _ _ _ _ _ [(0, _), (1, _), (2, _), (3, _), (4, _), (5, _)] _ _ _
      refine J_goto (tgt := 7) dX7_kindOfWord_90 (by decide) ?_
      exact J_loc (ls_sub [0, 1, 2, 3, 4] rfl) h
    · replace h := h.2 c
      refine J_ldcS dX7_kindOfWord_66 rfl ?_
      refine J_iload dX7_kindOfWord_68 rfl ?_
      refine J_bipush dX7_kindOfWord_70 (ii_c rfl) (by decide) ?_
      refine J_imulN dX7_kindOfWord_72 h.1 ?_
      replace h := h.2
      refine J_iload dX7_kindOfWord_73 rfl ?_
      refine J_iaddN dX7_kindOfWord_75 h.1 ?_
      replace h := h.2
      refine J_callVF (as := [_]) (mc1 := 0) (ms1 := 0) (mc := 0) (ms := 0) dX7_kindOfWord_76 mv_J0_charAt_5068e lk_X7_70 rfl (Nat.le_of_ble_eq_true rfl) (Nat.le_of_ble_eq_true rfl) h (fun r σ hq _ => ?_)
      obtain ⟨x1, I1, rfl, rfl, h⟩ := hq
      change J _ _ _ _ _ _ _ [vI x1] _ _
      refine J_bipush dX7_kindOfWord_79 (ii_c rfl) (by decide) ?_
      refine J_ic_ne (tgt := 87) dX7_kindOfWord_81 (by decide) (fun c => ?_) (fun c => ?_)
      · replace h := h.1 c
        refine J_iincN dX7_kindOfWord_87 rfl (by decide) h.1 ?_
        replace h := h.2
        change J _ _ _ _ _ _ [(0, _), (1, _), (2, _), (3, _), (4, _), (5, _)] _ _ _
        refine J_goto (tgt := 7) dX7_kindOfWord_90 (by decide) ?_
        exact J_loc (ls_sub [0, 1, 2, 3, 4] rfl) h
      · replace h := h.2 c
        refine J_iload dX7_kindOfWord_84 rfl ?_
        exact J_reti dX7_kindOfWord_86 rfl h
  · replace h := h.2 c
    refine J_ldcS dX7_kindOfWord_29 rfl ?_
    refine J_iload dX7_kindOfWord_31 rfl ?_
    refine J_bipush dX7_kindOfWord_33 (ii_c rfl) (by decide) ?_
    refine J_imulN dX7_kindOfWord_35 h.1 ?_
    replace h := h.2
    refine J_iload dX7_kindOfWord_36 rfl ?_
    refine J_iaddN dX7_kindOfWord_38 h.1 ?_
    replace h := h.2
    refine J_callVF (as := [_]) (mc1 := 0) (ms1 := 0) (mc := 0) (ms := 0) dX7_kindOfWord_39 mv_J0_charAt_5068e lk_X7_70 rfl (Nat.le_of_ble_eq_true rfl) (Nat.le_of_ble_eq_true rfl) h (fun r σ hq _ => ?_)
    obtain ⟨x2, I2, rfl, rfl, h⟩ := hq
    change J _ _ _ _ _ _ _ [vI x2] _ _
    refine J_aload_n dX7_kindOfWord_42 rfl rfl ?_
    refine J_getR dX7_kindOfWord_43 ck_7 fw_X7_25 rfl sh_28 rr_28_1 ?_
    refine J_iload_n dX7_kindOfWord_46 rfl rfl ?_
    refine J_iload dX7_kindOfWord_47 rfl ?_
    refine J_iaddN dX7_kindOfWord_49 h.1 ?_
    replace h := h.2
    refine J_iald dX7_kindOfWord_50 sh_27 h.1.1 h.1.2 ?_
    replace h := h.2
    refine J_ic_ne (tgt := 60) dX7_kindOfWord_51 (by decide) (fun c => ?_) (fun c => ?_)
    · replace h := h.1 c
      refine J_iload dX7_kindOfWord_60 rfl ?_
      refine J_iload_n dX7_kindOfWord_62 rfl rfl ?_
      refine J_ic_ne (tgt := 87) dX7_kindOfWord_63 (by decide) (fun c => ?_) (fun c => ?_)
      · replace h := h.1 c
        refine J_iincN dX7_kindOfWord_87 rfl (by decide) h.1 ?_
        replace h := h.2
        change J _ _ _ _ _ _ [(0, _), (1, _), (2, _), (3, _), (4, _), (5, _)] _ _ _
        refine J_goto (tgt := 7) dX7_kindOfWord_90 (by decide) ?_
        exact J_loc (ls_sub [0, 1, 2, 3, 4] rfl) h
      · replace h := h.2 c
        refine J_ldcS dX7_kindOfWord_66 rfl ?_
        refine J_iload dX7_kindOfWord_68 rfl ?_
        refine J_bipush dX7_kindOfWord_70 (ii_c rfl) (by decide) ?_
        refine J_imulN dX7_kindOfWord_72 h.1 ?_
        replace h := h.2
        refine J_iload dX7_kindOfWord_73 rfl ?_
        refine J_iaddN dX7_kindOfWord_75 h.1 ?_
        replace h := h.2
        refine J_callVF (as := [_]) (mc1 := 0) (ms1 := 0) (mc := 0) (ms := 0) dX7_kindOfWord_76 mv_J0_charAt_5068e lk_X7_70 rfl (Nat.le_of_ble_eq_true rfl) (Nat.le_of_ble_eq_true rfl) h (fun r σ hq _ => ?_)
        obtain ⟨x3, I3, rfl, rfl, h⟩ := hq
        change J _ _ _ _ _ _ _ [vI x3] _ _
        refine J_bipush dX7_kindOfWord_79 (ii_c rfl) (by decide) ?_
        refine J_ic_ne (tgt := 87) dX7_kindOfWord_81 (by decide) (fun c => ?_) (fun c => ?_)
        · replace h := h.1 c
          refine J_iincN dX7_kindOfWord_87 rfl (by decide) h.1 ?_
          replace h := h.2
          change J _ _ _ _ _ _ [(0, _), (1, _), (2, _), (3, _), (4, _), (5, _)] _ _ _
          refine J_goto (tgt := 7) dX7_kindOfWord_90 (by decide) ?_
          exact J_loc (ls_sub [0, 1, 2, 3, 4] rfl) h
        · replace h := h.2 c
          refine J_iload dX7_kindOfWord_84 rfl ?_
          exact J_reti dX7_kindOfWord_86 rfl h
    · replace h := h.2 c
      refine J_iincN dX7_kindOfWord_54 rfl (by decide) h.1 ?_
      replace h := h.2
      change J _ _ _ _ _ _ [(0, _), (1, _), (2, _), (3, _), (4, _), (5, _)] _ _ _
      refine J_goto (tgt := 23) dX7_kindOfWord_57 (by decide) ?_
      exact h
set_option maxRecDepth 20000 in
set_option maxHeartbeats 2000000 in
theorem bk_X7_advance_0 {d : Nat} {I : HI} {Q : Option AV → AH → Prop}   (h : ((28 < (I 28 8) → J none mX7_advance (d + 1) 0 0 34 [(0, vR 28), (1, vI 0), (2, vI (I 28 7))] [] (mk I) Q) ∧ (¬ (28 < (I 28 8)) → (-2147483648 ≤ (I 28 11) + 1 ∧ (I 28 11) + 1 ≤ 2147483647) ∧ (∀ I1 : HI, I1 = up I 28 11 ((I 28 11) + 1) → J none mX7_advance (d + 1) 0 0 34 [(0, vR 28), (1, vI 1), (2, vI (I 28 7))] [] (mk I1) Q)))) : J none mX7_advance (d + 1) 0 0 0 [(0, vR 28)] [] (mk I) Q := by
  refine J_aload_n dX7_advance_0 rfl rfl ?_
  refine J_getI dX7_advance_1 ck_7 fw_X7_45 rfl sh_28 ?_
  refine J_bipush dX7_advance_4 (ii_c rfl) (by decide) ?_
  refine J_ic_gt (tgt := 13) dX7_advance_6 (by decide) (fun c => ?_) (fun c => ?_)
  · replace h := h.1 c
    refine J_iconst dX7_advance_13 (ii_c rfl) ?_
    refine J_istore_n dX7_advance_14 rfl (by decide) ?_
    change J _ _ _ _ _ _ [(0, _), (1, _)] _ _ _
    refine J_aload_n dX7_advance_15 rfl rfl ?_
    refine J_getI dX7_advance_16 ck_7 fw_X7_42 rfl sh_28 ?_
    refine J_istore_n dX7_advance_19 rfl (by decide) ?_
    change J _ _ _ _ _ _ [(0, _), (1, _), (2, _)] _ _ _
    refine J_iload_n dX7_advance_20 rfl rfl ?_
    refine J_if_eq (tgt := 34) dX7_advance_21 (by decide) (fun _ => ?_) (fun c => absurd (by decide) c)
    exact h
  · replace h := h.2 c
    refine J_iconst dX7_advance_9 (ii_c rfl) ?_
    refine J_goto (tgt := 14) dX7_advance_10 (by decide) ?_
    refine J_istore_n dX7_advance_14 rfl (by decide) ?_
    change J _ _ _ _ _ _ [(0, _), (1, _)] _ _ _
    refine J_aload_n dX7_advance_15 rfl rfl ?_
    refine J_getI dX7_advance_16 ck_7 fw_X7_42 rfl sh_28 ?_
    refine J_istore_n dX7_advance_19 rfl (by decide) ?_
    change J _ _ _ _ _ _ [(0, _), (1, _), (2, _)] _ _ _
    refine J_iload_n dX7_advance_20 rfl rfl ?_
    refine J_if_eq (tgt := 34) dX7_advance_21 (by decide) (fun c => absurd c (by decide)) (fun _ => ?_)
    refine J_aload_n dX7_advance_24 rfl rfl ?_
    refine J_dup dX7_advance_25 rfl ?_
    refine J_getI dX7_advance_26 ck_7 fw_X7_76 rfl sh_28 ?_
    refine J_iconst dX7_advance_29 (ii_c rfl) ?_
    refine J_iaddN dX7_advance_30 h.1 ?_
    replace h := h.2
    refine J_putI dX7_advance_31 ck_7 fw_X7_76 rfl rfl (Or.inl rfl) sh_28 ?_
    replace h := h _ rfl
    exact h
set_option maxRecDepth 20000 in
set_option maxHeartbeats 2000000 in
theorem bk_X7_advance_34 {d : Nat} {I : HI} {Q : Option AV → AH → Prop} {a1 : Int} {a2 : Int}  (h : ((0 : Int) ≤ (I 28 5) ∧ (I 28 5 : Int) < 1601) ∧ (∀ I1 : HI, I1 = up I 28 8 (I 31 (I 28 5).toNat) → ((0 : Int) ≤ (I1 28 5) ∧ (I1 28 5 : Int) < 1601) ∧ (∀ I2 : HI, I2 = up I1 28 6 (I1 29 (I1 28 5).toNat) → ((0 : Int) ≤ (I2 28 5) ∧ (I2 28 5 : Int) < 1601) ∧ (∀ I3 : HI, I3 = up I2 28 7 (I2 30 (I2 28 5).toNat) → ((a1 = 0 → (∀ I4 : HI, I4 = up I3 28 9 0 → (((I4 28 8) = 30 → Q none (mk I4)) ∧ (¬ ((I4 28 8) = 30) → (-2147483648 ≤ (I4 28 5) + 1 ∧ (I4 28 5) + 1 ≤ 2147483647) ∧ (∀ I5 : HI, I5 = up I4 28 5 ((I4 28 5) + 1) → Q none (mk I5)))))) ∧ (¬ (a1 = 0) → (((I3 28 6) ≠ a2 → (∀ I6 : HI, I6 = up I3 28 9 0 → (((I6 28 8) = 30 → Q none (mk I6)) ∧ (¬ ((I6 28 8) = 30) → (-2147483648 ≤ (I6 28 5) + 1 ∧ (I6 28 5) + 1 ≤ 2147483647) ∧ (∀ I7 : HI, I7 = up I6 28 5 ((I6 28 5) + 1) → Q none (mk I7)))))) ∧ ((I3 28 6) = a2 → ((28 < (I3 28 8) → (∀ I8 : HI, I8 = up I3 28 9 0 → (((I8 28 8) = 30 → Q none (mk I8)) ∧ (¬ ((I8 28 8) = 30) → (-2147483648 ≤ (I8 28 5) + 1 ∧ (I8 28 5) + 1 ≤ 2147483647) ∧ (∀ I9 : HI, I9 = up I8 28 5 ((I8 28 5) + 1) → Q none (mk I9)))))) ∧ (¬ (28 < (I3 28 8)) → (∀ I10 : HI, I10 = up I3 28 9 1 → (((I10 28 8) = 30 → Q none (mk I10)) ∧ (¬ ((I10 28 8) = 30) → (-2147483648 ≤ (I10 28 5) + 1 ∧ (I10 28 5) + 1 ≤ 2147483647) ∧ (∀ I11 : HI, I11 = up I10 28 5 ((I10 28 5) + 1) → Q none (mk I11))))))))))))))) : J none mX7_advance (d + 1) 0 0 34 [(0, vR 28), (1, vI a1), (2, vI a2)] [] (mk I) Q := by
  refine J_aload_n dX7_advance_34 rfl rfl ?_
  refine J_aload_n dX7_advance_35 rfl rfl ?_
  refine J_getR dX7_advance_36 ck_7 fw_X7_18 rfl sh_28 rr_28_4 ?_
  refine J_aload_n dX7_advance_39 rfl rfl ?_
  refine J_getI dX7_advance_40 ck_7 fw_X7_38 rfl sh_28 ?_
  refine J_iald dX7_advance_43 sh_31 h.1.1 h.1.2 ?_
  replace h := h.2
  refine J_putI dX7_advance_44 ck_7 fw_X7_45 rfl rfl (Or.inl rfl) sh_28 ?_
  replace h := h _ rfl
  refine J_aload_n dX7_advance_47 rfl rfl ?_
  refine J_aload_n dX7_advance_48 rfl rfl ?_
  refine J_getR dX7_advance_49 ck_7 fw_X7_9 rfl sh_28 rr_28_2 ?_
  refine J_aload_n dX7_advance_52 rfl rfl ?_
  refine J_getI dX7_advance_53 ck_7 fw_X7_38 rfl sh_28 ?_
  refine J_iald dX7_advance_56 sh_29 h.1.1 h.1.2 ?_
  replace h := h.2
  refine J_putI dX7_advance_57 ck_7 fw_X7_79 rfl rfl (Or.inl rfl) sh_28 ?_
  replace h := h _ rfl
  refine J_aload_n dX7_advance_60 rfl rfl ?_
  refine J_aload_n dX7_advance_61 rfl rfl ?_
  refine J_getR dX7_advance_62 ck_7 fw_X7_15 rfl sh_28 rr_28_3 ?_
  refine J_aload_n dX7_advance_65 rfl rfl ?_
  refine J_getI dX7_advance_66 ck_7 fw_X7_38 rfl sh_28 ?_
  refine J_iald dX7_advance_69 sh_30 h.1.1 h.1.2 ?_
  replace h := h.2
  refine J_putI dX7_advance_70 ck_7 fw_X7_42 rfl rfl (Or.inl rfl) sh_28 ?_
  replace h := h _ rfl
  refine J_aload_n dX7_advance_73 rfl rfl ?_
  refine J_iload_n dX7_advance_74 rfl rfl ?_
  refine J_if_eq (tgt := 99) dX7_advance_75 (by decide) (fun c => ?_) (fun c => ?_)
  · replace h := h.1 c
    refine J_iconst dX7_advance_99 (ii_c rfl) ?_
    refine J_putI dX7_advance_100 ck_7 fw_X7_82 rfl rfl (Or.inr ⟨rfl, Or.inl rfl⟩) sh_28 ?_
    replace h := h _ rfl
    refine J_aload_n dX7_advance_103 rfl rfl ?_
    refine J_getI dX7_advance_104 ck_7 fw_X7_45 rfl sh_28 ?_
    refine J_bipush dX7_advance_107 (ii_c rfl) (by decide) ?_
    refine J_ic_eq (tgt := 122) dX7_advance_109 (by decide) (fun c => ?_) (fun c => ?_)
    · replace h := h.1 c
      exact J_retv dX7_advance_122 rfl h
    · replace h := h.2 c
      refine J_aload_n dX7_advance_112 rfl rfl ?_
      refine J_dup dX7_advance_113 rfl ?_
      refine J_getI dX7_advance_114 ck_7 fw_X7_38 rfl sh_28 ?_
      refine J_iconst dX7_advance_117 (ii_c rfl) ?_
      refine J_iaddN dX7_advance_118 h.1 ?_
      replace h := h.2
      refine J_putI dX7_advance_119 ck_7 fw_X7_38 rfl rfl (Or.inl rfl) sh_28 ?_
      replace h := h _ rfl
      exact J_retv dX7_advance_122 rfl h
  · replace h := h.2 c
    refine J_aload_n dX7_advance_78 rfl rfl ?_
    refine J_getI dX7_advance_79 ck_7 fw_X7_79 rfl sh_28 ?_
    refine J_iload_n dX7_advance_82 rfl rfl ?_
    refine J_ic_ne (tgt := 99) dX7_advance_83 (by decide) (fun c => ?_) (fun c => ?_)
    · replace h := h.1 c
      refine J_iconst dX7_advance_99 (ii_c rfl) ?_
      refine J_putI dX7_advance_100 ck_7 fw_X7_82 rfl rfl (Or.inr ⟨rfl, Or.inl rfl⟩) sh_28 ?_
      replace h := h _ rfl
      refine J_aload_n dX7_advance_103 rfl rfl ?_
      refine J_getI dX7_advance_104 ck_7 fw_X7_45 rfl sh_28 ?_
      refine J_bipush dX7_advance_107 (ii_c rfl) (by decide) ?_
      refine J_ic_eq (tgt := 122) dX7_advance_109 (by decide) (fun c => ?_) (fun c => ?_)
      · replace h := h.1 c
        exact J_retv dX7_advance_122 rfl h
      · replace h := h.2 c
        refine J_aload_n dX7_advance_112 rfl rfl ?_
        refine J_dup dX7_advance_113 rfl ?_
        refine J_getI dX7_advance_114 ck_7 fw_X7_38 rfl sh_28 ?_
        refine J_iconst dX7_advance_117 (ii_c rfl) ?_
        refine J_iaddN dX7_advance_118 h.1 ?_
        replace h := h.2
        refine J_putI dX7_advance_119 ck_7 fw_X7_38 rfl rfl (Or.inl rfl) sh_28 ?_
        replace h := h _ rfl
        exact J_retv dX7_advance_122 rfl h
    · replace h := h.2 c
      refine J_aload_n dX7_advance_86 rfl rfl ?_
      refine J_getI dX7_advance_87 ck_7 fw_X7_45 rfl sh_28 ?_
      refine J_bipush dX7_advance_90 (ii_c rfl) (by decide) ?_
      refine J_ic_gt (tgt := 99) dX7_advance_92 (by decide) (fun c => ?_) (fun c => ?_)
      · replace h := h.1 c
        refine J_iconst dX7_advance_99 (ii_c rfl) ?_
        refine J_putI dX7_advance_100 ck_7 fw_X7_82 rfl rfl (Or.inr ⟨rfl, Or.inl rfl⟩) sh_28 ?_
        replace h := h _ rfl
        refine J_aload_n dX7_advance_103 rfl rfl ?_
        refine J_getI dX7_advance_104 ck_7 fw_X7_45 rfl sh_28 ?_
        refine J_bipush dX7_advance_107 (ii_c rfl) (by decide) ?_
        refine J_ic_eq (tgt := 122) dX7_advance_109 (by decide) (fun c => ?_) (fun c => ?_)
        · replace h := h.1 c
          exact J_retv dX7_advance_122 rfl h
        · replace h := h.2 c
          refine J_aload_n dX7_advance_112 rfl rfl ?_
          refine J_dup dX7_advance_113 rfl ?_
          refine J_getI dX7_advance_114 ck_7 fw_X7_38 rfl sh_28 ?_
          refine J_iconst dX7_advance_117 (ii_c rfl) ?_
          refine J_iaddN dX7_advance_118 h.1 ?_
          replace h := h.2
          refine J_putI dX7_advance_119 ck_7 fw_X7_38 rfl rfl (Or.inl rfl) sh_28 ?_
          replace h := h _ rfl
          exact J_retv dX7_advance_122 rfl h
      · replace h := h.2 c
        refine J_iconst dX7_advance_95 (ii_c rfl) ?_
        refine J_goto (tgt := 100) dX7_advance_96 (by decide) ?_
        refine J_putI dX7_advance_100 ck_7 fw_X7_82 rfl rfl (Or.inr ⟨rfl, Or.inr rfl⟩) sh_28 ?_
        replace h := h _ rfl
        refine J_aload_n dX7_advance_103 rfl rfl ?_
        refine J_getI dX7_advance_104 ck_7 fw_X7_45 rfl sh_28 ?_
        refine J_bipush dX7_advance_107 (ii_c rfl) (by decide) ?_
        refine J_ic_eq (tgt := 122) dX7_advance_109 (by decide) (fun c => ?_) (fun c => ?_)
        · replace h := h.1 c
          exact J_retv dX7_advance_122 rfl h
        · replace h := h.2 c
          refine J_aload_n dX7_advance_112 rfl rfl ?_
          refine J_dup dX7_advance_113 rfl ?_
          refine J_getI dX7_advance_114 ck_7 fw_X7_38 rfl sh_28 ?_
          refine J_iconst dX7_advance_117 (ii_c rfl) ?_
          refine J_iaddN dX7_advance_118 h.1 ?_
          replace h := h.2
          refine J_putI dX7_advance_119 ck_7 fw_X7_38 rfl rfl (Or.inl rfl) sh_28 ?_
          replace h := h _ rfl
          exact J_retv dX7_advance_122 rfl h
set_option maxRecDepth 20000 in
set_option maxHeartbeats 2000000 in
theorem bk_X7_more_0 {d : Nat} {I : HI} {Q : Option AV → AH → Prop}   (h : (((I 28 8) = 30 → Q (some (vI 0)) (mk I)) ∧ (¬ ((I 28 8) = 30) → Q (some (vI 1)) (mk I)))) : J none mX7_more (d + 1) 0 0 0 [(0, vR 28)] [] (mk I) Q := by
  refine J_aload_n dX7_more_0 rfl rfl ?_
  refine J_getI dX7_more_1 ck_7 fw_X7_45 rfl sh_28 ?_
  refine J_bipush dX7_more_4 (ii_c rfl) (by decide) ?_
  refine J_ic_eq (tgt := 13) dX7_more_6 (by decide) (fun c => ?_) (fun c => ?_)
  · replace h := h.1 c
    refine J_iconst dX7_more_13 (ii_c rfl) ?_
    exact J_retz dX7_more_14 rfl (Or.inl rfl) h
  · replace h := h.2 c
    refine J_iconst dX7_more_9 (ii_c rfl) ?_
    refine J_goto (tgt := 14) dX7_more_10 (by decide) ?_
    exact J_retz dX7_more_14 rfl (Or.inr rfl) h
set_option maxRecDepth 20000 in
set_option maxHeartbeats 2000000 in
theorem bk_X7_fail_0 {d : Nat} {I : HI} {Q : Option AV → AH → Prop} {a1 : Int} {a2 : Int}  (h : (∀ I1 : HI, I1 = up I 28 13 a1 → (∀ I2 : HI, I2 = up I1 28 14 a2 → Q (some (vI 0)) (mk I2)))) : J none mX7_fail (d + 1) 0 0 0 [(0, vR 28), (1, vI a1), (2, vI a2)] [] (mk I) Q := by
  refine J_aload_n dX7_fail_0 rfl rfl ?_
  refine J_iload_n dX7_fail_1 rfl rfl ?_
  refine J_putI dX7_fail_2 ck_7 fw_X7_51 rfl rfl (Or.inl rfl) sh_28 ?_
  replace h := h _ rfl
  refine J_aload_n dX7_fail_5 rfl rfl ?_
  refine J_iload_n dX7_fail_6 rfl rfl ?_
  refine J_putI dX7_fail_7 ck_7 fw_X7_54 rfl rfl (Or.inl rfl) sh_28 ?_
  replace h := h _ rfl
  refine J_iconst dX7_fail_10 (ii_c rfl) ?_
  exact J_retz dX7_fail_11 rfl (Or.inl rfl) h
set_option maxRecDepth 20000 in
set_option maxHeartbeats 2000000 in
theorem bk_X7_statement_0 {d : Nat} {I : HI} {Q : Option AV → AH → Prop}   (h : ((((I 28 8) < 0 ∨ 15 < (I 28 8)) → CI mX7_fail d [vR 28, vI 1, vI (I 28 6)] I (fun x1 I1 => ((x1 = 0 → Q (some (vI 0)) (mk I1)) ∧ (¬ (x1 = 0) → CI mX7_sign d [vR 28, vI 59] I1 (fun x2 I2 => ((x2 = 0 → Q (some (vI 0)) (mk I2)) ∧ (¬ (x2 = 0) → Q (some (vI 1)) (mk I2)))))))) ∧ ((I 28 8) = 0 → CI mX7_tellCorner d [vR 28] I (fun x3 I3 => ((x3 = 0 → Q (some (vI 0)) (mk I3)) ∧ (¬ (x3 = 0) → CI mX7_sign d [vR 28, vI 59] I3 (fun x4 I4 => ((x4 = 0 → Q (some (vI 0)) (mk I4)) ∧ (¬ (x4 = 0) → Q (some (vI 1)) (mk I4)))))))) ∧ ((I 28 8) = 1 → CI mX7_fail d [vR 28, vI 1, vI (I 28 6)] I (fun x5 I5 => ((x5 = 0 → Q (some (vI 0)) (mk I5)) ∧ (¬ (x5 = 0) → CI mX7_sign d [vR 28, vI 59] I5 (fun x6 I6 => ((x6 = 0 → Q (some (vI 0)) (mk I6)) ∧ (¬ (x6 = 0) → Q (some (vI 1)) (mk I6)))))))) ∧ ((I 28 8) = 2 → CI mX7_tellLane d [vR 28] I (fun x7 I7 => ((x7 = 0 → Q (some (vI 0)) (mk I7)) ∧ (¬ (x7 = 0) → CI mX7_sign d [vR 28, vI 59] I7 (fun x8 I8 => ((x8 = 0 → Q (some (vI 0)) (mk I8)) ∧ (¬ (x8 = 0) → Q (some (vI 1)) (mk I8)))))))) ∧ ((3 ≤ (I 28 8) ∧ (I 28 8) ≤ 4) → CI mX7_fail d [vR 28, vI 1, vI (I 28 6)] I (fun x9 I9 => ((x9 = 0 → Q (some (vI 0)) (mk I9)) ∧ (¬ (x9 = 0) → CI mX7_sign d [vR 28, vI 59] I9 (fun x10 I10 => ((x10 = 0 → Q (some (vI 0)) (mk I10)) ∧ (¬ (x10 = 0) → Q (some (vI 1)) (mk I10)))))))) ∧ ((I 28 8) = 5 → CI mX7_tellSaint d [vR 28] I (fun x13 I13 => ((x13 = 0 → Q (some (vI 0)) (mk I13)) ∧ (¬ (x13 = 0) → CI mX7_sign d [vR 28, vI 59] I13 (fun x14 I14 => ((x14 = 0 → Q (some (vI 0)) (mk I14)) ∧ (¬ (x14 = 0) → Q (some (vI 1)) (mk I14)))))))) ∧ ((6 ≤ (I 28 8) ∧ (I 28 8) ≤ 9) → CI mX7_fail d [vR 28, vI 1, vI (I 28 6)] I (fun x15 I15 => ((x15 = 0 → Q (some (vI 0)) (mk I15)) ∧ (¬ (x15 = 0) → CI mX7_sign d [vR 28, vI 59] I15 (fun x16 I16 => ((x16 = 0 → Q (some (vI 0)) (mk I16)) ∧ (¬ (x16 = 0) → Q (some (vI 1)) (mk I16)))))))) ∧ ((I 28 8) = 10 → CI mX7_tellBalcony d [vR 28] I (fun x23 I23 => ((x23 = 0 → Q (some (vI 0)) (mk I23)) ∧ (¬ (x23 = 0) → CI mX7_sign d [vR 28, vI 59] I23 (fun x24 I24 => ((x24 = 0 → Q (some (vI 0)) (mk I24)) ∧ (¬ (x24 = 0) → Q (some (vI 1)) (mk I24)))))))) ∧ ((11 ≤ (I 28 8) ∧ (I 28 8) ≤ 13) → CI mX7_fail d [vR 28, vI 1, vI (I 28 6)] I (fun x25 I25 => ((x25 = 0 → Q (some (vI 0)) (mk I25)) ∧ (¬ (x25 = 0) → CI mX7_sign d [vR 28, vI 59] I25 (fun x26 I26 => ((x26 = 0 → Q (some (vI 0)) (mk I26)) ∧ (¬ (x26 = 0) → Q (some (vI 1)) (mk I26)))))))) ∧ ((I 28 8) = 14 → CI mX7_full d [vR 28, vI 4, vI 6] I (fun x31 I31 => ((x31 ≠ 0 → Q (some (vI 0)) (mk I31)) ∧ (x31 = 0 → CI mX7_test d [vR 28, vI 0] I31 (fun x32 I32 => ((x32 = 0 → Q (some (vI 0)) (mk I32)) ∧ (¬ (x32 = 0) → CI mX7_exceptionStands d [vR 28] I32 (fun x33 I33 => ((x33 = 0 → Q (some (vI 0)) (mk I33)) ∧ (¬ (x33 = 0) → CI mX7_sign d [vR 28, vI 59] I33 (fun x34 I34 => ((x34 = 0 → Q (some (vI 0)) (mk I34)) ∧ (¬ (x34 = 0) → Q (some (vI 1)) (mk I34)))))))))))))) ∧ ((I 28 8) = 15 → CV mX7_advance d [vR 28] I (fun I35 => CI mX7_number d [vR 28, vI 0, vI 999] I35 (fun x36 I36 => (∀ I37 : HI, I37 = up I36 14 13 (I36 28 10) → ((x36 = 0 → Q (some (vI 0)) (mk I37)) ∧ (¬ (x36 = 0) → CI mX7_sign d [vR 28, vI 59] I37 (fun x37 I38 => ((x37 = 0 → Q (some (vI 0)) (mk I38)) ∧ (¬ (x37 = 0) → Q (some (vI 1)) (mk I38)))))))))))) : J none mX7_statement (d + 1) 0 0 0 [(0, vR 28)] [] (mk I) Q := by
  refine J_aload_n dX7_statement_0 rfl rfl ?_
  refine J_getI dX7_statement_1 ck_7 fw_X7_45 rfl sh_28 ?_
  rcases (show ((I 28 8) < 0 ∨ 15 < (I 28 8)) ∨ (I 28 8) = 0 ∨ (I 28 8) = 1 ∨ (I 28 8) = 2 ∨ (I 28 8) = 3 ∨ (I 28 8) = 4 ∨ (I 28 8) = 5 ∨ (I 28 8) = 6 ∨ (I 28 8) = 7 ∨ (I 28 8) = 8 ∨ (I 28 8) = 9 ∨ (I 28 8) = 10 ∨ (I 28 8) = 11 ∨ (I 28 8) = 12 ∨ (I 28 8) = 13 ∨ (I 28 8) = 14 ∨ (I 28 8) = 15 by omega) with c | c | c | c | c | c | c | c | c | c | c | c | c | c | c | c | c
  · replace h := h.1 c
    refine J_tabOut (x := I 28 8) (tgt := 177) dX7_statement_4 c (by decide) ?_
    refine J_aload_n dX7_statement_177 rfl rfl ?_
    refine J_iconst dX7_statement_178 (ii_c rfl) ?_
    refine J_aload_n dX7_statement_179 rfl rfl ?_
    refine J_getI dX7_statement_180 ck_7 fw_X7_79 rfl sh_28 ?_
    refine J_callV (as := [_, _]) (mc1 := 0) (ms1 := 0) (mc := 0) (ms := 0) dX7_statement_183 mv_X7_fail lk_X7_119 sh_28 rfl (Nat.le_of_ble_eq_true rfl) (Nat.le_of_ble_eq_true rfl) h (fun r σ hq _ => ?_)
    obtain ⟨x1, I1, rfl, rfl, h⟩ := hq
    change J _ _ _ _ _ _ _ [vI x1] _ _
    refine J_istore_n dX7_statement_186 rfl (by decide) ?_
    change J _ _ _ _ _ _ [(0, _), (1, _)] _ _ _
    refine J_iload_n dX7_statement_187 rfl rfl ?_
    refine J_if_eq (tgt := 204) dX7_statement_188 (by decide) (fun c => ?_) (fun c => ?_)
    · replace h := h.1 c
      refine J_iconst dX7_statement_204 (ii_c rfl) ?_
      exact J_retz dX7_statement_205 rfl (Or.inl rfl) h
    · replace h := h.2 c
      refine J_aload_n dX7_statement_191 rfl rfl ?_
      refine J_bipush dX7_statement_192 (ii_c rfl) (by decide) ?_
      refine J_callV (as := [_]) (mc1 := 0) (ms1 := 0) (mc := 0) (ms := 0) dX7_statement_194 mv_X7_sign lk_X7_122 sh_28 rfl (Nat.le_of_ble_eq_true rfl) (Nat.le_of_ble_eq_true rfl) h (fun r σ hq _ => ?_)
      obtain ⟨x2, I2, rfl, rfl, h⟩ := hq
      change J _ _ _ _ _ _ _ [vI x2] _ _
      refine J_if_eq (tgt := 204) dX7_statement_197 (by decide) (fun c => ?_) (fun c => ?_)
      · replace h := h.1 c
        refine J_iconst dX7_statement_204 (ii_c rfl) ?_
        exact J_retz dX7_statement_205 rfl (Or.inl rfl) h
      · replace h := h.2 c
        refine J_iconst dX7_statement_200 (ii_c rfl) ?_
        refine J_goto (tgt := 205) dX7_statement_201 (by decide) ?_
        exact J_retz dX7_statement_205 rfl (Or.inr rfl) h
  · replace h := h.2.1 c
    refine J_tabIn (x := I 28 8) (tgt := 84) (off := 80) dX7_statement_4 (by omega) (by omega) (by rw [c]; rfl) (by decide) ?_
    refine J_aload_n dX7_statement_84 rfl rfl ?_
    refine J_callV (as := []) (mc1 := 0) (ms1 := 0) (mc := 0) (ms := 0) dX7_statement_85 mv_X7_tellCorner lk_X7_86 sh_28 rfl (Nat.le_of_ble_eq_true rfl) (Nat.le_of_ble_eq_true rfl) h (fun r σ hq _ => ?_)
    obtain ⟨x3, I3, rfl, rfl, h⟩ := hq
    change J _ _ _ _ _ _ _ [vI x3] _ _
    refine J_istore_n dX7_statement_88 rfl (by decide) ?_
    change J _ _ _ _ _ _ [(0, _), (1, _)] _ _ _
    refine J_goto (tgt := 187) dX7_statement_89 (by decide) ?_
    refine J_iload_n dX7_statement_187 rfl rfl ?_
    refine J_if_eq (tgt := 204) dX7_statement_188 (by decide) (fun c => ?_) (fun c => ?_)
    · replace h := h.1 c
      refine J_iconst dX7_statement_204 (ii_c rfl) ?_
      exact J_retz dX7_statement_205 rfl (Or.inl rfl) h
    · replace h := h.2 c
      refine J_aload_n dX7_statement_191 rfl rfl ?_
      refine J_bipush dX7_statement_192 (ii_c rfl) (by decide) ?_
      refine J_callV (as := [_]) (mc1 := 0) (ms1 := 0) (mc := 0) (ms := 0) dX7_statement_194 mv_X7_sign lk_X7_122 sh_28 rfl (Nat.le_of_ble_eq_true rfl) (Nat.le_of_ble_eq_true rfl) h (fun r σ hq _ => ?_)
      obtain ⟨x4, I4, rfl, rfl, h⟩ := hq
      change J _ _ _ _ _ _ _ [vI x4] _ _
      refine J_if_eq (tgt := 204) dX7_statement_197 (by decide) (fun c => ?_) (fun c => ?_)
      · replace h := h.1 c
        refine J_iconst dX7_statement_204 (ii_c rfl) ?_
        exact J_retz dX7_statement_205 rfl (Or.inl rfl) h
      · replace h := h.2 c
        refine J_iconst dX7_statement_200 (ii_c rfl) ?_
        refine J_goto (tgt := 205) dX7_statement_201 (by decide) ?_
        exact J_retz dX7_statement_205 rfl (Or.inr rfl) h
  · replace h := h.2.2.1 c
    refine J_tabIn (x := I 28 8) (tgt := 177) (off := 173) dX7_statement_4 (by omega) (by omega) (by rw [c]; rfl) (by decide) ?_
    refine J_aload_n dX7_statement_177 rfl rfl ?_
    refine J_iconst dX7_statement_178 (ii_c rfl) ?_
    refine J_aload_n dX7_statement_179 rfl rfl ?_
    refine J_getI dX7_statement_180 ck_7 fw_X7_79 rfl sh_28 ?_
    refine J_callV (as := [_, _]) (mc1 := 0) (ms1 := 0) (mc := 0) (ms := 0) dX7_statement_183 mv_X7_fail lk_X7_119 sh_28 rfl (Nat.le_of_ble_eq_true rfl) (Nat.le_of_ble_eq_true rfl) h (fun r σ hq _ => ?_)
    obtain ⟨x5, I5, rfl, rfl, h⟩ := hq
    change J _ _ _ _ _ _ _ [vI x5] _ _
    refine J_istore_n dX7_statement_186 rfl (by decide) ?_
    change J _ _ _ _ _ _ [(0, _), (1, _)] _ _ _
    refine J_iload_n dX7_statement_187 rfl rfl ?_
    refine J_if_eq (tgt := 204) dX7_statement_188 (by decide) (fun c => ?_) (fun c => ?_)
    · replace h := h.1 c
      refine J_iconst dX7_statement_204 (ii_c rfl) ?_
      exact J_retz dX7_statement_205 rfl (Or.inl rfl) h
    · replace h := h.2 c
      refine J_aload_n dX7_statement_191 rfl rfl ?_
      refine J_bipush dX7_statement_192 (ii_c rfl) (by decide) ?_
      refine J_callV (as := [_]) (mc1 := 0) (ms1 := 0) (mc := 0) (ms := 0) dX7_statement_194 mv_X7_sign lk_X7_122 sh_28 rfl (Nat.le_of_ble_eq_true rfl) (Nat.le_of_ble_eq_true rfl) h (fun r σ hq _ => ?_)
      obtain ⟨x6, I6, rfl, rfl, h⟩ := hq
      change J _ _ _ _ _ _ _ [vI x6] _ _
      refine J_if_eq (tgt := 204) dX7_statement_197 (by decide) (fun c => ?_) (fun c => ?_)
      · replace h := h.1 c
        refine J_iconst dX7_statement_204 (ii_c rfl) ?_
        exact J_retz dX7_statement_205 rfl (Or.inl rfl) h
      · replace h := h.2 c
        refine J_iconst dX7_statement_200 (ii_c rfl) ?_
        refine J_goto (tgt := 205) dX7_statement_201 (by decide) ?_
        exact J_retz dX7_statement_205 rfl (Or.inr rfl) h
  · replace h := h.2.2.2.1 c
    refine J_tabIn (x := I 28 8) (tgt := 92) (off := 88) dX7_statement_4 (by omega) (by omega) (by rw [c]; rfl) (by decide) ?_
    refine J_aload_n dX7_statement_92 rfl rfl ?_
    refine J_callV (as := []) (mc1 := 0) (ms1 := 0) (mc := 0) (ms := 0) dX7_statement_93 mv_X7_tellLane lk_X7_90 sh_28 rfl (Nat.le_of_ble_eq_true rfl) (Nat.le_of_ble_eq_true rfl) h (fun r σ hq _ => ?_)
    obtain ⟨x7, I7, rfl, rfl, h⟩ := hq
    change J _ _ _ _ _ _ _ [vI x7] _ _
    refine J_istore_n dX7_statement_96 rfl (by decide) ?_
    change J _ _ _ _ _ _ [(0, _), (1, _)] _ _ _
    refine J_goto (tgt := 187) dX7_statement_97 (by decide) ?_
    refine J_iload_n dX7_statement_187 rfl rfl ?_
    refine J_if_eq (tgt := 204) dX7_statement_188 (by decide) (fun c => ?_) (fun c => ?_)
    · replace h := h.1 c
      refine J_iconst dX7_statement_204 (ii_c rfl) ?_
      exact J_retz dX7_statement_205 rfl (Or.inl rfl) h
    · replace h := h.2 c
      refine J_aload_n dX7_statement_191 rfl rfl ?_
      refine J_bipush dX7_statement_192 (ii_c rfl) (by decide) ?_
      refine J_callV (as := [_]) (mc1 := 0) (ms1 := 0) (mc := 0) (ms := 0) dX7_statement_194 mv_X7_sign lk_X7_122 sh_28 rfl (Nat.le_of_ble_eq_true rfl) (Nat.le_of_ble_eq_true rfl) h (fun r σ hq _ => ?_)
      obtain ⟨x8, I8, rfl, rfl, h⟩ := hq
      change J _ _ _ _ _ _ _ [vI x8] _ _
      refine J_if_eq (tgt := 204) dX7_statement_197 (by decide) (fun c => ?_) (fun c => ?_)
      · replace h := h.1 c
        refine J_iconst dX7_statement_204 (ii_c rfl) ?_
        exact J_retz dX7_statement_205 rfl (Or.inl rfl) h
      · replace h := h.2 c
        refine J_iconst dX7_statement_200 (ii_c rfl) ?_
        refine J_goto (tgt := 205) dX7_statement_201 (by decide) ?_
        exact J_retz dX7_statement_205 rfl (Or.inr rfl) h
  · replace h := h.2.2.2.2.1 (by omega)
    refine J_tabIn (x := I 28 8) (tgt := 177) (off := 173) dX7_statement_4 (by omega) (by omega) (by rw [c]; rfl) (by decide) ?_
    refine J_aload_n dX7_statement_177 rfl rfl ?_
    refine J_iconst dX7_statement_178 (ii_c rfl) ?_
    refine J_aload_n dX7_statement_179 rfl rfl ?_
    refine J_getI dX7_statement_180 ck_7 fw_X7_79 rfl sh_28 ?_
    refine J_callV (as := [_, _]) (mc1 := 0) (ms1 := 0) (mc := 0) (ms := 0) dX7_statement_183 mv_X7_fail lk_X7_119 sh_28 rfl (Nat.le_of_ble_eq_true rfl) (Nat.le_of_ble_eq_true rfl) h (fun r σ hq _ => ?_)
    obtain ⟨x9, I9, rfl, rfl, h⟩ := hq
    change J _ _ _ _ _ _ _ [vI x9] _ _
    refine J_istore_n dX7_statement_186 rfl (by decide) ?_
    change J _ _ _ _ _ _ [(0, _), (1, _)] _ _ _
    refine J_iload_n dX7_statement_187 rfl rfl ?_
    refine J_if_eq (tgt := 204) dX7_statement_188 (by decide) (fun c => ?_) (fun c => ?_)
    · replace h := h.1 c
      refine J_iconst dX7_statement_204 (ii_c rfl) ?_
      exact J_retz dX7_statement_205 rfl (Or.inl rfl) h
    · replace h := h.2 c
      refine J_aload_n dX7_statement_191 rfl rfl ?_
      refine J_bipush dX7_statement_192 (ii_c rfl) (by decide) ?_
      refine J_callV (as := [_]) (mc1 := 0) (ms1 := 0) (mc := 0) (ms := 0) dX7_statement_194 mv_X7_sign lk_X7_122 sh_28 rfl (Nat.le_of_ble_eq_true rfl) (Nat.le_of_ble_eq_true rfl) h (fun r σ hq _ => ?_)
      obtain ⟨x10, I10, rfl, rfl, h⟩ := hq
      change J _ _ _ _ _ _ _ [vI x10] _ _
      refine J_if_eq (tgt := 204) dX7_statement_197 (by decide) (fun c => ?_) (fun c => ?_)
      · replace h := h.1 c
        refine J_iconst dX7_statement_204 (ii_c rfl) ?_
        exact J_retz dX7_statement_205 rfl (Or.inl rfl) h
      · replace h := h.2 c
        refine J_iconst dX7_statement_200 (ii_c rfl) ?_
        refine J_goto (tgt := 205) dX7_statement_201 (by decide) ?_
        exact J_retz dX7_statement_205 rfl (Or.inr rfl) h
  · replace h := h.2.2.2.2.1 (by omega)
    refine J_tabIn (x := I 28 8) (tgt := 177) (off := 173) dX7_statement_4 (by omega) (by omega) (by rw [c]; rfl) (by decide) ?_
    refine J_aload_n dX7_statement_177 rfl rfl ?_
    refine J_iconst dX7_statement_178 (ii_c rfl) ?_
    refine J_aload_n dX7_statement_179 rfl rfl ?_
    refine J_getI dX7_statement_180 ck_7 fw_X7_79 rfl sh_28 ?_
    refine J_callV (as := [_, _]) (mc1 := 0) (ms1 := 0) (mc := 0) (ms := 0) dX7_statement_183 mv_X7_fail lk_X7_119 sh_28 rfl (Nat.le_of_ble_eq_true rfl) (Nat.le_of_ble_eq_true rfl) h (fun r σ hq _ => ?_)
    obtain ⟨x11, I11, rfl, rfl, h⟩ := hq
    change J _ _ _ _ _ _ _ [vI x11] _ _
    refine J_istore_n dX7_statement_186 rfl (by decide) ?_
    change J _ _ _ _ _ _ [(0, _), (1, _)] _ _ _
    refine J_iload_n dX7_statement_187 rfl rfl ?_
    refine J_if_eq (tgt := 204) dX7_statement_188 (by decide) (fun c => ?_) (fun c => ?_)
    · replace h := h.1 c
      refine J_iconst dX7_statement_204 (ii_c rfl) ?_
      exact J_retz dX7_statement_205 rfl (Or.inl rfl) h
    · replace h := h.2 c
      refine J_aload_n dX7_statement_191 rfl rfl ?_
      refine J_bipush dX7_statement_192 (ii_c rfl) (by decide) ?_
      refine J_callV (as := [_]) (mc1 := 0) (ms1 := 0) (mc := 0) (ms := 0) dX7_statement_194 mv_X7_sign lk_X7_122 sh_28 rfl (Nat.le_of_ble_eq_true rfl) (Nat.le_of_ble_eq_true rfl) h (fun r σ hq _ => ?_)
      obtain ⟨x12, I12, rfl, rfl, h⟩ := hq
      change J _ _ _ _ _ _ _ [vI x12] _ _
      refine J_if_eq (tgt := 204) dX7_statement_197 (by decide) (fun c => ?_) (fun c => ?_)
      · replace h := h.1 c
        refine J_iconst dX7_statement_204 (ii_c rfl) ?_
        exact J_retz dX7_statement_205 rfl (Or.inl rfl) h
      · replace h := h.2 c
        refine J_iconst dX7_statement_200 (ii_c rfl) ?_
        refine J_goto (tgt := 205) dX7_statement_201 (by decide) ?_
        exact J_retz dX7_statement_205 rfl (Or.inr rfl) h
  · replace h := h.2.2.2.2.2.1 c
    refine J_tabIn (x := I 28 8) (tgt := 100) (off := 96) dX7_statement_4 (by omega) (by omega) (by rw [c]; rfl) (by decide) ?_
    refine J_aload_n dX7_statement_100 rfl rfl ?_
    refine J_callV (as := []) (mc1 := 0) (ms1 := 0) (mc := 0) (ms := 0) dX7_statement_101 mv_X7_tellSaint lk_X7_93 sh_28 rfl (Nat.le_of_ble_eq_true rfl) (Nat.le_of_ble_eq_true rfl) h (fun r σ hq _ => ?_)
    obtain ⟨x13, I13, rfl, rfl, h⟩ := hq
    change J _ _ _ _ _ _ _ [vI x13] _ _
    refine J_istore_n dX7_statement_104 rfl (by decide) ?_
    change J _ _ _ _ _ _ [(0, _), (1, _)] _ _ _
    refine J_goto (tgt := 187) dX7_statement_105 (by decide) ?_
    refine J_iload_n dX7_statement_187 rfl rfl ?_
    refine J_if_eq (tgt := 204) dX7_statement_188 (by decide) (fun c => ?_) (fun c => ?_)
    · replace h := h.1 c
      refine J_iconst dX7_statement_204 (ii_c rfl) ?_
      exact J_retz dX7_statement_205 rfl (Or.inl rfl) h
    · replace h := h.2 c
      refine J_aload_n dX7_statement_191 rfl rfl ?_
      refine J_bipush dX7_statement_192 (ii_c rfl) (by decide) ?_
      refine J_callV (as := [_]) (mc1 := 0) (ms1 := 0) (mc := 0) (ms := 0) dX7_statement_194 mv_X7_sign lk_X7_122 sh_28 rfl (Nat.le_of_ble_eq_true rfl) (Nat.le_of_ble_eq_true rfl) h (fun r σ hq _ => ?_)
      obtain ⟨x14, I14, rfl, rfl, h⟩ := hq
      change J _ _ _ _ _ _ _ [vI x14] _ _
      refine J_if_eq (tgt := 204) dX7_statement_197 (by decide) (fun c => ?_) (fun c => ?_)
      · replace h := h.1 c
        refine J_iconst dX7_statement_204 (ii_c rfl) ?_
        exact J_retz dX7_statement_205 rfl (Or.inl rfl) h
      · replace h := h.2 c
        refine J_iconst dX7_statement_200 (ii_c rfl) ?_
        refine J_goto (tgt := 205) dX7_statement_201 (by decide) ?_
        exact J_retz dX7_statement_205 rfl (Or.inr rfl) h
  · replace h := h.2.2.2.2.2.2.1 (by omega)
    refine J_tabIn (x := I 28 8) (tgt := 177) (off := 173) dX7_statement_4 (by omega) (by omega) (by rw [c]; rfl) (by decide) ?_
    refine J_aload_n dX7_statement_177 rfl rfl ?_
    refine J_iconst dX7_statement_178 (ii_c rfl) ?_
    refine J_aload_n dX7_statement_179 rfl rfl ?_
    refine J_getI dX7_statement_180 ck_7 fw_X7_79 rfl sh_28 ?_
    refine J_callV (as := [_, _]) (mc1 := 0) (ms1 := 0) (mc := 0) (ms := 0) dX7_statement_183 mv_X7_fail lk_X7_119 sh_28 rfl (Nat.le_of_ble_eq_true rfl) (Nat.le_of_ble_eq_true rfl) h (fun r σ hq _ => ?_)
    obtain ⟨x15, I15, rfl, rfl, h⟩ := hq
    change J _ _ _ _ _ _ _ [vI x15] _ _
    refine J_istore_n dX7_statement_186 rfl (by decide) ?_
    change J _ _ _ _ _ _ [(0, _), (1, _)] _ _ _
    refine J_iload_n dX7_statement_187 rfl rfl ?_
    refine J_if_eq (tgt := 204) dX7_statement_188 (by decide) (fun c => ?_) (fun c => ?_)
    · replace h := h.1 c
      refine J_iconst dX7_statement_204 (ii_c rfl) ?_
      exact J_retz dX7_statement_205 rfl (Or.inl rfl) h
    · replace h := h.2 c
      refine J_aload_n dX7_statement_191 rfl rfl ?_
      refine J_bipush dX7_statement_192 (ii_c rfl) (by decide) ?_
      refine J_callV (as := [_]) (mc1 := 0) (ms1 := 0) (mc := 0) (ms := 0) dX7_statement_194 mv_X7_sign lk_X7_122 sh_28 rfl (Nat.le_of_ble_eq_true rfl) (Nat.le_of_ble_eq_true rfl) h (fun r σ hq _ => ?_)
      obtain ⟨x16, I16, rfl, rfl, h⟩ := hq
      change J _ _ _ _ _ _ _ [vI x16] _ _
      refine J_if_eq (tgt := 204) dX7_statement_197 (by decide) (fun c => ?_) (fun c => ?_)
      · replace h := h.1 c
        refine J_iconst dX7_statement_204 (ii_c rfl) ?_
        exact J_retz dX7_statement_205 rfl (Or.inl rfl) h
      · replace h := h.2 c
        refine J_iconst dX7_statement_200 (ii_c rfl) ?_
        refine J_goto (tgt := 205) dX7_statement_201 (by decide) ?_
        exact J_retz dX7_statement_205 rfl (Or.inr rfl) h
  · replace h := h.2.2.2.2.2.2.1 (by omega)
    refine J_tabIn (x := I 28 8) (tgt := 177) (off := 173) dX7_statement_4 (by omega) (by omega) (by rw [c]; rfl) (by decide) ?_
    refine J_aload_n dX7_statement_177 rfl rfl ?_
    refine J_iconst dX7_statement_178 (ii_c rfl) ?_
    refine J_aload_n dX7_statement_179 rfl rfl ?_
    refine J_getI dX7_statement_180 ck_7 fw_X7_79 rfl sh_28 ?_
    refine J_callV (as := [_, _]) (mc1 := 0) (ms1 := 0) (mc := 0) (ms := 0) dX7_statement_183 mv_X7_fail lk_X7_119 sh_28 rfl (Nat.le_of_ble_eq_true rfl) (Nat.le_of_ble_eq_true rfl) h (fun r σ hq _ => ?_)
    obtain ⟨x17, I17, rfl, rfl, h⟩ := hq
    change J _ _ _ _ _ _ _ [vI x17] _ _
    refine J_istore_n dX7_statement_186 rfl (by decide) ?_
    change J _ _ _ _ _ _ [(0, _), (1, _)] _ _ _
    refine J_iload_n dX7_statement_187 rfl rfl ?_
    refine J_if_eq (tgt := 204) dX7_statement_188 (by decide) (fun c => ?_) (fun c => ?_)
    · replace h := h.1 c
      refine J_iconst dX7_statement_204 (ii_c rfl) ?_
      exact J_retz dX7_statement_205 rfl (Or.inl rfl) h
    · replace h := h.2 c
      refine J_aload_n dX7_statement_191 rfl rfl ?_
      refine J_bipush dX7_statement_192 (ii_c rfl) (by decide) ?_
      refine J_callV (as := [_]) (mc1 := 0) (ms1 := 0) (mc := 0) (ms := 0) dX7_statement_194 mv_X7_sign lk_X7_122 sh_28 rfl (Nat.le_of_ble_eq_true rfl) (Nat.le_of_ble_eq_true rfl) h (fun r σ hq _ => ?_)
      obtain ⟨x18, I18, rfl, rfl, h⟩ := hq
      change J _ _ _ _ _ _ _ [vI x18] _ _
      refine J_if_eq (tgt := 204) dX7_statement_197 (by decide) (fun c => ?_) (fun c => ?_)
      · replace h := h.1 c
        refine J_iconst dX7_statement_204 (ii_c rfl) ?_
        exact J_retz dX7_statement_205 rfl (Or.inl rfl) h
      · replace h := h.2 c
        refine J_iconst dX7_statement_200 (ii_c rfl) ?_
        refine J_goto (tgt := 205) dX7_statement_201 (by decide) ?_
        exact J_retz dX7_statement_205 rfl (Or.inr rfl) h
  · replace h := h.2.2.2.2.2.2.1 (by omega)
    refine J_tabIn (x := I 28 8) (tgt := 177) (off := 173) dX7_statement_4 (by omega) (by omega) (by rw [c]; rfl) (by decide) ?_
    refine J_aload_n dX7_statement_177 rfl rfl ?_
    refine J_iconst dX7_statement_178 (ii_c rfl) ?_
    refine J_aload_n dX7_statement_179 rfl rfl ?_
    refine J_getI dX7_statement_180 ck_7 fw_X7_79 rfl sh_28 ?_
    refine J_callV (as := [_, _]) (mc1 := 0) (ms1 := 0) (mc := 0) (ms := 0) dX7_statement_183 mv_X7_fail lk_X7_119 sh_28 rfl (Nat.le_of_ble_eq_true rfl) (Nat.le_of_ble_eq_true rfl) h (fun r σ hq _ => ?_)
    obtain ⟨x19, I19, rfl, rfl, h⟩ := hq
    change J _ _ _ _ _ _ _ [vI x19] _ _
    refine J_istore_n dX7_statement_186 rfl (by decide) ?_
    change J _ _ _ _ _ _ [(0, _), (1, _)] _ _ _
    refine J_iload_n dX7_statement_187 rfl rfl ?_
    refine J_if_eq (tgt := 204) dX7_statement_188 (by decide) (fun c => ?_) (fun c => ?_)
    · replace h := h.1 c
      refine J_iconst dX7_statement_204 (ii_c rfl) ?_
      exact J_retz dX7_statement_205 rfl (Or.inl rfl) h
    · replace h := h.2 c
      refine J_aload_n dX7_statement_191 rfl rfl ?_
      refine J_bipush dX7_statement_192 (ii_c rfl) (by decide) ?_
      refine J_callV (as := [_]) (mc1 := 0) (ms1 := 0) (mc := 0) (ms := 0) dX7_statement_194 mv_X7_sign lk_X7_122 sh_28 rfl (Nat.le_of_ble_eq_true rfl) (Nat.le_of_ble_eq_true rfl) h (fun r σ hq _ => ?_)
      obtain ⟨x20, I20, rfl, rfl, h⟩ := hq
      change J _ _ _ _ _ _ _ [vI x20] _ _
      refine J_if_eq (tgt := 204) dX7_statement_197 (by decide) (fun c => ?_) (fun c => ?_)
      · replace h := h.1 c
        refine J_iconst dX7_statement_204 (ii_c rfl) ?_
        exact J_retz dX7_statement_205 rfl (Or.inl rfl) h
      · replace h := h.2 c
        refine J_iconst dX7_statement_200 (ii_c rfl) ?_
        refine J_goto (tgt := 205) dX7_statement_201 (by decide) ?_
        exact J_retz dX7_statement_205 rfl (Or.inr rfl) h
  · replace h := h.2.2.2.2.2.2.1 (by omega)
    refine J_tabIn (x := I 28 8) (tgt := 177) (off := 173) dX7_statement_4 (by omega) (by omega) (by rw [c]; rfl) (by decide) ?_
    refine J_aload_n dX7_statement_177 rfl rfl ?_
    refine J_iconst dX7_statement_178 (ii_c rfl) ?_
    refine J_aload_n dX7_statement_179 rfl rfl ?_
    refine J_getI dX7_statement_180 ck_7 fw_X7_79 rfl sh_28 ?_
    refine J_callV (as := [_, _]) (mc1 := 0) (ms1 := 0) (mc := 0) (ms := 0) dX7_statement_183 mv_X7_fail lk_X7_119 sh_28 rfl (Nat.le_of_ble_eq_true rfl) (Nat.le_of_ble_eq_true rfl) h (fun r σ hq _ => ?_)
    obtain ⟨x21, I21, rfl, rfl, h⟩ := hq
    change J _ _ _ _ _ _ _ [vI x21] _ _
    refine J_istore_n dX7_statement_186 rfl (by decide) ?_
    change J _ _ _ _ _ _ [(0, _), (1, _)] _ _ _
    refine J_iload_n dX7_statement_187 rfl rfl ?_
    refine J_if_eq (tgt := 204) dX7_statement_188 (by decide) (fun c => ?_) (fun c => ?_)
    · replace h := h.1 c
      refine J_iconst dX7_statement_204 (ii_c rfl) ?_
      exact J_retz dX7_statement_205 rfl (Or.inl rfl) h
    · replace h := h.2 c
      refine J_aload_n dX7_statement_191 rfl rfl ?_
      refine J_bipush dX7_statement_192 (ii_c rfl) (by decide) ?_
      refine J_callV (as := [_]) (mc1 := 0) (ms1 := 0) (mc := 0) (ms := 0) dX7_statement_194 mv_X7_sign lk_X7_122 sh_28 rfl (Nat.le_of_ble_eq_true rfl) (Nat.le_of_ble_eq_true rfl) h (fun r σ hq _ => ?_)
      obtain ⟨x22, I22, rfl, rfl, h⟩ := hq
      change J _ _ _ _ _ _ _ [vI x22] _ _
      refine J_if_eq (tgt := 204) dX7_statement_197 (by decide) (fun c => ?_) (fun c => ?_)
      · replace h := h.1 c
        refine J_iconst dX7_statement_204 (ii_c rfl) ?_
        exact J_retz dX7_statement_205 rfl (Or.inl rfl) h
      · replace h := h.2 c
        refine J_iconst dX7_statement_200 (ii_c rfl) ?_
        refine J_goto (tgt := 205) dX7_statement_201 (by decide) ?_
        exact J_retz dX7_statement_205 rfl (Or.inr rfl) h
  · replace h := h.2.2.2.2.2.2.2.1 c
    refine J_tabIn (x := I 28 8) (tgt := 108) (off := 104) dX7_statement_4 (by omega) (by omega) (by rw [c]; rfl) (by decide) ?_
    refine J_aload_n dX7_statement_108 rfl rfl ?_
    refine J_callV (as := []) (mc1 := 0) (ms1 := 0) (mc := 0) (ms := 0) dX7_statement_109 mv_X7_tellBalcony lk_X7_96 sh_28 rfl (Nat.le_of_ble_eq_true rfl) (Nat.le_of_ble_eq_true rfl) h (fun r σ hq _ => ?_)
    obtain ⟨x23, I23, rfl, rfl, h⟩ := hq
    change J _ _ _ _ _ _ _ [vI x23] _ _
    refine J_istore_n dX7_statement_112 rfl (by decide) ?_
    change J _ _ _ _ _ _ [(0, _), (1, _)] _ _ _
    refine J_goto (tgt := 187) dX7_statement_113 (by decide) ?_
    refine J_iload_n dX7_statement_187 rfl rfl ?_
    refine J_if_eq (tgt := 204) dX7_statement_188 (by decide) (fun c => ?_) (fun c => ?_)
    · replace h := h.1 c
      refine J_iconst dX7_statement_204 (ii_c rfl) ?_
      exact J_retz dX7_statement_205 rfl (Or.inl rfl) h
    · replace h := h.2 c
      refine J_aload_n dX7_statement_191 rfl rfl ?_
      refine J_bipush dX7_statement_192 (ii_c rfl) (by decide) ?_
      refine J_callV (as := [_]) (mc1 := 0) (ms1 := 0) (mc := 0) (ms := 0) dX7_statement_194 mv_X7_sign lk_X7_122 sh_28 rfl (Nat.le_of_ble_eq_true rfl) (Nat.le_of_ble_eq_true rfl) h (fun r σ hq _ => ?_)
      obtain ⟨x24, I24, rfl, rfl, h⟩ := hq
      change J _ _ _ _ _ _ _ [vI x24] _ _
      refine J_if_eq (tgt := 204) dX7_statement_197 (by decide) (fun c => ?_) (fun c => ?_)
      · replace h := h.1 c
        refine J_iconst dX7_statement_204 (ii_c rfl) ?_
        exact J_retz dX7_statement_205 rfl (Or.inl rfl) h
      · replace h := h.2 c
        refine J_iconst dX7_statement_200 (ii_c rfl) ?_
        refine J_goto (tgt := 205) dX7_statement_201 (by decide) ?_
        exact J_retz dX7_statement_205 rfl (Or.inr rfl) h
  · replace h := h.2.2.2.2.2.2.2.2.1 (by omega)
    refine J_tabIn (x := I 28 8) (tgt := 177) (off := 173) dX7_statement_4 (by omega) (by omega) (by rw [c]; rfl) (by decide) ?_
    refine J_aload_n dX7_statement_177 rfl rfl ?_
    refine J_iconst dX7_statement_178 (ii_c rfl) ?_
    refine J_aload_n dX7_statement_179 rfl rfl ?_
    refine J_getI dX7_statement_180 ck_7 fw_X7_79 rfl sh_28 ?_
    refine J_callV (as := [_, _]) (mc1 := 0) (ms1 := 0) (mc := 0) (ms := 0) dX7_statement_183 mv_X7_fail lk_X7_119 sh_28 rfl (Nat.le_of_ble_eq_true rfl) (Nat.le_of_ble_eq_true rfl) h (fun r σ hq _ => ?_)
    obtain ⟨x25, I25, rfl, rfl, h⟩ := hq
    change J _ _ _ _ _ _ _ [vI x25] _ _
    refine J_istore_n dX7_statement_186 rfl (by decide) ?_
    change J _ _ _ _ _ _ [(0, _), (1, _)] _ _ _
    refine J_iload_n dX7_statement_187 rfl rfl ?_
    refine J_if_eq (tgt := 204) dX7_statement_188 (by decide) (fun c => ?_) (fun c => ?_)
    · replace h := h.1 c
      refine J_iconst dX7_statement_204 (ii_c rfl) ?_
      exact J_retz dX7_statement_205 rfl (Or.inl rfl) h
    · replace h := h.2 c
      refine J_aload_n dX7_statement_191 rfl rfl ?_
      refine J_bipush dX7_statement_192 (ii_c rfl) (by decide) ?_
      refine J_callV (as := [_]) (mc1 := 0) (ms1 := 0) (mc := 0) (ms := 0) dX7_statement_194 mv_X7_sign lk_X7_122 sh_28 rfl (Nat.le_of_ble_eq_true rfl) (Nat.le_of_ble_eq_true rfl) h (fun r σ hq _ => ?_)
      obtain ⟨x26, I26, rfl, rfl, h⟩ := hq
      change J _ _ _ _ _ _ _ [vI x26] _ _
      refine J_if_eq (tgt := 204) dX7_statement_197 (by decide) (fun c => ?_) (fun c => ?_)
      · replace h := h.1 c
        refine J_iconst dX7_statement_204 (ii_c rfl) ?_
        exact J_retz dX7_statement_205 rfl (Or.inl rfl) h
      · replace h := h.2 c
        refine J_iconst dX7_statement_200 (ii_c rfl) ?_
        refine J_goto (tgt := 205) dX7_statement_201 (by decide) ?_
        exact J_retz dX7_statement_205 rfl (Or.inr rfl) h
  · replace h := h.2.2.2.2.2.2.2.2.1 (by omega)
    refine J_tabIn (x := I 28 8) (tgt := 177) (off := 173) dX7_statement_4 (by omega) (by omega) (by rw [c]; rfl) (by decide) ?_
    refine J_aload_n dX7_statement_177 rfl rfl ?_
    refine J_iconst dX7_statement_178 (ii_c rfl) ?_
    refine J_aload_n dX7_statement_179 rfl rfl ?_
    refine J_getI dX7_statement_180 ck_7 fw_X7_79 rfl sh_28 ?_
    refine J_callV (as := [_, _]) (mc1 := 0) (ms1 := 0) (mc := 0) (ms := 0) dX7_statement_183 mv_X7_fail lk_X7_119 sh_28 rfl (Nat.le_of_ble_eq_true rfl) (Nat.le_of_ble_eq_true rfl) h (fun r σ hq _ => ?_)
    obtain ⟨x27, I27, rfl, rfl, h⟩ := hq
    change J _ _ _ _ _ _ _ [vI x27] _ _
    refine J_istore_n dX7_statement_186 rfl (by decide) ?_
    change J _ _ _ _ _ _ [(0, _), (1, _)] _ _ _
    refine J_iload_n dX7_statement_187 rfl rfl ?_
    refine J_if_eq (tgt := 204) dX7_statement_188 (by decide) (fun c => ?_) (fun c => ?_)
    · replace h := h.1 c
      refine J_iconst dX7_statement_204 (ii_c rfl) ?_
      exact J_retz dX7_statement_205 rfl (Or.inl rfl) h
    · replace h := h.2 c
      refine J_aload_n dX7_statement_191 rfl rfl ?_
      refine J_bipush dX7_statement_192 (ii_c rfl) (by decide) ?_
      refine J_callV (as := [_]) (mc1 := 0) (ms1 := 0) (mc := 0) (ms := 0) dX7_statement_194 mv_X7_sign lk_X7_122 sh_28 rfl (Nat.le_of_ble_eq_true rfl) (Nat.le_of_ble_eq_true rfl) h (fun r σ hq _ => ?_)
      obtain ⟨x28, I28, rfl, rfl, h⟩ := hq
      change J _ _ _ _ _ _ _ [vI x28] _ _
      refine J_if_eq (tgt := 204) dX7_statement_197 (by decide) (fun c => ?_) (fun c => ?_)
      · replace h := h.1 c
        refine J_iconst dX7_statement_204 (ii_c rfl) ?_
        exact J_retz dX7_statement_205 rfl (Or.inl rfl) h
      · replace h := h.2 c
        refine J_iconst dX7_statement_200 (ii_c rfl) ?_
        refine J_goto (tgt := 205) dX7_statement_201 (by decide) ?_
        exact J_retz dX7_statement_205 rfl (Or.inr rfl) h
  · replace h := h.2.2.2.2.2.2.2.2.1 (by omega)
    refine J_tabIn (x := I 28 8) (tgt := 177) (off := 173) dX7_statement_4 (by omega) (by omega) (by rw [c]; rfl) (by decide) ?_
    refine J_aload_n dX7_statement_177 rfl rfl ?_
    refine J_iconst dX7_statement_178 (ii_c rfl) ?_
    refine J_aload_n dX7_statement_179 rfl rfl ?_
    refine J_getI dX7_statement_180 ck_7 fw_X7_79 rfl sh_28 ?_
    refine J_callV (as := [_, _]) (mc1 := 0) (ms1 := 0) (mc := 0) (ms := 0) dX7_statement_183 mv_X7_fail lk_X7_119 sh_28 rfl (Nat.le_of_ble_eq_true rfl) (Nat.le_of_ble_eq_true rfl) h (fun r σ hq _ => ?_)
    obtain ⟨x29, I29, rfl, rfl, h⟩ := hq
    change J _ _ _ _ _ _ _ [vI x29] _ _
    refine J_istore_n dX7_statement_186 rfl (by decide) ?_
    change J _ _ _ _ _ _ [(0, _), (1, _)] _ _ _
    refine J_iload_n dX7_statement_187 rfl rfl ?_
    refine J_if_eq (tgt := 204) dX7_statement_188 (by decide) (fun c => ?_) (fun c => ?_)
    · replace h := h.1 c
      refine J_iconst dX7_statement_204 (ii_c rfl) ?_
      exact J_retz dX7_statement_205 rfl (Or.inl rfl) h
    · replace h := h.2 c
      refine J_aload_n dX7_statement_191 rfl rfl ?_
      refine J_bipush dX7_statement_192 (ii_c rfl) (by decide) ?_
      refine J_callV (as := [_]) (mc1 := 0) (ms1 := 0) (mc := 0) (ms := 0) dX7_statement_194 mv_X7_sign lk_X7_122 sh_28 rfl (Nat.le_of_ble_eq_true rfl) (Nat.le_of_ble_eq_true rfl) h (fun r σ hq _ => ?_)
      obtain ⟨x30, I30, rfl, rfl, h⟩ := hq
      change J _ _ _ _ _ _ _ [vI x30] _ _
      refine J_if_eq (tgt := 204) dX7_statement_197 (by decide) (fun c => ?_) (fun c => ?_)
      · replace h := h.1 c
        refine J_iconst dX7_statement_204 (ii_c rfl) ?_
        exact J_retz dX7_statement_205 rfl (Or.inl rfl) h
      · replace h := h.2 c
        refine J_iconst dX7_statement_200 (ii_c rfl) ?_
        refine J_goto (tgt := 205) dX7_statement_201 (by decide) ?_
        exact J_retz dX7_statement_205 rfl (Or.inr rfl) h
  · replace h := h.2.2.2.2.2.2.2.2.2.1 c
    refine J_tabIn (x := I 28 8) (tgt := 116) (off := 112) dX7_statement_4 (by omega) (by omega) (by rw [c]; rfl) (by decide) ?_
    refine J_aload_n dX7_statement_116 rfl rfl ?_
    refine J_iconst dX7_statement_117 (ii_c rfl) ?_
    refine J_bipush dX7_statement_118 (ii_c rfl) (by decide) ?_
    refine J_callV (as := [_, _]) (mc1 := 0) (ms1 := 0) (mc := 0) (ms := 0) dX7_statement_120 mv_X7_full lk_X7_99 sh_28 rfl (Nat.le_of_ble_eq_true rfl) (Nat.le_of_ble_eq_true rfl) h (fun r σ hq _ => ?_)
    obtain ⟨x31, I31, rfl, rfl, h⟩ := hq
    change J _ _ _ _ _ _ _ [vI x31] _ _
    refine J_if_ne (tgt := 145) dX7_statement_123 (by decide) (fun c => ?_) (fun c => ?_)
    · replace h := h.1 c
      refine J_iconst dX7_statement_145 (ii_c rfl) ?_
      refine J_istore_n dX7_statement_146 rfl (by decide) ?_
      change J _ _ _ _ _ _ [(0, _), (1, _)] _ _ _
      refine J_goto (tgt := 187) dX7_statement_147 (by decide) ?_
      refine J_iload_n dX7_statement_187 rfl rfl ?_
      refine J_if_eq (tgt := 204) dX7_statement_188 (by decide) (fun _ => ?_) (fun c => absurd (by decide) c)
      refine J_iconst dX7_statement_204 (ii_c rfl) ?_
      exact J_retz dX7_statement_205 rfl (Or.inl rfl) h
    · replace h := h.2 c
      refine J_aload_n dX7_statement_126 rfl rfl ?_
      refine J_iconst dX7_statement_127 (ii_c rfl) ?_
      refine J_callV (as := [_]) (mc1 := 0) (ms1 := 0) (mc := 0) (ms := 0) dX7_statement_128 mv_X7_test lk_X7_103 sh_28 rfl (Nat.le_of_ble_eq_true rfl) (Nat.le_of_ble_eq_true rfl) h (fun r σ hq _ => ?_)
      obtain ⟨x32, I32, rfl, rfl, h⟩ := hq
      change J _ _ _ _ _ _ _ [vI x32] _ _
      refine J_if_eq (tgt := 145) dX7_statement_131 (by decide) (fun c => ?_) (fun c => ?_)
      · replace h := h.1 c
        refine J_iconst dX7_statement_145 (ii_c rfl) ?_
        refine J_istore_n dX7_statement_146 rfl (by decide) ?_
        change J _ _ _ _ _ _ [(0, _), (1, _)] _ _ _
        refine J_goto (tgt := 187) dX7_statement_147 (by decide) ?_
        refine J_iload_n dX7_statement_187 rfl rfl ?_
        refine J_if_eq (tgt := 204) dX7_statement_188 (by decide) (fun _ => ?_) (fun c => absurd (by decide) c)
        refine J_iconst dX7_statement_204 (ii_c rfl) ?_
        exact J_retz dX7_statement_205 rfl (Or.inl rfl) h
      · replace h := h.2 c
        refine J_aload_n dX7_statement_134 rfl rfl ?_
        refine J_callV (as := []) (mc1 := 0) (ms1 := 0) (mc := 0) (ms := 0) dX7_statement_135 mv_X7_exceptionStands lk_X7_107 sh_28 rfl (Nat.le_of_ble_eq_true rfl) (Nat.le_of_ble_eq_true rfl) h (fun r σ hq _ => ?_)
        obtain ⟨x33, I33, rfl, rfl, h⟩ := hq
        change J _ _ _ _ _ _ _ [vI x33] _ _
        refine J_if_eq (tgt := 145) dX7_statement_138 (by decide) (fun c => ?_) (fun c => ?_)
        · replace h := h.1 c
          refine J_iconst dX7_statement_145 (ii_c rfl) ?_
          refine J_istore_n dX7_statement_146 rfl (by decide) ?_
          change J _ _ _ _ _ _ [(0, _), (1, _)] _ _ _
          refine J_goto (tgt := 187) dX7_statement_147 (by decide) ?_
          refine J_iload_n dX7_statement_187 rfl rfl ?_
          refine J_if_eq (tgt := 204) dX7_statement_188 (by decide) (fun _ => ?_) (fun c => absurd (by decide) c)
          refine J_iconst dX7_statement_204 (ii_c rfl) ?_
          exact J_retz dX7_statement_205 rfl (Or.inl rfl) h
        · replace h := h.2 c
          refine J_iconst dX7_statement_141 (ii_c rfl) ?_
          refine J_goto (tgt := 146) dX7_statement_142 (by decide) ?_
          refine J_istore_n dX7_statement_146 rfl (by decide) ?_
          change J _ _ _ _ _ _ [(0, _), (1, _)] _ _ _
          refine J_goto (tgt := 187) dX7_statement_147 (by decide) ?_
          refine J_iload_n dX7_statement_187 rfl rfl ?_
          refine J_if_eq (tgt := 204) dX7_statement_188 (by decide) (fun c => absurd c (by decide)) (fun _ => ?_)
          refine J_aload_n dX7_statement_191 rfl rfl ?_
          refine J_bipush dX7_statement_192 (ii_c rfl) (by decide) ?_
          refine J_callV (as := [_]) (mc1 := 0) (ms1 := 0) (mc := 0) (ms := 0) dX7_statement_194 mv_X7_sign lk_X7_122 sh_28 rfl (Nat.le_of_ble_eq_true rfl) (Nat.le_of_ble_eq_true rfl) h (fun r σ hq _ => ?_)
          obtain ⟨x34, I34, rfl, rfl, h⟩ := hq
          change J _ _ _ _ _ _ _ [vI x34] _ _
          refine J_if_eq (tgt := 204) dX7_statement_197 (by decide) (fun c => ?_) (fun c => ?_)
          · replace h := h.1 c
            refine J_iconst dX7_statement_204 (ii_c rfl) ?_
            exact J_retz dX7_statement_205 rfl (Or.inl rfl) h
          · replace h := h.2 c
            refine J_iconst dX7_statement_200 (ii_c rfl) ?_
            refine J_goto (tgt := 205) dX7_statement_201 (by decide) ?_
            exact J_retz dX7_statement_205 rfl (Or.inr rfl) h
  · replace h := h.2.2.2.2.2.2.2.2.2.2 c
    refine J_tabIn (x := I 28 8) (tgt := 150) (off := 146) dX7_statement_4 (by omega) (by omega) (by rw [c]; rfl) (by decide) ?_
    refine J_aload_n dX7_statement_150 rfl rfl ?_
    refine J_callV (as := []) (mc1 := 0) (ms1 := 0) (mc := 0) (ms := 0) dX7_statement_151 mv_X7_advance lk_X7_62 sh_28 rfl (Nat.le_of_ble_eq_true rfl) (Nat.le_of_ble_eq_true rfl) h (fun r σ hq _ => ?_)
    obtain ⟨I35, rfl, rfl, h⟩ := hq
    change J _ _ _ _ _ _ _ [] _ _
    refine J_aload_n dX7_statement_154 rfl rfl ?_
    refine J_iconst dX7_statement_155 (ii_c rfl) ?_
    refine J_sipush dX7_statement_156 (ii_c rfl) (by decide) ?_
    refine J_callV (as := [_, _]) (mc1 := 0) (ms1 := 0) (mc := 0) (ms := 0) dX7_statement_159 mv_X7_number lk_X7_110 sh_28 rfl (Nat.le_of_ble_eq_true rfl) (Nat.le_of_ble_eq_true rfl) h (fun r σ hq _ => ?_)
    obtain ⟨x36, I36, rfl, rfl, h⟩ := hq
    change J _ _ _ _ _ _ _ [vI x36] _ _
    refine J_istore_n dX7_statement_162 rfl (by decide) ?_
    change J _ _ _ _ _ _ [(0, _), (1, _)] _ _ _
    refine J_aload_n dX7_statement_163 rfl rfl ?_
    refine J_getR dX7_statement_164 ck_7 fw_X7_21 rfl sh_28 rr_28_0 ?_
    refine J_aload_n dX7_statement_167 rfl rfl ?_
    refine J_getI dX7_statement_168 ck_7 fw_X7_113 rfl sh_28 ?_
    refine J_putI dX7_statement_171 ck_0 fw_X7_116 rfl rfl (Or.inl rfl) sh_14 ?_
    replace h := h _ rfl
    refine J_goto (tgt := 187) dX7_statement_174 (by decide) ?_
    refine J_iload_n dX7_statement_187 rfl rfl ?_
    refine J_if_eq (tgt := 204) dX7_statement_188 (by decide) (fun c => ?_) (fun c => ?_)
    · replace h := h.1 c
      refine J_iconst dX7_statement_204 (ii_c rfl) ?_
      exact J_retz dX7_statement_205 rfl (Or.inl rfl) h
    · replace h := h.2 c
      refine J_aload_n dX7_statement_191 rfl rfl ?_
      refine J_bipush dX7_statement_192 (ii_c rfl) (by decide) ?_
      refine J_callV (as := [_]) (mc1 := 0) (ms1 := 0) (mc := 0) (ms := 0) dX7_statement_194 mv_X7_sign lk_X7_122 sh_28 rfl (Nat.le_of_ble_eq_true rfl) (Nat.le_of_ble_eq_true rfl) h (fun r σ hq _ => ?_)
      obtain ⟨x37, I38, rfl, rfl, h⟩ := hq
      change J _ _ _ _ _ _ _ [vI x37] _ _
      refine J_if_eq (tgt := 204) dX7_statement_197 (by decide) (fun c => ?_) (fun c => ?_)
      · replace h := h.1 c
        refine J_iconst dX7_statement_204 (ii_c rfl) ?_
        exact J_retz dX7_statement_205 rfl (Or.inl rfl) h
      · replace h := h.2 c
        refine J_iconst dX7_statement_200 (ii_c rfl) ?_
        refine J_goto (tgt := 205) dX7_statement_201 (by decide) ?_
        exact J_retz dX7_statement_205 rfl (Or.inr rfl) h
set_option maxRecDepth 20000 in
set_option maxHeartbeats 2000000 in
theorem bk_X7_full_0 {d : Nat} {I : HI} {Q : Option AV → AH → Prop} {a1 : Int} {a2 : Int}  (h : ((0 : Int) ≤ a1 ∧ (a1 : Int) < 5) ∧ (((I 15 a1.toNat) < a2 → CV mX7_advance d [vR 28] I (fun I1 => (∀ I2 : HI, I2 = up I1 28 11 0 → Q (some (vI 0)) (mk I2)))) ∧ (¬ ((I 15 a1.toNat) < a2) → CI mX7_fail d [vR 28, vI 5, vI (I 28 6)] I (fun x2 I3 => Q (some (vI 1)) (mk I3))))) : J none mX7_full (d + 1) 0 0 0 [(0, vR 28), (1, vI a1), (2, vI a2)] [] (mk I) Q := by
  refine J_aload_n dX7_full_0 rfl rfl ?_
  refine J_getR dX7_full_1 ck_7 fw_X7_21 rfl sh_28 rr_28_0 ?_
  refine J_getR dX7_full_4 ck_0 fw_X7_125 rfl sh_14 rr_14_0 ?_
  refine J_iload_n dX7_full_7 rfl rfl ?_
  refine J_iald dX7_full_8 sh_15 h.1.1 h.1.2 ?_
  replace h := h.2
  refine J_iload_n dX7_full_9 rfl rfl ?_
  refine J_ic_lt (tgt := 25) dX7_full_10 (by decide) (fun c => ?_) (fun c => ?_)
  · replace h := h.1 c
    refine J_aload_n dX7_full_25 rfl rfl ?_
    refine J_callV (as := []) (mc1 := 0) (ms1 := 0) (mc := 0) (ms := 0) dX7_full_26 mv_X7_advance lk_X7_62 sh_28 rfl (Nat.le_of_ble_eq_true rfl) (Nat.le_of_ble_eq_true rfl) h (fun r σ hq _ => ?_)
    obtain ⟨I1, rfl, rfl, h⟩ := hq
    change J _ _ _ _ _ _ _ [] _ _
    refine J_aload_n dX7_full_29 rfl rfl ?_
    refine J_iconst dX7_full_30 (ii_c rfl) ?_
    refine J_putI dX7_full_31 ck_7 fw_X7_76 rfl rfl (Or.inl rfl) sh_28 ?_
    replace h := h _ rfl
    refine J_iconst dX7_full_34 (ii_c rfl) ?_
    exact J_retz dX7_full_35 rfl (Or.inl rfl) h
  · replace h := h.2 c
    refine J_aload_n dX7_full_13 rfl rfl ?_
    refine J_iconst dX7_full_14 (ii_c rfl) ?_
    refine J_aload_n dX7_full_15 rfl rfl ?_
    refine J_getI dX7_full_16 ck_7 fw_X7_79 rfl sh_28 ?_
    refine J_callV (as := [_, _]) (mc1 := 0) (ms1 := 0) (mc := 0) (ms := 0) dX7_full_19 mv_X7_fail lk_X7_119 sh_28 rfl (Nat.le_of_ble_eq_true rfl) (Nat.le_of_ble_eq_true rfl) h (fun r σ hq _ => ?_)
    obtain ⟨x2, I3, rfl, rfl, h⟩ := hq
    change J _ _ _ _ _ _ _ [vI x2] _ _
    refine J_pop dX7_full_22 rfl ?_
    refine J_iconst dX7_full_23 (ii_c rfl) ?_
    exact J_retz dX7_full_24 rfl (Or.inr rfl) h
set_option maxRecDepth 20000 in
set_option maxHeartbeats 2000000 in
theorem bk_X7_tellCorner_0 {d : Nat} {I : HI} {Q : Option AV → AH → Prop}   (h : CI mX7_full d [vR 28, vI 0, vI 10] I (fun x1 I1 => ((x1 = 0 → CI mX7_newName d [vR 28, vR 16, vI (I1 15 0)] I1 (fun x2 I2 => ((x2 = 0 → Q (some (vI 0)) (mk I2)) ∧ (¬ (x2 = 0) → CI mX7_word d [vR 28, vI 1] I2 (fun x3 I3 => ((x3 = 0 → Q (some (vI 0)) (mk I3)) ∧ (¬ (x3 = 0) → CI mX7_number d [vR 28, vI 1, vI 9] I3 (fun x4 I4 => ((x4 ≠ 0 → ((0 : Int) ≤ (I1 15 0) ∧ (I1 15 0 : Int) < 10) ∧ (∀ I5 : HI, I5 = up I4 18 (I1 15 0).toNat (I4 28 10) → (-2147483648 ≤ (I5 15 0) + 1 ∧ (I5 15 0) + 1 ≤ 2147483647) ∧ (∀ I6 : HI, I6 = up I5 15 0 ((I5 15 0) + 1) → Q (some (vI 1)) (mk I6)))) ∧ (x4 = 0 → Q (some (vI 0)) (mk I4))))))))))) ∧ (¬ (x1 = 0) → Q (some (vI 0)) (mk I1))))) : J none mX7_tellCorner (d + 1) 0 0 0 [(0, vR 28)] [] (mk I) Q := by
  refine J_aload_n dX7_tellCorner_0 rfl rfl ?_
  refine J_iconst dX7_tellCorner_1 (ii_c rfl) ?_
  refine J_bipush dX7_tellCorner_2 (ii_c rfl) (by decide) ?_
  refine J_callV (as := [_, _]) (mc1 := 0) (ms1 := 0) (mc := 0) (ms := 0) dX7_tellCorner_4 mv_X7_full lk_X7_99 sh_28 rfl (Nat.le_of_ble_eq_true rfl) (Nat.le_of_ble_eq_true rfl) h (fun r σ hq _ => ?_)
  obtain ⟨x1, I1, rfl, rfl, h⟩ := hq
  change J _ _ _ _ _ _ _ [vI x1] _ _
  refine J_if_eq (tgt := 12) dX7_tellCorner_7 (by decide) (fun c => ?_) (fun c => ?_)
  · replace h := h.1 c
    refine J_aload_n dX7_tellCorner_12 rfl rfl ?_
    refine J_getR dX7_tellCorner_13 ck_7 fw_X7_21 rfl sh_28 rr_28_0 ?_
    refine J_getR dX7_tellCorner_16 ck_0 fw_X7_125 rfl sh_14 rr_14_0 ?_
    refine J_iconst dX7_tellCorner_19 (ii_c rfl) ?_
    refine J_iald dX7_tellCorner_20 sh_15 (by decide) (by decide) ?_
    refine J_istore_n dX7_tellCorner_21 rfl (by decide) ?_
    change J _ _ _ _ _ _ [(0, _), (1, _)] _ _ _
    refine J_aload_n dX7_tellCorner_22 rfl rfl ?_
    refine J_aload_n dX7_tellCorner_23 rfl rfl ?_
    refine J_getR dX7_tellCorner_24 ck_7 fw_X7_21 rfl sh_28 rr_28_0 ?_
    refine J_getR dX7_tellCorner_27 ck_0 fw_X7_128 rfl sh_14 rr_14_1 ?_
    refine J_iload_n dX7_tellCorner_30 rfl rfl ?_
    refine J_callV (as := [_, _]) (mc1 := 0) (ms1 := 0) (mc := 0) (ms := 0) dX7_tellCorner_31 mv_X7_newName lk_X7_131 sh_28 rfl (Nat.le_of_ble_eq_true rfl) (Nat.le_of_ble_eq_true rfl) h (fun r σ hq _ => ?_)
    obtain ⟨x2, I2, rfl, rfl, h⟩ := hq
    change J _ _ _ _ _ _ _ [vI x2] _ _
    refine J_if_eq (tgt := 55) dX7_tellCorner_34 (by decide) (fun c => ?_) (fun c => ?_)
    · replace h := h.1 c
      refine J_iconst dX7_tellCorner_55 (ii_c rfl) ?_
      exact J_retz dX7_tellCorner_56 rfl (Or.inl rfl) h
    · replace h := h.2 c
      refine J_aload_n dX7_tellCorner_37 rfl rfl ?_
      refine J_iconst dX7_tellCorner_38 (ii_c rfl) ?_
      refine J_callV (as := [_]) (mc1 := 0) (ms1 := 0) (mc := 0) (ms := 0) dX7_tellCorner_39 mv_X7_word lk_X7_135 sh_28 rfl (Nat.le_of_ble_eq_true rfl) (Nat.le_of_ble_eq_true rfl) h (fun r σ hq _ => ?_)
      obtain ⟨x3, I3, rfl, rfl, h⟩ := hq
      change J _ _ _ _ _ _ _ [vI x3] _ _
      refine J_if_eq (tgt := 55) dX7_tellCorner_42 (by decide) (fun c => ?_) (fun c => ?_)
      · replace h := h.1 c
        refine J_iconst dX7_tellCorner_55 (ii_c rfl) ?_
        exact J_retz dX7_tellCorner_56 rfl (Or.inl rfl) h
      · replace h := h.2 c
        refine J_aload_n dX7_tellCorner_45 rfl rfl ?_
        refine J_iconst dX7_tellCorner_46 (ii_c rfl) ?_
        refine J_bipush dX7_tellCorner_47 (ii_c rfl) (by decide) ?_
        refine J_callV (as := [_, _]) (mc1 := 0) (ms1 := 0) (mc := 0) (ms := 0) dX7_tellCorner_49 mv_X7_number lk_X7_110 sh_28 rfl (Nat.le_of_ble_eq_true rfl) (Nat.le_of_ble_eq_true rfl) h (fun r σ hq _ => ?_)
        obtain ⟨x4, I4, rfl, rfl, h⟩ := hq
        change J _ _ _ _ _ _ _ [vI x4] _ _
        refine J_if_ne (tgt := 57) dX7_tellCorner_52 (by decide) (fun c => ?_) (fun c => ?_)
        · replace h := h.1 c
          refine J_aload_n dX7_tellCorner_57 rfl rfl ?_
          refine J_getR dX7_tellCorner_58 ck_7 fw_X7_21 rfl sh_28 rr_28_0 ?_
          refine J_getR dX7_tellCorner_61 ck_0 fw_X7_138 rfl sh_14 rr_14_3 ?_
          refine J_iload_n dX7_tellCorner_64 rfl rfl ?_
          refine J_aload_n dX7_tellCorner_65 rfl rfl ?_
          refine J_getI dX7_tellCorner_66 ck_7 fw_X7_113 rfl sh_28 ?_
          refine J_iast dX7_tellCorner_69 sh_18 h.1.1 h.1.2 ?_
          replace h := h.2 _ rfl
          refine J_aload_n dX7_tellCorner_70 rfl rfl ?_
          refine J_getR dX7_tellCorner_71 ck_7 fw_X7_21 rfl sh_28 rr_28_0 ?_
          refine J_getR dX7_tellCorner_74 ck_0 fw_X7_125 rfl sh_14 rr_14_0 ?_
          refine J_iconst dX7_tellCorner_77 (ii_c rfl) ?_
          refine J_dup2 dX7_tellCorner_78 rfl rfl ?_
          refine J_iald dX7_tellCorner_79 sh_15 (by decide) (by decide) ?_
          refine J_iconst dX7_tellCorner_80 (ii_c rfl) ?_
          refine J_iaddN dX7_tellCorner_81 h.1 ?_
          replace h := h.2
          refine J_iast dX7_tellCorner_82 sh_15 (by decide) (by decide) ?_
          replace h := h _ rfl
          refine J_iconst dX7_tellCorner_83 (ii_c rfl) ?_
          exact J_retz dX7_tellCorner_84 rfl (Or.inr rfl) h
        · replace h := h.2 c
          refine J_iconst dX7_tellCorner_55 (ii_c rfl) ?_
          exact J_retz dX7_tellCorner_56 rfl (Or.inl rfl) h
  · replace h := h.2 c
    refine J_iconst dX7_tellCorner_10 (ii_c rfl) ?_
    exact J_retz dX7_tellCorner_11 rfl (Or.inl rfl) h
