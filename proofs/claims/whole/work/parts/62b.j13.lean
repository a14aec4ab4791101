set_option maxRecDepth 20000 in
set_option maxHeartbeats 2000000 in
theorem bk_J13_numberOfTrailingZeros_95d88_0 {d : Nat} {I : HI} {Q : Option AV → AH → Prop} {a0 : Int}  (h : (((l2 a0) ≠ 0 → CI mJ6_numberOfTrailingZeros_0f7a4 d [vI (l2 a0)] I (fun x1 I1 => Q (some (vI x1)) (mk I1))) ∧ ((l2 a0) = 0 → CI mJ6_numberOfTrailingZeros_0f7a4 d [vI (l2 (lUr a0 32))] I (fun x2 I2 => Q (some (vI (wr (32 + x2)))) (mk I2))))) : J none mJ13_numberOfTrailingZeros_95d88 (d + 1) 0 0 0 [(0, vL a0)] [] (mk I) Q := by
  refine J_lload_n dJ13_numberOfTrailingZeros_95d88_0 rfl rfl ?_
  refine J_l2i dJ13_numberOfTrailingZeros_95d88_1 ?_
  refine J_istore_n dJ13_numberOfTrailingZeros_95d88_2 rfl (by decide) ?_
  change J _ _ _ _ _ _ [(0, _), (2, _)] _ _ _
  refine J_iload_n dJ13_numberOfTrailingZeros_95d88_3 rfl rfl ?_
  refine J_if_ne (tgt := 21) dJ13_numberOfTrailingZeros_95d88_4 (by decide) (fun c => ?_) (fun c => ?_)
  · replace h := h.1 c
    refine J_iload_n dJ13_numberOfTrailingZeros_95d88_21 rfl rfl ?_
    refine J_callS (as := [_]) (mc1 := 0) (ms1 := 0) (mc := 0) (ms := 0) dJ13_numberOfTrailingZeros_95d88_22 ms_J6_numberOfTrailingZeros_0f7a4 lk_J13_311 rfl (Nat.le_of_ble_eq_true rfl) (Nat.le_of_ble_eq_true rfl) h (fun r σ hq _ => ?_)
    obtain ⟨x1, I1, rfl, rfl, h⟩ := hq
    change J _ _ _ _ _ _ _ [vI x1] _ _
    exact J_reti dJ13_numberOfTrailingZeros_95d88_25 rfl h
  · replace h := h.2 c
    refine J_bipush dJ13_numberOfTrailingZeros_95d88_7 (ii_c rfl) (by decide) ?_
    refine J_lload_n dJ13_numberOfTrailingZeros_95d88_9 rfl rfl ?_
    refine J_bipush dJ13_numberOfTrailingZeros_95d88_10 (ii_c rfl) (by decide) ?_
    refine J_lushr dJ13_numberOfTrailingZeros_95d88_12 ?_
    refine J_l2i dJ13_numberOfTrailingZeros_95d88_13 ?_
    refine J_callS (as := [_]) (mc1 := 0) (ms1 := 0) (mc := 0) (ms := 0) dJ13_numberOfTrailingZeros_95d88_14 ms_J6_numberOfTrailingZeros_0f7a4 lk_J13_311 rfl (Nat.le_of_ble_eq_true rfl) (Nat.le_of_ble_eq_true rfl) h (fun r σ hq _ => ?_)
    obtain ⟨x2, I2, rfl, rfl, h⟩ := hq
    change J _ _ _ _ _ _ _ [vI x2, _] _ _
    refine J_iadd dJ13_numberOfTrailingZeros_95d88_17 ?_
    refine J_goto (tgt := 25) dJ13_numberOfTrailingZeros_95d88_18 (by decide) ?_
    exact J_reti dJ13_numberOfTrailingZeros_95d88_25 rfl h
