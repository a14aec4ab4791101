set_option maxRecDepth 20000 in
set_option maxHeartbeats 2000000 in
theorem bk_X11_laneMany_0 {d : Nat} {I : HI} {Q : Option AV → AH → Prop}   (h : Q (some (vI (I 518 7))) (mk I)) : J none mX11_laneMany (d + 1) 0 0 0 [(0, vR 489)] [] (mk I) Q := by
  refine J_aload_n dX11_laneMany_0 rfl rfl ?_
  refine J_getR dX11_laneMany_1 ck_11 fw_X11_99 rfl sh_489 rr_489_37 ?_
  refine J_bipush dX11_laneMany_4 (ii_c rfl) (by decide) ?_
  refine J_iald dX11_laneMany_6 sh_518 (by decide) (by decide) ?_
  exact J_reti dX11_laneMany_7 rfl h
set_option maxRecDepth 20000 in
set_option maxHeartbeats 2000000 in
theorem bk_X11_laneOf_0 {d : Nat} {I : HI} {Q : Option AV → AH → Prop} {a1 : Int} {a2 : Int}  (h : J none mX11_laneOf (d + 1) 0 0 2 [(0, vR 489), (1, vI a1), (2, vI a2), (3, vI 0)] [] (mk I) Q) : J none mX11_laneOf (d + 1) 0 0 0 [(0, vR 489), (1, vI a1), (2, vI a2)] [] (mk I) Q := by
  refine J_iconst dX11_laneOf_0 (ii_c rfl) ?_
  refine J_istore_n dX11_laneOf_1 rfl (by decide) ?_
  exact h
set_option maxRecDepth 20000 in
set_option maxHeartbeats 2000000 in
theorem bk_X11_laneOf_2 {d : Nat} {I : HI} {Q : Option AV → AH → Prop} {a1 : Int} {a2 : Int} {a3 : Int}  (h : CI mX11_laneMany d [vR 489] I (fun x1 I1 => ((x1 ≤ a3 → Q (some (vI (-1))) (mk I1)) ∧ (¬ (x1 ≤ a3) → (-2147483648 ≤ 4 * a3 ∧ 4 * a3 ≤ 2147483647) ∧ (-2147483648 ≤ 64 + (4 * a3) ∧ 64 + (4 * a3) ≤ 2147483647) ∧ ((0 : Int) ≤ (64 + (4 * a3)) ∧ (64 + (4 * a3) : Int) < 128) ∧ (((I1 521 (64 + (4 * a3)).toNat) ≠ a1 → ((0 : Int) ≤ (64 + (4 * a3)) ∧ (64 + (4 * a3) : Int) < 128) ∧ (((I1 521 (64 + (4 * a3)).toNat) ≠ a2 → (-2147483648 ≤ a3 + 1 ∧ a3 + 1 ≤ 2147483647) ∧ J none mX11_laneOf (d + 1) 0 0 2 [(0, vR 489), (1, vI a1), (2, vI a2), (3, vI (a3 + 1))] [] (mk I1) Q) ∧ ((I1 521 (64 + (4 * a3)).toNat) = a2 → (-2147483648 ≤ (64 + (4 * a3)) + 1 ∧ (64 + (4 * a3)) + 1 ≤ 2147483647) ∧ ((0 : Int) ≤ ((64 + (4 * a3)) + 1) ∧ ((64 + (4 * a3)) + 1 : Int) < 128) ∧ (((I1 521 ((64 + (4 * a3)) + 1).toNat) ≠ a1 → (-2147483648 ≤ a3 + 1 ∧ a3 + 1 ≤ 2147483647) ∧ J none mX11_laneOf (d + 1) 0 0 2 [(0, vR 489), (1, vI a1), (2, vI a2), (3, vI (a3 + 1))] [] (mk I1) Q) ∧ ((I1 521 ((64 + (4 * a3)) + 1).toNat) = a1 → Q (some (vI a3)) (mk I1)))))) ∧ ((I1 521 (64 + (4 * a3)).toNat) = a1 → (-2147483648 ≤ (64 + (4 * a3)) + 1 ∧ (64 + (4 * a3)) + 1 ≤ 2147483647) ∧ ((0 : Int) ≤ ((64 + (4 * a3)) + 1) ∧ ((64 + (4 * a3)) + 1 : Int) < 128) ∧ (((I1 521 ((64 + (4 * a3)) + 1).toNat) = a2 → Q (some (vI a3)) (mk I1)) ∧ (¬ ((I1 521 ((64 + (4 * a3)) + 1).toNat) = a2) → ((0 : Int) ≤ (64 + (4 * a3)) ∧ (64 + (4 * a3) : Int) < 128) ∧ (((I1 521 (64 + (4 * a3)).toNat) ≠ a2 → (-2147483648 ≤ a3 + 1 ∧ a3 + 1 ≤ 2147483647) ∧ J none mX11_laneOf (d + 1) 0 0 2 [(0, vR 489), (1, vI a1), (2, vI a2), (3, vI (a3 + 1))] [] (mk I1) Q) ∧ ((I1 521 (64 + (4 * a3)).toNat) = a2 → (-2147483648 ≤ (64 + (4 * a3)) + 1 ∧ (64 + (4 * a3)) + 1 ≤ 2147483647) ∧ ((0 : Int) ≤ ((64 + (4 * a3)) + 1) ∧ ((64 + (4 * a3)) + 1 : Int) < 128) ∧ (((I1 521 ((64 + (4 * a3)) + 1).toNat) ≠ a1 → (-2147483648 ≤ a3 + 1 ∧ a3 + 1 ≤ 2147483647) ∧ J none mX11_laneOf (d + 1) 0 0 2 [(0, vR 489), (1, vI a1), (2, vI a2), (3, vI (a3 + 1))] [] (mk I1) Q) ∧ ((I1 521 ((64 + (4 * a3)) + 1).toNat) = a1 → Q (some (vI a3)) (mk I1))))))))))))) : J none mX11_laneOf (d + 1) 0 0 2 [(0, vR 489), (1, vI a1), (2, vI a2), (3, vI a3)] [] (mk I) Q := by
  refine J_iload_n dX11_laneOf_2 rfl rfl ?_
  refine J_aload_n dX11_laneOf_3 rfl rfl ?_
  refine J_callV (as := []) (mc1 := 0) (ms1 := 0) (mc := 0) (ms := 0) dX11_laneOf_4 mv_X11_laneMany lk_X11_450 sh_489 rfl (Nat.le_of_ble_eq_true rfl) (Nat.le_of_ble_eq_true rfl) h (fun r σ hq _ => ?_)
  obtain ⟨x1, I1, rfl, rfl, h⟩ := hq
  change J _ _ _ _ _ _ _ [vI x1, vI a3] _ _
  refine J_ic_ge (tgt := 74) dX11_laneOf_7 (by decide) (fun c => ?_) (fun c => ?_)
  · replace h := h.1 c
    refine J_iconst dX11_laneOf_74 (ii_c rfl) ?_
    exact J_reti dX11_laneOf_75 rfl h
  · replace h := h.2 c
    refine J_bipush dX11_laneOf_10 (ii_c rfl) (by decide) ?_
    refine J_iconst dX11_laneOf_12 (ii_c rfl) ?_
    refine J_iload_n dX11_laneOf_13 rfl rfl ?_
    refine J_imulN dX11_laneOf_14 h.1 ?_
    replace h := h.2
    refine J_iaddN dX11_laneOf_15 h.1 ?_
    replace h := h.2
    refine J_istore dX11_laneOf_16 (by decide) ?_
    refine J_aload_n dX11_laneOf_18 rfl rfl ?_
    refine J_getR dX11_laneOf_19 ck_11 fw_X11_109 rfl sh_489 rr_489_40 ?_
    refine J_iload dX11_laneOf_22 rfl ?_
    refine J_iald dX11_laneOf_24 sh_521 h.1.1 h.1.2 ?_
    replace h := h.2
    refine J_iload_n dX11_laneOf_25 rfl rfl ?_
    refine J_ic_ne (tgt := 42) dX11_laneOf_26 (by decide) (fun c => ?_) (fun c => ?_)
    · replace h := h.1 c
      refine J_aload_n dX11_laneOf_42 rfl rfl ?_
      refine J_getR dX11_laneOf_43 ck_11 fw_X11_109 rfl sh_489 rr_489_40 ?_
      refine J_iload dX11_laneOf_46 rfl ?_
      refine J_iald dX11_laneOf_48 sh_521 h.1.1 h.1.2 ?_
      replace h := h.2
      refine J_iload_n dX11_laneOf_49 rfl rfl ?_
      refine J_ic_ne (tgt := 68) dX11_laneOf_50 (by decide) (fun c => ?_) (fun c => ?_)
      · replace h := h.1 c
        refine J_iincN dX11_laneOf_68 rfl (by decide) h.1 ?_
        replace h := h.2
        refine J_goto (tgt := 2) dX11_laneOf_71 (by decide) ?_
        exact J_loc (ls_sub [0, 1, 2, 3] rfl) h
      · replace h := h.2 c
        refine J_aload_n dX11_laneOf_53 rfl rfl ?_
        refine J_getR dX11_laneOf_54 ck_11 fw_X11_109 rfl sh_489 rr_489_40 ?_
        refine J_iload dX11_laneOf_57 rfl ?_
        refine J_iconst dX11_laneOf_59 (ii_c rfl) ?_
        refine J_iaddN dX11_laneOf_60 h.1 ?_
        replace h := h.2
        refine J_iald dX11_laneOf_61 sh_521 h.1.1 h.1.2 ?_
        replace h := h.2
        refine J_iload_n dX11_laneOf_62 rfl rfl ?_
        refine J_ic_ne (tgt := 68) dX11_laneOf_63 (by decide) (fun c => ?_) (fun c => ?_)
        · replace h := h.1 c
          refine J_iincN dX11_laneOf_68 rfl (by decide) h.1 ?_
          replace h := h.2
          refine J_goto (tgt := 2) dX11_laneOf_71 (by decide) ?_
          exact J_loc (ls_sub [0, 1, 2, 3] rfl) h
        · replace h := h.2 c
          refine J_iload_n dX11_laneOf_66 rfl rfl ?_
          exact J_reti dX11_laneOf_67 rfl h
    · replace h := h.2 c
      refine J_aload_n dX11_laneOf_29 rfl rfl ?_
      refine J_getR dX11_laneOf_30 ck_11 fw_X11_109 rfl sh_489 rr_489_40 ?_
      refine J_iload dX11_laneOf_33 rfl ?_
      refine J_iconst dX11_laneOf_35 (ii_c rfl) ?_
      refine J_iaddN dX11_laneOf_36 h.1 ?_
      replace h := h.2
      refine J_iald dX11_laneOf_37 sh_521 h.1.1 h.1.2 ?_
      replace h := h.2
      refine J_iload_n dX11_laneOf_38 rfl rfl ?_
      refine J_ic_eq (tgt := 66) dX11_laneOf_39 (by decide) (fun c => ?_) (fun c => ?_)
      · replace h := h.1 c
        refine J_iload_n dX11_laneOf_66 rfl rfl ?_
        exact J_reti dX11_laneOf_67 rfl h
      · replace h := h.2 c
        refine J_aload_n dX11_laneOf_42 rfl rfl ?_
        refine J_getR dX11_laneOf_43 ck_11 fw_X11_109 rfl sh_489 rr_489_40 ?_
        refine J_iload dX11_laneOf_46 rfl ?_
        refine J_iald dX11_laneOf_48 sh_521 h.1.1 h.1.2 ?_
        replace h := h.2
        refine J_iload_n dX11_laneOf_49 rfl rfl ?_
        refine J_ic_ne (tgt := 68) dX11_laneOf_50 (by decide) (fun c => ?_) (fun c => ?_)
        · replace h := h.1 c
          refine J_iincN dX11_laneOf_68 rfl (by decide) h.1 ?_
          replace h := h.2
          refine J_goto (tgt := 2) dX11_laneOf_71 (by decide) ?_
          exact J_loc (ls_sub [0, 1, 2, 3] rfl) h
        · replace h := h.2 c
          refine J_aload_n dX11_laneOf_53 rfl rfl ?_
          refine J_getR dX11_laneOf_54 ck_11 fw_X11_109 rfl sh_489 rr_489_40 ?_
          refine J_iload dX11_laneOf_57 rfl ?_
          refine J_iconst dX11_laneOf_59 (ii_c rfl) ?_
          refine J_iaddN dX11_laneOf_60 h.1 ?_
          replace h := h.2
          refine J_iald dX11_laneOf_61 sh_521 h.1.1 h.1.2 ?_
          replace h := h.2
          refine J_iload_n dX11_laneOf_62 rfl rfl ?_
          refine J_ic_ne (tgt := 68) dX11_laneOf_63 (by decide) (fun c => ?_) (fun c => ?_)
          · replace h := h.1 c
            refine J_iincN dX11_laneOf_68 rfl (by decide) h.1 ?_
            replace h := h.2
            refine J_goto (tgt := 2) dX11_laneOf_71 (by decide) ?_
            exact J_loc (ls_sub [0, 1, 2, 3] rfl) h
          · replace h := h.2 c
            refine J_iload_n dX11_laneOf_66 rfl rfl ?_
            exact J_reti dX11_laneOf_67 rfl h
set_option maxRecDepth 20000 in
set_option maxHeartbeats 2000000 in
theorem bk_X11_isIn_0 {d : Nat} {I : HI} {Q : Option AV → AH → Prop} {a0 : Int} {a2 : Int} {a4 : Int}  (h : ((a0 < a2 → Q (some (vI 0)) (mk I)) ∧ (¬ (a0 < a2) → ((a4 < a0 → Q (some (vI 0)) (mk I)) ∧ (¬ (a4 < a0) → Q (some (vI 1)) (mk I)))))) : J none mX11_isIn (d + 1) 0 0 0 [(0, vL a0), (2, vL a2), (4, vL a4)] [] (mk I) Q := by
  refine J_lload_n dX11_isIn_0 rfl rfl ?_
  refine J_lload_n dX11_isIn_1 rfl rfl ?_
  refine J_lcmp dX11_isIn_2 ?_
  refine J_if_lt (tgt := 17) dX11_isIn_3 (by decide) (fun c => ?_) (fun c => ?_)
  · replace h := h.1 (lC_lt.mp c)
    refine J_iconst dX11_isIn_17 (ii_c rfl) ?_
    exact J_retz dX11_isIn_18 rfl (Or.inl rfl) h
  · replace h := h.2 (fun w => c (lC_lt.mpr w))
    refine J_lload_n dX11_isIn_6 rfl rfl ?_
    refine J_lload dX11_isIn_7 rfl ?_
    refine J_lcmp dX11_isIn_9 ?_
    refine J_if_gt (tgt := 17) dX11_isIn_10 (by decide) (fun c => ?_) (fun c => ?_)
    · replace h := h.1 (lC_gt.mp c)
      refine J_iconst dX11_isIn_17 (ii_c rfl) ?_
      exact J_retz dX11_isIn_18 rfl (Or.inl rfl) h
    · replace h := h.2 (fun w => c (lC_gt.mpr w))
      refine J_iconst dX11_isIn_13 (ii_c rfl) ?_
      refine J_goto (tgt := 18) dX11_isIn_14 (by decide) ?_
      exact J_retz dX11_isIn_18 rfl (Or.inr rfl) h
set_option maxRecDepth 20000 in
set_option maxHeartbeats 2000000 in
theorem bk_X11_feed_0 {d : Nat} {I : HI} {Q : Option AV → AH → Prop} {a1 : Int} {a2 : Int} {a3 : Int} {a4 : Int} {a5 : Int}  (h : (-2147483648 ≤ (I 489 1) + 20 ∧ (I 489 1) + 20 ≤ 2147483647) ∧ ((((I 489 1) + 20) ≤ 1600 → J none mX11_feed (d + 1) 0 0 18 [(0, vR 489), (1, vI a1), (2, vI a2), (3, vI a3), (4, vI a4), (5, vI a5), (6, vI 0)] [] (mk I) Q) ∧ (¬ (((I 489 1) + 20) ≤ 1600) → Q (some (vI (-1))) (mk I)))) : J none mX11_feed (d + 1) 0 0 0 [(0, vR 489), (1, vI a1), (2, vI a2), (3, vI a3), (4, vI a4), (5, vI a5)] [] (mk I) Q := by
  refine J_aload_n dX11_feed_0 rfl rfl ?_
  refine J_getI dX11_feed_1 ck_11 fw_X11_221 rfl sh_489 ?_
  refine J_bipush dX11_feed_4 (ii_c rfl) (by decide) ?_
  refine J_iaddN dX11_feed_6 h.1 ?_
  replace h := h.2
  refine J_sipush dX11_feed_7 (ii_c rfl) (by decide) ?_
  refine J_ic_le (tgt := 15) dX11_feed_10 (by decide) (fun c => ?_) (fun c => ?_)
  · replace h := h.1 c
    refine J_iconst dX11_feed_15 (ii_c rfl) ?_
    refine J_istore dX11_feed_16 (by decide) ?_
    exact h
  · replace h := h.2 c
    refine J_iconst dX11_feed_13 (ii_c rfl) ?_
    exact J_reti dX11_feed_14 rfl h
set_option maxRecDepth 20000 in
set_option maxHeartbeats 2000000 in
theorem bk_X11_feed_18 {d : Nat} {I : HI} {Q : Option AV → AH → Prop} {a1 : Int} {a2 : Int} {a3 : Int} {a4 : Int} {a5 : Int} {a6 : Int}  (h : ((20 ≤ a6 → Q (some (vI (I 489 1))) (mk I)) ∧ (¬ (20 ≤ a6) → ((4 ≤ a6 → ((8 ≤ a6 → ((12 ≤ a6 → ((16 ≤ a6 → (-2147483648 ≤ 3 - (oM a6 4) ∧ 3 - (oM a6 4) ≤ 2147483647) ∧ (-2147483648 ≤ 8 * (3 - (oM a6 4)) ∧ 8 * (3 - (oM a6 4)) ≤ 2147483647) ∧ ((0 : Int) ≤ (I 489 1) ∧ (I 489 1 : Int) < 1600) ∧ (∀ I1 : HI, I1 = up I 490 (I 489 1).toNat (oA (oSr a5 (8 * (3 - (oM a6 4)))) 255) → (-2147483648 ≤ (I1 489 1) + 1 ∧ (I1 489 1) + 1 ≤ 2147483647) ∧ (∀ I2 : HI, I2 = up I1 489 1 ((I1 489 1) + 1) → (-2147483648 ≤ a6 + 1 ∧ a6 + 1 ≤ 2147483647) ∧ J none mX11_feed (d + 1) 0 0 18 [(0, vR 489), (1, vI a1), (2, vI a2), (3, vI a3), (4, vI a4), (5, vI a5), (6, vI (a6 + 1))] [] (mk I2) Q))) ∧ (¬ (16 ≤ a6) → (-2147483648 ≤ 3 - (oM a6 4) ∧ 3 - (oM a6 4) ≤ 2147483647) ∧ (-2147483648 ≤ 8 * (3 - (oM a6 4)) ∧ 8 * (3 - (oM a6 4)) ≤ 2147483647) ∧ ((0 : Int) ≤ (I 489 1) ∧ (I 489 1 : Int) < 1600) ∧ (∀ I3 : HI, I3 = up I 490 (I 489 1).toNat (oA (oSr a4 (8 * (3 - (oM a6 4)))) 255) → (-2147483648 ≤ (I3 489 1) + 1 ∧ (I3 489 1) + 1 ≤ 2147483647) ∧ (∀ I4 : HI, I4 = up I3 489 1 ((I3 489 1) + 1) → (-2147483648 ≤ a6 + 1 ∧ a6 + 1 ≤ 2147483647) ∧ J none mX11_feed (d + 1) 0 0 18 [(0, vR 489), (1, vI a1), (2, vI a2), (3, vI a3), (4, vI a4), (5, vI a5), (6, vI (a6 + 1))] [] (mk I4) Q))))) ∧ (¬ (12 ≤ a6) → (-2147483648 ≤ 3 - (oM a6 4) ∧ 3 - (oM a6 4) ≤ 2147483647) ∧ (-2147483648 ≤ 8 * (3 - (oM a6 4)) ∧ 8 * (3 - (oM a6 4)) ≤ 2147483647) ∧ ((0 : Int) ≤ (I 489 1) ∧ (I 489 1 : Int) < 1600) ∧ (∀ I5 : HI, I5 = up I 490 (I 489 1).toNat (oA (oSr a3 (8 * (3 - (oM a6 4)))) 255) → (-2147483648 ≤ (I5 489 1) + 1 ∧ (I5 489 1) + 1 ≤ 2147483647) ∧ (∀ I6 : HI, I6 = up I5 489 1 ((I5 489 1) + 1) → (-2147483648 ≤ a6 + 1 ∧ a6 + 1 ≤ 2147483647) ∧ J none mX11_feed (d + 1) 0 0 18 [(0, vR 489), (1, vI a1), (2, vI a2), (3, vI a3), (4, vI a4), (5, vI a5), (6, vI (a6 + 1))] [] (mk I6) Q))))) ∧ (¬ (8 ≤ a6) → (-2147483648 ≤ 3 - (oM a6 4) ∧ 3 - (oM a6 4) ≤ 2147483647) ∧ (-2147483648 ≤ 8 * (3 - (oM a6 4)) ∧ 8 * (3 - (oM a6 4)) ≤ 2147483647) ∧ ((0 : Int) ≤ (I 489 1) ∧ (I 489 1 : Int) < 1600) ∧ (∀ I7 : HI, I7 = up I 490 (I 489 1).toNat (oA (oSr a2 (8 * (3 - (oM a6 4)))) 255) → (-2147483648 ≤ (I7 489 1) + 1 ∧ (I7 489 1) + 1 ≤ 2147483647) ∧ (∀ I8 : HI, I8 = up I7 489 1 ((I7 489 1) + 1) → (-2147483648 ≤ a6 + 1 ∧ a6 + 1 ≤ 2147483647) ∧ J none mX11_feed (d + 1) 0 0 18 [(0, vR 489), (1, vI a1), (2, vI a2), (3, vI a3), (4, vI a4), (5, vI a5), (6, vI (a6 + 1))] [] (mk I8) Q))))) ∧ (¬ (4 ≤ a6) → (-2147483648 ≤ 3 - (oM a6 4) ∧ 3 - (oM a6 4) ≤ 2147483647) ∧ (-2147483648 ≤ 8 * (3 - (oM a6 4)) ∧ 8 * (3 - (oM a6 4)) ≤ 2147483647) ∧ ((0 : Int) ≤ (I 489 1) ∧ (I 489 1 : Int) < 1600) ∧ (∀ I9 : HI, I9 = up I 490 (I 489 1).toNat (oA (oSr a1 (8 * (3 - (oM a6 4)))) 255) → (-2147483648 ≤ (I9 489 1) + 1 ∧ (I9 489 1) + 1 ≤ 2147483647) ∧ (∀ I10 : HI, I10 = up I9 489 1 ((I9 489 1) + 1) → (-2147483648 ≤ a6 + 1 ∧ a6 + 1 ≤ 2147483647) ∧ J none mX11_feed (d + 1) 0 0 18 [(0, vR 489), (1, vI a1), (2, vI a2), (3, vI a3), (4, vI a4), (5, vI a5), (6, vI (a6 + 1))] [] (mk I10) Q))))))) : J none mX11_feed (d + 1) 0 0 18 [(0, vR 489), (1, vI a1), (2, vI a2), (3, vI a3), (4, vI a4), (5, vI a5), (6, vI a6)] [] (mk I) Q := by
  refine J_iload dX11_feed_18 rfl ?_
  refine J_bipush dX11_feed_20 (ii_c rfl) (by decide) ?_
  refine J_ic_ge (tgt := 114) dX11_feed_22 (by decide) (fun c => ?_) (fun c => ?_)
  · replace h := h.1 c
    refine J_aload_n dX11_feed_114 rfl rfl ?_
    refine J_getI dX11_feed_115 ck_11 fw_X11_221 rfl sh_489 ?_
    exact J_reti dX11_feed_118 rfl h
  · replace h := h.2 c
    refine J_iload dX11_feed_25 rfl ?_
    refine J_iconst dX11_feed_27 (ii_c rfl) ?_
    refine J_ic_ge (tgt := 35) dX11_feed_28 (by decide) (fun c => ?_) (fun c => ?_)
    · replace h := h.1 c
      refine J_iload dX11_feed_35 rfl ?_
      refine J_bipush dX11_feed_37 (ii_c rfl) (by decide) ?_
      refine J_ic_ge (tgt := 46) dX11_feed_39 (by decide) (fun c => ?_) (fun c => ?_)
      · replace h := h.1 c
        refine J_iload dX11_feed_46 rfl ?_
        refine J_bipush dX11_feed_48 (ii_c rfl) (by decide) ?_
        refine J_ic_ge (tgt := 57) dX11_feed_50 (by decide) (fun c => ?_) (fun c => ?_)
        · replace h := h.1 c
          refine J_iload dX11_feed_57 rfl ?_
          refine J_bipush dX11_feed_59 (ii_c rfl) (by decide) ?_
          refine J_ic_ge (tgt := 69) dX11_feed_61 (by decide) (fun c => ?_) (fun c => ?_)
          · replace h := h.1 c
            refine J_iload dX11_feed_69 rfl ?_
            refine J_istore dX11_feed_71 (by decide) ?_
            refine J_aload_n dX11_feed_73 rfl rfl ?_
            refine J_getR dX11_feed_74 ck_11 fw_X11_7 rfl sh_489 rr_489_0 ?_
            refine J_aload_n dX11_feed_77 rfl rfl ?_
            refine J_getI dX11_feed_78 ck_11 fw_X11_221 rfl sh_489 ?_
            refine J_iload dX11_feed_81 rfl ?_
            refine J_bipush dX11_feed_83 (ii_c rfl) (by decide) ?_
            refine J_iconst dX11_feed_85 (ii_c rfl) ?_
            refine J_iload dX11_feed_86 rfl ?_
            refine J_iconst dX11_feed_88 (ii_c rfl) ?_
            refine J_irem dX11_feed_89 (by decide) ?_
            refine J_isubN dX11_feed_90 h.1 ?_
            replace h := h.2
            refine J_imulN dX11_feed_91 h.1 ?_
            replace h := h.2
            refine J_ishr dX11_feed_92 ?_
            refine J_sipush dX11_feed_93 (ii_c rfl) (by decide) ?_
            refine J_iand dX11_feed_96 ?_
            refine J_iast dX11_feed_97 sh_490 h.1.1 h.1.2 ?_
            replace h := h.2 _ rfl
            refine J_aload_n dX11_feed_98 rfl rfl ?_
            refine J_dup dX11_feed_99 rfl ?_
            refine J_getI dX11_feed_100 ck_11 fw_X11_221 rfl sh_489 ?_
            refine J_iconst dX11_feed_103 (ii_c rfl) ?_
            refine J_iaddN dX11_feed_104 h.1 ?_
            replace h := h.2
            refine J_putI dX11_feed_105 ck_11 fw_X11_221 rfl rfl (Or.inl rfl) sh_489 ?_
            replace h := h _ rfl
            refine J_iincN dX11_feed_108 rfl (by decide) h.1 ?_
            replace h := h.2
            refine J_goto (tgt := 18) dX11_feed_111 (by decide) ?_
            exact J_loc (ls_sub [0, 1, 2, 3, 4, 5, 6] rfl) h
          · replace h := h.2 c
            refine J_iload dX11_feed_64 rfl ?_
            refine J_goto (tgt := 71) dX11_feed_66 (by decide) ?_
            refine J_istore dX11_feed_71 (by decide) ?_
            refine J_aload_n dX11_feed_73 rfl rfl ?_
            refine J_getR dX11_feed_74 ck_11 fw_X11_7 rfl sh_489 rr_489_0 ?_
            refine J_aload_n dX11_feed_77 rfl rfl ?_
            refine J_getI dX11_feed_78 ck_11 fw_X11_221 rfl sh_489 ?_
            refine J_iload dX11_feed_81 rfl ?_
            refine J_bipush dX11_feed_83 (ii_c rfl) (by decide) ?_
            refine J_iconst dX11_feed_85 (ii_c rfl) ?_
            refine J_iload dX11_feed_86 rfl ?_
            refine J_iconst dX11_feed_88 (ii_c rfl) ?_
            refine J_irem dX11_feed_89 (by decide) ?_
            refine J_isubN dX11_feed_90 h.1 ?_
            replace h := h.2
            refine J_imulN dX11_feed_91 h.1 ?_
            replace h := h.2
            refine J_ishr dX11_feed_92 ?_
            refine J_sipush dX11_feed_93 (ii_c rfl) (by decide) ?_
            refine J_iand dX11_feed_96 ?_
            refine J_iast dX11_feed_97 sh_490 h.1.1 h.1.2 ?_
            replace h := h.2 _ rfl
            refine J_aload_n dX11_feed_98 rfl rfl ?_
            refine J_dup dX11_feed_99 rfl ?_
            refine J_getI dX11_feed_100 ck_11 fw_X11_221 rfl sh_489 ?_
            refine J_iconst dX11_feed_103 (ii_c rfl) ?_
            refine J_iaddN dX11_feed_104 h.1 ?_
            replace h := h.2
            refine J_putI dX11_feed_105 ck_11 fw_X11_221 rfl rfl (Or.inl rfl) sh_489 ?_
            replace h := h _ rfl
            refine J_iincN dX11_feed_108 rfl (by decide) h.1 ?_
            replace h := h.2
            refine J_goto (tgt := 18) dX11_feed_111 (by decide) ?_
            exact J_loc (ls_sub [0, 1, 2, 3, 4, 5, 6] rfl) h
        · replace h := h.2 c
          refine J_iload_n dX11_feed_53 rfl rfl ?_
          refine J_goto (tgt := 71) dX11_feed_54 (by decide) ?_
          refine J_istore dX11_feed_71 (by decide) ?_
          refine J_aload_n dX11_feed_73 rfl rfl ?_
          refine J_getR dX11_feed_74 ck_11 fw_X11_7 rfl sh_489 rr_489_0 ?_
          refine J_aload_n dX11_feed_77 rfl rfl ?_
          refine J_getI dX11_feed_78 ck_11 fw_X11_221 rfl sh_489 ?_
          refine J_iload dX11_feed_81 rfl ?_
          refine J_bipush dX11_feed_83 (ii_c rfl) (by decide) ?_
          refine J_iconst dX11_feed_85 (ii_c rfl) ?_
          refine J_iload dX11_feed_86 rfl ?_
          refine J_iconst dX11_feed_88 (ii_c rfl) ?_
          refine J_irem dX11_feed_89 (by decide) ?_
          refine J_isubN dX11_feed_90 h.1 ?_
          replace h := h.2
          refine J_imulN dX11_feed_91 h.1 ?_
          replace h := h.2
          refine J_ishr dX11_feed_92 ?_
          refine J_sipush dX11_feed_93 (ii_c rfl) (by decide) ?_
          refine J_iand dX11_feed_96 ?_
          refine J_iast dX11_feed_97 sh_490 h.1.1 h.1.2 ?_
          replace h := h.2 _ rfl
          refine J_aload_n dX11_feed_98 rfl rfl ?_
          refine J_dup dX11_feed_99 rfl ?_
          refine J_getI dX11_feed_100 ck_11 fw_X11_221 rfl sh_489 ?_
          refine J_iconst dX11_feed_103 (ii_c rfl) ?_
          refine J_iaddN dX11_feed_104 h.1 ?_
          replace h := h.2
          refine J_putI dX11_feed_105 ck_11 fw_X11_221 rfl rfl (Or.inl rfl) sh_489 ?_
          replace h := h _ rfl
          refine J_iincN dX11_feed_108 rfl (by decide) h.1 ?_
          replace h := h.2
          refine J_goto (tgt := 18) dX11_feed_111 (by decide) ?_
          exact J_loc (ls_sub [0, 1, 2, 3, 4, 5, 6] rfl) h
      · replace h := h.2 c
        refine J_iload_n dX11_feed_42 rfl rfl ?_
        refine J_goto (tgt := 71) dX11_feed_43 (by decide) ?_
        refine J_istore dX11_feed_71 (by decide) ?_
        refine J_aload_n dX11_feed_73 rfl rfl ?_
        refine J_getR dX11_feed_74 ck_11 fw_X11_7 rfl sh_489 rr_489_0 ?_
        refine J_aload_n dX11_feed_77 rfl rfl ?_
        refine J_getI dX11_feed_78 ck_11 fw_X11_221 rfl sh_489 ?_
        refine J_iload dX11_feed_81 rfl ?_
        refine J_bipush dX11_feed_83 (ii_c rfl) (by decide) ?_
        refine J_iconst dX11_feed_85 (ii_c rfl) ?_
        refine J_iload dX11_feed_86 rfl ?_
        refine J_iconst dX11_feed_88 (ii_c rfl) ?_
        refine J_irem dX11_feed_89 (by decide) ?_
        refine J_isubN dX11_feed_90 h.1 ?_
        replace h := h.2
        refine J_imulN dX11_feed_91 h.1 ?_
        replace h := h.2
        refine J_ishr dX11_feed_92 ?_
        refine J_sipush dX11_feed_93 (ii_c rfl) (by decide) ?_
        refine J_iand dX11_feed_96 ?_
        refine J_iast dX11_feed_97 sh_490 h.1.1 h.1.2 ?_
        replace h := h.2 _ rfl
        refine J_aload_n dX11_feed_98 rfl rfl ?_
        refine J_dup dX11_feed_99 rfl ?_
        refine J_getI dX11_feed_100 ck_11 fw_X11_221 rfl sh_489 ?_
        refine J_iconst dX11_feed_103 (ii_c rfl) ?_
        refine J_iaddN dX11_feed_104 h.1 ?_
        replace h := h.2
        refine J_putI dX11_feed_105 ck_11 fw_X11_221 rfl rfl (Or.inl rfl) sh_489 ?_
        replace h := h _ rfl
        refine J_iincN dX11_feed_108 rfl (by decide) h.1 ?_
        replace h := h.2
        refine J_goto (tgt := 18) dX11_feed_111 (by decide) ?_
        exact J_loc (ls_sub [0, 1, 2, 3, 4, 5, 6] rfl) h
    · replace h := h.2 c
      refine J_iload_n dX11_feed_31 rfl rfl ?_
      refine J_goto (tgt := 71) dX11_feed_32 (by decide) ?_
      refine J_istore dX11_feed_71 (by decide) ?_
      refine J_aload_n dX11_feed_73 rfl rfl ?_
      refine J_getR dX11_feed_74 ck_11 fw_X11_7 rfl sh_489 rr_489_0 ?_
      refine J_aload_n dX11_feed_77 rfl rfl ?_
      refine J_getI dX11_feed_78 ck_11 fw_X11_221 rfl sh_489 ?_
      refine J_iload dX11_feed_81 rfl ?_
      refine J_bipush dX11_feed_83 (ii_c rfl) (by decide) ?_
      refine J_iconst dX11_feed_85 (ii_c rfl) ?_
      refine J_iload dX11_feed_86 rfl ?_
      refine J_iconst dX11_feed_88 (ii_c rfl) ?_
      refine J_irem dX11_feed_89 (by decide) ?_
      refine J_isubN dX11_feed_90 h.1 ?_
      replace h := h.2
      refine J_imulN dX11_feed_91 h.1 ?_
      replace h := h.2
      refine J_ishr dX11_feed_92 ?_
      refine J_sipush dX11_feed_93 (ii_c rfl) (by decide) ?_
      refine J_iand dX11_feed_96 ?_
      refine J_iast dX11_feed_97 sh_490 h.1.1 h.1.2 ?_
      replace h := h.2 _ rfl
      refine J_aload_n dX11_feed_98 rfl rfl ?_
      refine J_dup dX11_feed_99 rfl ?_
      refine J_getI dX11_feed_100 ck_11 fw_X11_221 rfl sh_489 ?_
      refine J_iconst dX11_feed_103 (ii_c rfl) ?_
      refine J_iaddN dX11_feed_104 h.1 ?_
      replace h := h.2
      refine J_putI dX11_feed_105 ck_11 fw_X11_221 rfl rfl (Or.inl rfl) sh_489 ?_
      replace h := h _ rfl
      refine J_iincN dX11_feed_108 rfl (by decide) h.1 ?_
      replace h := h.2
      refine J_goto (tgt := 18) dX11_feed_111 (by decide) ?_
      exact J_loc (ls_sub [0, 1, 2, 3, 4, 5, 6] rfl) h
set_option maxRecDepth 20000 in
set_option maxHeartbeats 2000000 in
theorem bk_X11_end_0 {d : Nat} {I : HI} {Q : Option AV → AH → Prop} {a1 : Int}  (h : ((a1 < 0 → Q (some (vI 0)) (mk I)) ∧ (¬ (a1 < 0) → ((a1 ≤ (I 489 1) → (∀ I1 : HI, I1 = up I 489 1 a1 → Q (some (vI 1)) (mk I1))) ∧ (¬ (a1 ≤ (I 489 1)) → Q (some (vI 0)) (mk I)))))) : J none mX11_end (d + 1) 0 0 0 [(0, vR 489), (1, vI a1)] [] (mk I) Q := by
  refine J_iload_n dX11_end_0 rfl rfl ?_
  refine J_if_lt (tgt := 12) dX11_end_1 (by decide) (fun c => ?_) (fun c => ?_)
  · replace h := h.1 c
    refine J_iconst dX11_end_12 (ii_c rfl) ?_
    exact J_retz dX11_end_13 rfl (Or.inl rfl) h
  · replace h := h.2 c
    refine J_iload_n dX11_end_4 rfl rfl ?_
    refine J_aload_n dX11_end_5 rfl rfl ?_
    refine J_getI dX11_end_6 ck_11 fw_X11_221 rfl sh_489 ?_
    refine J_ic_le (tgt := 14) dX11_end_9 (by decide) (fun c => ?_) (fun c => ?_)
    · replace h := h.1 c
      refine J_aload_n dX11_end_14 rfl rfl ?_
      refine J_iload_n dX11_end_15 rfl rfl ?_
      refine J_putI dX11_end_16 ck_11 fw_X11_221 rfl rfl (Or.inl rfl) sh_489 ?_
      replace h := h _ rfl
      refine J_iconst dX11_end_19 (ii_c rfl) ?_
      exact J_retz dX11_end_20 rfl (Or.inr rfl) h
    · replace h := h.2 c
      refine J_iconst dX11_end_12 (ii_c rfl) ?_
      exact J_retz dX11_end_13 rfl (Or.inl rfl) h
