set_option maxRecDepth 20000 in
set_option maxHeartbeats 2000000 in
theorem bk_X11_newLane_0 {d : Nat} {I : HI} {Q : Option AV → AH → Prop} {a1 : Int}  (h : CI mX11_isFull d [vR 489, vI 2, vI 16, vI a1] I (fun x1 I1 => ((x1 = 0 → (-2147483648 ≤ 4 * (I1 518 2) ∧ 4 * (I1 518 2) ≤ 2147483647) ∧ CI mX11_cornerTold d [vR 489] I1 (fun x2 I2 => CI mX11_cornerTold d [vR 489] I2 (fun x3 I3 => (((I3 489 5) = 0 → ((x2 ≠ x3 → J none mX11_newLane (d + 1) 0 0 56 [(0, vR 489), (1, vI a1), (2, vI (4 * (I1 518 2))), (3, vI x2), (4, vI x3), (5, vI 0), (6, vI 0)] [] (mk I3) Q) ∧ (x2 = x3 → J none mX11_newLane (d + 1) 0 0 56 [(0, vR 489), (1, vI a1), (2, vI (4 * (I1 518 2))), (3, vI x2), (4, vI x3), (5, vI 1), (6, vI 0)] [] (mk I3) Q))) ∧ (¬ ((I3 489 5) = 0) → Q none (mk I3)))))) ∧ (¬ (x1 = 0) → Q none (mk I1))))) : J none mX11_newLane (d + 1) 0 0 0 [(0, vR 489), (1, vI a1)] [] (mk I) Q := by
  refine J_aload_n dX11_newLane_0 rfl rfl ?_
  refine J_iconst dX11_newLane_1 (ii_c rfl) ?_
  refine J_bipush dX11_newLane_2 (ii_c rfl) (by decide) ?_
  refine J_iload_n dX11_newLane_4 rfl rfl ?_
  refine J_callV (as := [_, _, _]) (mc1 := 0) (ms1 := 0) (mc := 0) (ms := 0) dX11_newLane_5 mv_X11_isFull lk_X11_287 sh_489 rfl (Nat.le_of_ble_eq_true rfl) (Nat.le_of_ble_eq_true rfl) h (fun r σ hq _ => ?_)
  obtain ⟨x1, I1, rfl, rfl, h⟩ := hq
  change J _ _ _ _ _ _ _ [vI x1] _ _
  refine J_if_eq (tgt := 12) dX11_newLane_8 (by decide) (fun c => ?_) (fun c => ?_)
  · replace h := h.1 c
    refine J_iconst dX11_newLane_12 (ii_c rfl) ?_
    refine J_aload_n dX11_newLane_13 rfl rfl ?_
    refine J_getR dX11_newLane_14 ck_11 fw_X11_99 rfl sh_489 rr_489_37 ?_
    refine J_iconst dX11_newLane_17 (ii_c rfl) ?_
    refine J_iald dX11_newLane_18 sh_518 (by decide) (by decide) ?_
    refine J_imulN dX11_newLane_19 h.1 ?_
    replace h := h.2
    refine J_istore_n dX11_newLane_20 rfl (by decide) ?_
    refine J_aload_n dX11_newLane_21 rfl rfl ?_
    refine J_callV (as := []) (mc1 := 0) (ms1 := 0) (mc := 0) (ms := 0) dX11_newLane_22 mv_X11_cornerTold lk_X11_303 sh_489 rfl (Nat.le_of_ble_eq_true rfl) (Nat.le_of_ble_eq_true rfl) h (fun r σ hq _ => ?_)
    obtain ⟨x2, I2, rfl, rfl, h⟩ := hq
    change J _ _ _ _ _ _ _ [vI x2] _ _
    refine J_istore_n dX11_newLane_25 rfl (by decide) ?_
    refine J_aload_n dX11_newLane_26 rfl rfl ?_
    refine J_callV (as := []) (mc1 := 0) (ms1 := 0) (mc := 0) (ms := 0) dX11_newLane_27 mv_X11_cornerTold lk_X11_303 sh_489 rfl (Nat.le_of_ble_eq_true rfl) (Nat.le_of_ble_eq_true rfl) h (fun r σ hq _ => ?_)
    obtain ⟨x3, I3, rfl, rfl, h⟩ := hq
    change J _ _ _ _ _ _ _ [vI x3] _ _
    refine J_istore dX11_newLane_30 (by decide) ?_
    refine J_aload_n dX11_newLane_32 rfl rfl ?_
    refine J_getI dX11_newLane_33 ck_11 fw_X11_224 rfl sh_489 ?_
    refine J_if_eq (tgt := 40) dX11_newLane_36 (by decide) (fun c => ?_) (fun c => ?_)
    · replace h := h.1 c
      refine J_iload_n dX11_newLane_40 rfl rfl ?_
      refine J_iload dX11_newLane_41 rfl ?_
      refine J_ic_ne (tgt := 50) dX11_newLane_43 (by decide) (fun c => ?_) (fun c => ?_)
      · replace h := h.1 c
        refine J_iconst dX11_newLane_50 (ii_c rfl) ?_
        refine J_istore dX11_newLane_51 (by decide) ?_
        refine J_iconst dX11_newLane_53 (ii_c rfl) ?_
        refine J_istore dX11_newLane_54 (by decide) ?_
        exact h
      · replace h := h.2 c
        refine J_iconst dX11_newLane_46 (ii_c rfl) ?_
        refine J_goto (tgt := 51) dX11_newLane_47 (by decide) ?_
        refine J_istore dX11_newLane_51 (by decide) ?_
        refine J_iconst dX11_newLane_53 (ii_c rfl) ?_
        refine J_istore dX11_newLane_54 (by decide) ?_
        exact h
    · replace h := h.2 c
      exact J_retv dX11_newLane_39 rfl h
  · replace h := h.2 c
    exact J_retv dX11_newLane_11 rfl h
set_option maxRecDepth 20000 in
set_option maxHeartbeats 2000000 in
theorem bk_X11_newLane_56 {d : Nat} {I : HI} {Q : Option AV → AH → Prop} {a1 : Int} {a2 : Int} {a3 : Int} {a4 : Int} {a5 : Int} {a6 : Int}  (h : ((a2 ≤ a6 → ((a5 = 0 → J none mX11_newLane (d + 1) 0 0 144 [(0, vR 489), (1, vI a1), (2, vI a2), (3, vI a3), (4, vI a4), (5, vI a5), (6, vI a6)] [] (mk I) Q) ∧ (¬ (a5 = 0) → CV mX11_fail d [vR 489, vI 3, vI (I 489 36)] I (fun I1 => J none mX11_newLane (d + 1) 0 0 144 [(0, vR 489), (1, vI a1), (2, vI a2), (3, vI a3), (4, vI a4), (5, vI a5), (6, vI a6)] [] (mk I1) Q)))) ∧ (¬ (a2 ≤ a6) → ((a5 ≠ 0 → (-2147483648 ≤ a6 + 4 ∧ a6 + 4 ≤ 2147483647) ∧ J none mX11_newLane (d + 1) 0 0 56 [(0, vR 489), (1, vI a1), (2, vI a2), (3, vI a3), (4, vI a4), (5, vI 1), (6, vI (a6 + 4))] [] (mk I) Q) ∧ (a5 = 0 → ((0 : Int) ≤ a6 ∧ (a6 : Int) < 128) ∧ (((I 521 a6.toNat) ≠ a3 → ((0 : Int) ≤ a6 ∧ (a6 : Int) < 128) ∧ (((I 521 a6.toNat) ≠ a4 → (-2147483648 ≤ a6 + 4 ∧ a6 + 4 ≤ 2147483647) ∧ J none mX11_newLane (d + 1) 0 0 56 [(0, vR 489), (1, vI a1), (2, vI a2), (3, vI a3), (4, vI a4), (5, vI 0), (6, vI (a6 + 4))] [] (mk I) Q) ∧ ((I 521 a6.toNat) = a4 → (-2147483648 ≤ a6 + 1 ∧ a6 + 1 ≤ 2147483647) ∧ ((0 : Int) ≤ (a6 + 1) ∧ (a6 + 1 : Int) < 128) ∧ (((I 521 (a6 + 1).toNat) ≠ a3 → (-2147483648 ≤ a6 + 4 ∧ a6 + 4 ≤ 2147483647) ∧ J none mX11_newLane (d + 1) 0 0 56 [(0, vR 489), (1, vI a1), (2, vI a2), (3, vI a3), (4, vI a4), (5, vI 0), (6, vI (a6 + 4))] [] (mk I) Q) ∧ ((I 521 (a6 + 1).toNat) = a3 → (-2147483648 ≤ a6 + 4 ∧ a6 + 4 ≤ 2147483647) ∧ J none mX11_newLane (d + 1) 0 0 56 [(0, vR 489), (1, vI a1), (2, vI a2), (3, vI a3), (4, vI a4), (5, vI 1), (6, vI (a6 + 4))] [] (mk I) Q))))) ∧ ((I 521 a6.toNat) = a3 → (-2147483648 ≤ a6 + 1 ∧ a6 + 1 ≤ 2147483647) ∧ ((0 : Int) ≤ (a6 + 1) ∧ (a6 + 1 : Int) < 128) ∧ (((I 521 (a6 + 1).toNat) = a4 → (-2147483648 ≤ a6 + 4 ∧ a6 + 4 ≤ 2147483647) ∧ J none mX11_newLane (d + 1) 0 0 56 [(0, vR 489), (1, vI a1), (2, vI a2), (3, vI a3), (4, vI a4), (5, vI 1), (6, vI (a6 + 4))] [] (mk I) Q) ∧ (¬ ((I 521 (a6 + 1).toNat) = a4) → ((0 : Int) ≤ a6 ∧ (a6 : Int) < 128) ∧ (((I 521 a6.toNat) ≠ a4 → (-2147483648 ≤ a6 + 4 ∧ a6 + 4 ≤ 2147483647) ∧ J none mX11_newLane (d + 1) 0 0 56 [(0, vR 489), (1, vI a1), (2, vI a2), (3, vI a3), (4, vI a4), (5, vI 0), (6, vI (a6 + 4))] [] (mk I) Q) ∧ ((I 521 a6.toNat) = a4 → (-2147483648 ≤ a6 + 1 ∧ a6 + 1 ≤ 2147483647) ∧ ((0 : Int) ≤ (a6 + 1) ∧ (a6 + 1 : Int) < 128) ∧ (((I 521 (a6 + 1).toNat) ≠ a3 → (-2147483648 ≤ a6 + 4 ∧ a6 + 4 ≤ 2147483647) ∧ J none mX11_newLane (d + 1) 0 0 56 [(0, vR 489), (1, vI a1), (2, vI a2), (3, vI a3), (4, vI a4), (5, vI 0), (6, vI (a6 + 4))] [] (mk I) Q) ∧ ((I 521 (a6 + 1).toNat) = a3 → (-2147483648 ≤ a6 + 4 ∧ a6 + 4 ≤ 2147483647) ∧ J none mX11_newLane (d + 1) 0 0 56 [(0, vR 489), (1, vI a1), (2, vI a2), (3, vI a3), (4, vI a4), (5, vI 1), (6, vI (a6 + 4))] [] (mk I) Q))))))))))))) : J none mX11_newLane (d + 1) 0 0 56 [(0, vR 489), (1, vI a1), (2, vI a2), (3, vI a3), (4, vI a4), (5, vI a5), (6, vI a6)] [] (mk I) Q := by
  refine J_iload dX11_newLane_56 rfl ?_
  refine J_iload_n dX11_newLane_58 rfl rfl ?_
  refine J_ic_ge (tgt := 130) dX11_newLane_59 (by decide) (fun c => ?_) (fun c => ?_)
  · replace h := h.1 c
    refine J_iload dX11_newLane_130 rfl ?_
    refine J_if_eq (tgt := 144) dX11_newLane_132 (by decide) (fun c => ?_) (fun c => ?_)
    · replace h := h.1 c
      exact h
    · replace h := h.2 c
      refine J_aload_n dX11_newLane_135 rfl rfl ?_
      refine J_iconst dX11_newLane_136 (ii_c rfl) ?_
      refine J_aload_n dX11_newLane_137 rfl rfl ?_
      refine J_getI dX11_newLane_138 ck_11 fw_X11_272 rfl sh_489 ?_
      refine J_callV (as := [_, _]) (mc1 := 0) (ms1 := 0) (mc := 0) (ms := 0) dX11_newLane_141 mv_X11_fail lk_X11_254 sh_489 rfl (Nat.le_of_ble_eq_true rfl) (Nat.le_of_ble_eq_true rfl) h (fun r σ hq _ => ?_)
      obtain ⟨I1, rfl, rfl, h⟩ := hq
      change J _ _ _ _ _ _ _ [] _ _
      exact h
  · replace h := h.2 c
    refine J_iload dX11_newLane_62 rfl ?_
    refine J_if_ne (tgt := 117) dX11_newLane_64 (by decide) (fun c => ?_) (fun c => ?_)
    · replace h := h.1 c
      refine J_iconst dX11_newLane_117 (ii_c rfl) ?_
      refine J_goto (tgt := 122) dX11_newLane_118 (by decide) ?_
      refine J_istore dX11_newLane_122 (by decide) ?_
      refine J_iincN dX11_newLane_124 rfl (by decide) h.1 ?_
      replace h := h.2
      refine J_goto (tgt := 56) dX11_newLane_127 (by decide) ?_
      exact h
    · replace h := h.2 c
      refine J_aload_n dX11_newLane_67 rfl rfl ?_
      refine J_getR dX11_newLane_68 ck_11 fw_X11_109 rfl sh_489 rr_489_40 ?_
      refine J_iload dX11_newLane_71 rfl ?_
      refine J_iald dX11_newLane_73 sh_521 h.1.1 h.1.2 ?_
      replace h := h.2
      refine J_iload_n dX11_newLane_74 rfl rfl ?_
      refine J_ic_ne (tgt := 92) dX11_newLane_75 (by decide) (fun c => ?_) (fun c => ?_)
      · replace h := h.1 c
        refine J_aload_n dX11_newLane_92 rfl rfl ?_
        refine J_getR dX11_newLane_93 ck_11 fw_X11_109 rfl sh_489 rr_489_40 ?_
        refine J_iload dX11_newLane_96 rfl ?_
        refine J_iald dX11_newLane_98 sh_521 h.1.1 h.1.2 ?_
        replace h := h.2
        refine J_iload dX11_newLane_99 rfl ?_
        refine J_ic_ne (tgt := 121) dX11_newLane_101 (by decide) (fun c => ?_) (fun c => ?_)
        · replace h := h.1 c
          refine J_iconst dX11_newLane_121 (ii_c rfl) ?_
          refine J_istore dX11_newLane_122 (by decide) ?_
          refine J_iincN dX11_newLane_124 rfl (by decide) h.1 ?_
          replace h := h.2
          refine J_goto (tgt := 56) dX11_newLane_127 (by decide) ?_
          exact h
        · replace h := h.2 c
          refine J_aload_n dX11_newLane_104 rfl rfl ?_
          refine J_getR dX11_newLane_105 ck_11 fw_X11_109 rfl sh_489 rr_489_40 ?_
          refine J_iload dX11_newLane_108 rfl ?_
          refine J_iconst dX11_newLane_110 (ii_c rfl) ?_
          refine J_iaddN dX11_newLane_111 h.1 ?_
          replace h := h.2
          refine J_iald dX11_newLane_112 sh_521 h.1.1 h.1.2 ?_
          replace h := h.2
          refine J_iload_n dX11_newLane_113 rfl rfl ?_
          refine J_ic_ne (tgt := 121) dX11_newLane_114 (by decide) (fun c => ?_) (fun c => ?_)
          · replace h := h.1 c
            refine J_iconst dX11_newLane_121 (ii_c rfl) ?_
            refine J_istore dX11_newLane_122 (by decide) ?_
            refine J_iincN dX11_newLane_124 rfl (by decide) h.1 ?_
            replace h := h.2
            refine J_goto (tgt := 56) dX11_newLane_127 (by decide) ?_
            exact h
          · replace h := h.2 c
            refine J_iconst dX11_newLane_117 (ii_c rfl) ?_
            refine J_goto (tgt := 122) dX11_newLane_118 (by decide) ?_
            refine J_istore dX11_newLane_122 (by decide) ?_
            refine J_iincN dX11_newLane_124 rfl (by decide) h.1 ?_
            replace h := h.2
            refine J_goto (tgt := 56) dX11_newLane_127 (by decide) ?_
            exact h
      · replace h := h.2 c
        refine J_aload_n dX11_newLane_78 rfl rfl ?_
        refine J_getR dX11_newLane_79 ck_11 fw_X11_109 rfl sh_489 rr_489_40 ?_
        refine J_iload dX11_newLane_82 rfl ?_
        refine J_iconst dX11_newLane_84 (ii_c rfl) ?_
        refine J_iaddN dX11_newLane_85 h.1 ?_
        replace h := h.2
        refine J_iald dX11_newLane_86 sh_521 h.1.1 h.1.2 ?_
        replace h := h.2
        refine J_iload dX11_newLane_87 rfl ?_
        refine J_ic_eq (tgt := 117) dX11_newLane_89 (by decide) (fun c => ?_) (fun c => ?_)
        · replace h := h.1 c
          refine J_iconst dX11_newLane_117 (ii_c rfl) ?_
          refine J_goto (tgt := 122) dX11_newLane_118 (by decide) ?_
          refine J_istore dX11_newLane_122 (by decide) ?_
          refine J_iincN dX11_newLane_124 rfl (by decide) h.1 ?_
          replace h := h.2
          refine J_goto (tgt := 56) dX11_newLane_127 (by decide) ?_
          exact h
        · replace h := h.2 c
          refine J_aload_n dX11_newLane_92 rfl rfl ?_
          refine J_getR dX11_newLane_93 ck_11 fw_X11_109 rfl sh_489 rr_489_40 ?_
          refine J_iload dX11_newLane_96 rfl ?_
          refine J_iald dX11_newLane_98 sh_521 h.1.1 h.1.2 ?_
          replace h := h.2
          refine J_iload dX11_newLane_99 rfl ?_
          refine J_ic_ne (tgt := 121) dX11_newLane_101 (by decide) (fun c => ?_) (fun c => ?_)
          · replace h := h.1 c
            refine J_iconst dX11_newLane_121 (ii_c rfl) ?_
            refine J_istore dX11_newLane_122 (by decide) ?_
            refine J_iincN dX11_newLane_124 rfl (by decide) h.1 ?_
            replace h := h.2
            refine J_goto (tgt := 56) dX11_newLane_127 (by decide) ?_
            exact h
          · replace h := h.2 c
            refine J_aload_n dX11_newLane_104 rfl rfl ?_
            refine J_getR dX11_newLane_105 ck_11 fw_X11_109 rfl sh_489 rr_489_40 ?_
            refine J_iload dX11_newLane_108 rfl ?_
            refine J_iconst dX11_newLane_110 (ii_c rfl) ?_
            refine J_iaddN dX11_newLane_111 h.1 ?_
            replace h := h.2
            refine J_iald dX11_newLane_112 sh_521 h.1.1 h.1.2 ?_
            replace h := h.2
            refine J_iload_n dX11_newLane_113 rfl rfl ?_
            refine J_ic_ne (tgt := 121) dX11_newLane_114 (by decide) (fun c => ?_) (fun c => ?_)
            · replace h := h.1 c
              refine J_iconst dX11_newLane_121 (ii_c rfl) ?_
              refine J_istore dX11_newLane_122 (by decide) ?_
              refine J_iincN dX11_newLane_124 rfl (by decide) h.1 ?_
              replace h := h.2
              refine J_goto (tgt := 56) dX11_newLane_127 (by decide) ?_
              exact h
            · replace h := h.2 c
              refine J_iconst dX11_newLane_117 (ii_c rfl) ?_
              refine J_goto (tgt := 122) dX11_newLane_118 (by decide) ?_
              refine J_istore dX11_newLane_122 (by decide) ?_
              refine J_iincN dX11_newLane_124 rfl (by decide) h.1 ?_
              replace h := h.2
              refine J_goto (tgt := 56) dX11_newLane_127 (by decide) ?_
              exact h
set_option maxRecDepth 20000 in
set_option maxHeartbeats 2000000 in
theorem bk_X11_newLane_144 {d : Nat} {I : HI} {Q : Option AV → AH → Prop} {a1 : Int} {a2 : Int} {a3 : Int} {a4 : Int} {a5 : Int} {a6 : Int}  (h : CV mX11_asks d [vR 489, vR 494] I (fun I1 => CI mX11_number d [vR 489, vI 1, vI 9] I1 (fun x2 I2 => CV mX11_asks d [vR 489, vR 495] I2 (fun I3 => CI mX11_number d [vR 489, vI 0, vI 9] I3 (fun x4 I4 => (((I4 489 5) = 0 → ((0 : Int) ≤ a2 ∧ (a2 : Int) < 128) ∧ (∀ I5 : HI, I5 = up I4 521 a2.toNat a3 → (-2147483648 ≤ a2 + 1 ∧ a2 + 1 ≤ 2147483647) ∧ ((0 : Int) ≤ (a2 + 1) ∧ (a2 + 1 : Int) < 128) ∧ (∀ I6 : HI, I6 = up I5 521 (a2 + 1).toNat a4 → (-2147483648 ≤ a2 + 2 ∧ a2 + 2 ≤ 2147483647) ∧ ((0 : Int) ≤ (a2 + 2) ∧ (a2 + 2 : Int) < 128) ∧ (∀ I7 : HI, I7 = up I6 521 (a2 + 2).toNat x2 → (-2147483648 ≤ a2 + 3 ∧ a2 + 3 ≤ 2147483647) ∧ ((0 : Int) ≤ (a2 + 3) ∧ (a2 + 3 : Int) < 128) ∧ (∀ I8 : HI, I8 = up I7 521 (a2 + 3).toNat x4 → (-2147483648 ≤ (I8 518 2) + 1 ∧ (I8 518 2) + 1 ≤ 2147483647) ∧ (∀ I9 : HI, I9 = up I8 518 2 ((I8 518 2) + 1) → Q none (mk I9))))))) ∧ (¬ ((I4 489 5) = 0) → Q none (mk I4)))))))) : J none mX11_newLane (d + 1) 0 0 144 [(0, vR 489), (1, vI a1), (2, vI a2), (3, vI a3), (4, vI a4), (5, vI a5), (6, vI a6)] [] (mk I) Q := by
  refine J_aload_n dX11_newLane_144 rfl rfl ?_
  refine J_aload_n dX11_newLane_145 rfl rfl ?_
  refine J_getR dX11_newLane_146 ck_11 fw_X11_27 rfl sh_489 rr_489_12 ?_
  refine J_callV (as := [_]) (mc1 := 0) (ms1 := 0) (mc := 0) (ms := 0) dX11_newLane_149 mv_X11_asks lk_X11_295 sh_489 rfl (Nat.le_of_ble_eq_true rfl) (Nat.le_of_ble_eq_true rfl) h (fun r σ hq _ => ?_)
  obtain ⟨I1, rfl, rfl, h⟩ := hq
  change J _ _ _ _ _ _ _ [] _ _
  refine J_aload_n dX11_newLane_152 rfl rfl ?_
  refine J_iconst dX11_newLane_153 (ii_c rfl) ?_
  refine J_bipush dX11_newLane_154 (ii_c rfl) (by decide) ?_
  refine J_callV (as := [_, _]) (mc1 := 0) (ms1 := 0) (mc := 0) (ms := 0) dX11_newLane_156 mv_X11_number lk_X11_299 sh_489 rfl (Nat.le_of_ble_eq_true rfl) (Nat.le_of_ble_eq_true rfl) h (fun r σ hq _ => ?_)
  obtain ⟨x2, I2, rfl, rfl, h⟩ := hq
  change J _ _ _ _ _ _ _ [vI x2] _ _
  refine J_istore dX11_newLane_159 (by decide) ?_
  refine J_aload_n dX11_newLane_161 rfl rfl ?_
  refine J_aload_n dX11_newLane_162 rfl rfl ?_
  refine J_getR dX11_newLane_163 ck_11 fw_X11_30 rfl sh_489 rr_489_13 ?_
  refine J_callV (as := [_]) (mc1 := 0) (ms1 := 0) (mc := 0) (ms := 0) dX11_newLane_166 mv_X11_asks lk_X11_295 sh_489 rfl (Nat.le_of_ble_eq_true rfl) (Nat.le_of_ble_eq_true rfl) h (fun r σ hq _ => ?_)
  obtain ⟨I3, rfl, rfl, h⟩ := hq
  change J _ _ _ _ _ _ _ [] _ _
  refine J_aload_n dX11_newLane_169 rfl rfl ?_
  refine J_iconst dX11_newLane_170 (ii_c rfl) ?_
  refine J_bipush dX11_newLane_171 (ii_c rfl) (by decide) ?_
  refine J_callV (as := [_, _]) (mc1 := 0) (ms1 := 0) (mc := 0) (ms := 0) dX11_newLane_173 mv_X11_number lk_X11_299 sh_489 rfl (Nat.le_of_ble_eq_true rfl) (Nat.le_of_ble_eq_true rfl) h (fun r σ hq _ => ?_)
  obtain ⟨x4, I4, rfl, rfl, h⟩ := hq
  change J _ _ _ _ _ _ _ [vI x4] _ _
  refine J_istore dX11_newLane_176 (by decide) ?_
  refine J_aload_n dX11_newLane_178 rfl rfl ?_
  refine J_getI dX11_newLane_179 ck_11 fw_X11_224 rfl sh_489 ?_
  refine J_if_eq (tgt := 186) dX11_newLane_182 (by decide) (fun c => ?_) (fun c => ?_)
  · replace h := h.1 c
    refine J_aload_n dX11_newLane_186 rfl rfl ?_
    refine J_getR dX11_newLane_187 ck_11 fw_X11_109 rfl sh_489 rr_489_40 ?_
    refine J_iload_n dX11_newLane_190 rfl rfl ?_
    refine J_iload_n dX11_newLane_191 rfl rfl ?_
    refine J_iast dX11_newLane_192 sh_521 h.1.1 h.1.2 ?_
    replace h := h.2 _ rfl
    refine J_aload_n dX11_newLane_193 rfl rfl ?_
    refine J_getR dX11_newLane_194 ck_11 fw_X11_109 rfl sh_489 rr_489_40 ?_
    refine J_iload_n dX11_newLane_197 rfl rfl ?_
    refine J_iconst dX11_newLane_198 (ii_c rfl) ?_
    refine J_iaddN dX11_newLane_199 h.1 ?_
    replace h := h.2
    refine J_iload dX11_newLane_200 rfl ?_
    refine J_iast dX11_newLane_202 sh_521 h.1.1 h.1.2 ?_
    replace h := h.2 _ rfl
    refine J_aload_n dX11_newLane_203 rfl rfl ?_
    refine J_getR dX11_newLane_204 ck_11 fw_X11_109 rfl sh_489 rr_489_40 ?_
    refine J_iload_n dX11_newLane_207 rfl rfl ?_
    refine J_iconst dX11_newLane_208 (ii_c rfl) ?_
    refine J_iaddN dX11_newLane_209 h.1 ?_
    replace h := h.2
    refine J_iload dX11_newLane_210 rfl ?_
    refine J_iast dX11_newLane_212 sh_521 h.1.1 h.1.2 ?_
    replace h := h.2 _ rfl
    refine J_aload_n dX11_newLane_213 rfl rfl ?_
    refine J_getR dX11_newLane_214 ck_11 fw_X11_109 rfl sh_489 rr_489_40 ?_
    refine J_iload_n dX11_newLane_217 rfl rfl ?_
    refine J_iconst dX11_newLane_218 (ii_c rfl) ?_
    refine J_iaddN dX11_newLane_219 h.1 ?_
    replace h := h.2
    refine J_iload dX11_newLane_220 rfl ?_
    refine J_iast dX11_newLane_222 sh_521 h.1.1 h.1.2 ?_
    replace h := h.2 _ rfl
    refine J_aload_n dX11_newLane_223 rfl rfl ?_
    refine J_getR dX11_newLane_224 ck_11 fw_X11_99 rfl sh_489 rr_489_37 ?_
    refine J_iconst dX11_newLane_227 (ii_c rfl) ?_
    refine J_dup2 dX11_newLane_228 rfl rfl ?_
    refine J_iald dX11_newLane_229 sh_518 (by decide) (by decide) ?_
    refine J_iconst dX11_newLane_230 (ii_c rfl) ?_
    refine J_iaddN dX11_newLane_231 h.1 ?_
    replace h := h.2
    refine J_iast dX11_newLane_232 sh_518 (by decide) (by decide) ?_
    replace h := h _ rfl
    exact J_retv dX11_newLane_233 rfl h
  · replace h := h.2 c
    exact J_retv dX11_newLane_185 rfl h
set_option maxRecDepth 20000 in
set_option maxHeartbeats 2000000 in
theorem bk_X11_newSaint_0 {d : Nat} {I : HI} {Q : Option AV → AH → Prop} {a1 : Int}  (h : CI mX11_isFull d [vR 489, vI 1, vI 4, vI a1] I (fun x1 I1 => ((x1 = 0 → CI mX11_newName d [vR 489, vI 1] I1 (fun x2 I2 => CV mX11_asks d [vR 489, vR 497] I2 (fun I3 => CI mX11_cornerTold d [vR 489] I3 (fun x4 I4 => CV mX11_asks d [vR 489, vR 498] I4 (fun I5 => CI mX11_number d [vR 489, vI 1, vI 5] I5 (fun x6 I6 => CV mX11_asks d [vR 489, vR 499] I6 (fun I7 => CI mX11_number d [vR 489, vI 0, vI 20] I7 (fun x8 I8 => CV mX11_asks d [vR 489, vR 500] I8 (fun I9 => CI mX11_number d [vR 489, vI 0, vI 99] I9 (fun x10 I10 => (((I10 489 5) = 0 → (-2147483648 ≤ 4 * x2 ∧ 4 * x2 ≤ 2147483647) ∧ ((0 : Int) ≤ (4 * x2) ∧ (4 * x2 : Int) < 32) ∧ (∀ I11 : HI, I11 = up I10 522 (4 * x2).toNat x4 → (-2147483648 ≤ 4 * x2 ∧ 4 * x2 ≤ 2147483647) ∧ (-2147483648 ≤ (4 * x2) + 1 ∧ (4 * x2) + 1 ≤ 2147483647) ∧ ((0 : Int) ≤ ((4 * x2) + 1) ∧ ((4 * x2) + 1 : Int) < 32) ∧ (∀ I12 : HI, I12 = up I11 522 ((4 * x2) + 1).toNat x6 → (-2147483648 ≤ 4 * x2 ∧ 4 * x2 ≤ 2147483647) ∧ (-2147483648 ≤ (4 * x2) + 2 ∧ (4 * x2) + 2 ≤ 2147483647) ∧ ((0 : Int) ≤ ((4 * x2) + 2) ∧ ((4 * x2) + 2 : Int) < 32) ∧ (∀ I13 : HI, I13 = up I12 522 ((4 * x2) + 2).toNat x8 → (-2147483648 ≤ 4 * x2 ∧ 4 * x2 ≤ 2147483647) ∧ (-2147483648 ≤ (4 * x2) + 3 ∧ (4 * x2) + 3 ≤ 2147483647) ∧ ((0 : Int) ≤ ((4 * x2) + 3) ∧ ((4 * x2) + 3 : Int) < 32) ∧ (∀ I14 : HI, I14 = up I13 522 ((4 * x2) + 3).toNat x10 → (-2147483648 ≤ (I14 518 1) + 1 ∧ (I14 518 1) + 1 ≤ 2147483647) ∧ (∀ I15 : HI, I15 = up I14 518 1 ((I14 518 1) + 1) → Q none (mk I15))))))) ∧ (¬ ((I10 489 5) = 0) → Q none (mk I10))))))))))))) ∧ (¬ (x1 = 0) → Q none (mk I1))))) : J none mX11_newSaint (d + 1) 0 0 0 [(0, vR 489), (1, vI a1)] [] (mk I) Q := by
  refine J_aload_n dX11_newSaint_0 rfl rfl ?_
  refine J_iconst dX11_newSaint_1 (ii_c rfl) ?_
  refine J_iconst dX11_newSaint_2 (ii_c rfl) ?_
  refine J_iload_n dX11_newSaint_3 rfl rfl ?_
  refine J_callV (as := [_, _, _]) (mc1 := 0) (ms1 := 0) (mc := 0) (ms := 0) dX11_newSaint_4 mv_X11_isFull lk_X11_287 sh_489 rfl (Nat.le_of_ble_eq_true rfl) (Nat.le_of_ble_eq_true rfl) h (fun r σ hq _ => ?_)
  obtain ⟨x1, I1, rfl, rfl, h⟩ := hq
  change J _ _ _ _ _ _ _ [vI x1] _ _
  refine J_if_eq (tgt := 11) dX11_newSaint_7 (by decide) (fun c => ?_) (fun c => ?_)
  · replace h := h.1 c
    refine J_aload_n dX11_newSaint_11 rfl rfl ?_
    refine J_iconst dX11_newSaint_12 (ii_c rfl) ?_
    refine J_callV (as := [_]) (mc1 := 0) (ms1 := 0) (mc := 0) (ms := 0) dX11_newSaint_13 mv_X11_newName lk_X11_291 sh_489 rfl (Nat.le_of_ble_eq_true rfl) (Nat.le_of_ble_eq_true rfl) h (fun r σ hq _ => ?_)
    obtain ⟨x2, I2, rfl, rfl, h⟩ := hq
    change J _ _ _ _ _ _ _ [vI x2] _ _
    refine J_istore_n dX11_newSaint_16 rfl (by decide) ?_
    refine J_aload_n dX11_newSaint_17 rfl rfl ?_
    refine J_aload_n dX11_newSaint_18 rfl rfl ?_
    refine J_getR dX11_newSaint_19 ck_11 fw_X11_36 rfl sh_489 rr_489_15 ?_
    refine J_callV (as := [_]) (mc1 := 0) (ms1 := 0) (mc := 0) (ms := 0) dX11_newSaint_22 mv_X11_asks lk_X11_295 sh_489 rfl (Nat.le_of_ble_eq_true rfl) (Nat.le_of_ble_eq_true rfl) h (fun r σ hq _ => ?_)
    obtain ⟨I3, rfl, rfl, h⟩ := hq
    change J _ _ _ _ _ _ _ [] _ _
    refine J_aload_n dX11_newSaint_25 rfl rfl ?_
    refine J_callV (as := []) (mc1 := 0) (ms1 := 0) (mc := 0) (ms := 0) dX11_newSaint_26 mv_X11_cornerTold lk_X11_303 sh_489 rfl (Nat.le_of_ble_eq_true rfl) (Nat.le_of_ble_eq_true rfl) h (fun r σ hq _ => ?_)
    obtain ⟨x4, I4, rfl, rfl, h⟩ := hq
    change J _ _ _ _ _ _ _ [vI x4] _ _
    refine J_istore_n dX11_newSaint_29 rfl (by decide) ?_
    refine J_aload_n dX11_newSaint_30 rfl rfl ?_
    refine J_aload_n dX11_newSaint_31 rfl rfl ?_
    refine J_getR dX11_newSaint_32 ck_11 fw_X11_39 rfl sh_489 rr_489_16 ?_
    refine J_callV (as := [_]) (mc1 := 0) (ms1 := 0) (mc := 0) (ms := 0) dX11_newSaint_35 mv_X11_asks lk_X11_295 sh_489 rfl (Nat.le_of_ble_eq_true rfl) (Nat.le_of_ble_eq_true rfl) h (fun r σ hq _ => ?_)
    obtain ⟨I5, rfl, rfl, h⟩ := hq
    change J _ _ _ _ _ _ _ [] _ _
    refine J_aload_n dX11_newSaint_38 rfl rfl ?_
    refine J_iconst dX11_newSaint_39 (ii_c rfl) ?_
    refine J_iconst dX11_newSaint_40 (ii_c rfl) ?_
    refine J_callV (as := [_, _]) (mc1 := 0) (ms1 := 0) (mc := 0) (ms := 0) dX11_newSaint_41 mv_X11_number lk_X11_299 sh_489 rfl (Nat.le_of_ble_eq_true rfl) (Nat.le_of_ble_eq_true rfl) h (fun r σ hq _ => ?_)
    obtain ⟨x6, I6, rfl, rfl, h⟩ := hq
    change J _ _ _ _ _ _ _ [vI x6] _ _
    refine J_istore dX11_newSaint_44 (by decide) ?_
    refine J_aload_n dX11_newSaint_46 rfl rfl ?_
    refine J_aload_n dX11_newSaint_47 rfl rfl ?_
    refine J_getR dX11_newSaint_48 ck_11 fw_X11_42 rfl sh_489 rr_489_17 ?_
    refine J_callV (as := [_]) (mc1 := 0) (ms1 := 0) (mc := 0) (ms := 0) dX11_newSaint_51 mv_X11_asks lk_X11_295 sh_489 rfl (Nat.le_of_ble_eq_true rfl) (Nat.le_of_ble_eq_true rfl) h (fun r σ hq _ => ?_)
    obtain ⟨I7, rfl, rfl, h⟩ := hq
    change J _ _ _ _ _ _ _ [] _ _
    refine J_aload_n dX11_newSaint_54 rfl rfl ?_
    refine J_iconst dX11_newSaint_55 (ii_c rfl) ?_
    refine J_bipush dX11_newSaint_56 (ii_c rfl) (by decide) ?_
    refine J_callV (as := [_, _]) (mc1 := 0) (ms1 := 0) (mc := 0) (ms := 0) dX11_newSaint_58 mv_X11_number lk_X11_299 sh_489 rfl (Nat.le_of_ble_eq_true rfl) (Nat.le_of_ble_eq_true rfl) h (fun r σ hq _ => ?_)
    obtain ⟨x8, I8, rfl, rfl, h⟩ := hq
    change J _ _ _ _ _ _ _ [vI x8] _ _
    refine J_istore dX11_newSaint_61 (by decide) ?_
    refine J_aload_n dX11_newSaint_63 rfl rfl ?_
    refine J_aload_n dX11_newSaint_64 rfl rfl ?_
    refine J_getR dX11_newSaint_65 ck_11 fw_X11_45 rfl sh_489 rr_489_18 ?_
    refine J_callV (as := [_]) (mc1 := 0) (ms1 := 0) (mc := 0) (ms := 0) dX11_newSaint_68 mv_X11_asks lk_X11_295 sh_489 rfl (Nat.le_of_ble_eq_true rfl) (Nat.le_of_ble_eq_true rfl) h (fun r σ hq _ => ?_)
    obtain ⟨I9, rfl, rfl, h⟩ := hq
    change J _ _ _ _ _ _ _ [] _ _
    refine J_aload_n dX11_newSaint_71 rfl rfl ?_
    refine J_iconst dX11_newSaint_72 (ii_c rfl) ?_
    refine J_bipush dX11_newSaint_73 (ii_c rfl) (by decide) ?_
    refine J_callV (as := [_, _]) (mc1 := 0) (ms1 := 0) (mc := 0) (ms := 0) dX11_newSaint_75 mv_X11_number lk_X11_299 sh_489 rfl (Nat.le_of_ble_eq_true rfl) (Nat.le_of_ble_eq_true rfl) h (fun r σ hq _ => ?_)
    obtain ⟨x10, I10, rfl, rfl, h⟩ := hq
    change J _ _ _ _ _ _ _ [vI x10] _ _
    refine J_istore dX11_newSaint_78 (by decide) ?_
    refine J_aload_n dX11_newSaint_80 rfl rfl ?_
    refine J_getI dX11_newSaint_81 ck_11 fw_X11_224 rfl sh_489 ?_
    refine J_if_eq (tgt := 88) dX11_newSaint_84 (by decide) (fun c => ?_) (fun c => ?_)
    · replace h := h.1 c
      refine J_aload_n dX11_newSaint_88 rfl rfl ?_
      refine J_getR dX11_newSaint_89 ck_11 fw_X11_112 rfl sh_489 rr_489_41 ?_
      refine J_iconst dX11_newSaint_92 (ii_c rfl) ?_
      refine J_iload_n dX11_newSaint_93 rfl rfl ?_
      refine J_imulN dX11_newSaint_94 h.1 ?_
      replace h := h.2
      refine J_iload_n dX11_newSaint_95 rfl rfl ?_
      refine J_iast dX11_newSaint_96 sh_522 h.1.1 h.1.2 ?_
      replace h := h.2 _ rfl
      refine J_aload_n dX11_newSaint_97 rfl rfl ?_
      refine J_getR dX11_newSaint_98 ck_11 fw_X11_112 rfl sh_489 rr_489_41 ?_
      refine J_iconst dX11_newSaint_101 (ii_c rfl) ?_
      refine J_iload_n dX11_newSaint_102 rfl rfl ?_
      refine J_imulN dX11_newSaint_103 h.1 ?_
      replace h := h.2
      refine J_iconst dX11_newSaint_104 (ii_c rfl) ?_
      refine J_iaddN dX11_newSaint_105 h.1 ?_
      replace h := h.2
      refine J_iload dX11_newSaint_106 rfl ?_
      refine J_iast dX11_newSaint_108 sh_522 h.1.1 h.1.2 ?_
      replace h := h.2 _ rfl
      refine J_aload_n dX11_newSaint_109 rfl rfl ?_
      refine J_getR dX11_newSaint_110 ck_11 fw_X11_112 rfl sh_489 rr_489_41 ?_
      refine J_iconst dX11_newSaint_113 (ii_c rfl) ?_
      refine J_iload_n dX11_newSaint_114 rfl rfl ?_
      refine J_imulN dX11_newSaint_115 h.1 ?_
      replace h := h.2
      refine J_iconst dX11_newSaint_116 (ii_c rfl) ?_
      refine J_iaddN dX11_newSaint_117 h.1 ?_
      replace h := h.2
      refine J_iload dX11_newSaint_118 rfl ?_
      refine J_iast dX11_newSaint_120 sh_522 h.1.1 h.1.2 ?_
      replace h := h.2 _ rfl
      refine J_aload_n dX11_newSaint_121 rfl rfl ?_
      refine J_getR dX11_newSaint_122 ck_11 fw_X11_112 rfl sh_489 rr_489_41 ?_
      refine J_iconst dX11_newSaint_125 (ii_c rfl) ?_
      refine J_iload_n dX11_newSaint_126 rfl rfl ?_
      refine J_imulN dX11_newSaint_127 h.1 ?_
      replace h := h.2
      refine J_iconst dX11_newSaint_128 (ii_c rfl) ?_
      refine J_iaddN dX11_newSaint_129 h.1 ?_
      replace h := h.2
      refine J_iload dX11_newSaint_130 rfl ?_
      refine J_iast dX11_newSaint_132 sh_522 h.1.1 h.1.2 ?_
      replace h := h.2 _ rfl
      refine J_aload_n dX11_newSaint_133 rfl rfl ?_
      refine J_getR dX11_newSaint_134 ck_11 fw_X11_99 rfl sh_489 rr_489_37 ?_
      refine J_iconst dX11_newSaint_137 (ii_c rfl) ?_
      refine J_dup2 dX11_newSaint_138 rfl rfl ?_
      refine J_iald dX11_newSaint_139 sh_518 (by decide) (by decide) ?_
      refine J_iconst dX11_newSaint_140 (ii_c rfl) ?_
      refine J_iaddN dX11_newSaint_141 h.1 ?_
      replace h := h.2
      refine J_iast dX11_newSaint_142 sh_518 (by decide) (by decide) ?_
      replace h := h _ rfl
      exact J_retv dX11_newSaint_143 rfl h
    · replace h := h.2 c
      exact J_retv dX11_newSaint_87 rfl h
  · replace h := h.2 c
    exact J_retv dX11_newSaint_10 rfl h
set_option maxRecDepth 20000 in
set_option maxHeartbeats 2000000 in
theorem bk_X11_newBalcony_0 {d : Nat} {I : HI} {Q : Option AV → AH → Prop} {a1 : Int}  (h : CI mX11_isFull d [vR 489, vI 3, vI 10, vI a1] I (fun x1 I1 => ((x1 = 0 → (-2147483648 ≤ 4 * (I1 518 3) ∧ 4 * (I1 518 3) ≤ 2147483647) ∧ CV mX11_asks d [vR 489, vR 497] I1 (fun I2 => CI mX11_cornerTold d [vR 489] I2 (fun x3 I3 => ((0 : Int) ≤ (4 * (I1 518 3)) ∧ (4 * (I1 518 3) : Int) < 80) ∧ (∀ I4 : HI, I4 = up I3 523 (4 * (I1 518 3)).toNat x3 → CV mX11_asks d [vR 489, vR 502] I4 (fun I5 => (-2147483648 ≤ (4 * (I1 518 3)) + 1 ∧ (4 * (I1 518 3)) + 1 ≤ 2147483647) ∧ CI mX11_number d [vR 489, vI 0, vI 999] I5 (fun x5 I6 => ((0 : Int) ≤ ((4 * (I1 518 3)) + 1) ∧ ((4 * (I1 518 3)) + 1 : Int) < 80) ∧ (∀ I7 : HI, I7 = up I6 523 ((4 * (I1 518 3)) + 1).toNat x5 → CV mX11_asks d [vR 489, vR 503] I7 (fun I8 => (-2147483648 ≤ (4 * (I1 518 3)) + 2 ∧ (4 * (I1 518 3)) + 2 ≤ 2147483647) ∧ (-2147483648 ≤ (4 * (I1 518 3)) + 1 ∧ (4 * (I1 518 3)) + 1 ≤ 2147483647) ∧ ((0 : Int) ≤ ((4 * (I1 518 3)) + 1) ∧ ((4 * (I1 518 3)) + 1 : Int) < 80) ∧ CI mX11_number d [vR 489, vI (I8 523 ((4 * (I1 518 3)) + 1).toNat), vI 999] I8 (fun x7 I9 => ((0 : Int) ≤ ((4 * (I1 518 3)) + 2) ∧ ((4 * (I1 518 3)) + 2 : Int) < 80) ∧ (∀ I10 : HI, I10 = up I9 523 ((4 * (I1 518 3)) + 2).toNat x7 → CV mX11_asks d [vR 489, vR 504] I10 (fun I11 => (-2147483648 ≤ (4 * (I1 518 3)) + 3 ∧ (4 * (I1 518 3)) + 3 ≤ 2147483647) ∧ CI mX11_number d [vR 489, vI 1, vI 99] I11 (fun x9 I12 => ((0 : Int) ≤ ((4 * (I1 518 3)) + 3) ∧ ((4 * (I1 518 3)) + 3 : Int) < 80) ∧ (∀ I13 : HI, I13 = up I12 523 ((4 * (I1 518 3)) + 3).toNat x9 → (((I13 489 5) ≠ 0 → Q none (mk I13)) ∧ ((I13 489 5) = 0 → (-2147483648 ≤ (I13 518 3) + 1 ∧ (I13 518 3) + 1 ≤ 2147483647) ∧ (∀ I14 : HI, I14 = up I13 518 3 ((I13 518 3) + 1) → Q none (mk I14))))))))))))))))) ∧ (¬ (x1 = 0) → Q none (mk I1))))) : J none mX11_newBalcony (d + 1) 0 0 0 [(0, vR 489), (1, vI a1)] [] (mk I) Q := by
  refine J_aload_n dX11_newBalcony_0 rfl rfl ?_
  refine J_iconst dX11_newBalcony_1 (ii_c rfl) ?_
  refine J_bipush dX11_newBalcony_2 (ii_c rfl) (by decide) ?_
  refine J_iload_n dX11_newBalcony_4 rfl rfl ?_
  refine J_callV (as := [_, _, _]) (mc1 := 0) (ms1 := 0) (mc := 0) (ms := 0) dX11_newBalcony_5 mv_X11_isFull lk_X11_287 sh_489 rfl (Nat.le_of_ble_eq_true rfl) (Nat.le_of_ble_eq_true rfl) h (fun r σ hq _ => ?_)
  obtain ⟨x1, I1, rfl, rfl, h⟩ := hq
  change J _ _ _ _ _ _ _ [vI x1] _ _
  refine J_if_eq (tgt := 12) dX11_newBalcony_8 (by decide) (fun c => ?_) (fun c => ?_)
  · replace h := h.1 c
    refine J_iconst dX11_newBalcony_12 (ii_c rfl) ?_
    refine J_aload_n dX11_newBalcony_13 rfl rfl ?_
    refine J_getR dX11_newBalcony_14 ck_11 fw_X11_99 rfl sh_489 rr_489_37 ?_
    refine J_iconst dX11_newBalcony_17 (ii_c rfl) ?_
    refine J_iald dX11_newBalcony_18 sh_518 (by decide) (by decide) ?_
    refine J_imulN dX11_newBalcony_19 h.1 ?_
    replace h := h.2
    refine J_istore_n dX11_newBalcony_20 rfl (by decide) ?_
    refine J_aload_n dX11_newBalcony_21 rfl rfl ?_
    refine J_aload_n dX11_newBalcony_22 rfl rfl ?_
    refine J_getR dX11_newBalcony_23 ck_11 fw_X11_36 rfl sh_489 rr_489_15 ?_
    refine J_callV (as := [_]) (mc1 := 0) (ms1 := 0) (mc := 0) (ms := 0) dX11_newBalcony_26 mv_X11_asks lk_X11_295 sh_489 rfl (Nat.le_of_ble_eq_true rfl) (Nat.le_of_ble_eq_true rfl) h (fun r σ hq _ => ?_)
    obtain ⟨I2, rfl, rfl, h⟩ := hq
    change J _ _ _ _ _ _ _ [] _ _
    refine J_aload_n dX11_newBalcony_29 rfl rfl ?_
    refine J_getR dX11_newBalcony_30 ck_11 fw_X11_115 rfl sh_489 rr_489_42 ?_
    refine J_iload_n dX11_newBalcony_33 rfl rfl ?_
    refine J_aload_n dX11_newBalcony_34 rfl rfl ?_
    refine J_callV (as := []) (mc1 := 0) (ms1 := 0) (mc := 0) (ms := 0) dX11_newBalcony_35 mv_X11_cornerTold lk_X11_303 sh_489 rfl (Nat.le_of_ble_eq_true rfl) (Nat.le_of_ble_eq_true rfl) h (fun r σ hq _ => ?_)
    obtain ⟨x3, I3, rfl, rfl, h⟩ := hq
    change J _ _ _ _ _ _ _ [vI x3, vI (4 * (I1 518 3)), vR 523] _ _
    refine J_iast dX11_newBalcony_38 sh_523 h.1.1 h.1.2 ?_
    replace h := h.2 _ rfl
    refine J_aload_n dX11_newBalcony_39 rfl rfl ?_
    refine J_aload_n dX11_newBalcony_40 rfl rfl ?_
    refine J_getR dX11_newBalcony_41 ck_11 fw_X11_51 rfl sh_489 rr_489_20 ?_
    refine J_callV (as := [_]) (mc1 := 0) (ms1 := 0) (mc := 0) (ms := 0) dX11_newBalcony_44 mv_X11_asks lk_X11_295 sh_489 rfl (Nat.le_of_ble_eq_true rfl) (Nat.le_of_ble_eq_true rfl) h (fun r σ hq _ => ?_)
    obtain ⟨I5, rfl, rfl, h⟩ := hq
    change J _ _ _ _ _ _ _ [] _ _
    refine J_aload_n dX11_newBalcony_47 rfl rfl ?_
    refine J_getR dX11_newBalcony_48 ck_11 fw_X11_115 rfl sh_489 rr_489_42 ?_
    refine J_iload_n dX11_newBalcony_51 rfl rfl ?_
    refine J_iconst dX11_newBalcony_52 (ii_c rfl) ?_
    refine J_iaddN dX11_newBalcony_53 h.1 ?_
    replace h := h.2
    refine J_aload_n dX11_newBalcony_54 rfl rfl ?_
    refine J_iconst dX11_newBalcony_55 (ii_c rfl) ?_
    refine J_sipush dX11_newBalcony_56 (ii_c rfl) (by decide) ?_
    refine J_callV (as := [_, _]) (mc1 := 0) (ms1 := 0) (mc := 0) (ms := 0) dX11_newBalcony_59 mv_X11_number lk_X11_299 sh_489 rfl (Nat.le_of_ble_eq_true rfl) (Nat.le_of_ble_eq_true rfl) h (fun r σ hq _ => ?_)
    obtain ⟨x5, I6, rfl, rfl, h⟩ := hq
    change J _ _ _ _ _ _ _ [vI x5, vI ((4 * (I1 518 3)) + 1), vR 523] _ _
    refine J_iast dX11_newBalcony_62 sh_523 h.1.1 h.1.2 ?_
    replace h := h.2 _ rfl
    refine J_aload_n dX11_newBalcony_63 rfl rfl ?_
    refine J_aload_n dX11_newBalcony_64 rfl rfl ?_
    refine J_getR dX11_newBalcony_65 ck_11 fw_X11_54 rfl sh_489 rr_489_21 ?_
    refine J_callV (as := [_]) (mc1 := 0) (ms1 := 0) (mc := 0) (ms := 0) dX11_newBalcony_68 mv_X11_asks lk_X11_295 sh_489 rfl (Nat.le_of_ble_eq_true rfl) (Nat.le_of_ble_eq_true rfl) h (fun r σ hq _ => ?_)
    obtain ⟨I8, rfl, rfl, h⟩ := hq
    change J _ _ _ _ _ _ _ [] _ _
    refine J_aload_n dX11_newBalcony_71 rfl rfl ?_
    refine J_getR dX11_newBalcony_72 ck_11 fw_X11_115 rfl sh_489 rr_489_42 ?_
    refine J_iload_n dX11_newBalcony_75 rfl rfl ?_
    refine J_iconst dX11_newBalcony_76 (ii_c rfl) ?_
    refine J_iaddN dX11_newBalcony_77 h.1 ?_
    replace h := h.2
    refine J_aload_n dX11_newBalcony_78 rfl rfl ?_
    refine J_aload_n dX11_newBalcony_79 rfl rfl ?_
    refine J_getR dX11_newBalcony_80 ck_11 fw_X11_115 rfl sh_489 rr_489_42 ?_
    refine J_iload_n dX11_newBalcony_83 rfl rfl ?_
    refine J_iconst dX11_newBalcony_84 (ii_c rfl) ?_
    refine J_iaddN dX11_newBalcony_85 h.1 ?_
    replace h := h.2
    refine J_iald dX11_newBalcony_86 sh_523 h.1.1 h.1.2 ?_
    replace h := h.2
    refine J_sipush dX11_newBalcony_87 (ii_c rfl) (by decide) ?_
    refine J_callV (as := [_, _]) (mc1 := 0) (ms1 := 0) (mc := 0) (ms := 0) dX11_newBalcony_90 mv_X11_number lk_X11_299 sh_489 rfl (Nat.le_of_ble_eq_true rfl) (Nat.le_of_ble_eq_true rfl) h (fun r σ hq _ => ?_)
    obtain ⟨x7, I9, rfl, rfl, h⟩ := hq
    change J _ _ _ _ _ _ _ [vI x7, vI ((4 * (I1 518 3)) + 2), vR 523] _ _
    refine J_iast dX11_newBalcony_93 sh_523 h.1.1 h.1.2 ?_
    replace h := h.2 _ rfl
    refine J_aload_n dX11_newBalcony_94 rfl rfl ?_
    refine J_aload_n dX11_newBalcony_95 rfl rfl ?_
    refine J_getR dX11_newBalcony_96 ck_11 fw_X11_57 rfl sh_489 rr_489_22 ?_
    refine J_callV (as := [_]) (mc1 := 0) (ms1 := 0) (mc := 0) (ms := 0) dX11_newBalcony_99 mv_X11_asks lk_X11_295 sh_489 rfl (Nat.le_of_ble_eq_true rfl) (Nat.le_of_ble_eq_true rfl) h (fun r σ hq _ => ?_)
    obtain ⟨I11, rfl, rfl, h⟩ := hq
    change J _ _ _ _ _ _ _ [] _ _
    refine J_aload_n dX11_newBalcony_102 rfl rfl ?_
    refine J_getR dX11_newBalcony_103 ck_11 fw_X11_115 rfl sh_489 rr_489_42 ?_
    refine J_iload_n dX11_newBalcony_106 rfl rfl ?_
    refine J_iconst dX11_newBalcony_107 (ii_c rfl) ?_
    refine J_iaddN dX11_newBalcony_108 h.1 ?_
    replace h := h.2
    refine J_aload_n dX11_newBalcony_109 rfl rfl ?_
    refine J_iconst dX11_newBalcony_110 (ii_c rfl) ?_
    refine J_bipush dX11_newBalcony_111 (ii_c rfl) (by decide) ?_
    refine J_callV (as := [_, _]) (mc1 := 0) (ms1 := 0) (mc := 0) (ms := 0) dX11_newBalcony_113 mv_X11_number lk_X11_299 sh_489 rfl (Nat.le_of_ble_eq_true rfl) (Nat.le_of_ble_eq_true rfl) h (fun r σ hq _ => ?_)
    obtain ⟨x9, I12, rfl, rfl, h⟩ := hq
    change J _ _ _ _ _ _ _ [vI x9, vI ((4 * (I1 518 3)) + 3), vR 523] _ _
    refine J_iast dX11_newBalcony_116 sh_523 h.1.1 h.1.2 ?_
    replace h := h.2 _ rfl
    refine J_aload_n dX11_newBalcony_117 rfl rfl ?_
    refine J_getI dX11_newBalcony_118 ck_11 fw_X11_224 rfl sh_489 ?_
    refine J_if_ne (tgt := 134) dX11_newBalcony_121 (by decide) (fun c => ?_) (fun c => ?_)
    · replace h := h.1 c
      exact J_retv dX11_newBalcony_134 rfl h
    · replace h := h.2 c
      refine J_aload_n dX11_newBalcony_124 rfl rfl ?_
      refine J_getR dX11_newBalcony_125 ck_11 fw_X11_99 rfl sh_489 rr_489_37 ?_
      refine J_iconst dX11_newBalcony_128 (ii_c rfl) ?_
      refine J_dup2 dX11_newBalcony_129 rfl rfl ?_
      refine J_iald dX11_newBalcony_130 sh_518 (by decide) (by decide) ?_
      refine J_iconst dX11_newBalcony_131 (ii_c rfl) ?_
      refine J_iaddN dX11_newBalcony_132 h.1 ?_
      replace h := h.2
      refine J_iast dX11_newBalcony_133 sh_518 (by decide) (by decide) ?_
      replace h := h _ rfl
      exact J_retv dX11_newBalcony_134 rfl h
  · replace h := h.2 c
    exact J_retv dX11_newBalcony_11 rfl h
set_option maxRecDepth 20000 in
set_option maxHeartbeats 2000000 in
theorem bk_X11_wordsIn_0 {d : Nat} {I : HI} {Q : Option AV → AH → Prop} {a1 : Int} {a2 : Int}  (h : J none mX11_wordsIn (d + 1) 0 0 5 [(0, vR 489), (1, vI a1), (2, vI a2), (3, vI 0), (4, vI a1)] [] (mk I) Q) : J none mX11_wordsIn (d + 1) 0 0 0 [(0, vR 489), (1, vI a1), (2, vI a2)] [] (mk I) Q := by
  refine J_iconst dX11_wordsIn_0 (ii_c rfl) ?_
  refine J_istore_n dX11_wordsIn_1 rfl (by decide) ?_
  refine J_iload_n dX11_wordsIn_2 rfl rfl ?_
  refine J_istore dX11_wordsIn_3 (by decide) ?_
  exact h
set_option maxRecDepth 20000 in
set_option maxHeartbeats 2000000 in
theorem bk_X11_wordsIn_5 {d : Nat} {I : HI} {Q : Option AV → AH → Prop} {a1 : Int} {a2 : Int} {a3 : Int} {a4 : Int}  (h : ((a2 ≤ a4 → Q (some (vI a3)) (mk I)) ∧ (¬ (a2 ≤ a4) → ((0 : Int) ≤ a4 ∧ (a4 : Int) < 1600) ∧ CI mX11_isLetter d [vI (I 490 a4.toNat)] I (fun x1 I1 => ((x1 ≠ 0 → ((a4 = a1 → (-2147483648 ≤ a3 + 1 ∧ a3 + 1 ≤ 2147483647) ∧ (-2147483648 ≤ a4 + 1 ∧ a4 + 1 ≤ 2147483647) ∧ J none mX11_wordsIn (d + 1) 0 0 5 [(0, vR 489), (1, vI a1), (2, vI a2), (3, vI (a3 + 1)), (4, vI (a4 + 1))] [] (mk I1) Q) ∧ (¬ (a4 = a1) → (-2147483648 ≤ a4 - 1 ∧ a4 - 1 ≤ 2147483647) ∧ ((0 : Int) ≤ (a4 - 1) ∧ (a4 - 1 : Int) < 1600) ∧ CI mX11_isLetter d [vI (I1 490 (a4 - 1).toNat)] I1 (fun x2 I2 => ((x2 ≠ 0 → (-2147483648 ≤ a4 + 1 ∧ a4 + 1 ≤ 2147483647) ∧ J none mX11_wordsIn (d + 1) 0 0 5 [(0, vR 489), (1, vI a1), (2, vI a2), (3, vI a3), (4, vI (a4 + 1))] [] (mk I2) Q) ∧ (x2 = 0 → (-2147483648 ≤ a4 - 1 ∧ a4 - 1 ≤ 2147483647) ∧ ((0 : Int) ≤ (a4 - 1) ∧ (a4 - 1 : Int) < 1600) ∧ CI mX11_isDigit d [vI (I2 490 (a4 - 1).toNat)] I2 (fun x3 I3 => ((x3 ≠ 0 → (-2147483648 ≤ a4 + 1 ∧ a4 + 1 ≤ 2147483647) ∧ J none mX11_wordsIn (d + 1) 0 0 5 [(0, vR 489), (1, vI a1), (2, vI a2), (3, vI a3), (4, vI (a4 + 1))] [] (mk I3) Q) ∧ (x3 = 0 → (-2147483648 ≤ a3 + 1 ∧ a3 + 1 ≤ 2147483647) ∧ (-2147483648 ≤ a4 + 1 ∧ a4 + 1 ≤ 2147483647) ∧ J none mX11_wordsIn (d + 1) 0 0 5 [(0, vR 489), (1, vI a1), (2, vI a2), (3, vI (a3 + 1)), (4, vI (a4 + 1))] [] (mk I3) Q))))))))) ∧ (x1 = 0 → ((0 : Int) ≤ a4 ∧ (a4 : Int) < 1600) ∧ CI mX11_isDigit d [vI (I1 490 a4.toNat)] I1 (fun x4 I4 => ((x4 = 0 → (-2147483648 ≤ a4 + 1 ∧ a4 + 1 ≤ 2147483647) ∧ J none mX11_wordsIn (d + 1) 0 0 5 [(0, vR 489), (1, vI a1), (2, vI a2), (3, vI a3), (4, vI (a4 + 1))] [] (mk I4) Q) ∧ (¬ (x4 = 0) → ((a4 = a1 → (-2147483648 ≤ a3 + 1 ∧ a3 + 1 ≤ 2147483647) ∧ (-2147483648 ≤ a4 + 1 ∧ a4 + 1 ≤ 2147483647) ∧ J none mX11_wordsIn (d + 1) 0 0 5 [(0, vR 489), (1, vI a1), (2, vI a2), (3, vI (a3 + 1)), (4, vI (a4 + 1))] [] (mk I4) Q) ∧ (¬ (a4 = a1) → (-2147483648 ≤ a4 - 1 ∧ a4 - 1 ≤ 2147483647) ∧ ((0 : Int) ≤ (a4 - 1) ∧ (a4 - 1 : Int) < 1600) ∧ CI mX11_isLetter d [vI (I4 490 (a4 - 1).toNat)] I4 (fun x5 I5 => ((x5 ≠ 0 → (-2147483648 ≤ a4 + 1 ∧ a4 + 1 ≤ 2147483647) ∧ J none mX11_wordsIn (d + 1) 0 0 5 [(0, vR 489), (1, vI a1), (2, vI a2), (3, vI a3), (4, vI (a4 + 1))] [] (mk I5) Q) ∧ (x5 = 0 → (-2147483648 ≤ a4 - 1 ∧ a4 - 1 ≤ 2147483647) ∧ ((0 : Int) ≤ (a4 - 1) ∧ (a4 - 1 : Int) < 1600) ∧ CI mX11_isDigit d [vI (I5 490 (a4 - 1).toNat)] I5 (fun x6 I6 => ((x6 ≠ 0 → (-2147483648 ≤ a4 + 1 ∧ a4 + 1 ≤ 2147483647) ∧ J none mX11_wordsIn (d + 1) 0 0 5 [(0, vR 489), (1, vI a1), (2, vI a2), (3, vI a3), (4, vI (a4 + 1))] [] (mk I6) Q) ∧ (x6 = 0 → (-2147483648 ≤ a3 + 1 ∧ a3 + 1 ≤ 2147483647) ∧ (-2147483648 ≤ a4 + 1 ∧ a4 + 1 ≤ 2147483647) ∧ J none mX11_wordsIn (d + 1) 0 0 5 [(0, vR 489), (1, vI a1), (2, vI a2), (3, vI (a3 + 1)), (4, vI (a4 + 1))] [] (mk I6) Q))))))))))))))))) : J none mX11_wordsIn (d + 1) 0 0 5 [(0, vR 489), (1, vI a1), (2, vI a2), (3, vI a3), (4, vI a4)] [] (mk I) Q := by
  refine J_iload dX11_wordsIn_5 rfl ?_
  refine J_iload_n dX11_wordsIn_7 rfl rfl ?_
  refine J_ic_ge (tgt := 94) dX11_wordsIn_8 (by decide) (fun c => ?_) (fun c => ?_)
  · replace h := h.1 c
    refine J_iload_n dX11_wordsIn_94 rfl rfl ?_
    exact J_reti dX11_wordsIn_95 rfl h
  · replace h := h.2 c
    refine J_aload_n dX11_wordsIn_11 rfl rfl ?_
    refine J_getR dX11_wordsIn_12 ck_11 fw_X11_7 rfl sh_489 rr_489_0 ?_
    refine J_iload dX11_wordsIn_15 rfl ?_
    refine J_iald dX11_wordsIn_17 sh_490 h.1.1 h.1.2 ?_
    replace h := h.2
    refine J_callS (as := [_]) (mc1 := 0) (ms1 := 0) (mc := 0) (ms := 0) dX11_wordsIn_18 ms_X11_isLetter lk_X11_240 rfl (Nat.le_of_ble_eq_true rfl) (Nat.le_of_ble_eq_true rfl) h (fun r σ hq _ => ?_)
    obtain ⟨x1, I1, rfl, rfl, h⟩ := hq
    change J _ _ _ _ _ _ _ [vI x1] _ _
    refine J_if_ne (tgt := 37) dX11_wordsIn_21 (by decide) (fun c => ?_) (fun c => ?_)
    · replace h := h.1 c
      refine J_iconst dX11_wordsIn_37 (ii_c rfl) ?_
      refine J_goto (tgt := 42) dX11_wordsIn_38 (by decide) ?_
      refine J_istore dX11_wordsIn_42 (by decide) ?_
      refine J_iload dX11_wordsIn_44 rfl ?_
      refine J_if_eq (tgt := 88) dX11_wordsIn_46 (by decide) (fun c => absurd c (by decide)) (fun _ => ?_)
      refine J_iload dX11_wordsIn_49 rfl ?_
      refine J_iload_n dX11_wordsIn_51 rfl rfl ?_
      refine J_ic_eq (tgt := 85) dX11_wordsIn_52 (by decide) (fun c => ?_) (fun c => ?_)
      · replace h := h.1 c
        refine J_iincN dX11_wordsIn_85 rfl (by decide) h.1 ?_
        replace h := h.2
        refine J_iincN dX11_wordsIn_88 rfl (by decide) h.1 ?_
        replace h := h.2
        refine J_goto (tgt := 5) dX11_wordsIn_91 (by decide) ?_
        exact J_loc (ls_sub [0, 1, 2, 3, 4] rfl) h
      · replace h := h.2 c
        refine J_aload_n dX11_wordsIn_55 rfl rfl ?_
        refine J_getR dX11_wordsIn_56 ck_11 fw_X11_7 rfl sh_489 rr_489_0 ?_
        refine J_iload dX11_wordsIn_59 rfl ?_
        refine J_iconst dX11_wordsIn_61 (ii_c rfl) ?_
        refine J_isubN dX11_wordsIn_62 h.1 ?_
        replace h := h.2
        refine J_iald dX11_wordsIn_63 sh_490 h.1.1 h.1.2 ?_
        replace h := h.2
        refine J_callS (as := [_]) (mc1 := 0) (ms1 := 0) (mc := 0) (ms := 0) dX11_wordsIn_64 ms_X11_isLetter lk_X11_240 rfl (Nat.le_of_ble_eq_true rfl) (Nat.le_of_ble_eq_true rfl) h (fun r σ hq _ => ?_)
        obtain ⟨x2, I2, rfl, rfl, h⟩ := hq
        change J _ _ _ _ _ _ _ [vI x2] _ _
        refine J_if_ne (tgt := 88) dX11_wordsIn_67 (by decide) (fun c => ?_) (fun c => ?_)
        · replace h := h.1 c
          refine J_iincN dX11_wordsIn_88 rfl (by decide) h.1 ?_
          replace h := h.2
          refine J_goto (tgt := 5) dX11_wordsIn_91 (by decide) ?_
          exact J_loc (ls_sub [0, 1, 2, 3, 4] rfl) h
        · replace h := h.2 c
          refine J_aload_n dX11_wordsIn_70 rfl rfl ?_
          refine J_getR dX11_wordsIn_71 ck_11 fw_X11_7 rfl sh_489 rr_489_0 ?_
          refine J_iload dX11_wordsIn_74 rfl ?_
          refine J_iconst dX11_wordsIn_76 (ii_c rfl) ?_
          refine J_isubN dX11_wordsIn_77 h.1 ?_
          replace h := h.2
          refine J_iald dX11_wordsIn_78 sh_490 h.1.1 h.1.2 ?_
          replace h := h.2
          refine J_callS (as := [_]) (mc1 := 0) (ms1 := 0) (mc := 0) (ms := 0) dX11_wordsIn_79 ms_X11_isDigit lk_X11_261 rfl (Nat.le_of_ble_eq_true rfl) (Nat.le_of_ble_eq_true rfl) h (fun r σ hq _ => ?_)
          obtain ⟨x3, I3, rfl, rfl, h⟩ := hq
          change J _ _ _ _ _ _ _ [vI x3] _ _
          refine J_if_ne (tgt := 88) dX11_wordsIn_82 (by decide) (fun c => ?_) (fun c => ?_)
          · replace h := h.1 c
            refine J_iincN dX11_wordsIn_88 rfl (by decide) h.1 ?_
            replace h := h.2
            refine J_goto (tgt := 5) dX11_wordsIn_91 (by decide) ?_
            exact J_loc (ls_sub [0, 1, 2, 3, 4] rfl) h
          · replace h := h.2 c
            refine J_iincN dX11_wordsIn_85 rfl (by decide) h.1 ?_
            replace h := h.2
            refine J_iincN dX11_wordsIn_88 rfl (by decide) h.1 ?_
            replace h := h.2
            refine J_goto (tgt := 5) dX11_wordsIn_91 (by decide) ?_
            exact J_loc (ls_sub [0, 1, 2, 3, 4] rfl) h
    · replace h := h.2 c
      refine J_aload_n dX11_wordsIn_24 rfl rfl ?_
      refine J_getR dX11_wordsIn_25 ck_11 fw_X11_7 rfl sh_489 rr_489_0 ?_
      refine J_iload dX11_wordsIn_28 rfl ?_
      refine J_iald dX11_wordsIn_30 sh_490 h.1.1 h.1.2 ?_
      replace h := h.2
      refine J_callS (as := [_]) (mc1 := 0) (ms1 := 0) (mc := 0) (ms := 0) dX11_wordsIn_31 ms_X11_isDigit lk_X11_261 rfl (Nat.le_of_ble_eq_true rfl) (Nat.le_of_ble_eq_true rfl) h (fun r σ hq _ => ?_)
      obtain ⟨x4, I4, rfl, rfl, h⟩ := hq
      change J _ _ _ _ _ _ _ [vI x4] _ _
      refine J_if_eq (tgt := 41) dX11_wordsIn_34 (by decide) (fun c => ?_) (fun c => ?_)
      · replace h := h.1 c
        refine J_iconst dX11_wordsIn_41 (ii_c rfl) ?_
        refine J_istore dX11_wordsIn_42 (by decide) ?_
        refine J_iload dX11_wordsIn_44 rfl ?_
        refine J_if_eq (tgt := 88) dX11_wordsIn_46 (by decide) (fun _ => ?_) (fun c => absurd (by decide) c)
        refine J_iincN dX11_wordsIn_88 rfl (by decide) h.1 ?_
        replace h := h.2
        refine J_goto (tgt := 5) dX11_wordsIn_91 (by decide) ?_
        exact J_loc (ls_sub [0, 1, 2, 3, 4] rfl) h
      · replace h := h.2 c
        refine J_iconst dX11_wordsIn_37 (ii_c rfl) ?_
        refine J_goto (tgt := 42) dX11_wordsIn_38 (by decide) ?_
        refine J_istore dX11_wordsIn_42 (by decide) ?_
        refine J_iload dX11_wordsIn_44 rfl ?_
        refine J_if_eq (tgt := 88) dX11_wordsIn_46 (by decide) (fun c => absurd c (by decide)) (fun _ => ?_)
        refine J_iload dX11_wordsIn_49 rfl ?_
        refine J_iload_n dX11_wordsIn_51 rfl rfl ?_
        refine J_ic_eq (tgt := 85) dX11_wordsIn_52 (by decide) (fun c => ?_) (fun c => ?_)
        · replace h := h.1 c
          refine J_iincN dX11_wordsIn_85 rfl (by decide) h.1 ?_
          replace h := h.2
          refine J_iincN dX11_wordsIn_88 rfl (by decide) h.1 ?_
          replace h := h.2
          refine J_goto (tgt := 5) dX11_wordsIn_91 (by decide) ?_
          exact J_loc (ls_sub [0, 1, 2, 3, 4] rfl) h
        · replace h := h.2 c
          refine J_aload_n dX11_wordsIn_55 rfl rfl ?_
          refine J_getR dX11_wordsIn_56 ck_11 fw_X11_7 rfl sh_489 rr_489_0 ?_
          refine J_iload dX11_wordsIn_59 rfl ?_
          refine J_iconst dX11_wordsIn_61 (ii_c rfl) ?_
          refine J_isubN dX11_wordsIn_62 h.1 ?_
          replace h := h.2
          refine J_iald dX11_wordsIn_63 sh_490 h.1.1 h.1.2 ?_
          replace h := h.2
          refine J_callS (as := [_]) (mc1 := 0) (ms1 := 0) (mc := 0) (ms := 0) dX11_wordsIn_64 ms_X11_isLetter lk_X11_240 rfl (Nat.le_of_ble_eq_true rfl) (Nat.le_of_ble_eq_true rfl) h (fun r σ hq _ => ?_)
          obtain ⟨x5, I5, rfl, rfl, h⟩ := hq
          change J _ _ _ _ _ _ _ [vI x5] _ _
          refine J_if_ne (tgt := 88) dX11_wordsIn_67 (by decide) (fun c => ?_) (fun c => ?_)
          · replace h := h.1 c
            refine J_iincN dX11_wordsIn_88 rfl (by decide) h.1 ?_
            replace h := h.2
            refine J_goto (tgt := 5) dX11_wordsIn_91 (by decide) ?_
            exact J_loc (ls_sub [0, 1, 2, 3, 4] rfl) h
          · replace h := h.2 c
            refine J_aload_n dX11_wordsIn_70 rfl rfl ?_
            refine J_getR dX11_wordsIn_71 ck_11 fw_X11_7 rfl sh_489 rr_489_0 ?_
            refine J_iload dX11_wordsIn_74 rfl ?_
            refine J_iconst dX11_wordsIn_76 (ii_c rfl) ?_
            refine J_isubN dX11_wordsIn_77 h.1 ?_
            replace h := h.2
            refine J_iald dX11_wordsIn_78 sh_490 h.1.1 h.1.2 ?_
            replace h := h.2
            refine J_callS (as := [_]) (mc1 := 0) (ms1 := 0) (mc := 0) (ms := 0) dX11_wordsIn_79 ms_X11_isDigit lk_X11_261 rfl (Nat.le_of_ble_eq_true rfl) (Nat.le_of_ble_eq_true rfl) h (fun r σ hq _ => ?_)
            obtain ⟨x6, I6, rfl, rfl, h⟩ := hq
            change J _ _ _ _ _ _ _ [vI x6] _ _
            refine J_if_ne (tgt := 88) dX11_wordsIn_82 (by decide) (fun c => ?_) (fun c => ?_)
            · replace h := h.1 c
              refine J_iincN dX11_wordsIn_88 rfl (by decide) h.1 ?_
              replace h := h.2
              refine J_goto (tgt := 5) dX11_wordsIn_91 (by decide) ?_
              exact J_loc (ls_sub [0, 1, 2, 3, 4] rfl) h
            · replace h := h.2 c
              refine J_iincN dX11_wordsIn_85 rfl (by decide) h.1 ?_
              replace h := h.2
              refine J_iincN dX11_wordsIn_88 rfl (by decide) h.1 ?_
              replace h := h.2
              refine J_goto (tgt := 5) dX11_wordsIn_91 (by decide) ?_
              exact J_loc (ls_sub [0, 1, 2, 3, 4] rfl) h
set_option maxRecDepth 20000 in
set_option maxHeartbeats 2000000 in
theorem bk_X11_newException_0 {d : Nat} {I : HI} {Q : Option AV → AH → Prop} {a1 : Int}  (h : CI mX11_isFull d [vR 489, vI 4, vI 6, vI a1] I (fun x1 I1 => ((x1 = 0 → ((0 : Int) ≤ (I1 518 4) ∧ (I1 518 4 : Int) < 12) ∧ (∀ I2 : HI, I2 = up I1 526 (I1 518 4).toNat (I1 489 47) → (∀ I3 : HI, I3 = up I2 489 49 0 → (∀ I4 : HI, I4 = up I3 489 50 0 → (∀ I5 : HI, I5 = up I4 489 54 0 → CV mX11_test d [vR 489] I5 (fun I6 => ((0 : Int) ≤ (I1 518 4) ∧ (I1 518 4 : Int) < 12) ∧ (∀ I7 : HI, I7 = up I6 527 (I1 518 4).toNat (I6 489 47) → CI mX11_wordsIn d [vR 489, vI (I1 489 2), vI (I7 489 2)] I7 (fun x3 I8 => ((0 : Int) ≤ (I1 518 4) ∧ (I1 518 4 : Int) < 12) ∧ (∀ I9 : HI, I9 = up I8 528 (I1 518 4).toNat x3 → (-2147483648 ≤ (I9 518 4) + 1 ∧ (I9 518 4) + 1 ≤ 2147483647) ∧ (∀ I10 : HI, I10 = up I9 518 4 ((I9 518 4) + 1) → Q none (mk I10))))))))))) ∧ (¬ (x1 = 0) → Q none (mk I1))))) : J none mX11_newException (d + 1) 0 0 0 [(0, vR 489), (1, vI a1)] [] (mk I) Q := by
  refine J_aload_n dX11_newException_0 rfl rfl ?_
  refine J_iconst dX11_newException_1 (ii_c rfl) ?_
  refine J_bipush dX11_newException_2 (ii_c rfl) (by decide) ?_
  refine J_iload_n dX11_newException_4 rfl rfl ?_
  refine J_callV (as := [_, _, _]) (mc1 := 0) (ms1 := 0) (mc := 0) (ms := 0) dX11_newException_5 mv_X11_isFull lk_X11_287 sh_489 rfl (Nat.le_of_ble_eq_true rfl) (Nat.le_of_ble_eq_true rfl) h (fun r σ hq _ => ?_)
  obtain ⟨x1, I1, rfl, rfl, h⟩ := hq
  change J _ _ _ _ _ _ _ [vI x1] _ _
  refine J_if_eq (tgt := 12) dX11_newException_8 (by decide) (fun c => ?_) (fun c => ?_)
  · replace h := h.1 c
    refine J_aload_n dX11_newException_12 rfl rfl ?_
    refine J_getR dX11_newException_13 ck_11 fw_X11_99 rfl sh_489 rr_489_37 ?_
    refine J_iconst dX11_newException_16 (ii_c rfl) ?_
    refine J_iald dX11_newException_17 sh_518 (by decide) (by decide) ?_
    refine J_istore_n dX11_newException_18 rfl (by decide) ?_
    refine J_aload_n dX11_newException_19 rfl rfl ?_
    refine J_getI dX11_newException_20 ck_11 fw_X11_230 rfl sh_489 ?_
    refine J_istore_n dX11_newException_23 rfl (by decide) ?_
    refine J_aload_n dX11_newException_24 rfl rfl ?_
    refine J_getR dX11_newException_25 ck_11 fw_X11_127 rfl sh_489 rr_489_51 ?_
    refine J_iload_n dX11_newException_28 rfl rfl ?_
    refine J_aload_n dX11_newException_29 rfl rfl ?_
    refine J_getI dX11_newException_30 ck_11 fw_X11_306 rfl sh_489 ?_
    refine J_iast dX11_newException_33 sh_526 h.1.1 h.1.2 ?_
    replace h := h.2 _ rfl
    refine J_aload_n dX11_newException_34 rfl rfl ?_
    refine J_iconst dX11_newException_35 (ii_c rfl) ?_
    refine J_putI dX11_newException_36 ck_11 fw_X11_309 rfl rfl (Or.inl rfl) sh_489 ?_
    replace h := h _ rfl
    refine J_aload_n dX11_newException_39 rfl rfl ?_
    refine J_iconst dX11_newException_40 (ii_c rfl) ?_
    refine J_putI dX11_newException_41 ck_11 fw_X11_312 rfl rfl (Or.inl rfl) sh_489 ?_
    replace h := h _ rfl
    refine J_aload_n dX11_newException_44 rfl rfl ?_
    refine J_iconst dX11_newException_45 (ii_c rfl) ?_
    refine J_putI dX11_newException_46 ck_11 fw_X11_315 rfl rfl (Or.inl rfl) sh_489 ?_
    replace h := h _ rfl
    refine J_aload_n dX11_newException_49 rfl rfl ?_
    refine J_callV (as := []) (mc1 := 0) (ms1 := 0) (mc := 0) (ms := 0) dX11_newException_50 mv_X11_test lk_X11_318 sh_489 rfl (Nat.le_of_ble_eq_true rfl) (Nat.le_of_ble_eq_true rfl) h (fun r σ hq _ => ?_)
    obtain ⟨I6, rfl, rfl, h⟩ := hq
    change J _ _ _ _ _ _ _ [] _ _
    refine J_aload_n dX11_newException_53 rfl rfl ?_
    refine J_getR dX11_newException_54 ck_11 fw_X11_130 rfl sh_489 rr_489_52 ?_
    refine J_iload_n dX11_newException_57 rfl rfl ?_
    refine J_aload_n dX11_newException_58 rfl rfl ?_
    refine J_getI dX11_newException_59 ck_11 fw_X11_306 rfl sh_489 ?_
    refine J_iast dX11_newException_62 sh_527 h.1.1 h.1.2 ?_
    replace h := h.2 _ rfl
    refine J_aload_n dX11_newException_63 rfl rfl ?_
    refine J_getR dX11_newException_64 ck_11 fw_X11_133 rfl sh_489 rr_489_53 ?_
    refine J_iload_n dX11_newException_67 rfl rfl ?_
    refine J_aload_n dX11_newException_68 rfl rfl ?_
    refine J_iload_n dX11_newException_69 rfl rfl ?_
    refine J_aload_n dX11_newException_70 rfl rfl ?_
    refine J_getI dX11_newException_71 ck_11 fw_X11_230 rfl sh_489 ?_
    refine J_callV (as := [_, _]) (mc1 := 0) (ms1 := 0) (mc := 0) (ms := 0) dX11_newException_74 mv_X11_wordsIn lk_X11_321 sh_489 rfl (Nat.le_of_ble_eq_true rfl) (Nat.le_of_ble_eq_true rfl) h (fun r σ hq _ => ?_)
    obtain ⟨x3, I8, rfl, rfl, h⟩ := hq
    change J _ _ _ _ _ _ _ [vI x3, vI (I1 518 4), vR 528] _ _
    refine J_iast dX11_newException_77 sh_528 h.1.1 h.1.2 ?_
    replace h := h.2 _ rfl
    refine J_aload_n dX11_newException_78 rfl rfl ?_
    refine J_getR dX11_newException_79 ck_11 fw_X11_99 rfl sh_489 rr_489_37 ?_
    refine J_iconst dX11_newException_82 (ii_c rfl) ?_
    refine J_dup2 dX11_newException_83 rfl rfl ?_
    refine J_iald dX11_newException_84 sh_518 (by decide) (by decide) ?_
    refine J_iconst dX11_newException_85 (ii_c rfl) ?_
    refine J_iaddN dX11_newException_86 h.1 ?_
    replace h := h.2
    refine J_iast dX11_newException_87 sh_518 (by decide) (by decide) ?_
    replace h := h _ rfl
    exact J_retv dX11_newException_88 rfl h
  · replace h := h.2 c
    exact J_retv dX11_newException_11 rfl h
set_option maxRecDepth 20000 in
set_option maxHeartbeats 2000000 in
theorem bk_X11_statementTold_0 {d : Nat} {I : HI} {Q : Option AV → AH → Prop}   (h : (((I 489 45) ≠ 70 → CI mX11_takes d [vR 489, vR 491] I (fun x1 I1 => ((x1 = 0 → CI mX11_takes d [vR 489, vR 493] I1 (fun x2 I2 => ((x2 = 0 → CI mX11_takes d [vR 489, vR 496] I2 (fun x3 I3 => ((x3 = 0 → CI mX11_takes d [vR 489, vR 501] I3 (fun x4 I4 => ((x4 = 0 → CI mX11_takes d [vR 489, vR 505] I4 (fun x5 I5 => ((x5 = 0 → CV mX11_asks d [vR 489, vR 506] I5 (fun I6 => CI mX11_number d [vR 489, vI 0, vI 999] I6 (fun x7 I7 => (∀ I8 : HI, I8 = up I7 489 43 x7 → CV mX11_asksSign d [vR 489, vI 59] I8 (fun I9 => (-2147483648 ≤ (I9 489 45) + 1 ∧ (I9 489 45) + 1 ≤ 2147483647) ∧ (∀ I10 : HI, I10 = up I9 489 45 ((I9 489 45) + 1) → Q none (mk I10))))))) ∧ (¬ (x5 = 0) → CV mX11_newException d [vR 489, vI (I 489 2)] I5 (fun I11 => CV mX11_asksSign d [vR 489, vI 59] I11 (fun I12 => (-2147483648 ≤ (I12 489 45) + 1 ∧ (I12 489 45) + 1 ≤ 2147483647) ∧ (∀ I13 : HI, I13 = up I12 489 45 ((I12 489 45) + 1) → Q none (mk I13)))))))) ∧ (¬ (x4 = 0) → CV mX11_newBalcony d [vR 489, vI (I 489 2)] I4 (fun I14 => CV mX11_asksSign d [vR 489, vI 59] I14 (fun I15 => (-2147483648 ≤ (I15 489 45) + 1 ∧ (I15 489 45) + 1 ≤ 2147483647) ∧ (∀ I16 : HI, I16 = up I15 489 45 ((I15 489 45) + 1) → Q none (mk I16)))))))) ∧ (¬ (x3 = 0) → CV mX11_newSaint d [vR 489, vI (I 489 2)] I3 (fun I17 => CV mX11_asksSign d [vR 489, vI 59] I17 (fun I18 => (-2147483648 ≤ (I18 489 45) + 1 ∧ (I18 489 45) + 1 ≤ 2147483647) ∧ (∀ I19 : HI, I19 = up I18 489 45 ((I18 489 45) + 1) → Q none (mk I19)))))))) ∧ (¬ (x2 = 0) → CV mX11_newLane d [vR 489, vI (I 489 2)] I2 (fun I20 => CV mX11_asksSign d [vR 489, vI 59] I20 (fun I21 => (-2147483648 ≤ (I21 489 45) + 1 ∧ (I21 489 45) + 1 ≤ 2147483647) ∧ (∀ I22 : HI, I22 = up I21 489 45 ((I21 489 45) + 1) → Q none (mk I22)))))))) ∧ (¬ (x1 = 0) → CV mX11_newCorner d [vR 489, vI (I 489 2)] I1 (fun I23 => CV mX11_asksSign d [vR 489, vI 59] I23 (fun I24 => (-2147483648 ≤ (I24 489 45) + 1 ∧ (I24 489 45) + 1 ≤ 2147483647) ∧ (∀ I25 : HI, I25 = up I24 489 45 ((I24 489 45) + 1) → Q none (mk I25)))))))) ∧ ((I 489 45) = 70 → CV mX11_fail d [vR 489, vI 5, vI (I 489 2)] I (fun I26 => Q none (mk I26))))) : J none mX11_statementTold (d + 1) 0 0 0 [(0, vR 489)] [] (mk I) Q := by
  refine J_aload_n dX11_statementTold_0 rfl rfl ?_
  refine J_getI dX11_statementTold_1 ck_11 fw_X11_230 rfl sh_489 ?_
  refine J_istore_n dX11_statementTold_4 rfl (by decide) ?_
  refine J_aload_n dX11_statementTold_5 rfl rfl ?_
  refine J_getI dX11_statementTold_6 ck_11 fw_X11_324 rfl sh_489 ?_
  refine J_bipush dX11_statementTold_9 (ii_c rfl) (by decide) ?_
  refine J_ic_ne (tgt := 21) dX11_statementTold_11 (by decide) (fun c => ?_) (fun c => ?_)
  · replace h := h.1 c
    refine J_aload_n dX11_statementTold_21 rfl rfl ?_
    refine J_aload_n dX11_statementTold_22 rfl rfl ?_
    refine J_getR dX11_statementTold_23 ck_11 fw_X11_17 rfl sh_489 rr_489_9 ?_
    refine J_callV (as := [_]) (mc1 := 0) (ms1 := 0) (mc := 0) (ms := 0) dX11_statementTold_26 mv_X11_takes lk_X11_251 sh_489 rfl (Nat.le_of_ble_eq_true rfl) (Nat.le_of_ble_eq_true rfl) h (fun r σ hq _ => ?_)
    obtain ⟨x1, I1, rfl, rfl, h⟩ := hq
    change J _ _ _ _ _ _ _ [vI x1] _ _
    refine J_if_eq (tgt := 40) dX11_statementTold_29 (by decide) (fun c => ?_) (fun c => ?_)
    · replace h := h.1 c
      refine J_aload_n dX11_statementTold_40 rfl rfl ?_
      refine J_aload_n dX11_statementTold_41 rfl rfl ?_
      refine J_getR dX11_statementTold_42 ck_11 fw_X11_24 rfl sh_489 rr_489_11 ?_
      refine J_callV (as := [_]) (mc1 := 0) (ms1 := 0) (mc := 0) (ms := 0) dX11_statementTold_45 mv_X11_takes lk_X11_251 sh_489 rfl (Nat.le_of_ble_eq_true rfl) (Nat.le_of_ble_eq_true rfl) h (fun r σ hq _ => ?_)
      obtain ⟨x2, I2, rfl, rfl, h⟩ := hq
      change J _ _ _ _ _ _ _ [vI x2] _ _
      refine J_if_eq (tgt := 59) dX11_statementTold_48 (by decide) (fun c => ?_) (fun c => ?_)
      · replace h := h.1 c
        refine J_aload_n dX11_statementTold_59 rfl rfl ?_
        refine J_aload_n dX11_statementTold_60 rfl rfl ?_
        refine J_getR dX11_statementTold_61 ck_11 fw_X11_33 rfl sh_489 rr_489_14 ?_
        refine J_callV (as := [_]) (mc1 := 0) (ms1 := 0) (mc := 0) (ms := 0) dX11_statementTold_64 mv_X11_takes lk_X11_251 sh_489 rfl (Nat.le_of_ble_eq_true rfl) (Nat.le_of_ble_eq_true rfl) h (fun r σ hq _ => ?_)
        obtain ⟨x3, I3, rfl, rfl, h⟩ := hq
        change J _ _ _ _ _ _ _ [vI x3] _ _
        refine J_if_eq (tgt := 78) dX11_statementTold_67 (by decide) (fun c => ?_) (fun c => ?_)
        · replace h := h.1 c
          refine J_aload_n dX11_statementTold_78 rfl rfl ?_
          refine J_aload_n dX11_statementTold_79 rfl rfl ?_
          refine J_getR dX11_statementTold_80 ck_11 fw_X11_48 rfl sh_489 rr_489_19 ?_
          refine J_callV (as := [_]) (mc1 := 0) (ms1 := 0) (mc := 0) (ms := 0) dX11_statementTold_83 mv_X11_takes lk_X11_251 sh_489 rfl (Nat.le_of_ble_eq_true rfl) (Nat.le_of_ble_eq_true rfl) h (fun r σ hq _ => ?_)
          obtain ⟨x4, I4, rfl, rfl, h⟩ := hq
          change J _ _ _ _ _ _ _ [vI x4] _ _
          refine J_if_eq (tgt := 97) dX11_statementTold_86 (by decide) (fun c => ?_) (fun c => ?_)
          · replace h := h.1 c
            refine J_aload_n dX11_statementTold_97 rfl rfl ?_
            refine J_aload_n dX11_statementTold_98 rfl rfl ?_
            refine J_getR dX11_statementTold_99 ck_11 fw_X11_60 rfl sh_489 rr_489_23 ?_
            refine J_callV (as := [_]) (mc1 := 0) (ms1 := 0) (mc := 0) (ms := 0) dX11_statementTold_102 mv_X11_takes lk_X11_251 sh_489 rfl (Nat.le_of_ble_eq_true rfl) (Nat.le_of_ble_eq_true rfl) h (fun r σ hq _ => ?_)
            obtain ⟨x5, I5, rfl, rfl, h⟩ := hq
            change J _ _ _ _ _ _ _ [vI x5] _ _
            refine J_if_eq (tgt := 116) dX11_statementTold_105 (by decide) (fun c => ?_) (fun c => ?_)
            · replace h := h.1 c
              refine J_aload_n dX11_statementTold_116 rfl rfl ?_
              refine J_aload_n dX11_statementTold_117 rfl rfl ?_
              refine J_getR dX11_statementTold_118 ck_11 fw_X11_63 rfl sh_489 rr_489_24 ?_
              refine J_callV (as := [_]) (mc1 := 0) (ms1 := 0) (mc := 0) (ms := 0) dX11_statementTold_121 mv_X11_asks lk_X11_295 sh_489 rfl (Nat.le_of_ble_eq_true rfl) (Nat.le_of_ble_eq_true rfl) h (fun r σ hq _ => ?_)
              obtain ⟨I6, rfl, rfl, h⟩ := hq
              change J _ _ _ _ _ _ _ [] _ _
              refine J_aload_n dX11_statementTold_124 rfl rfl ?_
              refine J_aload_n dX11_statementTold_125 rfl rfl ?_
              refine J_iconst dX11_statementTold_126 (ii_c rfl) ?_
              refine J_sipush dX11_statementTold_127 (ii_c rfl) (by decide) ?_
              refine J_callV (as := [_, _]) (mc1 := 0) (ms1 := 0) (mc := 0) (ms := 0) dX11_statementTold_130 mv_X11_number lk_X11_299 sh_489 rfl (Nat.le_of_ble_eq_true rfl) (Nat.le_of_ble_eq_true rfl) h (fun r σ hq _ => ?_)
              obtain ⟨x7, I7, rfl, rfl, h⟩ := hq
              change J _ _ _ _ _ _ _ [vI x7, vR 489] _ _
              refine J_putI dX11_statementTold_133 ck_11 fw_X11_343 rfl rfl (Or.inl rfl) sh_489 ?_
              replace h := h _ rfl
              refine J_aload_n dX11_statementTold_136 rfl rfl ?_
              refine J_bipush dX11_statementTold_137 (ii_c rfl) (by decide) ?_
              refine J_callV (as := [_]) (mc1 := 0) (ms1 := 0) (mc := 0) (ms := 0) dX11_statementTold_139 mv_X11_asksSign lk_X11_346 sh_489 rfl (Nat.le_of_ble_eq_true rfl) (Nat.le_of_ble_eq_true rfl) h (fun r σ hq _ => ?_)
              obtain ⟨I9, rfl, rfl, h⟩ := hq
              change J _ _ _ _ _ _ _ [] _ _
              refine J_aload_n dX11_statementTold_142 rfl rfl ?_
              refine J_dup dX11_statementTold_143 rfl ?_
              refine J_getI dX11_statementTold_144 ck_11 fw_X11_324 rfl sh_489 ?_
              refine J_iconst dX11_statementTold_147 (ii_c rfl) ?_
              refine J_iaddN dX11_statementTold_148 h.1 ?_
              replace h := h.2
              refine J_putI dX11_statementTold_149 ck_11 fw_X11_324 rfl rfl (Or.inl rfl) sh_489 ?_
              replace h := h _ rfl
              exact J_retv dX11_statementTold_152 rfl h
            · replace h := h.2 c
              refine J_aload_n dX11_statementTold_108 rfl rfl ?_
              refine J_iload_n dX11_statementTold_109 rfl rfl ?_
              refine J_callV (as := [_]) (mc1 := 0) (ms1 := 0) (mc := 0) (ms := 0) dX11_statementTold_110 mv_X11_newException lk_X11_340 sh_489 rfl (Nat.le_of_ble_eq_true rfl) (Nat.le_of_ble_eq_true rfl) h (fun r σ hq _ => ?_)
              obtain ⟨I11, rfl, rfl, h⟩ := hq
              change J _ _ _ _ _ _ _ [] _ _
              refine J_goto (tgt := 136) dX11_statementTold_113 (by decide) ?_
              refine J_aload_n dX11_statementTold_136 rfl rfl ?_
              refine J_bipush dX11_statementTold_137 (ii_c rfl) (by decide) ?_
              refine J_callV (as := [_]) (mc1 := 0) (ms1 := 0) (mc := 0) (ms := 0) dX11_statementTold_139 mv_X11_asksSign lk_X11_346 sh_489 rfl (Nat.le_of_ble_eq_true rfl) (Nat.le_of_ble_eq_true rfl) h (fun r σ hq _ => ?_)
              obtain ⟨I12, rfl, rfl, h⟩ := hq
              change J _ _ _ _ _ _ _ [] _ _
              refine J_aload_n dX11_statementTold_142 rfl rfl ?_
              refine J_dup dX11_statementTold_143 rfl ?_
              refine J_getI dX11_statementTold_144 ck_11 fw_X11_324 rfl sh_489 ?_
              refine J_iconst dX11_statementTold_147 (ii_c rfl) ?_
              refine J_iaddN dX11_statementTold_148 h.1 ?_
              replace h := h.2
              refine J_putI dX11_statementTold_149 ck_11 fw_X11_324 rfl rfl (Or.inl rfl) sh_489 ?_
              replace h := h _ rfl
              exact J_retv dX11_statementTold_152 rfl h
          · replace h := h.2 c
            refine J_aload_n dX11_statementTold_89 rfl rfl ?_
            refine J_iload_n dX11_statementTold_90 rfl rfl ?_
            refine J_callV (as := [_]) (mc1 := 0) (ms1 := 0) (mc := 0) (ms := 0) dX11_statementTold_91 mv_X11_newBalcony lk_X11_337 sh_489 rfl (Nat.le_of_ble_eq_true rfl) (Nat.le_of_ble_eq_true rfl) h (fun r σ hq _ => ?_)
            obtain ⟨I14, rfl, rfl, h⟩ := hq
            change J _ _ _ _ _ _ _ [] _ _
            refine J_goto (tgt := 136) dX11_statementTold_94 (by decide) ?_
            refine J_aload_n dX11_statementTold_136 rfl rfl ?_
            refine J_bipush dX11_statementTold_137 (ii_c rfl) (by decide) ?_
            refine J_callV (as := [_]) (mc1 := 0) (ms1 := 0) (mc := 0) (ms := 0) dX11_statementTold_139 mv_X11_asksSign lk_X11_346 sh_489 rfl (Nat.le_of_ble_eq_true rfl) (Nat.le_of_ble_eq_true rfl) h (fun r σ hq _ => ?_)
            obtain ⟨I15, rfl, rfl, h⟩ := hq
            change J _ _ _ _ _ _ _ [] _ _
            refine J_aload_n dX11_statementTold_142 rfl rfl ?_
            refine J_dup dX11_statementTold_143 rfl ?_
            refine J_getI dX11_statementTold_144 ck_11 fw_X11_324 rfl sh_489 ?_
            refine J_iconst dX11_statementTold_147 (ii_c rfl) ?_
            refine J_iaddN dX11_statementTold_148 h.1 ?_
            replace h := h.2
            refine J_putI dX11_statementTold_149 ck_11 fw_X11_324 rfl rfl (Or.inl rfl) sh_489 ?_
            replace h := h _ rfl
            exact J_retv dX11_statementTold_152 rfl h
        · replace h := h.2 c
          refine J_aload_n dX11_statementTold_70 rfl rfl ?_
          refine J_iload_n dX11_statementTold_71 rfl rfl ?_
          refine J_callV (as := [_]) (mc1 := 0) (ms1 := 0) (mc := 0) (ms := 0) dX11_statementTold_72 mv_X11_newSaint lk_X11_334 sh_489 rfl (Nat.le_of_ble_eq_true rfl) (Nat.le_of_ble_eq_true rfl) h (fun r σ hq _ => ?_)
          obtain ⟨I17, rfl, rfl, h⟩ := hq
          change J _ _ _ _ _ _ _ [] _ _
          refine J_goto (tgt := 136) dX11_statementTold_75 (by decide) ?_
          refine J_aload_n dX11_statementTold_136 rfl rfl ?_
          refine J_bipush dX11_statementTold_137 (ii_c rfl) (by decide) ?_
          refine J_callV (as := [_]) (mc1 := 0) (ms1 := 0) (mc := 0) (ms := 0) dX11_statementTold_139 mv_X11_asksSign lk_X11_346 sh_489 rfl (Nat.le_of_ble_eq_true rfl) (Nat.le_of_ble_eq_true rfl) h (fun r σ hq _ => ?_)
          obtain ⟨I18, rfl, rfl, h⟩ := hq
          change J _ _ _ _ _ _ _ [] _ _
          refine J_aload_n dX11_statementTold_142 rfl rfl ?_
          refine J_dup dX11_statementTold_143 rfl ?_
          refine J_getI dX11_statementTold_144 ck_11 fw_X11_324 rfl sh_489 ?_
          refine J_iconst dX11_statementTold_147 (ii_c rfl) ?_
          refine J_iaddN dX11_statementTold_148 h.1 ?_
          replace h := h.2
          refine J_putI dX11_statementTold_149 ck_11 fw_X11_324 rfl rfl (Or.inl rfl) sh_489 ?_
          replace h := h _ rfl
          exact J_retv dX11_statementTold_152 rfl h
      · replace h := h.2 c
        refine J_aload_n dX11_statementTold_51 rfl rfl ?_
        refine J_iload_n dX11_statementTold_52 rfl rfl ?_
        refine J_callV (as := [_]) (mc1 := 0) (ms1 := 0) (mc := 0) (ms := 0) dX11_statementTold_53 mv_X11_newLane lk_X11_331 sh_489 rfl (Nat.le_of_ble_eq_true rfl) (Nat.le_of_ble_eq_true rfl) h (fun r σ hq _ => ?_)
        obtain ⟨I20, rfl, rfl, h⟩ := hq
        change J _ _ _ _ _ _ _ [] _ _
        refine J_goto (tgt := 136) dX11_statementTold_56 (by decide) ?_
        refine J_aload_n dX11_statementTold_136 rfl rfl ?_
        refine J_bipush dX11_statementTold_137 (ii_c rfl) (by decide) ?_
        refine J_callV (as := [_]) (mc1 := 0) (ms1 := 0) (mc := 0) (ms := 0) dX11_statementTold_139 mv_X11_asksSign lk_X11_346 sh_489 rfl (Nat.le_of_ble_eq_true rfl) (Nat.le_of_ble_eq_true rfl) h (fun r σ hq _ => ?_)
        obtain ⟨I21, rfl, rfl, h⟩ := hq
        change J _ _ _ _ _ _ _ [] _ _
        refine J_aload_n dX11_statementTold_142 rfl rfl ?_
        refine J_dup dX11_statementTold_143 rfl ?_
        refine J_getI dX11_statementTold_144 ck_11 fw_X11_324 rfl sh_489 ?_
        refine J_iconst dX11_statementTold_147 (ii_c rfl) ?_
        refine J_iaddN dX11_statementTold_148 h.1 ?_
        replace h := h.2
        refine J_putI dX11_statementTold_149 ck_11 fw_X11_324 rfl rfl (Or.inl rfl) sh_489 ?_
        replace h := h _ rfl
        exact J_retv dX11_statementTold_152 rfl h
    · replace h := h.2 c
      refine J_aload_n dX11_statementTold_32 rfl rfl ?_
      refine J_iload_n dX11_statementTold_33 rfl rfl ?_
      refine J_callV (as := [_]) (mc1 := 0) (ms1 := 0) (mc := 0) (ms := 0) dX11_statementTold_34 mv_X11_newCorner lk_X11_327 sh_489 rfl (Nat.le_of_ble_eq_true rfl) (Nat.le_of_ble_eq_true rfl) h (fun r σ hq _ => ?_)
      obtain ⟨I23, rfl, rfl, h⟩ := hq
      change J _ _ _ _ _ _ _ [] _ _
      refine J_goto (tgt := 136) dX11_statementTold_37 (by decide) ?_
      refine J_aload_n dX11_statementTold_136 rfl rfl ?_
      refine J_bipush dX11_statementTold_137 (ii_c rfl) (by decide) ?_
      refine J_callV (as := [_]) (mc1 := 0) (ms1 := 0) (mc := 0) (ms := 0) dX11_statementTold_139 mv_X11_asksSign lk_X11_346 sh_489 rfl (Nat.le_of_ble_eq_true rfl) (Nat.le_of_ble_eq_true rfl) h (fun r σ hq _ => ?_)
      obtain ⟨I24, rfl, rfl, h⟩ := hq
      change J _ _ _ _ _ _ _ [] _ _
      refine J_aload_n dX11_statementTold_142 rfl rfl ?_
      refine J_dup dX11_statementTold_143 rfl ?_
      refine J_getI dX11_statementTold_144 ck_11 fw_X11_324 rfl sh_489 ?_
      refine J_iconst dX11_statementTold_147 (ii_c rfl) ?_
      refine J_iaddN dX11_statementTold_148 h.1 ?_
      replace h := h.2
      refine J_putI dX11_statementTold_149 ck_11 fw_X11_324 rfl rfl (Or.inl rfl) sh_489 ?_
      replace h := h _ rfl
      exact J_retv dX11_statementTold_152 rfl h
  · replace h := h.2 c
    refine J_aload_n dX11_statementTold_14 rfl rfl ?_
    refine J_iconst dX11_statementTold_15 (ii_c rfl) ?_
    refine J_iload_n dX11_statementTold_16 rfl rfl ?_
    refine J_callV (as := [_, _]) (mc1 := 0) (ms1 := 0) (mc := 0) (ms := 0) dX11_statementTold_17 mv_X11_fail lk_X11_254 sh_489 rfl (Nat.le_of_ble_eq_true rfl) (Nat.le_of_ble_eq_true rfl) h (fun r σ hq _ => ?_)
    obtain ⟨I26, rfl, rfl, h⟩ := hq
    change J _ _ _ _ _ _ _ [] _ _
    exact J_retv dX11_statementTold_20 rfl h
set_option maxRecDepth 20000 in
set_option maxHeartbeats 2000000 in
theorem bk_X11_city_0 {d : Nat} {I : HI} {Q : Option AV → AH → Prop}   (h : (∀ I1 : HI, I1 = up I 489 3 (I 489 1) → (∀ I2 : HI, I2 = up I1 489 1 0 → (∀ I3 : HI, I3 = up I2 489 2 0 → (∀ I4 : HI, I4 = up I3 489 4 (-1) → (∀ I5 : HI, I5 = up I4 489 5 0 → (∀ I6 : HI, I6 = up I5 489 6 (-1) → (∀ I7 : HI, I7 = up I6 489 45 0 → (∀ I8 : HI, I8 = up I7 489 47 0 → (∀ I9 : HI, I9 = up I8 489 43 (-1) → J none mX11_city (d + 1) 0 0 50 [(0, vR 489), (1, vI 0)] [] (mk I9) Q)))))))))) : J none mX11_city (d + 1) 0 0 0 [(0, vR 489)] [] (mk I) Q := by
  refine J_aload_n dX11_city_0 rfl rfl ?_
  refine J_aload_n dX11_city_1 rfl rfl ?_
  refine J_getI dX11_city_2 ck_11 fw_X11_221 rfl sh_489 ?_
  refine J_putI dX11_city_5 ck_11 fw_X11_233 rfl rfl (Or.inl rfl) sh_489 ?_
  replace h := h _ rfl
  refine J_aload_n dX11_city_8 rfl rfl ?_
  refine J_iconst dX11_city_9 (ii_c rfl) ?_
  refine J_putI dX11_city_10 ck_11 fw_X11_221 rfl rfl (Or.inl rfl) sh_489 ?_
  replace h := h _ rfl
  refine J_aload_n dX11_city_13 rfl rfl ?_
  refine J_iconst dX11_city_14 (ii_c rfl) ?_
  refine J_putI dX11_city_15 ck_11 fw_X11_230 rfl rfl (Or.inl rfl) sh_489 ?_
  replace h := h _ rfl
  refine J_aload_n dX11_city_18 rfl rfl ?_
  refine J_iconst dX11_city_19 (ii_c rfl) ?_
  refine J_putI dX11_city_20 ck_11 fw_X11_244 rfl rfl (Or.inl rfl) sh_489 ?_
  replace h := h _ rfl
  refine J_aload_n dX11_city_23 rfl rfl ?_
  refine J_iconst dX11_city_24 (ii_c rfl) ?_
  refine J_putI dX11_city_25 ck_11 fw_X11_224 rfl rfl (Or.inl rfl) sh_489 ?_
  replace h := h _ rfl
  refine J_aload_n dX11_city_28 rfl rfl ?_
  refine J_iconst dX11_city_29 (ii_c rfl) ?_
  refine J_putI dX11_city_30 ck_11 fw_X11_227 rfl rfl (Or.inl rfl) sh_489 ?_
  replace h := h _ rfl
  refine J_aload_n dX11_city_33 rfl rfl ?_
  refine J_iconst dX11_city_34 (ii_c rfl) ?_
  refine J_putI dX11_city_35 ck_11 fw_X11_324 rfl rfl (Or.inl rfl) sh_489 ?_
  replace h := h _ rfl
  refine J_aload_n dX11_city_38 rfl rfl ?_
  refine J_iconst dX11_city_39 (ii_c rfl) ?_
  refine J_putI dX11_city_40 ck_11 fw_X11_306 rfl rfl (Or.inl rfl) sh_489 ?_
  replace h := h _ rfl
  refine J_aload_n dX11_city_43 rfl rfl ?_
  refine J_iconst dX11_city_44 (ii_c rfl) ?_
  refine J_putI dX11_city_45 ck_11 fw_X11_343 rfl rfl (Or.inl rfl) sh_489 ?_
  replace h := h _ rfl
  refine J_iconst dX11_city_48 (ii_c rfl) ?_
  refine J_istore_n dX11_city_49 rfl (by decide) ?_
  exact h
set_option maxRecDepth 20000 in
set_option maxHeartbeats 2000000 in
theorem bk_X11_city_50 {d : Nat} {I : HI} {Q : Option AV → AH → Prop} {a1 : Int}  (h : ((5 ≤ a1 → J none mX11_city (d + 1) 0 0 68 [(0, vR 489), (1, vI a1)] [] (mk I) Q) ∧ (¬ (5 ≤ a1) → ((0 : Int) ≤ a1 ∧ (a1 : Int) < 10) ∧ (∀ I1 : HI, I1 = up I 518 a1.toNat 0 → (-2147483648 ≤ a1 + 1 ∧ a1 + 1 ≤ 2147483647) ∧ J none mX11_city (d + 1) 0 0 50 [(0, vR 489), (1, vI (a1 + 1))] [] (mk I1) Q)))) : J none mX11_city (d + 1) 0 0 50 [(0, vR 489), (1, vI a1)] [] (mk I) Q := by
  refine J_iload_n dX11_city_50 rfl rfl ?_
  refine J_iconst dX11_city_51 (ii_c rfl) ?_
  refine J_ic_ge (tgt := 68) dX11_city_52 (by decide) (fun c => ?_) (fun c => ?_)
  · replace h := h.1 c
    exact h
  · replace h := h.2 c
    refine J_aload_n dX11_city_55 rfl rfl ?_
    refine J_getR dX11_city_56 ck_11 fw_X11_99 rfl sh_489 rr_489_37 ?_
    refine J_iload_n dX11_city_59 rfl rfl ?_
    refine J_iconst dX11_city_60 (ii_c rfl) ?_
    refine J_iast dX11_city_61 sh_518 h.1.1 h.1.2 ?_
    replace h := h.2 _ rfl
    refine J_iincN dX11_city_62 rfl (by decide) h.1 ?_
    replace h := h.2
    refine J_goto (tgt := 50) dX11_city_65 (by decide) ?_
    exact h
set_option maxRecDepth 20000 in
set_option maxHeartbeats 2000000 in
theorem bk_X11_city_68 {d : Nat} {I : HI} {Q : Option AV → AH → Prop} {a1 : Int}  (h : (((I 489 5) ≠ 0 → (∀ I1 : HI, I1 = up I 489 7 (I 489 5) → (∀ I2 : HI, I2 = up I1 489 8 (I1 489 6) → (((I2 489 5) = 0 → CV mX11_stands d [vR 489] I2 (fun I3 => Q (some (vI (I3 489 45))) (mk I3))) ∧ (¬ ((I2 489 5) = 0) → Q (some (vI (-1))) (mk I2)))))) ∧ ((I 489 5) = 0 → CI mX11_look d [vR 489] I (fun x2 I4 => ((x2 = (-1) → (∀ I5 : HI, I5 = up I4 489 7 (I4 489 5) → (∀ I6 : HI, I6 = up I5 489 8 (I5 489 6) → (((I6 489 5) = 0 → CV mX11_stands d [vR 489] I6 (fun I7 => Q (some (vI (I7 489 45))) (mk I7))) ∧ (¬ ((I6 489 5) = 0) → Q (some (vI (-1))) (mk I6)))))) ∧ (¬ (x2 = (-1)) → CV mX11_statementTold d [vR 489] I4 (fun I8 => J none mX11_city (d + 1) 0 0 68 [(0, vR 489), (1, vI a1)] [] (mk I8) Q))))))) : J none mX11_city (d + 1) 0 0 68 [(0, vR 489), (1, vI a1)] [] (mk I) Q := by
  refine J_aload_n dX11_city_68 rfl rfl ?_
  refine J_getI dX11_city_69 ck_11 fw_X11_224 rfl sh_489 ?_
  refine J_if_ne (tgt := 90) dX11_city_72 (by decide) (fun c => ?_) (fun c => ?_)
  · replace h := h.1 c
    refine J_aload_n dX11_city_90 rfl rfl ?_
    refine J_aload_n dX11_city_91 rfl rfl ?_
    refine J_getI dX11_city_92 ck_11 fw_X11_224 rfl sh_489 ?_
    refine J_putI dX11_city_95 ck_11 fw_X11_352 rfl rfl (Or.inl rfl) sh_489 ?_
    replace h := h _ rfl
    refine J_aload_n dX11_city_98 rfl rfl ?_
    refine J_aload_n dX11_city_99 rfl rfl ?_
    refine J_getI dX11_city_100 ck_11 fw_X11_227 rfl sh_489 ?_
    refine J_putI dX11_city_103 ck_11 fw_X11_13 rfl rfl (Or.inl rfl) sh_489 ?_
    replace h := h _ rfl
    refine J_aload_n dX11_city_106 rfl rfl ?_
    refine J_getI dX11_city_107 ck_11 fw_X11_224 rfl sh_489 ?_
    refine J_if_eq (tgt := 115) dX11_city_110 (by decide) (fun c => ?_) (fun c => ?_)
    · replace h := h.1 c
      refine J_aload_n dX11_city_115 rfl rfl ?_
      refine J_callV (as := []) (mc1 := 0) (ms1 := 0) (mc := 0) (ms := 0) dX11_city_116 mv_X11_stands lk_X11_355 sh_489 rfl (Nat.le_of_ble_eq_true rfl) (Nat.le_of_ble_eq_true rfl) h (fun r σ hq _ => ?_)
      obtain ⟨I3, rfl, rfl, h⟩ := hq
      change J _ _ _ _ _ _ _ [] _ _
      refine J_aload_n dX11_city_119 rfl rfl ?_
      refine J_getI dX11_city_120 ck_11 fw_X11_324 rfl sh_489 ?_
      exact J_reti dX11_city_123 rfl h
    · replace h := h.2 c
      refine J_iconst dX11_city_113 (ii_c rfl) ?_
      exact J_reti dX11_city_114 rfl h
  · replace h := h.2 c
    refine J_aload_n dX11_city_75 rfl rfl ?_
    refine J_callV (as := []) (mc1 := 0) (ms1 := 0) (mc := 0) (ms := 0) dX11_city_76 mv_X11_look lk_X11_236 sh_489 rfl (Nat.le_of_ble_eq_true rfl) (Nat.le_of_ble_eq_true rfl) h (fun r σ hq _ => ?_)
    obtain ⟨x2, I4, rfl, rfl, h⟩ := hq
    change J _ _ _ _ _ _ _ [vI x2] _ _
    refine J_iconst dX11_city_79 (ii_c rfl) ?_
    refine J_ic_eq (tgt := 90) dX11_city_80 (by decide) (fun c => ?_) (fun c => ?_)
    · replace h := h.1 c
      refine J_aload_n dX11_city_90 rfl rfl ?_
      refine J_aload_n dX11_city_91 rfl rfl ?_
      refine J_getI dX11_city_92 ck_11 fw_X11_224 rfl sh_489 ?_
      refine J_putI dX11_city_95 ck_11 fw_X11_352 rfl rfl (Or.inl rfl) sh_489 ?_
      replace h := h _ rfl
      refine J_aload_n dX11_city_98 rfl rfl ?_
      refine J_aload_n dX11_city_99 rfl rfl ?_
      refine J_getI dX11_city_100 ck_11 fw_X11_227 rfl sh_489 ?_
      refine J_putI dX11_city_103 ck_11 fw_X11_13 rfl rfl (Or.inl rfl) sh_489 ?_
      replace h := h _ rfl
      refine J_aload_n dX11_city_106 rfl rfl ?_
      refine J_getI dX11_city_107 ck_11 fw_X11_224 rfl sh_489 ?_
      refine J_if_eq (tgt := 115) dX11_city_110 (by decide) (fun c => ?_) (fun c => ?_)
      · replace h := h.1 c
        refine J_aload_n dX11_city_115 rfl rfl ?_
        refine J_callV (as := []) (mc1 := 0) (ms1 := 0) (mc := 0) (ms := 0) dX11_city_116 mv_X11_stands lk_X11_355 sh_489 rfl (Nat.le_of_ble_eq_true rfl) (Nat.le_of_ble_eq_true rfl) h (fun r σ hq _ => ?_)
        obtain ⟨I7, rfl, rfl, h⟩ := hq
        change J _ _ _ _ _ _ _ [] _ _
        refine J_aload_n dX11_city_119 rfl rfl ?_
        refine J_getI dX11_city_120 ck_11 fw_X11_324 rfl sh_489 ?_
        exact J_reti dX11_city_123 rfl h
      · replace h := h.2 c
        refine J_iconst dX11_city_113 (ii_c rfl) ?_
        exact J_reti dX11_city_114 rfl h
    · replace h := h.2 c
      refine J_aload_n dX11_city_83 rfl rfl ?_
      refine J_callV (as := []) (mc1 := 0) (ms1 := 0) (mc := 0) (ms := 0) dX11_city_84 mv_X11_statementTold lk_X11_349 sh_489 rfl (Nat.le_of_ble_eq_true rfl) (Nat.le_of_ble_eq_true rfl) h (fun r σ hq _ => ?_)
      obtain ⟨I8, rfl, rfl, h⟩ := hq
      change J _ _ _ _ _ _ _ [] _ _
      refine J_goto (tgt := 68) dX11_city_87 (by decide) ?_
      exact h
set_option maxRecDepth 20000 in
set_option maxHeartbeats 2000000 in
theorem bk_X11_stands_0 {d : Nat} {I : HI} {Q : Option AV → AH → Prop}   (h : J none mX11_stands (d + 1) 0 0 2 [(0, vR 489), (1, vI 0)] [] (mk I) Q) : J none mX11_stands (d + 1) 0 0 0 [(0, vR 489)] [] (mk I) Q := by
  refine J_iconst dX11_stands_0 (ii_c rfl) ?_
  refine J_istore_n dX11_stands_1 rfl (by decide) ?_
  exact h
set_option maxRecDepth 20000 in
set_option maxHeartbeats 2000000 in
theorem bk_X11_stands_2 {d : Nat} {I : HI} {Q : Option AV → AH → Prop} {a1 : Int}  (h : ((5 ≤ a1 → J none mX11_stands (d + 1) 0 0 29 [(0, vR 489), (1, vI 0)] [] (mk I) Q) ∧ (¬ (5 ≤ a1) → (-2147483648 ≤ 5 + a1 ∧ 5 + a1 ≤ 2147483647) ∧ ((0 : Int) ≤ a1 ∧ (a1 : Int) < 10) ∧ ((0 : Int) ≤ (5 + a1) ∧ (5 + a1 : Int) < 10) ∧ (∀ I1 : HI, I1 = up I 518 (5 + a1).toNat (I 518 a1.toNat) → (-2147483648 ≤ a1 + 1 ∧ a1 + 1 ≤ 2147483647) ∧ J none mX11_stands (d + 1) 0 0 2 [(0, vR 489), (1, vI (a1 + 1))] [] (mk I1) Q)))) : J none mX11_stands (d + 1) 0 0 2 [(0, vR 489), (1, vI a1)] [] (mk I) Q := by
  refine J_iload_n dX11_stands_2 rfl rfl ?_
  refine J_iconst dX11_stands_3 (ii_c rfl) ?_
  refine J_ic_ge (tgt := 27) dX11_stands_4 (by decide) (fun c => ?_) (fun c => ?_)
  · replace h := h.1 c
    refine J_iconst dX11_stands_27 (ii_c rfl) ?_
    refine J_istore_n dX11_stands_28 rfl (by decide) ?_
    exact h
  · replace h := h.2 c
    refine J_aload_n dX11_stands_7 rfl rfl ?_
    refine J_getR dX11_stands_8 ck_11 fw_X11_99 rfl sh_489 rr_489_37 ?_
    refine J_iconst dX11_stands_11 (ii_c rfl) ?_
    refine J_iload_n dX11_stands_12 rfl rfl ?_
    refine J_iaddN dX11_stands_13 h.1 ?_
    replace h := h.2
    refine J_aload_n dX11_stands_14 rfl rfl ?_
    refine J_getR dX11_stands_15 ck_11 fw_X11_99 rfl sh_489 rr_489_37 ?_
    refine J_iload_n dX11_stands_18 rfl rfl ?_
    refine J_iald dX11_stands_19 sh_518 h.1.1 h.1.2 ?_
    replace h := h.2
    refine J_iast dX11_stands_20 sh_518 h.1.1 h.1.2 ?_
    replace h := h.2 _ rfl
    refine J_iincN dX11_stands_21 rfl (by decide) h.1 ?_
    replace h := h.2
    refine J_goto (tgt := 2) dX11_stands_24 (by decide) ?_
    exact h
set_option maxRecDepth 20000 in
set_option maxHeartbeats 2000000 in
theorem bk_X11_stands_29 {d : Nat} {I : HI} {Q : Option AV → AH → Prop} {a1 : Int}  (h : ((20 ≤ a1 → J none mX11_stands (d + 1) 0 0 58 [(0, vR 489), (1, vI 0)] [] (mk I) Q) ∧ (¬ (20 ≤ a1) → (-2147483648 ≤ 20 + a1 ∧ 20 + a1 ≤ 2147483647) ∧ ((0 : Int) ≤ a1 ∧ (a1 : Int) < 40) ∧ ((0 : Int) ≤ (20 + a1) ∧ (20 + a1 : Int) < 40) ∧ (∀ I1 : HI, I1 = up I 519 (20 + a1).toNat (I 519 a1.toNat) → (-2147483648 ≤ a1 + 1 ∧ a1 + 1 ≤ 2147483647) ∧ J none mX11_stands (d + 1) 0 0 29 [(0, vR 489), (1, vI (a1 + 1))] [] (mk I1) Q)))) : J none mX11_stands (d + 1) 0 0 29 [(0, vR 489), (1, vI a1)] [] (mk I) Q := by
  refine J_iload_n dX11_stands_29 rfl rfl ?_
  refine J_bipush dX11_stands_30 (ii_c rfl) (by decide) ?_
  refine J_ic_ge (tgt := 56) dX11_stands_32 (by decide) (fun c => ?_) (fun c => ?_)
  · replace h := h.1 c
    refine J_iconst dX11_stands_56 (ii_c rfl) ?_
    refine J_istore_n dX11_stands_57 rfl (by decide) ?_
    exact h
  · replace h := h.2 c
    refine J_aload_n dX11_stands_35 rfl rfl ?_
    refine J_getR dX11_stands_36 ck_11 fw_X11_102 rfl sh_489 rr_489_38 ?_
    refine J_bipush dX11_stands_39 (ii_c rfl) (by decide) ?_
    refine J_iload_n dX11_stands_41 rfl rfl ?_
    refine J_iaddN dX11_stands_42 h.1 ?_
    replace h := h.2
    refine J_aload_n dX11_stands_43 rfl rfl ?_
    refine J_getR dX11_stands_44 ck_11 fw_X11_102 rfl sh_489 rr_489_38 ?_
    refine J_iload_n dX11_stands_47 rfl rfl ?_
    refine J_lald dX11_stands_48 sh_519 h.1.1 h.1.2 ?_
    replace h := h.2
    refine J_last dX11_stands_49 sh_519 h.1.1 h.1.2 ?_
    replace h := h.2 _ rfl
    refine J_iincN dX11_stands_50 rfl (by decide) h.1 ?_
    replace h := h.2
    refine J_goto (tgt := 29) dX11_stands_53 (by decide) ?_
    exact h
set_option maxRecDepth 20000 in
set_option maxHeartbeats 2000000 in
theorem bk_X11_stands_58 {d : Nat} {I : HI} {Q : Option AV → AH → Prop} {a1 : Int}  (h : ((10 ≤ a1 → J none mX11_stands (d + 1) 0 0 87 [(0, vR 489), (1, vI 0)] [] (mk I) Q) ∧ (¬ (10 ≤ a1) → (-2147483648 ≤ 10 + a1 ∧ 10 + a1 ≤ 2147483647) ∧ ((0 : Int) ≤ a1 ∧ (a1 : Int) < 20) ∧ ((0 : Int) ≤ (10 + a1) ∧ (10 + a1 : Int) < 20) ∧ (∀ I1 : HI, I1 = up I 520 (10 + a1).toNat (I 520 a1.toNat) → (-2147483648 ≤ a1 + 1 ∧ a1 + 1 ≤ 2147483647) ∧ J none mX11_stands (d + 1) 0 0 58 [(0, vR 489), (1, vI (a1 + 1))] [] (mk I1) Q)))) : J none mX11_stands (d + 1) 0 0 58 [(0, vR 489), (1, vI a1)] [] (mk I) Q := by
  refine J_iload_n dX11_stands_58 rfl rfl ?_
  refine J_bipush dX11_stands_59 (ii_c rfl) (by decide) ?_
  refine J_ic_ge (tgt := 85) dX11_stands_61 (by decide) (fun c => ?_) (fun c => ?_)
  · replace h := h.1 c
    refine J_iconst dX11_stands_85 (ii_c rfl) ?_
    refine J_istore_n dX11_stands_86 rfl (by decide) ?_
    exact h
  · replace h := h.2 c
    refine J_aload_n dX11_stands_64 rfl rfl ?_
    refine J_getR dX11_stands_65 ck_11 fw_X11_106 rfl sh_489 rr_489_39 ?_
    refine J_bipush dX11_stands_68 (ii_c rfl) (by decide) ?_
    refine J_iload_n dX11_stands_70 rfl rfl ?_
    refine J_iaddN dX11_stands_71 h.1 ?_
    replace h := h.2
    refine J_aload_n dX11_stands_72 rfl rfl ?_
    refine J_getR dX11_stands_73 ck_11 fw_X11_106 rfl sh_489 rr_489_39 ?_
    refine J_iload_n dX11_stands_76 rfl rfl ?_
    refine J_iald dX11_stands_77 sh_520 h.1.1 h.1.2 ?_
    replace h := h.2
    refine J_iast dX11_stands_78 sh_520 h.1.1 h.1.2 ?_
    replace h := h.2 _ rfl
    refine J_iincN dX11_stands_79 rfl (by decide) h.1 ?_
    replace h := h.2
    refine J_goto (tgt := 58) dX11_stands_82 (by decide) ?_
    exact h
set_option maxRecDepth 20000 in
set_option maxHeartbeats 2000000 in
theorem bk_X11_stands_87 {d : Nat} {I : HI} {Q : Option AV → AH → Prop} {a1 : Int}  (h : ((64 ≤ a1 → J none mX11_stands (d + 1) 0 0 116 [(0, vR 489), (1, vI 0)] [] (mk I) Q) ∧ (¬ (64 ≤ a1) → (-2147483648 ≤ 64 + a1 ∧ 64 + a1 ≤ 2147483647) ∧ ((0 : Int) ≤ a1 ∧ (a1 : Int) < 128) ∧ ((0 : Int) ≤ (64 + a1) ∧ (64 + a1 : Int) < 128) ∧ (∀ I1 : HI, I1 = up I 521 (64 + a1).toNat (I 521 a1.toNat) → (-2147483648 ≤ a1 + 1 ∧ a1 + 1 ≤ 2147483647) ∧ J none mX11_stands (d + 1) 0 0 87 [(0, vR 489), (1, vI (a1 + 1))] [] (mk I1) Q)))) : J none mX11_stands (d + 1) 0 0 87 [(0, vR 489), (1, vI a1)] [] (mk I) Q := by
  refine J_iload_n dX11_stands_87 rfl rfl ?_
  refine J_bipush dX11_stands_88 (ii_c rfl) (by decide) ?_
  refine J_ic_ge (tgt := 114) dX11_stands_90 (by decide) (fun c => ?_) (fun c => ?_)
  · replace h := h.1 c
    refine J_iconst dX11_stands_114 (ii_c rfl) ?_
    refine J_istore_n dX11_stands_115 rfl (by decide) ?_
    exact h
  · replace h := h.2 c
    refine J_aload_n dX11_stands_93 rfl rfl ?_
    refine J_getR dX11_stands_94 ck_11 fw_X11_109 rfl sh_489 rr_489_40 ?_
    refine J_bipush dX11_stands_97 (ii_c rfl) (by decide) ?_
    refine J_iload_n dX11_stands_99 rfl rfl ?_
    refine J_iaddN dX11_stands_100 h.1 ?_
    replace h := h.2
    refine J_aload_n dX11_stands_101 rfl rfl ?_
    refine J_getR dX11_stands_102 ck_11 fw_X11_109 rfl sh_489 rr_489_40 ?_
    refine J_iload_n dX11_stands_105 rfl rfl ?_
    refine J_iald dX11_stands_106 sh_521 h.1.1 h.1.2 ?_
    replace h := h.2
    refine J_iast dX11_stands_107 sh_521 h.1.1 h.1.2 ?_
    replace h := h.2 _ rfl
    refine J_iincN dX11_stands_108 rfl (by decide) h.1 ?_
    replace h := h.2
    refine J_goto (tgt := 87) dX11_stands_111 (by decide) ?_
    exact h
set_option maxRecDepth 20000 in
set_option maxHeartbeats 2000000 in
theorem bk_X11_stands_116 {d : Nat} {I : HI} {Q : Option AV → AH → Prop} {a1 : Int}  (h : ((16 ≤ a1 → J none mX11_stands (d + 1) 0 0 145 [(0, vR 489), (1, vI 0)] [] (mk I) Q) ∧ (¬ (16 ≤ a1) → (-2147483648 ≤ 16 + a1 ∧ 16 + a1 ≤ 2147483647) ∧ ((0 : Int) ≤ a1 ∧ (a1 : Int) < 32) ∧ ((0 : Int) ≤ (16 + a1) ∧ (16 + a1 : Int) < 32) ∧ (∀ I1 : HI, I1 = up I 522 (16 + a1).toNat (I 522 a1.toNat) → (-2147483648 ≤ a1 + 1 ∧ a1 + 1 ≤ 2147483647) ∧ J none mX11_stands (d + 1) 0 0 116 [(0, vR 489), (1, vI (a1 + 1))] [] (mk I1) Q)))) : J none mX11_stands (d + 1) 0 0 116 [(0, vR 489), (1, vI a1)] [] (mk I) Q := by
  refine J_iload_n dX11_stands_116 rfl rfl ?_
  refine J_bipush dX11_stands_117 (ii_c rfl) (by decide) ?_
  refine J_ic_ge (tgt := 143) dX11_stands_119 (by decide) (fun c => ?_) (fun c => ?_)
  · replace h := h.1 c
    refine J_iconst dX11_stands_143 (ii_c rfl) ?_
    refine J_istore_n dX11_stands_144 rfl (by decide) ?_
    exact h
  · replace h := h.2 c
    refine J_aload_n dX11_stands_122 rfl rfl ?_
    refine J_getR dX11_stands_123 ck_11 fw_X11_112 rfl sh_489 rr_489_41 ?_
    refine J_bipush dX11_stands_126 (ii_c rfl) (by decide) ?_
    refine J_iload_n dX11_stands_128 rfl rfl ?_
    refine J_iaddN dX11_stands_129 h.1 ?_
    replace h := h.2
    refine J_aload_n dX11_stands_130 rfl rfl ?_
    refine J_getR dX11_stands_131 ck_11 fw_X11_112 rfl sh_489 rr_489_41 ?_
    refine J_iload_n dX11_stands_134 rfl rfl ?_
    refine J_iald dX11_stands_135 sh_522 h.1.1 h.1.2 ?_
    replace h := h.2
    refine J_iast dX11_stands_136 sh_522 h.1.1 h.1.2 ?_
    replace h := h.2 _ rfl
    refine J_iincN dX11_stands_137 rfl (by decide) h.1 ?_
    replace h := h.2
    refine J_goto (tgt := 116) dX11_stands_140 (by decide) ?_
    exact h
set_option maxRecDepth 20000 in
set_option maxHeartbeats 2000000 in
theorem bk_X11_stands_145 {d : Nat} {I : HI} {Q : Option AV → AH → Prop} {a1 : Int}  (h : ((40 ≤ a1 → J none mX11_stands (d + 1) 0 0 174 [(0, vR 489), (1, vI 0)] [] (mk I) Q) ∧ (¬ (40 ≤ a1) → (-2147483648 ≤ 40 + a1 ∧ 40 + a1 ≤ 2147483647) ∧ ((0 : Int) ≤ a1 ∧ (a1 : Int) < 80) ∧ ((0 : Int) ≤ (40 + a1) ∧ (40 + a1 : Int) < 80) ∧ (∀ I1 : HI, I1 = up I 523 (40 + a1).toNat (I 523 a1.toNat) → (-2147483648 ≤ a1 + 1 ∧ a1 + 1 ≤ 2147483647) ∧ J none mX11_stands (d + 1) 0 0 145 [(0, vR 489), (1, vI (a1 + 1))] [] (mk I1) Q)))) : J none mX11_stands (d + 1) 0 0 145 [(0, vR 489), (1, vI a1)] [] (mk I) Q := by
  refine J_iload_n dX11_stands_145 rfl rfl ?_
  refine J_bipush dX11_stands_146 (ii_c rfl) (by decide) ?_
  refine J_ic_ge (tgt := 172) dX11_stands_148 (by decide) (fun c => ?_) (fun c => ?_)
  · replace h := h.1 c
    refine J_iconst dX11_stands_172 (ii_c rfl) ?_
    refine J_istore_n dX11_stands_173 rfl (by decide) ?_
    exact h
  · replace h := h.2 c
    refine J_aload_n dX11_stands_151 rfl rfl ?_
    refine J_getR dX11_stands_152 ck_11 fw_X11_115 rfl sh_489 rr_489_42 ?_
    refine J_bipush dX11_stands_155 (ii_c rfl) (by decide) ?_
    refine J_iload_n dX11_stands_157 rfl rfl ?_
    refine J_iaddN dX11_stands_158 h.1 ?_
    replace h := h.2
    refine J_aload_n dX11_stands_159 rfl rfl ?_
    refine J_getR dX11_stands_160 ck_11 fw_X11_115 rfl sh_489 rr_489_42 ?_
    refine J_iload_n dX11_stands_163 rfl rfl ?_
    refine J_iald dX11_stands_164 sh_523 h.1.1 h.1.2 ?_
    replace h := h.2
    refine J_iast dX11_stands_165 sh_523 h.1.1 h.1.2 ?_
    replace h := h.2 _ rfl
    refine J_iincN dX11_stands_166 rfl (by decide) h.1 ?_
    replace h := h.2
    refine J_goto (tgt := 145) dX11_stands_169 (by decide) ?_
    exact h
set_option maxRecDepth 20000 in
set_option maxHeartbeats 2000000 in
theorem bk_X11_stands_174 {d : Nat} {I : HI} {Q : Option AV → AH → Prop} {a1 : Int}  (h : ((6 ≤ a1 → J none mX11_stands (d + 1) 0 0 233 [(0, vR 489), (1, vI 0)] [] (mk I) Q) ∧ (¬ (6 ≤ a1) → (-2147483648 ≤ 6 + a1 ∧ 6 + a1 ≤ 2147483647) ∧ ((0 : Int) ≤ a1 ∧ (a1 : Int) < 12) ∧ ((0 : Int) ≤ (6 + a1) ∧ (6 + a1 : Int) < 12) ∧ (∀ I1 : HI, I1 = up I 526 (6 + a1).toNat (I 526 a1.toNat) → (-2147483648 ≤ 6 + a1 ∧ 6 + a1 ≤ 2147483647) ∧ ((0 : Int) ≤ a1 ∧ (a1 : Int) < 12) ∧ ((0 : Int) ≤ (6 + a1) ∧ (6 + a1 : Int) < 12) ∧ (∀ I2 : HI, I2 = up I1 527 (6 + a1).toNat (I1 527 a1.toNat) → (-2147483648 ≤ 6 + a1 ∧ 6 + a1 ≤ 2147483647) ∧ ((0 : Int) ≤ a1 ∧ (a1 : Int) < 12) ∧ ((0 : Int) ≤ (6 + a1) ∧ (6 + a1 : Int) < 12) ∧ (∀ I3 : HI, I3 = up I2 528 (6 + a1).toNat (I2 528 a1.toNat) → (-2147483648 ≤ a1 + 1 ∧ a1 + 1 ≤ 2147483647) ∧ J none mX11_stands (d + 1) 0 0 174 [(0, vR 489), (1, vI (a1 + 1))] [] (mk I3) Q)))))) : J none mX11_stands (d + 1) 0 0 174 [(0, vR 489), (1, vI a1)] [] (mk I) Q := by
  refine J_iload_n dX11_stands_174 rfl rfl ?_
  refine J_bipush dX11_stands_175 (ii_c rfl) (by decide) ?_
  refine J_ic_ge (tgt := 231) dX11_stands_177 (by decide) (fun c => ?_) (fun c => ?_)
  · replace h := h.1 c
    refine J_iconst dX11_stands_231 (ii_c rfl) ?_
    refine J_istore_n dX11_stands_232 rfl (by decide) ?_
    exact h
  · replace h := h.2 c
    refine J_aload_n dX11_stands_180 rfl rfl ?_
    refine J_getR dX11_stands_181 ck_11 fw_X11_127 rfl sh_489 rr_489_51 ?_
    refine J_bipush dX11_stands_184 (ii_c rfl) (by decide) ?_
    refine J_iload_n dX11_stands_186 rfl rfl ?_
    refine J_iaddN dX11_stands_187 h.1 ?_
    replace h := h.2
    refine J_aload_n dX11_stands_188 rfl rfl ?_
    refine J_getR dX11_stands_189 ck_11 fw_X11_127 rfl sh_489 rr_489_51 ?_
    refine J_iload_n dX11_stands_192 rfl rfl ?_
    refine J_iald dX11_stands_193 sh_526 h.1.1 h.1.2 ?_
    replace h := h.2
    refine J_iast dX11_stands_194 sh_526 h.1.1 h.1.2 ?_
    replace h := h.2 _ rfl
    refine J_aload_n dX11_stands_195 rfl rfl ?_
    refine J_getR dX11_stands_196 ck_11 fw_X11_130 rfl sh_489 rr_489_52 ?_
    refine J_bipush dX11_stands_199 (ii_c rfl) (by decide) ?_
    refine J_iload_n dX11_stands_201 rfl rfl ?_
    refine J_iaddN dX11_stands_202 h.1 ?_
    replace h := h.2
    refine J_aload_n dX11_stands_203 rfl rfl ?_
    refine J_getR dX11_stands_204 ck_11 fw_X11_130 rfl sh_489 rr_489_52 ?_
    refine J_iload_n dX11_stands_207 rfl rfl ?_
    refine J_iald dX11_stands_208 sh_527 h.1.1 h.1.2 ?_
    replace h := h.2
    refine J_iast dX11_stands_209 sh_527 h.1.1 h.1.2 ?_
    replace h := h.2 _ rfl
    refine J_aload_n dX11_stands_210 rfl rfl ?_
    refine J_getR dX11_stands_211 ck_11 fw_X11_133 rfl sh_489 rr_489_53 ?_
    refine J_bipush dX11_stands_214 (ii_c rfl) (by decide) ?_
    refine J_iload_n dX11_stands_216 rfl rfl ?_
    refine J_iaddN dX11_stands_217 h.1 ?_
    replace h := h.2
    refine J_aload_n dX11_stands_218 rfl rfl ?_
    refine J_getR dX11_stands_219 ck_11 fw_X11_133 rfl sh_489 rr_489_53 ?_
    refine J_iload_n dX11_stands_222 rfl rfl ?_
    refine J_iald dX11_stands_223 sh_528 h.1.1 h.1.2 ?_
    replace h := h.2
    refine J_iast dX11_stands_224 sh_528 h.1.1 h.1.2 ?_
    replace h := h.2 _ rfl
    refine J_iincN dX11_stands_225 rfl (by decide) h.1 ?_
    replace h := h.2
    refine J_goto (tgt := 174) dX11_stands_228 (by decide) ?_
    exact h
set_option maxRecDepth 20000 in
set_option maxHeartbeats 2000000 in
theorem bk_X11_stands_233 {d : Nat} {I : HI} {Q : Option AV → AH → Prop} {a1 : Int}  (h : (((I 489 47) ≤ a1 → (∀ I1 : HI, I1 = up I 489 44 (I 489 43) → (∀ I2 : HI, I2 = up I1 489 63 0 → (∀ I3 : HI, I3 = up I2 489 64 0 → (∀ I4 : HI, I4 = up I3 489 71 0 → J none mX11_stands (d + 1) 0 0 288 [(0, vR 489), (1, vI 0)] [] (mk I4) Q))))) ∧ (¬ ((I 489 47) ≤ a1) → (-2147483648 ≤ 1600 + a1 ∧ 1600 + a1 ≤ 2147483647) ∧ ((0 : Int) ≤ a1 ∧ (a1 : Int) < 3200) ∧ ((0 : Int) ≤ (1600 + a1) ∧ (1600 + a1 : Int) < 3200) ∧ (∀ I5 : HI, I5 = up I 524 (1600 + a1).toNat (I 524 a1.toNat) → (-2147483648 ≤ a1 + 1 ∧ a1 + 1 ≤ 2147483647) ∧ J none mX11_stands (d + 1) 0 0 233 [(0, vR 489), (1, vI (a1 + 1))] [] (mk I5) Q)))) : J none mX11_stands (d + 1) 0 0 233 [(0, vR 489), (1, vI a1)] [] (mk I) Q := by
  refine J_iload_n dX11_stands_233 rfl rfl ?_
  refine J_aload_n dX11_stands_234 rfl rfl ?_
  refine J_getI dX11_stands_235 ck_11 fw_X11_306 rfl sh_489 ?_
  refine J_ic_ge (tgt := 263) dX11_stands_238 (by decide) (fun c => ?_) (fun c => ?_)
  · replace h := h.1 c
    refine J_aload_n dX11_stands_263 rfl rfl ?_
    refine J_aload_n dX11_stands_264 rfl rfl ?_
    refine J_getI dX11_stands_265 ck_11 fw_X11_343 rfl sh_489 ?_
    refine J_putI dX11_stands_268 ck_11 fw_X11_118 rfl rfl (Or.inl rfl) sh_489 ?_
    replace h := h _ rfl
    refine J_aload_n dX11_stands_271 rfl rfl ?_
    refine J_iconst dX11_stands_272 (ii_c rfl) ?_
    refine J_putI dX11_stands_273 ck_11 fw_X11_358 rfl rfl (Or.inl rfl) sh_489 ?_
    replace h := h _ rfl
    refine J_aload_n dX11_stands_276 rfl rfl ?_
    refine J_iconst dX11_stands_277 (ii_c rfl) ?_
    refine J_putI dX11_stands_278 ck_11 fw_X11_361 rfl rfl (Or.inl rfl) sh_489 ?_
    replace h := h _ rfl
    refine J_aload_n dX11_stands_281 rfl rfl ?_
    refine J_iconst dX11_stands_282 (ii_c rfl) ?_
    refine J_putI dX11_stands_283 ck_11 fw_X11_364 rfl rfl (Or.inl rfl) sh_489 ?_
    replace h := h _ rfl
    refine J_iconst dX11_stands_286 (ii_c rfl) ?_
    refine J_istore_n dX11_stands_287 rfl (by decide) ?_
    exact h
  · replace h := h.2 c
    refine J_aload_n dX11_stands_241 rfl rfl ?_
    refine J_getR dX11_stands_242 ck_11 fw_X11_121 rfl sh_489 rr_489_46 ?_
    refine J_sipush dX11_stands_245 (ii_c rfl) (by decide) ?_
    refine J_iload_n dX11_stands_248 rfl rfl ?_
    refine J_iaddN dX11_stands_249 h.1 ?_
    replace h := h.2
    refine J_aload_n dX11_stands_250 rfl rfl ?_
    refine J_getR dX11_stands_251 ck_11 fw_X11_121 rfl sh_489 rr_489_46 ?_
    refine J_iload_n dX11_stands_254 rfl rfl ?_
    refine J_iald dX11_stands_255 sh_524 h.1.1 h.1.2 ?_
    replace h := h.2
    refine J_iast dX11_stands_256 sh_524 h.1.1 h.1.2 ?_
    replace h := h.2 _ rfl
    refine J_iincN dX11_stands_257 rfl (by decide) h.1 ?_
    replace h := h.2
    refine J_goto (tgt := 233) dX11_stands_260 (by decide) ?_
    exact h
set_option maxRecDepth 20000 in
set_option maxHeartbeats 2000000 in
theorem bk_X11_stands_288 {d : Nat} {I : HI} {Q : Option AV → AH → Prop} {a1 : Int}  (h : ((4 ≤ a1 → CV mX11_sounds d [vR 489] I (fun I1 => Q none (mk I1))) ∧ (¬ (4 ≤ a1) → ((0 : Int) ≤ a1 ∧ (a1 : Int) < 244) ∧ (∀ I2 : HI, I2 = up I 532 a1.toNat 0 → (-2147483648 ≤ a1 + 1 ∧ a1 + 1 ≤ 2147483647) ∧ J none mX11_stands (d + 1) 0 0 288 [(0, vR 489), (1, vI (a1 + 1))] [] (mk I2) Q)))) : J none mX11_stands (d + 1) 0 0 288 [(0, vR 489), (1, vI a1)] [] (mk I) Q := by
  refine J_iload_n dX11_stands_288 rfl rfl ?_
  refine J_iconst dX11_stands_289 (ii_c rfl) ?_
  refine J_ic_ge (tgt := 306) dX11_stands_290 (by decide) (fun c => ?_) (fun c => ?_)
  · replace h := h.1 c
    refine J_aload_n dX11_stands_306 rfl rfl ?_
    refine J_callV (as := []) (mc1 := 0) (ms1 := 0) (mc := 0) (ms := 0) dX11_stands_307 mv_X11_sounds lk_X11_367 sh_489 rfl (Nat.le_of_ble_eq_true rfl) (Nat.le_of_ble_eq_true rfl) h (fun r σ hq _ => ?_)
    obtain ⟨I1, rfl, rfl, h⟩ := hq
    change J _ _ _ _ _ _ _ [] _ _
    exact J_retv dX11_stands_310 rfl h
  · replace h := h.2 c
    refine J_aload_n dX11_stands_293 rfl rfl ?_
    refine J_getR dX11_stands_294 ck_11 fw_X11_145 rfl sh_489 rr_489_59 ?_
    refine J_iload_n dX11_stands_297 rfl rfl ?_
    refine J_iconst dX11_stands_298 (ii_c rfl) ?_
    refine J_iast dX11_stands_299 sh_532 h.1.1 h.1.2 ?_
    replace h := h.2 _ rfl
    refine J_iincN dX11_stands_300 rfl (by decide) h.1 ?_
    replace h := h.2
    refine J_goto (tgt := 288) dX11_stands_303 (by decide) ?_
    exact h
set_option maxRecDepth 20000 in
set_option maxHeartbeats 2000000 in
theorem bk_X11_code_0 {d : Nat} {I : HI} {Q : Option AV → AH → Prop} {a1 : Int}  (h : (-2147483648 ≤ 0 + (I 489 47) ∧ 0 + (I 489 47) ≤ 2147483647) ∧ ((0 : Int) ≤ (0 + (I 489 47)) ∧ (0 + (I 489 47) : Int) < 3200) ∧ (∀ I1 : HI, I1 = up I 524 (0 + (I 489 47)).toNat a1 → (-2147483648 ≤ (I1 489 47) + 1 ∧ (I1 489 47) + 1 ≤ 2147483647) ∧ (∀ I2 : HI, I2 = up I1 489 47 ((I1 489 47) + 1) → Q none (mk I2)))) : J none mX11_code (d + 1) 0 0 0 [(0, vR 489), (1, vI a1)] [] (mk I) Q := by
  refine J_aload_n dX11_code_0 rfl rfl ?_
  refine J_getR dX11_code_1 ck_11 fw_X11_121 rfl sh_489 rr_489_46 ?_
  refine J_iconst dX11_code_4 (ii_c rfl) ?_
  refine J_aload_n dX11_code_5 rfl rfl ?_
  refine J_getI dX11_code_6 ck_11 fw_X11_306 rfl sh_489 ?_
  refine J_iaddN dX11_code_9 h.1 ?_
  replace h := h.2
  refine J_iload_n dX11_code_10 rfl rfl ?_
  refine J_iast dX11_code_11 sh_524 h.1.1 h.1.2 ?_
  replace h := h.2 _ rfl
  refine J_aload_n dX11_code_12 rfl rfl ?_
  refine J_dup dX11_code_13 rfl ?_
  refine J_getI dX11_code_14 ck_11 fw_X11_306 rfl sh_489 ?_
  refine J_iconst dX11_code_17 (ii_c rfl) ?_
  refine J_iaddN dX11_code_18 h.1 ?_
  replace h := h.2
  refine J_putI dX11_code_19 ck_11 fw_X11_306 rfl rfl (Or.inl rfl) sh_489 ?_
  replace h := h _ rfl
  exact J_retv dX11_code_22 rfl h
set_option maxRecDepth 20000 in
set_option maxHeartbeats 2000000 in
theorem bk_X11_opens_0 {d : Nat} {I : HI} {Q : Option AV → AH → Prop} {a1 : Int} {a2 : Int}  (h : (((I 489 50) ≠ 6 → (-2147483648 ≤ (I 489 50) + 1 ∧ (I 489 50) + 1 ≤ 2147483647) ∧ (∀ I1 : HI, I1 = up I 489 50 ((I 489 50) + 1) → ((0 : Int) ≤ (I1 489 49) ∧ (I1 489 49 : Int) < 1700) ∧ (∀ I2 : HI, I2 = up I1 525 (I1 489 49).toNat a1 → (-2147483648 ≤ (I2 489 49) + 1 ∧ (I2 489 49) + 1 ≤ 2147483647) ∧ (∀ I3 : HI, I3 = up I2 489 49 ((I2 489 49) + 1) → Q none (mk I3))))) ∧ ((I 489 50) = 6 → CV mX11_fail d [vR 489, vI 4, vI a2] I (fun I4 => Q none (mk I4))))) : J none mX11_opens (d + 1) 0 0 0 [(0, vR 489), (1, vI a1), (2, vI a2)] [] (mk I) Q := by
  refine J_aload_n dX11_opens_0 rfl rfl ?_
  refine J_getI dX11_opens_1 ck_11 fw_X11_312 rfl sh_489 ?_
  refine J_bipush dX11_opens_4 (ii_c rfl) (by decide) ?_
  refine J_ic_ne (tgt := 16) dX11_opens_6 (by decide) (fun c => ?_) (fun c => ?_)
  · replace h := h.1 c
    refine J_aload_n dX11_opens_16 rfl rfl ?_
    refine J_dup dX11_opens_17 rfl ?_
    refine J_getI dX11_opens_18 ck_11 fw_X11_312 rfl sh_489 ?_
    refine J_iconst dX11_opens_21 (ii_c rfl) ?_
    refine J_iaddN dX11_opens_22 h.1 ?_
    replace h := h.2
    refine J_putI dX11_opens_23 ck_11 fw_X11_312 rfl rfl (Or.inl rfl) sh_489 ?_
    replace h := h _ rfl
    refine J_aload_n dX11_opens_26 rfl rfl ?_
    refine J_getR dX11_opens_27 ck_11 fw_X11_124 rfl sh_489 rr_489_48 ?_
    refine J_aload_n dX11_opens_30 rfl rfl ?_
    refine J_getI dX11_opens_31 ck_11 fw_X11_309 rfl sh_489 ?_
    refine J_iload_n dX11_opens_34 rfl rfl ?_
    refine J_iast dX11_opens_35 sh_525 h.1.1 h.1.2 ?_
    replace h := h.2 _ rfl
    refine J_aload_n dX11_opens_36 rfl rfl ?_
    refine J_dup dX11_opens_37 rfl ?_
    refine J_getI dX11_opens_38 ck_11 fw_X11_309 rfl sh_489 ?_
    refine J_iconst dX11_opens_41 (ii_c rfl) ?_
    refine J_iaddN dX11_opens_42 h.1 ?_
    replace h := h.2
    refine J_putI dX11_opens_43 ck_11 fw_X11_309 rfl rfl (Or.inl rfl) sh_489 ?_
    replace h := h _ rfl
    exact J_retv dX11_opens_46 rfl h
  · replace h := h.2 c
    refine J_aload_n dX11_opens_9 rfl rfl ?_
    refine J_iconst dX11_opens_10 (ii_c rfl) ?_
    refine J_iload_n dX11_opens_11 rfl rfl ?_
    refine J_callV (as := [_, _]) (mc1 := 0) (ms1 := 0) (mc := 0) (ms := 0) dX11_opens_12 mv_X11_fail lk_X11_254 sh_489 rfl (Nat.le_of_ble_eq_true rfl) (Nat.le_of_ble_eq_true rfl) h (fun r σ hq _ => ?_)
    obtain ⟨I4, rfl, rfl, h⟩ := hq
    change J _ _ _ _ _ _ _ [] _ _
    exact J_retv dX11_opens_15 rfl h
set_option maxRecDepth 20000 in
set_option maxHeartbeats 2000000 in
theorem bk_X11_isOn_0 {d : Nat} {I : HI} {Q : Option AV → AH → Prop} {a1 : Int}  (h : (((I 489 49) ≤ 0 → Q (some (vI 0)) (mk I)) ∧ (¬ ((I 489 49) ≤ 0) → (-2147483648 ≤ (I 489 49) - 1 ∧ (I 489 49) - 1 ≤ 2147483647) ∧ ((0 : Int) ≤ ((I 489 49) - 1) ∧ ((I 489 49) - 1 : Int) < 1700) ∧ (((I 525 ((I 489 49) - 1).toNat) ≠ a1 → Q (some (vI 0)) (mk I)) ∧ ((I 525 ((I 489 49) - 1).toNat) = a1 → Q (some (vI 1)) (mk I)))))) : J none mX11_isOn (d + 1) 0 0 0 [(0, vR 489), (1, vI a1)] [] (mk I) Q := by
  refine J_aload_n dX11_isOn_0 rfl rfl ?_
  refine J_getI dX11_isOn_1 ck_11 fw_X11_309 rfl sh_489 ?_
  refine J_if_le (tgt := 26) dX11_isOn_4 (by decide) (fun c => ?_) (fun c => ?_)
  · replace h := h.1 c
    refine J_iconst dX11_isOn_26 (ii_c rfl) ?_
    exact J_retz dX11_isOn_27 rfl (Or.inl rfl) h
  · replace h := h.2 c
    refine J_aload_n dX11_isOn_7 rfl rfl ?_
    refine J_getR dX11_isOn_8 ck_11 fw_X11_124 rfl sh_489 rr_489_48 ?_
    refine J_aload_n dX11_isOn_11 rfl rfl ?_
    refine J_getI dX11_isOn_12 ck_11 fw_X11_309 rfl sh_489 ?_
    refine J_iconst dX11_isOn_15 (ii_c rfl) ?_
    refine J_isubN dX11_isOn_16 h.1 ?_
    replace h := h.2
    refine J_iald dX11_isOn_17 sh_525 h.1.1 h.1.2 ?_
    replace h := h.2
    refine J_iload_n dX11_isOn_18 rfl rfl ?_
    refine J_ic_ne (tgt := 26) dX11_isOn_19 (by decide) (fun c => ?_) (fun c => ?_)
    · replace h := h.1 c
      refine J_iconst dX11_isOn_26 (ii_c rfl) ?_
      exact J_retz dX11_isOn_27 rfl (Or.inl rfl) h
    · replace h := h.2 c
      refine J_iconst dX11_isOn_22 (ii_c rfl) ?_
      refine J_goto (tgt := 27) dX11_isOn_23 (by decide) ?_
      exact J_retz dX11_isOn_27 rfl (Or.inr rfl) h
set_option maxRecDepth 20000 in
set_option maxHeartbeats 2000000 in
theorem bk_X11_drops_0 {d : Nat} {I : HI} {Q : Option AV → AH → Prop}   (h : (-2147483648 ≤ (I 489 49) - 1 ∧ (I 489 49) - 1 ≤ 2147483647) ∧ (∀ I1 : HI, I1 = up I 489 49 ((I 489 49) - 1) → ((0 : Int) ≤ (I1 489 49) ∧ (I1 489 49 : Int) < 1700) ∧ CV mX11_code d [vR 489, vI (I1 525 (I1 489 49).toNat)] I1 (fun I2 => Q none (mk I2)))) : J none mX11_drops (d + 1) 0 0 0 [(0, vR 489)] [] (mk I) Q := by
  refine J_aload_n dX11_drops_0 rfl rfl ?_
  refine J_dup dX11_drops_1 rfl ?_
  refine J_getI dX11_drops_2 ck_11 fw_X11_309 rfl sh_489 ?_
  refine J_iconst dX11_drops_5 (ii_c rfl) ?_
  refine J_isubN dX11_drops_6 h.1 ?_
  replace h := h.2
  refine J_putI dX11_drops_7 ck_11 fw_X11_309 rfl rfl (Or.inl rfl) sh_489 ?_
  replace h := h _ rfl
  refine J_aload_n dX11_drops_10 rfl rfl ?_
  refine J_aload_n dX11_drops_11 rfl rfl ?_
  refine J_getR dX11_drops_12 ck_11 fw_X11_124 rfl sh_489 rr_489_48 ?_
  refine J_aload_n dX11_drops_15 rfl rfl ?_
  refine J_getI dX11_drops_16 ck_11 fw_X11_309 rfl sh_489 ?_
  refine J_iald dX11_drops_19 sh_525 h.1.1 h.1.2 ?_
  replace h := h.2
  refine J_callV (as := [_]) (mc1 := 0) (ms1 := 0) (mc := 0) (ms := 0) dX11_drops_20 mv_X11_code lk_X11_370 sh_489 rfl (Nat.le_of_ble_eq_true rfl) (Nat.le_of_ble_eq_true rfl) h (fun r σ hq _ => ?_)
  obtain ⟨I2, rfl, rfl, h⟩ := hq
  change J _ _ _ _ _ _ _ [] _ _
  exact J_retv dX11_drops_23 rfl h
set_option maxRecDepth 20000 in
set_option maxHeartbeats 2000000 in
theorem bk_X11_isMark_0 {d : Nat} {I : HI} {Q : Option AV → AH → Prop} {a1 : Int}  (h : ((a1 < 20 → Q (some (vI 0)) (mk I)) ∧ (¬ (a1 < 20) → ((24 < a1 → Q (some (vI 0)) (mk I)) ∧ (¬ (24 < a1) → Q (some (vI 1)) (mk I)))))) : J none mX11_isMark (d + 1) 0 0 0 [(0, vR 489), (1, vI a1)] [] (mk I) Q := by
  refine J_iload_n dX11_isMark_0 rfl rfl ?_
  refine J_bipush dX11_isMark_1 (ii_c rfl) (by decide) ?_
  refine J_ic_lt (tgt := 16) dX11_isMark_3 (by decide) (fun c => ?_) (fun c => ?_)
  · replace h := h.1 c
    refine J_iconst dX11_isMark_16 (ii_c rfl) ?_
    exact J_retz dX11_isMark_17 rfl (Or.inl rfl) h
  · replace h := h.2 c
    refine J_iload_n dX11_isMark_6 rfl rfl ?_
    refine J_bipush dX11_isMark_7 (ii_c rfl) (by decide) ?_
    refine J_ic_gt (tgt := 16) dX11_isMark_9 (by decide) (fun c => ?_) (fun c => ?_)
    · replace h := h.1 c
      refine J_iconst dX11_isMark_16 (ii_c rfl) ?_
      exact J_retz dX11_isMark_17 rfl (Or.inl rfl) h
    · replace h := h.2 c
      refine J_iconst dX11_isMark_12 (ii_c rfl) ?_
      refine J_goto (tgt := 17) dX11_isMark_13 (by decide) ?_
      exact J_retz dX11_isMark_17 rfl (Or.inr rfl) h
set_option maxRecDepth 20000 in
set_option maxHeartbeats 2000000 in
theorem bk_X11_mark_0 {d : Nat} {I : HI} {Q : Option AV → AH → Prop}   (h : (-2147483648 ≤ (I 489 49) - 1 ∧ (I 489 49) - 1 ≤ 2147483647) ∧ J none mX11_mark (d + 1) 0 0 7 [(0, vR 489), (1, vI ((I 489 49) - 1))] [] (mk I) Q) : J none mX11_mark (d + 1) 0 0 0 [(0, vR 489)] [] (mk I) Q := by
  refine J_aload_n dX11_mark_0 rfl rfl ?_
  refine J_getI dX11_mark_1 ck_11 fw_X11_309 rfl sh_489 ?_
  refine J_iconst dX11_mark_4 (ii_c rfl) ?_
  refine J_isubN dX11_mark_5 h.1 ?_
  replace h := h.2
  refine J_istore_n dX11_mark_6 rfl (by decide) ?_
  exact h
set_option maxRecDepth 20000 in
set_option maxHeartbeats 2000000 in
theorem bk_X11_mark_7 {d : Nat} {I : HI} {Q : Option AV → AH → Prop} {a1 : Int}  (h : ((a1 < (I 489 54) → ((a1 < (I 489 54) → Q (some (vI (-1))) (mk I)) ∧ (¬ (a1 < (I 489 54)) → ((0 : Int) ≤ a1 ∧ (a1 : Int) < 1700) ∧ Q (some (vI (I 525 a1.toNat))) (mk I)))) ∧ (¬ (a1 < (I 489 54)) → ((0 : Int) ≤ a1 ∧ (a1 : Int) < 1700) ∧ CI mX11_isMark d [vR 489, vI (I 525 a1.toNat)] I (fun x1 I1 => ((x1 ≠ 0 → ((a1 < (I1 489 54) → Q (some (vI (-1))) (mk I1)) ∧ (¬ (a1 < (I1 489 54)) → ((0 : Int) ≤ a1 ∧ (a1 : Int) < 1700) ∧ Q (some (vI (I1 525 a1.toNat))) (mk I1)))) ∧ (x1 = 0 → (-2147483648 ≤ a1 + (-1) ∧ a1 + (-1) ≤ 2147483647) ∧ J none mX11_mark (d + 1) 0 0 7 [(0, vR 489), (1, vI (a1 + (-1)))] [] (mk I1) Q)))))) : J none mX11_mark (d + 1) 0 0 7 [(0, vR 489), (1, vI a1)] [] (mk I) Q := by
  refine J_iload_n dX11_mark_7 rfl rfl ?_
  refine J_aload_n dX11_mark_8 rfl rfl ?_
  refine J_getI dX11_mark_9 ck_11 fw_X11_315 rfl sh_489 ?_
  refine J_ic_lt (tgt := 34) dX11_mark_12 (by decide) (fun c => ?_) (fun c => ?_)
  · replace h := h.1 c
    refine J_iload_n dX11_mark_34 rfl rfl ?_
    refine J_aload_n dX11_mark_35 rfl rfl ?_
    refine J_getI dX11_mark_36 ck_11 fw_X11_315 rfl sh_489 ?_
    refine J_ic_lt (tgt := 51) dX11_mark_39 (by decide) (fun c => ?_) (fun c => ?_)
    · replace h := h.1 c
      refine J_iconst dX11_mark_51 (ii_c rfl) ?_
      exact J_reti dX11_mark_52 rfl h
    · replace h := h.2 c
      refine J_aload_n dX11_mark_42 rfl rfl ?_
      refine J_getR dX11_mark_43 ck_11 fw_X11_124 rfl sh_489 rr_489_48 ?_
      refine J_iload_n dX11_mark_46 rfl rfl ?_
      refine J_iald dX11_mark_47 sh_525 h.1.1 h.1.2 ?_
      replace h := h.2
      refine J_goto (tgt := 52) dX11_mark_48 (by decide) ?_
      exact J_reti dX11_mark_52 rfl h
  · replace h := h.2 c
    refine J_aload_n dX11_mark_15 rfl rfl ?_
    refine J_aload_n dX11_mark_16 rfl rfl ?_
    refine J_getR dX11_mark_17 ck_11 fw_X11_124 rfl sh_489 rr_489_48 ?_
    refine J_iload_n dX11_mark_20 rfl rfl ?_
    refine J_iald dX11_mark_21 sh_525 h.1.1 h.1.2 ?_
    replace h := h.2
    refine J_callV (as := [_]) (mc1 := 0) (ms1 := 0) (mc := 0) (ms := 0) dX11_mark_22 mv_X11_isMark lk_X11_373 sh_489 rfl (Nat.le_of_ble_eq_true rfl) (Nat.le_of_ble_eq_true rfl) h (fun r σ hq _ => ?_)
    obtain ⟨x1, I1, rfl, rfl, h⟩ := hq
    change J _ _ _ _ _ _ _ [vI x1] _ _
    refine J_if_ne (tgt := 34) dX11_mark_25 (by decide) (fun c => ?_) (fun c => ?_)
    · replace h := h.1 c
      refine J_iload_n dX11_mark_34 rfl rfl ?_
      refine J_aload_n dX11_mark_35 rfl rfl ?_
      refine J_getI dX11_mark_36 ck_11 fw_X11_315 rfl sh_489 ?_
      refine J_ic_lt (tgt := 51) dX11_mark_39 (by decide) (fun c => ?_) (fun c => ?_)
      · replace h := h.1 c
        refine J_iconst dX11_mark_51 (ii_c rfl) ?_
        exact J_reti dX11_mark_52 rfl h
      · replace h := h.2 c
        refine J_aload_n dX11_mark_42 rfl rfl ?_
        refine J_getR dX11_mark_43 ck_11 fw_X11_124 rfl sh_489 rr_489_48 ?_
        refine J_iload_n dX11_mark_46 rfl rfl ?_
        refine J_iald dX11_mark_47 sh_525 h.1.1 h.1.2 ?_
        replace h := h.2
        refine J_goto (tgt := 52) dX11_mark_48 (by decide) ?_
        exact J_reti dX11_mark_52 rfl h
    · replace h := h.2 c
      refine J_iincN dX11_mark_28 rfl (by decide) h.1 ?_
      replace h := h.2
      refine J_goto (tgt := 7) dX11_mark_31 (by decide) ?_
      exact h
set_option maxRecDepth 20000 in
set_option maxHeartbeats 2000000 in
theorem bk_X11_dropsToMark_0 {d : Nat} {I : HI} {Q : Option AV → AH → Prop}   (h : (((I 489 49) ≤ (I 489 54) → Q none (mk I)) ∧ (¬ ((I 489 49) ≤ (I 489 54)) → (-2147483648 ≤ (I 489 49) - 1 ∧ (I 489 49) - 1 ≤ 2147483647) ∧ ((0 : Int) ≤ ((I 489 49) - 1) ∧ ((I 489 49) - 1 : Int) < 1700) ∧ CI mX11_isMark d [vR 489, vI (I 525 ((I 489 49) - 1).toNat)] I (fun x1 I1 => ((x1 ≠ 0 → Q none (mk I1)) ∧ (x1 = 0 → CV mX11_drops d [vR 489] I1 (fun I2 => J none mX11_dropsToMark (d + 1) 0 0 0 [(0, vR 489)] [] (mk I2) Q))))))) : J none mX11_dropsToMark (d + 1) 0 0 0 [(0, vR 489)] [] (mk I) Q := by
  refine J_aload_n dX11_dropsToMark_0 rfl rfl ?_
  refine J_getI dX11_dropsToMark_1 ck_11 fw_X11_309 rfl sh_489 ?_
  refine J_aload_n dX11_dropsToMark_4 rfl rfl ?_
  refine J_getI dX11_dropsToMark_5 ck_11 fw_X11_315 rfl sh_489 ?_
  refine J_ic_le (tgt := 36) dX11_dropsToMark_8 (by decide) (fun c => ?_) (fun c => ?_)
  · replace h := h.1 c
    exact J_retv dX11_dropsToMark_36 rfl h
  · replace h := h.2 c
    refine J_aload_n dX11_dropsToMark_11 rfl rfl ?_
    refine J_aload_n dX11_dropsToMark_12 rfl rfl ?_
    refine J_getR dX11_dropsToMark_13 ck_11 fw_X11_124 rfl sh_489 rr_489_48 ?_
    refine J_aload_n dX11_dropsToMark_16 rfl rfl ?_
    refine J_getI dX11_dropsToMark_17 ck_11 fw_X11_309 rfl sh_489 ?_
    refine J_iconst dX11_dropsToMark_20 (ii_c rfl) ?_
    refine J_isubN dX11_dropsToMark_21 h.1 ?_
    replace h := h.2
    refine J_iald dX11_dropsToMark_22 sh_525 h.1.1 h.1.2 ?_
    replace h := h.2
    refine J_callV (as := [_]) (mc1 := 0) (ms1 := 0) (mc := 0) (ms := 0) dX11_dropsToMark_23 mv_X11_isMark lk_X11_373 sh_489 rfl (Nat.le_of_ble_eq_true rfl) (Nat.le_of_ble_eq_true rfl) h (fun r σ hq _ => ?_)
    obtain ⟨x1, I1, rfl, rfl, h⟩ := hq
    change J _ _ _ _ _ _ _ [vI x1] _ _
    refine J_if_ne (tgt := 36) dX11_dropsToMark_26 (by decide) (fun c => ?_) (fun c => ?_)
    · replace h := h.1 c
      exact J_retv dX11_dropsToMark_36 rfl h
    · replace h := h.2 c
      refine J_aload_n dX11_dropsToMark_29 rfl rfl ?_
      refine J_callV (as := []) (mc1 := 0) (ms1 := 0) (mc := 0) (ms := 0) dX11_dropsToMark_30 mv_X11_drops lk_X11_376 sh_489 rfl (Nat.le_of_ble_eq_true rfl) (Nat.le_of_ble_eq_true rfl) h (fun r σ hq _ => ?_)
      obtain ⟨I2, rfl, rfl, h⟩ := hq
      change J _ _ _ _ _ _ _ [] _ _
      refine J_goto (tgt := 0) dX11_dropsToMark_33 (by decide) ?_
      exact h
