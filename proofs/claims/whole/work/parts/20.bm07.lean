set_option maxRecDepth 20000 in
set_option maxHeartbeats 2000000 in
theorem bk_X11_dawn_0 {d : Nat} {I : HI} {Q : Option AV → AH → Prop} {a1 : Int} {a2 : Int} {a3 : Int}  (h : CI mX11_laneMany d [vR 489] I (fun x1 I1 => (-2147483648 ≤ (oSl 1 x1) - 1 ∧ (oSl 1 x1) - 1 ≤ 2147483647) ∧ CI mX11_isIn d [vL a1, vL 0, vL ((oSl 1 x1) - 1)] I1 (fun x2 I2 => ((x2 = 0 → Q (some (vI (-1))) (mk I2)) ∧ (¬ (x2 = 0) → CI mX11_isIn d [vL a2, vL 0, vL 999] I2 (fun x3 I3 => ((x3 = 0 → Q (some (vI (-1))) (mk I3)) ∧ (¬ (x3 = 0) → CI mX11_saintMany d [vR 489] I3 (fun x4 I4 => ((3 < x4 → Q (some (vI (-1))) (mk I4)) ∧ (¬ (3 < x4) → CI mX11_isIn d [vL a3, vL 0, vL 2] I4 (fun x5 I5 => ((x5 ≠ 0 → CV mX11_options d [vR 489] I5 (fun I6 => J none mX11_dawn (d + 1) 0 0 59 [(0, vR 489), (1, vI a1), (2, vI a2), (3, vI a3), (4, vI 0)] [] (mk I6) Q)) ∧ (x5 = 0 → Q (some (vI (-1))) (mk I5))))))))))))))) : J none mX11_dawn (d + 1) 0 0 0 [(0, vR 489), (1, vI a1), (2, vI a2), (3, vI a3)] [] (mk I) Q := by
  refine J_iload_n dX11_dawn_0 rfl rfl ?_
  refine J_i2l dX11_dawn_1 ?_
  refine J_lconst 0 dX11_dawn_2 (ll_c rfl) (by decide) ?_
  refine J_iconst dX11_dawn_3 (ii_c rfl) ?_
  refine J_aload_n dX11_dawn_4 rfl rfl ?_
  refine J_callV (as := []) (mc1 := 0) (ms1 := 0) (mc := 0) (ms := 0) dX11_dawn_5 mv_X11_laneMany lk_X11_450 sh_489 rfl (Nat.le_of_ble_eq_true rfl) (Nat.le_of_ble_eq_true rfl) h (fun r σ hq _ => ?_)
  obtain ⟨x1, I1, rfl, rfl, h⟩ := hq
  change J _ _ _ _ _ _ _ [vI x1, vI 1, vL 0, vL a1] _ _
  refine J_ishl dX11_dawn_8 ?_
  refine J_iconst dX11_dawn_9 (ii_c rfl) ?_
  refine J_isubN dX11_dawn_10 h.1 ?_
  replace h := h.2
  refine J_i2l dX11_dawn_11 ?_
  refine J_callS (as := [_, _, _]) (mc1 := 0) (ms1 := 0) (mc := 0) (ms := 0) dX11_dawn_12 ms_X11_isIn lk_X11_264 rfl (Nat.le_of_ble_eq_true rfl) (Nat.le_of_ble_eq_true rfl) h (fun r σ hq _ => ?_)
  obtain ⟨x2, I2, rfl, rfl, h⟩ := hq
  change J _ _ _ _ _ _ _ [vI x2] _ _
  refine J_if_eq (tgt := 50) dX11_dawn_15 (by decide) (fun c => ?_) (fun c => ?_)
  · replace h := h.1 c
    refine J_iconst dX11_dawn_50 (ii_c rfl) ?_
    exact J_reti dX11_dawn_51 rfl h
  · replace h := h.2 c
    refine J_iload_n dX11_dawn_18 rfl rfl ?_
    refine J_i2l dX11_dawn_19 ?_
    refine J_lconst 0 dX11_dawn_20 (ll_c rfl) (by decide) ?_
    refine J_ldc2 999 dX11_dawn_21 kw_X11_521 (ll_c rfl) ?_
    refine J_callS (as := [_, _, _]) (mc1 := 0) (ms1 := 0) (mc := 0) (ms := 0) dX11_dawn_24 ms_X11_isIn lk_X11_264 rfl (Nat.le_of_ble_eq_true rfl) (Nat.le_of_ble_eq_true rfl) h (fun r σ hq _ => ?_)
    obtain ⟨x3, I3, rfl, rfl, h⟩ := hq
    change J _ _ _ _ _ _ _ [vI x3] _ _
    refine J_if_eq (tgt := 50) dX11_dawn_27 (by decide) (fun c => ?_) (fun c => ?_)
    · replace h := h.1 c
      refine J_iconst dX11_dawn_50 (ii_c rfl) ?_
      exact J_reti dX11_dawn_51 rfl h
    · replace h := h.2 c
      refine J_aload_n dX11_dawn_30 rfl rfl ?_
      refine J_callV (as := []) (mc1 := 0) (ms1 := 0) (mc := 0) (ms := 0) dX11_dawn_31 mv_X11_saintMany lk_X11_447 sh_489 rfl (Nat.le_of_ble_eq_true rfl) (Nat.le_of_ble_eq_true rfl) h (fun r σ hq _ => ?_)
      obtain ⟨x4, I4, rfl, rfl, h⟩ := hq
      change J _ _ _ _ _ _ _ [vI x4] _ _
      refine J_iconst dX11_dawn_34 (ii_c rfl) ?_
      refine J_ic_gt (tgt := 50) dX11_dawn_35 (by decide) (fun c => ?_) (fun c => ?_)
      · replace h := h.1 c
        refine J_iconst dX11_dawn_50 (ii_c rfl) ?_
        exact J_reti dX11_dawn_51 rfl h
      · replace h := h.2 c
        refine J_iload_n dX11_dawn_38 rfl rfl ?_
        refine J_i2l dX11_dawn_39 ?_
        refine J_lconst 0 dX11_dawn_40 (ll_c rfl) (by decide) ?_
        refine J_ldc2 2 dX11_dawn_41 kw_X11_669 (ll_c rfl) ?_
        refine J_callS (as := [_, _, _]) (mc1 := 0) (ms1 := 0) (mc := 0) (ms := 0) dX11_dawn_44 ms_X11_isIn lk_X11_264 rfl (Nat.le_of_ble_eq_true rfl) (Nat.le_of_ble_eq_true rfl) h (fun r σ hq _ => ?_)
        obtain ⟨x5, I5, rfl, rfl, h⟩ := hq
        change J _ _ _ _ _ _ _ [vI x5] _ _
        refine J_if_ne (tgt := 52) dX11_dawn_47 (by decide) (fun c => ?_) (fun c => ?_)
        · replace h := h.1 c
          refine J_aload_n dX11_dawn_52 rfl rfl ?_
          refine J_callV (as := []) (mc1 := 0) (ms1 := 0) (mc := 0) (ms := 0) dX11_dawn_53 mv_X11_options lk_X11_644 sh_489 rfl (Nat.le_of_ble_eq_true rfl) (Nat.le_of_ble_eq_true rfl) h (fun r σ hq _ => ?_)
          obtain ⟨I6, rfl, rfl, h⟩ := hq
          change J _ _ _ _ _ _ _ [] _ _
          refine J_iconst dX11_dawn_56 (ii_c rfl) ?_
          refine J_istore dX11_dawn_57 (by decide) ?_
          change J _ _ _ _ _ _ [(0, _), (1, _), (2, _), (3, _), (4, _)] _ _ _
          exact h
        · replace h := h.2 c
          refine J_iconst dX11_dawn_50 (ii_c rfl) ?_
          exact J_reti dX11_dawn_51 rfl h
set_option maxRecDepth 20000 in
set_option maxHeartbeats 2000000 in
theorem bk_X11_dawn_59 {d : Nat} {I : HI} {Q : Option AV → AH → Prop} {a1 : Int} {a2 : Int} {a3 : Int} {a4 : Int}  (h : CI mX11_saintMany d [vR 489] I (fun x1 I1 => ((x1 ≤ a4 → CI mX11_saintMany d [vR 489] I1 (fun x2 I2 => J none mX11_dawn (d + 1) 0 0 87 [(0, vR 489), (1, vI a1), (2, vI a2), (3, vI a3), (4, vI x2)] [] (mk I2) Q)) ∧ (¬ (x1 ≤ a4) → CV mX11_dawns d [vR 489, vI a4, vI a2] I1 (fun I3 => (-2147483648 ≤ a4 + 1 ∧ a4 + 1 ≤ 2147483647) ∧ J none mX11_dawn (d + 1) 0 0 59 [(0, vR 489), (1, vI a1), (2, vI a2), (3, vI a3), (4, vI (a4 + 1))] [] (mk I3) Q))))) : J none mX11_dawn (d + 1) 0 0 59 [(0, vR 489), (1, vI a1), (2, vI a2), (3, vI a3), (4, vI a4)] [] (mk I) Q := by
  refine J_iload dX11_dawn_59 rfl ?_
  refine J_aload_n dX11_dawn_61 rfl rfl ?_
  refine J_callV (as := []) (mc1 := 0) (ms1 := 0) (mc := 0) (ms := 0) dX11_dawn_62 mv_X11_saintMany lk_X11_447 sh_489 rfl (Nat.le_of_ble_eq_true rfl) (Nat.le_of_ble_eq_true rfl) h (fun r σ hq _ => ?_)
  obtain ⟨x1, I1, rfl, rfl, h⟩ := hq
  change J _ _ _ _ _ _ _ [vI x1, vI a4] _ _
  refine J_ic_ge (tgt := 81) dX11_dawn_65 (by decide) (fun c => ?_) (fun c => ?_)
  · replace h := h.1 c
    refine J_aload_n dX11_dawn_81 rfl rfl ?_
    refine J_callV (as := []) (mc1 := 0) (ms1 := 0) (mc := 0) (ms := 0) dX11_dawn_82 mv_X11_saintMany lk_X11_447 sh_489 rfl (Nat.le_of_ble_eq_true rfl) (Nat.le_of_ble_eq_true rfl) h (fun r σ hq _ => ?_)
    obtain ⟨x2, I2, rfl, rfl, h⟩ := hq
    change J _ _ _ _ _ _ _ [vI x2] _ _
    refine J_istore dX11_dawn_85 (by decide) ?_
    change J _ _ _ _ _ _ [(0, _), (1, _), (2, _), (3, _), (4, _)] _ _ _
    exact h
  · replace h := h.2 c
    refine J_aload_n dX11_dawn_68 rfl rfl ?_
    refine J_iload dX11_dawn_69 rfl ?_
    refine J_iload_n dX11_dawn_71 rfl rfl ?_
    refine J_callV (as := [_, _]) (mc1 := 0) (ms1 := 0) (mc := 0) (ms := 0) dX11_dawn_72 mv_X11_dawns lk_X11_671 sh_489 rfl (Nat.le_of_ble_eq_true rfl) (Nat.le_of_ble_eq_true rfl) h (fun r σ hq _ => ?_)
    obtain ⟨I3, rfl, rfl, h⟩ := hq
    change J _ _ _ _ _ _ _ [] _ _
    refine J_iincN dX11_dawn_75 rfl (by decide) h.1 ?_
    replace h := h.2
    change J _ _ _ _ _ _ [(0, _), (1, _), (2, _), (3, _), (4, _)] _ _ _
    refine J_goto (tgt := 59) dX11_dawn_78 (by decide) ?_
    exact h
set_option maxRecDepth 20000 in
set_option maxHeartbeats 2000000 in
theorem bk_X11_dawn_87 {d : Nat} {I : HI} {Q : Option AV → AH → Prop} {a1 : Int} {a2 : Int} {a3 : Int} {a4 : Int}  (h : ((3 ≤ a4 → CI mX11_laneMany d [vR 489] I (fun x1 I1 => (-2147483648 ≤ (oSl 1 x1) - 1 ∧ (oSl 1 x1) - 1 ≤ 2147483647) ∧ CI mX11_everybody d [vR 489] I1 (fun x2 I2 => J none mX11_dawn (d + 1) 0 0 143 [(0, vR 489), (1, vI a1), (2, vI a2), (3, vI a3), (4, vI 0), (5, vI ((oSl 1 x1) - 1)), (6, vI x2), (7, vI 0)] [] (mk I2) Q))) ∧ (¬ (3 ≤ a4) → (-2147483648 ≤ 61 * a4 ∧ 61 * a4 ≤ 2147483647) ∧ ((0 : Int) ≤ (61 * a4) ∧ (61 * a4 : Int) < 183) ∧ (∀ I3 : HI, I3 = up I 554 (61 * a4).toNat 0 → (-2147483648 ≤ 61 * a4 ∧ 61 * a4 ≤ 2147483647) ∧ ((0 : Int) ≤ (61 * a4) ∧ (61 * a4 : Int) < 183) ∧ (∀ I4 : HI, I4 = up I3 555 (61 * a4).toNat 0 → (-2147483648 ≤ a4 + 1 ∧ a4 + 1 ≤ 2147483647) ∧ J none mX11_dawn (d + 1) 0 0 87 [(0, vR 489), (1, vI a1), (2, vI a2), (3, vI a3), (4, vI (a4 + 1))] [] (mk I4) Q))))) : J none mX11_dawn (d + 1) 0 0 87 [(0, vR 489), (1, vI a1), (2, vI a2), (3, vI a3), (4, vI a4)] [] (mk I) Q := by
  refine J_iload dX11_dawn_87 rfl ?_
  refine J_iconst dX11_dawn_89 (ii_c rfl) ?_
  refine J_ic_ge (tgt := 121) dX11_dawn_90 (by decide) (fun c => ?_) (fun c => ?_)
  · replace h := h.1 c
    refine J_iconst dX11_dawn_121 (ii_c rfl) ?_
    refine J_istore dX11_dawn_122 (by decide) ?_
    change J _ _ _ _ _ _ [(0, _), (1, _), (2, _), (3, _), (4, _)] _ _ _
    refine J_iconst dX11_dawn_124 (ii_c rfl) ?_
    refine J_aload_n dX11_dawn_125 rfl rfl ?_
    refine J_callV (as := []) (mc1 := 0) (ms1 := 0) (mc := 0) (ms := 0) dX11_dawn_126 mv_X11_laneMany lk_X11_450 sh_489 rfl (Nat.le_of_ble_eq_true rfl) (Nat.le_of_ble_eq_true rfl) h (fun r σ hq _ => ?_)
    obtain ⟨x1, I1, rfl, rfl, h⟩ := hq
    change J _ _ _ _ _ _ _ [vI x1, vI 1] _ _
    refine J_ishl dX11_dawn_129 ?_
    refine J_iconst dX11_dawn_130 (ii_c rfl) ?_
    refine J_isubN dX11_dawn_131 h.1 ?_
    replace h := h.2
    refine J_istore dX11_dawn_132 (by decide) ?_
    change J _ _ _ _ _ _ [(0, _), (1, _), (2, _), (3, _), (4, _), (5, _)] _ _ _
    refine J_aload_n dX11_dawn_134 rfl rfl ?_
    refine J_callV (as := []) (mc1 := 0) (ms1 := 0) (mc := 0) (ms := 0) dX11_dawn_135 mv_X11_everybody lk_X11_647 sh_489 rfl (Nat.le_of_ble_eq_true rfl) (Nat.le_of_ble_eq_true rfl) h (fun r σ hq _ => ?_)
    obtain ⟨x2, I2, rfl, rfl, h⟩ := hq
    change J _ _ _ _ _ _ _ [vI x2] _ _
    refine J_istore dX11_dawn_138 (by decide) ?_
    change J _ _ _ _ _ _ [(0, _), (1, _), (2, _), (3, _), (4, _), (5, _), (6, _)] _ _ _
    refine J_iconst dX11_dawn_140 (ii_c rfl) ?_
    refine J_istore dX11_dawn_141 (by decide) ?_
    change J _ _ _ _ _ _ [(0, _), (1, _), (2, _), (3, _), (4, _), (5, _), (6, _), (7, _)] _ _ _
    exact h
  · replace h := h.2 c
    refine J_aload_n dX11_dawn_93 rfl rfl ?_
    refine J_getR dX11_dawn_94 ck_11 fw_X11_212 rfl sh_489 rr_489_87 ?_
    refine J_bipush dX11_dawn_97 (ii_c rfl) (by decide) ?_
    refine J_iload dX11_dawn_99 rfl ?_
    refine J_imulN dX11_dawn_101 h.1 ?_
    replace h := h.2
    refine J_iconst dX11_dawn_102 (ii_c rfl) ?_
    refine J_iast dX11_dawn_103 sh_554 h.1.1 h.1.2 ?_
    replace h := h.2 _ rfl
    refine J_aload_n dX11_dawn_104 rfl rfl ?_
    refine J_getR dX11_dawn_105 ck_11 fw_X11_215 rfl sh_489 rr_489_88 ?_
    refine J_bipush dX11_dawn_108 (ii_c rfl) (by decide) ?_
    refine J_iload dX11_dawn_110 rfl ?_
    refine J_imulN dX11_dawn_112 h.1 ?_
    replace h := h.2
    refine J_iconst dX11_dawn_113 (ii_c rfl) ?_
    refine J_iast dX11_dawn_114 sh_555 h.1.1 h.1.2 ?_
    replace h := h.2 _ rfl
    refine J_iincN dX11_dawn_115 rfl (by decide) h.1 ?_
    replace h := h.2
    change J _ _ _ _ _ _ [(0, _), (1, _), (2, _), (3, _), (4, _)] _ _ _
    refine J_goto (tgt := 87) dX11_dawn_118 (by decide) ?_
    exact h
set_option maxRecDepth 20000 in
set_option maxHeartbeats 2000000 in
theorem bk_X11_dawn_143 {d : Nat} {I : HI} {Q : Option AV → AH → Prop} {a1 : Int} {a2 : Int} {a3 : Int} {a4 : Int} {a5 : Int} {a6 : Int} {a7 : Int}  (h : CI mX11_choicesOf d [vR 489, vI 0] I (fun x1 I1 => ((x1 ≤ a7 → ((a3 ≠ 0 → ((a4 ≠ 0 → ((a3 ≠ 1 → Q (some (vI a6)) (mk I1)) ∧ (a3 = 1 → Q (some (vI a5)) (mk I1)))) ∧ (a4 = 0 → Q (some (vI 0)) (mk I1)))) ∧ (a3 = 0 → Q (some (vI a4)) (mk I1)))) ∧ (¬ (x1 ≤ a7) → J none mX11_dawn (d + 1) 0 0 156 [(0, vR 489), (1, vI a1), (2, vI a2), (3, vI a3), (4, vI a4), (5, vI a5), (6, vI a6), (7, vI a7), (8, vI 0)] [] (mk I1) Q)))) : J none mX11_dawn (d + 1) 0 0 143 [(0, vR 489), (1, vI a1), (2, vI a2), (3, vI a3), (4, vI a4), (5, vI a5), (6, vI a6), (7, vI a7)] [] (mk I) Q := by
  refine J_iload dX11_dawn_143 rfl ?_
  refine J_aload_n dX11_dawn_145 rfl rfl ?_
  refine J_iconst dX11_dawn_146 (ii_c rfl) ?_
  refine J_callV (as := [_]) (mc1 := 0) (ms1 := 0) (mc := 0) (ms := 0) dX11_dawn_147 mv_X11_choicesOf lk_X11_674 sh_489 rfl (Nat.le_of_ble_eq_true rfl) (Nat.le_of_ble_eq_true rfl) h (fun r σ hq _ => ?_)
  obtain ⟨x1, I1, rfl, rfl, h⟩ := hq
  change J _ _ _ _ _ _ _ [vI x1, vI a7] _ _
  refine J_ic_ge (tgt := 309) dX11_dawn_150 (by decide) (fun c => ?_) (fun c => ?_)
  · replace h := h.1 c
    refine J_iload_n dX11_dawn_309 rfl rfl ?_
    refine J_if_ne (tgt := 316) dX11_dawn_310 (by decide) (fun c => ?_) (fun c => ?_)
    · replace h := h.1 c
      refine J_iload dX11_dawn_316 rfl ?_
      refine J_if_ne (tgt := 325) dX11_dawn_318 (by decide) (fun c => ?_) (fun c => ?_)
      · replace h := h.1 c
        refine J_iload_n dX11_dawn_325 rfl rfl ?_
        refine J_iconst dX11_dawn_326 (ii_c rfl) ?_
        refine J_ic_ne (tgt := 335) dX11_dawn_327 (by decide) (fun c => ?_) (fun c => ?_)
        · replace h := h.1 c
          refine J_iload dX11_dawn_335 rfl ?_
          exact J_reti dX11_dawn_337 rfl h
        · replace h := h.2 c
          refine J_iload dX11_dawn_330 rfl ?_
          refine J_goto (tgt := 337) dX11_dawn_332 (by decide) ?_
          exact J_reti dX11_dawn_337 rfl h
      · replace h := h.2 c
        refine J_iconst dX11_dawn_321 (ii_c rfl) ?_
        refine J_goto (tgt := 337) dX11_dawn_322 (by decide) ?_
        exact J_reti dX11_dawn_337 rfl h
    · replace h := h.2 c
      refine J_iload dX11_dawn_313 rfl ?_
      exact J_reti dX11_dawn_315 rfl h
  · replace h := h.2 c
    refine J_iconst dX11_dawn_153 (ii_c rfl) ?_
    refine J_istore dX11_dawn_154 (by decide) ?_
    change J _ _ _ _ _ _ [(0, _), (1, _), (2, _), (3, _), (4, _), (5, _), (6, _), (7, _), (8, _)] _ _ _
    exact h
set_option maxRecDepth 20000 in
set_option maxHeartbeats 2000000 in
theorem bk_X11_dawn_156 {d : Nat} {I : HI} {Q : Option AV → AH → Prop} {a1 : Int} {a2 : Int} {a3 : Int} {a4 : Int} {a5 : Int} {a6 : Int} {a7 : Int} {a8 : Int}  (h : CI mX11_choicesOf d [vR 489, vI 1] I (fun x1 I1 => ((x1 ≤ a8 → (-2147483648 ≤ a7 + 1 ∧ a7 + 1 ≤ 2147483647) ∧ J none mX11_dawn (d + 1) 0 0 143 [(0, vR 489), (1, vI a1), (2, vI a2), (3, vI a3), (4, vI a4), (5, vI a5), (6, vI a6), (7, vI (a7 + 1))] [] (mk I1) Q) ∧ (¬ (x1 ≤ a8) → J none mX11_dawn (d + 1) 0 0 169 [(0, vR 489), (1, vI a1), (2, vI a2), (3, vI a3), (4, vI a4), (5, vI a5), (6, vI a6), (7, vI a7), (8, vI a8), (9, vI 0)] [] (mk I1) Q)))) : J none mX11_dawn (d + 1) 0 0 156 [(0, vR 489), (1, vI a1), (2, vI a2), (3, vI a3), (4, vI a4), (5, vI a5), (6, vI a6), (7, vI a7), (8, vI a8)] [] (mk I) Q := by
  refine J_iload dX11_dawn_156 rfl ?_
  refine J_aload_n dX11_dawn_158 rfl rfl ?_
  refine J_iconst dX11_dawn_159 (ii_c rfl) ?_
  refine J_callV (as := [_]) (mc1 := 0) (ms1 := 0) (mc := 0) (ms := 0) dX11_dawn_160 mv_X11_choicesOf lk_X11_674 sh_489 rfl (Nat.le_of_ble_eq_true rfl) (Nat.le_of_ble_eq_true rfl) h (fun r σ hq _ => ?_)
  obtain ⟨x1, I1, rfl, rfl, h⟩ := hq
  change J _ _ _ _ _ _ _ [vI x1, vI a8] _ _
  refine J_ic_ge (tgt := 303) dX11_dawn_163 (by decide) (fun c => ?_) (fun c => ?_)
  · replace h := h.1 c
    refine J_iincN dX11_dawn_303 rfl (by decide) h.1 ?_
    replace h := h.2
    change J _ _ _ _ _ _ [(0, _), (1, _), (2, _), (3, _), (4, _), (5, _), (6, _), (7, _), (8, _)] _ _ _
    refine J_goto (tgt := 143) dX11_dawn_306 (by decide) ?_
    exact J_loc (ls_sub [0, 1, 2, 3, 4, 5, 6, 7] rfl) h
  · replace h := h.2 c
    refine J_iconst dX11_dawn_166 (ii_c rfl) ?_
    refine J_istore dX11_dawn_167 (by decide) ?_
    change J _ _ _ _ _ _ [(0, _), (1, _), (2, _), (3, _), (4, _), (5, _), (6, _), (7, _), (8, _), (9, _)] _ _ _
    exact h
set_option maxRecDepth 20000 in
set_option maxHeartbeats 2000000 in
theorem bk_X11_dawn_169 {d : Nat} {I : HI} {Q : Option AV → AH → Prop} {a1 : Int} {a2 : Int} {a3 : Int} {a4 : Int} {a5 : Int} {a6 : Int} {a7 : Int} {a8 : Int} {a9 : Int}  (h : CI mX11_choicesOf d [vR 489, vI 2] I (fun x1 I1 => ((x1 ≤ a9 → (-2147483648 ≤ a8 + 1 ∧ a8 + 1 ≤ 2147483647) ∧ J none mX11_dawn (d + 1) 0 0 156 [(0, vR 489), (1, vI a1), (2, vI a2), (3, vI a3), (4, vI a4), (5, vI a5), (6, vI a6), (7, vI a7), (8, vI (a8 + 1))] [] (mk I1) Q) ∧ (¬ (x1 ≤ a9) → (-2147483648 ≤ 61 + a8 ∧ 61 + a8 ≤ 2147483647) ∧ (-2147483648 ≤ 122 + a9 ∧ 122 + a9 ≤ 2147483647) ∧ ((0 : Int) ≤ a7 ∧ (a7 : Int) < 183) ∧ ((0 : Int) ≤ (61 + a8) ∧ (61 + a8 : Int) < 183) ∧ ((0 : Int) ≤ (122 + a9) ∧ (122 + a9 : Int) < 183) ∧ (((oO (oO (I1 554 a7.toNat) (I1 554 (61 + a8).toNat)) (I1 554 (122 + a9).toNat)) = a1 → (-2147483648 ≤ a4 + 1 ∧ a4 + 1 ≤ 2147483647) ∧ ((0 : Int) ≤ a7 ∧ (a7 : Int) < 183) ∧ ((0 : Int) ≤ (61 + a8) ∧ (61 + a8 : Int) < 183) ∧ ((0 : Int) ≤ (122 + a9) ∧ (122 + a9 : Int) < 183) ∧ ((a7 ≠ 0 → ((a8 ≠ 0 → ((a9 ≠ 0 → (-2147483648 ≤ a9 + 1 ∧ a9 + 1 ≤ 2147483647) ∧ J none mX11_dawn (d + 1) 0 0 169 [(0, vR 489), (1, vI a1), (2, vI a2), (3, vI a3), (4, vI (a4 + 1)), (5, vI (oA a5 (oO (oO (I1 555 a7.toNat) (I1 555 (61 + a8).toNat)) (I1 555 (122 + a9).toNat)))), (6, vI (oA a6 0)), (7, vI a7), (8, vI a8), (9, vI (a9 + 1))] [] (mk I1) Q) ∧ (a9 = 0 → (-2147483648 ≤ a9 + 1 ∧ a9 + 1 ≤ 2147483647) ∧ J none mX11_dawn (d + 1) 0 0 169 [(0, vR 489), (1, vI a1), (2, vI a2), (3, vI a3), (4, vI (a4 + 1)), (5, vI (oA a5 (oO (oO (I1 555 a7.toNat) (I1 555 (61 + a8).toNat)) (I1 555 (122 + a9).toNat)))), (6, vI (oA a6 4)), (7, vI a7), (8, vI a8), (9, vI (a9 + 1))] [] (mk I1) Q))) ∧ (a8 = 0 → ((a9 ≠ 0 → (-2147483648 ≤ a9 + 1 ∧ a9 + 1 ≤ 2147483647) ∧ J none mX11_dawn (d + 1) 0 0 169 [(0, vR 489), (1, vI a1), (2, vI a2), (3, vI a3), (4, vI (a4 + 1)), (5, vI (oA a5 (oO (oO (I1 555 a7.toNat) (I1 555 (61 + a8).toNat)) (I1 555 (122 + a9).toNat)))), (6, vI (oA a6 2)), (7, vI a7), (8, vI a8), (9, vI (a9 + 1))] [] (mk I1) Q) ∧ (a9 = 0 → (-2147483648 ≤ a9 + 1 ∧ a9 + 1 ≤ 2147483647) ∧ J none mX11_dawn (d + 1) 0 0 169 [(0, vR 489), (1, vI a1), (2, vI a2), (3, vI a3), (4, vI (a4 + 1)), (5, vI (oA a5 (oO (oO (I1 555 a7.toNat) (I1 555 (61 + a8).toNat)) (I1 555 (122 + a9).toNat)))), (6, vI (oA a6 6)), (7, vI a7), (8, vI a8), (9, vI (a9 + 1))] [] (mk I1) Q))))) ∧ (a7 = 0 → ((a8 ≠ 0 → ((a9 ≠ 0 → (-2147483648 ≤ a9 + 1 ∧ a9 + 1 ≤ 2147483647) ∧ J none mX11_dawn (d + 1) 0 0 169 [(0, vR 489), (1, vI a1), (2, vI a2), (3, vI a3), (4, vI (a4 + 1)), (5, vI (oA a5 (oO (oO (I1 555 a7.toNat) (I1 555 (61 + a8).toNat)) (I1 555 (122 + a9).toNat)))), (6, vI (oA a6 1)), (7, vI a7), (8, vI a8), (9, vI (a9 + 1))] [] (mk I1) Q) ∧ (a9 = 0 → (-2147483648 ≤ a9 + 1 ∧ a9 + 1 ≤ 2147483647) ∧ J none mX11_dawn (d + 1) 0 0 169 [(0, vR 489), (1, vI a1), (2, vI a2), (3, vI a3), (4, vI (a4 + 1)), (5, vI (oA a5 (oO (oO (I1 555 a7.toNat) (I1 555 (61 + a8).toNat)) (I1 555 (122 + a9).toNat)))), (6, vI (oA a6 5)), (7, vI a7), (8, vI a8), (9, vI (a9 + 1))] [] (mk I1) Q))) ∧ (a8 = 0 → ((a9 ≠ 0 → (-2147483648 ≤ a9 + 1 ∧ a9 + 1 ≤ 2147483647) ∧ J none mX11_dawn (d + 1) 0 0 169 [(0, vR 489), (1, vI a1), (2, vI a2), (3, vI a3), (4, vI (a4 + 1)), (5, vI (oA a5 (oO (oO (I1 555 a7.toNat) (I1 555 (61 + a8).toNat)) (I1 555 (122 + a9).toNat)))), (6, vI (oA a6 3)), (7, vI a7), (8, vI a8), (9, vI (a9 + 1))] [] (mk I1) Q) ∧ (a9 = 0 → (-2147483648 ≤ a9 + 1 ∧ a9 + 1 ≤ 2147483647) ∧ J none mX11_dawn (d + 1) 0 0 169 [(0, vR 489), (1, vI a1), (2, vI a2), (3, vI a3), (4, vI (a4 + 1)), (5, vI (oA a5 (oO (oO (I1 555 a7.toNat) (I1 555 (61 + a8).toNat)) (I1 555 (122 + a9).toNat)))), (6, vI (oA a6 7)), (7, vI a7), (8, vI a8), (9, vI (a9 + 1))] [] (mk I1) Q))))))) ∧ (¬ ((oO (oO (I1 554 a7.toNat) (I1 554 (61 + a8).toNat)) (I1 554 (122 + a9).toNat)) = a1) → (-2147483648 ≤ a9 + 1 ∧ a9 + 1 ≤ 2147483647) ∧ J none mX11_dawn (d + 1) 0 0 169 [(0, vR 489), (1, vI a1), (2, vI a2), (3, vI a3), (4, vI a4), (5, vI a5), (6, vI a6), (7, vI a7), (8, vI a8), (9, vI (a9 + 1))] [] (mk I1) Q)))))) : J none mX11_dawn (d + 1) 0 0 169 [(0, vR 489), (1, vI a1), (2, vI a2), (3, vI a3), (4, vI a4), (5, vI a5), (6, vI a6), (7, vI a7), (8, vI a8), (9, vI a9)] [] (mk I) Q := by
  refine J_iload dX11_dawn_169 rfl ?_
  refine J_aload_n dX11_dawn_171 rfl rfl ?_
  refine J_iconst dX11_dawn_172 (ii_c rfl) ?_
  refine J_callV (as := [_]) (mc1 := 0) (ms1 := 0) (mc := 0) (ms := 0) dX11_dawn_173 mv_X11_choicesOf lk_X11_674 sh_489 rfl (Nat.le_of_ble_eq_true rfl) (Nat.le_of_ble_eq_true rfl) h (fun r σ hq _ => ?_)
  obtain ⟨x1, I1, rfl, rfl, h⟩ := hq
  change J _ _ _ _ _ _ _ [vI x1, vI a9] _ _
  refine J_ic_ge (tgt := 297) dX11_dawn_176 (by decide) (fun c => ?_) (fun c => ?_)
  · replace h := h.1 c
    refine J_iincN dX11_dawn_297 rfl (by decide) h.1 ?_
    replace h := h.2
    change J _ _ _ _ _ _ [(0, _), (1, _), (2, _), (3, _), (4, _), (5, _), (6, _), (7, _), (8, _), (9, _)] _ _ _
    refine J_goto (tgt := 156) dX11_dawn_300 (by decide) ?_
    exact J_loc (ls_sub [0, 1, 2, 3, 4, 5, 6, 7, 8] rfl) h
  · replace h := h.2 c
    refine J_bipush dX11_dawn_179 (ii_c rfl) (by decide) ?_
    refine J_iload dX11_dawn_181 rfl ?_
    refine J_iaddN dX11_dawn_183 h.1 ?_
    replace h := h.2
    refine J_istore dX11_dawn_184 (by decide) ?_
    change J _ _ _ _ _ _ [(0, _), (1, _), (2, _), (3, _), (4, _), (5, _), (6, _), (7, _), (8, _), (9, _), (10, _)] _ _ _
    refine J_bipush dX11_dawn_186 (ii_c rfl) (by decide) ?_
    refine J_iload dX11_dawn_188 rfl ?_
    refine J_iaddN dX11_dawn_190 h.1 ?_
    replace h := h.2
    refine J_istore dX11_dawn_191 (by decide) ?_
    change J _ _ _ _ _ _ [(0, _), (1, _), (2, _), (3, _), (4, _), (5, _), (6, _), (7, _), (8, _), (9, _), (10, _), (11, _)] _ _ _
    refine J_aload_n dX11_dawn_193 rfl rfl ?_
    refine J_getR dX11_dawn_194 ck_11 fw_X11_212 rfl sh_489 rr_489_87 ?_
    refine J_iload dX11_dawn_197 rfl ?_
    refine J_iald dX11_dawn_199 sh_554 h.1.1 h.1.2 ?_
    replace h := h.2
    refine J_aload_n dX11_dawn_200 rfl rfl ?_
    refine J_getR dX11_dawn_201 ck_11 fw_X11_212 rfl sh_489 rr_489_87 ?_
    refine J_iload dX11_dawn_204 rfl ?_
    refine J_iald dX11_dawn_206 sh_554 h.1.1 h.1.2 ?_
    replace h := h.2
    refine J_ior dX11_dawn_207 ?_
    refine J_aload_n dX11_dawn_208 rfl rfl ?_
    refine J_getR dX11_dawn_209 ck_11 fw_X11_212 rfl sh_489 rr_489_87 ?_
    refine J_iload dX11_dawn_212 rfl ?_
    refine J_iald dX11_dawn_214 sh_554 h.1.1 h.1.2 ?_
    replace h := h.2
    refine J_ior dX11_dawn_215 ?_
    refine J_iload_n dX11_dawn_216 rfl rfl ?_
    refine J_ic_eq (tgt := 223) dX11_dawn_217 (by decide) (fun c => ?_) (fun c => ?_)
    · replace h := h.1 c
      refine J_iincN dX11_dawn_223 rfl (by decide) h.1 ?_
      replace h := h.2
      change J _ _ _ _ _ _ [(0, _), (1, _), (2, _), (3, _), (4, _), (5, _), (6, _), (7, _), (8, _), (9, _), (10, _), (11, _)] _ _ _
      refine J_iload dX11_dawn_226 rfl ?_
      refine J_aload_n dX11_dawn_228 rfl rfl ?_
      refine J_getR dX11_dawn_229 ck_11 fw_X11_215 rfl sh_489 rr_489_88 ?_
      refine J_iload dX11_dawn_232 rfl ?_
      refine J_iald dX11_dawn_234 sh_555 h.1.1 h.1.2 ?_
      replace h := h.2
      refine J_aload_n dX11_dawn_235 rfl rfl ?_
      refine J_getR dX11_dawn_236 ck_11 fw_X11_215 rfl sh_489 rr_489_88 ?_
      refine J_iload dX11_dawn_239 rfl ?_
      refine J_iald dX11_dawn_241 sh_555 h.1.1 h.1.2 ?_
      replace h := h.2
      refine J_ior dX11_dawn_242 ?_
      refine J_aload_n dX11_dawn_243 rfl rfl ?_
      refine J_getR dX11_dawn_244 ck_11 fw_X11_215 rfl sh_489 rr_489_88 ?_
      refine J_iload dX11_dawn_247 rfl ?_
      refine J_iald dX11_dawn_249 sh_555 h.1.1 h.1.2 ?_
      replace h := h.2
      refine J_ior dX11_dawn_250 ?_
      refine J_iand dX11_dawn_251 ?_
      refine J_istore dX11_dawn_252 (by decide) ?_
      change J _ _ _ _ _ _ [(0, _), (1, _), (2, _), (3, _), (4, _), (5, _), (6, _), (7, _), (8, _), (9, _), (10, _), (11, _)] _ _ _
      refine J_iload dX11_dawn_254 rfl ?_
      refine J_iload dX11_dawn_256 rfl ?_
      refine J_if_ne (tgt := 265) dX11_dawn_258 (by decide) (fun c => ?_) (fun c => ?_)
      · replace h := h.1 c
        refine J_iconst dX11_dawn_265 (ii_c rfl) ?_
        refine J_iload dX11_dawn_266 rfl ?_
        refine J_if_ne (tgt := 275) dX11_dawn_268 (by decide) (fun c => ?_) (fun c => ?_)
        · replace h := h.1 c
          refine J_iconst dX11_dawn_275 (ii_c rfl) ?_
          refine J_iaddN dX11_dawn_276 (by decide) ?_
          refine J_iload dX11_dawn_277 rfl ?_
          refine J_if_ne (tgt := 286) dX11_dawn_279 (by decide) (fun c => ?_) (fun c => ?_)
          · replace h := h.1 c
            refine J_iconst dX11_dawn_286 (ii_c rfl) ?_
            refine J_iaddN dX11_dawn_287 (by decide) ?_
            refine J_iand dX11_dawn_288 ?_
            refine J_istore dX11_dawn_289 (by decide) ?_
            change J _ _ _ _ _ _ [(0, _), (1, _), (2, _), (3, _), (4, _), (5, _), (6, _), (7, _), (8, _), (9, _), (10, _), (11, _)] _ _ _
            refine J_iincN dX11_dawn_291 rfl (by decide) h.1 ?_
            replace h := h.2
            change J _ _ _ _ _ _ [(0, _), (1, _), (2, _), (3, _), (4, _), (5, _), (6, _), (7, _), (8, _), (9, _), (10, _), (11, _)] _ _ _
            refine J_goto (tgt := 169) dX11_dawn_294 (by decide) ?_
            exact J_loc (ls_sub [0, 1, 2, 3, 4, 5, 6, 7, 8, 9] rfl) h
          · replace h := h.2 c
            refine J_iconst dX11_dawn_282 (ii_c rfl) ?_
            refine J_goto (tgt := 287) dX11_dawn_283 (by decide) ?_
            refine J_iaddN dX11_dawn_287 (by decide) ?_
            refine J_iand dX11_dawn_288 ?_
            refine J_istore dX11_dawn_289 (by decide) ?_
            change J _ _ _ _ _ _ [(0, _), (1, _), (2, _), (3, _), (4, _), (5, _), (6, _), (7, _), (8, _), (9, _), (10, _), (11, _)] _ _ _
            refine J_iincN dX11_dawn_291 rfl (by decide) h.1 ?_
            replace h := h.2
            change J _ _ _ _ _ _ [(0, _), (1, _), (2, _), (3, _), (4, _), (5, _), (6, _), (7, _), (8, _), (9, _), (10, _), (11, _)] _ _ _
            refine J_goto (tgt := 169) dX11_dawn_294 (by decide) ?_
            exact J_loc (ls_sub [0, 1, 2, 3, 4, 5, 6, 7, 8, 9] rfl) h
        · replace h := h.2 c
          refine J_iconst dX11_dawn_271 (ii_c rfl) ?_
          refine J_goto (tgt := 276) dX11_dawn_272 (by decide) ?_
          refine J_iaddN dX11_dawn_276 (by decide) ?_
          refine J_iload dX11_dawn_277 rfl ?_
          refine J_if_ne (tgt := 286) dX11_dawn_279 (by decide) (fun c => ?_) (fun c => ?_)
          · replace h := h.1 c
            refine J_iconst dX11_dawn_286 (ii_c rfl) ?_
            refine J_iaddN dX11_dawn_287 (by decide) ?_
            refine J_iand dX11_dawn_288 ?_
            refine J_istore dX11_dawn_289 (by decide) ?_
            change J _ _ _ _ _ _ [(0, _), (1, _), (2, _), (3, _), (4, _), (5, _), (6, _), (7, _), (8, _), (9, _), (10, _), (11, _)] _ _ _
            refine J_iincN dX11_dawn_291 rfl (by decide) h.1 ?_
            replace h := h.2
            change J _ _ _ _ _ _ [(0, _), (1, _), (2, _), (3, _), (4, _), (5, _), (6, _), (7, _), (8, _), (9, _), (10, _), (11, _)] _ _ _
            refine J_goto (tgt := 169) dX11_dawn_294 (by decide) ?_
            exact J_loc (ls_sub [0, 1, 2, 3, 4, 5, 6, 7, 8, 9] rfl) h
          · replace h := h.2 c
            refine J_iconst dX11_dawn_282 (ii_c rfl) ?_
            refine J_goto (tgt := 287) dX11_dawn_283 (by decide) ?_
            refine J_iaddN dX11_dawn_287 (by decide) ?_
            refine J_iand dX11_dawn_288 ?_
            refine J_istore dX11_dawn_289 (by decide) ?_
            change J _ _ _ _ _ _ [(0, _), (1, _), (2, _), (3, _), (4, _), (5, _), (6, _), (7, _), (8, _), (9, _), (10, _), (11, _)] _ _ _
            refine J_iincN dX11_dawn_291 rfl (by decide) h.1 ?_
            replace h := h.2
            change J _ _ _ _ _ _ [(0, _), (1, _), (2, _), (3, _), (4, _), (5, _), (6, _), (7, _), (8, _), (9, _), (10, _), (11, _)] _ _ _
            refine J_goto (tgt := 169) dX11_dawn_294 (by decide) ?_
            exact J_loc (ls_sub [0, 1, 2, 3, 4, 5, 6, 7, 8, 9] rfl) h
      · replace h := h.2 c
        refine J_iconst dX11_dawn_261 (ii_c rfl) ?_
        refine J_goto (tgt := 266) dX11_dawn_262 (by decide) ?_
        refine J_iload dX11_dawn_266 rfl ?_
        refine J_if_ne (tgt := 275) dX11_dawn_268 (by decide) (fun c => ?_) (fun c => ?_)
        · replace h := h.1 c
          refine J_iconst dX11_dawn_275 (ii_c rfl) ?_
          refine J_iaddN dX11_dawn_276 (by decide) ?_
          refine J_iload dX11_dawn_277 rfl ?_
          refine J_if_ne (tgt := 286) dX11_dawn_279 (by decide) (fun c => ?_) (fun c => ?_)
          · replace h := h.1 c
            refine J_iconst dX11_dawn_286 (ii_c rfl) ?_
            refine J_iaddN dX11_dawn_287 (by decide) ?_
            refine J_iand dX11_dawn_288 ?_
            refine J_istore dX11_dawn_289 (by decide) ?_
            change J _ _ _ _ _ _ [(0, _), (1, _), (2, _), (3, _), (4, _), (5, _), (6, _), (7, _), (8, _), (9, _), (10, _), (11, _)] _ _ _
            refine J_iincN dX11_dawn_291 rfl (by decide) h.1 ?_
            replace h := h.2
            change J _ _ _ _ _ _ [(0, _), (1, _), (2, _), (3, _), (4, _), (5, _), (6, _), (7, _), (8, _), (9, _), (10, _), (11, _)] _ _ _
            refine J_goto (tgt := 169) dX11_dawn_294 (by decide) ?_
            exact J_loc (ls_sub [0, 1, 2, 3, 4, 5, 6, 7, 8, 9] rfl) h
          · replace h := h.2 c
            refine J_iconst dX11_dawn_282 (ii_c rfl) ?_
            refine J_goto (tgt := 287) dX11_dawn_283 (by decide) ?_
            refine J_iaddN dX11_dawn_287 (by decide) ?_
            refine J_iand dX11_dawn_288 ?_
            refine J_istore dX11_dawn_289 (by decide) ?_
            change J _ _ _ _ _ _ [(0, _), (1, _), (2, _), (3, _), (4, _), (5, _), (6, _), (7, _), (8, _), (9, _), (10, _), (11, _)] _ _ _
            refine J_iincN dX11_dawn_291 rfl (by decide) h.1 ?_
            replace h := h.2
            change J _ _ _ _ _ _ [(0, _), (1, _), (2, _), (3, _), (4, _), (5, _), (6, _), (7, _), (8, _), (9, _), (10, _), (11, _)] _ _ _
            refine J_goto (tgt := 169) dX11_dawn_294 (by decide) ?_
            exact J_loc (ls_sub [0, 1, 2, 3, 4, 5, 6, 7, 8, 9] rfl) h
        · replace h := h.2 c
          refine J_iconst dX11_dawn_271 (ii_c rfl) ?_
          refine J_goto (tgt := 276) dX11_dawn_272 (by decide) ?_
          refine J_iaddN dX11_dawn_276 (by decide) ?_
          refine J_iload dX11_dawn_277 rfl ?_
          refine J_if_ne (tgt := 286) dX11_dawn_279 (by decide) (fun c => ?_) (fun c => ?_)
          · replace h := h.1 c
            refine J_iconst dX11_dawn_286 (ii_c rfl) ?_
            refine J_iaddN dX11_dawn_287 (by decide) ?_
            refine J_iand dX11_dawn_288 ?_
            refine J_istore dX11_dawn_289 (by decide) ?_
            change J _ _ _ _ _ _ [(0, _), (1, _), (2, _), (3, _), (4, _), (5, _), (6, _), (7, _), (8, _), (9, _), (10, _), (11, _)] _ _ _
            refine J_iincN dX11_dawn_291 rfl (by decide) h.1 ?_
            replace h := h.2
            change J _ _ _ _ _ _ [(0, _), (1, _), (2, _), (3, _), (4, _), (5, _), (6, _), (7, _), (8, _), (9, _), (10, _), (11, _)] _ _ _
            refine J_goto (tgt := 169) dX11_dawn_294 (by decide) ?_
            exact J_loc (ls_sub [0, 1, 2, 3, 4, 5, 6, 7, 8, 9] rfl) h
          · replace h := h.2 c
            refine J_iconst dX11_dawn_282 (ii_c rfl) ?_
            refine J_goto (tgt := 287) dX11_dawn_283 (by decide) ?_
            refine J_iaddN dX11_dawn_287 (by decide) ?_
            refine J_iand dX11_dawn_288 ?_
            refine J_istore dX11_dawn_289 (by decide) ?_
            change J _ _ _ _ _ _ [(0, _), (1, _), (2, _), (3, _), (4, _), (5, _), (6, _), (7, _), (8, _), (9, _), (10, _), (11, _)] _ _ _
            refine J_iincN dX11_dawn_291 rfl (by decide) h.1 ?_
            replace h := h.2
            change J _ _ _ _ _ _ [(0, _), (1, _), (2, _), (3, _), (4, _), (5, _), (6, _), (7, _), (8, _), (9, _), (10, _), (11, _)] _ _ _
            refine J_goto (tgt := 169) dX11_dawn_294 (by decide) ?_
            exact J_loc (ls_sub [0, 1, 2, 3, 4, 5, 6, 7, 8, 9] rfl) h
    · replace h := h.2 c
      refine J_goto (tgt := 291) dX11_dawn_220 (by decide) ?_
      refine J_iincN dX11_dawn_291 rfl (by decide) h.1 ?_
      replace h := h.2
      change J _ _ _ _ _ _ [(0, _), (1, _), (2, _), (3, _), (4, _), (5, _), (6, _), (7, _), (8, _), (9, _), (10, _), (11, _)] _ _ _
      refine J_goto (tgt := 169) dX11_dawn_294 (by decide) ?_
      exact J_loc (ls_sub [0, 1, 2, 3, 4, 5, 6, 7, 8, 9] rfl) h
set_option maxRecDepth 20000 in
set_option maxHeartbeats 2000000 in
theorem bk_X11_writes_0 {d : Nat} {I : HI} {Q : Option AV → AH → Prop} {a1 : Int}  (h : ((0 : Int) ≤ (I 489 90) ∧ (I 489 90 : Int) < 104) ∧ (∀ I1 : HI, I1 = up I 556 (I 489 90).toNat a1 → (-2147483648 ≤ (I1 489 90) + 1 ∧ (I1 489 90) + 1 ≤ 2147483647) ∧ (∀ I2 : HI, I2 = up I1 489 90 ((I1 489 90) + 1) → Q none (mk I2)))) : J none mX11_writes (d + 1) 0 0 0 [(0, vR 489), (1, vI a1)] [] (mk I) Q := by
  refine J_aload_n dX11_writes_0 rfl rfl ?_
  refine J_getR dX11_writes_1 ck_11 fw_X11_218 rfl sh_489 rr_489_89 ?_
  refine J_aload_n dX11_writes_4 rfl rfl ?_
  refine J_getI dX11_writes_5 ck_11 fw_X11_677 rfl sh_489 ?_
  refine J_iload_n dX11_writes_8 rfl rfl ?_
  refine J_iast dX11_writes_9 sh_556 h.1.1 h.1.2 ?_
  replace h := h.2 _ rfl
  refine J_aload_n dX11_writes_10 rfl rfl ?_
  refine J_dup dX11_writes_11 rfl ?_
  refine J_getI dX11_writes_12 ck_11 fw_X11_677 rfl sh_489 ?_
  refine J_iconst dX11_writes_15 (ii_c rfl) ?_
  refine J_iaddN dX11_writes_16 h.1 ?_
  replace h := h.2
  refine J_putI dX11_writes_17 ck_11 fw_X11_677 rfl rfl (Or.inl rfl) sh_489 ?_
  replace h := h _ rfl
  exact J_retv dX11_writes_20 rfl h
set_option maxRecDepth 20000 in
set_option maxHeartbeats 2000000 in
theorem bk_X11_checked_0 {d : Nat} {I : HI} {Q : Option AV → AH → Prop} {a0 n0 : Nat} {a1 : Int} (ha0 : SH0[a0]? = some (.inr (0, n0))) (h : J none mX11_checked (d + 1) 0 0 5 [(0, vR a0), (1, vI a1), (2, vI 83), (3, vI 0)] [] (mk I) Q) : J none mX11_checked (d + 1) 0 0 0 [(0, vR a0), (1, vI a1)] [] (mk I) Q := by
  refine J_bipush dX11_checked_0 (ii_c rfl) (by decide) ?_
  refine J_istore_n dX11_checked_2 rfl (by decide) ?_
  refine J_iconst dX11_checked_3 (ii_c rfl) ?_
  refine J_istore_n dX11_checked_4 rfl (by decide) ?_
  exact h
set_option maxRecDepth 20000 in
set_option maxHeartbeats 2000000 in
theorem bk_X11_checked_5 {d : Nat} {I : HI} {Q : Option AV → AH → Prop} {a0 n0 : Nat} {a1 : Int} {a2 : Int} {a3 : Int} (ha0 : SH0[a0]? = some (.inr (0, n0))) (h : ((a1 ≤ a3 → Q (some (vI a2)) (mk I)) ∧ (¬ (a1 ≤ a3) → (-2147483648 ≤ 3 * a2 ∧ 3 * a2 ≤ 2147483647) ∧ ((0 : Int) ≤ a3 ∧ (a3 : Int) < n0) ∧ (-2147483648 ≤ (3 * a2) + (I a0 a3.toNat) ∧ (3 * a2) + (I a0 a3.toNat) ≤ 2147483647) ∧ (-2147483648 ≤ a3 + 1 ∧ a3 + 1 ≤ 2147483647) ∧ J none mX11_checked (d + 1) 0 0 5 [(0, vR a0), (1, vI a1), (2, vI (oM ((3 * a2) + (I a0 a3.toNat)) 247)), (3, vI (a3 + 1))] [] (mk I) Q))) : J none mX11_checked (d + 1) 0 0 5 [(0, vR a0), (1, vI a1), (2, vI a2), (3, vI a3)] [] (mk I) Q := by
  refine J_iload_n dX11_checked_5 rfl rfl ?_
  refine J_iload_n dX11_checked_6 rfl rfl ?_
  refine J_ic_ge (tgt := 28) dX11_checked_7 (by decide) (fun c => ?_) (fun c => ?_)
  · replace h := h.1 c
    refine J_iload_n dX11_checked_28 rfl rfl ?_
    exact J_reti dX11_checked_29 rfl h
  · replace h := h.2 c
    refine J_iconst dX11_checked_10 (ii_c rfl) ?_
    refine J_iload_n dX11_checked_11 rfl rfl ?_
    refine J_imulN dX11_checked_12 h.1 ?_
    replace h := h.2
    refine J_aload_n dX11_checked_13 rfl rfl ?_
    refine J_iload_n dX11_checked_14 rfl rfl ?_
    refine J_iald dX11_checked_15 ha0 h.1.1 h.1.2 ?_
    replace h := h.2
    refine J_iaddN dX11_checked_16 h.1 ?_
    replace h := h.2
    refine J_sipush dX11_checked_17 (ii_c rfl) (by decide) ?_
    refine J_irem dX11_checked_20 (by decide) ?_
    refine J_istore_n dX11_checked_21 rfl (by decide) ?_
    refine J_iincN dX11_checked_22 rfl (by decide) h.1 ?_
    replace h := h.2
    refine J_goto (tgt := 5) dX11_checked_25 (by decide) ?_
    exact h
set_option maxRecDepth 20000 in
set_option maxHeartbeats 2000000 in
theorem bk_X11_image_0 {d : Nat} {I : HI} {Q : Option AV → AH → Prop}   (h : (∀ I1 : HI, I1 = up I 489 90 0 → J none mX11_image (d + 1) 0 0 7 [(0, vR 489), (1, vI 0)] [] (mk I1) Q)) : J none mX11_image (d + 1) 0 0 0 [(0, vR 489)] [] (mk I) Q := by
  refine J_aload_n dX11_image_0 rfl rfl ?_
  refine J_iconst dX11_image_1 (ii_c rfl) ?_
  refine J_putI dX11_image_2 ck_11 fw_X11_677 rfl rfl (Or.inl rfl) sh_489 ?_
  replace h := h _ rfl
  refine J_iconst dX11_image_5 (ii_c rfl) ?_
  refine J_istore_n dX11_image_6 rfl (by decide) ?_
  exact h
set_option maxRecDepth 20000 in
set_option maxHeartbeats 2000000 in
theorem bk_X11_image_7 {d : Nat} {I : HI} {Q : Option AV → AH → Prop} {a1 : Int}  (h : CI mX11_saintMany d [vR 489] I (fun x1 I1 => ((x1 ≤ a1 → CV mX11_writes d [vR 489, vI (oD (I1 489 63) 256)] I1 (fun I2 => CV mX11_writes d [vR 489, vI (oM (I2 489 63) 256)] I2 (fun I3 => CV mX11_writes d [vR 489, vI (I3 489 64)] I3 (fun I4 => CI mX11_checked d [vR 556, vI (I4 489 90)] I4 (fun x5 I5 => CV mX11_writes d [vR 489, vI x5] I5 (fun I6 => Q (some (vI (I6 489 90))) (mk I6))))))) ∧ (¬ (x1 ≤ a1) → ((0 : Int) ≤ a1 ∧ (a1 : Int) < 244) ∧ CV mX11_writes d [vR 489, vI (I1 532 a1.toNat)] I1 (fun I7 => J none mX11_image (d + 1) 0 0 27 [(0, vR 489), (1, vI a1), (2, vI 0)] [] (mk I7) Q))))) : J none mX11_image (d + 1) 0 0 7 [(0, vR 489), (1, vI a1)] [] (mk I) Q := by
  refine J_iload_n dX11_image_7 rfl rfl ?_
  refine J_aload_n dX11_image_8 rfl rfl ?_
  refine J_callV (as := []) (mc1 := 0) (ms1 := 0) (mc := 0) (ms := 0) dX11_image_9 mv_X11_saintMany lk_X11_447 sh_489 rfl (Nat.le_of_ble_eq_true rfl) (Nat.le_of_ble_eq_true rfl) h (fun r σ hq _ => ?_)
  obtain ⟨x1, I1, rfl, rfl, h⟩ := hq
  change J _ _ _ _ _ _ _ [vI x1, vI a1] _ _
  refine J_ic_ge (tgt := 95) dX11_image_12 (by decide) (fun c => ?_) (fun c => ?_)
  · replace h := h.1 c
    refine J_aload_n dX11_image_95 rfl rfl ?_
    refine J_aload_n dX11_image_96 rfl rfl ?_
    refine J_getI dX11_image_97 ck_11 fw_X11_358 rfl sh_489 ?_
    refine J_sipush dX11_image_100 (ii_c rfl) (by decide) ?_
    refine J_idiv dX11_image_103 (by decide) ?_
    refine J_callV (as := [_]) (mc1 := 0) (ms1 := 0) (mc := 0) (ms := 0) dX11_image_104 mv_X11_writes lk_X11_680 sh_489 rfl (Nat.le_of_ble_eq_true rfl) (Nat.le_of_ble_eq_true rfl) h (fun r σ hq _ => ?_)
    obtain ⟨I2, rfl, rfl, h⟩ := hq
    change J _ _ _ _ _ _ _ [] _ _
    refine J_aload_n dX11_image_107 rfl rfl ?_
    refine J_aload_n dX11_image_108 rfl rfl ?_
    refine J_getI dX11_image_109 ck_11 fw_X11_358 rfl sh_489 ?_
    refine J_sipush dX11_image_112 (ii_c rfl) (by decide) ?_
    refine J_irem dX11_image_115 (by decide) ?_
    refine J_callV (as := [_]) (mc1 := 0) (ms1 := 0) (mc := 0) (ms := 0) dX11_image_116 mv_X11_writes lk_X11_680 sh_489 rfl (Nat.le_of_ble_eq_true rfl) (Nat.le_of_ble_eq_true rfl) h (fun r σ hq _ => ?_)
    obtain ⟨I3, rfl, rfl, h⟩ := hq
    change J _ _ _ _ _ _ _ [] _ _
    refine J_aload_n dX11_image_119 rfl rfl ?_
    refine J_aload_n dX11_image_120 rfl rfl ?_
    refine J_getI dX11_image_121 ck_11 fw_X11_361 rfl sh_489 ?_
    refine J_callV (as := [_]) (mc1 := 0) (ms1 := 0) (mc := 0) (ms := 0) dX11_image_124 mv_X11_writes lk_X11_680 sh_489 rfl (Nat.le_of_ble_eq_true rfl) (Nat.le_of_ble_eq_true rfl) h (fun r σ hq _ => ?_)
    obtain ⟨I4, rfl, rfl, h⟩ := hq
    change J _ _ _ _ _ _ _ [] _ _
    refine J_aload_n dX11_image_127 rfl rfl ?_
    refine J_aload_n dX11_image_128 rfl rfl ?_
    refine J_getR dX11_image_129 ck_11 fw_X11_218 rfl sh_489 rr_489_89 ?_
    refine J_aload_n dX11_image_132 rfl rfl ?_
    refine J_getI dX11_image_133 ck_11 fw_X11_677 rfl sh_489 ?_
    refine J_callS (as := [_, _]) (mc1 := 0) (ms1 := 0) (mc := 0) (ms := 0) dX11_image_136 ms_X11_checked lk_X11_683 rfl (Nat.le_of_ble_eq_true rfl) (Nat.le_of_ble_eq_true rfl) h (fun r σ hq _ => ?_)
    obtain ⟨x5, I5, rfl, rfl, h⟩ := hq
    change J _ _ _ _ _ _ _ [vI x5, vR 489] _ _
    refine J_callV (as := [_]) (mc1 := 0) (ms1 := 0) (mc := 0) (ms := 0) dX11_image_139 mv_X11_writes lk_X11_680 sh_489 rfl (Nat.le_of_ble_eq_true rfl) (Nat.le_of_ble_eq_true rfl) h (fun r σ hq _ => ?_)
    obtain ⟨I6, rfl, rfl, h⟩ := hq
    change J _ _ _ _ _ _ _ [] _ _
    refine J_aload_n dX11_image_142 rfl rfl ?_
    refine J_getI dX11_image_143 ck_11 fw_X11_677 rfl sh_489 ?_
    exact J_reti dX11_image_146 rfl h
  · replace h := h.2 c
    refine J_aload_n dX11_image_15 rfl rfl ?_
    refine J_aload_n dX11_image_16 rfl rfl ?_
    refine J_getR dX11_image_17 ck_11 fw_X11_145 rfl sh_489 rr_489_59 ?_
    refine J_iload_n dX11_image_20 rfl rfl ?_
    refine J_iald dX11_image_21 sh_532 h.1.1 h.1.2 ?_
    replace h := h.2
    refine J_callV (as := [_]) (mc1 := 0) (ms1 := 0) (mc := 0) (ms := 0) dX11_image_22 mv_X11_writes lk_X11_680 sh_489 rfl (Nat.le_of_ble_eq_true rfl) (Nat.le_of_ble_eq_true rfl) h (fun r σ hq _ => ?_)
    obtain ⟨I7, rfl, rfl, h⟩ := hq
    change J _ _ _ _ _ _ _ [] _ _
    refine J_iconst dX11_image_25 (ii_c rfl) ?_
    refine J_istore_n dX11_image_26 rfl (by decide) ?_
    exact h
set_option maxRecDepth 20000 in
set_option maxHeartbeats 2000000 in
theorem bk_X11_image_27 {d : Nat} {I : HI} {Q : Option AV → AH → Prop} {a1 : Int} {a2 : Int}  (h : ((0 : Int) ≤ a1 ∧ (a1 : Int) < 244) ∧ (((I 532 a1.toNat) ≤ a2 → (-2147483648 ≤ a1 + 1 ∧ a1 + 1 ≤ 2147483647) ∧ J none mX11_image (d + 1) 0 0 7 [(0, vR 489), (1, vI (a1 + 1))] [] (mk I) Q) ∧ (¬ ((I 532 a1.toNat) ≤ a2) → (-2147483648 ≤ 24 * a1 ∧ 24 * a1 ≤ 2147483647) ∧ (-2147483648 ≤ (24 * a1) + a2 ∧ (24 * a1) + a2 ≤ 2147483647) ∧ ((0 : Int) ≤ ((24 * a1) + a2) ∧ ((24 * a1) + a2 : Int) < 5856) ∧ (((I 534 ((24 * a1) + a2).toNat) ≠ (-1) → ((0 : Int) ≤ ((24 * a1) + a2) ∧ ((24 * a1) + a2 : Int) < 5856) ∧ CV mX11_writes d [vR 489, vI (I 533 ((24 * a1) + a2).toNat)] I (fun I1 => (-2147483648 ≤ a2 + 1 ∧ a2 + 1 ≤ 2147483647) ∧ J none mX11_image (d + 1) 0 0 27 [(0, vR 489), (1, vI a1), (2, vI (a2 + 1))] [] (mk I1) Q)) ∧ ((I 534 ((24 * a1) + a2).toNat) = (-1) → ((0 : Int) ≤ ((24 * a1) + a2) ∧ ((24 * a1) + a2 : Int) < 5856) ∧ (-2147483648 ≤ 100 + (I 535 ((24 * a1) + a2).toNat) ∧ 100 + (I 535 ((24 * a1) + a2).toNat) ≤ 2147483647) ∧ CI mX11_leaves d [vR 489, vI a1, vI a2] I (fun x2 I2 => (-2147483648 ≤ (100 + (I 535 ((24 * a1) + a2).toNat)) - x2 ∧ (100 + (I 535 ((24 * a1) + a2).toNat)) - x2 ≤ 2147483647) ∧ CV mX11_writes d [vR 489, vI ((100 + (I 535 ((24 * a1) + a2).toNat)) - x2)] I2 (fun I3 => (-2147483648 ≤ a2 + 1 ∧ a2 + 1 ≤ 2147483647) ∧ J none mX11_image (d + 1) 0 0 27 [(0, vR 489), (1, vI a1), (2, vI (a2 + 1))] [] (mk I3) Q))))))) : J none mX11_image (d + 1) 0 0 27 [(0, vR 489), (1, vI a1), (2, vI a2)] [] (mk I) Q := by
  refine J_iload_n dX11_image_27 rfl rfl ?_
  refine J_aload_n dX11_image_28 rfl rfl ?_
  refine J_getR dX11_image_29 ck_11 fw_X11_145 rfl sh_489 rr_489_59 ?_
  refine J_iload_n dX11_image_32 rfl rfl ?_
  refine J_iald dX11_image_33 sh_532 h.1.1 h.1.2 ?_
  replace h := h.2
  refine J_ic_ge (tgt := 89) dX11_image_34 (by decide) (fun c => ?_) (fun c => ?_)
  · replace h := h.1 c
    refine J_iincN dX11_image_89 rfl (by decide) h.1 ?_
    replace h := h.2
    refine J_goto (tgt := 7) dX11_image_92 (by decide) ?_
    exact J_loc (ls_sub [0, 1] rfl) h
  · replace h := h.2 c
    refine J_bipush dX11_image_37 (ii_c rfl) (by decide) ?_
    refine J_iload_n dX11_image_39 rfl rfl ?_
    refine J_imulN dX11_image_40 h.1 ?_
    replace h := h.2
    refine J_iload_n dX11_image_41 rfl rfl ?_
    refine J_iaddN dX11_image_42 h.1 ?_
    replace h := h.2
    refine J_istore_n dX11_image_43 rfl (by decide) ?_
    refine J_aload_n dX11_image_44 rfl rfl ?_
    refine J_aload_n dX11_image_45 rfl rfl ?_
    refine J_getR dX11_image_46 ck_11 fw_X11_151 rfl sh_489 rr_489_61 ?_
    refine J_iload_n dX11_image_49 rfl rfl ?_
    refine J_iald dX11_image_50 sh_534 h.1.1 h.1.2 ?_
    replace h := h.2
    refine J_iconst dX11_image_51 (ii_c rfl) ?_
    refine J_ic_ne (tgt := 74) dX11_image_52 (by decide) (fun c => ?_) (fun c => ?_)
    · replace h := h.1 c
      refine J_aload_n dX11_image_74 rfl rfl ?_
      refine J_getR dX11_image_75 ck_11 fw_X11_148 rfl sh_489 rr_489_60 ?_
      refine J_iload_n dX11_image_78 rfl rfl ?_
      refine J_iald dX11_image_79 sh_533 h.1.1 h.1.2 ?_
      replace h := h.2
      refine J_callV (as := [_]) (mc1 := 0) (ms1 := 0) (mc := 0) (ms := 0) dX11_image_80 mv_X11_writes lk_X11_680 sh_489 rfl (Nat.le_of_ble_eq_true rfl) (Nat.le_of_ble_eq_true rfl) h (fun r σ hq _ => ?_)
      obtain ⟨I1, rfl, rfl, h⟩ := hq
      change J _ _ _ _ _ _ _ [] _ _
      refine J_iincN dX11_image_83 rfl (by decide) h.1 ?_
      replace h := h.2
      refine J_goto (tgt := 27) dX11_image_86 (by decide) ?_
      exact J_loc (ls_sub [0, 1, 2] rfl) h
    · replace h := h.2 c
      refine J_bipush dX11_image_55 (ii_c rfl) (by decide) ?_
      refine J_aload_n dX11_image_57 rfl rfl ?_
      refine J_getR dX11_image_58 ck_11 fw_X11_154 rfl sh_489 rr_489_62 ?_
      refine J_iload_n dX11_image_61 rfl rfl ?_
      refine J_iald dX11_image_62 sh_535 h.1.1 h.1.2 ?_
      replace h := h.2
      refine J_iaddN dX11_image_63 h.1 ?_
      replace h := h.2
      refine J_aload_n dX11_image_64 rfl rfl ?_
      refine J_iload_n dX11_image_65 rfl rfl ?_
      refine J_iload_n dX11_image_66 rfl rfl ?_
      refine J_callV (as := [_, _]) (mc1 := 0) (ms1 := 0) (mc := 0) (ms := 0) dX11_image_67 mv_X11_leaves lk_X11_518 sh_489 rfl (Nat.le_of_ble_eq_true rfl) (Nat.le_of_ble_eq_true rfl) h (fun r σ hq _ => ?_)
      obtain ⟨x2, I2, rfl, rfl, h⟩ := hq
      change J _ _ _ _ _ _ _ [vI x2, vI (100 + (I 535 ((24 * a1) + a2).toNat)), vR 489] _ _
      refine J_isubN dX11_image_70 h.1 ?_
      replace h := h.2
      refine J_goto (tgt := 80) dX11_image_71 (by decide) ?_
      refine J_callV (as := [_]) (mc1 := 0) (ms1 := 0) (mc := 0) (ms := 0) dX11_image_80 mv_X11_writes lk_X11_680 sh_489 rfl (Nat.le_of_ble_eq_true rfl) (Nat.le_of_ble_eq_true rfl) h (fun r σ hq _ => ?_)
      obtain ⟨I3, rfl, rfl, h⟩ := hq
      change J _ _ _ _ _ _ _ [] _ _
      refine J_iincN dX11_image_83 rfl (by decide) h.1 ?_
      replace h := h.2
      refine J_goto (tgt := 27) dX11_image_86 (by decide) ?_
      exact J_loc (ls_sub [0, 1, 2] rfl) h
set_option maxRecDepth 20000 in
set_option maxHeartbeats 2000000 in
theorem bk_X11_octet_0 {d : Nat} {I : HI} {Q : Option AV → AH → Prop} {a1 : Int}  (h : ((a1 < 0 → Q (some (vI (-1))) (mk I)) ∧ (¬ (a1 < 0) → (((I 489 90) ≤ a1 → Q (some (vI (-1))) (mk I)) ∧ (¬ ((I 489 90) ≤ a1) → ((0 : Int) ≤ a1 ∧ (a1 : Int) < 104) ∧ Q (some (vI (I 556 a1.toNat))) (mk I)))))) : J none mX11_octet (d + 1) 0 0 0 [(0, vR 489), (1, vI a1)] [] (mk I) Q := by
  refine J_iload_n dX11_octet_0 rfl rfl ?_
  refine J_if_lt (tgt := 21) dX11_octet_1 (by decide) (fun c => ?_) (fun c => ?_)
  · replace h := h.1 c
    refine J_iconst dX11_octet_21 (ii_c rfl) ?_
    exact J_reti dX11_octet_22 rfl h
  · replace h := h.2 c
    refine J_iload_n dX11_octet_4 rfl rfl ?_
    refine J_aload_n dX11_octet_5 rfl rfl ?_
    refine J_getI dX11_octet_6 ck_11 fw_X11_677 rfl sh_489 ?_
    refine J_ic_ge (tgt := 21) dX11_octet_9 (by decide) (fun c => ?_) (fun c => ?_)
    · replace h := h.1 c
      refine J_iconst dX11_octet_21 (ii_c rfl) ?_
      exact J_reti dX11_octet_22 rfl h
    · replace h := h.2 c
      refine J_aload_n dX11_octet_12 rfl rfl ?_
      refine J_getR dX11_octet_13 ck_11 fw_X11_218 rfl sh_489 rr_489_89 ?_
      refine J_iload_n dX11_octet_16 rfl rfl ?_
      refine J_iald dX11_octet_17 sh_556 h.1.1 h.1.2 ?_
      replace h := h.2
      refine J_goto (tgt := 22) dX11_octet_18 (by decide) ?_
      exact J_reti dX11_octet_22 rfl h
set_option maxRecDepth 20000 in
set_option maxHeartbeats 2000000 in
theorem bk_X11_isStepTold_0 {d : Nat} {I : HI} {Q : Option AV → AH → Prop} {a1 : Int} {a2 : Int}  (h : CI mX11_saintOf d [vI a1] I (fun x1 I1 => ((a2 ≤ 100 → CI mX11_isCorner d [vR 489, vI a2] I1 (fun x2 I2 => ((x2 = 0 → Q (some (vI 0)) (mk I2)) ∧ (¬ (x2 = 0) → CI mX11_endsAt d [vR 489, vI a1] I2 (fun x3 I3 => CI mX11_laneOf d [vR 489, vI x3, vI a2] I3 (fun x4 I4 => ((x4 = (-1) → Q (some (vI 0)) (mk I4)) ∧ (¬ (x4 = (-1)) → CI mX11_longOf d [vR 489, vI x4, vI x1] I4 (fun x5 I5 => CI mX11_canGo d [vR 489, vI a1, vI x5] I5 (fun x6 I6 => ((x6 ≠ 0 → CI mX11_longOf d [vR 489, vI x4, vI x1] I6 (fun x7 I7 => CV mX11_treads d [vR 489, vI a1, vI a2, vI x4, vI x7] I7 (fun I8 => Q (some (vI 1)) (mk I8)))) ∧ (x6 = 0 → Q (some (vI 0)) (mk I6))))))))))))) ∧ (¬ (a2 ≤ 100) → ((130 < a2 → Q (some (vI 0)) (mk I1)) ∧ (¬ (130 < a2) → (-2147483648 ≤ a2 - 100 ∧ a2 - 100 ≤ 2147483647) ∧ CI mX11_canGo d [vR 489, vI a1, vI (a2 - 100)] I1 (fun x9 I9 => ((x9 ≠ 0 → CI mX11_endsAt d [vR 489, vI a1] I9 (fun x10 I10 => (-2147483648 ≤ a2 - 100 ∧ a2 - 100 ≤ 2147483647) ∧ CV mX11_treads d [vR 489, vI a1, vI x10, vI (-1), vI (a2 - 100)] I10 (fun I11 => Q (some (vI 1)) (mk I11)))) ∧ (x9 = 0 → Q (some (vI 0)) (mk I9)))))))))) : J none mX11_isStepTold (d + 1) 0 0 0 [(0, vR 489), (1, vI a1), (2, vI a2)] [] (mk I) Q := by
  refine J_iload_n dX11_isStepTold_0 rfl rfl ?_
  refine J_callS (as := [_]) (mc1 := 0) (ms1 := 0) (mc := 0) (ms := 0) dX11_isStepTold_1 ms_X11_saintOf lk_X11_453 rfl (Nat.le_of_ble_eq_true rfl) (Nat.le_of_ble_eq_true rfl) h (fun r σ hq _ => ?_)
  obtain ⟨x1, I1, rfl, rfl, h⟩ := hq
  change J _ _ _ _ _ _ _ [vI x1] _ _
  refine J_istore_n dX11_isStepTold_4 rfl (by decide) ?_
  refine J_iload_n dX11_isStepTold_5 rfl rfl ?_
  refine J_bipush dX11_isStepTold_6 (ii_c rfl) (by decide) ?_
  refine J_ic_le (tgt := 49) dX11_isStepTold_8 (by decide) (fun c => ?_) (fun c => ?_)
  · replace h := h.1 c
    refine J_aload_n dX11_isStepTold_49 rfl rfl ?_
    refine J_iload_n dX11_isStepTold_50 rfl rfl ?_
    refine J_callV (as := [_]) (mc1 := 0) (ms1 := 0) (mc := 0) (ms := 0) dX11_isStepTold_51 mv_X11_isCorner lk_X11_478 sh_489 rfl (Nat.le_of_ble_eq_true rfl) (Nat.le_of_ble_eq_true rfl) h (fun r σ hq _ => ?_)
    obtain ⟨x2, I2, rfl, rfl, h⟩ := hq
    change J _ _ _ _ _ _ _ [vI x2] _ _
    refine J_if_eq (tgt := 70) dX11_isStepTold_54 (by decide) (fun c => ?_) (fun c => ?_)
    · replace h := h.1 c
      refine J_iconst dX11_isStepTold_70 (ii_c rfl) ?_
      refine J_istore dX11_isStepTold_71 (by decide) ?_
      refine J_iload dX11_isStepTold_73 rfl ?_
      refine J_iconst dX11_isStepTold_75 (ii_c rfl) ?_
      refine J_ic_eq (tgt := 94) dX11_isStepTold_76 (by decide) (fun _ => ?_) (fun c => absurd (by decide) c)
      refine J_iconst dX11_isStepTold_94 (ii_c rfl) ?_
      exact J_retz dX11_isStepTold_95 rfl (Or.inl rfl) h
    · replace h := h.2 c
      refine J_aload_n dX11_isStepTold_57 rfl rfl ?_
      refine J_aload_n dX11_isStepTold_58 rfl rfl ?_
      refine J_iload_n dX11_isStepTold_59 rfl rfl ?_
      refine J_callV (as := [_]) (mc1 := 0) (ms1 := 0) (mc := 0) (ms := 0) dX11_isStepTold_60 mv_X11_endsAt lk_X11_484 sh_489 rfl (Nat.le_of_ble_eq_true rfl) (Nat.le_of_ble_eq_true rfl) h (fun r σ hq _ => ?_)
      obtain ⟨x3, I3, rfl, rfl, h⟩ := hq
      change J _ _ _ _ _ _ _ [vI x3, vR 489] _ _
      refine J_iload_n dX11_isStepTold_63 rfl rfl ?_
      refine J_callV (as := [_, _]) (mc1 := 0) (ms1 := 0) (mc := 0) (ms := 0) dX11_isStepTold_64 mv_X11_laneOf lk_X11_496 sh_489 rfl (Nat.le_of_ble_eq_true rfl) (Nat.le_of_ble_eq_true rfl) h (fun r σ hq _ => ?_)
      obtain ⟨x4, I4, rfl, rfl, h⟩ := hq
      change J _ _ _ _ _ _ _ [vI x4] _ _
      refine J_goto (tgt := 71) dX11_isStepTold_67 (by decide) ?_
      refine J_istore dX11_isStepTold_71 (by decide) ?_
      refine J_iload dX11_isStepTold_73 rfl ?_
      refine J_iconst dX11_isStepTold_75 (ii_c rfl) ?_
      refine J_ic_eq (tgt := 94) dX11_isStepTold_76 (by decide) (fun c => ?_) (fun c => ?_)
      · replace h := h.1 c
        refine J_iconst dX11_isStepTold_94 (ii_c rfl) ?_
        exact J_retz dX11_isStepTold_95 rfl (Or.inl rfl) h
      · replace h := h.2 c
        refine J_aload_n dX11_isStepTold_79 rfl rfl ?_
        refine J_iload_n dX11_isStepTold_80 rfl rfl ?_
        refine J_aload_n dX11_isStepTold_81 rfl rfl ?_
        refine J_iload dX11_isStepTold_82 rfl ?_
        refine J_iload_n dX11_isStepTold_84 rfl rfl ?_
        refine J_callV (as := [_, _]) (mc1 := 0) (ms1 := 0) (mc := 0) (ms := 0) dX11_isStepTold_85 mv_X11_longOf lk_X11_502 sh_489 rfl (Nat.le_of_ble_eq_true rfl) (Nat.le_of_ble_eq_true rfl) h (fun r σ hq _ => ?_)
        obtain ⟨x5, I5, rfl, rfl, h⟩ := hq
        change J _ _ _ _ _ _ _ [vI x5, vI a1, vR 489] _ _
        refine J_callV (as := [_, _]) (mc1 := 0) (ms1 := 0) (mc := 0) (ms := 0) dX11_isStepTold_88 mv_X11_canGo lk_X11_505 sh_489 rfl (Nat.le_of_ble_eq_true rfl) (Nat.le_of_ble_eq_true rfl) h (fun r σ hq _ => ?_)
        obtain ⟨x6, I6, rfl, rfl, h⟩ := hq
        change J _ _ _ _ _ _ _ [vI x6] _ _
        refine J_if_ne (tgt := 96) dX11_isStepTold_91 (by decide) (fun c => ?_) (fun c => ?_)
        · replace h := h.1 c
          refine J_aload_n dX11_isStepTold_96 rfl rfl ?_
          refine J_iload_n dX11_isStepTold_97 rfl rfl ?_
          refine J_iload_n dX11_isStepTold_98 rfl rfl ?_
          refine J_iload dX11_isStepTold_99 rfl ?_
          refine J_aload_n dX11_isStepTold_101 rfl rfl ?_
          refine J_iload dX11_isStepTold_102 rfl ?_
          refine J_iload_n dX11_isStepTold_104 rfl rfl ?_
          refine J_callV (as := [_, _]) (mc1 := 0) (ms1 := 0) (mc := 0) (ms := 0) dX11_isStepTold_105 mv_X11_longOf lk_X11_502 sh_489 rfl (Nat.le_of_ble_eq_true rfl) (Nat.le_of_ble_eq_true rfl) h (fun r σ hq _ => ?_)
          obtain ⟨x7, I7, rfl, rfl, h⟩ := hq
          change J _ _ _ _ _ _ _ [vI x7, vI x4, vI a2, vI a1, vR 489] _ _
          refine J_callV (as := [_, _, _, _]) (mc1 := 0) (ms1 := 0) (mc := 0) (ms := 0) dX11_isStepTold_108 mv_X11_treads lk_X11_512 sh_489 rfl (Nat.le_of_ble_eq_true rfl) (Nat.le_of_ble_eq_true rfl) h (fun r σ hq _ => ?_)
          obtain ⟨I8, rfl, rfl, h⟩ := hq
          change J _ _ _ _ _ _ _ [] _ _
          refine J_iconst dX11_isStepTold_111 (ii_c rfl) ?_
          exact J_retz dX11_isStepTold_112 rfl (Or.inr rfl) h
        · replace h := h.2 c
          refine J_iconst dX11_isStepTold_94 (ii_c rfl) ?_
          exact J_retz dX11_isStepTold_95 rfl (Or.inl rfl) h
  · replace h := h.2 c
    refine J_iload_n dX11_isStepTold_11 rfl rfl ?_
    refine J_sipush dX11_isStepTold_12 (ii_c rfl) (by decide) ?_
    refine J_ic_gt (tgt := 30) dX11_isStepTold_15 (by decide) (fun c => ?_) (fun c => ?_)
    · replace h := h.1 c
      refine J_iconst dX11_isStepTold_30 (ii_c rfl) ?_
      exact J_retz dX11_isStepTold_31 rfl (Or.inl rfl) h
    · replace h := h.2 c
      refine J_aload_n dX11_isStepTold_18 rfl rfl ?_
      refine J_iload_n dX11_isStepTold_19 rfl rfl ?_
      refine J_iload_n dX11_isStepTold_20 rfl rfl ?_
      refine J_bipush dX11_isStepTold_21 (ii_c rfl) (by decide) ?_
      refine J_isubN dX11_isStepTold_23 h.1 ?_
      replace h := h.2
      refine J_callV (as := [_, _]) (mc1 := 0) (ms1 := 0) (mc := 0) (ms := 0) dX11_isStepTold_24 mv_X11_canGo lk_X11_505 sh_489 rfl (Nat.le_of_ble_eq_true rfl) (Nat.le_of_ble_eq_true rfl) h (fun r σ hq _ => ?_)
      obtain ⟨x9, I9, rfl, rfl, h⟩ := hq
      change J _ _ _ _ _ _ _ [vI x9] _ _
      refine J_if_ne (tgt := 32) dX11_isStepTold_27 (by decide) (fun c => ?_) (fun c => ?_)
      · replace h := h.1 c
        refine J_aload_n dX11_isStepTold_32 rfl rfl ?_
        refine J_iload_n dX11_isStepTold_33 rfl rfl ?_
        refine J_aload_n dX11_isStepTold_34 rfl rfl ?_
        refine J_iload_n dX11_isStepTold_35 rfl rfl ?_
        refine J_callV (as := [_]) (mc1 := 0) (ms1 := 0) (mc := 0) (ms := 0) dX11_isStepTold_36 mv_X11_endsAt lk_X11_484 sh_489 rfl (Nat.le_of_ble_eq_true rfl) (Nat.le_of_ble_eq_true rfl) h (fun r σ hq _ => ?_)
        obtain ⟨x10, I10, rfl, rfl, h⟩ := hq
        change J _ _ _ _ _ _ _ [vI x10, vI a1, vR 489] _ _
        refine J_iconst dX11_isStepTold_39 (ii_c rfl) ?_
        refine J_iload_n dX11_isStepTold_40 rfl rfl ?_
        refine J_bipush dX11_isStepTold_41 (ii_c rfl) (by decide) ?_
        refine J_isubN dX11_isStepTold_43 h.1 ?_
        replace h := h.2
        refine J_callV (as := [_, _, _, _]) (mc1 := 0) (ms1 := 0) (mc := 0) (ms := 0) dX11_isStepTold_44 mv_X11_treads lk_X11_512 sh_489 rfl (Nat.le_of_ble_eq_true rfl) (Nat.le_of_ble_eq_true rfl) h (fun r σ hq _ => ?_)
        obtain ⟨I11, rfl, rfl, h⟩ := hq
        change J _ _ _ _ _ _ _ [] _ _
        refine J_iconst dX11_isStepTold_47 (ii_c rfl) ?_
        exact J_retz dX11_isStepTold_48 rfl (Or.inr rfl) h
      · replace h := h.2 c
        refine J_iconst dX11_isStepTold_30 (ii_c rfl) ?_
        exact J_retz dX11_isStepTold_31 rfl (Or.inl rfl) h
set_option maxRecDepth 20000 in
set_option maxHeartbeats 2000000 in
theorem bk_X11_isTold_0 {d : Nat} {I : HI} {Q : Option AV → AH → Prop} {a1 : Int}  (h : ((a1 < 4 → Q (some (vI 0)) (mk I)) ∧ (¬ (a1 < 4) → (-2147483648 ≤ a1 - 1 ∧ a1 - 1 ≤ 2147483647) ∧ ((0 : Int) ≤ (a1 - 1) ∧ (a1 - 1 : Int) < 1600) ∧ (-2147483648 ≤ a1 - 1 ∧ a1 - 1 ≤ 2147483647) ∧ CI mX11_checked d [vR 490, vI (a1 - 1)] I (fun x1 I1 => (((I 490 (a1 - 1).toNat) = x1 → J none mX11_isTold (d + 1) 0 0 32 [(0, vR 489), (1, vI a1), (2, vI 0), (3, vI 0)] [] (mk I1) Q) ∧ (¬ ((I 490 (a1 - 1).toNat) = x1) → Q (some (vI 0)) (mk I1))))))) : J none mX11_isTold (d + 1) 0 0 0 [(0, vR 489), (1, vI a1)] [] (mk I) Q := by
  refine J_iload_n dX11_isTold_0 rfl rfl ?_
  refine J_iconst dX11_isTold_1 (ii_c rfl) ?_
  refine J_ic_lt (tgt := 26) dX11_isTold_2 (by decide) (fun c => ?_) (fun c => ?_)
  · replace h := h.1 c
    refine J_iconst dX11_isTold_26 (ii_c rfl) ?_
    exact J_retz dX11_isTold_27 rfl (Or.inl rfl) h
  · replace h := h.2 c
    refine J_aload_n dX11_isTold_5 rfl rfl ?_
    refine J_getR dX11_isTold_6 ck_11 fw_X11_7 rfl sh_489 rr_489_0 ?_
    refine J_iload_n dX11_isTold_9 rfl rfl ?_
    refine J_iconst dX11_isTold_10 (ii_c rfl) ?_
    refine J_isubN dX11_isTold_11 h.1 ?_
    replace h := h.2
    refine J_iald dX11_isTold_12 sh_490 h.1.1 h.1.2 ?_
    replace h := h.2
    refine J_aload_n dX11_isTold_13 rfl rfl ?_
    refine J_getR dX11_isTold_14 ck_11 fw_X11_7 rfl sh_489 rr_489_0 ?_
    refine J_iload_n dX11_isTold_17 rfl rfl ?_
    refine J_iconst dX11_isTold_18 (ii_c rfl) ?_
    refine J_isubN dX11_isTold_19 h.1 ?_
    replace h := h.2
    refine J_callS (as := [_, _]) (mc1 := 0) (ms1 := 0) (mc := 0) (ms := 0) dX11_isTold_20 ms_X11_checked lk_X11_683 rfl (Nat.le_of_ble_eq_true rfl) (Nat.le_of_ble_eq_true rfl) h (fun r σ hq _ => ?_)
    obtain ⟨x1, I1, rfl, rfl, h⟩ := hq
    change J _ _ _ _ _ _ _ [vI x1, vI (I 490 (a1 - 1).toNat)] _ _
    refine J_ic_eq (tgt := 28) dX11_isTold_23 (by decide) (fun c => ?_) (fun c => ?_)
    · replace h := h.1 c
      refine J_iconst dX11_isTold_28 (ii_c rfl) ?_
      refine J_istore_n dX11_isTold_29 rfl (by decide) ?_
      refine J_iconst dX11_isTold_30 (ii_c rfl) ?_
      refine J_istore_n dX11_isTold_31 rfl (by decide) ?_
      exact h
    · replace h := h.2 c
      refine J_iconst dX11_isTold_26 (ii_c rfl) ?_
      exact J_retz dX11_isTold_27 rfl (Or.inl rfl) h
set_option maxRecDepth 20000 in
set_option maxHeartbeats 2000000 in
theorem bk_X11_isTold_32 {d : Nat} {I : HI} {Q : Option AV → AH → Prop} {a1 : Int} {a2 : Int} {a3 : Int}  (h : CI mX11_saintMany d [vR 489] I (fun x1 I1 => ((x1 ≤ a3 → (-2147483648 ≤ a1 - 4 ∧ a1 - 4 ≤ 2147483647) ∧ ((a2 ≠ (a1 - 4) → Q (some (vI 0)) (mk I1)) ∧ (a2 = (a1 - 4) → (-2147483648 ≤ a1 - 4 ∧ a1 - 4 ≤ 2147483647) ∧ ((0 : Int) ≤ (a1 - 4) ∧ (a1 - 4 : Int) < 1600) ∧ (-2147483648 ≤ 256 * (I1 490 (a1 - 4).toNat) ∧ 256 * (I1 490 (a1 - 4).toNat) ≤ 2147483647) ∧ (-2147483648 ≤ a1 - 3 ∧ a1 - 3 ≤ 2147483647) ∧ ((0 : Int) ≤ (a1 - 3) ∧ (a1 - 3 : Int) < 1600) ∧ (-2147483648 ≤ (256 * (I1 490 (a1 - 4).toNat)) + (I1 490 (a1 - 3).toNat) ∧ (256 * (I1 490 (a1 - 4).toNat)) + (I1 490 (a1 - 3).toNat) ≤ 2147483647) ∧ CI mX11_laneMany d [vR 489] I1 (fun x2 I2 => (((oSl 1 x2) ≤ ((256 * (I1 490 (a1 - 4).toNat)) + (I1 490 (a1 - 3).toNat)) → Q (some (vI 0)) (mk I2)) ∧ (¬ ((oSl 1 x2) ≤ ((256 * (I1 490 (a1 - 4).toNat)) + (I1 490 (a1 - 3).toNat))) → (-2147483648 ≤ a1 - 2 ∧ a1 - 2 ≤ 2147483647) ∧ ((0 : Int) ≤ (a1 - 2) ∧ (a1 - 2 : Int) < 1600) ∧ CI mX11_exceptions d [vR 489] I2 (fun x3 I3 => (((oSl 1 x3) ≤ (I2 490 (a1 - 2).toNat) → Q (some (vI 0)) (mk I3)) ∧ (¬ ((oSl 1 x3) ≤ (I2 490 (a1 - 2).toNat)) → Q (some (vI 1)) (mk I3)))))))))) ∧ (¬ (x1 ≤ a3) → CI mX11_wayOf d [vI a3, vI 0] I1 (fun x4 I4 => ((0 : Int) ≤ x4 ∧ (x4 : Int) < 244) ∧ (∀ I5 : HI, I5 = up I4 532 x4.toNat 0 → (-2147483648 ≤ a1 - 4 ∧ a1 - 4 ≤ 2147483647) ∧ (((a1 - 4) ≤ a2 → Q (some (vI 0)) (mk I5)) ∧ (¬ ((a1 - 4) ≤ a2) → ((0 : Int) ≤ a2 ∧ (a2 : Int) < 1600) ∧ ((24 < (I5 490 a2.toNat) → Q (some (vI 0)) (mk I5)) ∧ (¬ (24 < (I5 490 a2.toNat)) → (-2147483648 ≤ a2 + (I5 490 a2.toNat) ∧ a2 + (I5 490 a2.toNat) ≤ 2147483647) ∧ (-2147483648 ≤ a1 - 4 ∧ a1 - 4 ≤ 2147483647) ∧ (((a2 + (I5 490 a2.toNat)) < (a1 - 4) → J none mX11_isTold (d + 1) 0 0 97 [(0, vR 489), (1, vI a1), (2, vI a2), (3, vI a3), (4, vI x4), (5, vI (I5 490 a2.toNat)), (6, vI 1)] [] (mk I5) Q) ∧ (¬ ((a2 + (I5 490 a2.toNat)) < (a1 - 4)) → Q (some (vI 0)) (mk I5))))))))))))) : J none mX11_isTold (d + 1) 0 0 32 [(0, vR 489), (1, vI a1), (2, vI a2), (3, vI a3)] [] (mk I) Q := by
  refine J_iload_n dX11_isTold_32 rfl rfl ?_
  refine J_aload_n dX11_isTold_33 rfl rfl ?_
  refine J_callV (as := []) (mc1 := 0) (ms1 := 0) (mc := 0) (ms := 0) dX11_isTold_34 mv_X11_saintMany lk_X11_447 sh_489 rfl (Nat.le_of_ble_eq_true rfl) (Nat.le_of_ble_eq_true rfl) h (fun r σ hq _ => ?_)
  obtain ⟨x1, I1, rfl, rfl, h⟩ := hq
  change J _ _ _ _ _ _ _ [vI x1, vI a3] _ _
  refine J_ic_ge (tgt := 143) dX11_isTold_37 (by decide) (fun c => ?_) (fun c => ?_)
  · replace h := h.1 c
    refine J_iload_n dX11_isTold_143 rfl rfl ?_
    refine J_iload_n dX11_isTold_144 rfl rfl ?_
    refine J_iconst dX11_isTold_145 (ii_c rfl) ?_
    refine J_isubN dX11_isTold_146 h.1 ?_
    replace h := h.2
    refine J_ic_ne (tgt := 201) dX11_isTold_147 (by decide) (fun c => ?_) (fun c => ?_)
    · replace h := h.1 c
      refine J_iconst dX11_isTold_201 (ii_c rfl) ?_
      exact J_retz dX11_isTold_202 rfl (Or.inl rfl) h
    · replace h := h.2 c
      refine J_sipush dX11_isTold_150 (ii_c rfl) (by decide) ?_
      refine J_aload_n dX11_isTold_153 rfl rfl ?_
      refine J_getR dX11_isTold_154 ck_11 fw_X11_7 rfl sh_489 rr_489_0 ?_
      refine J_iload_n dX11_isTold_157 rfl rfl ?_
      refine J_iconst dX11_isTold_158 (ii_c rfl) ?_
      refine J_isubN dX11_isTold_159 h.1 ?_
      replace h := h.2
      refine J_iald dX11_isTold_160 sh_490 h.1.1 h.1.2 ?_
      replace h := h.2
      refine J_imulN dX11_isTold_161 h.1 ?_
      replace h := h.2
      refine J_aload_n dX11_isTold_162 rfl rfl ?_
      refine J_getR dX11_isTold_163 ck_11 fw_X11_7 rfl sh_489 rr_489_0 ?_
      refine J_iload_n dX11_isTold_166 rfl rfl ?_
      refine J_iconst dX11_isTold_167 (ii_c rfl) ?_
      refine J_isubN dX11_isTold_168 h.1 ?_
      replace h := h.2
      refine J_iald dX11_isTold_169 sh_490 h.1.1 h.1.2 ?_
      replace h := h.2
      refine J_iaddN dX11_isTold_170 h.1 ?_
      replace h := h.2
      refine J_iconst dX11_isTold_171 (ii_c rfl) ?_
      refine J_aload_n dX11_isTold_172 rfl rfl ?_
      refine J_callV (as := []) (mc1 := 0) (ms1 := 0) (mc := 0) (ms := 0) dX11_isTold_173 mv_X11_laneMany lk_X11_450 sh_489 rfl (Nat.le_of_ble_eq_true rfl) (Nat.le_of_ble_eq_true rfl) h (fun r σ hq _ => ?_)
      obtain ⟨x2, I2, rfl, rfl, h⟩ := hq
      change J _ _ _ _ _ _ _ [vI x2, vI 1, vI ((256 * (I1 490 (a1 - 4).toNat)) + (I1 490 (a1 - 3).toNat))] _ _
      refine J_ishl dX11_isTold_176 ?_
      refine J_ic_ge (tgt := 201) dX11_isTold_177 (by decide) (fun c => ?_) (fun c => ?_)
      · replace h := h.1 c
        refine J_iconst dX11_isTold_201 (ii_c rfl) ?_
        exact J_retz dX11_isTold_202 rfl (Or.inl rfl) h
      · replace h := h.2 c
        refine J_aload_n dX11_isTold_180 rfl rfl ?_
        refine J_getR dX11_isTold_181 ck_11 fw_X11_7 rfl sh_489 rr_489_0 ?_
        refine J_iload_n dX11_isTold_184 rfl rfl ?_
        refine J_iconst dX11_isTold_185 (ii_c rfl) ?_
        refine J_isubN dX11_isTold_186 h.1 ?_
        replace h := h.2
        refine J_iald dX11_isTold_187 sh_490 h.1.1 h.1.2 ?_
        replace h := h.2
        refine J_iconst dX11_isTold_188 (ii_c rfl) ?_
        refine J_aload_n dX11_isTold_189 rfl rfl ?_
        refine J_callV (as := []) (mc1 := 0) (ms1 := 0) (mc := 0) (ms := 0) dX11_isTold_190 mv_X11_exceptions lk_X11_438 sh_489 rfl (Nat.le_of_ble_eq_true rfl) (Nat.le_of_ble_eq_true rfl) h (fun r σ hq _ => ?_)
        obtain ⟨x3, I3, rfl, rfl, h⟩ := hq
        change J _ _ _ _ _ _ _ [vI x3, vI 1, vI (I2 490 (a1 - 2).toNat)] _ _
        refine J_ishl dX11_isTold_193 ?_
        refine J_ic_ge (tgt := 201) dX11_isTold_194 (by decide) (fun c => ?_) (fun c => ?_)
        · replace h := h.1 c
          refine J_iconst dX11_isTold_201 (ii_c rfl) ?_
          exact J_retz dX11_isTold_202 rfl (Or.inl rfl) h
        · replace h := h.2 c
          refine J_iconst dX11_isTold_197 (ii_c rfl) ?_
          refine J_goto (tgt := 202) dX11_isTold_198 (by decide) ?_
          exact J_retz dX11_isTold_202 rfl (Or.inr rfl) h
  · replace h := h.2 c
    refine J_iload_n dX11_isTold_40 rfl rfl ?_
    refine J_iconst dX11_isTold_41 (ii_c rfl) ?_
    refine J_callS (as := [_, _]) (mc1 := 0) (ms1 := 0) (mc := 0) (ms := 0) dX11_isTold_42 ms_X11_wayOf lk_X11_604 rfl (Nat.le_of_ble_eq_true rfl) (Nat.le_of_ble_eq_true rfl) h (fun r σ hq _ => ?_)
    obtain ⟨x4, I4, rfl, rfl, h⟩ := hq
    change J _ _ _ _ _ _ _ [vI x4] _ _
    refine J_istore dX11_isTold_45 (by decide) ?_
    refine J_aload_n dX11_isTold_47 rfl rfl ?_
    refine J_getR dX11_isTold_48 ck_11 fw_X11_145 rfl sh_489 rr_489_59 ?_
    refine J_iload dX11_isTold_51 rfl ?_
    refine J_iconst dX11_isTold_53 (ii_c rfl) ?_
    refine J_iast dX11_isTold_54 sh_532 h.1.1 h.1.2 ?_
    replace h := h.2 _ rfl
    refine J_iload_n dX11_isTold_55 rfl rfl ?_
    refine J_iload_n dX11_isTold_56 rfl rfl ?_
    refine J_iconst dX11_isTold_57 (ii_c rfl) ?_
    refine J_isubN dX11_isTold_58 h.1 ?_
    replace h := h.2
    refine J_ic_ge (tgt := 71) dX11_isTold_59 (by decide) (fun c => ?_) (fun c => ?_)
    · replace h := h.1 c
      refine J_bipush dX11_isTold_71 (ii_c rfl) (by decide) ?_
      refine J_istore dX11_isTold_73 (by decide) ?_
      refine J_iload dX11_isTold_75 rfl ?_
      refine J_bipush dX11_isTold_77 (ii_c rfl) (by decide) ?_
      refine J_ic_gt (tgt := 92) dX11_isTold_79 (by decide) (fun _ => ?_) (fun c => absurd (by decide) c)
      refine J_iconst dX11_isTold_92 (ii_c rfl) ?_
      exact J_retz dX11_isTold_93 rfl (Or.inl rfl) h
    · replace h := h.2 c
      refine J_aload_n dX11_isTold_62 rfl rfl ?_
      refine J_getR dX11_isTold_63 ck_11 fw_X11_7 rfl sh_489 rr_489_0 ?_
      refine J_iload_n dX11_isTold_66 rfl rfl ?_
      refine J_iald dX11_isTold_67 sh_490 h.1.1 h.1.2 ?_
      replace h := h.2
      refine J_goto (tgt := 73) dX11_isTold_68 (by decide) ?_
      refine J_istore dX11_isTold_73 (by decide) ?_
      refine J_iload dX11_isTold_75 rfl ?_
      refine J_bipush dX11_isTold_77 (ii_c rfl) (by decide) ?_
      refine J_ic_gt (tgt := 92) dX11_isTold_79 (by decide) (fun c => ?_) (fun c => ?_)
      · replace h := h.1 c
        refine J_iconst dX11_isTold_92 (ii_c rfl) ?_
        exact J_retz dX11_isTold_93 rfl (Or.inl rfl) h
      · replace h := h.2 c
        refine J_iload_n dX11_isTold_82 rfl rfl ?_
        refine J_iload dX11_isTold_83 rfl ?_
        refine J_iaddN dX11_isTold_85 h.1 ?_
        replace h := h.2
        refine J_iload_n dX11_isTold_86 rfl rfl ?_
        refine J_iconst dX11_isTold_87 (ii_c rfl) ?_
        refine J_isubN dX11_isTold_88 h.1 ?_
        replace h := h.2
        refine J_ic_lt (tgt := 94) dX11_isTold_89 (by decide) (fun c => ?_) (fun c => ?_)
        · replace h := h.1 c
          refine J_iconst dX11_isTold_94 (ii_c rfl) ?_
          refine J_istore dX11_isTold_95 (by decide) ?_
          exact h
        · replace h := h.2 c
          refine J_iconst dX11_isTold_92 (ii_c rfl) ?_
          exact J_retz dX11_isTold_93 rfl (Or.inl rfl) h
set_option maxRecDepth 20000 in
set_option maxHeartbeats 2000000 in
theorem bk_X11_isTold_97 {d : Nat} {I : HI} {Q : Option AV → AH → Prop} {a1 : Int} {a2 : Int} {a3 : Int} {a4 : Int} {a5 : Int} {a6 : Int}  (h : ((a5 < a6 → (-2147483648 ≤ a5 + 1 ∧ a5 + 1 ≤ 2147483647) ∧ (-2147483648 ≤ a2 + (a5 + 1) ∧ a2 + (a5 + 1) ≤ 2147483647) ∧ (-2147483648 ≤ a3 + 1 ∧ a3 + 1 ≤ 2147483647) ∧ J none mX11_isTold (d + 1) 0 0 32 [(0, vR 489), (1, vI a1), (2, vI (a2 + (a5 + 1))), (3, vI (a3 + 1))] [] (mk I) Q) ∧ (¬ (a5 < a6) → (-2147483648 ≤ a2 + a6 ∧ a2 + a6 ≤ 2147483647) ∧ ((0 : Int) ≤ (a2 + a6) ∧ (a2 + a6 : Int) < 1600) ∧ CI mX11_isStepTold d [vR 489, vI a4, vI (I 490 (a2 + a6).toNat)] I (fun x1 I1 => ((x1 ≠ 0 → (-2147483648 ≤ a6 + 1 ∧ a6 + 1 ≤ 2147483647) ∧ J none mX11_isTold (d + 1) 0 0 97 [(0, vR 489), (1, vI a1), (2, vI a2), (3, vI a3), (4, vI a4), (5, vI a5), (6, vI (a6 + 1))] [] (mk I1) Q) ∧ (x1 = 0 → Q (some (vI 0)) (mk I1))))))) : J none mX11_isTold (d + 1) 0 0 97 [(0, vR 489), (1, vI a1), (2, vI a2), (3, vI a3), (4, vI a4), (5, vI a5), (6, vI a6)] [] (mk I) Q := by
  refine J_iload dX11_isTold_97 rfl ?_
  refine J_iload dX11_isTold_99 rfl ?_
  refine J_ic_gt (tgt := 130) dX11_isTold_101 (by decide) (fun c => ?_) (fun c => ?_)
  · replace h := h.1 c
    refine J_iload_n dX11_isTold_130 rfl rfl ?_
    refine J_iload dX11_isTold_131 rfl ?_
    refine J_iconst dX11_isTold_133 (ii_c rfl) ?_
    refine J_iaddN dX11_isTold_134 h.1 ?_
    replace h := h.2
    refine J_iaddN dX11_isTold_135 h.1 ?_
    replace h := h.2
    refine J_istore_n dX11_isTold_136 rfl (by decide) ?_
    refine J_iincN dX11_isTold_137 rfl (by decide) h.1 ?_
    replace h := h.2
    refine J_goto (tgt := 32) dX11_isTold_140 (by decide) ?_
    exact J_loc (ls_sub [0, 1, 2, 3] rfl) h
  · replace h := h.2 c
    refine J_aload_n dX11_isTold_104 rfl rfl ?_
    refine J_iload dX11_isTold_105 rfl ?_
    refine J_aload_n dX11_isTold_107 rfl rfl ?_
    refine J_getR dX11_isTold_108 ck_11 fw_X11_7 rfl sh_489 rr_489_0 ?_
    refine J_iload_n dX11_isTold_111 rfl rfl ?_
    refine J_iload dX11_isTold_112 rfl ?_
    refine J_iaddN dX11_isTold_114 h.1 ?_
    replace h := h.2
    refine J_iald dX11_isTold_115 sh_490 h.1.1 h.1.2 ?_
    replace h := h.2
    refine J_callV (as := [_, _]) (mc1 := 0) (ms1 := 0) (mc := 0) (ms := 0) dX11_isTold_116 mv_X11_isStepTold lk_X11_687 sh_489 rfl (Nat.le_of_ble_eq_true rfl) (Nat.le_of_ble_eq_true rfl) h (fun r σ hq _ => ?_)
    obtain ⟨x1, I1, rfl, rfl, h⟩ := hq
    change J _ _ _ _ _ _ _ [vI x1] _ _
    refine J_if_ne (tgt := 124) dX11_isTold_119 (by decide) (fun c => ?_) (fun c => ?_)
    · replace h := h.1 c
      refine J_iincN dX11_isTold_124 rfl (by decide) h.1 ?_
      replace h := h.2
      refine J_goto (tgt := 97) dX11_isTold_127 (by decide) ?_
      exact h
    · replace h := h.2 c
      refine J_iconst dX11_isTold_122 (ii_c rfl) ?_
      exact J_retz dX11_isTold_123 rfl (Or.inl rfl) h
set_option maxRecDepth 20000 in
set_option maxHeartbeats 2000000 in
theorem bk_X11_back_0 {d : Nat} {I : HI} {Q : Option AV → AH → Prop}   (h : (∀ I1 : HI, I1 = up I 489 1 0 → CI mX11_isTold d [vR 489, vI (I 489 1)] I1 (fun x1 I2 => ((x1 ≠ 0 → J none mX11_back (d + 1) 0 0 22 [(0, vR 489), (1, vI (I 489 1)), (2, vI 0)] [] (mk I2) Q) ∧ (x1 = 0 → Q (some (vI 0)) (mk I2)))))) : J none mX11_back (d + 1) 0 0 0 [(0, vR 489)] [] (mk I) Q := by
  refine J_aload_n dX11_back_0 rfl rfl ?_
  refine J_getI dX11_back_1 ck_11 fw_X11_221 rfl sh_489 ?_
  refine J_istore_n dX11_back_4 rfl (by decide) ?_
  refine J_aload_n dX11_back_5 rfl rfl ?_
  refine J_iconst dX11_back_6 (ii_c rfl) ?_
  refine J_putI dX11_back_7 ck_11 fw_X11_221 rfl rfl (Or.inl rfl) sh_489 ?_
  replace h := h _ rfl
  refine J_aload_n dX11_back_10 rfl rfl ?_
  refine J_iload_n dX11_back_11 rfl rfl ?_
  refine J_callV (as := [_]) (mc1 := 0) (ms1 := 0) (mc := 0) (ms := 0) dX11_back_12 mv_X11_isTold lk_X11_690 sh_489 rfl (Nat.le_of_ble_eq_true rfl) (Nat.le_of_ble_eq_true rfl) h (fun r σ hq _ => ?_)
  obtain ⟨x1, I2, rfl, rfl, h⟩ := hq
  change J _ _ _ _ _ _ _ [vI x1] _ _
  refine J_if_ne (tgt := 20) dX11_back_15 (by decide) (fun c => ?_) (fun c => ?_)
  · replace h := h.1 c
    refine J_iconst dX11_back_20 (ii_c rfl) ?_
    refine J_istore_n dX11_back_21 rfl (by decide) ?_
    exact h
  · replace h := h.2 c
    refine J_iconst dX11_back_18 (ii_c rfl) ?_
    exact J_retz dX11_back_19 rfl (Or.inl rfl) h
set_option maxRecDepth 20000 in
set_option maxHeartbeats 2000000 in
theorem bk_X11_back_22 {d : Nat} {I : HI} {Q : Option AV → AH → Prop} {a1 : Int} {a2 : Int}  (h : CI mX11_saintMany d [vR 489] I (fun x1 I1 => ((x1 ≤ a2 → (-2147483648 ≤ a1 - 4 ∧ a1 - 4 ≤ 2147483647) ∧ ((0 : Int) ≤ (a1 - 4) ∧ (a1 - 4 : Int) < 1600) ∧ (-2147483648 ≤ 256 * (I1 490 (a1 - 4).toNat) ∧ 256 * (I1 490 (a1 - 4).toNat) ≤ 2147483647) ∧ (-2147483648 ≤ a1 - 3 ∧ a1 - 3 ≤ 2147483647) ∧ ((0 : Int) ≤ (a1 - 3) ∧ (a1 - 3 : Int) < 1600) ∧ (-2147483648 ≤ (256 * (I1 490 (a1 - 4).toNat)) + (I1 490 (a1 - 3).toNat) ∧ (256 * (I1 490 (a1 - 4).toNat)) + (I1 490 (a1 - 3).toNat) ≤ 2147483647) ∧ (∀ I2 : HI, I2 = up I1 489 63 ((256 * (I1 490 (a1 - 4).toNat)) + (I1 490 (a1 - 3).toNat)) → (-2147483648 ≤ a1 - 2 ∧ a1 - 2 ≤ 2147483647) ∧ ((0 : Int) ≤ (a1 - 2) ∧ (a1 - 2 : Int) < 1600) ∧ (∀ I3 : HI, I3 = up I2 489 64 (I2 490 (a1 - 2).toNat) → (∀ I4 : HI, I4 = up I3 489 71 0 → Q (some (vI 1)) (mk I4))))) ∧ (¬ (x1 ≤ a2) → CI mX11_wayOf d [vI a2, vI 0] I1 (fun x2 I5 => CV mX11_comesTo d [vR 489, vI a2, vI x2] I5 (fun I6 => (-2147483648 ≤ a2 + 1 ∧ a2 + 1 ≤ 2147483647) ∧ J none mX11_back (d + 1) 0 0 22 [(0, vR 489), (1, vI a1), (2, vI (a2 + 1))] [] (mk I6) Q)))))) : J none mX11_back (d + 1) 0 0 22 [(0, vR 489), (1, vI a1), (2, vI a2)] [] (mk I) Q := by
  refine J_iload_n dX11_back_22 rfl rfl ?_
  refine J_aload_n dX11_back_23 rfl rfl ?_
  refine J_callV (as := []) (mc1 := 0) (ms1 := 0) (mc := 0) (ms := 0) dX11_back_24 mv_X11_saintMany lk_X11_447 sh_489 rfl (Nat.le_of_ble_eq_true rfl) (Nat.le_of_ble_eq_true rfl) h (fun r σ hq _ => ?_)
  obtain ⟨x1, I1, rfl, rfl, h⟩ := hq
  change J _ _ _ _ _ _ _ [vI x1, vI a2] _ _
  refine J_ic_ge (tgt := 46) dX11_back_27 (by decide) (fun c => ?_) (fun c => ?_)
  · replace h := h.1 c
    refine J_aload_n dX11_back_46 rfl rfl ?_
    refine J_sipush dX11_back_47 (ii_c rfl) (by decide) ?_
    refine J_aload_n dX11_back_50 rfl rfl ?_
    refine J_getR dX11_back_51 ck_11 fw_X11_7 rfl sh_489 rr_489_0 ?_
    refine J_iload_n dX11_back_54 rfl rfl ?_
    refine J_iconst dX11_back_55 (ii_c rfl) ?_
    refine J_isubN dX11_back_56 h.1 ?_
    replace h := h.2
    refine J_iald dX11_back_57 sh_490 h.1.1 h.1.2 ?_
    replace h := h.2
    refine J_imulN dX11_back_58 h.1 ?_
    replace h := h.2
    refine J_aload_n dX11_back_59 rfl rfl ?_
    refine J_getR dX11_back_60 ck_11 fw_X11_7 rfl sh_489 rr_489_0 ?_
    refine J_iload_n dX11_back_63 rfl rfl ?_
    refine J_iconst dX11_back_64 (ii_c rfl) ?_
    refine J_isubN dX11_back_65 h.1 ?_
    replace h := h.2
    refine J_iald dX11_back_66 sh_490 h.1.1 h.1.2 ?_
    replace h := h.2
    refine J_iaddN dX11_back_67 h.1 ?_
    replace h := h.2
    refine J_putI dX11_back_68 ck_11 fw_X11_358 rfl rfl (Or.inl rfl) sh_489 ?_
    replace h := h _ rfl
    refine J_aload_n dX11_back_71 rfl rfl ?_
    refine J_aload_n dX11_back_72 rfl rfl ?_
    refine J_getR dX11_back_73 ck_11 fw_X11_7 rfl sh_489 rr_489_0 ?_
    refine J_iload_n dX11_back_76 rfl rfl ?_
    refine J_iconst dX11_back_77 (ii_c rfl) ?_
    refine J_isubN dX11_back_78 h.1 ?_
    replace h := h.2
    refine J_iald dX11_back_79 sh_490 h.1.1 h.1.2 ?_
    replace h := h.2
    refine J_putI dX11_back_80 ck_11 fw_X11_361 rfl rfl (Or.inl rfl) sh_489 ?_
    replace h := h _ rfl
    refine J_aload_n dX11_back_83 rfl rfl ?_
    refine J_iconst dX11_back_84 (ii_c rfl) ?_
    refine J_putI dX11_back_85 ck_11 fw_X11_364 rfl rfl (Or.inl rfl) sh_489 ?_
    replace h := h _ rfl
    refine J_iconst dX11_back_88 (ii_c rfl) ?_
    exact J_retz dX11_back_89 rfl (Or.inr rfl) h
  · replace h := h.2 c
    refine J_aload_n dX11_back_30 rfl rfl ?_
    refine J_iload_n dX11_back_31 rfl rfl ?_
    refine J_iload_n dX11_back_32 rfl rfl ?_
    refine J_iconst dX11_back_33 (ii_c rfl) ?_
    refine J_callS (as := [_, _]) (mc1 := 0) (ms1 := 0) (mc := 0) (ms := 0) dX11_back_34 ms_X11_wayOf lk_X11_604 rfl (Nat.le_of_ble_eq_true rfl) (Nat.le_of_ble_eq_true rfl) h (fun r σ hq _ => ?_)
    obtain ⟨x2, I5, rfl, rfl, h⟩ := hq
    change J _ _ _ _ _ _ _ [vI x2, vI a2, vR 489] _ _
    refine J_callV (as := [_, _]) (mc1 := 0) (ms1 := 0) (mc := 0) (ms := 0) dX11_back_37 mv_X11_comesTo lk_X11_654 sh_489 rfl (Nat.le_of_ble_eq_true rfl) (Nat.le_of_ble_eq_true rfl) h (fun r σ hq _ => ?_)
    obtain ⟨I6, rfl, rfl, h⟩ := hq
    change J _ _ _ _ _ _ _ [] _ _
    refine J_iincN dX11_back_40 rfl (by decide) h.1 ?_
    replace h := h.2
    refine J_goto (tgt := 22) dX11_back_43 (by decide) ?_
    exact h
