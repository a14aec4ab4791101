set_option maxRecDepth 20000 in
set_option maxHeartbeats 2000000 in
theorem bk_X11_areQuiet_0 {d : Nat} {I : HI} {Q : Option AV → AH → Prop} {a1 : Int} {a2 : Int}  (h : CI mX11_saintOf d [vI a1] I (fun x1 I1 => CI mX11_saintOf d [vI a2] I1 (fun x2 I2 => CI mX11_louder d [vR 489, vI x1, vI x2] I2 (fun x3 I3 => J none mX11_areQuiet (d + 1) 0 0 23 [(0, vR 489), (1, vI a1), (2, vI a2), (3, vI x1), (4, vI x2), (5, vI x3), (6, vI 0)] [] (mk I3) Q)))) : J none mX11_areQuiet (d + 1) 0 0 0 [(0, vR 489), (1, vI a1), (2, vI a2)] [] (mk I) Q := by
  refine J_iload_n dX11_areQuiet_0 rfl rfl ?_
  refine J_callS (as := [_]) (mc1 := 0) (ms1 := 0) (mc := 0) (ms := 0) dX11_areQuiet_1 ms_X11_saintOf lk_X11_453 rfl (Nat.le_of_ble_eq_true rfl) (Nat.le_of_ble_eq_true rfl) h (fun r σ hq _ => ?_)
  obtain ⟨x1, I1, rfl, rfl, h⟩ := hq
  change J _ _ _ _ _ _ _ [vI x1] _ _
  refine J_istore_n dX11_areQuiet_4 rfl (by decide) ?_
  refine J_iload_n dX11_areQuiet_5 rfl rfl ?_
  refine J_callS (as := [_]) (mc1 := 0) (ms1 := 0) (mc := 0) (ms := 0) dX11_areQuiet_6 ms_X11_saintOf lk_X11_453 rfl (Nat.le_of_ble_eq_true rfl) (Nat.le_of_ble_eq_true rfl) h (fun r σ hq _ => ?_)
  obtain ⟨x2, I2, rfl, rfl, h⟩ := hq
  change J _ _ _ _ _ _ _ [vI x2] _ _
  refine J_istore dX11_areQuiet_9 (by decide) ?_
  refine J_aload_n dX11_areQuiet_11 rfl rfl ?_
  refine J_iload_n dX11_areQuiet_12 rfl rfl ?_
  refine J_iload dX11_areQuiet_13 rfl ?_
  refine J_callV (as := [_, _]) (mc1 := 0) (ms1 := 0) (mc := 0) (ms := 0) dX11_areQuiet_15 mv_X11_louder lk_X11_540 sh_489 rfl (Nat.le_of_ble_eq_true rfl) (Nat.le_of_ble_eq_true rfl) h (fun r σ hq _ => ?_)
  obtain ⟨x3, I3, rfl, rfl, h⟩ := hq
  change J _ _ _ _ _ _ _ [vI x3] _ _
  refine J_istore dX11_areQuiet_18 (by decide) ?_
  refine J_iconst dX11_areQuiet_20 (ii_c rfl) ?_
  refine J_istore dX11_areQuiet_21 (by decide) ?_
  exact h
set_option maxRecDepth 20000 in
set_option maxHeartbeats 2000000 in
theorem bk_X11_areQuiet_23 {d : Nat} {I : HI} {Q : Option AV → AH → Prop} {a1 : Int} {a2 : Int} {a3 : Int} {a4 : Int} {a5 : Int} {a6 : Int}  (h : ((0 : Int) ≤ a1 ∧ (a1 : Int) < 244) ∧ (((I 532 a1.toNat) < a6 → Q (some (vI 1)) (mk I)) ∧ (¬ ((I 532 a1.toNat) < a6) → J none mX11_areQuiet (d + 1) 0 0 37 [(0, vR 489), (1, vI a1), (2, vI a2), (3, vI a3), (4, vI a4), (5, vI a5), (6, vI a6), (7, vI 0)] [] (mk I) Q))) : J none mX11_areQuiet (d + 1) 0 0 23 [(0, vR 489), (1, vI a1), (2, vI a2), (3, vI a3), (4, vI a4), (5, vI a5), (6, vI a6)] [] (mk I) Q := by
  refine J_iload dX11_areQuiet_23 rfl ?_
  refine J_aload_n dX11_areQuiet_25 rfl rfl ?_
  refine J_getR dX11_areQuiet_26 ck_11 fw_X11_145 rfl sh_489 rr_489_59 ?_
  refine J_iload_n dX11_areQuiet_29 rfl rfl ?_
  refine J_iald dX11_areQuiet_30 sh_532 h.1.1 h.1.2 ?_
  replace h := h.2
  refine J_ic_gt (tgt := 179) dX11_areQuiet_31 (by decide) (fun c => ?_) (fun c => ?_)
  · replace h := h.1 c
    refine J_iconst dX11_areQuiet_179 (ii_c rfl) ?_
    exact J_retz dX11_areQuiet_180 rfl (Or.inr rfl) h
  · replace h := h.2 c
    refine J_iconst dX11_areQuiet_34 (ii_c rfl) ?_
    refine J_istore dX11_areQuiet_35 (by decide) ?_
    exact h
set_option maxRecDepth 20000 in
set_option maxHeartbeats 2000000 in
theorem bk_X11_areQuiet_37 {d : Nat} {I : HI} {Q : Option AV → AH → Prop} {a1 : Int} {a2 : Int} {a3 : Int} {a4 : Int} {a5 : Int} {a6 : Int} {a7 : Int}  (h : ((0 : Int) ≤ a2 ∧ (a2 : Int) < 244) ∧ (((I 532 a2.toNat) < a7 → (-2147483648 ≤ a6 + 1 ∧ a6 + 1 ≤ 2147483647) ∧ J none mX11_areQuiet (d + 1) 0 0 23 [(0, vR 489), (1, vI a1), (2, vI a2), (3, vI a3), (4, vI a4), (5, vI a5), (6, vI (a6 + 1))] [] (mk I) Q) ∧ (¬ ((I 532 a2.toNat) < a7) → CI mX11_fromOf d [vR 489, vI a1, vI a6] I (fun x1 I1 => (-2147483648 ≤ 10 * x1 ∧ 10 * x1 ≤ 2147483647) ∧ CI mX11_fromOf d [vR 489, vI a2, vI a7] I1 (fun x2 I2 => (-2147483648 ≤ (10 * x1) + x2 ∧ (10 * x1) + x2 ≤ 2147483647) ∧ ((0 : Int) ≤ ((10 * x1) + x2) ∧ ((10 * x1) + x2 : Int) < 100) ∧ (((I2 531 ((10 * x1) + x2).toNat) ≤ a5 → CI mX11_staysTo d [vR 489, vI a1, vI a6] I2 (fun x3 I3 => CI mX11_staysTo d [vR 489, vI a2, vI a7] I3 (fun x4 I4 => CI mX11_lesser d [vI x3, vI x4] I4 (fun x5 I5 => CI mX11_endOf d [vR 489, vI a1] I5 (fun x6 I6 => CI mX11_endOf d [vR 489, vI a2] I6 (fun x7 I7 => CI mX11_lesser d [vI x6, vI x7] I7 (fun x8 I8 => CI mX11_lesser d [vI x5, vI x8] I8 (fun x9 I9 => CI mX11_leaves d [vR 489, vI a1, vI a6] I9 (fun x10 I10 => CI mX11_leaves d [vR 489, vI a2, vI a7] I10 (fun x11 I11 => CI mX11_greater d [vI x10, vI x11] I11 (fun x12 I12 => J none mX11_areQuiet (d + 1) 0 0 137 [(0, vR 489), (1, vI a1), (2, vI a2), (3, vI a3), (4, vI a4), (5, vI a5), (6, vI a6), (7, vI a7), (8, vI (I2 531 ((10 * x1) + x2).toNat)), (9, vI x9), (10, vI x12)] [] (mk I12) Q))))))))))) ∧ (¬ ((I2 531 ((10 * x1) + x2).toNat) ≤ a5) → (-2147483648 ≤ a7 + 1 ∧ a7 + 1 ≤ 2147483647) ∧ J none mX11_areQuiet (d + 1) 0 0 37 [(0, vR 489), (1, vI a1), (2, vI a2), (3, vI a3), (4, vI a4), (5, vI a5), (6, vI a6), (7, vI (a7 + 1))] [] (mk I2) Q))))))) : J none mX11_areQuiet (d + 1) 0 0 37 [(0, vR 489), (1, vI a1), (2, vI a2), (3, vI a3), (4, vI a4), (5, vI a5), (6, vI a6), (7, vI a7)] [] (mk I) Q := by
  refine J_iload dX11_areQuiet_37 rfl ?_
  refine J_aload_n dX11_areQuiet_39 rfl rfl ?_
  refine J_getR dX11_areQuiet_40 ck_11 fw_X11_145 rfl sh_489 rr_489_59 ?_
  refine J_iload_n dX11_areQuiet_43 rfl rfl ?_
  refine J_iald dX11_areQuiet_44 sh_532 h.1.1 h.1.2 ?_
  replace h := h.2
  refine J_ic_gt (tgt := 173) dX11_areQuiet_45 (by decide) (fun c => ?_) (fun c => ?_)
  · replace h := h.1 c
    refine J_iincN dX11_areQuiet_173 rfl (by decide) h.1 ?_
    replace h := h.2
    refine J_goto (tgt := 23) dX11_areQuiet_176 (by decide) ?_
    exact J_loc (ls_sub [0, 1, 2, 3, 4, 5, 6] rfl) h
  · replace h := h.2 c
    refine J_aload_n dX11_areQuiet_48 rfl rfl ?_
    refine J_getR dX11_areQuiet_49 ck_11 fw_X11_142 rfl sh_489 rr_489_58 ?_
    refine J_bipush dX11_areQuiet_52 (ii_c rfl) (by decide) ?_
    refine J_aload_n dX11_areQuiet_54 rfl rfl ?_
    refine J_iload_n dX11_areQuiet_55 rfl rfl ?_
    refine J_iload dX11_areQuiet_56 rfl ?_
    refine J_callV (as := [_, _]) (mc1 := 0) (ms1 := 0) (mc := 0) (ms := 0) dX11_areQuiet_58 mv_X11_fromOf lk_X11_568 sh_489 rfl (Nat.le_of_ble_eq_true rfl) (Nat.le_of_ble_eq_true rfl) h (fun r σ hq _ => ?_)
    obtain ⟨x1, I1, rfl, rfl, h⟩ := hq
    change J _ _ _ _ _ _ _ [vI x1, vI 10, vR 531] _ _
    refine J_imulN dX11_areQuiet_61 h.1 ?_
    replace h := h.2
    refine J_aload_n dX11_areQuiet_62 rfl rfl ?_
    refine J_iload_n dX11_areQuiet_63 rfl rfl ?_
    refine J_iload dX11_areQuiet_64 rfl ?_
    refine J_callV (as := [_, _]) (mc1 := 0) (ms1 := 0) (mc := 0) (ms := 0) dX11_areQuiet_66 mv_X11_fromOf lk_X11_568 sh_489 rfl (Nat.le_of_ble_eq_true rfl) (Nat.le_of_ble_eq_true rfl) h (fun r σ hq _ => ?_)
    obtain ⟨x2, I2, rfl, rfl, h⟩ := hq
    change J _ _ _ _ _ _ _ [vI x2, vI (10 * x1), vR 531] _ _
    refine J_iaddN dX11_areQuiet_69 h.1 ?_
    replace h := h.2
    refine J_iald dX11_areQuiet_70 sh_531 h.1.1 h.1.2 ?_
    replace h := h.2
    refine J_istore dX11_areQuiet_71 (by decide) ?_
    refine J_iload dX11_areQuiet_73 rfl ?_
    refine J_iload dX11_areQuiet_75 rfl ?_
    refine J_ic_le (tgt := 83) dX11_areQuiet_77 (by decide) (fun c => ?_) (fun c => ?_)
    · replace h := h.1 c
      refine J_aload_n dX11_areQuiet_83 rfl rfl ?_
      refine J_iload_n dX11_areQuiet_84 rfl rfl ?_
      refine J_iload dX11_areQuiet_85 rfl ?_
      refine J_callV (as := [_, _]) (mc1 := 0) (ms1 := 0) (mc := 0) (ms := 0) dX11_areQuiet_87 mv_X11_staysTo lk_X11_571 sh_489 rfl (Nat.le_of_ble_eq_true rfl) (Nat.le_of_ble_eq_true rfl) h (fun r σ hq _ => ?_)
      obtain ⟨x3, I3, rfl, rfl, h⟩ := hq
      change J _ _ _ _ _ _ _ [vI x3] _ _
      refine J_aload_n dX11_areQuiet_90 rfl rfl ?_
      refine J_iload_n dX11_areQuiet_91 rfl rfl ?_
      refine J_iload dX11_areQuiet_92 rfl ?_
      refine J_callV (as := [_, _]) (mc1 := 0) (ms1 := 0) (mc := 0) (ms := 0) dX11_areQuiet_94 mv_X11_staysTo lk_X11_571 sh_489 rfl (Nat.le_of_ble_eq_true rfl) (Nat.le_of_ble_eq_true rfl) h (fun r σ hq _ => ?_)
      obtain ⟨x4, I4, rfl, rfl, h⟩ := hq
      change J _ _ _ _ _ _ _ [vI x4, vI x3] _ _
      refine J_callS (as := [_, _]) (mc1 := 0) (ms1 := 0) (mc := 0) (ms := 0) dX11_areQuiet_97 ms_X11_lesser lk_X11_574 rfl (Nat.le_of_ble_eq_true rfl) (Nat.le_of_ble_eq_true rfl) h (fun r σ hq _ => ?_)
      obtain ⟨x5, I5, rfl, rfl, h⟩ := hq
      change J _ _ _ _ _ _ _ [vI x5] _ _
      refine J_aload_n dX11_areQuiet_100 rfl rfl ?_
      refine J_iload_n dX11_areQuiet_101 rfl rfl ?_
      refine J_callV (as := [_]) (mc1 := 0) (ms1 := 0) (mc := 0) (ms := 0) dX11_areQuiet_102 mv_X11_endOf lk_X11_459 sh_489 rfl (Nat.le_of_ble_eq_true rfl) (Nat.le_of_ble_eq_true rfl) h (fun r σ hq _ => ?_)
      obtain ⟨x6, I6, rfl, rfl, h⟩ := hq
      change J _ _ _ _ _ _ _ [vI x6, vI x5] _ _
      refine J_aload_n dX11_areQuiet_105 rfl rfl ?_
      refine J_iload_n dX11_areQuiet_106 rfl rfl ?_
      refine J_callV (as := [_]) (mc1 := 0) (ms1 := 0) (mc := 0) (ms := 0) dX11_areQuiet_107 mv_X11_endOf lk_X11_459 sh_489 rfl (Nat.le_of_ble_eq_true rfl) (Nat.le_of_ble_eq_true rfl) h (fun r σ hq _ => ?_)
      obtain ⟨x7, I7, rfl, rfl, h⟩ := hq
      change J _ _ _ _ _ _ _ [vI x7, vI x6, vI x5] _ _
      refine J_callS (as := [_, _]) (mc1 := 0) (ms1 := 0) (mc := 0) (ms := 0) dX11_areQuiet_110 ms_X11_lesser lk_X11_574 rfl (Nat.le_of_ble_eq_true rfl) (Nat.le_of_ble_eq_true rfl) h (fun r σ hq _ => ?_)
      obtain ⟨x8, I8, rfl, rfl, h⟩ := hq
      change J _ _ _ _ _ _ _ [vI x8, vI x5] _ _
      refine J_callS (as := [_, _]) (mc1 := 0) (ms1 := 0) (mc := 0) (ms := 0) dX11_areQuiet_113 ms_X11_lesser lk_X11_574 rfl (Nat.le_of_ble_eq_true rfl) (Nat.le_of_ble_eq_true rfl) h (fun r σ hq _ => ?_)
      obtain ⟨x9, I9, rfl, rfl, h⟩ := hq
      change J _ _ _ _ _ _ _ [vI x9] _ _
      refine J_istore dX11_areQuiet_116 (by decide) ?_
      refine J_aload_n dX11_areQuiet_118 rfl rfl ?_
      refine J_iload_n dX11_areQuiet_119 rfl rfl ?_
      refine J_iload dX11_areQuiet_120 rfl ?_
      refine J_callV (as := [_, _]) (mc1 := 0) (ms1 := 0) (mc := 0) (ms := 0) dX11_areQuiet_122 mv_X11_leaves lk_X11_518 sh_489 rfl (Nat.le_of_ble_eq_true rfl) (Nat.le_of_ble_eq_true rfl) h (fun r σ hq _ => ?_)
      obtain ⟨x10, I10, rfl, rfl, h⟩ := hq
      change J _ _ _ _ _ _ _ [vI x10] _ _
      refine J_aload_n dX11_areQuiet_125 rfl rfl ?_
      refine J_iload_n dX11_areQuiet_126 rfl rfl ?_
      refine J_iload dX11_areQuiet_127 rfl ?_
      refine J_callV (as := [_, _]) (mc1 := 0) (ms1 := 0) (mc := 0) (ms := 0) dX11_areQuiet_129 mv_X11_leaves lk_X11_518 sh_489 rfl (Nat.le_of_ble_eq_true rfl) (Nat.le_of_ble_eq_true rfl) h (fun r σ hq _ => ?_)
      obtain ⟨x11, I11, rfl, rfl, h⟩ := hq
      change J _ _ _ _ _ _ _ [vI x11, vI x10] _ _
      refine J_callS (as := [_, _]) (mc1 := 0) (ms1 := 0) (mc := 0) (ms := 0) dX11_areQuiet_132 ms_X11_greater lk_X11_577 rfl (Nat.le_of_ble_eq_true rfl) (Nat.le_of_ble_eq_true rfl) h (fun r σ hq _ => ?_)
      obtain ⟨x12, I12, rfl, rfl, h⟩ := hq
      change J _ _ _ _ _ _ _ [vI x12] _ _
      refine J_istore dX11_areQuiet_135 (by decide) ?_
      exact h
    · replace h := h.2 c
      refine J_goto (tgt := 167) dX11_areQuiet_80 (by decide) ?_
      refine J_iincN dX11_areQuiet_167 rfl (by decide) h.1 ?_
      replace h := h.2
      refine J_goto (tgt := 37) dX11_areQuiet_170 (by decide) ?_
      exact J_loc (ls_sub [0, 1, 2, 3, 4, 5, 6, 7] rfl) h
set_option maxRecDepth 20000 in
set_option maxHeartbeats 2000000 in
theorem bk_X11_areQuiet_137 {d : Nat} {I : HI} {Q : Option AV → AH → Prop} {a1 : Int} {a2 : Int} {a3 : Int} {a4 : Int} {a5 : Int} {a6 : Int} {a7 : Int} {a8 : Int} {a9 : Int} {a10 : Int}  (h : ((a9 < a10 → (-2147483648 ≤ a7 + 1 ∧ a7 + 1 ≤ 2147483647) ∧ J none mX11_areQuiet (d + 1) 0 0 37 [(0, vR 489), (1, vI a1), (2, vI a2), (3, vI a3), (4, vI a4), (5, vI a5), (6, vI a6), (7, vI (a7 + 1))] [] (mk I) Q) ∧ (¬ (a9 < a10) → CI mX11_isExcepted d [vR 489, vI a10, vI 0, vI a8, vI a3, vI a4] I (fun x1 I1 => ((x1 ≠ 0 → (-2147483648 ≤ a10 + 1 ∧ a10 + 1 ≤ 2147483647) ∧ J none mX11_areQuiet (d + 1) 0 0 137 [(0, vR 489), (1, vI a1), (2, vI a2), (3, vI a3), (4, vI a4), (5, vI a5), (6, vI a6), (7, vI a7), (8, vI a8), (9, vI a9), (10, vI (a10 + 1))] [] (mk I1) Q) ∧ (x1 = 0 → Q (some (vI 0)) (mk I1))))))) : J none mX11_areQuiet (d + 1) 0 0 137 [(0, vR 489), (1, vI a1), (2, vI a2), (3, vI a3), (4, vI a4), (5, vI a5), (6, vI a6), (7, vI a7), (8, vI a8), (9, vI a9), (10, vI a10)] [] (mk I) Q := by
  refine J_iload dX11_areQuiet_137 rfl ?_
  refine J_iload dX11_areQuiet_139 rfl ?_
  refine J_ic_gt (tgt := 167) dX11_areQuiet_141 (by decide) (fun c => ?_) (fun c => ?_)
  · replace h := h.1 c
    refine J_iincN dX11_areQuiet_167 rfl (by decide) h.1 ?_
    replace h := h.2
    refine J_goto (tgt := 37) dX11_areQuiet_170 (by decide) ?_
    exact J_loc (ls_sub [0, 1, 2, 3, 4, 5, 6, 7] rfl) h
  · replace h := h.2 c
    refine J_aload_n dX11_areQuiet_144 rfl rfl ?_
    refine J_iload dX11_areQuiet_145 rfl ?_
    refine J_iconst dX11_areQuiet_147 (ii_c rfl) ?_
    refine J_iload dX11_areQuiet_148 rfl ?_
    refine J_iload_n dX11_areQuiet_150 rfl rfl ?_
    refine J_iload dX11_areQuiet_151 rfl ?_
    refine J_callV (as := [_, _, _, _, _]) (mc1 := 0) (ms1 := 0) (mc := 0) (ms := 0) dX11_areQuiet_153 mv_X11_isExcepted lk_X11_555 sh_489 rfl (Nat.le_of_ble_eq_true rfl) (Nat.le_of_ble_eq_true rfl) h (fun r σ hq _ => ?_)
    obtain ⟨x1, I1, rfl, rfl, h⟩ := hq
    change J _ _ _ _ _ _ _ [vI x1] _ _
    refine J_if_ne (tgt := 161) dX11_areQuiet_156 (by decide) (fun c => ?_) (fun c => ?_)
    · replace h := h.1 c
      refine J_iincN dX11_areQuiet_161 rfl (by decide) h.1 ?_
      replace h := h.2
      refine J_goto (tgt := 137) dX11_areQuiet_164 (by decide) ?_
      exact h
    · replace h := h.2 c
      refine J_iconst dX11_areQuiet_159 (ii_c rfl) ?_
      exact J_retz dX11_areQuiet_160 rfl (Or.inl rfl) h
set_option maxRecDepth 20000 in
set_option maxHeartbeats 2000000 in
theorem bk_X11_isOff_0 {d : Nat} {I : HI} {Q : Option AV → AH → Prop} {a1 : Int} {a2 : Int}  (h : CI mX11_saintOf d [vI a1] I (fun x1 I1 => CI mX11_saintOf d [vI a2] I1 (fun x2 I2 => J none mX11_isOff (d + 1) 0 0 14 [(0, vR 489), (1, vI a1), (2, vI a2), (3, vI x1), (4, vI x2), (5, vI 0)] [] (mk I2) Q))) : J none mX11_isOff (d + 1) 0 0 0 [(0, vR 489), (1, vI a1), (2, vI a2)] [] (mk I) Q := by
  refine J_iload_n dX11_isOff_0 rfl rfl ?_
  refine J_callS (as := [_]) (mc1 := 0) (ms1 := 0) (mc := 0) (ms := 0) dX11_isOff_1 ms_X11_saintOf lk_X11_453 rfl (Nat.le_of_ble_eq_true rfl) (Nat.le_of_ble_eq_true rfl) h (fun r σ hq _ => ?_)
  obtain ⟨x1, I1, rfl, rfl, h⟩ := hq
  change J _ _ _ _ _ _ _ [vI x1] _ _
  refine J_istore_n dX11_isOff_4 rfl (by decide) ?_
  refine J_iload_n dX11_isOff_5 rfl rfl ?_
  refine J_callS (as := [_]) (mc1 := 0) (ms1 := 0) (mc := 0) (ms := 0) dX11_isOff_6 ms_X11_saintOf lk_X11_453 rfl (Nat.le_of_ble_eq_true rfl) (Nat.le_of_ble_eq_true rfl) h (fun r σ hq _ => ?_)
  obtain ⟨x2, I2, rfl, rfl, h⟩ := hq
  change J _ _ _ _ _ _ _ [vI x2] _ _
  refine J_istore dX11_isOff_9 (by decide) ?_
  refine J_iconst dX11_isOff_11 (ii_c rfl) ?_
  refine J_istore dX11_isOff_12 (by decide) ?_
  exact h
set_option maxRecDepth 20000 in
set_option maxHeartbeats 2000000 in
theorem bk_X11_isOff_14 {d : Nat} {I : HI} {Q : Option AV → AH → Prop} {a1 : Int} {a2 : Int} {a3 : Int} {a4 : Int} {a5 : Int}  (h : ((0 : Int) ≤ a1 ∧ (a1 : Int) < 244) ∧ (((I 532 a1.toNat) ≤ a5 → Q (some (vI 1)) (mk I)) ∧ (¬ ((I 532 a1.toNat) ≤ a5) → (-2147483648 ≤ 24 * a1 ∧ 24 * a1 ≤ 2147483647) ∧ (-2147483648 ≤ (24 * a1) + a5 ∧ (24 * a1) + a5 ≤ 2147483647) ∧ ((0 : Int) ≤ ((24 * a1) + a5) ∧ ((24 * a1) + a5 : Int) < 5856) ∧ J none mX11_isOff (d + 1) 0 0 42 [(0, vR 489), (1, vI a1), (2, vI a2), (3, vI a3), (4, vI a4), (5, vI a5), (6, vI (I 534 ((24 * a1) + a5).toNat)), (7, vI 0)] [] (mk I) Q))) : J none mX11_isOff (d + 1) 0 0 14 [(0, vR 489), (1, vI a1), (2, vI a2), (3, vI a3), (4, vI a4), (5, vI a5)] [] (mk I) Q := by
  refine J_iload dX11_isOff_14 rfl ?_
  refine J_aload_n dX11_isOff_16 rfl rfl ?_
  refine J_getR dX11_isOff_17 ck_11 fw_X11_145 rfl sh_489 rr_489_59 ?_
  refine J_iload_n dX11_isOff_20 rfl rfl ?_
  refine J_iald dX11_isOff_21 sh_532 h.1.1 h.1.2 ?_
  replace h := h.2
  refine J_ic_ge (tgt := 173) dX11_isOff_22 (by decide) (fun c => ?_) (fun c => ?_)
  · replace h := h.1 c
    refine J_iconst dX11_isOff_173 (ii_c rfl) ?_
    exact J_retz dX11_isOff_174 rfl (Or.inr rfl) h
  · replace h := h.2 c
    refine J_aload_n dX11_isOff_25 rfl rfl ?_
    refine J_getR dX11_isOff_26 ck_11 fw_X11_151 rfl sh_489 rr_489_61 ?_
    refine J_bipush dX11_isOff_29 (ii_c rfl) (by decide) ?_
    refine J_iload_n dX11_isOff_31 rfl rfl ?_
    refine J_imulN dX11_isOff_32 h.1 ?_
    replace h := h.2
    refine J_iload dX11_isOff_33 rfl ?_
    refine J_iaddN dX11_isOff_35 h.1 ?_
    replace h := h.2
    refine J_iald dX11_isOff_36 sh_534 h.1.1 h.1.2 ?_
    replace h := h.2
    refine J_istore dX11_isOff_37 (by decide) ?_
    refine J_iconst dX11_isOff_39 (ii_c rfl) ?_
    refine J_istore dX11_isOff_40 (by decide) ?_
    exact h
set_option maxRecDepth 20000 in
set_option maxHeartbeats 2000000 in
theorem bk_X11_isOff_42 {d : Nat} {I : HI} {Q : Option AV → AH → Prop} {a1 : Int} {a2 : Int} {a3 : Int} {a4 : Int} {a5 : Int} {a6 : Int} {a7 : Int}  (h : ((0 : Int) ≤ a2 ∧ (a2 : Int) < 244) ∧ (((I 532 a2.toNat) ≤ a7 → (-2147483648 ≤ a5 + 1 ∧ a5 + 1 ≤ 2147483647) ∧ J none mX11_isOff (d + 1) 0 0 14 [(0, vR 489), (1, vI a1), (2, vI a2), (3, vI a3), (4, vI a4), (5, vI (a5 + 1))] [] (mk I) Q) ∧ (¬ ((I 532 a2.toNat) ≤ a7) → ((a6 = (-1) → (-2147483648 ≤ a5 + 1 ∧ a5 + 1 ≤ 2147483647) ∧ J none mX11_isOff (d + 1) 0 0 14 [(0, vR 489), (1, vI a1), (2, vI a2), (3, vI a3), (4, vI a4), (5, vI (a5 + 1))] [] (mk I) Q) ∧ (¬ (a6 = (-1)) → (-2147483648 ≤ 24 * a2 ∧ 24 * a2 ≤ 2147483647) ∧ (-2147483648 ≤ (24 * a2) + a7 ∧ (24 * a2) + a7 ≤ 2147483647) ∧ ((0 : Int) ≤ ((24 * a2) + a7) ∧ ((24 * a2) + a7 : Int) < 5856) ∧ (-2147483648 ≤ 24 * a2 ∧ 24 * a2 ≤ 2147483647) ∧ (-2147483648 ≤ (24 * a2) + a7 ∧ (24 * a2) + a7 ≤ 2147483647) ∧ ((0 : Int) ≤ ((24 * a2) + a7) ∧ ((24 * a2) + a7 : Int) < 5856) ∧ (((I 534 ((24 * a2) + a7).toNat) = a6 → CI mX11_leaves d [vR 489, vI a1, vI a5] I (fun x1 I1 => (-2147483648 ≤ x1 + 1 ∧ x1 + 1 ≤ 2147483647) ∧ CI mX11_greater d [vI (x1 + 1), vI (I 535 ((24 * a2) + a7).toNat)] I1 (fun x2 I2 => J none mX11_isOff (d + 1) 0 0 109 [(0, vR 489), (1, vI a1), (2, vI a2), (3, vI a3), (4, vI a4), (5, vI a5), (6, vI a6), (7, vI a7), (8, vI (I 535 ((24 * a2) + a7).toNat)), (9, vI x2)] [] (mk I2) Q))) ∧ (¬ ((I 534 ((24 * a2) + a7).toNat) = a6) → (-2147483648 ≤ a7 + 1 ∧ a7 + 1 ≤ 2147483647) ∧ J none mX11_isOff (d + 1) 0 0 42 [(0, vR 489), (1, vI a1), (2, vI a2), (3, vI a3), (4, vI a4), (5, vI a5), (6, vI a6), (7, vI (a7 + 1))] [] (mk I) Q))))))) : J none mX11_isOff (d + 1) 0 0 42 [(0, vR 489), (1, vI a1), (2, vI a2), (3, vI a3), (4, vI a4), (5, vI a5), (6, vI a6), (7, vI a7)] [] (mk I) Q := by
  refine J_iload dX11_isOff_42 rfl ?_
  refine J_aload_n dX11_isOff_44 rfl rfl ?_
  refine J_getR dX11_isOff_45 ck_11 fw_X11_145 rfl sh_489 rr_489_59 ?_
  refine J_iload_n dX11_isOff_48 rfl rfl ?_
  refine J_iald dX11_isOff_49 sh_532 h.1.1 h.1.2 ?_
  replace h := h.2
  refine J_ic_ge (tgt := 167) dX11_isOff_50 (by decide) (fun c => ?_) (fun c => ?_)
  · replace h := h.1 c
    refine J_iincN dX11_isOff_167 rfl (by decide) h.1 ?_
    replace h := h.2
    refine J_goto (tgt := 14) dX11_isOff_170 (by decide) ?_
    exact J_loc (ls_sub [0, 1, 2, 3, 4, 5] rfl) h
  · replace h := h.2 c
    refine J_iload dX11_isOff_53 rfl ?_
    refine J_iconst dX11_isOff_55 (ii_c rfl) ?_
    refine J_ic_eq (tgt := 167) dX11_isOff_56 (by decide) (fun c => ?_) (fun c => ?_)
    · replace h := h.1 c
      refine J_iincN dX11_isOff_167 rfl (by decide) h.1 ?_
      replace h := h.2
      refine J_goto (tgt := 14) dX11_isOff_170 (by decide) ?_
      exact J_loc (ls_sub [0, 1, 2, 3, 4, 5] rfl) h
    · replace h := h.2 c
      refine J_aload_n dX11_isOff_59 rfl rfl ?_
      refine J_getR dX11_isOff_60 ck_11 fw_X11_154 rfl sh_489 rr_489_62 ?_
      refine J_bipush dX11_isOff_63 (ii_c rfl) (by decide) ?_
      refine J_iload_n dX11_isOff_65 rfl rfl ?_
      refine J_imulN dX11_isOff_66 h.1 ?_
      replace h := h.2
      refine J_iload dX11_isOff_67 rfl ?_
      refine J_iaddN dX11_isOff_69 h.1 ?_
      replace h := h.2
      refine J_iald dX11_isOff_70 sh_535 h.1.1 h.1.2 ?_
      replace h := h.2
      refine J_istore dX11_isOff_71 (by decide) ?_
      refine J_aload_n dX11_isOff_73 rfl rfl ?_
      refine J_getR dX11_isOff_74 ck_11 fw_X11_151 rfl sh_489 rr_489_61 ?_
      refine J_bipush dX11_isOff_77 (ii_c rfl) (by decide) ?_
      refine J_iload_n dX11_isOff_79 rfl rfl ?_
      refine J_imulN dX11_isOff_80 h.1 ?_
      replace h := h.2
      refine J_iload dX11_isOff_81 rfl ?_
      refine J_iaddN dX11_isOff_83 h.1 ?_
      replace h := h.2
      refine J_iald dX11_isOff_84 sh_534 h.1.1 h.1.2 ?_
      replace h := h.2
      refine J_iload dX11_isOff_85 rfl ?_
      refine J_ic_eq (tgt := 93) dX11_isOff_87 (by decide) (fun c => ?_) (fun c => ?_)
      · replace h := h.1 c
        refine J_aload_n dX11_isOff_93 rfl rfl ?_
        refine J_iload_n dX11_isOff_94 rfl rfl ?_
        refine J_iload dX11_isOff_95 rfl ?_
        refine J_callV (as := [_, _]) (mc1 := 0) (ms1 := 0) (mc := 0) (ms := 0) dX11_isOff_97 mv_X11_leaves lk_X11_518 sh_489 rfl (Nat.le_of_ble_eq_true rfl) (Nat.le_of_ble_eq_true rfl) h (fun r σ hq _ => ?_)
        obtain ⟨x1, I1, rfl, rfl, h⟩ := hq
        change J _ _ _ _ _ _ _ [vI x1] _ _
        refine J_iconst dX11_isOff_100 (ii_c rfl) ?_
        refine J_iaddN dX11_isOff_101 h.1 ?_
        replace h := h.2
        refine J_iload dX11_isOff_102 rfl ?_
        refine J_callS (as := [_, _]) (mc1 := 0) (ms1 := 0) (mc := 0) (ms := 0) dX11_isOff_104 ms_X11_greater lk_X11_577 rfl (Nat.le_of_ble_eq_true rfl) (Nat.le_of_ble_eq_true rfl) h (fun r σ hq _ => ?_)
        obtain ⟨x2, I2, rfl, rfl, h⟩ := hq
        change J _ _ _ _ _ _ _ [vI x2] _ _
        refine J_istore dX11_isOff_107 (by decide) ?_
        exact h
      · replace h := h.2 c
        refine J_goto (tgt := 161) dX11_isOff_90 (by decide) ?_
        refine J_iincN dX11_isOff_161 rfl (by decide) h.1 ?_
        replace h := h.2
        refine J_goto (tgt := 42) dX11_isOff_164 (by decide) ?_
        exact J_loc (ls_sub [0, 1, 2, 3, 4, 5, 6, 7] rfl) h
set_option maxRecDepth 20000 in
set_option maxHeartbeats 2000000 in
theorem bk_X11_isOff_109 {d : Nat} {I : HI} {Q : Option AV → AH → Prop} {a1 : Int} {a2 : Int} {a3 : Int} {a4 : Int} {a5 : Int} {a6 : Int} {a7 : Int} {a8 : Int} {a9 : Int}  (h : (-2147483648 ≤ 24 * a1 ∧ 24 * a1 ≤ 2147483647) ∧ (-2147483648 ≤ (24 * a1) + a5 ∧ (24 * a1) + a5 ≤ 2147483647) ∧ ((0 : Int) ≤ ((24 * a1) + a5) ∧ ((24 * a1) + a5 : Int) < 5856) ∧ (((I 535 ((24 * a1) + a5).toNat) < a9 → (-2147483648 ≤ a7 + 1 ∧ a7 + 1 ≤ 2147483647) ∧ J none mX11_isOff (d + 1) 0 0 42 [(0, vR 489), (1, vI a1), (2, vI a2), (3, vI a3), (4, vI a4), (5, vI a5), (6, vI a6), (7, vI (a7 + 1))] [] (mk I) Q) ∧ (¬ ((I 535 ((24 * a1) + a5).toNat) < a9) → CI mX11_doLie d [vR 489, vI a4, vI a8, vI a9] I (fun x1 I1 => ((x1 = 0 → (-2147483648 ≤ a9 + 1 ∧ a9 + 1 ≤ 2147483647) ∧ J none mX11_isOff (d + 1) 0 0 109 [(0, vR 489), (1, vI a1), (2, vI a2), (3, vI a3), (4, vI a4), (5, vI a5), (6, vI a6), (7, vI a7), (8, vI a8), (9, vI (a9 + 1))] [] (mk I1) Q) ∧ (¬ (x1 = 0) → CI mX11_isExcepted d [vR 489, vI a9, vI 1, vI 0, vI a3, vI a4] I1 (fun x2 I2 => ((x2 ≠ 0 → (-2147483648 ≤ a9 + 1 ∧ a9 + 1 ≤ 2147483647) ∧ J none mX11_isOff (d + 1) 0 0 109 [(0, vR 489), (1, vI a1), (2, vI a2), (3, vI a3), (4, vI a4), (5, vI a5), (6, vI a6), (7, vI a7), (8, vI a8), (9, vI (a9 + 1))] [] (mk I2) Q) ∧ (x2 = 0 → Q (some (vI 0)) (mk I2)))))))))) : J none mX11_isOff (d + 1) 0 0 109 [(0, vR 489), (1, vI a1), (2, vI a2), (3, vI a3), (4, vI a4), (5, vI a5), (6, vI a6), (7, vI a7), (8, vI a8), (9, vI a9)] [] (mk I) Q := by
  refine J_iload dX11_isOff_109 rfl ?_
  refine J_aload_n dX11_isOff_111 rfl rfl ?_
  refine J_getR dX11_isOff_112 ck_11 fw_X11_154 rfl sh_489 rr_489_62 ?_
  refine J_bipush dX11_isOff_115 (ii_c rfl) (by decide) ?_
  refine J_iload_n dX11_isOff_117 rfl rfl ?_
  refine J_imulN dX11_isOff_118 h.1 ?_
  replace h := h.2
  refine J_iload dX11_isOff_119 rfl ?_
  refine J_iaddN dX11_isOff_121 h.1 ?_
  replace h := h.2
  refine J_iald dX11_isOff_122 sh_535 h.1.1 h.1.2 ?_
  replace h := h.2
  refine J_ic_gt (tgt := 161) dX11_isOff_123 (by decide) (fun c => ?_) (fun c => ?_)
  · replace h := h.1 c
    refine J_iincN dX11_isOff_161 rfl (by decide) h.1 ?_
    replace h := h.2
    refine J_goto (tgt := 42) dX11_isOff_164 (by decide) ?_
    exact J_loc (ls_sub [0, 1, 2, 3, 4, 5, 6, 7] rfl) h
  · replace h := h.2 c
    refine J_aload_n dX11_isOff_126 rfl rfl ?_
    refine J_iload dX11_isOff_127 rfl ?_
    refine J_iload dX11_isOff_129 rfl ?_
    refine J_iload dX11_isOff_131 rfl ?_
    refine J_callV (as := [_, _, _]) (mc1 := 0) (ms1 := 0) (mc := 0) (ms := 0) dX11_isOff_133 mv_X11_doLie lk_X11_532 sh_489 rfl (Nat.le_of_ble_eq_true rfl) (Nat.le_of_ble_eq_true rfl) h (fun r σ hq _ => ?_)
    obtain ⟨x1, I1, rfl, rfl, h⟩ := hq
    change J _ _ _ _ _ _ _ [vI x1] _ _
    refine J_if_eq (tgt := 155) dX11_isOff_136 (by decide) (fun c => ?_) (fun c => ?_)
    · replace h := h.1 c
      refine J_iincN dX11_isOff_155 rfl (by decide) h.1 ?_
      replace h := h.2
      refine J_goto (tgt := 109) dX11_isOff_158 (by decide) ?_
      exact h
    · replace h := h.2 c
      refine J_aload_n dX11_isOff_139 rfl rfl ?_
      refine J_iload dX11_isOff_140 rfl ?_
      refine J_iconst dX11_isOff_142 (ii_c rfl) ?_
      refine J_iconst dX11_isOff_143 (ii_c rfl) ?_
      refine J_iload_n dX11_isOff_144 rfl rfl ?_
      refine J_iload dX11_isOff_145 rfl ?_
      refine J_callV (as := [_, _, _, _, _]) (mc1 := 0) (ms1 := 0) (mc := 0) (ms := 0) dX11_isOff_147 mv_X11_isExcepted lk_X11_555 sh_489 rfl (Nat.le_of_ble_eq_true rfl) (Nat.le_of_ble_eq_true rfl) h (fun r σ hq _ => ?_)
      obtain ⟨x2, I2, rfl, rfl, h⟩ := hq
      change J _ _ _ _ _ _ _ [vI x2] _ _
      refine J_if_ne (tgt := 155) dX11_isOff_150 (by decide) (fun c => ?_) (fun c => ?_)
      · replace h := h.1 c
        refine J_iincN dX11_isOff_155 rfl (by decide) h.1 ?_
        replace h := h.2
        refine J_goto (tgt := 109) dX11_isOff_158 (by decide) ?_
        exact h
      · replace h := h.2 c
        refine J_iconst dX11_isOff_153 (ii_c rfl) ?_
        exact J_retz dX11_isOff_154 rfl (Or.inl rfl) h
set_option maxRecDepth 20000 in
set_option maxHeartbeats 2000000 in
theorem bk_X11_but_0 {d : Nat} {I : HI} {Q : Option AV → AH → Prop} {a1 : Int}  (h : CI mX11_exceptions d [vR 489] I (fun x1 I1 => (-2147483648 ≤ (oSl 1 x1) - 1 ∧ (oSl 1 x1) - 1 ≤ 2147483647) ∧ CI mX11_isIn d [vL a1, vL 0, vL ((oSl 1 x1) - 1)] I1 (fun x2 I2 => ((x2 = 0 → Q (some (vI 0)) (mk I2)) ∧ (¬ (x2 = 0) → ((a1 ≠ (I2 489 64) → CV mX11_keeps d [vR 489] I2 (fun I3 => (∀ I4 : HI, I4 = up I3 489 64 a1 → Q (some (vI 1)) (mk I4)))) ∧ (a1 = (I2 489 64) → Q (some (vI 0)) (mk I2)))))))) : J none mX11_but (d + 1) 0 0 0 [(0, vR 489), (1, vI a1)] [] (mk I) Q := by
  refine J_iload_n dX11_but_0 rfl rfl ?_
  refine J_i2l dX11_but_1 ?_
  refine J_lconst 0 dX11_but_2 (ll_c rfl) (by decide) ?_
  refine J_iconst dX11_but_3 (ii_c rfl) ?_
  refine J_aload_n dX11_but_4 rfl rfl ?_
  refine J_callV (as := []) (mc1 := 0) (ms1 := 0) (mc := 0) (ms := 0) dX11_but_5 mv_X11_exceptions lk_X11_438 sh_489 rfl (Nat.le_of_ble_eq_true rfl) (Nat.le_of_ble_eq_true rfl) h (fun r σ hq _ => ?_)
  obtain ⟨x1, I1, rfl, rfl, h⟩ := hq
  change J _ _ _ _ _ _ _ [vI x1, vI 1, vL 0, vL a1] _ _
  refine J_ishl dX11_but_8 ?_
  refine J_iconst dX11_but_9 (ii_c rfl) ?_
  refine J_isubN dX11_but_10 h.1 ?_
  replace h := h.2
  refine J_i2l dX11_but_11 ?_
  refine J_callS (as := [_, _, _]) (mc1 := 0) (ms1 := 0) (mc := 0) (ms := 0) dX11_but_12 ms_X11_isIn lk_X11_264 rfl (Nat.le_of_ble_eq_true rfl) (Nat.le_of_ble_eq_true rfl) h (fun r σ hq _ => ?_)
  obtain ⟨x2, I2, rfl, rfl, h⟩ := hq
  change J _ _ _ _ _ _ _ [vI x2] _ _
  refine J_if_eq (tgt := 26) dX11_but_15 (by decide) (fun c => ?_) (fun c => ?_)
  · replace h := h.1 c
    refine J_iconst dX11_but_26 (ii_c rfl) ?_
    exact J_retz dX11_but_27 rfl (Or.inl rfl) h
  · replace h := h.2 c
    refine J_iload_n dX11_but_18 rfl rfl ?_
    refine J_aload_n dX11_but_19 rfl rfl ?_
    refine J_getI dX11_but_20 ck_11 fw_X11_361 rfl sh_489 ?_
    refine J_ic_ne (tgt := 28) dX11_but_23 (by decide) (fun c => ?_) (fun c => ?_)
    · replace h := h.1 c
      refine J_aload_n dX11_but_28 rfl rfl ?_
      refine J_callV (as := []) (mc1 := 0) (ms1 := 0) (mc := 0) (ms := 0) dX11_but_29 mv_X11_keeps lk_X11_509 sh_489 rfl (Nat.le_of_ble_eq_true rfl) (Nat.le_of_ble_eq_true rfl) h (fun r σ hq _ => ?_)
      obtain ⟨I3, rfl, rfl, h⟩ := hq
      change J _ _ _ _ _ _ _ [] _ _
      refine J_aload_n dX11_but_32 rfl rfl ?_
      refine J_iload_n dX11_but_33 rfl rfl ?_
      refine J_putI dX11_but_34 ck_11 fw_X11_361 rfl rfl (Or.inl rfl) sh_489 ?_
      replace h := h _ rfl
      refine J_iconst dX11_but_37 (ii_c rfl) ?_
      exact J_retz dX11_but_38 rfl (Or.inr rfl) h
    · replace h := h.2 c
      refine J_iconst dX11_but_26 (ii_c rfl) ?_
      exact J_retz dX11_but_27 rfl (Or.inl rfl) h
set_option maxRecDepth 20000 in
set_option maxHeartbeats 2000000 in
theorem bk_X11_words_0 {d : Nat} {I : HI} {Q : Option AV → AH → Prop} {a1 : Int}  (h : CI mX11_exceptions d [vR 489] I (fun x1 I1 => (-2147483648 ≤ x1 - 1 ∧ x1 - 1 ≤ 2147483647) ∧ CI mX11_isIn d [vL a1, vL 0, vL (x1 - 1)] I1 (fun x2 I2 => ((x2 = 0 → Q (some (vI (-1))) (mk I2)) ∧ (¬ (x2 = 0) → (-2147483648 ≤ 6 + a1 ∧ 6 + a1 ≤ 2147483647) ∧ ((0 : Int) ≤ (6 + a1) ∧ (6 + a1 : Int) < 12) ∧ Q (some (vI (I2 528 (6 + a1).toNat))) (mk I2)))))) : J none mX11_words (d + 1) 0 0 0 [(0, vR 489), (1, vI a1)] [] (mk I) Q := by
  refine J_iload_n dX11_words_0 rfl rfl ?_
  refine J_i2l dX11_words_1 ?_
  refine J_lconst 0 dX11_words_2 (ll_c rfl) (by decide) ?_
  refine J_aload_n dX11_words_3 rfl rfl ?_
  refine J_callV (as := []) (mc1 := 0) (ms1 := 0) (mc := 0) (ms := 0) dX11_words_4 mv_X11_exceptions lk_X11_438 sh_489 rfl (Nat.le_of_ble_eq_true rfl) (Nat.le_of_ble_eq_true rfl) h (fun r σ hq _ => ?_)
  obtain ⟨x1, I1, rfl, rfl, h⟩ := hq
  change J _ _ _ _ _ _ _ [vI x1, vL 0, vL a1] _ _
  refine J_iconst dX11_words_7 (ii_c rfl) ?_
  refine J_isubN dX11_words_8 h.1 ?_
  replace h := h.2
  refine J_i2l dX11_words_9 ?_
  refine J_callS (as := [_, _, _]) (mc1 := 0) (ms1 := 0) (mc := 0) (ms := 0) dX11_words_10 ms_X11_isIn lk_X11_264 rfl (Nat.le_of_ble_eq_true rfl) (Nat.le_of_ble_eq_true rfl) h (fun r σ hq _ => ?_)
  obtain ⟨x2, I2, rfl, rfl, h⟩ := hq
  change J _ _ _ _ _ _ _ [vI x2] _ _
  refine J_if_eq (tgt := 28) dX11_words_13 (by decide) (fun c => ?_) (fun c => ?_)
  · replace h := h.1 c
    refine J_iconst dX11_words_28 (ii_c rfl) ?_
    exact J_reti dX11_words_29 rfl h
  · replace h := h.2 c
    refine J_aload_n dX11_words_16 rfl rfl ?_
    refine J_getR dX11_words_17 ck_11 fw_X11_133 rfl sh_489 rr_489_53 ?_
    refine J_bipush dX11_words_20 (ii_c rfl) (by decide) ?_
    refine J_iload_n dX11_words_22 rfl rfl ?_
    refine J_iaddN dX11_words_23 h.1 ?_
    replace h := h.2
    refine J_iald dX11_words_24 sh_528 h.1.1 h.1.2 ?_
    replace h := h.2
    refine J_goto (tgt := 29) dX11_words_25 (by decide) ?_
    exact J_reti dX11_words_29 rfl h
set_option maxRecDepth 20000 in
set_option maxHeartbeats 2000000 in
theorem bk_X11_isLawful_0 {d : Nat} {I : HI} {Q : Option AV → AH → Prop}   (h : J none mX11_isLawful (d + 1) 0 0 2 [(0, vR 489), (1, vI 0)] [] (mk I) Q) : J none mX11_isLawful (d + 1) 0 0 0 [(0, vR 489)] [] (mk I) Q := by
  refine J_iconst dX11_isLawful_0 (ii_c rfl) ?_
  refine J_istore_n dX11_isLawful_1 rfl (by decide) ?_
  exact h
set_option maxRecDepth 20000 in
set_option maxHeartbeats 2000000 in
theorem bk_X11_isLawful_2 {d : Nat} {I : HI} {Q : Option AV → AH → Prop} {a1 : Int}  (h : CI mX11_saintMany d [vR 489] I (fun x1 I1 => ((x1 ≤ a1 → Q (some (vI 1)) (mk I1)) ∧ (¬ (x1 ≤ a1) → (-2147483648 ≤ a1 + 1 ∧ a1 + 1 ≤ 2147483647) ∧ J none mX11_isLawful (d + 1) 0 0 14 [(0, vR 489), (1, vI a1), (2, vI (a1 + 1))] [] (mk I1) Q)))) : J none mX11_isLawful (d + 1) 0 0 2 [(0, vR 489), (1, vI a1)] [] (mk I) Q := by
  refine J_iload_n dX11_isLawful_2 rfl rfl ?_
  refine J_aload_n dX11_isLawful_3 rfl rfl ?_
  refine J_callV (as := []) (mc1 := 0) (ms1 := 0) (mc := 0) (ms := 0) dX11_isLawful_4 mv_X11_saintMany lk_X11_447 sh_489 rfl (Nat.le_of_ble_eq_true rfl) (Nat.le_of_ble_eq_true rfl) h (fun r σ hq _ => ?_)
  obtain ⟨x1, I1, rfl, rfl, h⟩ := hq
  change J _ _ _ _ _ _ _ [vI x1, vI a1] _ _
  refine J_ic_ge (tgt := 45) dX11_isLawful_7 (by decide) (fun c => ?_) (fun c => ?_)
  · replace h := h.1 c
    refine J_iconst dX11_isLawful_45 (ii_c rfl) ?_
    exact J_retz dX11_isLawful_46 rfl (Or.inr rfl) h
  · replace h := h.2 c
    refine J_iload_n dX11_isLawful_10 rfl rfl ?_
    refine J_iconst dX11_isLawful_11 (ii_c rfl) ?_
    refine J_iaddN dX11_isLawful_12 h.1 ?_
    replace h := h.2
    refine J_istore_n dX11_isLawful_13 rfl (by decide) ?_
    exact h
set_option maxRecDepth 20000 in
set_option maxHeartbeats 2000000 in
theorem bk_X11_isLawful_14 {d : Nat} {I : HI} {Q : Option AV → AH → Prop} {a1 : Int} {a2 : Int}  (h : CI mX11_saintMany d [vR 489] I (fun x1 I1 => ((x1 ≤ a2 → (-2147483648 ≤ a1 + 1 ∧ a1 + 1 ≤ 2147483647) ∧ J none mX11_isLawful (d + 1) 0 0 2 [(0, vR 489), (1, vI (a1 + 1))] [] (mk I1) Q) ∧ (¬ (x1 ≤ a2) → CI mX11_areLawful d [vR 489, vI a1, vI a2] I1 (fun x2 I2 => ((x2 ≠ 0 → (-2147483648 ≤ a2 + 1 ∧ a2 + 1 ≤ 2147483647) ∧ J none mX11_isLawful (d + 1) 0 0 14 [(0, vR 489), (1, vI a1), (2, vI (a2 + 1))] [] (mk I2) Q) ∧ (x2 = 0 → Q (some (vI 0)) (mk I2)))))))) : J none mX11_isLawful (d + 1) 0 0 14 [(0, vR 489), (1, vI a1), (2, vI a2)] [] (mk I) Q := by
  refine J_iload_n dX11_isLawful_14 rfl rfl ?_
  refine J_aload_n dX11_isLawful_15 rfl rfl ?_
  refine J_callV (as := []) (mc1 := 0) (ms1 := 0) (mc := 0) (ms := 0) dX11_isLawful_16 mv_X11_saintMany lk_X11_447 sh_489 rfl (Nat.le_of_ble_eq_true rfl) (Nat.le_of_ble_eq_true rfl) h (fun r σ hq _ => ?_)
  obtain ⟨x1, I1, rfl, rfl, h⟩ := hq
  change J _ _ _ _ _ _ _ [vI x1, vI a2] _ _
  refine J_ic_ge (tgt := 39) dX11_isLawful_19 (by decide) (fun c => ?_) (fun c => ?_)
  · replace h := h.1 c
    refine J_iincN dX11_isLawful_39 rfl (by decide) h.1 ?_
    replace h := h.2
    refine J_goto (tgt := 2) dX11_isLawful_42 (by decide) ?_
    exact J_loc (ls_sub [0, 1] rfl) h
  · replace h := h.2 c
    refine J_aload_n dX11_isLawful_22 rfl rfl ?_
    refine J_iload_n dX11_isLawful_23 rfl rfl ?_
    refine J_iload_n dX11_isLawful_24 rfl rfl ?_
    refine J_callV (as := [_, _]) (mc1 := 0) (ms1 := 0) (mc := 0) (ms := 0) dX11_isLawful_25 mv_X11_areLawful lk_X11_580 sh_489 rfl (Nat.le_of_ble_eq_true rfl) (Nat.le_of_ble_eq_true rfl) h (fun r σ hq _ => ?_)
    obtain ⟨x2, I2, rfl, rfl, h⟩ := hq
    change J _ _ _ _ _ _ _ [vI x2] _ _
    refine J_if_ne (tgt := 33) dX11_isLawful_28 (by decide) (fun c => ?_) (fun c => ?_)
    · replace h := h.1 c
      refine J_iincN dX11_isLawful_33 rfl (by decide) h.1 ?_
      replace h := h.2
      refine J_goto (tgt := 14) dX11_isLawful_36 (by decide) ?_
      exact h
    · replace h := h.2 c
      refine J_iconst dX11_isLawful_31 (ii_c rfl) ?_
      exact J_retz dX11_isLawful_32 rfl (Or.inl rfl) h
set_option maxRecDepth 20000 in
set_option maxHeartbeats 2000000 in
theorem bk_X11_wordsOf_0 {d : Nat} {I : HI} {Q : Option AV → AH → Prop} {a1 : Int}  (h : J none mX11_wordsOf (d + 1) 0 0 4 [(0, vR 489), (1, vI a1), (2, vI 0), (3, vI 0)] [] (mk I) Q) : J none mX11_wordsOf (d + 1) 0 0 0 [(0, vR 489), (1, vI a1)] [] (mk I) Q := by
  refine J_iconst dX11_wordsOf_0 (ii_c rfl) ?_
  refine J_istore_n dX11_wordsOf_1 rfl (by decide) ?_
  refine J_iconst dX11_wordsOf_2 (ii_c rfl) ?_
  refine J_istore_n dX11_wordsOf_3 rfl (by decide) ?_
  exact h
set_option maxRecDepth 20000 in
set_option maxHeartbeats 2000000 in
theorem bk_X11_wordsOf_4 {d : Nat} {I : HI} {Q : Option AV → AH → Prop} {a1 : Int} {a2 : Int} {a3 : Int}  (h : CI mX11_exceptions d [vR 489] I (fun x1 I1 => ((x1 ≤ a3 → Q (some (vI a2)) (mk I1)) ∧ (¬ (x1 ≤ a3) → (((oA (oSr a1 a3) 1) ≠ 1 → (-2147483648 ≤ a3 + 1 ∧ a3 + 1 ≤ 2147483647) ∧ J none mX11_wordsOf (d + 1) 0 0 4 [(0, vR 489), (1, vI a1), (2, vI a2), (3, vI (a3 + 1))] [] (mk I1) Q) ∧ ((oA (oSr a1 a3) 1) = 1 → (-2147483648 ≤ 6 + a3 ∧ 6 + a3 ≤ 2147483647) ∧ ((0 : Int) ≤ (6 + a3) ∧ (6 + a3 : Int) < 12) ∧ (-2147483648 ≤ a2 + (I1 528 (6 + a3).toNat) ∧ a2 + (I1 528 (6 + a3).toNat) ≤ 2147483647) ∧ (-2147483648 ≤ a3 + 1 ∧ a3 + 1 ≤ 2147483647) ∧ J none mX11_wordsOf (d + 1) 0 0 4 [(0, vR 489), (1, vI a1), (2, vI (a2 + (I1 528 (6 + a3).toNat))), (3, vI (a3 + 1))] [] (mk I1) Q)))))) : J none mX11_wordsOf (d + 1) 0 0 4 [(0, vR 489), (1, vI a1), (2, vI a2), (3, vI a3)] [] (mk I) Q := by
  refine J_iload_n dX11_wordsOf_4 rfl rfl ?_
  refine J_aload_n dX11_wordsOf_5 rfl rfl ?_
  refine J_callV (as := []) (mc1 := 0) (ms1 := 0) (mc := 0) (ms := 0) dX11_wordsOf_6 mv_X11_exceptions lk_X11_438 sh_489 rfl (Nat.le_of_ble_eq_true rfl) (Nat.le_of_ble_eq_true rfl) h (fun r σ hq _ => ?_)
  obtain ⟨x1, I1, rfl, rfl, h⟩ := hq
  change J _ _ _ _ _ _ _ [vI x1, vI a3] _ _
  refine J_ic_ge (tgt := 39) dX11_wordsOf_9 (by decide) (fun c => ?_) (fun c => ?_)
  · replace h := h.1 c
    refine J_iload_n dX11_wordsOf_39 rfl rfl ?_
    exact J_reti dX11_wordsOf_40 rfl h
  · replace h := h.2 c
    refine J_iload_n dX11_wordsOf_12 rfl rfl ?_
    refine J_iload_n dX11_wordsOf_13 rfl rfl ?_
    refine J_ishr dX11_wordsOf_14 ?_
    refine J_iconst dX11_wordsOf_15 (ii_c rfl) ?_
    refine J_iand dX11_wordsOf_16 ?_
    refine J_iconst dX11_wordsOf_17 (ii_c rfl) ?_
    refine J_ic_ne (tgt := 33) dX11_wordsOf_18 (by decide) (fun c => ?_) (fun c => ?_)
    · replace h := h.1 c
      refine J_iincN dX11_wordsOf_33 rfl (by decide) h.1 ?_
      replace h := h.2
      refine J_goto (tgt := 4) dX11_wordsOf_36 (by decide) ?_
      exact h
    · replace h := h.2 c
      refine J_iload_n dX11_wordsOf_21 rfl rfl ?_
      refine J_aload_n dX11_wordsOf_22 rfl rfl ?_
      refine J_getR dX11_wordsOf_23 ck_11 fw_X11_133 rfl sh_489 rr_489_53 ?_
      refine J_bipush dX11_wordsOf_26 (ii_c rfl) (by decide) ?_
      refine J_iload_n dX11_wordsOf_28 rfl rfl ?_
      refine J_iaddN dX11_wordsOf_29 h.1 ?_
      replace h := h.2
      refine J_iald dX11_wordsOf_30 sh_528 h.1.1 h.1.2 ?_
      replace h := h.2
      refine J_iaddN dX11_wordsOf_31 h.1 ?_
      replace h := h.2
      refine J_istore_n dX11_wordsOf_32 rfl (by decide) ?_
      refine J_iincN dX11_wordsOf_33 rfl (by decide) h.1 ?_
      replace h := h.2
      refine J_goto (tgt := 4) dX11_wordsOf_36 (by decide) ?_
      exact h
set_option maxRecDepth 20000 in
set_option maxHeartbeats 2000000 in
theorem bk_X11_softer_0 {d : Nat} {I : HI} {Q : Option AV → AH → Prop} {a1 : Int}  (h : CI mX11_isIn d [vL a1, vL 0, vL 1] I (fun x1 I1 => ((x1 ≠ 0 → J none mX11_softer (d + 1) 0 0 22 [(0, vR 489), (1, vI a1), (2, vI (I1 489 64)), (3, vI (-1)), (4, vI 0)] [] (mk I1) Q) ∧ (x1 = 0 → Q (some (vI (-1))) (mk I1))))) : J none mX11_softer (d + 1) 0 0 0 [(0, vR 489), (1, vI a1)] [] (mk I) Q := by
  refine J_iload_n dX11_softer_0 rfl rfl ?_
  refine J_i2l dX11_softer_1 ?_
  refine J_lconst 0 dX11_softer_2 (ll_c rfl) (by decide) ?_
  refine J_lconst 1 dX11_softer_3 (ll_c rfl) (by decide) ?_
  refine J_callS (as := [_, _, _]) (mc1 := 0) (ms1 := 0) (mc := 0) (ms := 0) dX11_softer_4 ms_X11_isIn lk_X11_264 rfl (Nat.le_of_ble_eq_true rfl) (Nat.le_of_ble_eq_true rfl) h (fun r σ hq _ => ?_)
  obtain ⟨x1, I1, rfl, rfl, h⟩ := hq
  change J _ _ _ _ _ _ _ [vI x1] _ _
  refine J_if_ne (tgt := 12) dX11_softer_7 (by decide) (fun c => ?_) (fun c => ?_)
  · replace h := h.1 c
    refine J_aload_n dX11_softer_12 rfl rfl ?_
    refine J_getI dX11_softer_13 ck_11 fw_X11_361 rfl sh_489 ?_
    refine J_istore_n dX11_softer_16 rfl (by decide) ?_
    refine J_iconst dX11_softer_17 (ii_c rfl) ?_
    refine J_istore_n dX11_softer_18 rfl (by decide) ?_
    refine J_iconst dX11_softer_19 (ii_c rfl) ?_
    refine J_istore dX11_softer_20 (by decide) ?_
    exact h
  · replace h := h.2 c
    refine J_iconst dX11_softer_10 (ii_c rfl) ?_
    exact J_reti dX11_softer_11 rfl h
set_option maxRecDepth 20000 in
set_option maxHeartbeats 2000000 in
theorem bk_X11_softer_22 {d : Nat} {I : HI} {Q : Option AV → AH → Prop} {a1 : Int} {a2 : Int} {a3 : Int} {a4 : Int}  (h : CI mX11_exceptions d [vR 489] I (fun x1 I1 => (((oSl 1 x1) ≤ a4 → (∀ I2 : HI, I2 = up I1 489 64 a2 → ((a3 ≠ (-1) → ((a1 ≠ 0 → CI mX11_wordsOf d [vR 489, vI a3] I2 (fun x2 I3 => Q (some (vI x2)) (mk I3))) ∧ (a1 = 0 → Q (some (vI a3)) (mk I2)))) ∧ (a3 = (-1) → Q (some (vI (-1))) (mk I2))))) ∧ (¬ ((oSl 1 x1) ≤ a4) → (∀ I4 : HI, I4 = up I1 489 64 a4 → ((a3 = (-1) → CI mX11_isLawful d [vR 489] I4 (fun x3 I5 => ((x3 = 0 → (-2147483648 ≤ a4 + 1 ∧ a4 + 1 ≤ 2147483647) ∧ J none mX11_softer (d + 1) 0 0 22 [(0, vR 489), (1, vI a1), (2, vI a2), (3, vI a3), (4, vI (a4 + 1))] [] (mk I5) Q) ∧ (¬ (x3 = 0) → (-2147483648 ≤ a4 + 1 ∧ a4 + 1 ≤ 2147483647) ∧ J none mX11_softer (d + 1) 0 0 22 [(0, vR 489), (1, vI a1), (2, vI a2), (3, vI a4), (4, vI (a4 + 1))] [] (mk I5) Q)))) ∧ (¬ (a3 = (-1)) → CI mX11_wordsOf d [vR 489, vI a4] I4 (fun x4 I6 => CI mX11_wordsOf d [vR 489, vI a3] I6 (fun x5 I7 => ((x5 ≤ x4 → (-2147483648 ≤ a4 + 1 ∧ a4 + 1 ≤ 2147483647) ∧ J none mX11_softer (d + 1) 0 0 22 [(0, vR 489), (1, vI a1), (2, vI a2), (3, vI a3), (4, vI (a4 + 1))] [] (mk I7) Q) ∧ (¬ (x5 ≤ x4) → CI mX11_isLawful d [vR 489] I7 (fun x6 I8 => ((x6 = 0 → (-2147483648 ≤ a4 + 1 ∧ a4 + 1 ≤ 2147483647) ∧ J none mX11_softer (d + 1) 0 0 22 [(0, vR 489), (1, vI a1), (2, vI a2), (3, vI a3), (4, vI (a4 + 1))] [] (mk I8) Q) ∧ (¬ (x6 = 0) → (-2147483648 ≤ a4 + 1 ∧ a4 + 1 ≤ 2147483647) ∧ J none mX11_softer (d + 1) 0 0 22 [(0, vR 489), (1, vI a1), (2, vI a2), (3, vI a4), (4, vI (a4 + 1))] [] (mk I8) Q)))))))))))))) : J none mX11_softer (d + 1) 0 0 22 [(0, vR 489), (1, vI a1), (2, vI a2), (3, vI a3), (4, vI a4)] [] (mk I) Q := by
  refine J_iload dX11_softer_22 rfl ?_
  refine J_iconst dX11_softer_24 (ii_c rfl) ?_
  refine J_aload_n dX11_softer_25 rfl rfl ?_
  refine J_callV (as := []) (mc1 := 0) (ms1 := 0) (mc := 0) (ms := 0) dX11_softer_26 mv_X11_exceptions lk_X11_438 sh_489 rfl (Nat.le_of_ble_eq_true rfl) (Nat.le_of_ble_eq_true rfl) h (fun r σ hq _ => ?_)
  obtain ⟨x1, I1, rfl, rfl, h⟩ := hq
  change J _ _ _ _ _ _ _ [vI x1, vI 1, vI a4] _ _
  refine J_ishl dX11_softer_29 ?_
  refine J_ic_ge (tgt := 74) dX11_softer_30 (by decide) (fun c => ?_) (fun c => ?_)
  · replace h := h.1 c
    refine J_aload_n dX11_softer_74 rfl rfl ?_
    refine J_iload_n dX11_softer_75 rfl rfl ?_
    refine J_putI dX11_softer_76 ck_11 fw_X11_361 rfl rfl (Or.inl rfl) sh_489 ?_
    replace h := h _ rfl
    refine J_iload_n dX11_softer_79 rfl rfl ?_
    refine J_iconst dX11_softer_80 (ii_c rfl) ?_
    refine J_ic_ne (tgt := 88) dX11_softer_81 (by decide) (fun c => ?_) (fun c => ?_)
    · replace h := h.1 c
      refine J_iload_n dX11_softer_88 rfl rfl ?_
      refine J_if_ne (tgt := 96) dX11_softer_89 (by decide) (fun c => ?_) (fun c => ?_)
      · replace h := h.1 c
        refine J_aload_n dX11_softer_96 rfl rfl ?_
        refine J_iload_n dX11_softer_97 rfl rfl ?_
        refine J_callV (as := [_]) (mc1 := 0) (ms1 := 0) (mc := 0) (ms := 0) dX11_softer_98 mv_X11_wordsOf lk_X11_583 sh_489 rfl (Nat.le_of_ble_eq_true rfl) (Nat.le_of_ble_eq_true rfl) h (fun r σ hq _ => ?_)
        obtain ⟨x2, I3, rfl, rfl, h⟩ := hq
        change J _ _ _ _ _ _ _ [vI x2] _ _
        exact J_reti dX11_softer_101 rfl h
      · replace h := h.2 c
        refine J_iload_n dX11_softer_92 rfl rfl ?_
        refine J_goto (tgt := 101) dX11_softer_93 (by decide) ?_
        exact J_reti dX11_softer_101 rfl h
    · replace h := h.2 c
      refine J_iconst dX11_softer_84 (ii_c rfl) ?_
      refine J_goto (tgt := 101) dX11_softer_85 (by decide) ?_
      exact J_reti dX11_softer_101 rfl h
  · replace h := h.2 c
    refine J_aload_n dX11_softer_33 rfl rfl ?_
    refine J_iload dX11_softer_34 rfl ?_
    refine J_putI dX11_softer_36 ck_11 fw_X11_361 rfl rfl (Or.inl rfl) sh_489 ?_
    replace h := h _ rfl
    refine J_iload_n dX11_softer_39 rfl rfl ?_
    refine J_iconst dX11_softer_40 (ii_c rfl) ?_
    refine J_ic_eq (tgt := 58) dX11_softer_41 (by decide) (fun c => ?_) (fun c => ?_)
    · replace h := h.1 c
      refine J_aload_n dX11_softer_58 rfl rfl ?_
      refine J_callV (as := []) (mc1 := 0) (ms1 := 0) (mc := 0) (ms := 0) dX11_softer_59 mv_X11_isLawful lk_X11_586 sh_489 rfl (Nat.le_of_ble_eq_true rfl) (Nat.le_of_ble_eq_true rfl) h (fun r σ hq _ => ?_)
      obtain ⟨x3, I5, rfl, rfl, h⟩ := hq
      change J _ _ _ _ _ _ _ [vI x3] _ _
      refine J_if_eq (tgt := 68) dX11_softer_62 (by decide) (fun c => ?_) (fun c => ?_)
      · replace h := h.1 c
        refine J_iincN dX11_softer_68 rfl (by decide) h.1 ?_
        replace h := h.2
        refine J_goto (tgt := 22) dX11_softer_71 (by decide) ?_
        exact h
      · replace h := h.2 c
        refine J_iload dX11_softer_65 rfl ?_
        refine J_istore_n dX11_softer_67 rfl (by decide) ?_
        refine J_iincN dX11_softer_68 rfl (by decide) h.1 ?_
        replace h := h.2
        refine J_goto (tgt := 22) dX11_softer_71 (by decide) ?_
        exact h
    · replace h := h.2 c
      refine J_aload_n dX11_softer_44 rfl rfl ?_
      refine J_iload dX11_softer_45 rfl ?_
      refine J_callV (as := [_]) (mc1 := 0) (ms1 := 0) (mc := 0) (ms := 0) dX11_softer_47 mv_X11_wordsOf lk_X11_583 sh_489 rfl (Nat.le_of_ble_eq_true rfl) (Nat.le_of_ble_eq_true rfl) h (fun r σ hq _ => ?_)
      obtain ⟨x4, I6, rfl, rfl, h⟩ := hq
      change J _ _ _ _ _ _ _ [vI x4] _ _
      refine J_aload_n dX11_softer_50 rfl rfl ?_
      refine J_iload_n dX11_softer_51 rfl rfl ?_
      refine J_callV (as := [_]) (mc1 := 0) (ms1 := 0) (mc := 0) (ms := 0) dX11_softer_52 mv_X11_wordsOf lk_X11_583 sh_489 rfl (Nat.le_of_ble_eq_true rfl) (Nat.le_of_ble_eq_true rfl) h (fun r σ hq _ => ?_)
      obtain ⟨x5, I7, rfl, rfl, h⟩ := hq
      change J _ _ _ _ _ _ _ [vI x5, vI x4] _ _
      refine J_ic_ge (tgt := 68) dX11_softer_55 (by decide) (fun c => ?_) (fun c => ?_)
      · replace h := h.1 c
        refine J_iincN dX11_softer_68 rfl (by decide) h.1 ?_
        replace h := h.2
        refine J_goto (tgt := 22) dX11_softer_71 (by decide) ?_
        exact h
      · replace h := h.2 c
        refine J_aload_n dX11_softer_58 rfl rfl ?_
        refine J_callV (as := []) (mc1 := 0) (ms1 := 0) (mc := 0) (ms := 0) dX11_softer_59 mv_X11_isLawful lk_X11_586 sh_489 rfl (Nat.le_of_ble_eq_true rfl) (Nat.le_of_ble_eq_true rfl) h (fun r σ hq _ => ?_)
        obtain ⟨x6, I8, rfl, rfl, h⟩ := hq
        change J _ _ _ _ _ _ _ [vI x6] _ _
        refine J_if_eq (tgt := 68) dX11_softer_62 (by decide) (fun c => ?_) (fun c => ?_)
        · replace h := h.1 c
          refine J_iincN dX11_softer_68 rfl (by decide) h.1 ?_
          replace h := h.2
          refine J_goto (tgt := 22) dX11_softer_71 (by decide) ?_
          exact h
        · replace h := h.2 c
          refine J_iload dX11_softer_65 rfl ?_
          refine J_istore_n dX11_softer_67 rfl (by decide) ?_
          refine J_iincN dX11_softer_68 rfl (by decide) h.1 ?_
          replace h := h.2
          refine J_goto (tgt := 22) dX11_softer_71 (by decide) ?_
          exact h
set_option maxRecDepth 20000 in
set_option maxHeartbeats 2000000 in
theorem bk_X11_shut_0 {d : Nat} {I : HI} {Q : Option AV → AH → Prop} {a1 : Int} {a2 : Int}  (h : CI mX11_isLane d [vR 489, vI a1] I (fun x1 I1 => ((x1 = 0 → Q (some (vI 0)) (mk I1)) ∧ (¬ (x1 = 0) → CI mX11_isShut d [vR 489, vI a1] I1 (fun x2 I2 => ((x2 ≠ a2 → CV mX11_keeps d [vR 489] I2 (fun I3 => ((a2 = 0 → (∀ I4 : HI, I4 = up I3 489 63 (oA (I3 489 63) (oX (oSl 1 a1) (-1))) → Q (some (vI 1)) (mk I4))) ∧ (¬ (a2 = 0) → (∀ I5 : HI, I5 = up I3 489 63 (oO (I3 489 63) (oSl 1 a1)) → Q (some (vI 1)) (mk I5)))))) ∧ (x2 = a2 → Q (some (vI 0)) (mk I2)))))))) : J none mX11_shut (d + 1) 0 0 0 [(0, vR 489), (1, vI a1), (2, vI a2)] [] (mk I) Q := by
  refine J_aload_n dX11_shut_0 rfl rfl ?_
  refine J_iload_n dX11_shut_1 rfl rfl ?_
  refine J_callV (as := [_]) (mc1 := 0) (ms1 := 0) (mc := 0) (ms := 0) dX11_shut_2 mv_X11_isLane lk_X11_473 sh_489 rfl (Nat.le_of_ble_eq_true rfl) (Nat.le_of_ble_eq_true rfl) h (fun r σ hq _ => ?_)
  obtain ⟨x1, I1, rfl, rfl, h⟩ := hq
  change J _ _ _ _ _ _ _ [vI x1] _ _
  refine J_if_eq (tgt := 17) dX11_shut_5 (by decide) (fun c => ?_) (fun c => ?_)
  · replace h := h.1 c
    refine J_iconst dX11_shut_17 (ii_c rfl) ?_
    exact J_retz dX11_shut_18 rfl (Or.inl rfl) h
  · replace h := h.2 c
    refine J_aload_n dX11_shut_8 rfl rfl ?_
    refine J_iload_n dX11_shut_9 rfl rfl ?_
    refine J_callV (as := [_]) (mc1 := 0) (ms1 := 0) (mc := 0) (ms := 0) dX11_shut_10 mv_X11_isShut lk_X11_499 sh_489 rfl (Nat.le_of_ble_eq_true rfl) (Nat.le_of_ble_eq_true rfl) h (fun r σ hq _ => ?_)
    obtain ⟨x2, I2, rfl, rfl, h⟩ := hq
    change J _ _ _ _ _ _ _ [vI x2] _ _
    refine J_iload_n dX11_shut_13 rfl rfl ?_
    refine J_ic_ne (tgt := 19) dX11_shut_14 (by decide) (fun c => ?_) (fun c => ?_)
    · replace h := h.1 c
      refine J_aload_n dX11_shut_19 rfl rfl ?_
      refine J_callV (as := []) (mc1 := 0) (ms1 := 0) (mc := 0) (ms := 0) dX11_shut_20 mv_X11_keeps lk_X11_509 sh_489 rfl (Nat.le_of_ble_eq_true rfl) (Nat.le_of_ble_eq_true rfl) h (fun r σ hq _ => ?_)
      obtain ⟨I3, rfl, rfl, h⟩ := hq
      change J _ _ _ _ _ _ _ [] _ _
      refine J_aload_n dX11_shut_23 rfl rfl ?_
      refine J_iload_n dX11_shut_24 rfl rfl ?_
      refine J_if_eq (tgt := 39) dX11_shut_25 (by decide) (fun c => ?_) (fun c => ?_)
      · replace h := h.1 c
        refine J_aload_n dX11_shut_39 rfl rfl ?_
        refine J_getI dX11_shut_40 ck_11 fw_X11_358 rfl sh_489 ?_
        refine J_iconst dX11_shut_43 (ii_c rfl) ?_
        refine J_iload_n dX11_shut_44 rfl rfl ?_
        refine J_ishl dX11_shut_45 ?_
        refine J_iconst dX11_shut_46 (ii_c rfl) ?_
        refine J_ixor dX11_shut_47 ?_
        refine J_iand dX11_shut_48 ?_
        refine J_putI dX11_shut_49 ck_11 fw_X11_358 rfl rfl (Or.inl rfl) sh_489 ?_
        replace h := h _ rfl
        refine J_iconst dX11_shut_52 (ii_c rfl) ?_
        exact J_retz dX11_shut_53 rfl (Or.inr rfl) h
      · replace h := h.2 c
        refine J_aload_n dX11_shut_28 rfl rfl ?_
        refine J_getI dX11_shut_29 ck_11 fw_X11_358 rfl sh_489 ?_
        refine J_iconst dX11_shut_32 (ii_c rfl) ?_
        refine J_iload_n dX11_shut_33 rfl rfl ?_
        refine J_ishl dX11_shut_34 ?_
        refine J_ior dX11_shut_35 ?_
        refine J_goto (tgt := 49) dX11_shut_36 (by decide) ?_
        refine J_putI dX11_shut_49 ck_11 fw_X11_358 rfl rfl (Or.inl rfl) sh_489 ?_
        replace h := h _ rfl
        refine J_iconst dX11_shut_52 (ii_c rfl) ?_
        exact J_retz dX11_shut_53 rfl (Or.inr rfl) h
    · replace h := h.2 c
      refine J_iconst dX11_shut_17 (ii_c rfl) ?_
      exact J_retz dX11_shut_18 rfl (Or.inl rfl) h
set_option maxRecDepth 20000 in
set_option maxHeartbeats 2000000 in
theorem bk_X11_trodden_0 {d : Nat} {I : HI} {Q : Option AV → AH → Prop}   (h : J none mX11_trodden (d + 1) 0 0 4 [(0, vR 489), (1, vI 0), (2, vI 0)] [] (mk I) Q) : J none mX11_trodden (d + 1) 0 0 0 [(0, vR 489)] [] (mk I) Q := by
  refine J_iconst dX11_trodden_0 (ii_c rfl) ?_
  refine J_istore_n dX11_trodden_1 rfl (by decide) ?_
  refine J_iconst dX11_trodden_2 (ii_c rfl) ?_
  refine J_istore_n dX11_trodden_3 rfl (by decide) ?_
  exact h
set_option maxRecDepth 20000 in
set_option maxHeartbeats 2000000 in
theorem bk_X11_trodden_4 {d : Nat} {I : HI} {Q : Option AV → AH → Prop} {a1 : Int} {a2 : Int}  (h : CI mX11_saintMany d [vR 489] I (fun x1 I1 => ((x1 ≤ a2 → Q (some (vI a1)) (mk I1)) ∧ (¬ (x1 ≤ a2) → J none mX11_trodden (d + 1) 0 0 14 [(0, vR 489), (1, vI a1), (2, vI a2), (3, vI 0)] [] (mk I1) Q)))) : J none mX11_trodden (d + 1) 0 0 4 [(0, vR 489), (1, vI a1), (2, vI a2)] [] (mk I) Q := by
  refine J_iload_n dX11_trodden_4 rfl rfl ?_
  refine J_aload_n dX11_trodden_5 rfl rfl ?_
  refine J_callV (as := []) (mc1 := 0) (ms1 := 0) (mc := 0) (ms := 0) dX11_trodden_6 mv_X11_saintMany lk_X11_447 sh_489 rfl (Nat.le_of_ble_eq_true rfl) (Nat.le_of_ble_eq_true rfl) h (fun r σ hq _ => ?_)
  obtain ⟨x1, I1, rfl, rfl, h⟩ := hq
  change J _ _ _ _ _ _ _ [vI x1, vI a2] _ _
  refine J_ic_ge (tgt := 106) dX11_trodden_9 (by decide) (fun c => ?_) (fun c => ?_)
  · replace h := h.1 c
    refine J_iload_n dX11_trodden_106 rfl rfl ?_
    exact J_reti dX11_trodden_107 rfl h
  · replace h := h.2 c
    refine J_iconst dX11_trodden_12 (ii_c rfl) ?_
    refine J_istore_n dX11_trodden_13 rfl (by decide) ?_
    exact h
set_option maxRecDepth 20000 in
set_option maxHeartbeats 2000000 in
theorem bk_X11_trodden_14 {d : Nat} {I : HI} {Q : Option AV → AH → Prop} {a1 : Int} {a2 : Int} {a3 : Int}  (h : CI mX11_saintMany d [vR 489] I (fun x1 I1 => ((x1 ≤ a3 → (-2147483648 ≤ a2 + 1 ∧ a2 + 1 ≤ 2147483647) ∧ J none mX11_trodden (d + 1) 0 0 4 [(0, vR 489), (1, vI a1), (2, vI (a2 + 1))] [] (mk I1) Q) ∧ (¬ (x1 ≤ a3) → ((a2 = a3 → (-2147483648 ≤ a3 + 1 ∧ a3 + 1 ≤ 2147483647) ∧ J none mX11_trodden (d + 1) 0 0 14 [(0, vR 489), (1, vI a1), (2, vI a2), (3, vI (a3 + 1))] [] (mk I1) Q) ∧ (¬ (a2 = a3) → ((0 : Int) ≤ a2 ∧ (a2 : Int) < 244) ∧ (((I1 532 a2.toNat) ≠ 0 → J none mX11_trodden (d + 1) 0 0 42 [(0, vR 489), (1, vI a1), (2, vI a2), (3, vI a3), (4, vI 1)] [] (mk I1) Q) ∧ ((I1 532 a2.toNat) = 0 → (-2147483648 ≤ a3 + 1 ∧ a3 + 1 ≤ 2147483647) ∧ J none mX11_trodden (d + 1) 0 0 14 [(0, vR 489), (1, vI a1), (2, vI a2), (3, vI (a3 + 1))] [] (mk I1) Q)))))))) : J none mX11_trodden (d + 1) 0 0 14 [(0, vR 489), (1, vI a1), (2, vI a2), (3, vI a3)] [] (mk I) Q := by
  refine J_iload_n dX11_trodden_14 rfl rfl ?_
  refine J_aload_n dX11_trodden_15 rfl rfl ?_
  refine J_callV (as := []) (mc1 := 0) (ms1 := 0) (mc := 0) (ms := 0) dX11_trodden_16 mv_X11_saintMany lk_X11_447 sh_489 rfl (Nat.le_of_ble_eq_true rfl) (Nat.le_of_ble_eq_true rfl) h (fun r σ hq _ => ?_)
  obtain ⟨x1, I1, rfl, rfl, h⟩ := hq
  change J _ _ _ _ _ _ _ [vI x1, vI a3] _ _
  refine J_ic_ge (tgt := 100) dX11_trodden_19 (by decide) (fun c => ?_) (fun c => ?_)
  · replace h := h.1 c
    refine J_iincN dX11_trodden_100 rfl (by decide) h.1 ?_
    replace h := h.2
    refine J_goto (tgt := 4) dX11_trodden_103 (by decide) ?_
    exact J_loc (ls_sub [0, 1, 2] rfl) h
  · replace h := h.2 c
    refine J_iload_n dX11_trodden_22 rfl rfl ?_
    refine J_iload_n dX11_trodden_23 rfl rfl ?_
    refine J_ic_eq (tgt := 94) dX11_trodden_24 (by decide) (fun c => ?_) (fun c => ?_)
    · replace h := h.1 c
      refine J_iincN dX11_trodden_94 rfl (by decide) h.1 ?_
      replace h := h.2
      refine J_goto (tgt := 14) dX11_trodden_97 (by decide) ?_
      exact h
    · replace h := h.2 c
      refine J_aload_n dX11_trodden_27 rfl rfl ?_
      refine J_getR dX11_trodden_28 ck_11 fw_X11_145 rfl sh_489 rr_489_59 ?_
      refine J_iload_n dX11_trodden_31 rfl rfl ?_
      refine J_iald dX11_trodden_32 sh_532 h.1.1 h.1.2 ?_
      replace h := h.2
      refine J_if_ne (tgt := 39) dX11_trodden_33 (by decide) (fun c => ?_) (fun c => ?_)
      · replace h := h.1 c
        refine J_iconst dX11_trodden_39 (ii_c rfl) ?_
        refine J_istore dX11_trodden_40 (by decide) ?_
        exact h
      · replace h := h.2 c
        refine J_goto (tgt := 94) dX11_trodden_36 (by decide) ?_
        refine J_iincN dX11_trodden_94 rfl (by decide) h.1 ?_
        replace h := h.2
        refine J_goto (tgt := 14) dX11_trodden_97 (by decide) ?_
        exact h
set_option maxRecDepth 20000 in
set_option maxHeartbeats 2000000 in
theorem bk_X11_trodden_42 {d : Nat} {I : HI} {Q : Option AV → AH → Prop} {a1 : Int} {a2 : Int} {a3 : Int} {a4 : Int}  (h : CI mX11_endOf d [vR 489, vI a2] I (fun x1 I1 => ((x1 < a4 → (-2147483648 ≤ a3 + 1 ∧ a3 + 1 ≤ 2147483647) ∧ J none mX11_trodden (d + 1) 0 0 14 [(0, vR 489), (1, vI a1), (2, vI a2), (3, vI (a3 + 1))] [] (mk I1) Q) ∧ (¬ (x1 < a4) → CI mX11_isUpon d [vR 489, vI a2, vI a3, vI a4] I1 (fun x2 I2 => ((x2 = 0 → (-2147483648 ≤ a4 + 1 ∧ a4 + 1 ≤ 2147483647) ∧ J none mX11_trodden (d + 1) 0 0 42 [(0, vR 489), (1, vI a1), (2, vI a2), (3, vI a3), (4, vI (a4 + 1))] [] (mk I2) Q) ∧ (¬ (x2 = 0) → CI mX11_isExcepted d [vR 489, vI a4, vI 1, vI 0, vI a2, vI a3] I2 (fun x3 I3 => ((x3 ≠ 0 → (-2147483648 ≤ a4 + 1 ∧ a4 + 1 ≤ 2147483647) ∧ J none mX11_trodden (d + 1) 0 0 42 [(0, vR 489), (1, vI a1), (2, vI a2), (3, vI a3), (4, vI (a4 + 1))] [] (mk I3) Q) ∧ (x3 = 0 → CI mX11_onOf d [vR 489, vI a2, vI a4] I3 (fun x4 I4 => (-2147483648 ≤ a4 + 1 ∧ a4 + 1 ≤ 2147483647) ∧ J none mX11_trodden (d + 1) 0 0 42 [(0, vR 489), (1, vI (oO a1 (oSl 1 x4))), (2, vI a2), (3, vI a3), (4, vI (a4 + 1))] [] (mk I4) Q))))))))))) : J none mX11_trodden (d + 1) 0 0 42 [(0, vR 489), (1, vI a1), (2, vI a2), (3, vI a3), (4, vI a4)] [] (mk I) Q := by
  refine J_iload dX11_trodden_42 rfl ?_
  refine J_aload_n dX11_trodden_44 rfl rfl ?_
  refine J_iload_n dX11_trodden_45 rfl rfl ?_
  refine J_callV (as := [_]) (mc1 := 0) (ms1 := 0) (mc := 0) (ms := 0) dX11_trodden_46 mv_X11_endOf lk_X11_459 sh_489 rfl (Nat.le_of_ble_eq_true rfl) (Nat.le_of_ble_eq_true rfl) h (fun r σ hq _ => ?_)
  obtain ⟨x1, I1, rfl, rfl, h⟩ := hq
  change J _ _ _ _ _ _ _ [vI x1, vI a4] _ _
  refine J_ic_gt (tgt := 94) dX11_trodden_49 (by decide) (fun c => ?_) (fun c => ?_)
  · replace h := h.1 c
    refine J_iincN dX11_trodden_94 rfl (by decide) h.1 ?_
    replace h := h.2
    refine J_goto (tgt := 14) dX11_trodden_97 (by decide) ?_
    exact J_loc (ls_sub [0, 1, 2, 3] rfl) h
  · replace h := h.2 c
    refine J_aload_n dX11_trodden_52 rfl rfl ?_
    refine J_iload_n dX11_trodden_53 rfl rfl ?_
    refine J_iload_n dX11_trodden_54 rfl rfl ?_
    refine J_iload dX11_trodden_55 rfl ?_
    refine J_callV (as := [_, _, _]) (mc1 := 0) (ms1 := 0) (mc := 0) (ms := 0) dX11_trodden_57 mv_X11_isUpon lk_X11_543 sh_489 rfl (Nat.le_of_ble_eq_true rfl) (Nat.le_of_ble_eq_true rfl) h (fun r σ hq _ => ?_)
    obtain ⟨x2, I2, rfl, rfl, h⟩ := hq
    change J _ _ _ _ _ _ _ [vI x2] _ _
    refine J_if_eq (tgt := 88) dX11_trodden_60 (by decide) (fun c => ?_) (fun c => ?_)
    · replace h := h.1 c
      refine J_iincN dX11_trodden_88 rfl (by decide) h.1 ?_
      replace h := h.2
      refine J_goto (tgt := 42) dX11_trodden_91 (by decide) ?_
      exact h
    · replace h := h.2 c
      refine J_aload_n dX11_trodden_63 rfl rfl ?_
      refine J_iload dX11_trodden_64 rfl ?_
      refine J_iconst dX11_trodden_66 (ii_c rfl) ?_
      refine J_iconst dX11_trodden_67 (ii_c rfl) ?_
      refine J_iload_n dX11_trodden_68 rfl rfl ?_
      refine J_iload_n dX11_trodden_69 rfl rfl ?_
      refine J_callV (as := [_, _, _, _, _]) (mc1 := 0) (ms1 := 0) (mc := 0) (ms := 0) dX11_trodden_70 mv_X11_isExcepted lk_X11_555 sh_489 rfl (Nat.le_of_ble_eq_true rfl) (Nat.le_of_ble_eq_true rfl) h (fun r σ hq _ => ?_)
      obtain ⟨x3, I3, rfl, rfl, h⟩ := hq
      change J _ _ _ _ _ _ _ [vI x3] _ _
      refine J_if_ne (tgt := 88) dX11_trodden_73 (by decide) (fun c => ?_) (fun c => ?_)
      · replace h := h.1 c
        refine J_iincN dX11_trodden_88 rfl (by decide) h.1 ?_
        replace h := h.2
        refine J_goto (tgt := 42) dX11_trodden_91 (by decide) ?_
        exact h
      · replace h := h.2 c
        refine J_iload_n dX11_trodden_76 rfl rfl ?_
        refine J_iconst dX11_trodden_77 (ii_c rfl) ?_
        refine J_aload_n dX11_trodden_78 rfl rfl ?_
        refine J_iload_n dX11_trodden_79 rfl rfl ?_
        refine J_iload dX11_trodden_80 rfl ?_
        refine J_callV (as := [_, _]) (mc1 := 0) (ms1 := 0) (mc := 0) (ms := 0) dX11_trodden_82 mv_X11_onOf lk_X11_526 sh_489 rfl (Nat.le_of_ble_eq_true rfl) (Nat.le_of_ble_eq_true rfl) h (fun r σ hq _ => ?_)
        obtain ⟨x4, I4, rfl, rfl, h⟩ := hq
        change J _ _ _ _ _ _ _ [vI x4, vI 1, vI a1] _ _
        refine J_ishl dX11_trodden_85 ?_
        refine J_ior dX11_trodden_86 ?_
        refine J_istore_n dX11_trodden_87 rfl (by decide) ?_
        refine J_iincN dX11_trodden_88 rfl (by decide) h.1 ?_
        replace h := h.2
        refine J_goto (tgt := 42) dX11_trodden_91 (by decide) ?_
        exact h
set_option maxRecDepth 20000 in
set_option maxHeartbeats 2000000 in
theorem bk_X11_bitAt_0 {d : Nat} {I : HI} {Q : Option AV → AH → Prop} {a0 : Int} {a1 : Int}  (h : J none mX11_bitAt (d + 1) 0 0 4 [(0, vI a0), (1, vI a1), (2, vI 0), (3, vI 0)] [] (mk I) Q) : J none mX11_bitAt (d + 1) 0 0 0 [(0, vI a0), (1, vI a1)] [] (mk I) Q := by
  refine J_iconst dX11_bitAt_0 (ii_c rfl) ?_
  refine J_istore_n dX11_bitAt_1 rfl (by decide) ?_
  refine J_iconst dX11_bitAt_2 (ii_c rfl) ?_
  refine J_istore_n dX11_bitAt_3 rfl (by decide) ?_
  exact h
set_option maxRecDepth 20000 in
set_option maxHeartbeats 2000000 in
theorem bk_X11_bitAt_4 {d : Nat} {I : HI} {Q : Option AV → AH → Prop} {a0 : Int} {a1 : Int} {a2 : Int} {a3 : Int}  (h : ((16 ≤ a3 → Q (some (vI (-1))) (mk I)) ∧ (¬ (16 ≤ a3) → (((oA (oSr a0 a3) 1) ≠ 0 → ((a2 ≠ a1 → (-2147483648 ≤ a2 + 1 ∧ a2 + 1 ≤ 2147483647) ∧ (-2147483648 ≤ a3 + 1 ∧ a3 + 1 ≤ 2147483647) ∧ J none mX11_bitAt (d + 1) 0 0 4 [(0, vI a0), (1, vI a1), (2, vI (a2 + 1)), (3, vI (a3 + 1))] [] (mk I) Q) ∧ (a2 = a1 → Q (some (vI a3)) (mk I)))) ∧ ((oA (oSr a0 a3) 1) = 0 → (-2147483648 ≤ a3 + 1 ∧ a3 + 1 ≤ 2147483647) ∧ J none mX11_bitAt (d + 1) 0 0 4 [(0, vI a0), (1, vI a1), (2, vI a2), (3, vI (a3 + 1))] [] (mk I) Q))))) : J none mX11_bitAt (d + 1) 0 0 4 [(0, vI a0), (1, vI a1), (2, vI a2), (3, vI a3)] [] (mk I) Q := by
  refine J_iload_n dX11_bitAt_4 rfl rfl ?_
  refine J_bipush dX11_bitAt_5 (ii_c rfl) (by decide) ?_
  refine J_ic_ge (tgt := 37) dX11_bitAt_7 (by decide) (fun c => ?_) (fun c => ?_)
  · replace h := h.1 c
    refine J_iconst dX11_bitAt_37 (ii_c rfl) ?_
    exact J_reti dX11_bitAt_38 rfl h
  · replace h := h.2 c
    refine J_iload_n dX11_bitAt_10 rfl rfl ?_
    refine J_iload_n dX11_bitAt_11 rfl rfl ?_
    refine J_ishr dX11_bitAt_12 ?_
    refine J_iconst dX11_bitAt_13 (ii_c rfl) ?_
    refine J_iand dX11_bitAt_14 ?_
    refine J_if_ne (tgt := 21) dX11_bitAt_15 (by decide) (fun c => ?_) (fun c => ?_)
    · replace h := h.1 c
      refine J_iload_n dX11_bitAt_21 rfl rfl ?_
      refine J_iload_n dX11_bitAt_22 rfl rfl ?_
      refine J_ic_ne (tgt := 28) dX11_bitAt_23 (by decide) (fun c => ?_) (fun c => ?_)
      · replace h := h.1 c
        refine J_iincN dX11_bitAt_28 rfl (by decide) h.1 ?_
        replace h := h.2
        refine J_iincN dX11_bitAt_31 rfl (by decide) h.1 ?_
        replace h := h.2
        refine J_goto (tgt := 4) dX11_bitAt_34 (by decide) ?_
        exact h
      · replace h := h.2 c
        refine J_iload_n dX11_bitAt_26 rfl rfl ?_
        exact J_reti dX11_bitAt_27 rfl h
    · replace h := h.2 c
      refine J_goto (tgt := 31) dX11_bitAt_18 (by decide) ?_
      refine J_iincN dX11_bitAt_31 rfl (by decide) h.1 ?_
      replace h := h.2
      refine J_goto (tgt := 4) dX11_bitAt_34 (by decide) ?_
      exact h
set_option maxRecDepth 20000 in
set_option maxHeartbeats 2000000 in
theorem bk_X11_sweep_0 {d : Nat} {I : HI} {Q : Option AV → AH → Prop} {a1 : Int}  (h : CI mX11_trodden d [vR 489] I (fun x1 I1 => ((a1 ≠ (-1) → CI mX11_bitAt d [vI x1, vI a1] I1 (fun x2 I2 => Q (some (vI x2)) (mk I2))) ∧ (a1 = (-1) → CI mX11_bits d [vI x1] I1 (fun x3 I3 => Q (some (vI x3)) (mk I3)))))) : J none mX11_sweep (d + 1) 0 0 0 [(0, vR 489), (1, vI a1)] [] (mk I) Q := by
  refine J_aload_n dX11_sweep_0 rfl rfl ?_
  refine J_callV (as := []) (mc1 := 0) (ms1 := 0) (mc := 0) (ms := 0) dX11_sweep_1 mv_X11_trodden lk_X11_589 sh_489 rfl (Nat.le_of_ble_eq_true rfl) (Nat.le_of_ble_eq_true rfl) h (fun r σ hq _ => ?_)
  obtain ⟨x1, I1, rfl, rfl, h⟩ := hq
  change J _ _ _ _ _ _ _ [vI x1] _ _
  refine J_istore_n dX11_sweep_4 rfl (by decide) ?_
  refine J_iload_n dX11_sweep_5 rfl rfl ?_
  refine J_iconst dX11_sweep_6 (ii_c rfl) ?_
  refine J_ic_ne (tgt := 17) dX11_sweep_7 (by decide) (fun c => ?_) (fun c => ?_)
  · replace h := h.1 c
    refine J_iload_n dX11_sweep_17 rfl rfl ?_
    refine J_iload_n dX11_sweep_18 rfl rfl ?_
    refine J_callS (as := [_, _]) (mc1 := 0) (ms1 := 0) (mc := 0) (ms := 0) dX11_sweep_19 ms_X11_bitAt lk_X11_592 rfl (Nat.le_of_ble_eq_true rfl) (Nat.le_of_ble_eq_true rfl) h (fun r σ hq _ => ?_)
    obtain ⟨x2, I2, rfl, rfl, h⟩ := hq
    change J _ _ _ _ _ _ _ [vI x2] _ _
    exact J_reti dX11_sweep_22 rfl h
  · replace h := h.2 c
    refine J_iload_n dX11_sweep_10 rfl rfl ?_
    refine J_callS (as := [_]) (mc1 := 0) (ms1 := 0) (mc := 0) (ms := 0) dX11_sweep_11 ms_X11_bits lk_X11_468 rfl (Nat.le_of_ble_eq_true rfl) (Nat.le_of_ble_eq_true rfl) h (fun r σ hq _ => ?_)
    obtain ⟨x3, I3, rfl, rfl, h⟩ := hq
    change J _ _ _ _ _ _ _ [vI x3] _ _
    refine J_goto (tgt := 22) dX11_sweep_14 (by decide) ?_
    exact J_reti dX11_sweep_22 rfl h
set_option maxRecDepth 20000 in
set_option maxHeartbeats 2000000 in
theorem bk_X11_canCome_0 {d : Nat} {I : HI} {Q : Option AV → AH → Prop} {a1 : Int} {a2 : Int} {a3 : Int}  (h : (-2147483648 ≤ a1 - 1 ∧ a1 - 1 ≤ 2147483647) ∧ ((0 : Int) ≤ (a1 - 1) ∧ (a1 - 1 : Int) < 10) ∧ CI mX11_laneOf d [vR 489, vI (I 548 (a1 - 1).toNat), vI a2] I (fun x1 I1 => ((x1 = (-1) → Q (some (vI 0)) (mk I1)) ∧ (¬ (x1 = (-1)) → CI mX11_isShut d [vR 489, vI x1] I1 (fun x2 I2 => ((x2 ≠ 0 → Q (some (vI 0)) (mk I2)) ∧ (x2 = 0 → (-2147483648 ≤ 10 + a2 ∧ 10 + a2 ≤ 2147483647) ∧ ((0 : Int) ≤ (10 + a2) ∧ (10 + a2 : Int) < 20) ∧ (((oA (oSr a3 (I2 520 (10 + a2).toNat)) 1) ≠ 0 → Q (some (vI 0)) (mk I2)) ∧ ((oA (oSr a3 (I2 520 (10 + a2).toNat)) 1) = 0 → Q (some (vI 1)) (mk I2)))))))))) : J none mX11_canCome (d + 1) 0 0 0 [(0, vR 489), (1, vI a1), (2, vI a2), (3, vI a3)] [] (mk I) Q := by
  refine J_aload_n dX11_canCome_0 rfl rfl ?_
  refine J_aload_n dX11_canCome_1 rfl rfl ?_
  refine J_getR dX11_canCome_2 ck_11 fw_X11_193 rfl sh_489 rr_489_79 ?_
  refine J_iload_n dX11_canCome_5 rfl rfl ?_
  refine J_iconst dX11_canCome_6 (ii_c rfl) ?_
  refine J_isubN dX11_canCome_7 h.1 ?_
  replace h := h.2
  refine J_iald dX11_canCome_8 sh_548 h.1.1 h.1.2 ?_
  replace h := h.2
  refine J_iload_n dX11_canCome_9 rfl rfl ?_
  refine J_callV (as := [_, _]) (mc1 := 0) (ms1 := 0) (mc := 0) (ms := 0) dX11_canCome_10 mv_X11_laneOf lk_X11_496 sh_489 rfl (Nat.le_of_ble_eq_true rfl) (Nat.le_of_ble_eq_true rfl) h (fun r σ hq _ => ?_)
  obtain ⟨x1, I1, rfl, rfl, h⟩ := hq
  change J _ _ _ _ _ _ _ [vI x1] _ _
  refine J_istore dX11_canCome_13 (by decide) ?_
  refine J_iload dX11_canCome_15 rfl ?_
  refine J_iconst dX11_canCome_17 (ii_c rfl) ?_
  refine J_ic_eq (tgt := 50) dX11_canCome_18 (by decide) (fun c => ?_) (fun c => ?_)
  · replace h := h.1 c
    refine J_iconst dX11_canCome_50 (ii_c rfl) ?_
    exact J_retz dX11_canCome_51 rfl (Or.inl rfl) h
  · replace h := h.2 c
    refine J_aload_n dX11_canCome_21 rfl rfl ?_
    refine J_iload dX11_canCome_22 rfl ?_
    refine J_callV (as := [_]) (mc1 := 0) (ms1 := 0) (mc := 0) (ms := 0) dX11_canCome_24 mv_X11_isShut lk_X11_499 sh_489 rfl (Nat.le_of_ble_eq_true rfl) (Nat.le_of_ble_eq_true rfl) h (fun r σ hq _ => ?_)
    obtain ⟨x2, I2, rfl, rfl, h⟩ := hq
    change J _ _ _ _ _ _ _ [vI x2] _ _
    refine J_if_ne (tgt := 50) dX11_canCome_27 (by decide) (fun c => ?_) (fun c => ?_)
    · replace h := h.1 c
      refine J_iconst dX11_canCome_50 (ii_c rfl) ?_
      exact J_retz dX11_canCome_51 rfl (Or.inl rfl) h
    · replace h := h.2 c
      refine J_iload_n dX11_canCome_30 rfl rfl ?_
      refine J_aload_n dX11_canCome_31 rfl rfl ?_
      refine J_getR dX11_canCome_32 ck_11 fw_X11_106 rfl sh_489 rr_489_39 ?_
      refine J_bipush dX11_canCome_35 (ii_c rfl) (by decide) ?_
      refine J_iload_n dX11_canCome_37 rfl rfl ?_
      refine J_iaddN dX11_canCome_38 h.1 ?_
      replace h := h.2
      refine J_iald dX11_canCome_39 sh_520 h.1.1 h.1.2 ?_
      replace h := h.2
      refine J_ishr dX11_canCome_40 ?_
      refine J_iconst dX11_canCome_41 (ii_c rfl) ?_
      refine J_iand dX11_canCome_42 ?_
      refine J_if_ne (tgt := 50) dX11_canCome_43 (by decide) (fun c => ?_) (fun c => ?_)
      · replace h := h.1 c
        refine J_iconst dX11_canCome_50 (ii_c rfl) ?_
        exact J_retz dX11_canCome_51 rfl (Or.inl rfl) h
      · replace h := h.2 c
        refine J_iconst dX11_canCome_46 (ii_c rfl) ?_
        refine J_goto (tgt := 51) dX11_canCome_47 (by decide) ?_
        exact J_retz dX11_canCome_51 rfl (Or.inr rfl) h
set_option maxRecDepth 20000 in
set_option maxHeartbeats 2000000 in
theorem bk_X11_usedBy_0 {d : Nat} {I : HI} {Q : Option AV → AH → Prop} {a1 : Int}  (h : J none mX11_usedBy (d + 1) 0 0 4 [(0, vR 489), (1, vI a1), (2, vI 0), (3, vI 0)] [] (mk I) Q) : J none mX11_usedBy (d + 1) 0 0 0 [(0, vR 489), (1, vI a1)] [] (mk I) Q := by
  refine J_iconst dX11_usedBy_0 (ii_c rfl) ?_
  refine J_istore_n dX11_usedBy_1 rfl (by decide) ?_
  refine J_iconst dX11_usedBy_2 (ii_c rfl) ?_
  refine J_istore_n dX11_usedBy_3 rfl (by decide) ?_
  exact h
set_option maxRecDepth 20000 in
set_option maxHeartbeats 2000000 in
theorem bk_X11_usedBy_4 {d : Nat} {I : HI} {Q : Option AV → AH → Prop} {a1 : Int} {a2 : Int} {a3 : Int}  (h : ((a1 ≤ a3 → Q (some (vI a2)) (mk I)) ∧ (¬ (a1 ≤ a3) → ((0 : Int) ≤ a3 ∧ (a3 : Int) < 10) ∧ (-2147483648 ≤ 10 + (I 548 a3.toNat) ∧ 10 + (I 548 a3.toNat) ≤ 2147483647) ∧ ((0 : Int) ≤ (10 + (I 548 a3.toNat)) ∧ (10 + (I 548 a3.toNat) : Int) < 20) ∧ (-2147483648 ≤ a3 + 1 ∧ a3 + 1 ≤ 2147483647) ∧ J none mX11_usedBy (d + 1) 0 0 4 [(0, vR 489), (1, vI a1), (2, vI (oO a2 (oSl 1 (I 520 (10 + (I 548 a3.toNat)).toNat)))), (3, vI (a3 + 1))] [] (mk I) Q))) : J none mX11_usedBy (d + 1) 0 0 4 [(0, vR 489), (1, vI a1), (2, vI a2), (3, vI a3)] [] (mk I) Q := by
  refine J_iload_n dX11_usedBy_4 rfl rfl ?_
  refine J_iload_n dX11_usedBy_5 rfl rfl ?_
  refine J_ic_ge (tgt := 34) dX11_usedBy_6 (by decide) (fun c => ?_) (fun c => ?_)
  · replace h := h.1 c
    refine J_iload_n dX11_usedBy_34 rfl rfl ?_
    exact J_reti dX11_usedBy_35 rfl h
  · replace h := h.2 c
    refine J_iload_n dX11_usedBy_9 rfl rfl ?_
    refine J_iconst dX11_usedBy_10 (ii_c rfl) ?_
    refine J_aload_n dX11_usedBy_11 rfl rfl ?_
    refine J_getR dX11_usedBy_12 ck_11 fw_X11_106 rfl sh_489 rr_489_39 ?_
    refine J_bipush dX11_usedBy_15 (ii_c rfl) (by decide) ?_
    refine J_aload_n dX11_usedBy_17 rfl rfl ?_
    refine J_getR dX11_usedBy_18 ck_11 fw_X11_193 rfl sh_489 rr_489_79 ?_
    refine J_iload_n dX11_usedBy_21 rfl rfl ?_
    refine J_iald dX11_usedBy_22 sh_548 h.1.1 h.1.2 ?_
    replace h := h.2
    refine J_iaddN dX11_usedBy_23 h.1 ?_
    replace h := h.2
    refine J_iald dX11_usedBy_24 sh_520 h.1.1 h.1.2 ?_
    replace h := h.2
    refine J_ishl dX11_usedBy_25 ?_
    refine J_ior dX11_usedBy_26 ?_
    refine J_istore_n dX11_usedBy_27 rfl (by decide) ?_
    refine J_iincN dX11_usedBy_28 rfl (by decide) h.1 ?_
    replace h := h.2
    refine J_goto (tgt := 4) dX11_usedBy_31 (by decide) ?_
    exact h
set_option maxRecDepth 20000 in
set_option maxHeartbeats 2000000 in
theorem bk_X11_routesOf_0 {d : Nat} {I : HI} {Q : Option AV → AH → Prop} {a1 : Int}  (h : CI mX11_parishes d [vR 489] I (fun x1 I1 => CI mX11_bits d [vI x1] I1 (fun x2 I2 => ((0 : Int) ≤ a1 ∧ (a1 : Int) < 4) ∧ (∀ I3 : HI, I3 = up I2 546 a1.toNat 0 → CI mX11_homeOf d [vR 489, vI a1] I3 (fun x3 I4 => (∀ I5 : HI, I5 = up I4 548 0 x3 → J none mX11_routesOf (d + 1) 0 0 31 [(0, vR 489), (1, vI a1), (2, vI x2), (3, vI 1), (4, vI 0)] [] (mk I5) Q)))))) : J none mX11_routesOf (d + 1) 0 0 0 [(0, vR 489), (1, vI a1)] [] (mk I) Q := by
  refine J_aload_n dX11_routesOf_0 rfl rfl ?_
  refine J_callV (as := []) (mc1 := 0) (ms1 := 0) (mc := 0) (ms := 0) dX11_routesOf_1 mv_X11_parishes lk_X11_465 sh_489 rfl (Nat.le_of_ble_eq_true rfl) (Nat.le_of_ble_eq_true rfl) h (fun r σ hq _ => ?_)
  obtain ⟨x1, I1, rfl, rfl, h⟩ := hq
  change J _ _ _ _ _ _ _ [vI x1] _ _
  refine J_callS (as := [_]) (mc1 := 0) (ms1 := 0) (mc := 0) (ms := 0) dX11_routesOf_4 ms_X11_bits lk_X11_468 rfl (Nat.le_of_ble_eq_true rfl) (Nat.le_of_ble_eq_true rfl) h (fun r σ hq _ => ?_)
  obtain ⟨x2, I2, rfl, rfl, h⟩ := hq
  change J _ _ _ _ _ _ _ [vI x2] _ _
  refine J_istore_n dX11_routesOf_7 rfl (by decide) ?_
  refine J_aload_n dX11_routesOf_8 rfl rfl ?_
  refine J_getR dX11_routesOf_9 ck_11 fw_X11_187 rfl sh_489 rr_489_77 ?_
  refine J_iload_n dX11_routesOf_12 rfl rfl ?_
  refine J_iconst dX11_routesOf_13 (ii_c rfl) ?_
  refine J_iast dX11_routesOf_14 sh_546 h.1.1 h.1.2 ?_
  replace h := h.2 _ rfl
  refine J_aload_n dX11_routesOf_15 rfl rfl ?_
  refine J_getR dX11_routesOf_16 ck_11 fw_X11_193 rfl sh_489 rr_489_79 ?_
  refine J_iconst dX11_routesOf_19 (ii_c rfl) ?_
  refine J_aload_n dX11_routesOf_20 rfl rfl ?_
  refine J_iload_n dX11_routesOf_21 rfl rfl ?_
  refine J_callV (as := [_]) (mc1 := 0) (ms1 := 0) (mc := 0) (ms := 0) dX11_routesOf_22 mv_X11_homeOf lk_X11_456 sh_489 rfl (Nat.le_of_ble_eq_true rfl) (Nat.le_of_ble_eq_true rfl) h (fun r σ hq _ => ?_)
  obtain ⟨x3, I4, rfl, rfl, h⟩ := hq
  change J _ _ _ _ _ _ _ [vI x3, vI 0, vR 548] _ _
  refine J_iast dX11_routesOf_25 sh_548 (by decide) (by decide) ?_
  replace h := h _ rfl
  refine J_iconst dX11_routesOf_26 (ii_c rfl) ?_
  refine J_istore_n dX11_routesOf_27 rfl (by decide) ?_
  refine J_iconst dX11_routesOf_28 (ii_c rfl) ?_
  refine J_istore dX11_routesOf_29 (by decide) ?_
  exact h
set_option maxRecDepth 20000 in
set_option maxHeartbeats 2000000 in
theorem bk_X11_routesOf_31 {d : Nat} {I : HI} {Q : Option AV → AH → Prop} {a1 : Int} {a2 : Int} {a3 : Int} {a4 : Int}  (h : ((a3 ≤ 0 → Q none (mk I)) ∧ (¬ (a3 ≤ 0) → ((0 : Int) ≤ a1 ∧ (a1 : Int) < 4) ∧ ((20 ≤ (I 546 a1.toNat) → Q none (mk I)) ∧ (¬ (20 ≤ (I 546 a1.toNat)) → ((a3 ≠ a2 → CI mX11_usedBy d [vR 489, vI a3] I (fun x1 I1 => J none mX11_routesOf (d + 1) 0 0 117 [(0, vR 489), (1, vI a1), (2, vI a2), (3, vI a3), (4, vI a4), (5, vI x1)] [] (mk I1) Q)) ∧ (a3 = a2 → J none mX11_routesOf (d + 1) 0 0 54 [(0, vR 489), (1, vI a1), (2, vI a2), (3, vI a3), (4, vI a4), (5, vI 0)] [] (mk I) Q))))))) : J none mX11_routesOf (d + 1) 0 0 31 [(0, vR 489), (1, vI a1), (2, vI a2), (3, vI a3), (4, vI a4)] [] (mk I) Q := by
  refine J_iload_n dX11_routesOf_31 rfl rfl ?_
  refine J_if_le (tgt := 186) dX11_routesOf_32 (by decide) (fun c => ?_) (fun c => ?_)
  · replace h := h.1 c
    exact J_retv dX11_routesOf_186 rfl h
  · replace h := h.2 c
    refine J_aload_n dX11_routesOf_35 rfl rfl ?_
    refine J_getR dX11_routesOf_36 ck_11 fw_X11_187 rfl sh_489 rr_489_77 ?_
    refine J_iload_n dX11_routesOf_39 rfl rfl ?_
    refine J_iald dX11_routesOf_40 sh_546 h.1.1 h.1.2 ?_
    replace h := h.2
    refine J_bipush dX11_routesOf_41 (ii_c rfl) (by decide) ?_
    refine J_ic_ge (tgt := 186) dX11_routesOf_43 (by decide) (fun c => ?_) (fun c => ?_)
    · replace h := h.1 c
      exact J_retv dX11_routesOf_186 rfl h
    · replace h := h.2 c
      refine J_iload_n dX11_routesOf_46 rfl rfl ?_
      refine J_iload_n dX11_routesOf_47 rfl rfl ?_
      refine J_ic_ne (tgt := 110) dX11_routesOf_48 (by decide) (fun c => ?_) (fun c => ?_)
      · replace h := h.1 c
        refine J_aload_n dX11_routesOf_110 rfl rfl ?_
        refine J_iload_n dX11_routesOf_111 rfl rfl ?_
        refine J_callV (as := [_]) (mc1 := 0) (ms1 := 0) (mc := 0) (ms := 0) dX11_routesOf_112 mv_X11_usedBy lk_X11_595 sh_489 rfl (Nat.le_of_ble_eq_true rfl) (Nat.le_of_ble_eq_true rfl) h (fun r σ hq _ => ?_)
        obtain ⟨x1, I1, rfl, rfl, h⟩ := hq
        change J _ _ _ _ _ _ _ [vI x1] _ _
        refine J_istore dX11_routesOf_115 (by decide) ?_
        exact h
      · replace h := h.2 c
        refine J_iconst dX11_routesOf_51 (ii_c rfl) ?_
        refine J_istore dX11_routesOf_52 (by decide) ?_
        exact h
set_option maxRecDepth 20000 in
set_option maxHeartbeats 2000000 in
theorem bk_X11_routesOf_54 {d : Nat} {I : HI} {Q : Option AV → AH → Prop} {a1 : Int} {a2 : Int} {a3 : Int} {a4 : Int} {a5 : Int}  (h : ((a2 ≤ a5 → ((0 : Int) ≤ a1 ∧ (a1 : Int) < 4) ∧ (-2147483648 ≤ (I 546 a1.toNat) + 1 ∧ (I 546 a1.toNat) + 1 ≤ 2147483647) ∧ ((0 : Int) ≤ a1 ∧ (a1 : Int) < 4) ∧ (∀ I1 : HI, I1 = up I 546 a1.toNat ((I 546 a1.toNat) + 1) → CI mX11_usedBy d [vR 489, vI a3] I1 (fun x1 I2 => J none mX11_routesOf (d + 1) 0 0 117 [(0, vR 489), (1, vI a1), (2, vI a2), (3, vI a3), (4, vI 10), (5, vI x1)] [] (mk I2) Q))) ∧ (¬ (a2 ≤ a5) → (-2147483648 ≤ 200 * a1 ∧ 200 * a1 ≤ 2147483647) ∧ ((0 : Int) ≤ a1 ∧ (a1 : Int) < 4) ∧ (-2147483648 ≤ 10 * (I 546 a1.toNat) ∧ 10 * (I 546 a1.toNat) ≤ 2147483647) ∧ (-2147483648 ≤ (200 * a1) + (10 * (I 546 a1.toNat)) ∧ (200 * a1) + (10 * (I 546 a1.toNat)) ≤ 2147483647) ∧ (-2147483648 ≤ ((200 * a1) + (10 * (I 546 a1.toNat))) + a5 ∧ ((200 * a1) + (10 * (I 546 a1.toNat))) + a5 ≤ 2147483647) ∧ ((0 : Int) ≤ a5 ∧ (a5 : Int) < 10) ∧ ((0 : Int) ≤ (((200 * a1) + (10 * (I 546 a1.toNat))) + a5) ∧ (((200 * a1) + (10 * (I 546 a1.toNat))) + a5 : Int) < 800) ∧ (∀ I3 : HI, I3 = up I 547 (((200 * a1) + (10 * (I 546 a1.toNat))) + a5).toNat (I 548 a5.toNat) → (-2147483648 ≤ a5 + 1 ∧ a5 + 1 ≤ 2147483647) ∧ J none mX11_routesOf (d + 1) 0 0 54 [(0, vR 489), (1, vI a1), (2, vI a2), (3, vI a3), (4, vI a4), (5, vI (a5 + 1))] [] (mk I3) Q)))) : J none mX11_routesOf (d + 1) 0 0 54 [(0, vR 489), (1, vI a1), (2, vI a2), (3, vI a3), (4, vI a4), (5, vI a5)] [] (mk I) Q := by
  refine J_iload dX11_routesOf_54 rfl ?_
  refine J_iload_n dX11_routesOf_56 rfl rfl ?_
  refine J_ic_ge (tgt := 96) dX11_routesOf_57 (by decide) (fun c => ?_) (fun c => ?_)
  · replace h := h.1 c
    refine J_aload_n dX11_routesOf_96 rfl rfl ?_
    refine J_getR dX11_routesOf_97 ck_11 fw_X11_187 rfl sh_489 rr_489_77 ?_
    refine J_iload_n dX11_routesOf_100 rfl rfl ?_
    refine J_dup2 dX11_routesOf_101 rfl rfl ?_
    refine J_iald dX11_routesOf_102 sh_546 h.1.1 h.1.2 ?_
    replace h := h.2
    refine J_iconst dX11_routesOf_103 (ii_c rfl) ?_
    refine J_iaddN dX11_routesOf_104 h.1 ?_
    replace h := h.2
    refine J_iast dX11_routesOf_105 sh_546 h.1.1 h.1.2 ?_
    replace h := h.2 _ rfl
    refine J_bipush dX11_routesOf_106 (ii_c rfl) (by decide) ?_
    refine J_istore dX11_routesOf_108 (by decide) ?_
    refine J_aload_n dX11_routesOf_110 rfl rfl ?_
    refine J_iload_n dX11_routesOf_111 rfl rfl ?_
    refine J_callV (as := [_]) (mc1 := 0) (ms1 := 0) (mc := 0) (ms := 0) dX11_routesOf_112 mv_X11_usedBy lk_X11_595 sh_489 rfl (Nat.le_of_ble_eq_true rfl) (Nat.le_of_ble_eq_true rfl) h (fun r σ hq _ => ?_)
    obtain ⟨x1, I2, rfl, rfl, h⟩ := hq
    change J _ _ _ _ _ _ _ [vI x1] _ _
    refine J_istore dX11_routesOf_115 (by decide) ?_
    exact h
  · replace h := h.2 c
    refine J_aload_n dX11_routesOf_60 rfl rfl ?_
    refine J_getR dX11_routesOf_61 ck_11 fw_X11_190 rfl sh_489 rr_489_78 ?_
    refine J_sipush dX11_routesOf_64 (ii_c rfl) (by decide) ?_
    refine J_iload_n dX11_routesOf_67 rfl rfl ?_
    refine J_imulN dX11_routesOf_68 h.1 ?_
    replace h := h.2
    refine J_bipush dX11_routesOf_69 (ii_c rfl) (by decide) ?_
    refine J_aload_n dX11_routesOf_71 rfl rfl ?_
    refine J_getR dX11_routesOf_72 ck_11 fw_X11_187 rfl sh_489 rr_489_77 ?_
    refine J_iload_n dX11_routesOf_75 rfl rfl ?_
    refine J_iald dX11_routesOf_76 sh_546 h.1.1 h.1.2 ?_
    replace h := h.2
    refine J_imulN dX11_routesOf_77 h.1 ?_
    replace h := h.2
    refine J_iaddN dX11_routesOf_78 h.1 ?_
    replace h := h.2
    refine J_iload dX11_routesOf_79 rfl ?_
    refine J_iaddN dX11_routesOf_81 h.1 ?_
    replace h := h.2
    refine J_aload_n dX11_routesOf_82 rfl rfl ?_
    refine J_getR dX11_routesOf_83 ck_11 fw_X11_193 rfl sh_489 rr_489_79 ?_
    refine J_iload dX11_routesOf_86 rfl ?_
    refine J_iald dX11_routesOf_88 sh_548 h.1.1 h.1.2 ?_
    replace h := h.2
    refine J_iast dX11_routesOf_89 sh_547 h.1.1 h.1.2 ?_
    replace h := h.2 _ rfl
    refine J_iincN dX11_routesOf_90 rfl (by decide) h.1 ?_
    replace h := h.2
    refine J_goto (tgt := 54) dX11_routesOf_93 (by decide) ?_
    exact h
set_option maxRecDepth 20000 in
set_option maxHeartbeats 2000000 in
theorem bk_X11_routesOf_117 {d : Nat} {I : HI} {Q : Option AV → AH → Prop} {a1 : Int} {a2 : Int} {a3 : Int} {a4 : Int} {a5 : Int}  (h : CI mX11_corners d [vR 489] I (fun x1 I1 => ((x1 ≤ a4 → CI mX11_corners d [vR 489] I1 (fun x2 I2 => ((x2 ≤ a4 → (-2147483648 ≤ a3 + (-1) ∧ a3 + (-1) ≤ 2147483647) ∧ ((0 : Int) ≤ (a3 + (-1)) ∧ (a3 + (-1) : Int) < 10) ∧ (-2147483648 ≤ (I2 548 (a3 + (-1)).toNat) + 1 ∧ (I2 548 (a3 + (-1)).toNat) + 1 ≤ 2147483647) ∧ J none mX11_routesOf (d + 1) 0 0 31 [(0, vR 489), (1, vI a1), (2, vI a2), (3, vI (a3 + (-1))), (4, vI ((I2 548 (a3 + (-1)).toNat) + 1))] [] (mk I2) Q) ∧ (¬ (x2 ≤ a4) → ((0 : Int) ≤ a3 ∧ (a3 : Int) < 10) ∧ (∀ I3 : HI, I3 = up I2 548 a3.toNat a4 → (-2147483648 ≤ a3 + 1 ∧ a3 + 1 ≤ 2147483647) ∧ J none mX11_routesOf (d + 1) 0 0 31 [(0, vR 489), (1, vI a1), (2, vI a2), (3, vI (a3 + 1)), (4, vI 0)] [] (mk I3) Q))))) ∧ (¬ (x1 ≤ a4) → CI mX11_canCome d [vR 489, vI a3, vI a4, vI a5] I1 (fun x3 I4 => ((x3 ≠ 0 → CI mX11_corners d [vR 489] I4 (fun x4 I5 => ((x4 ≤ a4 → (-2147483648 ≤ a3 + (-1) ∧ a3 + (-1) ≤ 2147483647) ∧ ((0 : Int) ≤ (a3 + (-1)) ∧ (a3 + (-1) : Int) < 10) ∧ (-2147483648 ≤ (I5 548 (a3 + (-1)).toNat) + 1 ∧ (I5 548 (a3 + (-1)).toNat) + 1 ≤ 2147483647) ∧ J none mX11_routesOf (d + 1) 0 0 31 [(0, vR 489), (1, vI a1), (2, vI a2), (3, vI (a3 + (-1))), (4, vI ((I5 548 (a3 + (-1)).toNat) + 1))] [] (mk I5) Q) ∧ (¬ (x4 ≤ a4) → ((0 : Int) ≤ a3 ∧ (a3 : Int) < 10) ∧ (∀ I6 : HI, I6 = up I5 548 a3.toNat a4 → (-2147483648 ≤ a3 + 1 ∧ a3 + 1 ≤ 2147483647) ∧ J none mX11_routesOf (d + 1) 0 0 31 [(0, vR 489), (1, vI a1), (2, vI a2), (3, vI (a3 + 1)), (4, vI 0)] [] (mk I6) Q))))) ∧ (x3 = 0 → (-2147483648 ≤ a4 + 1 ∧ a4 + 1 ≤ 2147483647) ∧ J none mX11_routesOf (d + 1) 0 0 117 [(0, vR 489), (1, vI a1), (2, vI a2), (3, vI a3), (4, vI (a4 + 1)), (5, vI a5)] [] (mk I4) Q))))))) : J none mX11_routesOf (d + 1) 0 0 117 [(0, vR 489), (1, vI a1), (2, vI a2), (3, vI a3), (4, vI a4), (5, vI a5)] [] (mk I) Q := by
  refine J_iload dX11_routesOf_117 rfl ?_
  refine J_aload_n dX11_routesOf_119 rfl rfl ?_
  refine J_callV (as := []) (mc1 := 0) (ms1 := 0) (mc := 0) (ms := 0) dX11_routesOf_120 mv_X11_corners lk_X11_444 sh_489 rfl (Nat.le_of_ble_eq_true rfl) (Nat.le_of_ble_eq_true rfl) h (fun r σ hq _ => ?_)
  obtain ⟨x1, I1, rfl, rfl, h⟩ := hq
  change J _ _ _ _ _ _ _ [vI x1, vI a4] _ _
  refine J_ic_ge (tgt := 144) dX11_routesOf_123 (by decide) (fun c => ?_) (fun c => ?_)
  · replace h := h.1 c
    refine J_iload dX11_routesOf_144 rfl ?_
    refine J_aload_n dX11_routesOf_146 rfl rfl ?_
    refine J_callV (as := []) (mc1 := 0) (ms1 := 0) (mc := 0) (ms := 0) dX11_routesOf_147 mv_X11_corners lk_X11_444 sh_489 rfl (Nat.le_of_ble_eq_true rfl) (Nat.le_of_ble_eq_true rfl) h (fun r σ hq _ => ?_)
    obtain ⟨x2, I2, rfl, rfl, h⟩ := hq
    change J _ _ _ _ _ _ _ [vI x2, vI a4] _ _
    refine J_ic_ge (tgt := 170) dX11_routesOf_150 (by decide) (fun c => ?_) (fun c => ?_)
    · replace h := h.1 c
      refine J_iincN dX11_routesOf_170 rfl (by decide) h.1 ?_
      replace h := h.2
      refine J_aload_n dX11_routesOf_173 rfl rfl ?_
      refine J_getR dX11_routesOf_174 ck_11 fw_X11_193 rfl sh_489 rr_489_79 ?_
      refine J_iload_n dX11_routesOf_177 rfl rfl ?_
      refine J_iald dX11_routesOf_178 sh_548 h.1.1 h.1.2 ?_
      replace h := h.2
      refine J_iconst dX11_routesOf_179 (ii_c rfl) ?_
      refine J_iaddN dX11_routesOf_180 h.1 ?_
      replace h := h.2
      refine J_istore dX11_routesOf_181 (by decide) ?_
      refine J_goto (tgt := 31) dX11_routesOf_183 (by decide) ?_
      exact J_loc (ls_sub [0, 1, 2, 3, 4] rfl) h
    · replace h := h.2 c
      refine J_aload_n dX11_routesOf_153 rfl rfl ?_
      refine J_getR dX11_routesOf_154 ck_11 fw_X11_193 rfl sh_489 rr_489_79 ?_
      refine J_iload_n dX11_routesOf_157 rfl rfl ?_
      refine J_iload dX11_routesOf_158 rfl ?_
      refine J_iast dX11_routesOf_160 sh_548 h.1.1 h.1.2 ?_
      replace h := h.2 _ rfl
      refine J_iincN dX11_routesOf_161 rfl (by decide) h.1 ?_
      replace h := h.2
      refine J_iconst dX11_routesOf_164 (ii_c rfl) ?_
      refine J_istore dX11_routesOf_165 (by decide) ?_
      refine J_goto (tgt := 183) dX11_routesOf_167 (by decide) ?_
      refine J_goto (tgt := 31) dX11_routesOf_183 (by decide) ?_
      exact J_loc (ls_sub [0, 1, 2, 3, 4] rfl) h
  · replace h := h.2 c
    refine J_aload_n dX11_routesOf_126 rfl rfl ?_
    refine J_iload_n dX11_routesOf_127 rfl rfl ?_
    refine J_iload dX11_routesOf_128 rfl ?_
    refine J_iload dX11_routesOf_130 rfl ?_
    refine J_callV (as := [_, _, _]) (mc1 := 0) (ms1 := 0) (mc := 0) (ms := 0) dX11_routesOf_132 mv_X11_canCome lk_X11_598 sh_489 rfl (Nat.le_of_ble_eq_true rfl) (Nat.le_of_ble_eq_true rfl) h (fun r σ hq _ => ?_)
    obtain ⟨x3, I4, rfl, rfl, h⟩ := hq
    change J _ _ _ _ _ _ _ [vI x3] _ _
    refine J_if_ne (tgt := 144) dX11_routesOf_135 (by decide) (fun c => ?_) (fun c => ?_)
    · replace h := h.1 c
      refine J_iload dX11_routesOf_144 rfl ?_
      refine J_aload_n dX11_routesOf_146 rfl rfl ?_
      refine J_callV (as := []) (mc1 := 0) (ms1 := 0) (mc := 0) (ms := 0) dX11_routesOf_147 mv_X11_corners lk_X11_444 sh_489 rfl (Nat.le_of_ble_eq_true rfl) (Nat.le_of_ble_eq_true rfl) h (fun r σ hq _ => ?_)
      obtain ⟨x4, I5, rfl, rfl, h⟩ := hq
      change J _ _ _ _ _ _ _ [vI x4, vI a4] _ _
      refine J_ic_ge (tgt := 170) dX11_routesOf_150 (by decide) (fun c => ?_) (fun c => ?_)
      · replace h := h.1 c
        refine J_iincN dX11_routesOf_170 rfl (by decide) h.1 ?_
        replace h := h.2
        refine J_aload_n dX11_routesOf_173 rfl rfl ?_
        refine J_getR dX11_routesOf_174 ck_11 fw_X11_193 rfl sh_489 rr_489_79 ?_
        refine J_iload_n dX11_routesOf_177 rfl rfl ?_
        refine J_iald dX11_routesOf_178 sh_548 h.1.1 h.1.2 ?_
        replace h := h.2
        refine J_iconst dX11_routesOf_179 (ii_c rfl) ?_
        refine J_iaddN dX11_routesOf_180 h.1 ?_
        replace h := h.2
        refine J_istore dX11_routesOf_181 (by decide) ?_
        refine J_goto (tgt := 31) dX11_routesOf_183 (by decide) ?_
        exact J_loc (ls_sub [0, 1, 2, 3, 4] rfl) h
      · replace h := h.2 c
        refine J_aload_n dX11_routesOf_153 rfl rfl ?_
        refine J_getR dX11_routesOf_154 ck_11 fw_X11_193 rfl sh_489 rr_489_79 ?_
        refine J_iload_n dX11_routesOf_157 rfl rfl ?_
        refine J_iload dX11_routesOf_158 rfl ?_
        refine J_iast dX11_routesOf_160 sh_548 h.1.1 h.1.2 ?_
        replace h := h.2 _ rfl
        refine J_iincN dX11_routesOf_161 rfl (by decide) h.1 ?_
        replace h := h.2
        refine J_iconst dX11_routesOf_164 (ii_c rfl) ?_
        refine J_istore dX11_routesOf_165 (by decide) ?_
        refine J_goto (tgt := 183) dX11_routesOf_167 (by decide) ?_
        refine J_goto (tgt := 31) dX11_routesOf_183 (by decide) ?_
        exact J_loc (ls_sub [0, 1, 2, 3, 4] rfl) h
    · replace h := h.2 c
      refine J_iincN dX11_routesOf_138 rfl (by decide) h.1 ?_
      replace h := h.2
      refine J_goto (tgt := 117) dX11_routesOf_141 (by decide) ?_
      exact h
set_option maxRecDepth 20000 in
set_option maxHeartbeats 2000000 in
theorem bk_X11_wayOf_0 {d : Nat} {I : HI} {Q : Option AV → AH → Prop} {a0 : Int} {a1 : Int}  (h : (-2147483648 ≤ 60 * a0 ∧ 60 * a0 ≤ 2147483647) ∧ (-2147483648 ≤ 4 + (60 * a0) ∧ 4 + (60 * a0) ≤ 2147483647) ∧ (-2147483648 ≤ (4 + (60 * a0)) + a1 ∧ (4 + (60 * a0)) + a1 ≤ 2147483647) ∧ Q (some (vI ((4 + (60 * a0)) + a1))) (mk I)) : J none mX11_wayOf (d + 1) 0 0 0 [(0, vI a0), (1, vI a1)] [] (mk I) Q := by
  refine J_iconst dX11_wayOf_0 (ii_c rfl) ?_
  refine J_bipush dX11_wayOf_1 (ii_c rfl) (by decide) ?_
  refine J_iload_n dX11_wayOf_3 rfl rfl ?_
  refine J_imulN dX11_wayOf_4 h.1 ?_
  replace h := h.2
  refine J_iaddN dX11_wayOf_5 h.1 ?_
  replace h := h.2
  refine J_iload_n dX11_wayOf_6 rfl rfl ?_
  refine J_iaddN dX11_wayOf_7 h.1 ?_
  replace h := h.2
  exact J_reti dX11_wayOf_8 rfl h
set_option maxRecDepth 20000 in
set_option maxHeartbeats 2000000 in
theorem bk_X11_optionsOf_0 {d : Nat} {I : HI} {Q : Option AV → AH → Prop} {a1 : Int}  (h : CV mX11_routesOf d [vR 489, vI a1] I (fun I1 => CI mX11_parishes d [vR 489] I1 (fun x2 I2 => CI mX11_bits d [vI x2] I2 (fun x3 I3 => J none mX11_optionsOf (d + 1) 0 0 15 [(0, vR 489), (1, vI a1), (2, vI x3), (3, vI 0)] [] (mk I3) Q)))) : J none mX11_optionsOf (d + 1) 0 0 0 [(0, vR 489), (1, vI a1)] [] (mk I) Q := by
  refine J_aload_n dX11_optionsOf_0 rfl rfl ?_
  refine J_iload_n dX11_optionsOf_1 rfl rfl ?_
  refine J_callV (as := [_]) (mc1 := 0) (ms1 := 0) (mc := 0) (ms := 0) dX11_optionsOf_2 mv_X11_routesOf lk_X11_601 sh_489 rfl (Nat.le_of_ble_eq_true rfl) (Nat.le_of_ble_eq_true rfl) h (fun r σ hq _ => ?_)
  obtain ⟨I1, rfl, rfl, h⟩ := hq
  change J _ _ _ _ _ _ _ [] _ _
  refine J_aload_n dX11_optionsOf_5 rfl rfl ?_
  refine J_callV (as := []) (mc1 := 0) (ms1 := 0) (mc := 0) (ms := 0) dX11_optionsOf_6 mv_X11_parishes lk_X11_465 sh_489 rfl (Nat.le_of_ble_eq_true rfl) (Nat.le_of_ble_eq_true rfl) h (fun r σ hq _ => ?_)
  obtain ⟨x2, I2, rfl, rfl, h⟩ := hq
  change J _ _ _ _ _ _ _ [vI x2] _ _
  refine J_callS (as := [_]) (mc1 := 0) (ms1 := 0) (mc := 0) (ms := 0) dX11_optionsOf_9 ms_X11_bits lk_X11_468 rfl (Nat.le_of_ble_eq_true rfl) (Nat.le_of_ble_eq_true rfl) h (fun r σ hq _ => ?_)
  obtain ⟨x3, I3, rfl, rfl, h⟩ := hq
  change J _ _ _ _ _ _ _ [vI x3] _ _
  refine J_istore_n dX11_optionsOf_12 rfl (by decide) ?_
  refine J_iconst dX11_optionsOf_13 (ii_c rfl) ?_
  refine J_istore_n dX11_optionsOf_14 rfl (by decide) ?_
  exact h
set_option maxRecDepth 20000 in
set_option maxHeartbeats 2000000 in
theorem bk_X11_optionsOf_15 {d : Nat} {I : HI} {Q : Option AV → AH → Prop} {a1 : Int} {a2 : Int} {a3 : Int}  (h : ((0 : Int) ≤ a1 ∧ (a1 : Int) < 4) ∧ (((I 546 a1.toNat) ≤ a3 → Q none (mk I)) ∧ (¬ ((I 546 a1.toNat) ≤ a3) → J none mX11_optionsOf (d + 1) 0 0 28 [(0, vR 489), (1, vI a1), (2, vI a2), (3, vI a3), (4, vI 0)] [] (mk I) Q))) : J none mX11_optionsOf (d + 1) 0 0 15 [(0, vR 489), (1, vI a1), (2, vI a2), (3, vI a3)] [] (mk I) Q := by
  refine J_iload_n dX11_optionsOf_15 rfl rfl ?_
  refine J_aload_n dX11_optionsOf_16 rfl rfl ?_
  refine J_getR dX11_optionsOf_17 ck_11 fw_X11_187 rfl sh_489 rr_489_77 ?_
  refine J_iload_n dX11_optionsOf_20 rfl rfl ?_
  refine J_iald dX11_optionsOf_21 sh_546 h.1.1 h.1.2 ?_
  replace h := h.2
  refine J_ic_ge (tgt := 153) dX11_optionsOf_22 (by decide) (fun c => ?_) (fun c => ?_)
  · replace h := h.1 c
    exact J_retv dX11_optionsOf_153 rfl h
  · replace h := h.2 c
    refine J_iconst dX11_optionsOf_25 (ii_c rfl) ?_
    refine J_istore dX11_optionsOf_26 (by decide) ?_
    exact h
set_option maxRecDepth 20000 in
set_option maxHeartbeats 2000000 in
theorem bk_X11_optionsOf_28 {d : Nat} {I : HI} {Q : Option AV → AH → Prop} {a1 : Int} {a2 : Int} {a3 : Int} {a4 : Int}  (h : ((3 ≤ a4 → (-2147483648 ≤ a3 + 1 ∧ a3 + 1 ≤ 2147483647) ∧ J none mX11_optionsOf (d + 1) 0 0 15 [(0, vR 489), (1, vI a1), (2, vI a2), (3, vI (a3 + 1))] [] (mk I) Q) ∧ (¬ (3 ≤ a4) → (-2147483648 ≤ 3 * a3 ∧ 3 * a3 ≤ 2147483647) ∧ (-2147483648 ≤ (3 * a3) + a4 ∧ (3 * a3) + a4 ≤ 2147483647) ∧ CI mX11_wayOf d [vI a1, vI ((3 * a3) + a4)] I (fun x1 I1 => ((0 : Int) ≤ x1 ∧ (x1 : Int) < 244) ∧ (∀ I2 : HI, I2 = up I1 532 x1.toNat 0 → ((a4 ≤ 0 → J none mX11_optionsOf (d + 1) 0 0 78 [(0, vR 489), (1, vI a1), (2, vI a2), (3, vI a3), (4, vI a4), (5, vI x1), (6, vI 1)] [] (mk I2) Q) ∧ (¬ (a4 ≤ 0) → CI mX11_homeOf d [vR 489, vI a1] I2 (fun x2 I3 => (-2147483648 ≤ 5 * a4 ∧ 5 * a4 ≤ 2147483647) ∧ CV mX11_treads d [vR 489, vI x1, vI x2, vI (-1), vI (5 * a4)] I3 (fun I4 => J none mX11_optionsOf (d + 1) 0 0 78 [(0, vR 489), (1, vI a1), (2, vI a2), (3, vI a3), (4, vI a4), (5, vI x1), (6, vI 1)] [] (mk I4) Q))))))))) : J none mX11_optionsOf (d + 1) 0 0 28 [(0, vR 489), (1, vI a1), (2, vI a2), (3, vI a3), (4, vI a4)] [] (mk I) Q := by
  refine J_iload dX11_optionsOf_28 rfl ?_
  refine J_iconst dX11_optionsOf_30 (ii_c rfl) ?_
  refine J_ic_ge (tgt := 147) dX11_optionsOf_31 (by decide) (fun c => ?_) (fun c => ?_)
  · replace h := h.1 c
    refine J_iincN dX11_optionsOf_147 rfl (by decide) h.1 ?_
    replace h := h.2
    refine J_goto (tgt := 15) dX11_optionsOf_150 (by decide) ?_
    exact J_loc (ls_sub [0, 1, 2, 3] rfl) h
  · replace h := h.2 c
    refine J_iload_n dX11_optionsOf_34 rfl rfl ?_
    refine J_iconst dX11_optionsOf_35 (ii_c rfl) ?_
    refine J_iload_n dX11_optionsOf_36 rfl rfl ?_
    refine J_imulN dX11_optionsOf_37 h.1 ?_
    replace h := h.2
    refine J_iload dX11_optionsOf_38 rfl ?_
    refine J_iaddN dX11_optionsOf_40 h.1 ?_
    replace h := h.2
    refine J_callS (as := [_, _]) (mc1 := 0) (ms1 := 0) (mc := 0) (ms := 0) dX11_optionsOf_41 ms_X11_wayOf lk_X11_604 rfl (Nat.le_of_ble_eq_true rfl) (Nat.le_of_ble_eq_true rfl) h (fun r σ hq _ => ?_)
    obtain ⟨x1, I1, rfl, rfl, h⟩ := hq
    change J _ _ _ _ _ _ _ [vI x1] _ _
    refine J_istore dX11_optionsOf_44 (by decide) ?_
    refine J_aload_n dX11_optionsOf_46 rfl rfl ?_
    refine J_getR dX11_optionsOf_47 ck_11 fw_X11_145 rfl sh_489 rr_489_59 ?_
    refine J_iload dX11_optionsOf_50 rfl ?_
    refine J_iconst dX11_optionsOf_52 (ii_c rfl) ?_
    refine J_iast dX11_optionsOf_53 sh_532 h.1.1 h.1.2 ?_
    replace h := h.2 _ rfl
    refine J_iload dX11_optionsOf_54 rfl ?_
    refine J_if_le (tgt := 75) dX11_optionsOf_56 (by decide) (fun c => ?_) (fun c => ?_)
    · replace h := h.1 c
      refine J_iconst dX11_optionsOf_75 (ii_c rfl) ?_
      refine J_istore dX11_optionsOf_76 (by decide) ?_
      exact h
    · replace h := h.2 c
      refine J_aload_n dX11_optionsOf_59 rfl rfl ?_
      refine J_iload dX11_optionsOf_60 rfl ?_
      refine J_aload_n dX11_optionsOf_62 rfl rfl ?_
      refine J_iload_n dX11_optionsOf_63 rfl rfl ?_
      refine J_callV (as := [_]) (mc1 := 0) (ms1 := 0) (mc := 0) (ms := 0) dX11_optionsOf_64 mv_X11_homeOf lk_X11_456 sh_489 rfl (Nat.le_of_ble_eq_true rfl) (Nat.le_of_ble_eq_true rfl) h (fun r σ hq _ => ?_)
      obtain ⟨x2, I3, rfl, rfl, h⟩ := hq
      change J _ _ _ _ _ _ _ [vI x2, vI x1, vR 489] _ _
      refine J_iconst dX11_optionsOf_67 (ii_c rfl) ?_
      refine J_iconst dX11_optionsOf_68 (ii_c rfl) ?_
      refine J_iload dX11_optionsOf_69 rfl ?_
      refine J_imulN dX11_optionsOf_71 h.1 ?_
      replace h := h.2
      refine J_callV (as := [_, _, _, _]) (mc1 := 0) (ms1 := 0) (mc := 0) (ms := 0) dX11_optionsOf_72 mv_X11_treads lk_X11_512 sh_489 rfl (Nat.le_of_ble_eq_true rfl) (Nat.le_of_ble_eq_true rfl) h (fun r σ hq _ => ?_)
      obtain ⟨I4, rfl, rfl, h⟩ := hq
      change J _ _ _ _ _ _ _ [] _ _
      refine J_iconst dX11_optionsOf_75 (ii_c rfl) ?_
      refine J_istore dX11_optionsOf_76 (by decide) ?_
      exact h
set_option maxRecDepth 20000 in
set_option maxHeartbeats 2000000 in
theorem bk_X11_optionsOf_78 {d : Nat} {I : HI} {Q : Option AV → AH → Prop} {a1 : Int} {a2 : Int} {a3 : Int} {a4 : Int} {a5 : Int} {a6 : Int}  (h : ((a2 ≤ a6 → (-2147483648 ≤ a4 + 1 ∧ a4 + 1 ≤ 2147483647) ∧ J none mX11_optionsOf (d + 1) 0 0 28 [(0, vR 489), (1, vI a1), (2, vI a2), (3, vI a3), (4, vI (a4 + 1))] [] (mk I) Q) ∧ (¬ (a2 ≤ a6) → (-2147483648 ≤ 200 * a1 ∧ 200 * a1 ≤ 2147483647) ∧ (-2147483648 ≤ 10 * a3 ∧ 10 * a3 ≤ 2147483647) ∧ (-2147483648 ≤ (200 * a1) + (10 * a3) ∧ (200 * a1) + (10 * a3) ≤ 2147483647) ∧ (-2147483648 ≤ ((200 * a1) + (10 * a3)) + a6 ∧ ((200 * a1) + (10 * a3)) + a6 ≤ 2147483647) ∧ ((0 : Int) ≤ (((200 * a1) + (10 * a3)) + a6) ∧ (((200 * a1) + (10 * a3)) + a6 : Int) < 800) ∧ CI mX11_endsAt d [vR 489, vI a5] I (fun x1 I1 => CI mX11_laneOf d [vR 489, vI x1, vI (I 547 (((200 * a1) + (10 * a3)) + a6).toNat)] I1 (fun x2 I2 => CI mX11_longOf d [vR 489, vI x2, vI a1] I2 (fun x3 I3 => CV mX11_treads d [vR 489, vI a5, vI (I 547 (((200 * a1) + (10 * a3)) + a6).toNat), vI x2, vI x3] I3 (fun I4 => (-2147483648 ≤ a6 + 1 ∧ a6 + 1 ≤ 2147483647) ∧ J none mX11_optionsOf (d + 1) 0 0 78 [(0, vR 489), (1, vI a1), (2, vI a2), (3, vI a3), (4, vI a4), (5, vI a5), (6, vI (a6 + 1))] [] (mk I4) Q))))))) : J none mX11_optionsOf (d + 1) 0 0 78 [(0, vR 489), (1, vI a1), (2, vI a2), (3, vI a3), (4, vI a4), (5, vI a5), (6, vI a6)] [] (mk I) Q := by
  refine J_iload dX11_optionsOf_78 rfl ?_
  refine J_iload_n dX11_optionsOf_80 rfl rfl ?_
  refine J_ic_ge (tgt := 141) dX11_optionsOf_81 (by decide) (fun c => ?_) (fun c => ?_)
  · replace h := h.1 c
    refine J_iincN dX11_optionsOf_141 rfl (by decide) h.1 ?_
    replace h := h.2
    refine J_goto (tgt := 28) dX11_optionsOf_144 (by decide) ?_
    exact J_loc (ls_sub [0, 1, 2, 3, 4] rfl) h
  · replace h := h.2 c
    refine J_aload_n dX11_optionsOf_84 rfl rfl ?_
    refine J_getR dX11_optionsOf_85 ck_11 fw_X11_190 rfl sh_489 rr_489_78 ?_
    refine J_sipush dX11_optionsOf_88 (ii_c rfl) (by decide) ?_
    refine J_iload_n dX11_optionsOf_91 rfl rfl ?_
    refine J_imulN dX11_optionsOf_92 h.1 ?_
    replace h := h.2
    refine J_bipush dX11_optionsOf_93 (ii_c rfl) (by decide) ?_
    refine J_iload_n dX11_optionsOf_95 rfl rfl ?_
    refine J_imulN dX11_optionsOf_96 h.1 ?_
    replace h := h.2
    refine J_iaddN dX11_optionsOf_97 h.1 ?_
    replace h := h.2
    refine J_iload dX11_optionsOf_98 rfl ?_
    refine J_iaddN dX11_optionsOf_100 h.1 ?_
    replace h := h.2
    refine J_iald dX11_optionsOf_101 sh_547 h.1.1 h.1.2 ?_
    replace h := h.2
    refine J_istore dX11_optionsOf_102 (by decide) ?_
    refine J_aload_n dX11_optionsOf_104 rfl rfl ?_
    refine J_aload_n dX11_optionsOf_105 rfl rfl ?_
    refine J_iload dX11_optionsOf_106 rfl ?_
    refine J_callV (as := [_]) (mc1 := 0) (ms1 := 0) (mc := 0) (ms := 0) dX11_optionsOf_108 mv_X11_endsAt lk_X11_484 sh_489 rfl (Nat.le_of_ble_eq_true rfl) (Nat.le_of_ble_eq_true rfl) h (fun r σ hq _ => ?_)
    obtain ⟨x1, I1, rfl, rfl, h⟩ := hq
    change J _ _ _ _ _ _ _ [vI x1, vR 489] _ _
    refine J_iload dX11_optionsOf_111 rfl ?_
    refine J_callV (as := [_, _]) (mc1 := 0) (ms1 := 0) (mc := 0) (ms := 0) dX11_optionsOf_113 mv_X11_laneOf lk_X11_496 sh_489 rfl (Nat.le_of_ble_eq_true rfl) (Nat.le_of_ble_eq_true rfl) h (fun r σ hq _ => ?_)
    obtain ⟨x2, I2, rfl, rfl, h⟩ := hq
    change J _ _ _ _ _ _ _ [vI x2] _ _
    refine J_istore dX11_optionsOf_116 (by decide) ?_
    refine J_aload_n dX11_optionsOf_118 rfl rfl ?_
    refine J_iload dX11_optionsOf_119 rfl ?_
    refine J_iload dX11_optionsOf_121 rfl ?_
    refine J_iload dX11_optionsOf_123 rfl ?_
    refine J_aload_n dX11_optionsOf_125 rfl rfl ?_
    refine J_iload dX11_optionsOf_126 rfl ?_
    refine J_iload_n dX11_optionsOf_128 rfl rfl ?_
    refine J_callV (as := [_, _]) (mc1 := 0) (ms1 := 0) (mc := 0) (ms := 0) dX11_optionsOf_129 mv_X11_longOf lk_X11_502 sh_489 rfl (Nat.le_of_ble_eq_true rfl) (Nat.le_of_ble_eq_true rfl) h (fun r σ hq _ => ?_)
    obtain ⟨x3, I3, rfl, rfl, h⟩ := hq
    change J _ _ _ _ _ _ _ [vI x3, vI x2, vI (I 547 (((200 * a1) + (10 * a3)) + a6).toNat), vI a5, vR 489] _ _
    refine J_callV (as := [_, _, _, _]) (mc1 := 0) (ms1 := 0) (mc := 0) (ms := 0) dX11_optionsOf_132 mv_X11_treads lk_X11_512 sh_489 rfl (Nat.le_of_ble_eq_true rfl) (Nat.le_of_ble_eq_true rfl) h (fun r σ hq _ => ?_)
    obtain ⟨I4, rfl, rfl, h⟩ := hq
    change J _ _ _ _ _ _ _ [] _ _
    refine J_iincN dX11_optionsOf_135 rfl (by decide) h.1 ?_
    replace h := h.2
    refine J_goto (tgt := 78) dX11_optionsOf_138 (by decide) ?_
    exact J_loc (ls_sub [0, 1, 2, 3, 4, 5, 6] rfl) h
set_option maxRecDepth 20000 in
set_option maxHeartbeats 2000000 in
theorem bk_X11_options_0 {d : Nat} {I : HI} {Q : Option AV → AH → Prop}   (h : J none mX11_options (d + 1) 0 0 2 [(0, vR 489), (1, vI 0)] [] (mk I) Q) : J none mX11_options (d + 1) 0 0 0 [(0, vR 489)] [] (mk I) Q := by
  refine J_iconst dX11_options_0 (ii_c rfl) ?_
  refine J_istore_n dX11_options_1 rfl (by decide) ?_
  exact h
set_option maxRecDepth 20000 in
set_option maxHeartbeats 2000000 in
theorem bk_X11_options_2 {d : Nat} {I : HI} {Q : Option AV → AH → Prop} {a1 : Int}  (h : CI mX11_saintMany d [vR 489] I (fun x1 I1 => ((x1 ≤ a1 → J none mX11_options (d + 1) 0 0 23 [(0, vR 489), (1, vI 0)] [] (mk I1) Q) ∧ (¬ (x1 ≤ a1) → CV mX11_optionsOf d [vR 489, vI a1] I1 (fun I2 => (-2147483648 ≤ a1 + 1 ∧ a1 + 1 ≤ 2147483647) ∧ J none mX11_options (d + 1) 0 0 2 [(0, vR 489), (1, vI (a1 + 1))] [] (mk I2) Q))))) : J none mX11_options (d + 1) 0 0 2 [(0, vR 489), (1, vI a1)] [] (mk I) Q := by
  refine J_iload_n dX11_options_2 rfl rfl ?_
  refine J_aload_n dX11_options_3 rfl rfl ?_
  refine J_callV (as := []) (mc1 := 0) (ms1 := 0) (mc := 0) (ms := 0) dX11_options_4 mv_X11_saintMany lk_X11_447 sh_489 rfl (Nat.le_of_ble_eq_true rfl) (Nat.le_of_ble_eq_true rfl) h (fun r σ hq _ => ?_)
  obtain ⟨x1, I1, rfl, rfl, h⟩ := hq
  change J _ _ _ _ _ _ _ [vI x1, vI a1] _ _
  refine J_ic_ge (tgt := 21) dX11_options_7 (by decide) (fun c => ?_) (fun c => ?_)
  · replace h := h.1 c
    refine J_iconst dX11_options_21 (ii_c rfl) ?_
    refine J_istore_n dX11_options_22 rfl (by decide) ?_
    exact h
  · replace h := h.2 c
    refine J_aload_n dX11_options_10 rfl rfl ?_
    refine J_iload_n dX11_options_11 rfl rfl ?_
    refine J_callV (as := [_]) (mc1 := 0) (ms1 := 0) (mc := 0) (ms := 0) dX11_options_12 mv_X11_optionsOf lk_X11_607 sh_489 rfl (Nat.le_of_ble_eq_true rfl) (Nat.le_of_ble_eq_true rfl) h (fun r σ hq _ => ?_)
    obtain ⟨I2, rfl, rfl, h⟩ := hq
    change J _ _ _ _ _ _ _ [] _ _
    refine J_iincN dX11_options_15 rfl (by decide) h.1 ?_
    replace h := h.2
    refine J_goto (tgt := 2) dX11_options_18 (by decide) ?_
    exact h
set_option maxRecDepth 20000 in
set_option maxHeartbeats 2000000 in
theorem bk_X11_options_23 {d : Nat} {I : HI} {Q : Option AV → AH → Prop} {a1 : Int}  (h : ((59536 ≤ a1 → Q none (mk I)) ∧ (¬ (59536 ≤ a1) → ((0 : Int) ≤ a1 ∧ (a1 : Int) < 59536) ∧ (∀ I1 : HI, I1 = up I 549 a1.toNat 0 → (-2147483648 ≤ a1 + 1 ∧ a1 + 1 ≤ 2147483647) ∧ J none mX11_options (d + 1) 0 0 23 [(0, vR 489), (1, vI (a1 + 1))] [] (mk I1) Q)))) : J none mX11_options (d + 1) 0 0 23 [(0, vR 489), (1, vI a1)] [] (mk I) Q := by
  refine J_iload_n dX11_options_23 rfl rfl ?_
  refine J_ldc 59536 dX11_options_24 kw_X11_196 (ii_c rfl) ?_
  refine J_ic_ge (tgt := 42) dX11_options_26 (by decide) (fun c => ?_) (fun c => ?_)
  · replace h := h.1 c
    exact J_retv dX11_options_42 rfl h
  · replace h := h.2 c
    refine J_aload_n dX11_options_29 rfl rfl ?_
    refine J_getR dX11_options_30 ck_11 fw_X11_197 rfl sh_489 rr_489_80 ?_
    refine J_iload_n dX11_options_33 rfl rfl ?_
    refine J_iconst dX11_options_34 (ii_c rfl) ?_
    refine J_iast dX11_options_35 sh_549 h.1.1 h.1.2 ?_
    replace h := h.2 _ rfl
    refine J_iincN dX11_options_36 rfl (by decide) h.1 ?_
    replace h := h.2
    refine J_goto (tgt := 23) dX11_options_39 (by decide) ?_
    exact h
set_option maxRecDepth 20000 in
set_option maxHeartbeats 2000000 in
theorem bk_X11_optionMany_0 {d : Nat} {I : HI} {Q : Option AV → AH → Prop} {a1 : Int}  (h : ((0 : Int) ≤ a1 ∧ (a1 : Int) < 4) ∧ (-2147483648 ≤ 3 * (I 546 a1.toNat) ∧ 3 * (I 546 a1.toNat) ≤ 2147483647) ∧ Q (some (vI (3 * (I 546 a1.toNat)))) (mk I)) : J none mX11_optionMany (d + 1) 0 0 0 [(0, vR 489), (1, vI a1)] [] (mk I) Q := by
  refine J_iconst dX11_optionMany_0 (ii_c rfl) ?_
  refine J_aload_n dX11_optionMany_1 rfl rfl ?_
  refine J_getR dX11_optionMany_2 ck_11 fw_X11_187 rfl sh_489 rr_489_77 ?_
  refine J_iload_n dX11_optionMany_5 rfl rfl ?_
  refine J_iald dX11_optionMany_6 sh_546 h.1.1 h.1.2 ?_
  replace h := h.2
  refine J_imulN dX11_optionMany_7 h.1 ?_
  replace h := h.2
  exact J_reti dX11_optionMany_8 rfl h
set_option maxRecDepth 20000 in
set_option maxHeartbeats 2000000 in
theorem bk_X11_areKnown_0 {d : Nat} {I : HI} {Q : Option AV → AH → Prop} {a1 : Int} {a2 : Int}  (h : (-2147483648 ≤ 244 * a1 ∧ 244 * a1 ≤ 2147483647) ∧ (-2147483648 ≤ (244 * a1) + a2 ∧ (244 * a1) + a2 ≤ 2147483647) ∧ ((0 : Int) ≤ ((244 * a1) + a2) ∧ ((244 * a1) + a2 : Int) < 59536) ∧ (((I 549 ((244 * a1) + a2).toNat) ≠ 0 → ((0 : Int) ≤ ((244 * a1) + a2) ∧ ((244 * a1) + a2 : Int) < 59536) ∧ (((I 549 ((244 * a1) + a2).toNat) ≠ 1 → Q (some (vI 0)) (mk I)) ∧ ((I 549 ((244 * a1) + a2).toNat) = 1 → Q (some (vI 1)) (mk I)))) ∧ ((I 549 ((244 * a1) + a2).toNat) = 0 → CI mX11_areLawful d [vR 489, vI a1, vI a2] I (fun x1 I1 => ((x1 = 0 → ((0 : Int) ≤ ((244 * a1) + a2) ∧ ((244 * a1) + a2 : Int) < 59536) ∧ (∀ I2 : HI, I2 = up I1 549 ((244 * a1) + a2).toNat 2 → ((0 : Int) ≤ ((244 * a1) + a2) ∧ ((244 * a1) + a2 : Int) < 59536) ∧ (((I2 549 ((244 * a1) + a2).toNat) ≠ 1 → Q (some (vI 0)) (mk I2)) ∧ ((I2 549 ((244 * a1) + a2).toNat) = 1 → Q (some (vI 1)) (mk I2))))) ∧ (¬ (x1 = 0) → ((0 : Int) ≤ ((244 * a1) + a2) ∧ ((244 * a1) + a2 : Int) < 59536) ∧ (∀ I3 : HI, I3 = up I1 549 ((244 * a1) + a2).toNat 1 → ((0 : Int) ≤ ((244 * a1) + a2) ∧ ((244 * a1) + a2 : Int) < 59536) ∧ (((I3 549 ((244 * a1) + a2).toNat) ≠ 1 → Q (some (vI 0)) (mk I3)) ∧ ((I3 549 ((244 * a1) + a2).toNat) = 1 → Q (some (vI 1)) (mk I3)))))))))) : J none mX11_areKnown (d + 1) 0 0 0 [(0, vR 489), (1, vI a1), (2, vI a2)] [] (mk I) Q := by
  refine J_sipush dX11_areKnown_0 (ii_c rfl) (by decide) ?_
  refine J_iload_n dX11_areKnown_3 rfl rfl ?_
  refine J_imulN dX11_areKnown_4 h.1 ?_
  replace h := h.2
  refine J_iload_n dX11_areKnown_5 rfl rfl ?_
  refine J_iaddN dX11_areKnown_6 h.1 ?_
  replace h := h.2
  refine J_istore_n dX11_areKnown_7 rfl (by decide) ?_
  refine J_aload_n dX11_areKnown_8 rfl rfl ?_
  refine J_getR dX11_areKnown_9 ck_11 fw_X11_197 rfl sh_489 rr_489_80 ?_
  refine J_iload_n dX11_areKnown_12 rfl rfl ?_
  refine J_iald dX11_areKnown_13 sh_549 h.1.1 h.1.2 ?_
  replace h := h.2
  refine J_if_ne (tgt := 37) dX11_areKnown_14 (by decide) (fun c => ?_) (fun c => ?_)
  · replace h := h.1 c
    refine J_aload_n dX11_areKnown_37 rfl rfl ?_
    refine J_getR dX11_areKnown_38 ck_11 fw_X11_197 rfl sh_489 rr_489_80 ?_
    refine J_iload_n dX11_areKnown_41 rfl rfl ?_
    refine J_iald dX11_areKnown_42 sh_549 h.1.1 h.1.2 ?_
    replace h := h.2
    refine J_iconst dX11_areKnown_43 (ii_c rfl) ?_
    refine J_ic_ne (tgt := 51) dX11_areKnown_44 (by decide) (fun c => ?_) (fun c => ?_)
    · replace h := h.1 c
      refine J_iconst dX11_areKnown_51 (ii_c rfl) ?_
      exact J_retz dX11_areKnown_52 rfl (Or.inl rfl) h
    · replace h := h.2 c
      refine J_iconst dX11_areKnown_47 (ii_c rfl) ?_
      refine J_goto (tgt := 52) dX11_areKnown_48 (by decide) ?_
      exact J_retz dX11_areKnown_52 rfl (Or.inr rfl) h
  · replace h := h.2 c
    refine J_aload_n dX11_areKnown_17 rfl rfl ?_
    refine J_getR dX11_areKnown_18 ck_11 fw_X11_197 rfl sh_489 rr_489_80 ?_
    refine J_iload_n dX11_areKnown_21 rfl rfl ?_
    refine J_aload_n dX11_areKnown_22 rfl rfl ?_
    refine J_iload_n dX11_areKnown_23 rfl rfl ?_
    refine J_iload_n dX11_areKnown_24 rfl rfl ?_
    refine J_callV (as := [_, _]) (mc1 := 0) (ms1 := 0) (mc := 0) (ms := 0) dX11_areKnown_25 mv_X11_areLawful lk_X11_580 sh_489 rfl (Nat.le_of_ble_eq_true rfl) (Nat.le_of_ble_eq_true rfl) h (fun r σ hq _ => ?_)
    obtain ⟨x1, I1, rfl, rfl, h⟩ := hq
    change J _ _ _ _ _ _ _ [vI x1, vI ((244 * a1) + a2), vR 549] _ _
    refine J_if_eq (tgt := 35) dX11_areKnown_28 (by decide) (fun c => ?_) (fun c => ?_)
    · replace h := h.1 c
      refine J_iconst dX11_areKnown_35 (ii_c rfl) ?_
      refine J_iast dX11_areKnown_36 sh_549 h.1.1 h.1.2 ?_
      replace h := h.2 _ rfl
      refine J_aload_n dX11_areKnown_37 rfl rfl ?_
      refine J_getR dX11_areKnown_38 ck_11 fw_X11_197 rfl sh_489 rr_489_80 ?_
      refine J_iload_n dX11_areKnown_41 rfl rfl ?_
      refine J_iald dX11_areKnown_42 sh_549 h.1.1 h.1.2 ?_
      replace h := h.2
      refine J_iconst dX11_areKnown_43 (ii_c rfl) ?_
      refine J_ic_ne (tgt := 51) dX11_areKnown_44 (by decide) (fun c => ?_) (fun c => ?_)
      · replace h := h.1 c
        refine J_iconst dX11_areKnown_51 (ii_c rfl) ?_
        exact J_retz dX11_areKnown_52 rfl (Or.inl rfl) h
      · replace h := h.2 c
        refine J_iconst dX11_areKnown_47 (ii_c rfl) ?_
        refine J_goto (tgt := 52) dX11_areKnown_48 (by decide) ?_
        exact J_retz dX11_areKnown_52 rfl (Or.inr rfl) h
    · replace h := h.2 c
      refine J_iconst dX11_areKnown_31 (ii_c rfl) ?_
      refine J_goto (tgt := 36) dX11_areKnown_32 (by decide) ?_
      refine J_iast dX11_areKnown_36 sh_549 h.1.1 h.1.2 ?_
      replace h := h.2 _ rfl
      refine J_aload_n dX11_areKnown_37 rfl rfl ?_
      refine J_getR dX11_areKnown_38 ck_11 fw_X11_197 rfl sh_489 rr_489_80 ?_
      refine J_iload_n dX11_areKnown_41 rfl rfl ?_
      refine J_iald dX11_areKnown_42 sh_549 h.1.1 h.1.2 ?_
      replace h := h.2
      refine J_iconst dX11_areKnown_43 (ii_c rfl) ?_
      refine J_ic_ne (tgt := 51) dX11_areKnown_44 (by decide) (fun c => ?_) (fun c => ?_)
      · replace h := h.1 c
        refine J_iconst dX11_areKnown_51 (ii_c rfl) ?_
        exact J_retz dX11_areKnown_52 rfl (Or.inl rfl) h
      · replace h := h.2 c
        refine J_iconst dX11_areKnown_47 (ii_c rfl) ?_
        refine J_goto (tgt := 52) dX11_areKnown_48 (by decide) ?_
        exact J_retz dX11_areKnown_52 rfl (Or.inr rfl) h
set_option maxRecDepth 20000 in
set_option maxHeartbeats 2000000 in
theorem bk_X11_routes_0 {d : Nat} {I : HI} {Q : Option AV → AH → Prop} {a1 : Int}  (h : CI mX11_isSaint d [vR 489, vI a1] I (fun x1 I1 => ((x1 ≠ 0 → CV mX11_routesOf d [vR 489, vI a1] I1 (fun I2 => ((0 : Int) ≤ a1 ∧ (a1 : Int) < 4) ∧ Q (some (vI (I2 546 a1.toNat))) (mk I2))) ∧ (x1 = 0 → Q (some (vI (-1))) (mk I1))))) : J none mX11_routes (d + 1) 0 0 0 [(0, vR 489), (1, vI a1)] [] (mk I) Q := by
  refine J_aload_n dX11_routes_0 rfl rfl ?_
  refine J_iload_n dX11_routes_1 rfl rfl ?_
  refine J_callV (as := [_]) (mc1 := 0) (ms1 := 0) (mc := 0) (ms := 0) dX11_routes_2 mv_X11_isSaint lk_X11_481 sh_489 rfl (Nat.le_of_ble_eq_true rfl) (Nat.le_of_ble_eq_true rfl) h (fun r σ hq _ => ?_)
  obtain ⟨x1, I1, rfl, rfl, h⟩ := hq
  change J _ _ _ _ _ _ _ [vI x1] _ _
  refine J_if_ne (tgt := 10) dX11_routes_5 (by decide) (fun c => ?_) (fun c => ?_)
  · replace h := h.1 c
    refine J_aload_n dX11_routes_10 rfl rfl ?_
    refine J_iload_n dX11_routes_11 rfl rfl ?_
    refine J_callV (as := [_]) (mc1 := 0) (ms1 := 0) (mc := 0) (ms := 0) dX11_routes_12 mv_X11_routesOf lk_X11_601 sh_489 rfl (Nat.le_of_ble_eq_true rfl) (Nat.le_of_ble_eq_true rfl) h (fun r σ hq _ => ?_)
    obtain ⟨I2, rfl, rfl, h⟩ := hq
    change J _ _ _ _ _ _ _ [] _ _
    refine J_aload_n dX11_routes_15 rfl rfl ?_
    refine J_getR dX11_routes_16 ck_11 fw_X11_187 rfl sh_489 rr_489_77 ?_
    refine J_iload_n dX11_routes_19 rfl rfl ?_
    refine J_iald dX11_routes_20 sh_546 h.1.1 h.1.2 ?_
    replace h := h.2
    exact J_reti dX11_routes_21 rfl h
  · replace h := h.2 c
    refine J_iconst dX11_routes_8 (ii_c rfl) ?_
    exact J_reti dX11_routes_9 rfl h
set_option maxRecDepth 20000 in
set_option maxHeartbeats 2000000 in
theorem bk_X11_route_0 {d : Nat} {I : HI} {Q : Option AV → AH → Prop} {a1 : Int} {a2 : Int} {a3 : Int}  (h : CI mX11_isSaint d [vR 489, vI a1] I (fun x1 I1 => ((x1 ≠ 0 → CV mX11_routesOf d [vR 489, vI a1] I1 (fun I2 => ((0 : Int) ≤ a1 ∧ (a1 : Int) < 4) ∧ (-2147483648 ≤ (I2 546 a1.toNat) - 1 ∧ (I2 546 a1.toNat) - 1 ≤ 2147483647) ∧ CI mX11_isIn d [vL a2, vL 0, vL ((I2 546 a1.toNat) - 1)] I2 (fun x3 I3 => ((x3 = 0 → Q (some (vI (-1))) (mk I3)) ∧ (¬ (x3 = 0) → CI mX11_parishes d [vR 489] I3 (fun x4 I4 => CI mX11_bits d [vI x4] I4 (fun x5 I5 => (-2147483648 ≤ x5 - 1 ∧ x5 - 1 ≤ 2147483647) ∧ CI mX11_isIn d [vL a3, vL 0, vL (x5 - 1)] I5 (fun x6 I6 => ((x6 = 0 → Q (some (vI (-1))) (mk I6)) ∧ (¬ (x6 = 0) → (-2147483648 ≤ 200 * a1 ∧ 200 * a1 ≤ 2147483647) ∧ (-2147483648 ≤ 10 * a2 ∧ 10 * a2 ≤ 2147483647) ∧ (-2147483648 ≤ (200 * a1) + (10 * a2) ∧ (200 * a1) + (10 * a2) ≤ 2147483647) ∧ (-2147483648 ≤ ((200 * a1) + (10 * a2)) + a3 ∧ ((200 * a1) + (10 * a2)) + a3 ≤ 2147483647) ∧ ((0 : Int) ≤ (((200 * a1) + (10 * a2)) + a3) ∧ (((200 * a1) + (10 * a2)) + a3 : Int) < 800) ∧ Q (some (vI (I6 547 (((200 * a1) + (10 * a2)) + a3).toNat))) (mk I6))))))))))) ∧ (x1 = 0 → Q (some (vI (-1))) (mk I1))))) : J none mX11_route (d + 1) 0 0 0 [(0, vR 489), (1, vI a1), (2, vI a2), (3, vI a3)] [] (mk I) Q := by
  refine J_aload_n dX11_route_0 rfl rfl ?_
  refine J_iload_n dX11_route_1 rfl rfl ?_
  refine J_callV (as := [_]) (mc1 := 0) (ms1 := 0) (mc := 0) (ms := 0) dX11_route_2 mv_X11_isSaint lk_X11_481 sh_489 rfl (Nat.le_of_ble_eq_true rfl) (Nat.le_of_ble_eq_true rfl) h (fun r σ hq _ => ?_)
  obtain ⟨x1, I1, rfl, rfl, h⟩ := hq
  change J _ _ _ _ _ _ _ [vI x1] _ _
  refine J_if_ne (tgt := 10) dX11_route_5 (by decide) (fun c => ?_) (fun c => ?_)
  · replace h := h.1 c
    refine J_aload_n dX11_route_10 rfl rfl ?_
    refine J_iload_n dX11_route_11 rfl rfl ?_
    refine J_callV (as := [_]) (mc1 := 0) (ms1 := 0) (mc := 0) (ms := 0) dX11_route_12 mv_X11_routesOf lk_X11_601 sh_489 rfl (Nat.le_of_ble_eq_true rfl) (Nat.le_of_ble_eq_true rfl) h (fun r σ hq _ => ?_)
    obtain ⟨I2, rfl, rfl, h⟩ := hq
    change J _ _ _ _ _ _ _ [] _ _
    refine J_iload_n dX11_route_15 rfl rfl ?_
    refine J_i2l dX11_route_16 ?_
    refine J_lconst 0 dX11_route_17 (ll_c rfl) (by decide) ?_
    refine J_aload_n dX11_route_18 rfl rfl ?_
    refine J_getR dX11_route_19 ck_11 fw_X11_187 rfl sh_489 rr_489_77 ?_
    refine J_iload_n dX11_route_22 rfl rfl ?_
    refine J_iald dX11_route_23 sh_546 h.1.1 h.1.2 ?_
    replace h := h.2
    refine J_iconst dX11_route_24 (ii_c rfl) ?_
    refine J_isubN dX11_route_25 h.1 ?_
    replace h := h.2
    refine J_i2l dX11_route_26 ?_
    refine J_callS (as := [_, _, _]) (mc1 := 0) (ms1 := 0) (mc := 0) (ms := 0) dX11_route_27 ms_X11_isIn lk_X11_264 rfl (Nat.le_of_ble_eq_true rfl) (Nat.le_of_ble_eq_true rfl) h (fun r σ hq _ => ?_)
    obtain ⟨x3, I3, rfl, rfl, h⟩ := hq
    change J _ _ _ _ _ _ _ [vI x3] _ _
    refine J_if_eq (tgt := 72) dX11_route_30 (by decide) (fun c => ?_) (fun c => ?_)
    · replace h := h.1 c
      refine J_iconst dX11_route_72 (ii_c rfl) ?_
      exact J_reti dX11_route_73 rfl h
    · replace h := h.2 c
      refine J_iload_n dX11_route_33 rfl rfl ?_
      refine J_i2l dX11_route_34 ?_
      refine J_lconst 0 dX11_route_35 (ll_c rfl) (by decide) ?_
      refine J_aload_n dX11_route_36 rfl rfl ?_
      refine J_callV (as := []) (mc1 := 0) (ms1 := 0) (mc := 0) (ms := 0) dX11_route_37 mv_X11_parishes lk_X11_465 sh_489 rfl (Nat.le_of_ble_eq_true rfl) (Nat.le_of_ble_eq_true rfl) h (fun r σ hq _ => ?_)
      obtain ⟨x4, I4, rfl, rfl, h⟩ := hq
      change J _ _ _ _ _ _ _ [vI x4, vL 0, vL a3] _ _
      refine J_callS (as := [_]) (mc1 := 0) (ms1 := 0) (mc := 0) (ms := 0) dX11_route_40 ms_X11_bits lk_X11_468 rfl (Nat.le_of_ble_eq_true rfl) (Nat.le_of_ble_eq_true rfl) h (fun r σ hq _ => ?_)
      obtain ⟨x5, I5, rfl, rfl, h⟩ := hq
      change J _ _ _ _ _ _ _ [vI x5, vL 0, vL a3] _ _
      refine J_iconst dX11_route_43 (ii_c rfl) ?_
      refine J_isubN dX11_route_44 h.1 ?_
      replace h := h.2
      refine J_i2l dX11_route_45 ?_
      refine J_callS (as := [_, _, _]) (mc1 := 0) (ms1 := 0) (mc := 0) (ms := 0) dX11_route_46 ms_X11_isIn lk_X11_264 rfl (Nat.le_of_ble_eq_true rfl) (Nat.le_of_ble_eq_true rfl) h (fun r σ hq _ => ?_)
      obtain ⟨x6, I6, rfl, rfl, h⟩ := hq
      change J _ _ _ _ _ _ _ [vI x6] _ _
      refine J_if_eq (tgt := 72) dX11_route_49 (by decide) (fun c => ?_) (fun c => ?_)
      · replace h := h.1 c
        refine J_iconst dX11_route_72 (ii_c rfl) ?_
        exact J_reti dX11_route_73 rfl h
      · replace h := h.2 c
        refine J_aload_n dX11_route_52 rfl rfl ?_
        refine J_getR dX11_route_53 ck_11 fw_X11_190 rfl sh_489 rr_489_78 ?_
        refine J_sipush dX11_route_56 (ii_c rfl) (by decide) ?_
        refine J_iload_n dX11_route_59 rfl rfl ?_
        refine J_imulN dX11_route_60 h.1 ?_
        replace h := h.2
        refine J_bipush dX11_route_61 (ii_c rfl) (by decide) ?_
        refine J_iload_n dX11_route_63 rfl rfl ?_
        refine J_imulN dX11_route_64 h.1 ?_
        replace h := h.2
        refine J_iaddN dX11_route_65 h.1 ?_
        replace h := h.2
        refine J_iload_n dX11_route_66 rfl rfl ?_
        refine J_iaddN dX11_route_67 h.1 ?_
        replace h := h.2
        refine J_iald dX11_route_68 sh_547 h.1.1 h.1.2 ?_
        replace h := h.2
        refine J_goto (tgt := 73) dX11_route_69 (by decide) ?_
        exact J_reti dX11_route_73 rfl h
  · replace h := h.2 c
    refine J_iconst dX11_route_8 (ii_c rfl) ?_
    exact J_reti dX11_route_9 rfl h
set_option maxRecDepth 20000 in
set_option maxHeartbeats 2000000 in
theorem bk_X11_isWhole_0 {d : Nat} {I : HI} {Q : Option AV → AH → Prop} {a1 : Int}  (h : (-2147483648 ≤ 24 * a1 ∧ 24 * a1 ≤ 2147483647) ∧ J none mX11_isWhole (d + 1) 0 0 5 [(0, vR 489), (1, vI a1), (2, vI (24 * a1))] [] (mk I) Q) : J none mX11_isWhole (d + 1) 0 0 0 [(0, vR 489), (1, vI a1)] [] (mk I) Q := by
  refine J_bipush dX11_isWhole_0 (ii_c rfl) (by decide) ?_
  refine J_iload_n dX11_isWhole_2 rfl rfl ?_
  refine J_imulN dX11_isWhole_3 h.1 ?_
  replace h := h.2
  refine J_istore_n dX11_isWhole_4 rfl (by decide) ?_
  exact h
set_option maxRecDepth 20000 in
set_option maxHeartbeats 2000000 in
theorem bk_X11_isWhole_5 {d : Nat} {I : HI} {Q : Option AV → AH → Prop} {a1 : Int} {a2 : Int}  (h : (-2147483648 ≤ 24 * a1 ∧ 24 * a1 ≤ 2147483647) ∧ ((0 : Int) ≤ a1 ∧ (a1 : Int) < 244) ∧ (-2147483648 ≤ (24 * a1) + (I 532 a1.toNat) ∧ (24 * a1) + (I 532 a1.toNat) ≤ 2147483647) ∧ ((((24 * a1) + (I 532 a1.toNat)) ≤ a2 → Q (some (vI 1)) (mk I)) ∧ (¬ (((24 * a1) + (I 532 a1.toNat)) ≤ a2) → ((0 : Int) ≤ a2 ∧ (a2 : Int) < 5856) ∧ (((I 534 a2.toNat) = (-1) → (-2147483648 ≤ a2 + 1 ∧ a2 + 1 ≤ 2147483647) ∧ J none mX11_isWhole (d + 1) 0 0 5 [(0, vR 489), (1, vI a1), (2, vI (a2 + 1))] [] (mk I) Q) ∧ (¬ ((I 534 a2.toNat) = (-1)) → ((0 : Int) ≤ a2 ∧ (a2 : Int) < 5856) ∧ CI mX11_isShut d [vR 489, vI (I 534 a2.toNat)] I (fun x1 I1 => ((x1 = 0 → (-2147483648 ≤ a2 + 1 ∧ a2 + 1 ≤ 2147483647) ∧ J none mX11_isWhole (d + 1) 0 0 5 [(0, vR 489), (1, vI a1), (2, vI (a2 + 1))] [] (mk I1) Q) ∧ (¬ (x1 = 0) → Q (some (vI 0)) (mk I1))))))))) : J none mX11_isWhole (d + 1) 0 0 5 [(0, vR 489), (1, vI a1), (2, vI a2)] [] (mk I) Q := by
  refine J_iload_n dX11_isWhole_5 rfl rfl ?_
  refine J_bipush dX11_isWhole_6 (ii_c rfl) (by decide) ?_
  refine J_iload_n dX11_isWhole_8 rfl rfl ?_
  refine J_imulN dX11_isWhole_9 h.1 ?_
  replace h := h.2
  refine J_aload_n dX11_isWhole_10 rfl rfl ?_
  refine J_getR dX11_isWhole_11 ck_11 fw_X11_145 rfl sh_489 rr_489_59 ?_
  refine J_iload_n dX11_isWhole_14 rfl rfl ?_
  refine J_iald dX11_isWhole_15 sh_532 h.1.1 h.1.2 ?_
  replace h := h.2
  refine J_iaddN dX11_isWhole_16 h.1 ?_
  replace h := h.2
  refine J_ic_ge (tgt := 51) dX11_isWhole_17 (by decide) (fun c => ?_) (fun c => ?_)
  · replace h := h.1 c
    refine J_iconst dX11_isWhole_51 (ii_c rfl) ?_
    exact J_retz dX11_isWhole_52 rfl (Or.inr rfl) h
  · replace h := h.2 c
    refine J_aload_n dX11_isWhole_20 rfl rfl ?_
    refine J_getR dX11_isWhole_21 ck_11 fw_X11_151 rfl sh_489 rr_489_61 ?_
    refine J_iload_n dX11_isWhole_24 rfl rfl ?_
    refine J_iald dX11_isWhole_25 sh_534 h.1.1 h.1.2 ?_
    replace h := h.2
    refine J_iconst dX11_isWhole_26 (ii_c rfl) ?_
    refine J_ic_eq (tgt := 45) dX11_isWhole_27 (by decide) (fun c => ?_) (fun c => ?_)
    · replace h := h.1 c
      refine J_iincN dX11_isWhole_45 rfl (by decide) h.1 ?_
      replace h := h.2
      refine J_goto (tgt := 5) dX11_isWhole_48 (by decide) ?_
      exact h
    · replace h := h.2 c
      refine J_aload_n dX11_isWhole_30 rfl rfl ?_
      refine J_aload_n dX11_isWhole_31 rfl rfl ?_
      refine J_getR dX11_isWhole_32 ck_11 fw_X11_151 rfl sh_489 rr_489_61 ?_
      refine J_iload_n dX11_isWhole_35 rfl rfl ?_
      refine J_iald dX11_isWhole_36 sh_534 h.1.1 h.1.2 ?_
      replace h := h.2
      refine J_callV (as := [_]) (mc1 := 0) (ms1 := 0) (mc := 0) (ms := 0) dX11_isWhole_37 mv_X11_isShut lk_X11_499 sh_489 rfl (Nat.le_of_ble_eq_true rfl) (Nat.le_of_ble_eq_true rfl) h (fun r σ hq _ => ?_)
      obtain ⟨x1, I1, rfl, rfl, h⟩ := hq
      change J _ _ _ _ _ _ _ [vI x1] _ _
      refine J_if_eq (tgt := 45) dX11_isWhole_40 (by decide) (fun c => ?_) (fun c => ?_)
      · replace h := h.1 c
        refine J_iincN dX11_isWhole_45 rfl (by decide) h.1 ?_
        replace h := h.2
        refine J_goto (tgt := 5) dX11_isWhole_48 (by decide) ?_
        exact h
      · replace h := h.2 c
        refine J_iconst dX11_isWhole_43 (ii_c rfl) ?_
        exact J_retz dX11_isWhole_44 rfl (Or.inl rfl) h
set_option maxRecDepth 20000 in
set_option maxHeartbeats 2000000 in
theorem bk_X11_wayBy_0 {d : Nat} {I : HI} {Q : Option AV → AH → Prop} {a1 : Int}  (h : ((0 : Int) ≤ a1 ∧ (a1 : Int) < 4) ∧ (((I 550 a1.toNat) ≠ 0 → ((0 : Int) ≤ a1 ∧ (a1 : Int) < 4) ∧ (-2147483648 ≤ (I 550 a1.toNat) - 1 ∧ (I 550 a1.toNat) - 1 ≤ 2147483647) ∧ CI mX11_wayOf d [vI a1, vI ((I 550 a1.toNat) - 1)] I (fun x1 I1 => Q (some (vI x1)) (mk I1))) ∧ ((I 550 a1.toNat) = 0 → Q (some (vI a1)) (mk I)))) : J none mX11_wayBy (d + 1) 0 0 0 [(0, vR 489), (1, vI a1)] [] (mk I) Q := by
  refine J_aload_n dX11_wayBy_0 rfl rfl ?_
  refine J_getR dX11_wayBy_1 ck_11 fw_X11_200 rfl sh_489 rr_489_81 ?_
  refine J_iload_n dX11_wayBy_4 rfl rfl ?_
  refine J_iald dX11_wayBy_5 sh_550 h.1.1 h.1.2 ?_
  replace h := h.2
  refine J_if_ne (tgt := 13) dX11_wayBy_6 (by decide) (fun c => ?_) (fun c => ?_)
  · replace h := h.1 c
    refine J_iload_n dX11_wayBy_13 rfl rfl ?_
    refine J_aload_n dX11_wayBy_14 rfl rfl ?_
    refine J_getR dX11_wayBy_15 ck_11 fw_X11_200 rfl sh_489 rr_489_81 ?_
    refine J_iload_n dX11_wayBy_18 rfl rfl ?_
    refine J_iald dX11_wayBy_19 sh_550 h.1.1 h.1.2 ?_
    replace h := h.2
    refine J_iconst dX11_wayBy_20 (ii_c rfl) ?_
    refine J_isubN dX11_wayBy_21 h.1 ?_
    replace h := h.2
    refine J_callS (as := [_, _]) (mc1 := 0) (ms1 := 0) (mc := 0) (ms := 0) dX11_wayBy_22 ms_X11_wayOf lk_X11_604 rfl (Nat.le_of_ble_eq_true rfl) (Nat.le_of_ble_eq_true rfl) h (fun r σ hq _ => ?_)
    obtain ⟨x1, I1, rfl, rfl, h⟩ := hq
    change J _ _ _ _ _ _ _ [vI x1] _ _
    exact J_reti dX11_wayBy_25 rfl h
  · replace h := h.2 c
    refine J_iload_n dX11_wayBy_9 rfl rfl ?_
    refine J_goto (tgt := 25) dX11_wayBy_10 (by decide) ?_
    exact J_reti dX11_wayBy_25 rfl h
set_option maxRecDepth 20000 in
set_option maxHeartbeats 2000000 in
theorem bk_X11_fits_0 {d : Nat} {I : HI} {Q : Option AV → AH → Prop} {a1 : Int} {a2 : Int} {a3 : Int}  (h : ((0 : Int) ≤ a1 ∧ (a1 : Int) < 4) ∧ (((I 550 a1.toNat) ≠ 0 → J none mX11_fits (d + 1) 0 0 26 [(0, vR 489), (1, vI a1), (2, vI a2), (3, vI a3), (4, vI 0)] [] (mk I) Q) ∧ ((I 550 a1.toNat) = 0 → ((a3 = 0 → Q (some (vI 0)) (mk I)) ∧ (¬ (a3 = 0) → CI mX11_isWhole d [vR 489, vI a1] I (fun x1 I1 => ((x1 ≠ 0 → J none mX11_fits (d + 1) 0 0 26 [(0, vR 489), (1, vI a1), (2, vI a2), (3, vI a3), (4, vI 0)] [] (mk I1) Q) ∧ (x1 = 0 → Q (some (vI 0)) (mk I1))))))))) : J none mX11_fits (d + 1) 0 0 0 [(0, vR 489), (1, vI a1), (2, vI a2), (3, vI a3)] [] (mk I) Q := by
  refine J_aload_n dX11_fits_0 rfl rfl ?_
  refine J_getR dX11_fits_1 ck_11 fw_X11_200 rfl sh_489 rr_489_81 ?_
  refine J_iload_n dX11_fits_4 rfl rfl ?_
  refine J_iald dX11_fits_5 sh_550 h.1.1 h.1.2 ?_
  replace h := h.2
  refine J_if_ne (tgt := 23) dX11_fits_6 (by decide) (fun c => ?_) (fun c => ?_)
  · replace h := h.1 c
    refine J_iconst dX11_fits_23 (ii_c rfl) ?_
    refine J_istore dX11_fits_24 (by decide) ?_
    exact h
  · replace h := h.2 c
    refine J_iload_n dX11_fits_9 rfl rfl ?_
    refine J_if_eq (tgt := 21) dX11_fits_10 (by decide) (fun c => ?_) (fun c => ?_)
    · replace h := h.1 c
      refine J_iconst dX11_fits_21 (ii_c rfl) ?_
      exact J_retz dX11_fits_22 rfl (Or.inl rfl) h
    · replace h := h.2 c
      refine J_aload_n dX11_fits_13 rfl rfl ?_
      refine J_iload_n dX11_fits_14 rfl rfl ?_
      refine J_callV (as := [_]) (mc1 := 0) (ms1 := 0) (mc := 0) (ms := 0) dX11_fits_15 mv_X11_isWhole lk_X11_610 sh_489 rfl (Nat.le_of_ble_eq_true rfl) (Nat.le_of_ble_eq_true rfl) h (fun r σ hq _ => ?_)
      obtain ⟨x1, I1, rfl, rfl, h⟩ := hq
      change J _ _ _ _ _ _ _ [vI x1] _ _
      refine J_if_ne (tgt := 23) dX11_fits_18 (by decide) (fun c => ?_) (fun c => ?_)
      · replace h := h.1 c
        refine J_iconst dX11_fits_23 (ii_c rfl) ?_
        refine J_istore dX11_fits_24 (by decide) ?_
        exact h
      · replace h := h.2 c
        refine J_iconst dX11_fits_21 (ii_c rfl) ?_
        exact J_retz dX11_fits_22 rfl (Or.inl rfl) h
set_option maxRecDepth 20000 in
set_option maxHeartbeats 2000000 in
theorem bk_X11_fits_26 {d : Nat} {I : HI} {Q : Option AV → AH → Prop} {a1 : Int} {a2 : Int} {a3 : Int} {a4 : Int}  (h : ((a1 ≤ a4 → Q (some (vI 1)) (mk I)) ∧ (¬ (a1 ≤ a4) → (((oA (oSr a2 a4) 1) ≠ 1 → (-2147483648 ≤ a4 + 1 ∧ a4 + 1 ≤ 2147483647) ∧ J none mX11_fits (d + 1) 0 0 26 [(0, vR 489), (1, vI a1), (2, vI a2), (3, vI a3), (4, vI (a4 + 1))] [] (mk I) Q) ∧ ((oA (oSr a2 a4) 1) = 1 → CI mX11_wayBy d [vR 489, vI a4] I (fun x1 I1 => CI mX11_wayBy d [vR 489, vI a1] I1 (fun x2 I2 => CI mX11_areKnown d [vR 489, vI x1, vI x2] I2 (fun x3 I3 => ((x3 ≠ 0 → (-2147483648 ≤ a4 + 1 ∧ a4 + 1 ≤ 2147483647) ∧ J none mX11_fits (d + 1) 0 0 26 [(0, vR 489), (1, vI a1), (2, vI a2), (3, vI a3), (4, vI (a4 + 1))] [] (mk I3) Q) ∧ (x3 = 0 → Q (some (vI 0)) (mk I3))))))))))) : J none mX11_fits (d + 1) 0 0 26 [(0, vR 489), (1, vI a1), (2, vI a2), (3, vI a3), (4, vI a4)] [] (mk I) Q := by
  refine J_iload dX11_fits_26 rfl ?_
  refine J_iload_n dX11_fits_28 rfl rfl ?_
  refine J_ic_ge (tgt := 68) dX11_fits_29 (by decide) (fun c => ?_) (fun c => ?_)
  · replace h := h.1 c
    refine J_iconst dX11_fits_68 (ii_c rfl) ?_
    exact J_retz dX11_fits_69 rfl (Or.inr rfl) h
  · replace h := h.2 c
    refine J_iload_n dX11_fits_32 rfl rfl ?_
    refine J_iload dX11_fits_33 rfl ?_
    refine J_ishr dX11_fits_35 ?_
    refine J_iconst dX11_fits_36 (ii_c rfl) ?_
    refine J_iand dX11_fits_37 ?_
    refine J_iconst dX11_fits_38 (ii_c rfl) ?_
    refine J_ic_ne (tgt := 62) dX11_fits_39 (by decide) (fun c => ?_) (fun c => ?_)
    · replace h := h.1 c
      refine J_iincN dX11_fits_62 rfl (by decide) h.1 ?_
      replace h := h.2
      refine J_goto (tgt := 26) dX11_fits_65 (by decide) ?_
      exact h
    · replace h := h.2 c
      refine J_aload_n dX11_fits_42 rfl rfl ?_
      refine J_aload_n dX11_fits_43 rfl rfl ?_
      refine J_iload dX11_fits_44 rfl ?_
      refine J_callV (as := [_]) (mc1 := 0) (ms1 := 0) (mc := 0) (ms := 0) dX11_fits_46 mv_X11_wayBy lk_X11_613 sh_489 rfl (Nat.le_of_ble_eq_true rfl) (Nat.le_of_ble_eq_true rfl) h (fun r σ hq _ => ?_)
      obtain ⟨x1, I1, rfl, rfl, h⟩ := hq
      change J _ _ _ _ _ _ _ [vI x1, vR 489] _ _
      refine J_aload_n dX11_fits_49 rfl rfl ?_
      refine J_iload_n dX11_fits_50 rfl rfl ?_
      refine J_callV (as := [_]) (mc1 := 0) (ms1 := 0) (mc := 0) (ms := 0) dX11_fits_51 mv_X11_wayBy lk_X11_613 sh_489 rfl (Nat.le_of_ble_eq_true rfl) (Nat.le_of_ble_eq_true rfl) h (fun r σ hq _ => ?_)
      obtain ⟨x2, I2, rfl, rfl, h⟩ := hq
      change J _ _ _ _ _ _ _ [vI x2, vI x1, vR 489] _ _
      refine J_callV (as := [_, _]) (mc1 := 0) (ms1 := 0) (mc := 0) (ms := 0) dX11_fits_54 mv_X11_areKnown lk_X11_616 sh_489 rfl (Nat.le_of_ble_eq_true rfl) (Nat.le_of_ble_eq_true rfl) h (fun r σ hq _ => ?_)
      obtain ⟨x3, I3, rfl, rfl, h⟩ := hq
      change J _ _ _ _ _ _ _ [vI x3] _ _
      refine J_if_ne (tgt := 62) dX11_fits_57 (by decide) (fun c => ?_) (fun c => ?_)
      · replace h := h.1 c
        refine J_iincN dX11_fits_62 rfl (by decide) h.1 ?_
        replace h := h.2
        refine J_goto (tgt := 26) dX11_fits_65 (by decide) ?_
        exact h
      · replace h := h.2 c
        refine J_iconst dX11_fits_60 (ii_c rfl) ?_
        exact J_retz dX11_fits_61 rfl (Or.inl rfl) h
set_option maxRecDepth 20000 in
set_option maxHeartbeats 2000000 in
theorem bk_X11_changesTo_0 {d : Nat} {I : HI} {Q : Option AV → AH → Prop} {a1 : Int} {a2 : Int}  (h : J none mX11_changesTo (d + 1) 0 0 5 [(0, vR 489), (1, vI a1), (2, vI a2), (3, vI 0), (4, vI 0)] [] (mk I) Q) : J none mX11_changesTo (d + 1) 0 0 0 [(0, vR 489), (1, vI a1), (2, vI a2)] [] (mk I) Q := by
  refine J_iconst dX11_changesTo_0 (ii_c rfl) ?_
  refine J_istore_n dX11_changesTo_1 rfl (by decide) ?_
  refine J_iconst dX11_changesTo_2 (ii_c rfl) ?_
  refine J_istore dX11_changesTo_3 (by decide) ?_
  exact h
set_option maxRecDepth 20000 in
set_option maxHeartbeats 2000000 in
theorem bk_X11_changesTo_5 {d : Nat} {I : HI} {Q : Option AV → AH → Prop} {a1 : Int} {a2 : Int} {a3 : Int} {a4 : Int}  (h : ((a1 < a4 → Q (some (vI a3)) (mk I)) ∧ (¬ (a1 < a4) → (((oA (oSr a2 a4) 1) ≠ 1 → (-2147483648 ≤ a4 + 1 ∧ a4 + 1 ≤ 2147483647) ∧ J none mX11_changesTo (d + 1) 0 0 5 [(0, vR 489), (1, vI a1), (2, vI a2), (3, vI a3), (4, vI (a4 + 1))] [] (mk I) Q) ∧ ((oA (oSr a2 a4) 1) = 1 → ((0 : Int) ≤ a4 ∧ (a4 : Int) < 4) ∧ (((I 550 a4.toNat) ≤ 0 → (-2147483648 ≤ a4 + 1 ∧ a4 + 1 ≤ 2147483647) ∧ J none mX11_changesTo (d + 1) 0 0 5 [(0, vR 489), (1, vI a1), (2, vI a2), (3, vI a3), (4, vI (a4 + 1))] [] (mk I) Q) ∧ (¬ ((I 550 a4.toNat) ≤ 0) → (-2147483648 ≤ a3 + 1 ∧ a3 + 1 ≤ 2147483647) ∧ (-2147483648 ≤ a4 + 1 ∧ a4 + 1 ≤ 2147483647) ∧ J none mX11_changesTo (d + 1) 0 0 5 [(0, vR 489), (1, vI a1), (2, vI a2), (3, vI (a3 + 1)), (4, vI (a4 + 1))] [] (mk I) Q))))))) : J none mX11_changesTo (d + 1) 0 0 5 [(0, vR 489), (1, vI a1), (2, vI a2), (3, vI a3), (4, vI a4)] [] (mk I) Q := by
  refine J_iload dX11_changesTo_5 rfl ?_
  refine J_iload_n dX11_changesTo_7 rfl rfl ?_
  refine J_ic_gt (tgt := 40) dX11_changesTo_8 (by decide) (fun c => ?_) (fun c => ?_)
  · replace h := h.1 c
    refine J_iload_n dX11_changesTo_40 rfl rfl ?_
    exact J_reti dX11_changesTo_41 rfl h
  · replace h := h.2 c
    refine J_iload_n dX11_changesTo_11 rfl rfl ?_
    refine J_iload dX11_changesTo_12 rfl ?_
    refine J_ishr dX11_changesTo_14 ?_
    refine J_iconst dX11_changesTo_15 (ii_c rfl) ?_
    refine J_iand dX11_changesTo_16 ?_
    refine J_iconst dX11_changesTo_17 (ii_c rfl) ?_
    refine J_ic_ne (tgt := 34) dX11_changesTo_18 (by decide) (fun c => ?_) (fun c => ?_)
    · replace h := h.1 c
      refine J_iincN dX11_changesTo_34 rfl (by decide) h.1 ?_
      replace h := h.2
      refine J_goto (tgt := 5) dX11_changesTo_37 (by decide) ?_
      exact h
    · replace h := h.2 c
      refine J_aload_n dX11_changesTo_21 rfl rfl ?_
      refine J_getR dX11_changesTo_22 ck_11 fw_X11_200 rfl sh_489 rr_489_81 ?_
      refine J_iload dX11_changesTo_25 rfl ?_
      refine J_iald dX11_changesTo_27 sh_550 h.1.1 h.1.2 ?_
      replace h := h.2
      refine J_if_le (tgt := 34) dX11_changesTo_28 (by decide) (fun c => ?_) (fun c => ?_)
      · replace h := h.1 c
        refine J_iincN dX11_changesTo_34 rfl (by decide) h.1 ?_
        replace h := h.2
        refine J_goto (tgt := 5) dX11_changesTo_37 (by decide) ?_
        exact h
      · replace h := h.2 c
        refine J_iincN dX11_changesTo_31 rfl (by decide) h.1 ?_
        replace h := h.2
        refine J_iincN dX11_changesTo_34 rfl (by decide) h.1 ?_
        replace h := h.2
        refine J_goto (tgt := 5) dX11_changesTo_37 (by decide) ?_
        exact h
set_option maxRecDepth 20000 in
set_option maxHeartbeats 2000000 in
theorem bk_X11_endsTo_0 {d : Nat} {I : HI} {Q : Option AV → AH → Prop} {a1 : Int} {a2 : Int}  (h : J none mX11_endsTo (d + 1) 0 0 5 [(0, vR 489), (1, vI a1), (2, vI a2), (3, vI 0), (4, vI 0)] [] (mk I) Q) : J none mX11_endsTo (d + 1) 0 0 0 [(0, vR 489), (1, vI a1), (2, vI a2)] [] (mk I) Q := by
  refine J_iconst dX11_endsTo_0 (ii_c rfl) ?_
  refine J_istore_n dX11_endsTo_1 rfl (by decide) ?_
  refine J_iconst dX11_endsTo_2 (ii_c rfl) ?_
  refine J_istore dX11_endsTo_3 (by decide) ?_
  exact h
set_option maxRecDepth 20000 in
set_option maxHeartbeats 2000000 in
theorem bk_X11_endsTo_5 {d : Nat} {I : HI} {Q : Option AV → AH → Prop} {a1 : Int} {a2 : Int} {a3 : Int} {a4 : Int}  (h : ((a1 < a4 → Q (some (vI a3)) (mk I)) ∧ (¬ (a1 < a4) → (((oA (oSr a2 a4) 1) ≠ 1 → (-2147483648 ≤ a4 + 1 ∧ a4 + 1 ≤ 2147483647) ∧ J none mX11_endsTo (d + 1) 0 0 5 [(0, vR 489), (1, vI a1), (2, vI a2), (3, vI a3), (4, vI (a4 + 1))] [] (mk I) Q) ∧ ((oA (oSr a2 a4) 1) = 1 → CI mX11_wayBy d [vR 489, vI a4] I (fun x1 I1 => CI mX11_endOf d [vR 489, vI x1] I1 (fun x2 I2 => (-2147483648 ≤ a3 + x2 ∧ a3 + x2 ≤ 2147483647) ∧ (-2147483648 ≤ a4 + 1 ∧ a4 + 1 ≤ 2147483647) ∧ J none mX11_endsTo (d + 1) 0 0 5 [(0, vR 489), (1, vI a1), (2, vI a2), (3, vI (a3 + x2)), (4, vI (a4 + 1))] [] (mk I2) Q))))))) : J none mX11_endsTo (d + 1) 0 0 5 [(0, vR 489), (1, vI a1), (2, vI a2), (3, vI a3), (4, vI a4)] [] (mk I) Q := by
  refine J_iload dX11_endsTo_5 rfl ?_
  refine J_iload_n dX11_endsTo_7 rfl rfl ?_
  refine J_ic_gt (tgt := 40) dX11_endsTo_8 (by decide) (fun c => ?_) (fun c => ?_)
  · replace h := h.1 c
    refine J_iload_n dX11_endsTo_40 rfl rfl ?_
    exact J_reti dX11_endsTo_41 rfl h
  · replace h := h.2 c
    refine J_iload_n dX11_endsTo_11 rfl rfl ?_
    refine J_iload dX11_endsTo_12 rfl ?_
    refine J_ishr dX11_endsTo_14 ?_
    refine J_iconst dX11_endsTo_15 (ii_c rfl) ?_
    refine J_iand dX11_endsTo_16 ?_
    refine J_iconst dX11_endsTo_17 (ii_c rfl) ?_
    refine J_ic_ne (tgt := 34) dX11_endsTo_18 (by decide) (fun c => ?_) (fun c => ?_)
    · replace h := h.1 c
      refine J_iincN dX11_endsTo_34 rfl (by decide) h.1 ?_
      replace h := h.2
      refine J_goto (tgt := 5) dX11_endsTo_37 (by decide) ?_
      exact h
    · replace h := h.2 c
      refine J_iload_n dX11_endsTo_21 rfl rfl ?_
      refine J_aload_n dX11_endsTo_22 rfl rfl ?_
      refine J_aload_n dX11_endsTo_23 rfl rfl ?_
      refine J_iload dX11_endsTo_24 rfl ?_
      refine J_callV (as := [_]) (mc1 := 0) (ms1 := 0) (mc := 0) (ms := 0) dX11_endsTo_26 mv_X11_wayBy lk_X11_613 sh_489 rfl (Nat.le_of_ble_eq_true rfl) (Nat.le_of_ble_eq_true rfl) h (fun r σ hq _ => ?_)
      obtain ⟨x1, I1, rfl, rfl, h⟩ := hq
      change J _ _ _ _ _ _ _ [vI x1, vR 489, vI a3] _ _
      refine J_callV (as := [_]) (mc1 := 0) (ms1 := 0) (mc := 0) (ms := 0) dX11_endsTo_29 mv_X11_endOf lk_X11_459 sh_489 rfl (Nat.le_of_ble_eq_true rfl) (Nat.le_of_ble_eq_true rfl) h (fun r σ hq _ => ?_)
      obtain ⟨x2, I2, rfl, rfl, h⟩ := hq
      change J _ _ _ _ _ _ _ [vI x2, vI a3] _ _
      refine J_iaddN dX11_endsTo_32 h.1 ?_
      replace h := h.2
      refine J_istore_n dX11_endsTo_33 rfl (by decide) ?_
      refine J_iincN dX11_endsTo_34 rfl (by decide) h.1 ?_
      replace h := h.2
      refine J_goto (tgt := 5) dX11_endsTo_37 (by decide) ?_
      exact h
