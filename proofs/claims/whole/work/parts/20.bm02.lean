set_option maxRecDepth 20000 in
set_option maxHeartbeats 2000000 in
theorem bk_X11_onePart_0 {d : Nat} {I : HI} {Q : Option AV → AH → Prop}   (h : J none mX11_onePart (d + 1) 0 0 2 [(0, vR 489), (1, vI 1)] [] (mk I) Q) : J none mX11_onePart (d + 1) 0 0 0 [(0, vR 489)] [] (mk I) Q := by
  refine J_iconst dX11_onePart_0 (ii_c rfl) ?_
  refine J_istore_n dX11_onePart_1 rfl (by decide) ?_
  exact h
set_option maxRecDepth 20000 in
set_option maxHeartbeats 2000000 in
theorem bk_X11_onePart_2 {d : Nat} {I : HI} {Q : Option AV → AH → Prop} {a1 : Int}  (h : ((a1 = 0 → J none mX11_onePart (d + 1) 0 0 146 [(0, vR 489), (1, vI a1)] [] (mk I) Q) ∧ (¬ (a1 = 0) → (((I 489 5) ≠ 0 → J none mX11_onePart (d + 1) 0 0 146 [(0, vR 489), (1, vI a1)] [] (mk I) Q) ∧ ((I 489 5) = 0 → CI mX11_look d [vR 489] I (fun x1 I1 => ((x1 ≠ 40 → CI mX11_isHere d [vR 489, vR 516] I1 (fun x2 I2 => ((x2 ≠ 0 → CI mX11_takes d [vR 489, vR 516] I2 (fun x3 I3 => ((x3 ≠ 0 → J none mX11_onePart (d + 1) 0 0 90 [(0, vR 489), (1, vI a1), (2, vI x1), (3, vI x3)] [] (mk I3) Q) ∧ (x3 = 0 → CV mX11_asks d [vR 489, vR 517] I3 (fun I4 => J none mX11_onePart (d + 1) 0 0 90 [(0, vR 489), (1, vI a1), (2, vI x1), (3, vI x3)] [] (mk I4) Q))))) ∧ (x2 = 0 → CI mX11_isHere d [vR 489, vR 517] I2 (fun x5 I5 => ((x5 = 0 → J none mX11_onePart (d + 1) 0 0 2 [(0, vR 489), (1, vI 0)] [] (mk I5) Q) ∧ (¬ (x5 = 0) → CI mX11_takes d [vR 489, vR 516] I5 (fun x6 I6 => ((x6 ≠ 0 → J none mX11_onePart (d + 1) 0 0 90 [(0, vR 489), (1, vI a1), (2, vI x1), (3, vI x6)] [] (mk I6) Q) ∧ (x6 = 0 → CV mX11_asks d [vR 489, vR 517] I6 (fun I7 => J none mX11_onePart (d + 1) 0 0 90 [(0, vR 489), (1, vI a1), (2, vI x1), (3, vI x6)] [] (mk I7) Q))))))))))) ∧ (x1 = 40 → CV mX11_opens d [vR 489, vI 20, vI (I1 489 2)] I1 (fun I8 => (-2147483648 ≤ (I8 489 2) + 1 ∧ (I8 489 2) + 1 ≤ 2147483647) ∧ (∀ I9 : HI, I9 = up I8 489 2 ((I8 489 2) + 1) → J none mX11_onePart (d + 1) 0 0 2 [(0, vR 489), (1, vI a1)] [] (mk I9) Q)))))))))) : J none mX11_onePart (d + 1) 0 0 2 [(0, vR 489), (1, vI a1)] [] (mk I) Q := by
  refine J_iload_n dX11_onePart_2 rfl rfl ?_
  refine J_if_eq (tgt := 146) dX11_onePart_3 (by decide) (fun c => ?_) (fun c => ?_)
  · replace h := h.1 c
    exact h
  · replace h := h.2 c
    refine J_aload_n dX11_onePart_6 rfl rfl ?_
    refine J_getI dX11_onePart_7 ck_11 fw_X11_224 rfl sh_489 ?_
    refine J_if_ne (tgt := 146) dX11_onePart_10 (by decide) (fun c => ?_) (fun c => ?_)
    · replace h := h.1 c
      exact h
    · replace h := h.2 c
      refine J_aload_n dX11_onePart_13 rfl rfl ?_
      refine J_callV (as := []) (mc1 := 0) (ms1 := 0) (mc := 0) (ms := 0) dX11_onePart_14 mv_X11_look lk_X11_236 sh_489 rfl (Nat.le_of_ble_eq_true rfl) (Nat.le_of_ble_eq_true rfl) h (fun r σ hq _ => ?_)
      obtain ⟨x1, I1, rfl, rfl, h⟩ := hq
      change J _ _ _ _ _ _ _ [vI x1] _ _
      refine J_istore_n dX11_onePart_17 rfl (by decide) ?_
      refine J_iload_n dX11_onePart_18 rfl rfl ?_
      refine J_bipush dX11_onePart_19 (ii_c rfl) (by decide) ?_
      refine J_ic_ne (tgt := 47) dX11_onePart_21 (by decide) (fun c => ?_) (fun c => ?_)
      · replace h := h.1 c
        refine J_aload_n dX11_onePart_47 rfl rfl ?_
        refine J_aload_n dX11_onePart_48 rfl rfl ?_
        refine J_getR dX11_onePart_49 ck_11 fw_X11_93 rfl sh_489 rr_489_34 ?_
        refine J_callV (as := [_]) (mc1 := 0) (ms1 := 0) (mc := 0) (ms := 0) dX11_onePart_52 mv_X11_isHere lk_X11_247 sh_489 rfl (Nat.le_of_ble_eq_true rfl) (Nat.le_of_ble_eq_true rfl) h (fun r σ hq _ => ?_)
        obtain ⟨x2, I2, rfl, rfl, h⟩ := hq
        change J _ _ _ _ _ _ _ [vI x2] _ _
        refine J_if_ne (tgt := 69) dX11_onePart_55 (by decide) (fun c => ?_) (fun c => ?_)
        · replace h := h.1 c
          refine J_aload_n dX11_onePart_69 rfl rfl ?_
          refine J_aload_n dX11_onePart_70 rfl rfl ?_
          refine J_getR dX11_onePart_71 ck_11 fw_X11_93 rfl sh_489 rr_489_34 ?_
          refine J_callV (as := [_]) (mc1 := 0) (ms1 := 0) (mc := 0) (ms := 0) dX11_onePart_74 mv_X11_takes lk_X11_251 sh_489 rfl (Nat.le_of_ble_eq_true rfl) (Nat.le_of_ble_eq_true rfl) h (fun r σ hq _ => ?_)
          obtain ⟨x3, I3, rfl, rfl, h⟩ := hq
          change J _ _ _ _ _ _ _ [vI x3] _ _
          refine J_istore_n dX11_onePart_77 rfl (by decide) ?_
          refine J_iload_n dX11_onePart_78 rfl rfl ?_
          refine J_if_ne (tgt := 90) dX11_onePart_79 (by decide) (fun c => ?_) (fun c => ?_)
          · replace h := h.1 c
            exact h
          · replace h := h.2 c
            refine J_aload_n dX11_onePart_82 rfl rfl ?_
            refine J_aload_n dX11_onePart_83 rfl rfl ?_
            refine J_getR dX11_onePart_84 ck_11 fw_X11_96 rfl sh_489 rr_489_35 ?_
            refine J_callV (as := [_]) (mc1 := 0) (ms1 := 0) (mc := 0) (ms := 0) dX11_onePart_87 mv_X11_asks lk_X11_295 sh_489 rfl (Nat.le_of_ble_eq_true rfl) (Nat.le_of_ble_eq_true rfl) h (fun r σ hq _ => ?_)
            obtain ⟨I4, rfl, rfl, h⟩ := hq
            change J _ _ _ _ _ _ _ [] _ _
            exact h
        · replace h := h.2 c
          refine J_aload_n dX11_onePart_58 rfl rfl ?_
          refine J_aload_n dX11_onePart_59 rfl rfl ?_
          refine J_getR dX11_onePart_60 ck_11 fw_X11_96 rfl sh_489 rr_489_35 ?_
          refine J_callV (as := [_]) (mc1 := 0) (ms1 := 0) (mc := 0) (ms := 0) dX11_onePart_63 mv_X11_isHere lk_X11_247 sh_489 rfl (Nat.le_of_ble_eq_true rfl) (Nat.le_of_ble_eq_true rfl) h (fun r σ hq _ => ?_)
          obtain ⟨x5, I5, rfl, rfl, h⟩ := hq
          change J _ _ _ _ _ _ _ [vI x5] _ _
          refine J_if_eq (tgt := 141) dX11_onePart_66 (by decide) (fun c => ?_) (fun c => ?_)
          · replace h := h.1 c
            refine J_iconst dX11_onePart_141 (ii_c rfl) ?_
            refine J_istore_n dX11_onePart_142 rfl (by decide) ?_
            refine J_goto (tgt := 2) dX11_onePart_143 (by decide) ?_
            exact J_loc (ls_sub [0, 1] rfl) h
          · replace h := h.2 c
            refine J_aload_n dX11_onePart_69 rfl rfl ?_
            refine J_aload_n dX11_onePart_70 rfl rfl ?_
            refine J_getR dX11_onePart_71 ck_11 fw_X11_93 rfl sh_489 rr_489_34 ?_
            refine J_callV (as := [_]) (mc1 := 0) (ms1 := 0) (mc := 0) (ms := 0) dX11_onePart_74 mv_X11_takes lk_X11_251 sh_489 rfl (Nat.le_of_ble_eq_true rfl) (Nat.le_of_ble_eq_true rfl) h (fun r σ hq _ => ?_)
            obtain ⟨x6, I6, rfl, rfl, h⟩ := hq
            change J _ _ _ _ _ _ _ [vI x6] _ _
            refine J_istore_n dX11_onePart_77 rfl (by decide) ?_
            refine J_iload_n dX11_onePart_78 rfl rfl ?_
            refine J_if_ne (tgt := 90) dX11_onePart_79 (by decide) (fun c => ?_) (fun c => ?_)
            · replace h := h.1 c
              exact h
            · replace h := h.2 c
              refine J_aload_n dX11_onePart_82 rfl rfl ?_
              refine J_aload_n dX11_onePart_83 rfl rfl ?_
              refine J_getR dX11_onePart_84 ck_11 fw_X11_96 rfl sh_489 rr_489_35 ?_
              refine J_callV (as := [_]) (mc1 := 0) (ms1 := 0) (mc := 0) (ms := 0) dX11_onePart_87 mv_X11_asks lk_X11_295 sh_489 rfl (Nat.le_of_ble_eq_true rfl) (Nat.le_of_ble_eq_true rfl) h (fun r σ hq _ => ?_)
              obtain ⟨I7, rfl, rfl, h⟩ := hq
              change J _ _ _ _ _ _ _ [] _ _
              exact h
      · replace h := h.2 c
        refine J_aload_n dX11_onePart_24 rfl rfl ?_
        refine J_bipush dX11_onePart_25 (ii_c rfl) (by decide) ?_
        refine J_aload_n dX11_onePart_27 rfl rfl ?_
        refine J_getI dX11_onePart_28 ck_11 fw_X11_230 rfl sh_489 ?_
        refine J_callV (as := [_, _]) (mc1 := 0) (ms1 := 0) (mc := 0) (ms := 0) dX11_onePart_31 mv_X11_opens lk_X11_379 sh_489 rfl (Nat.le_of_ble_eq_true rfl) (Nat.le_of_ble_eq_true rfl) h (fun r σ hq _ => ?_)
        obtain ⟨I8, rfl, rfl, h⟩ := hq
        change J _ _ _ _ _ _ _ [] _ _
        refine J_aload_n dX11_onePart_34 rfl rfl ?_
        refine J_dup dX11_onePart_35 rfl ?_
        refine J_getI dX11_onePart_36 ck_11 fw_X11_230 rfl sh_489 ?_
        refine J_iconst dX11_onePart_39 (ii_c rfl) ?_
        refine J_iaddN dX11_onePart_40 h.1 ?_
        replace h := h.2
        refine J_putI dX11_onePart_41 ck_11 fw_X11_230 rfl rfl (Or.inl rfl) sh_489 ?_
        replace h := h _ rfl
        refine J_goto (tgt := 143) dX11_onePart_44 (by decide) ?_
        refine J_goto (tgt := 2) dX11_onePart_143 (by decide) ?_
        exact J_loc (ls_sub [0, 1] rfl) h
set_option maxRecDepth 20000 in
set_option maxHeartbeats 2000000 in
theorem bk_X11_onePart_90 {d : Nat} {I : HI} {Q : Option AV → AH → Prop} {a1 : Int} {a2 : Int} {a3 : Int}  (h : CI mX11_look d [vR 489] I (fun x1 I1 => ((x1 ≠ 40 → CV mX11_asksSign d [vR 489, vI 40] I1 (fun I2 => J none mX11_onePart (d + 1) 0 0 2 [(0, vR 489), (1, vI a1)] [] (mk I2) Q)) ∧ (x1 = 40 → (((I1 489 2) = (-1) → CV mX11_asksSign d [vR 489, vI 40] I1 (fun I3 => J none mX11_onePart (d + 1) 0 0 2 [(0, vR 489), (1, vI a1)] [] (mk I3) Q)) ∧ (¬ ((I1 489 2) = (-1)) → ((a3 = 0 → CV mX11_opens d [vR 489, vI 22, vI (I1 489 2)] I1 (fun I4 => CV mX11_asksSign d [vR 489, vI 40] I4 (fun I5 => J none mX11_onePart (d + 1) 0 0 2 [(0, vR 489), (1, vI a1)] [] (mk I5) Q))) ∧ (¬ (a3 = 0) → CV mX11_opens d [vR 489, vI 21, vI (I1 489 2)] I1 (fun I6 => CV mX11_asksSign d [vR 489, vI 40] I6 (fun I7 => J none mX11_onePart (d + 1) 0 0 2 [(0, vR 489), (1, vI a1)] [] (mk I7) Q)))))))))) : J none mX11_onePart (d + 1) 0 0 90 [(0, vR 489), (1, vI a1), (2, vI a2), (3, vI a3)] [] (mk I) Q := by
  refine J_aload_n dX11_onePart_90 rfl rfl ?_
  refine J_callV (as := []) (mc1 := 0) (ms1 := 0) (mc := 0) (ms := 0) dX11_onePart_91 mv_X11_look lk_X11_236 sh_489 rfl (Nat.le_of_ble_eq_true rfl) (Nat.le_of_ble_eq_true rfl) h (fun r σ hq _ => ?_)
  obtain ⟨x1, I1, rfl, rfl, h⟩ := hq
  change J _ _ _ _ _ _ _ [vI x1] _ _
  refine J_bipush dX11_onePart_94 (ii_c rfl) (by decide) ?_
  refine J_ic_ne (tgt := 106) dX11_onePart_96 (by decide) (fun c => ?_) (fun c => ?_)
  · replace h := h.1 c
    refine J_iconst dX11_onePart_106 (ii_c rfl) ?_
    refine J_istore dX11_onePart_107 (by decide) ?_
    refine J_iload dX11_onePart_109 rfl ?_
    refine J_iconst dX11_onePart_111 (ii_c rfl) ?_
    refine J_ic_eq (tgt := 132) dX11_onePart_112 (by decide) (fun _ => ?_) (fun c => absurd (by decide) c)
    refine J_aload_n dX11_onePart_132 rfl rfl ?_
    refine J_bipush dX11_onePart_133 (ii_c rfl) (by decide) ?_
    refine J_callV (as := [_]) (mc1 := 0) (ms1 := 0) (mc := 0) (ms := 0) dX11_onePart_135 mv_X11_asksSign lk_X11_346 sh_489 rfl (Nat.le_of_ble_eq_true rfl) (Nat.le_of_ble_eq_true rfl) h (fun r σ hq _ => ?_)
    obtain ⟨I2, rfl, rfl, h⟩ := hq
    change J _ _ _ _ _ _ _ [] _ _
    refine J_goto (tgt := 143) dX11_onePart_138 (by decide) ?_
    refine J_goto (tgt := 2) dX11_onePart_143 (by decide) ?_
    exact J_loc (ls_sub [0, 1] rfl) h
  · replace h := h.2 c
    refine J_aload_n dX11_onePart_99 rfl rfl ?_
    refine J_getI dX11_onePart_100 ck_11 fw_X11_230 rfl sh_489 ?_
    refine J_goto (tgt := 107) dX11_onePart_103 (by decide) ?_
    refine J_istore dX11_onePart_107 (by decide) ?_
    refine J_iload dX11_onePart_109 rfl ?_
    refine J_iconst dX11_onePart_111 (ii_c rfl) ?_
    refine J_ic_eq (tgt := 132) dX11_onePart_112 (by decide) (fun c => ?_) (fun c => ?_)
    · replace h := h.1 c
      refine J_aload_n dX11_onePart_132 rfl rfl ?_
      refine J_bipush dX11_onePart_133 (ii_c rfl) (by decide) ?_
      refine J_callV (as := [_]) (mc1 := 0) (ms1 := 0) (mc := 0) (ms := 0) dX11_onePart_135 mv_X11_asksSign lk_X11_346 sh_489 rfl (Nat.le_of_ble_eq_true rfl) (Nat.le_of_ble_eq_true rfl) h (fun r σ hq _ => ?_)
      obtain ⟨I3, rfl, rfl, h⟩ := hq
      change J _ _ _ _ _ _ _ [] _ _
      refine J_goto (tgt := 143) dX11_onePart_138 (by decide) ?_
      refine J_goto (tgt := 2) dX11_onePart_143 (by decide) ?_
      exact J_loc (ls_sub [0, 1] rfl) h
    · replace h := h.2 c
      refine J_aload_n dX11_onePart_115 rfl rfl ?_
      refine J_iload_n dX11_onePart_116 rfl rfl ?_
      refine J_if_eq (tgt := 125) dX11_onePart_117 (by decide) (fun c => ?_) (fun c => ?_)
      · replace h := h.1 c
        refine J_bipush dX11_onePart_125 (ii_c rfl) (by decide) ?_
        refine J_iload dX11_onePart_127 rfl ?_
        refine J_callV (as := [_, _]) (mc1 := 0) (ms1 := 0) (mc := 0) (ms := 0) dX11_onePart_129 mv_X11_opens lk_X11_379 sh_489 rfl (Nat.le_of_ble_eq_true rfl) (Nat.le_of_ble_eq_true rfl) h (fun r σ hq _ => ?_)
        obtain ⟨I4, rfl, rfl, h⟩ := hq
        change J _ _ _ _ _ _ _ [] _ _
        refine J_aload_n dX11_onePart_132 rfl rfl ?_
        refine J_bipush dX11_onePart_133 (ii_c rfl) (by decide) ?_
        refine J_callV (as := [_]) (mc1 := 0) (ms1 := 0) (mc := 0) (ms := 0) dX11_onePart_135 mv_X11_asksSign lk_X11_346 sh_489 rfl (Nat.le_of_ble_eq_true rfl) (Nat.le_of_ble_eq_true rfl) h (fun r σ hq _ => ?_)
        obtain ⟨I5, rfl, rfl, h⟩ := hq
        change J _ _ _ _ _ _ _ [] _ _
        refine J_goto (tgt := 143) dX11_onePart_138 (by decide) ?_
        refine J_goto (tgt := 2) dX11_onePart_143 (by decide) ?_
        exact J_loc (ls_sub [0, 1] rfl) h
      · replace h := h.2 c
        refine J_bipush dX11_onePart_120 (ii_c rfl) (by decide) ?_
        refine J_goto (tgt := 127) dX11_onePart_122 (by decide) ?_
        refine J_iload dX11_onePart_127 rfl ?_
        refine J_callV (as := [_, _]) (mc1 := 0) (ms1 := 0) (mc := 0) (ms := 0) dX11_onePart_129 mv_X11_opens lk_X11_379 sh_489 rfl (Nat.le_of_ble_eq_true rfl) (Nat.le_of_ble_eq_true rfl) h (fun r σ hq _ => ?_)
        obtain ⟨I6, rfl, rfl, h⟩ := hq
        change J _ _ _ _ _ _ _ [] _ _
        refine J_aload_n dX11_onePart_132 rfl rfl ?_
        refine J_bipush dX11_onePart_133 (ii_c rfl) (by decide) ?_
        refine J_callV (as := [_]) (mc1 := 0) (ms1 := 0) (mc := 0) (ms := 0) dX11_onePart_135 mv_X11_asksSign lk_X11_346 sh_489 rfl (Nat.le_of_ble_eq_true rfl) (Nat.le_of_ble_eq_true rfl) h (fun r σ hq _ => ?_)
        obtain ⟨I7, rfl, rfl, h⟩ := hq
        change J _ _ _ _ _ _ _ [] _ _
        refine J_goto (tgt := 143) dX11_onePart_138 (by decide) ?_
        refine J_goto (tgt := 2) dX11_onePart_143 (by decide) ?_
        exact J_loc (ls_sub [0, 1] rfl) h
set_option maxRecDepth 20000 in
set_option maxHeartbeats 2000000 in
theorem bk_X11_onePart_146 {d : Nat} {I : HI} {Q : Option AV → AH → Prop} {a1 : Int}  (h : (((I 489 5) = 0 → CI mX11_takes d [vR 489, vR 511] I (fun x1 I1 => ((x1 = 0 → CI mX11_takes d [vR 489, vR 512] I1 (fun x2 I2 => ((x2 = 0 → CI mX11_takes d [vR 489, vR 513] I2 (fun x3 I3 => ((x3 = 0 → CI mX11_takes d [vR 489, vR 514] I3 (fun x4 I4 => ((x4 = 0 → CI mX11_takes d [vR 489, vR 515] I4 (fun x5 I5 => ((x5 = 0 → CI mX11_number d [vR 489, vI 0, vI 9999] I5 (fun x6 I6 => (-2147483648 ≤ 1000 + x6 ∧ 1000 + x6 ≤ 2147483647) ∧ CV mX11_code d [vR 489, vI (1000 + x6)] I6 (fun I7 => Q none (mk I7)))) ∧ (¬ (x5 = 0) → CV mX11_code d [vR 489, vI 18] I5 (fun I8 => Q none (mk I8)))))) ∧ (¬ (x4 = 0) → CV mX11_code d [vR 489, vI 10] I4 (fun I9 => Q none (mk I9)))))) ∧ (¬ (x3 = 0) → CV mX11_code d [vR 489, vI 9] I3 (fun I10 => Q none (mk I10)))))) ∧ (¬ (x2 = 0) → CV mX11_code d [vR 489, vI 8] I2 (fun I11 => Q none (mk I11)))))) ∧ (¬ (x1 = 0) → CV mX11_code d [vR 489, vI 7] I1 (fun I12 => Q none (mk I12)))))) ∧ (¬ ((I 489 5) = 0) → Q none (mk I)))) : J none mX11_onePart (d + 1) 0 0 146 [(0, vR 489), (1, vI a1)] [] (mk I) Q := by
  refine J_aload_n dX11_onePart_146 rfl rfl ?_
  refine J_getI dX11_onePart_147 ck_11 fw_X11_224 rfl sh_489 ?_
  refine J_if_eq (tgt := 154) dX11_onePart_150 (by decide) (fun c => ?_) (fun c => ?_)
  · replace h := h.1 c
    refine J_aload_n dX11_onePart_154 rfl rfl ?_
    refine J_aload_n dX11_onePart_155 rfl rfl ?_
    refine J_getR dX11_onePart_156 ck_11 fw_X11_78 rfl sh_489 rr_489_29 ?_
    refine J_callV (as := [_]) (mc1 := 0) (ms1 := 0) (mc := 0) (ms := 0) dX11_onePart_159 mv_X11_takes lk_X11_251 sh_489 rfl (Nat.le_of_ble_eq_true rfl) (Nat.le_of_ble_eq_true rfl) h (fun r σ hq _ => ?_)
    obtain ⟨x1, I1, rfl, rfl, h⟩ := hq
    change J _ _ _ _ _ _ _ [vI x1] _ _
    refine J_if_eq (tgt := 170) dX11_onePart_162 (by decide) (fun c => ?_) (fun c => ?_)
    · replace h := h.1 c
      refine J_aload_n dX11_onePart_170 rfl rfl ?_
      refine J_aload_n dX11_onePart_171 rfl rfl ?_
      refine J_getR dX11_onePart_172 ck_11 fw_X11_81 rfl sh_489 rr_489_30 ?_
      refine J_callV (as := [_]) (mc1 := 0) (ms1 := 0) (mc := 0) (ms := 0) dX11_onePart_175 mv_X11_takes lk_X11_251 sh_489 rfl (Nat.le_of_ble_eq_true rfl) (Nat.le_of_ble_eq_true rfl) h (fun r σ hq _ => ?_)
      obtain ⟨x2, I2, rfl, rfl, h⟩ := hq
      change J _ _ _ _ _ _ _ [vI x2] _ _
      refine J_if_eq (tgt := 186) dX11_onePart_178 (by decide) (fun c => ?_) (fun c => ?_)
      · replace h := h.1 c
        refine J_aload_n dX11_onePart_186 rfl rfl ?_
        refine J_aload_n dX11_onePart_187 rfl rfl ?_
        refine J_getR dX11_onePart_188 ck_11 fw_X11_84 rfl sh_489 rr_489_31 ?_
        refine J_callV (as := [_]) (mc1 := 0) (ms1 := 0) (mc := 0) (ms := 0) dX11_onePart_191 mv_X11_takes lk_X11_251 sh_489 rfl (Nat.le_of_ble_eq_true rfl) (Nat.le_of_ble_eq_true rfl) h (fun r σ hq _ => ?_)
        obtain ⟨x3, I3, rfl, rfl, h⟩ := hq
        change J _ _ _ _ _ _ _ [vI x3] _ _
        refine J_if_eq (tgt := 202) dX11_onePart_194 (by decide) (fun c => ?_) (fun c => ?_)
        · replace h := h.1 c
          refine J_iconst dX11_onePart_202 (ii_c rfl) ?_
          refine J_istore_n dX11_onePart_203 rfl (by decide) ?_
          refine J_iload_n dX11_onePart_204 rfl rfl ?_
          refine J_iconst dX11_onePart_205 (ii_c rfl) ?_
          refine J_ic_ne (tgt := 243) dX11_onePart_206 (by decide) (fun c => absurd rfl c) (fun _ => ?_)
          refine J_aload_n dX11_onePart_209 rfl rfl ?_
          refine J_aload_n dX11_onePart_210 rfl rfl ?_
          refine J_getR dX11_onePart_211 ck_11 fw_X11_87 rfl sh_489 rr_489_32 ?_
          refine J_callV (as := [_]) (mc1 := 0) (ms1 := 0) (mc := 0) (ms := 0) dX11_onePart_214 mv_X11_takes lk_X11_251 sh_489 rfl (Nat.le_of_ble_eq_true rfl) (Nat.le_of_ble_eq_true rfl) h (fun r σ hq _ => ?_)
          obtain ⟨x4, I4, rfl, rfl, h⟩ := hq
          change J _ _ _ _ _ _ _ [vI x4] _ _
          refine J_if_eq (tgt := 225) dX11_onePart_217 (by decide) (fun c => ?_) (fun c => ?_)
          · replace h := h.1 c
            refine J_aload_n dX11_onePart_225 rfl rfl ?_
            refine J_aload_n dX11_onePart_226 rfl rfl ?_
            refine J_getR dX11_onePart_227 ck_11 fw_X11_90 rfl sh_489 rr_489_33 ?_
            refine J_callV (as := [_]) (mc1 := 0) (ms1 := 0) (mc := 0) (ms := 0) dX11_onePart_230 mv_X11_takes lk_X11_251 sh_489 rfl (Nat.le_of_ble_eq_true rfl) (Nat.le_of_ble_eq_true rfl) h (fun r σ hq _ => ?_)
            obtain ⟨x5, I5, rfl, rfl, h⟩ := hq
            change J _ _ _ _ _ _ _ [vI x5] _ _
            refine J_if_eq (tgt := 241) dX11_onePart_233 (by decide) (fun c => ?_) (fun c => ?_)
            · replace h := h.1 c
              refine J_iconst dX11_onePart_241 (ii_c rfl) ?_
              refine J_istore_n dX11_onePart_242 rfl (by decide) ?_
              refine J_aload_n dX11_onePart_243 rfl rfl ?_
              refine J_iload_n dX11_onePart_244 rfl rfl ?_
              refine J_iconst dX11_onePart_245 (ii_c rfl) ?_
              refine J_ic_eq (tgt := 253) dX11_onePart_246 (by decide) (fun _ => ?_) (fun c => absurd (by decide) c)
              refine J_sipush dX11_onePart_253 (ii_c rfl) (by decide) ?_
              refine J_aload_n dX11_onePart_256 rfl rfl ?_
              refine J_iconst dX11_onePart_257 (ii_c rfl) ?_
              refine J_sipush dX11_onePart_258 (ii_c rfl) (by decide) ?_
              refine J_callV (as := [_, _]) (mc1 := 0) (ms1 := 0) (mc := 0) (ms := 0) dX11_onePart_261 mv_X11_number lk_X11_299 sh_489 rfl (Nat.le_of_ble_eq_true rfl) (Nat.le_of_ble_eq_true rfl) h (fun r σ hq _ => ?_)
              obtain ⟨x6, I6, rfl, rfl, h⟩ := hq
              change J _ _ _ _ _ _ _ [vI x6, vI 1000, vR 489] _ _
              refine J_iaddN dX11_onePart_264 h.1 ?_
              replace h := h.2
              refine J_callV (as := [_]) (mc1 := 0) (ms1 := 0) (mc := 0) (ms := 0) dX11_onePart_265 mv_X11_code lk_X11_370 sh_489 rfl (Nat.le_of_ble_eq_true rfl) (Nat.le_of_ble_eq_true rfl) h (fun r σ hq _ => ?_)
              obtain ⟨I7, rfl, rfl, h⟩ := hq
              change J _ _ _ _ _ _ _ [] _ _
              exact J_retv dX11_onePart_268 rfl h
            · replace h := h.2 c
              refine J_bipush dX11_onePart_236 (ii_c rfl) (by decide) ?_
              refine J_goto (tgt := 242) dX11_onePart_238 (by decide) ?_
              refine J_istore_n dX11_onePart_242 rfl (by decide) ?_
              refine J_aload_n dX11_onePart_243 rfl rfl ?_
              refine J_iload_n dX11_onePart_244 rfl rfl ?_
              refine J_iconst dX11_onePart_245 (ii_c rfl) ?_
              refine J_ic_eq (tgt := 253) dX11_onePart_246 (by decide) (fun c => absurd c (by decide)) (fun _ => ?_)
              refine J_iload_n dX11_onePart_249 rfl rfl ?_
              refine J_goto (tgt := 265) dX11_onePart_250 (by decide) ?_
              refine J_callV (as := [_]) (mc1 := 0) (ms1 := 0) (mc := 0) (ms := 0) dX11_onePart_265 mv_X11_code lk_X11_370 sh_489 rfl (Nat.le_of_ble_eq_true rfl) (Nat.le_of_ble_eq_true rfl) h (fun r σ hq _ => ?_)
              obtain ⟨I8, rfl, rfl, h⟩ := hq
              change J _ _ _ _ _ _ _ [] _ _
              exact J_retv dX11_onePart_268 rfl h
          · replace h := h.2 c
            refine J_bipush dX11_onePart_220 (ii_c rfl) (by decide) ?_
            refine J_goto (tgt := 242) dX11_onePart_222 (by decide) ?_
            refine J_istore_n dX11_onePart_242 rfl (by decide) ?_
            refine J_aload_n dX11_onePart_243 rfl rfl ?_
            refine J_iload_n dX11_onePart_244 rfl rfl ?_
            refine J_iconst dX11_onePart_245 (ii_c rfl) ?_
            refine J_ic_eq (tgt := 253) dX11_onePart_246 (by decide) (fun c => absurd c (by decide)) (fun _ => ?_)
            refine J_iload_n dX11_onePart_249 rfl rfl ?_
            refine J_goto (tgt := 265) dX11_onePart_250 (by decide) ?_
            refine J_callV (as := [_]) (mc1 := 0) (ms1 := 0) (mc := 0) (ms := 0) dX11_onePart_265 mv_X11_code lk_X11_370 sh_489 rfl (Nat.le_of_ble_eq_true rfl) (Nat.le_of_ble_eq_true rfl) h (fun r σ hq _ => ?_)
            obtain ⟨I9, rfl, rfl, h⟩ := hq
            change J _ _ _ _ _ _ _ [] _ _
            exact J_retv dX11_onePart_268 rfl h
        · replace h := h.2 c
          refine J_bipush dX11_onePart_197 (ii_c rfl) (by decide) ?_
          refine J_goto (tgt := 203) dX11_onePart_199 (by decide) ?_
          refine J_istore_n dX11_onePart_203 rfl (by decide) ?_
          refine J_iload_n dX11_onePart_204 rfl rfl ?_
          refine J_iconst dX11_onePart_205 (ii_c rfl) ?_
          refine J_ic_ne (tgt := 243) dX11_onePart_206 (by decide) (fun _ => ?_) (fun c => absurd c (by decide))
          refine J_aload_n dX11_onePart_243 rfl rfl ?_
          refine J_iload_n dX11_onePart_244 rfl rfl ?_
          refine J_iconst dX11_onePart_245 (ii_c rfl) ?_
          refine J_ic_eq (tgt := 253) dX11_onePart_246 (by decide) (fun c => absurd c (by decide)) (fun _ => ?_)
          refine J_iload_n dX11_onePart_249 rfl rfl ?_
          refine J_goto (tgt := 265) dX11_onePart_250 (by decide) ?_
          refine J_callV (as := [_]) (mc1 := 0) (ms1 := 0) (mc := 0) (ms := 0) dX11_onePart_265 mv_X11_code lk_X11_370 sh_489 rfl (Nat.le_of_ble_eq_true rfl) (Nat.le_of_ble_eq_true rfl) h (fun r σ hq _ => ?_)
          obtain ⟨I10, rfl, rfl, h⟩ := hq
          change J _ _ _ _ _ _ _ [] _ _
          exact J_retv dX11_onePart_268 rfl h
      · replace h := h.2 c
        refine J_bipush dX11_onePart_181 (ii_c rfl) (by decide) ?_
        refine J_goto (tgt := 203) dX11_onePart_183 (by decide) ?_
        refine J_istore_n dX11_onePart_203 rfl (by decide) ?_
        refine J_iload_n dX11_onePart_204 rfl rfl ?_
        refine J_iconst dX11_onePart_205 (ii_c rfl) ?_
        refine J_ic_ne (tgt := 243) dX11_onePart_206 (by decide) (fun _ => ?_) (fun c => absurd c (by decide))
        refine J_aload_n dX11_onePart_243 rfl rfl ?_
        refine J_iload_n dX11_onePart_244 rfl rfl ?_
        refine J_iconst dX11_onePart_245 (ii_c rfl) ?_
        refine J_ic_eq (tgt := 253) dX11_onePart_246 (by decide) (fun c => absurd c (by decide)) (fun _ => ?_)
        refine J_iload_n dX11_onePart_249 rfl rfl ?_
        refine J_goto (tgt := 265) dX11_onePart_250 (by decide) ?_
        refine J_callV (as := [_]) (mc1 := 0) (ms1 := 0) (mc := 0) (ms := 0) dX11_onePart_265 mv_X11_code lk_X11_370 sh_489 rfl (Nat.le_of_ble_eq_true rfl) (Nat.le_of_ble_eq_true rfl) h (fun r σ hq _ => ?_)
        obtain ⟨I11, rfl, rfl, h⟩ := hq
        change J _ _ _ _ _ _ _ [] _ _
        exact J_retv dX11_onePart_268 rfl h
    · replace h := h.2 c
      refine J_bipush dX11_onePart_165 (ii_c rfl) (by decide) ?_
      refine J_goto (tgt := 203) dX11_onePart_167 (by decide) ?_
      refine J_istore_n dX11_onePart_203 rfl (by decide) ?_
      refine J_iload_n dX11_onePart_204 rfl rfl ?_
      refine J_iconst dX11_onePart_205 (ii_c rfl) ?_
      refine J_ic_ne (tgt := 243) dX11_onePart_206 (by decide) (fun _ => ?_) (fun c => absurd c (by decide))
      refine J_aload_n dX11_onePart_243 rfl rfl ?_
      refine J_iload_n dX11_onePart_244 rfl rfl ?_
      refine J_iconst dX11_onePart_245 (ii_c rfl) ?_
      refine J_ic_eq (tgt := 253) dX11_onePart_246 (by decide) (fun c => absurd c (by decide)) (fun _ => ?_)
      refine J_iload_n dX11_onePart_249 rfl rfl ?_
      refine J_goto (tgt := 265) dX11_onePart_250 (by decide) ?_
      refine J_callV (as := [_]) (mc1 := 0) (ms1 := 0) (mc := 0) (ms := 0) dX11_onePart_265 mv_X11_code lk_X11_370 sh_489 rfl (Nat.le_of_ble_eq_true rfl) (Nat.le_of_ble_eq_true rfl) h (fun r σ hq _ => ?_)
      obtain ⟨I12, rfl, rfl, h⟩ := hq
      change J _ _ _ _ _ _ _ [] _ _
      exact J_retv dX11_onePart_268 rfl h
  · replace h := h.2 c
    exact J_retv dX11_onePart_153 rfl h
set_option maxRecDepth 20000 in
set_option maxHeartbeats 2000000 in
theorem bk_X11_goesOn_0 {d : Nat} {I : HI} {Q : Option AV → AH → Prop}   (h : (((I 489 5) ≠ 0 → J none mX11_goesOn (d + 1) 0 0 118 [(0, vR 489)] [] (mk I) Q) ∧ ((I 489 5) = 0 → CI mX11_look d [vR 489] I (fun x1 I1 => ((x1 ≠ 41 → J none mX11_goesOn (d + 1) 0 0 118 [(0, vR 489)] [] (mk I1) Q) ∧ (x1 = 41 → CI mX11_mark d [vR 489] I1 (fun x2 I2 => ((x2 = 20 → (-2147483648 ≤ (I2 489 2) + 1 ∧ (I2 489 2) + 1 ≤ 2147483647) ∧ (∀ I3 : HI, I3 = up I2 489 2 ((I2 489 2) + 1) → CV mX11_dropsToMark d [vR 489] I3 (fun I4 => (-2147483648 ≤ (I4 489 49) - 1 ∧ (I4 489 49) - 1 ≤ 2147483647) ∧ (∀ I5 : HI, I5 = up I4 489 49 ((I4 489 49) - 1) → (-2147483648 ≤ (I5 489 50) - 1 ∧ (I5 489 50) - 1 ≤ 2147483647) ∧ (∀ I6 : HI, I6 = up I5 489 50 ((I5 489 50) - 1) → ((0 : Int) ≤ (I6 489 49) ∧ (I6 489 49 : Int) < 1700) ∧ (((I6 525 (I6 489 49).toNat) = 20 → J none mX11_goesOn (d + 1) 0 0 0 [(0, vR 489)] [] (mk I6) Q) ∧ (¬ ((I6 525 (I6 489 49).toNat) = 20) → ((0 : Int) ≤ (I6 489 49) ∧ (I6 489 49 : Int) < 1700) ∧ (((I6 525 (I6 489 49).toNat) ≠ 23 → CV mX11_code d [vR 489, vI 6] I6 (fun I7 => J none mX11_goesOn (d + 1) 0 0 0 [(0, vR 489)] [] (mk I7) Q)) ∧ ((I6 525 (I6 489 49).toNat) = 23 → CV mX11_code d [vR 489, vI 5] I6 (fun I8 => J none mX11_goesOn (d + 1) 0 0 0 [(0, vR 489)] [] (mk I8) Q)))))))))) ∧ (¬ (x2 = 20) → CI mX11_mark d [vR 489] I2 (fun x6 I9 => ((x6 = 23 → (-2147483648 ≤ (I9 489 2) + 1 ∧ (I9 489 2) + 1 ≤ 2147483647) ∧ (∀ I10 : HI, I10 = up I9 489 2 ((I9 489 2) + 1) → CV mX11_dropsToMark d [vR 489] I10 (fun I11 => (-2147483648 ≤ (I11 489 49) - 1 ∧ (I11 489 49) - 1 ≤ 2147483647) ∧ (∀ I12 : HI, I12 = up I11 489 49 ((I11 489 49) - 1) → (-2147483648 ≤ (I12 489 50) - 1 ∧ (I12 489 50) - 1 ≤ 2147483647) ∧ (∀ I13 : HI, I13 = up I12 489 50 ((I12 489 50) - 1) → ((0 : Int) ≤ (I13 489 49) ∧ (I13 489 49 : Int) < 1700) ∧ (((I13 525 (I13 489 49).toNat) = 20 → J none mX11_goesOn (d + 1) 0 0 0 [(0, vR 489)] [] (mk I13) Q) ∧ (¬ ((I13 525 (I13 489 49).toNat) = 20) → ((0 : Int) ≤ (I13 489 49) ∧ (I13 489 49 : Int) < 1700) ∧ (((I13 525 (I13 489 49).toNat) ≠ 23 → CV mX11_code d [vR 489, vI 6] I13 (fun I14 => J none mX11_goesOn (d + 1) 0 0 0 [(0, vR 489)] [] (mk I14) Q)) ∧ ((I13 525 (I13 489 49).toNat) = 23 → CV mX11_code d [vR 489, vI 5] I13 (fun I15 => J none mX11_goesOn (d + 1) 0 0 0 [(0, vR 489)] [] (mk I15) Q)))))))))) ∧ (¬ (x6 = 23) → CI mX11_mark d [vR 489] I9 (fun x10 I16 => ((x10 ≠ 24 → J none mX11_goesOn (d + 1) 0 0 118 [(0, vR 489)] [] (mk I16) Q) ∧ (x10 = 24 → (-2147483648 ≤ (I16 489 2) + 1 ∧ (I16 489 2) + 1 ≤ 2147483647) ∧ (∀ I17 : HI, I17 = up I16 489 2 ((I16 489 2) + 1) → CV mX11_dropsToMark d [vR 489] I17 (fun I18 => (-2147483648 ≤ (I18 489 49) - 1 ∧ (I18 489 49) - 1 ≤ 2147483647) ∧ (∀ I19 : HI, I19 = up I18 489 49 ((I18 489 49) - 1) → (-2147483648 ≤ (I19 489 50) - 1 ∧ (I19 489 50) - 1 ≤ 2147483647) ∧ (∀ I20 : HI, I20 = up I19 489 50 ((I19 489 50) - 1) → ((0 : Int) ≤ (I20 489 49) ∧ (I20 489 49 : Int) < 1700) ∧ (((I20 525 (I20 489 49).toNat) = 20 → J none mX11_goesOn (d + 1) 0 0 0 [(0, vR 489)] [] (mk I20) Q) ∧ (¬ ((I20 525 (I20 489 49).toNat) = 20) → ((0 : Int) ≤ (I20 489 49) ∧ (I20 489 49 : Int) < 1700) ∧ (((I20 525 (I20 489 49).toNat) ≠ 23 → CV mX11_code d [vR 489, vI 6] I20 (fun I21 => J none mX11_goesOn (d + 1) 0 0 0 [(0, vR 489)] [] (mk I21) Q)) ∧ ((I20 525 (I20 489 49).toNat) = 23 → CV mX11_code d [vR 489, vI 5] I20 (fun I22 => J none mX11_goesOn (d + 1) 0 0 0 [(0, vR 489)] [] (mk I22) Q)))))))))))))))))))))))) : J none mX11_goesOn (d + 1) 0 0 0 [(0, vR 489)] [] (mk I) Q := by
  refine J_aload_n dX11_goesOn_0 rfl rfl ?_
  refine J_getI dX11_goesOn_1 ck_11 fw_X11_224 rfl sh_489 ?_
  refine J_if_ne (tgt := 118) dX11_goesOn_4 (by decide) (fun c => ?_) (fun c => ?_)
  · replace h := h.1 c
    exact h
  · replace h := h.2 c
    refine J_aload_n dX11_goesOn_7 rfl rfl ?_
    refine J_callV (as := []) (mc1 := 0) (ms1 := 0) (mc := 0) (ms := 0) dX11_goesOn_8 mv_X11_look lk_X11_236 sh_489 rfl (Nat.le_of_ble_eq_true rfl) (Nat.le_of_ble_eq_true rfl) h (fun r σ hq _ => ?_)
    obtain ⟨x1, I1, rfl, rfl, h⟩ := hq
    change J _ _ _ _ _ _ _ [vI x1] _ _
    refine J_bipush dX11_goesOn_11 (ii_c rfl) (by decide) ?_
    refine J_ic_ne (tgt := 118) dX11_goesOn_13 (by decide) (fun c => ?_) (fun c => ?_)
    · replace h := h.1 c
      exact h
    · replace h := h.2 c
      refine J_aload_n dX11_goesOn_16 rfl rfl ?_
      refine J_callV (as := []) (mc1 := 0) (ms1 := 0) (mc := 0) (ms := 0) dX11_goesOn_17 mv_X11_mark lk_X11_382 sh_489 rfl (Nat.le_of_ble_eq_true rfl) (Nat.le_of_ble_eq_true rfl) h (fun r σ hq _ => ?_)
      obtain ⟨x2, I2, rfl, rfl, h⟩ := hq
      change J _ _ _ _ _ _ _ [vI x2] _ _
      refine J_bipush dX11_goesOn_20 (ii_c rfl) (by decide) ?_
      refine J_ic_eq (tgt := 43) dX11_goesOn_22 (by decide) (fun c => ?_) (fun c => ?_)
      · replace h := h.1 c
        refine J_aload_n dX11_goesOn_43 rfl rfl ?_
        refine J_dup dX11_goesOn_44 rfl ?_
        refine J_getI dX11_goesOn_45 ck_11 fw_X11_230 rfl sh_489 ?_
        refine J_iconst dX11_goesOn_48 (ii_c rfl) ?_
        refine J_iaddN dX11_goesOn_49 h.1 ?_
        replace h := h.2
        refine J_putI dX11_goesOn_50 ck_11 fw_X11_230 rfl rfl (Or.inl rfl) sh_489 ?_
        replace h := h _ rfl
        refine J_aload_n dX11_goesOn_53 rfl rfl ?_
        refine J_callV (as := []) (mc1 := 0) (ms1 := 0) (mc := 0) (ms := 0) dX11_goesOn_54 mv_X11_dropsToMark lk_X11_385 sh_489 rfl (Nat.le_of_ble_eq_true rfl) (Nat.le_of_ble_eq_true rfl) h (fun r σ hq _ => ?_)
        obtain ⟨I4, rfl, rfl, h⟩ := hq
        change J _ _ _ _ _ _ _ [] _ _
        refine J_aload_n dX11_goesOn_57 rfl rfl ?_
        refine J_dup dX11_goesOn_58 rfl ?_
        refine J_getI dX11_goesOn_59 ck_11 fw_X11_309 rfl sh_489 ?_
        refine J_iconst dX11_goesOn_62 (ii_c rfl) ?_
        refine J_isubN dX11_goesOn_63 h.1 ?_
        replace h := h.2
        refine J_putI dX11_goesOn_64 ck_11 fw_X11_309 rfl rfl (Or.inl rfl) sh_489 ?_
        replace h := h _ rfl
        refine J_aload_n dX11_goesOn_67 rfl rfl ?_
        refine J_dup dX11_goesOn_68 rfl ?_
        refine J_getI dX11_goesOn_69 ck_11 fw_X11_312 rfl sh_489 ?_
        refine J_iconst dX11_goesOn_72 (ii_c rfl) ?_
        refine J_isubN dX11_goesOn_73 h.1 ?_
        replace h := h.2
        refine J_putI dX11_goesOn_74 ck_11 fw_X11_312 rfl rfl (Or.inl rfl) sh_489 ?_
        replace h := h _ rfl
        refine J_aload_n dX11_goesOn_77 rfl rfl ?_
        refine J_getR dX11_goesOn_78 ck_11 fw_X11_124 rfl sh_489 rr_489_48 ?_
        refine J_aload_n dX11_goesOn_81 rfl rfl ?_
        refine J_getI dX11_goesOn_82 ck_11 fw_X11_309 rfl sh_489 ?_
        refine J_iald dX11_goesOn_85 sh_525 h.1.1 h.1.2 ?_
        replace h := h.2
        refine J_bipush dX11_goesOn_86 (ii_c rfl) (by decide) ?_
        refine J_ic_eq (tgt := 0) dX11_goesOn_88 (by decide) (fun c => ?_) (fun c => ?_)
        · replace h := h.1 c
          exact h
        · replace h := h.2 c
          refine J_aload_n dX11_goesOn_91 rfl rfl ?_
          refine J_aload_n dX11_goesOn_92 rfl rfl ?_
          refine J_getR dX11_goesOn_93 ck_11 fw_X11_124 rfl sh_489 rr_489_48 ?_
          refine J_aload_n dX11_goesOn_96 rfl rfl ?_
          refine J_getI dX11_goesOn_97 ck_11 fw_X11_309 rfl sh_489 ?_
          refine J_iald dX11_goesOn_100 sh_525 h.1.1 h.1.2 ?_
          replace h := h.2
          refine J_bipush dX11_goesOn_101 (ii_c rfl) (by decide) ?_
          refine J_ic_ne (tgt := 110) dX11_goesOn_103 (by decide) (fun c => ?_) (fun c => ?_)
          · replace h := h.1 c
            refine J_bipush dX11_goesOn_110 (ii_c rfl) (by decide) ?_
            refine J_callV (as := [_]) (mc1 := 0) (ms1 := 0) (mc := 0) (ms := 0) dX11_goesOn_112 mv_X11_code lk_X11_370 sh_489 rfl (Nat.le_of_ble_eq_true rfl) (Nat.le_of_ble_eq_true rfl) h (fun r σ hq _ => ?_)
            obtain ⟨I7, rfl, rfl, h⟩ := hq
            change J _ _ _ _ _ _ _ [] _ _
            refine J_goto (tgt := 0) dX11_goesOn_115 (by decide) ?_
            exact h
          · replace h := h.2 c
            refine J_iconst dX11_goesOn_106 (ii_c rfl) ?_
            refine J_goto (tgt := 112) dX11_goesOn_107 (by decide) ?_
            refine J_callV (as := [_]) (mc1 := 0) (ms1 := 0) (mc := 0) (ms := 0) dX11_goesOn_112 mv_X11_code lk_X11_370 sh_489 rfl (Nat.le_of_ble_eq_true rfl) (Nat.le_of_ble_eq_true rfl) h (fun r σ hq _ => ?_)
            obtain ⟨I8, rfl, rfl, h⟩ := hq
            change J _ _ _ _ _ _ _ [] _ _
            refine J_goto (tgt := 0) dX11_goesOn_115 (by decide) ?_
            exact h
      · replace h := h.2 c
        refine J_aload_n dX11_goesOn_25 rfl rfl ?_
        refine J_callV (as := []) (mc1 := 0) (ms1 := 0) (mc := 0) (ms := 0) dX11_goesOn_26 mv_X11_mark lk_X11_382 sh_489 rfl (Nat.le_of_ble_eq_true rfl) (Nat.le_of_ble_eq_true rfl) h (fun r σ hq _ => ?_)
        obtain ⟨x6, I9, rfl, rfl, h⟩ := hq
        change J _ _ _ _ _ _ _ [vI x6] _ _
        refine J_bipush dX11_goesOn_29 (ii_c rfl) (by decide) ?_
        refine J_ic_eq (tgt := 43) dX11_goesOn_31 (by decide) (fun c => ?_) (fun c => ?_)
        · replace h := h.1 c
          refine J_aload_n dX11_goesOn_43 rfl rfl ?_
          refine J_dup dX11_goesOn_44 rfl ?_
          refine J_getI dX11_goesOn_45 ck_11 fw_X11_230 rfl sh_489 ?_
          refine J_iconst dX11_goesOn_48 (ii_c rfl) ?_
          refine J_iaddN dX11_goesOn_49 h.1 ?_
          replace h := h.2
          refine J_putI dX11_goesOn_50 ck_11 fw_X11_230 rfl rfl (Or.inl rfl) sh_489 ?_
          replace h := h _ rfl
          refine J_aload_n dX11_goesOn_53 rfl rfl ?_
          refine J_callV (as := []) (mc1 := 0) (ms1 := 0) (mc := 0) (ms := 0) dX11_goesOn_54 mv_X11_dropsToMark lk_X11_385 sh_489 rfl (Nat.le_of_ble_eq_true rfl) (Nat.le_of_ble_eq_true rfl) h (fun r σ hq _ => ?_)
          obtain ⟨I11, rfl, rfl, h⟩ := hq
          change J _ _ _ _ _ _ _ [] _ _
          refine J_aload_n dX11_goesOn_57 rfl rfl ?_
          refine J_dup dX11_goesOn_58 rfl ?_
          refine J_getI dX11_goesOn_59 ck_11 fw_X11_309 rfl sh_489 ?_
          refine J_iconst dX11_goesOn_62 (ii_c rfl) ?_
          refine J_isubN dX11_goesOn_63 h.1 ?_
          replace h := h.2
          refine J_putI dX11_goesOn_64 ck_11 fw_X11_309 rfl rfl (Or.inl rfl) sh_489 ?_
          replace h := h _ rfl
          refine J_aload_n dX11_goesOn_67 rfl rfl ?_
          refine J_dup dX11_goesOn_68 rfl ?_
          refine J_getI dX11_goesOn_69 ck_11 fw_X11_312 rfl sh_489 ?_
          refine J_iconst dX11_goesOn_72 (ii_c rfl) ?_
          refine J_isubN dX11_goesOn_73 h.1 ?_
          replace h := h.2
          refine J_putI dX11_goesOn_74 ck_11 fw_X11_312 rfl rfl (Or.inl rfl) sh_489 ?_
          replace h := h _ rfl
          refine J_aload_n dX11_goesOn_77 rfl rfl ?_
          refine J_getR dX11_goesOn_78 ck_11 fw_X11_124 rfl sh_489 rr_489_48 ?_
          refine J_aload_n dX11_goesOn_81 rfl rfl ?_
          refine J_getI dX11_goesOn_82 ck_11 fw_X11_309 rfl sh_489 ?_
          refine J_iald dX11_goesOn_85 sh_525 h.1.1 h.1.2 ?_
          replace h := h.2
          refine J_bipush dX11_goesOn_86 (ii_c rfl) (by decide) ?_
          refine J_ic_eq (tgt := 0) dX11_goesOn_88 (by decide) (fun c => ?_) (fun c => ?_)
          · replace h := h.1 c
            exact h
          · replace h := h.2 c
            refine J_aload_n dX11_goesOn_91 rfl rfl ?_
            refine J_aload_n dX11_goesOn_92 rfl rfl ?_
            refine J_getR dX11_goesOn_93 ck_11 fw_X11_124 rfl sh_489 rr_489_48 ?_
            refine J_aload_n dX11_goesOn_96 rfl rfl ?_
            refine J_getI dX11_goesOn_97 ck_11 fw_X11_309 rfl sh_489 ?_
            refine J_iald dX11_goesOn_100 sh_525 h.1.1 h.1.2 ?_
            replace h := h.2
            refine J_bipush dX11_goesOn_101 (ii_c rfl) (by decide) ?_
            refine J_ic_ne (tgt := 110) dX11_goesOn_103 (by decide) (fun c => ?_) (fun c => ?_)
            · replace h := h.1 c
              refine J_bipush dX11_goesOn_110 (ii_c rfl) (by decide) ?_
              refine J_callV (as := [_]) (mc1 := 0) (ms1 := 0) (mc := 0) (ms := 0) dX11_goesOn_112 mv_X11_code lk_X11_370 sh_489 rfl (Nat.le_of_ble_eq_true rfl) (Nat.le_of_ble_eq_true rfl) h (fun r σ hq _ => ?_)
              obtain ⟨I14, rfl, rfl, h⟩ := hq
              change J _ _ _ _ _ _ _ [] _ _
              refine J_goto (tgt := 0) dX11_goesOn_115 (by decide) ?_
              exact h
            · replace h := h.2 c
              refine J_iconst dX11_goesOn_106 (ii_c rfl) ?_
              refine J_goto (tgt := 112) dX11_goesOn_107 (by decide) ?_
              refine J_callV (as := [_]) (mc1 := 0) (ms1 := 0) (mc := 0) (ms := 0) dX11_goesOn_112 mv_X11_code lk_X11_370 sh_489 rfl (Nat.le_of_ble_eq_true rfl) (Nat.le_of_ble_eq_true rfl) h (fun r σ hq _ => ?_)
              obtain ⟨I15, rfl, rfl, h⟩ := hq
              change J _ _ _ _ _ _ _ [] _ _
              refine J_goto (tgt := 0) dX11_goesOn_115 (by decide) ?_
              exact h
        · replace h := h.2 c
          refine J_aload_n dX11_goesOn_34 rfl rfl ?_
          refine J_callV (as := []) (mc1 := 0) (ms1 := 0) (mc := 0) (ms := 0) dX11_goesOn_35 mv_X11_mark lk_X11_382 sh_489 rfl (Nat.le_of_ble_eq_true rfl) (Nat.le_of_ble_eq_true rfl) h (fun r σ hq _ => ?_)
          obtain ⟨x10, I16, rfl, rfl, h⟩ := hq
          change J _ _ _ _ _ _ _ [vI x10] _ _
          refine J_bipush dX11_goesOn_38 (ii_c rfl) (by decide) ?_
          refine J_ic_ne (tgt := 118) dX11_goesOn_40 (by decide) (fun c => ?_) (fun c => ?_)
          · replace h := h.1 c
            exact h
          · replace h := h.2 c
            refine J_aload_n dX11_goesOn_43 rfl rfl ?_
            refine J_dup dX11_goesOn_44 rfl ?_
            refine J_getI dX11_goesOn_45 ck_11 fw_X11_230 rfl sh_489 ?_
            refine J_iconst dX11_goesOn_48 (ii_c rfl) ?_
            refine J_iaddN dX11_goesOn_49 h.1 ?_
            replace h := h.2
            refine J_putI dX11_goesOn_50 ck_11 fw_X11_230 rfl rfl (Or.inl rfl) sh_489 ?_
            replace h := h _ rfl
            refine J_aload_n dX11_goesOn_53 rfl rfl ?_
            refine J_callV (as := []) (mc1 := 0) (ms1 := 0) (mc := 0) (ms := 0) dX11_goesOn_54 mv_X11_dropsToMark lk_X11_385 sh_489 rfl (Nat.le_of_ble_eq_true rfl) (Nat.le_of_ble_eq_true rfl) h (fun r σ hq _ => ?_)
            obtain ⟨I18, rfl, rfl, h⟩ := hq
            change J _ _ _ _ _ _ _ [] _ _
            refine J_aload_n dX11_goesOn_57 rfl rfl ?_
            refine J_dup dX11_goesOn_58 rfl ?_
            refine J_getI dX11_goesOn_59 ck_11 fw_X11_309 rfl sh_489 ?_
            refine J_iconst dX11_goesOn_62 (ii_c rfl) ?_
            refine J_isubN dX11_goesOn_63 h.1 ?_
            replace h := h.2
            refine J_putI dX11_goesOn_64 ck_11 fw_X11_309 rfl rfl (Or.inl rfl) sh_489 ?_
            replace h := h _ rfl
            refine J_aload_n dX11_goesOn_67 rfl rfl ?_
            refine J_dup dX11_goesOn_68 rfl ?_
            refine J_getI dX11_goesOn_69 ck_11 fw_X11_312 rfl sh_489 ?_
            refine J_iconst dX11_goesOn_72 (ii_c rfl) ?_
            refine J_isubN dX11_goesOn_73 h.1 ?_
            replace h := h.2
            refine J_putI dX11_goesOn_74 ck_11 fw_X11_312 rfl rfl (Or.inl rfl) sh_489 ?_
            replace h := h _ rfl
            refine J_aload_n dX11_goesOn_77 rfl rfl ?_
            refine J_getR dX11_goesOn_78 ck_11 fw_X11_124 rfl sh_489 rr_489_48 ?_
            refine J_aload_n dX11_goesOn_81 rfl rfl ?_
            refine J_getI dX11_goesOn_82 ck_11 fw_X11_309 rfl sh_489 ?_
            refine J_iald dX11_goesOn_85 sh_525 h.1.1 h.1.2 ?_
            replace h := h.2
            refine J_bipush dX11_goesOn_86 (ii_c rfl) (by decide) ?_
            refine J_ic_eq (tgt := 0) dX11_goesOn_88 (by decide) (fun c => ?_) (fun c => ?_)
            · replace h := h.1 c
              exact h
            · replace h := h.2 c
              refine J_aload_n dX11_goesOn_91 rfl rfl ?_
              refine J_aload_n dX11_goesOn_92 rfl rfl ?_
              refine J_getR dX11_goesOn_93 ck_11 fw_X11_124 rfl sh_489 rr_489_48 ?_
              refine J_aload_n dX11_goesOn_96 rfl rfl ?_
              refine J_getI dX11_goesOn_97 ck_11 fw_X11_309 rfl sh_489 ?_
              refine J_iald dX11_goesOn_100 sh_525 h.1.1 h.1.2 ?_
              replace h := h.2
              refine J_bipush dX11_goesOn_101 (ii_c rfl) (by decide) ?_
              refine J_ic_ne (tgt := 110) dX11_goesOn_103 (by decide) (fun c => ?_) (fun c => ?_)
              · replace h := h.1 c
                refine J_bipush dX11_goesOn_110 (ii_c rfl) (by decide) ?_
                refine J_callV (as := [_]) (mc1 := 0) (ms1 := 0) (mc := 0) (ms := 0) dX11_goesOn_112 mv_X11_code lk_X11_370 sh_489 rfl (Nat.le_of_ble_eq_true rfl) (Nat.le_of_ble_eq_true rfl) h (fun r σ hq _ => ?_)
                obtain ⟨I21, rfl, rfl, h⟩ := hq
                change J _ _ _ _ _ _ _ [] _ _
                refine J_goto (tgt := 0) dX11_goesOn_115 (by decide) ?_
                exact h
              · replace h := h.2 c
                refine J_iconst dX11_goesOn_106 (ii_c rfl) ?_
                refine J_goto (tgt := 112) dX11_goesOn_107 (by decide) ?_
                refine J_callV (as := [_]) (mc1 := 0) (ms1 := 0) (mc := 0) (ms := 0) dX11_goesOn_112 mv_X11_code lk_X11_370 sh_489 rfl (Nat.le_of_ble_eq_true rfl) (Nat.le_of_ble_eq_true rfl) h (fun r σ hq _ => ?_)
                obtain ⟨I22, rfl, rfl, h⟩ := hq
                change J _ _ _ _ _ _ _ [] _ _
                refine J_goto (tgt := 0) dX11_goesOn_115 (by decide) ?_
                exact h
set_option maxRecDepth 20000 in
set_option maxHeartbeats 2000000 in
theorem bk_X11_goesOn_118 {d : Nat} {I : HI} {Q : Option AV → AH → Prop}   (h : CI mX11_takesSign d [vR 489, vI 42] I (fun x1 I1 => ((x1 ≠ 0 → (-2147483648 ≤ (I1 489 2) - 1 ∧ (I1 489 2) - 1 ≤ 2147483647) ∧ ((0 : Int) ≤ ((I1 489 2) - 1) ∧ ((I1 489 2) - 1 : Int) < 1600) ∧ (((I1 490 ((I1 489 2) - 1).toNat) ≠ 42 → J none mX11_goesOn (d + 1) 0 0 158 [(0, vR 489), (1, vI 4)] [] (mk I1) Q) ∧ ((I1 490 ((I1 489 2) - 1).toNat) = 42 → J none mX11_goesOn (d + 1) 0 0 158 [(0, vR 489), (1, vI 3)] [] (mk I1) Q))) ∧ (x1 = 0 → CI mX11_takesSign d [vR 489, vI 47] I1 (fun x2 I2 => ((x2 = 0 → CI mX11_takesSign d [vR 489, vI 43] I2 (fun x3 I3 => ((x3 ≠ 0 → (-2147483648 ≤ (I3 489 2) - 1 ∧ (I3 489 2) - 1 ≤ 2147483647) ∧ ((0 : Int) ≤ ((I3 489 2) - 1) ∧ ((I3 489 2) - 1 : Int) < 1600) ∧ (((I3 490 ((I3 489 2) - 1).toNat) ≠ 43 → J none mX11_goesOn (d + 1) 0 0 243 [(0, vR 489), (1, vI 2)] [] (mk I3) Q) ∧ ((I3 490 ((I3 489 2) - 1).toNat) = 43 → J none mX11_goesOn (d + 1) 0 0 243 [(0, vR 489), (1, vI 1)] [] (mk I3) Q))) ∧ (x3 = 0 → CI mX11_takesSign d [vR 489, vI 45] I3 (fun x4 I4 => ((x4 = 0 → CI mX11_mark d [vR 489] I4 (fun x5 I5 => ((x5 = 21 → CV mX11_asksSign d [vR 489, vI 44] I5 (fun I6 => (((I6 489 5) = 0 → CV mX11_dropsToMark d [vR 489] I6 (fun I7 => (-2147483648 ≤ (I7 489 49) - 1 ∧ (I7 489 49) - 1 ≤ 2147483647) ∧ ((0 : Int) ≤ ((I7 489 49) - 1) ∧ ((I7 489 49) - 1 : Int) < 1700) ∧ (-2147483648 ≤ (I7 525 ((I7 489 49) - 1).toNat) + 2 ∧ (I7 525 ((I7 489 49) - 1).toNat) + 2 ≤ 2147483647) ∧ ((0 : Int) ≤ ((I7 489 49) - 1) ∧ ((I7 489 49) - 1 : Int) < 1700) ∧ (∀ I8 : HI, I8 = up I7 525 ((I7 489 49) - 1).toNat ((I7 525 ((I7 489 49) - 1).toNat) + 2) → Q (some (vI 1)) (mk I8)))) ∧ (¬ ((I6 489 5) = 0) → Q (some (vI 0)) (mk I6))))) ∧ (¬ (x5 = 21) → CI mX11_mark d [vR 489] I5 (fun x8 I9 => ((x8 ≠ 22 → CI mX11_mark d [vR 489] I9 (fun x9 I10 => ((x9 = (-1) → Q (some (vI 0)) (mk I10)) ∧ (¬ (x9 = (-1)) → (((I10 489 5) ≠ 0 → Q (some (vI 0)) (mk I10)) ∧ ((I10 489 5) = 0 → CV mX11_fail d [vR 489, vI 1, vI (I10 489 2)] I10 (fun I11 => Q (some (vI 0)) (mk I11)))))))) ∧ (x8 = 22 → CV mX11_asksSign d [vR 489, vI 44] I9 (fun I12 => (((I12 489 5) = 0 → CV mX11_dropsToMark d [vR 489] I12 (fun I13 => (-2147483648 ≤ (I13 489 49) - 1 ∧ (I13 489 49) - 1 ≤ 2147483647) ∧ ((0 : Int) ≤ ((I13 489 49) - 1) ∧ ((I13 489 49) - 1 : Int) < 1700) ∧ (-2147483648 ≤ (I13 525 ((I13 489 49) - 1).toNat) + 2 ∧ (I13 525 ((I13 489 49) - 1).toNat) + 2 ≤ 2147483647) ∧ ((0 : Int) ≤ ((I13 489 49) - 1) ∧ ((I13 489 49) - 1 : Int) < 1700) ∧ (∀ I14 : HI, I14 = up I13 525 ((I13 489 49) - 1).toNat ((I13 525 ((I13 489 49) - 1).toNat) + 2) → Q (some (vI 1)) (mk I14)))) ∧ (¬ ((I12 489 5) = 0) → Q (some (vI 0)) (mk I12))))))))))) ∧ (¬ (x4 = 0) → (-2147483648 ≤ (I4 489 2) - 1 ∧ (I4 489 2) - 1 ≤ 2147483647) ∧ ((0 : Int) ≤ ((I4 489 2) - 1) ∧ ((I4 489 2) - 1 : Int) < 1600) ∧ (((I4 490 ((I4 489 2) - 1).toNat) ≠ 43 → J none mX11_goesOn (d + 1) 0 0 243 [(0, vR 489), (1, vI 2)] [] (mk I4) Q) ∧ ((I4 490 ((I4 489 2) - 1).toNat) = 43 → J none mX11_goesOn (d + 1) 0 0 243 [(0, vR 489), (1, vI 1)] [] (mk I4) Q))))))))) ∧ (¬ (x2 = 0) → (-2147483648 ≤ (I2 489 2) - 1 ∧ (I2 489 2) - 1 ≤ 2147483647) ∧ ((0 : Int) ≤ ((I2 489 2) - 1) ∧ ((I2 489 2) - 1 : Int) < 1600) ∧ (((I2 490 ((I2 489 2) - 1).toNat) ≠ 42 → J none mX11_goesOn (d + 1) 0 0 158 [(0, vR 489), (1, vI 4)] [] (mk I2) Q) ∧ ((I2 490 ((I2 489 2) - 1).toNat) = 42 → J none mX11_goesOn (d + 1) 0 0 158 [(0, vR 489), (1, vI 3)] [] (mk I2) Q))))))))) : J none mX11_goesOn (d + 1) 0 0 118 [(0, vR 489)] [] (mk I) Q := by
  refine J_aload_n dX11_goesOn_118 rfl rfl ?_
  refine J_bipush dX11_goesOn_119 (ii_c rfl) (by decide) ?_
  refine J_callV (as := [_]) (mc1 := 0) (ms1 := 0) (mc := 0) (ms := 0) dX11_goesOn_121 mv_X11_takesSign lk_X11_258 sh_489 rfl (Nat.le_of_ble_eq_true rfl) (Nat.le_of_ble_eq_true rfl) h (fun r σ hq _ => ?_)
  obtain ⟨x1, I1, rfl, rfl, h⟩ := hq
  change J _ _ _ _ _ _ _ [vI x1] _ _
  refine J_if_ne (tgt := 136) dX11_goesOn_124 (by decide) (fun c => ?_) (fun c => ?_)
  · replace h := h.1 c
    refine J_aload_n dX11_goesOn_136 rfl rfl ?_
    refine J_getR dX11_goesOn_137 ck_11 fw_X11_7 rfl sh_489 rr_489_0 ?_
    refine J_aload_n dX11_goesOn_140 rfl rfl ?_
    refine J_getI dX11_goesOn_141 ck_11 fw_X11_230 rfl sh_489 ?_
    refine J_iconst dX11_goesOn_144 (ii_c rfl) ?_
    refine J_isubN dX11_goesOn_145 h.1 ?_
    replace h := h.2
    refine J_iald dX11_goesOn_146 sh_490 h.1.1 h.1.2 ?_
    replace h := h.2
    refine J_bipush dX11_goesOn_147 (ii_c rfl) (by decide) ?_
    refine J_ic_ne (tgt := 156) dX11_goesOn_149 (by decide) (fun c => ?_) (fun c => ?_)
    · replace h := h.1 c
      refine J_iconst dX11_goesOn_156 (ii_c rfl) ?_
      refine J_istore_n dX11_goesOn_157 rfl (by decide) ?_
      exact h
    · replace h := h.2 c
      refine J_iconst dX11_goesOn_152 (ii_c rfl) ?_
      refine J_goto (tgt := 157) dX11_goesOn_153 (by decide) ?_
      refine J_istore_n dX11_goesOn_157 rfl (by decide) ?_
      exact h
  · replace h := h.2 c
    refine J_aload_n dX11_goesOn_127 rfl rfl ?_
    refine J_bipush dX11_goesOn_128 (ii_c rfl) (by decide) ?_
    refine J_callV (as := [_]) (mc1 := 0) (ms1 := 0) (mc := 0) (ms := 0) dX11_goesOn_130 mv_X11_takesSign lk_X11_258 sh_489 rfl (Nat.le_of_ble_eq_true rfl) (Nat.le_of_ble_eq_true rfl) h (fun r σ hq _ => ?_)
    obtain ⟨x2, I2, rfl, rfl, h⟩ := hq
    change J _ _ _ _ _ _ _ [vI x2] _ _
    refine J_if_eq (tgt := 203) dX11_goesOn_133 (by decide) (fun c => ?_) (fun c => ?_)
    · replace h := h.1 c
      refine J_aload_n dX11_goesOn_203 rfl rfl ?_
      refine J_bipush dX11_goesOn_204 (ii_c rfl) (by decide) ?_
      refine J_callV (as := [_]) (mc1 := 0) (ms1 := 0) (mc := 0) (ms := 0) dX11_goesOn_206 mv_X11_takesSign lk_X11_258 sh_489 rfl (Nat.le_of_ble_eq_true rfl) (Nat.le_of_ble_eq_true rfl) h (fun r σ hq _ => ?_)
      obtain ⟨x3, I3, rfl, rfl, h⟩ := hq
      change J _ _ _ _ _ _ _ [vI x3] _ _
      refine J_if_ne (tgt := 221) dX11_goesOn_209 (by decide) (fun c => ?_) (fun c => ?_)
      · replace h := h.1 c
        refine J_aload_n dX11_goesOn_221 rfl rfl ?_
        refine J_getR dX11_goesOn_222 ck_11 fw_X11_7 rfl sh_489 rr_489_0 ?_
        refine J_aload_n dX11_goesOn_225 rfl rfl ?_
        refine J_getI dX11_goesOn_226 ck_11 fw_X11_230 rfl sh_489 ?_
        refine J_iconst dX11_goesOn_229 (ii_c rfl) ?_
        refine J_isubN dX11_goesOn_230 h.1 ?_
        replace h := h.2
        refine J_iald dX11_goesOn_231 sh_490 h.1.1 h.1.2 ?_
        replace h := h.2
        refine J_bipush dX11_goesOn_232 (ii_c rfl) (by decide) ?_
        refine J_ic_ne (tgt := 241) dX11_goesOn_234 (by decide) (fun c => ?_) (fun c => ?_)
        · replace h := h.1 c
          refine J_iconst dX11_goesOn_241 (ii_c rfl) ?_
          refine J_istore_n dX11_goesOn_242 rfl (by decide) ?_
          exact h
        · replace h := h.2 c
          refine J_iconst dX11_goesOn_237 (ii_c rfl) ?_
          refine J_goto (tgt := 242) dX11_goesOn_238 (by decide) ?_
          refine J_istore_n dX11_goesOn_242 rfl (by decide) ?_
          exact h
      · replace h := h.2 c
        refine J_aload_n dX11_goesOn_212 rfl rfl ?_
        refine J_bipush dX11_goesOn_213 (ii_c rfl) (by decide) ?_
        refine J_callV (as := [_]) (mc1 := 0) (ms1 := 0) (mc := 0) (ms := 0) dX11_goesOn_215 mv_X11_takesSign lk_X11_258 sh_489 rfl (Nat.le_of_ble_eq_true rfl) (Nat.le_of_ble_eq_true rfl) h (fun r σ hq _ => ?_)
        obtain ⟨x4, I4, rfl, rfl, h⟩ := hq
        change J _ _ _ _ _ _ _ [vI x4] _ _
        refine J_if_eq (tgt := 304) dX11_goesOn_218 (by decide) (fun c => ?_) (fun c => ?_)
        · replace h := h.1 c
          refine J_aload_n dX11_goesOn_304 rfl rfl ?_
          refine J_callV (as := []) (mc1 := 0) (ms1 := 0) (mc := 0) (ms := 0) dX11_goesOn_305 mv_X11_mark lk_X11_382 sh_489 rfl (Nat.le_of_ble_eq_true rfl) (Nat.le_of_ble_eq_true rfl) h (fun r σ hq _ => ?_)
          obtain ⟨x5, I5, rfl, rfl, h⟩ := hq
          change J _ _ _ _ _ _ _ [vI x5] _ _
          refine J_bipush dX11_goesOn_308 (ii_c rfl) (by decide) ?_
          refine J_ic_eq (tgt := 322) dX11_goesOn_310 (by decide) (fun c => ?_) (fun c => ?_)
          · replace h := h.1 c
            refine J_aload_n dX11_goesOn_322 rfl rfl ?_
            refine J_bipush dX11_goesOn_323 (ii_c rfl) (by decide) ?_
            refine J_callV (as := [_]) (mc1 := 0) (ms1 := 0) (mc := 0) (ms := 0) dX11_goesOn_325 mv_X11_asksSign lk_X11_346 sh_489 rfl (Nat.le_of_ble_eq_true rfl) (Nat.le_of_ble_eq_true rfl) h (fun r σ hq _ => ?_)
            obtain ⟨I6, rfl, rfl, h⟩ := hq
            change J _ _ _ _ _ _ _ [] _ _
            refine J_aload_n dX11_goesOn_328 rfl rfl ?_
            refine J_getI dX11_goesOn_329 ck_11 fw_X11_224 rfl sh_489 ?_
            refine J_if_eq (tgt := 337) dX11_goesOn_332 (by decide) (fun c => ?_) (fun c => ?_)
            · replace h := h.1 c
              refine J_aload_n dX11_goesOn_337 rfl rfl ?_
              refine J_callV (as := []) (mc1 := 0) (ms1 := 0) (mc := 0) (ms := 0) dX11_goesOn_338 mv_X11_dropsToMark lk_X11_385 sh_489 rfl (Nat.le_of_ble_eq_true rfl) (Nat.le_of_ble_eq_true rfl) h (fun r σ hq _ => ?_)
              obtain ⟨I7, rfl, rfl, h⟩ := hq
              change J _ _ _ _ _ _ _ [] _ _
              refine J_aload_n dX11_goesOn_341 rfl rfl ?_
              refine J_getR dX11_goesOn_342 ck_11 fw_X11_124 rfl sh_489 rr_489_48 ?_
              refine J_aload_n dX11_goesOn_345 rfl rfl ?_
              refine J_getI dX11_goesOn_346 ck_11 fw_X11_309 rfl sh_489 ?_
              refine J_iconst dX11_goesOn_349 (ii_c rfl) ?_
              refine J_isubN dX11_goesOn_350 h.1 ?_
              replace h := h.2
              refine J_dup2 dX11_goesOn_351 rfl rfl ?_
              refine J_iald dX11_goesOn_352 sh_525 h.1.1 h.1.2 ?_
              replace h := h.2
              refine J_iconst dX11_goesOn_353 (ii_c rfl) ?_
              refine J_iaddN dX11_goesOn_354 h.1 ?_
              replace h := h.2
              refine J_iast dX11_goesOn_355 sh_525 h.1.1 h.1.2 ?_
              replace h := h.2 _ rfl
              refine J_iconst dX11_goesOn_356 (ii_c rfl) ?_
              exact J_retz dX11_goesOn_357 rfl (Or.inr rfl) h
            · replace h := h.2 c
              refine J_iconst dX11_goesOn_335 (ii_c rfl) ?_
              exact J_retz dX11_goesOn_336 rfl (Or.inl rfl) h
          · replace h := h.2 c
            refine J_aload_n dX11_goesOn_313 rfl rfl ?_
            refine J_callV (as := []) (mc1 := 0) (ms1 := 0) (mc := 0) (ms := 0) dX11_goesOn_314 mv_X11_mark lk_X11_382 sh_489 rfl (Nat.le_of_ble_eq_true rfl) (Nat.le_of_ble_eq_true rfl) h (fun r σ hq _ => ?_)
            obtain ⟨x8, I9, rfl, rfl, h⟩ := hq
            change J _ _ _ _ _ _ _ [vI x8] _ _
            refine J_bipush dX11_goesOn_317 (ii_c rfl) (by decide) ?_
            refine J_ic_ne (tgt := 358) dX11_goesOn_319 (by decide) (fun c => ?_) (fun c => ?_)
            · replace h := h.1 c
              refine J_aload_n dX11_goesOn_358 rfl rfl ?_
              refine J_callV (as := []) (mc1 := 0) (ms1 := 0) (mc := 0) (ms := 0) dX11_goesOn_359 mv_X11_mark lk_X11_382 sh_489 rfl (Nat.le_of_ble_eq_true rfl) (Nat.le_of_ble_eq_true rfl) h (fun r σ hq _ => ?_)
              obtain ⟨x9, I10, rfl, rfl, h⟩ := hq
              change J _ _ _ _ _ _ _ [vI x9] _ _
              refine J_iconst dX11_goesOn_362 (ii_c rfl) ?_
              refine J_ic_eq (tgt := 382) dX11_goesOn_363 (by decide) (fun c => ?_) (fun c => ?_)
              · replace h := h.1 c
                refine J_iconst dX11_goesOn_382 (ii_c rfl) ?_
                exact J_retz dX11_goesOn_383 rfl (Or.inl rfl) h
              · replace h := h.2 c
                refine J_aload_n dX11_goesOn_366 rfl rfl ?_
                refine J_getI dX11_goesOn_367 ck_11 fw_X11_224 rfl sh_489 ?_
                refine J_if_ne (tgt := 382) dX11_goesOn_370 (by decide) (fun c => ?_) (fun c => ?_)
                · replace h := h.1 c
                  refine J_iconst dX11_goesOn_382 (ii_c rfl) ?_
                  exact J_retz dX11_goesOn_383 rfl (Or.inl rfl) h
                · replace h := h.2 c
                  refine J_aload_n dX11_goesOn_373 rfl rfl ?_
                  refine J_iconst dX11_goesOn_374 (ii_c rfl) ?_
                  refine J_aload_n dX11_goesOn_375 rfl rfl ?_
                  refine J_getI dX11_goesOn_376 ck_11 fw_X11_230 rfl sh_489 ?_
                  refine J_callV (as := [_, _]) (mc1 := 0) (ms1 := 0) (mc := 0) (ms := 0) dX11_goesOn_379 mv_X11_fail lk_X11_254 sh_489 rfl (Nat.le_of_ble_eq_true rfl) (Nat.le_of_ble_eq_true rfl) h (fun r σ hq _ => ?_)
                  obtain ⟨I11, rfl, rfl, h⟩ := hq
                  change J _ _ _ _ _ _ _ [] _ _
                  refine J_iconst dX11_goesOn_382 (ii_c rfl) ?_
                  exact J_retz dX11_goesOn_383 rfl (Or.inl rfl) h
            · replace h := h.2 c
              refine J_aload_n dX11_goesOn_322 rfl rfl ?_
              refine J_bipush dX11_goesOn_323 (ii_c rfl) (by decide) ?_
              refine J_callV (as := [_]) (mc1 := 0) (ms1 := 0) (mc := 0) (ms := 0) dX11_goesOn_325 mv_X11_asksSign lk_X11_346 sh_489 rfl (Nat.le_of_ble_eq_true rfl) (Nat.le_of_ble_eq_true rfl) h (fun r σ hq _ => ?_)
              obtain ⟨I12, rfl, rfl, h⟩ := hq
              change J _ _ _ _ _ _ _ [] _ _
              refine J_aload_n dX11_goesOn_328 rfl rfl ?_
              refine J_getI dX11_goesOn_329 ck_11 fw_X11_224 rfl sh_489 ?_
              refine J_if_eq (tgt := 337) dX11_goesOn_332 (by decide) (fun c => ?_) (fun c => ?_)
              · replace h := h.1 c
                refine J_aload_n dX11_goesOn_337 rfl rfl ?_
                refine J_callV (as := []) (mc1 := 0) (ms1 := 0) (mc := 0) (ms := 0) dX11_goesOn_338 mv_X11_dropsToMark lk_X11_385 sh_489 rfl (Nat.le_of_ble_eq_true rfl) (Nat.le_of_ble_eq_true rfl) h (fun r σ hq _ => ?_)
                obtain ⟨I13, rfl, rfl, h⟩ := hq
                change J _ _ _ _ _ _ _ [] _ _
                refine J_aload_n dX11_goesOn_341 rfl rfl ?_
                refine J_getR dX11_goesOn_342 ck_11 fw_X11_124 rfl sh_489 rr_489_48 ?_
                refine J_aload_n dX11_goesOn_345 rfl rfl ?_
                refine J_getI dX11_goesOn_346 ck_11 fw_X11_309 rfl sh_489 ?_
                refine J_iconst dX11_goesOn_349 (ii_c rfl) ?_
                refine J_isubN dX11_goesOn_350 h.1 ?_
                replace h := h.2
                refine J_dup2 dX11_goesOn_351 rfl rfl ?_
                refine J_iald dX11_goesOn_352 sh_525 h.1.1 h.1.2 ?_
                replace h := h.2
                refine J_iconst dX11_goesOn_353 (ii_c rfl) ?_
                refine J_iaddN dX11_goesOn_354 h.1 ?_
                replace h := h.2
                refine J_iast dX11_goesOn_355 sh_525 h.1.1 h.1.2 ?_
                replace h := h.2 _ rfl
                refine J_iconst dX11_goesOn_356 (ii_c rfl) ?_
                exact J_retz dX11_goesOn_357 rfl (Or.inr rfl) h
              · replace h := h.2 c
                refine J_iconst dX11_goesOn_335 (ii_c rfl) ?_
                exact J_retz dX11_goesOn_336 rfl (Or.inl rfl) h
        · replace h := h.2 c
          refine J_aload_n dX11_goesOn_221 rfl rfl ?_
          refine J_getR dX11_goesOn_222 ck_11 fw_X11_7 rfl sh_489 rr_489_0 ?_
          refine J_aload_n dX11_goesOn_225 rfl rfl ?_
          refine J_getI dX11_goesOn_226 ck_11 fw_X11_230 rfl sh_489 ?_
          refine J_iconst dX11_goesOn_229 (ii_c rfl) ?_
          refine J_isubN dX11_goesOn_230 h.1 ?_
          replace h := h.2
          refine J_iald dX11_goesOn_231 sh_490 h.1.1 h.1.2 ?_
          replace h := h.2
          refine J_bipush dX11_goesOn_232 (ii_c rfl) (by decide) ?_
          refine J_ic_ne (tgt := 241) dX11_goesOn_234 (by decide) (fun c => ?_) (fun c => ?_)
          · replace h := h.1 c
            refine J_iconst dX11_goesOn_241 (ii_c rfl) ?_
            refine J_istore_n dX11_goesOn_242 rfl (by decide) ?_
            exact h
          · replace h := h.2 c
            refine J_iconst dX11_goesOn_237 (ii_c rfl) ?_
            refine J_goto (tgt := 242) dX11_goesOn_238 (by decide) ?_
            refine J_istore_n dX11_goesOn_242 rfl (by decide) ?_
            exact h
    · replace h := h.2 c
      refine J_aload_n dX11_goesOn_136 rfl rfl ?_
      refine J_getR dX11_goesOn_137 ck_11 fw_X11_7 rfl sh_489 rr_489_0 ?_
      refine J_aload_n dX11_goesOn_140 rfl rfl ?_
      refine J_getI dX11_goesOn_141 ck_11 fw_X11_230 rfl sh_489 ?_
      refine J_iconst dX11_goesOn_144 (ii_c rfl) ?_
      refine J_isubN dX11_goesOn_145 h.1 ?_
      replace h := h.2
      refine J_iald dX11_goesOn_146 sh_490 h.1.1 h.1.2 ?_
      replace h := h.2
      refine J_bipush dX11_goesOn_147 (ii_c rfl) (by decide) ?_
      refine J_ic_ne (tgt := 156) dX11_goesOn_149 (by decide) (fun c => ?_) (fun c => ?_)
      · replace h := h.1 c
        refine J_iconst dX11_goesOn_156 (ii_c rfl) ?_
        refine J_istore_n dX11_goesOn_157 rfl (by decide) ?_
        exact h
      · replace h := h.2 c
        refine J_iconst dX11_goesOn_152 (ii_c rfl) ?_
        refine J_goto (tgt := 157) dX11_goesOn_153 (by decide) ?_
        refine J_istore_n dX11_goesOn_157 rfl (by decide) ?_
        exact h
set_option maxRecDepth 20000 in
set_option maxHeartbeats 2000000 in
theorem bk_X11_goesOn_158 {d : Nat} {I : HI} {Q : Option AV → AH → Prop} {a1 : Int}  (h : CI mX11_isOn d [vR 489, vI 3] I (fun x1 I1 => ((x1 ≠ 0 → CV mX11_drops d [vR 489] I1 (fun I2 => J none mX11_goesOn (d + 1) 0 0 158 [(0, vR 489), (1, vI a1)] [] (mk I2) Q)) ∧ (x1 = 0 → CI mX11_isOn d [vR 489, vI 4] I1 (fun x3 I3 => ((x3 = 0 → ((0 : Int) ≤ (I3 489 49) ∧ (I3 489 49 : Int) < 1700) ∧ (∀ I4 : HI, I4 = up I3 525 (I3 489 49).toNat a1 → (-2147483648 ≤ (I4 489 49) + 1 ∧ (I4 489 49) + 1 ≤ 2147483647) ∧ (∀ I5 : HI, I5 = up I4 489 49 ((I4 489 49) + 1) → Q (some (vI 1)) (mk I5)))) ∧ (¬ (x3 = 0) → CV mX11_drops d [vR 489] I3 (fun I6 => J none mX11_goesOn (d + 1) 0 0 158 [(0, vR 489), (1, vI a1)] [] (mk I6) Q)))))))) : J none mX11_goesOn (d + 1) 0 0 158 [(0, vR 489), (1, vI a1)] [] (mk I) Q := by
  refine J_aload_n dX11_goesOn_158 rfl rfl ?_
  refine J_iconst dX11_goesOn_159 (ii_c rfl) ?_
  refine J_callV (as := [_]) (mc1 := 0) (ms1 := 0) (mc := 0) (ms := 0) dX11_goesOn_160 mv_X11_isOn lk_X11_388 sh_489 rfl (Nat.le_of_ble_eq_true rfl) (Nat.le_of_ble_eq_true rfl) h (fun r σ hq _ => ?_)
  obtain ⟨x1, I1, rfl, rfl, h⟩ := hq
  change J _ _ _ _ _ _ _ [vI x1] _ _
  refine J_if_ne (tgt := 174) dX11_goesOn_163 (by decide) (fun c => ?_) (fun c => ?_)
  · replace h := h.1 c
    refine J_aload_n dX11_goesOn_174 rfl rfl ?_
    refine J_callV (as := []) (mc1 := 0) (ms1 := 0) (mc := 0) (ms := 0) dX11_goesOn_175 mv_X11_drops lk_X11_376 sh_489 rfl (Nat.le_of_ble_eq_true rfl) (Nat.le_of_ble_eq_true rfl) h (fun r σ hq _ => ?_)
    obtain ⟨I2, rfl, rfl, h⟩ := hq
    change J _ _ _ _ _ _ _ [] _ _
    refine J_goto (tgt := 158) dX11_goesOn_178 (by decide) ?_
    exact h
  · replace h := h.2 c
    refine J_aload_n dX11_goesOn_166 rfl rfl ?_
    refine J_iconst dX11_goesOn_167 (ii_c rfl) ?_
    refine J_callV (as := [_]) (mc1 := 0) (ms1 := 0) (mc := 0) (ms := 0) dX11_goesOn_168 mv_X11_isOn lk_X11_388 sh_489 rfl (Nat.le_of_ble_eq_true rfl) (Nat.le_of_ble_eq_true rfl) h (fun r σ hq _ => ?_)
    obtain ⟨x3, I3, rfl, rfl, h⟩ := hq
    change J _ _ _ _ _ _ _ [vI x3] _ _
    refine J_if_eq (tgt := 181) dX11_goesOn_171 (by decide) (fun c => ?_) (fun c => ?_)
    · replace h := h.1 c
      refine J_aload_n dX11_goesOn_181 rfl rfl ?_
      refine J_getR dX11_goesOn_182 ck_11 fw_X11_124 rfl sh_489 rr_489_48 ?_
      refine J_aload_n dX11_goesOn_185 rfl rfl ?_
      refine J_getI dX11_goesOn_186 ck_11 fw_X11_309 rfl sh_489 ?_
      refine J_iload_n dX11_goesOn_189 rfl rfl ?_
      refine J_iast dX11_goesOn_190 sh_525 h.1.1 h.1.2 ?_
      replace h := h.2 _ rfl
      refine J_aload_n dX11_goesOn_191 rfl rfl ?_
      refine J_dup dX11_goesOn_192 rfl ?_
      refine J_getI dX11_goesOn_193 ck_11 fw_X11_309 rfl sh_489 ?_
      refine J_iconst dX11_goesOn_196 (ii_c rfl) ?_
      refine J_iaddN dX11_goesOn_197 h.1 ?_
      replace h := h.2
      refine J_putI dX11_goesOn_198 ck_11 fw_X11_309 rfl rfl (Or.inl rfl) sh_489 ?_
      replace h := h _ rfl
      refine J_iconst dX11_goesOn_201 (ii_c rfl) ?_
      exact J_retz dX11_goesOn_202 rfl (Or.inr rfl) h
    · replace h := h.2 c
      refine J_aload_n dX11_goesOn_174 rfl rfl ?_
      refine J_callV (as := []) (mc1 := 0) (ms1 := 0) (mc := 0) (ms := 0) dX11_goesOn_175 mv_X11_drops lk_X11_376 sh_489 rfl (Nat.le_of_ble_eq_true rfl) (Nat.le_of_ble_eq_true rfl) h (fun r σ hq _ => ?_)
      obtain ⟨I6, rfl, rfl, h⟩ := hq
      change J _ _ _ _ _ _ _ [] _ _
      refine J_goto (tgt := 158) dX11_goesOn_178 (by decide) ?_
      exact h
set_option maxRecDepth 20000 in
set_option maxHeartbeats 2000000 in
theorem bk_X11_goesOn_243 {d : Nat} {I : HI} {Q : Option AV → AH → Prop} {a1 : Int}  (h : CI mX11_isOn d [vR 489, vI 3] I (fun x1 I1 => ((x1 ≠ 0 → CV mX11_drops d [vR 489] I1 (fun I2 => J none mX11_goesOn (d + 1) 0 0 243 [(0, vR 489), (1, vI a1)] [] (mk I2) Q)) ∧ (x1 = 0 → CI mX11_isOn d [vR 489, vI 4] I1 (fun x3 I3 => ((x3 ≠ 0 → CV mX11_drops d [vR 489] I3 (fun I4 => J none mX11_goesOn (d + 1) 0 0 243 [(0, vR 489), (1, vI a1)] [] (mk I4) Q)) ∧ (x3 = 0 → CI mX11_isOn d [vR 489, vI 1] I3 (fun x5 I5 => ((x5 ≠ 0 → CV mX11_drops d [vR 489] I5 (fun I6 => J none mX11_goesOn (d + 1) 0 0 243 [(0, vR 489), (1, vI a1)] [] (mk I6) Q)) ∧ (x5 = 0 → CI mX11_isOn d [vR 489, vI 2] I5 (fun x7 I7 => ((x7 = 0 → ((0 : Int) ≤ (I7 489 49) ∧ (I7 489 49 : Int) < 1700) ∧ (∀ I8 : HI, I8 = up I7 525 (I7 489 49).toNat a1 → (-2147483648 ≤ (I8 489 49) + 1 ∧ (I8 489 49) + 1 ≤ 2147483647) ∧ (∀ I9 : HI, I9 = up I8 489 49 ((I8 489 49) + 1) → Q (some (vI 1)) (mk I9)))) ∧ (¬ (x7 = 0) → CV mX11_drops d [vR 489] I7 (fun I10 => J none mX11_goesOn (d + 1) 0 0 243 [(0, vR 489), (1, vI a1)] [] (mk I10) Q)))))))))))))) : J none mX11_goesOn (d + 1) 0 0 243 [(0, vR 489), (1, vI a1)] [] (mk I) Q := by
  refine J_aload_n dX11_goesOn_243 rfl rfl ?_
  refine J_iconst dX11_goesOn_244 (ii_c rfl) ?_
  refine J_callV (as := [_]) (mc1 := 0) (ms1 := 0) (mc := 0) (ms := 0) dX11_goesOn_245 mv_X11_isOn lk_X11_388 sh_489 rfl (Nat.le_of_ble_eq_true rfl) (Nat.le_of_ble_eq_true rfl) h (fun r σ hq _ => ?_)
  obtain ⟨x1, I1, rfl, rfl, h⟩ := hq
  change J _ _ _ _ _ _ _ [vI x1] _ _
  refine J_if_ne (tgt := 275) dX11_goesOn_248 (by decide) (fun c => ?_) (fun c => ?_)
  · replace h := h.1 c
    refine J_aload_n dX11_goesOn_275 rfl rfl ?_
    refine J_callV (as := []) (mc1 := 0) (ms1 := 0) (mc := 0) (ms := 0) dX11_goesOn_276 mv_X11_drops lk_X11_376 sh_489 rfl (Nat.le_of_ble_eq_true rfl) (Nat.le_of_ble_eq_true rfl) h (fun r σ hq _ => ?_)
    obtain ⟨I2, rfl, rfl, h⟩ := hq
    change J _ _ _ _ _ _ _ [] _ _
    refine J_goto (tgt := 243) dX11_goesOn_279 (by decide) ?_
    exact h
  · replace h := h.2 c
    refine J_aload_n dX11_goesOn_251 rfl rfl ?_
    refine J_iconst dX11_goesOn_252 (ii_c rfl) ?_
    refine J_callV (as := [_]) (mc1 := 0) (ms1 := 0) (mc := 0) (ms := 0) dX11_goesOn_253 mv_X11_isOn lk_X11_388 sh_489 rfl (Nat.le_of_ble_eq_true rfl) (Nat.le_of_ble_eq_true rfl) h (fun r σ hq _ => ?_)
    obtain ⟨x3, I3, rfl, rfl, h⟩ := hq
    change J _ _ _ _ _ _ _ [vI x3] _ _
    refine J_if_ne (tgt := 275) dX11_goesOn_256 (by decide) (fun c => ?_) (fun c => ?_)
    · replace h := h.1 c
      refine J_aload_n dX11_goesOn_275 rfl rfl ?_
      refine J_callV (as := []) (mc1 := 0) (ms1 := 0) (mc := 0) (ms := 0) dX11_goesOn_276 mv_X11_drops lk_X11_376 sh_489 rfl (Nat.le_of_ble_eq_true rfl) (Nat.le_of_ble_eq_true rfl) h (fun r σ hq _ => ?_)
      obtain ⟨I4, rfl, rfl, h⟩ := hq
      change J _ _ _ _ _ _ _ [] _ _
      refine J_goto (tgt := 243) dX11_goesOn_279 (by decide) ?_
      exact h
    · replace h := h.2 c
      refine J_aload_n dX11_goesOn_259 rfl rfl ?_
      refine J_iconst dX11_goesOn_260 (ii_c rfl) ?_
      refine J_callV (as := [_]) (mc1 := 0) (ms1 := 0) (mc := 0) (ms := 0) dX11_goesOn_261 mv_X11_isOn lk_X11_388 sh_489 rfl (Nat.le_of_ble_eq_true rfl) (Nat.le_of_ble_eq_true rfl) h (fun r σ hq _ => ?_)
      obtain ⟨x5, I5, rfl, rfl, h⟩ := hq
      change J _ _ _ _ _ _ _ [vI x5] _ _
      refine J_if_ne (tgt := 275) dX11_goesOn_264 (by decide) (fun c => ?_) (fun c => ?_)
      · replace h := h.1 c
        refine J_aload_n dX11_goesOn_275 rfl rfl ?_
        refine J_callV (as := []) (mc1 := 0) (ms1 := 0) (mc := 0) (ms := 0) dX11_goesOn_276 mv_X11_drops lk_X11_376 sh_489 rfl (Nat.le_of_ble_eq_true rfl) (Nat.le_of_ble_eq_true rfl) h (fun r σ hq _ => ?_)
        obtain ⟨I6, rfl, rfl, h⟩ := hq
        change J _ _ _ _ _ _ _ [] _ _
        refine J_goto (tgt := 243) dX11_goesOn_279 (by decide) ?_
        exact h
      · replace h := h.2 c
        refine J_aload_n dX11_goesOn_267 rfl rfl ?_
        refine J_iconst dX11_goesOn_268 (ii_c rfl) ?_
        refine J_callV (as := [_]) (mc1 := 0) (ms1 := 0) (mc := 0) (ms := 0) dX11_goesOn_269 mv_X11_isOn lk_X11_388 sh_489 rfl (Nat.le_of_ble_eq_true rfl) (Nat.le_of_ble_eq_true rfl) h (fun r σ hq _ => ?_)
        obtain ⟨x7, I7, rfl, rfl, h⟩ := hq
        change J _ _ _ _ _ _ _ [vI x7] _ _
        refine J_if_eq (tgt := 282) dX11_goesOn_272 (by decide) (fun c => ?_) (fun c => ?_)
        · replace h := h.1 c
          refine J_aload_n dX11_goesOn_282 rfl rfl ?_
          refine J_getR dX11_goesOn_283 ck_11 fw_X11_124 rfl sh_489 rr_489_48 ?_
          refine J_aload_n dX11_goesOn_286 rfl rfl ?_
          refine J_getI dX11_goesOn_287 ck_11 fw_X11_309 rfl sh_489 ?_
          refine J_iload_n dX11_goesOn_290 rfl rfl ?_
          refine J_iast dX11_goesOn_291 sh_525 h.1.1 h.1.2 ?_
          replace h := h.2 _ rfl
          refine J_aload_n dX11_goesOn_292 rfl rfl ?_
          refine J_dup dX11_goesOn_293 rfl ?_
          refine J_getI dX11_goesOn_294 ck_11 fw_X11_309 rfl sh_489 ?_
          refine J_iconst dX11_goesOn_297 (ii_c rfl) ?_
          refine J_iaddN dX11_goesOn_298 h.1 ?_
          replace h := h.2
          refine J_putI dX11_goesOn_299 ck_11 fw_X11_309 rfl rfl (Or.inl rfl) sh_489 ?_
          replace h := h _ rfl
          refine J_iconst dX11_goesOn_302 (ii_c rfl) ?_
          exact J_retz dX11_goesOn_303 rfl (Or.inr rfl) h
        · replace h := h.2 c
          refine J_aload_n dX11_goesOn_275 rfl rfl ?_
          refine J_callV (as := []) (mc1 := 0) (ms1 := 0) (mc := 0) (ms := 0) dX11_goesOn_276 mv_X11_drops lk_X11_376 sh_489 rfl (Nat.le_of_ble_eq_true rfl) (Nat.le_of_ble_eq_true rfl) h (fun r σ hq _ => ?_)
          obtain ⟨I10, rfl, rfl, h⟩ := hq
          change J _ _ _ _ _ _ _ [] _ _
          refine J_goto (tgt := 243) dX11_goesOn_279 (by decide) ?_
          exact h
set_option maxRecDepth 20000 in
set_option maxHeartbeats 2000000 in
theorem bk_X11_sumsTold_0 {d : Nat} {I : HI} {Q : Option AV → AH → Prop}   (h : (∀ I1 : HI, I1 = up I 489 54 (I 489 49) → J none mX11_sumsTold (d + 1) 0 0 15 [(0, vR 489), (1, vI (I 489 54)), (2, vI 1)] [] (mk I1) Q)) : J none mX11_sumsTold (d + 1) 0 0 0 [(0, vR 489)] [] (mk I) Q := by
  refine J_aload_n dX11_sumsTold_0 rfl rfl ?_
  refine J_getI dX11_sumsTold_1 ck_11 fw_X11_315 rfl sh_489 ?_
  refine J_istore_n dX11_sumsTold_4 rfl (by decide) ?_
  refine J_aload_n dX11_sumsTold_5 rfl rfl ?_
  refine J_aload_n dX11_sumsTold_6 rfl rfl ?_
  refine J_getI dX11_sumsTold_7 ck_11 fw_X11_309 rfl sh_489 ?_
  refine J_putI dX11_sumsTold_10 ck_11 fw_X11_315 rfl rfl (Or.inl rfl) sh_489 ?_
  replace h := h _ rfl
  refine J_iconst dX11_sumsTold_13 (ii_c rfl) ?_
  refine J_istore_n dX11_sumsTold_14 rfl (by decide) ?_
  exact h
set_option maxRecDepth 20000 in
set_option maxHeartbeats 2000000 in
theorem bk_X11_sumsTold_15 {d : Nat} {I : HI} {Q : Option AV → AH → Prop} {a1 : Int} {a2 : Int}  (h : ((a2 = 0 → J none mX11_sumsTold (d + 1) 0 0 53 [(0, vR 489), (1, vI a1), (2, vI a2)] [] (mk I) Q) ∧ (¬ (a2 = 0) → (((I 489 5) ≠ 0 → J none mX11_sumsTold (d + 1) 0 0 53 [(0, vR 489), (1, vI a1), (2, vI a2)] [] (mk I) Q) ∧ ((I 489 5) = 0 → CV mX11_onePart d [vR 489] I (fun I1 => (((I1 489 5) ≠ 0 → J none mX11_sumsTold (d + 1) 0 0 15 [(0, vR 489), (1, vI a1), (2, vI 0)] [] (mk I1) Q) ∧ ((I1 489 5) = 0 → CI mX11_goesOn d [vR 489] I1 (fun x2 I2 => ((x2 = 0 → J none mX11_sumsTold (d + 1) 0 0 15 [(0, vR 489), (1, vI a1), (2, vI 0)] [] (mk I2) Q) ∧ (¬ (x2 = 0) → J none mX11_sumsTold (d + 1) 0 0 15 [(0, vR 489), (1, vI a1), (2, vI 1)] [] (mk I2) Q))))))))))) : J none mX11_sumsTold (d + 1) 0 0 15 [(0, vR 489), (1, vI a1), (2, vI a2)] [] (mk I) Q := by
  refine J_iload_n dX11_sumsTold_15 rfl rfl ?_
  refine J_if_eq (tgt := 53) dX11_sumsTold_16 (by decide) (fun c => ?_) (fun c => ?_)
  · replace h := h.1 c
    exact h
  · replace h := h.2 c
    refine J_aload_n dX11_sumsTold_19 rfl rfl ?_
    refine J_getI dX11_sumsTold_20 ck_11 fw_X11_224 rfl sh_489 ?_
    refine J_if_ne (tgt := 53) dX11_sumsTold_23 (by decide) (fun c => ?_) (fun c => ?_)
    · replace h := h.1 c
      exact h
    · replace h := h.2 c
      refine J_aload_n dX11_sumsTold_26 rfl rfl ?_
      refine J_callV (as := []) (mc1 := 0) (ms1 := 0) (mc := 0) (ms := 0) dX11_sumsTold_27 mv_X11_onePart lk_X11_391 sh_489 rfl (Nat.le_of_ble_eq_true rfl) (Nat.le_of_ble_eq_true rfl) h (fun r σ hq _ => ?_)
      obtain ⟨I1, rfl, rfl, h⟩ := hq
      change J _ _ _ _ _ _ _ [] _ _
      refine J_aload_n dX11_sumsTold_30 rfl rfl ?_
      refine J_getI dX11_sumsTold_31 ck_11 fw_X11_224 rfl sh_489 ?_
      refine J_if_ne (tgt := 48) dX11_sumsTold_34 (by decide) (fun c => ?_) (fun c => ?_)
      · replace h := h.1 c
        refine J_iconst dX11_sumsTold_48 (ii_c rfl) ?_
        refine J_istore_n dX11_sumsTold_49 rfl (by decide) ?_
        refine J_goto (tgt := 15) dX11_sumsTold_50 (by decide) ?_
        exact h
      · replace h := h.2 c
        refine J_aload_n dX11_sumsTold_37 rfl rfl ?_
        refine J_callV (as := []) (mc1 := 0) (ms1 := 0) (mc := 0) (ms := 0) dX11_sumsTold_38 mv_X11_goesOn lk_X11_394 sh_489 rfl (Nat.le_of_ble_eq_true rfl) (Nat.le_of_ble_eq_true rfl) h (fun r σ hq _ => ?_)
        obtain ⟨x2, I2, rfl, rfl, h⟩ := hq
        change J _ _ _ _ _ _ _ [vI x2] _ _
        refine J_if_eq (tgt := 48) dX11_sumsTold_41 (by decide) (fun c => ?_) (fun c => ?_)
        · replace h := h.1 c
          refine J_iconst dX11_sumsTold_48 (ii_c rfl) ?_
          refine J_istore_n dX11_sumsTold_49 rfl (by decide) ?_
          refine J_goto (tgt := 15) dX11_sumsTold_50 (by decide) ?_
          exact h
        · replace h := h.2 c
          refine J_iconst dX11_sumsTold_44 (ii_c rfl) ?_
          refine J_goto (tgt := 49) dX11_sumsTold_45 (by decide) ?_
          refine J_istore_n dX11_sumsTold_49 rfl (by decide) ?_
          refine J_goto (tgt := 15) dX11_sumsTold_50 (by decide) ?_
          exact h
set_option maxRecDepth 20000 in
set_option maxHeartbeats 2000000 in
theorem bk_X11_sumsTold_53 {d : Nat} {I : HI} {Q : Option AV → AH → Prop} {a1 : Int} {a2 : Int}  (h : (((I 489 5) ≠ 0 → (∀ I1 : HI, I1 = up I 489 54 a1 → Q none (mk I1))) ∧ ((I 489 5) = 0 → (((I 489 49) ≤ (I 489 54) → (∀ I2 : HI, I2 = up I 489 54 a1 → Q none (mk I2))) ∧ (¬ ((I 489 49) ≤ (I 489 54)) → CV mX11_drops d [vR 489] I (fun I3 => J none mX11_sumsTold (d + 1) 0 0 53 [(0, vR 489), (1, vI a1), (2, vI a2)] [] (mk I3) Q)))))) : J none mX11_sumsTold (d + 1) 0 0 53 [(0, vR 489), (1, vI a1), (2, vI a2)] [] (mk I) Q := by
  refine J_aload_n dX11_sumsTold_53 rfl rfl ?_
  refine J_getI dX11_sumsTold_54 ck_11 fw_X11_224 rfl sh_489 ?_
  refine J_if_ne (tgt := 78) dX11_sumsTold_57 (by decide) (fun c => ?_) (fun c => ?_)
  · replace h := h.1 c
    refine J_aload_n dX11_sumsTold_78 rfl rfl ?_
    refine J_iload_n dX11_sumsTold_79 rfl rfl ?_
    refine J_putI dX11_sumsTold_80 ck_11 fw_X11_315 rfl rfl (Or.inl rfl) sh_489 ?_
    replace h := h _ rfl
    exact J_retv dX11_sumsTold_83 rfl h
  · replace h := h.2 c
    refine J_aload_n dX11_sumsTold_60 rfl rfl ?_
    refine J_getI dX11_sumsTold_61 ck_11 fw_X11_309 rfl sh_489 ?_
    refine J_aload_n dX11_sumsTold_64 rfl rfl ?_
    refine J_getI dX11_sumsTold_65 ck_11 fw_X11_315 rfl sh_489 ?_
    refine J_ic_le (tgt := 78) dX11_sumsTold_68 (by decide) (fun c => ?_) (fun c => ?_)
    · replace h := h.1 c
      refine J_aload_n dX11_sumsTold_78 rfl rfl ?_
      refine J_iload_n dX11_sumsTold_79 rfl rfl ?_
      refine J_putI dX11_sumsTold_80 ck_11 fw_X11_315 rfl rfl (Or.inl rfl) sh_489 ?_
      replace h := h _ rfl
      exact J_retv dX11_sumsTold_83 rfl h
    · replace h := h.2 c
      refine J_aload_n dX11_sumsTold_71 rfl rfl ?_
      refine J_callV (as := []) (mc1 := 0) (ms1 := 0) (mc := 0) (ms := 0) dX11_sumsTold_72 mv_X11_drops lk_X11_376 sh_489 rfl (Nat.le_of_ble_eq_true rfl) (Nat.le_of_ble_eq_true rfl) h (fun r σ hq _ => ?_)
      obtain ⟨I3, rfl, rfl, h⟩ := hq
      change J _ _ _ _ _ _ _ [] _ _
      refine J_goto (tgt := 53) dX11_sumsTold_75 (by decide) ?_
      exact h
set_option maxRecDepth 20000 in
set_option maxHeartbeats 2000000 in
theorem bk_X11_fact_0 {d : Nat} {I : HI} {Q : Option AV → AH → Prop}   (h : CI mX11_takes d [vR 489, vR 510] I (fun x1 I1 => ((x1 = 0 → CV mX11_sumsTold d [vR 489] I1 (fun I2 => (((I2 489 5) = 0 → CI mX11_look d [vR 489] I2 (fun x3 I3 => ((x3 = 60 → (-2147483648 ≤ (I3 489 2) + 1 ∧ (I3 489 2) + 1 ≤ 2147483647) ∧ (∀ I4 : HI, I4 = up I3 489 2 ((I3 489 2) + 1) → CV mX11_sumsTold d [vR 489] I4 (fun I5 => ((x3 ≠ 60 → ((x3 ≠ 62 → CV mX11_code d [vR 489, vI 13] I5 (fun I6 => Q none (mk I6))) ∧ (x3 = 62 → CV mX11_code d [vR 489, vI 12] I5 (fun I7 => Q none (mk I7))))) ∧ (x3 = 60 → CV mX11_code d [vR 489, vI 11] I5 (fun I8 => Q none (mk I8))))))) ∧ (¬ (x3 = 60) → ((x3 = 62 → (-2147483648 ≤ (I3 489 2) + 1 ∧ (I3 489 2) + 1 ≤ 2147483647) ∧ (∀ I9 : HI, I9 = up I3 489 2 ((I3 489 2) + 1) → CV mX11_sumsTold d [vR 489] I9 (fun I10 => ((x3 ≠ 60 → ((x3 ≠ 62 → CV mX11_code d [vR 489, vI 13] I10 (fun I11 => Q none (mk I11))) ∧ (x3 = 62 → CV mX11_code d [vR 489, vI 12] I10 (fun I12 => Q none (mk I12))))) ∧ (x3 = 60 → CV mX11_code d [vR 489, vI 11] I10 (fun I13 => Q none (mk I13))))))) ∧ (¬ (x3 = 62) → ((x3 = 61 → (-2147483648 ≤ (I3 489 2) + 1 ∧ (I3 489 2) + 1 ≤ 2147483647) ∧ (∀ I14 : HI, I14 = up I3 489 2 ((I3 489 2) + 1) → CV mX11_sumsTold d [vR 489] I14 (fun I15 => ((x3 ≠ 60 → ((x3 ≠ 62 → CV mX11_code d [vR 489, vI 13] I15 (fun I16 => Q none (mk I16))) ∧ (x3 = 62 → CV mX11_code d [vR 489, vI 12] I15 (fun I17 => Q none (mk I17))))) ∧ (x3 = 60 → CV mX11_code d [vR 489, vI 11] I15 (fun I18 => Q none (mk I18))))))) ∧ (¬ (x3 = 61) → CV mX11_fail d [vR 489, vI 1, vI (I3 489 2)] I3 (fun I19 => Q none (mk I19)))))))))) ∧ (¬ ((I2 489 5) = 0) → Q none (mk I2))))) ∧ (¬ (x1 = 0) → CV mX11_code d [vR 489, vI 17] I1 (fun I20 => Q none (mk I20)))))) : J none mX11_fact (d + 1) 0 0 0 [(0, vR 489)] [] (mk I) Q := by
  refine J_aload_n dX11_fact_0 rfl rfl ?_
  refine J_aload_n dX11_fact_1 rfl rfl ?_
  refine J_getR dX11_fact_2 ck_11 fw_X11_75 rfl sh_489 rr_489_28 ?_
  refine J_callV (as := [_]) (mc1 := 0) (ms1 := 0) (mc := 0) (ms := 0) dX11_fact_5 mv_X11_takes lk_X11_251 sh_489 rfl (Nat.le_of_ble_eq_true rfl) (Nat.le_of_ble_eq_true rfl) h (fun r σ hq _ => ?_)
  obtain ⟨x1, I1, rfl, rfl, h⟩ := hq
  change J _ _ _ _ _ _ _ [vI x1] _ _
  refine J_if_eq (tgt := 18) dX11_fact_8 (by decide) (fun c => ?_) (fun c => ?_)
  · replace h := h.1 c
    refine J_aload_n dX11_fact_18 rfl rfl ?_
    refine J_callV (as := []) (mc1 := 0) (ms1 := 0) (mc := 0) (ms := 0) dX11_fact_19 mv_X11_sumsTold lk_X11_397 sh_489 rfl (Nat.le_of_ble_eq_true rfl) (Nat.le_of_ble_eq_true rfl) h (fun r σ hq _ => ?_)
    obtain ⟨I2, rfl, rfl, h⟩ := hq
    change J _ _ _ _ _ _ _ [] _ _
    refine J_aload_n dX11_fact_22 rfl rfl ?_
    refine J_getI dX11_fact_23 ck_11 fw_X11_224 rfl sh_489 ?_
    refine J_if_eq (tgt := 30) dX11_fact_26 (by decide) (fun c => ?_) (fun c => ?_)
    · replace h := h.1 c
      refine J_aload_n dX11_fact_30 rfl rfl ?_
      refine J_callV (as := []) (mc1 := 0) (ms1 := 0) (mc := 0) (ms := 0) dX11_fact_31 mv_X11_look lk_X11_236 sh_489 rfl (Nat.le_of_ble_eq_true rfl) (Nat.le_of_ble_eq_true rfl) h (fun r σ hq _ => ?_)
      obtain ⟨x3, I3, rfl, rfl, h⟩ := hq
      change J _ _ _ _ _ _ _ [vI x3] _ _
      refine J_istore_n dX11_fact_34 rfl (by decide) ?_
      refine J_iload_n dX11_fact_35 rfl rfl ?_
      refine J_bipush dX11_fact_36 (ii_c rfl) (by decide) ?_
      refine J_ic_eq (tgt := 63) dX11_fact_38 (by decide) (fun c => ?_) (fun c => ?_)
      · replace h := h.1 c
        refine J_aload_n dX11_fact_63 rfl rfl ?_
        refine J_dup dX11_fact_64 rfl ?_
        refine J_getI dX11_fact_65 ck_11 fw_X11_230 rfl sh_489 ?_
        refine J_iconst dX11_fact_68 (ii_c rfl) ?_
        refine J_iaddN dX11_fact_69 h.1 ?_
        replace h := h.2
        refine J_putI dX11_fact_70 ck_11 fw_X11_230 rfl rfl (Or.inl rfl) sh_489 ?_
        replace h := h _ rfl
        refine J_aload_n dX11_fact_73 rfl rfl ?_
        refine J_callV (as := []) (mc1 := 0) (ms1 := 0) (mc := 0) (ms := 0) dX11_fact_74 mv_X11_sumsTold lk_X11_397 sh_489 rfl (Nat.le_of_ble_eq_true rfl) (Nat.le_of_ble_eq_true rfl) h (fun r σ hq _ => ?_)
        obtain ⟨I5, rfl, rfl, h⟩ := hq
        change J _ _ _ _ _ _ _ [] _ _
        refine J_aload_n dX11_fact_77 rfl rfl ?_
        refine J_iload_n dX11_fact_78 rfl rfl ?_
        refine J_bipush dX11_fact_79 (ii_c rfl) (by decide) ?_
        refine J_ic_ne (tgt := 89) dX11_fact_81 (by decide) (fun c => ?_) (fun c => ?_)
        · replace h := h.1 c
          refine J_iload_n dX11_fact_89 rfl rfl ?_
          refine J_bipush dX11_fact_90 (ii_c rfl) (by decide) ?_
          refine J_ic_ne (tgt := 100) dX11_fact_92 (by decide) (fun c => ?_) (fun c => ?_)
          · replace h := h.1 c
            refine J_bipush dX11_fact_100 (ii_c rfl) (by decide) ?_
            refine J_callV (as := [_]) (mc1 := 0) (ms1 := 0) (mc := 0) (ms := 0) dX11_fact_102 mv_X11_code lk_X11_370 sh_489 rfl (Nat.le_of_ble_eq_true rfl) (Nat.le_of_ble_eq_true rfl) h (fun r σ hq _ => ?_)
            obtain ⟨I6, rfl, rfl, h⟩ := hq
            change J _ _ _ _ _ _ _ [] _ _
            exact J_retv dX11_fact_105 rfl h
          · replace h := h.2 c
            refine J_bipush dX11_fact_95 (ii_c rfl) (by decide) ?_
            refine J_goto (tgt := 102) dX11_fact_97 (by decide) ?_
            refine J_callV (as := [_]) (mc1 := 0) (ms1 := 0) (mc := 0) (ms := 0) dX11_fact_102 mv_X11_code lk_X11_370 sh_489 rfl (Nat.le_of_ble_eq_true rfl) (Nat.le_of_ble_eq_true rfl) h (fun r σ hq _ => ?_)
            obtain ⟨I7, rfl, rfl, h⟩ := hq
            change J _ _ _ _ _ _ _ [] _ _
            exact J_retv dX11_fact_105 rfl h
        · replace h := h.2 c
          refine J_bipush dX11_fact_84 (ii_c rfl) (by decide) ?_
          refine J_goto (tgt := 102) dX11_fact_86 (by decide) ?_
          refine J_callV (as := [_]) (mc1 := 0) (ms1 := 0) (mc := 0) (ms := 0) dX11_fact_102 mv_X11_code lk_X11_370 sh_489 rfl (Nat.le_of_ble_eq_true rfl) (Nat.le_of_ble_eq_true rfl) h (fun r σ hq _ => ?_)
          obtain ⟨I8, rfl, rfl, h⟩ := hq
          change J _ _ _ _ _ _ _ [] _ _
          exact J_retv dX11_fact_105 rfl h
      · replace h := h.2 c
        refine J_iload_n dX11_fact_41 rfl rfl ?_
        refine J_bipush dX11_fact_42 (ii_c rfl) (by decide) ?_
        refine J_ic_eq (tgt := 63) dX11_fact_44 (by decide) (fun c => ?_) (fun c => ?_)
        · replace h := h.1 c
          refine J_aload_n dX11_fact_63 rfl rfl ?_
          refine J_dup dX11_fact_64 rfl ?_
          refine J_getI dX11_fact_65 ck_11 fw_X11_230 rfl sh_489 ?_
          refine J_iconst dX11_fact_68 (ii_c rfl) ?_
          refine J_iaddN dX11_fact_69 h.1 ?_
          replace h := h.2
          refine J_putI dX11_fact_70 ck_11 fw_X11_230 rfl rfl (Or.inl rfl) sh_489 ?_
          replace h := h _ rfl
          refine J_aload_n dX11_fact_73 rfl rfl ?_
          refine J_callV (as := []) (mc1 := 0) (ms1 := 0) (mc := 0) (ms := 0) dX11_fact_74 mv_X11_sumsTold lk_X11_397 sh_489 rfl (Nat.le_of_ble_eq_true rfl) (Nat.le_of_ble_eq_true rfl) h (fun r σ hq _ => ?_)
          obtain ⟨I10, rfl, rfl, h⟩ := hq
          change J _ _ _ _ _ _ _ [] _ _
          refine J_aload_n dX11_fact_77 rfl rfl ?_
          refine J_iload_n dX11_fact_78 rfl rfl ?_
          refine J_bipush dX11_fact_79 (ii_c rfl) (by decide) ?_
          refine J_ic_ne (tgt := 89) dX11_fact_81 (by decide) (fun c => ?_) (fun c => ?_)
          · replace h := h.1 c
            refine J_iload_n dX11_fact_89 rfl rfl ?_
            refine J_bipush dX11_fact_90 (ii_c rfl) (by decide) ?_
            refine J_ic_ne (tgt := 100) dX11_fact_92 (by decide) (fun c => ?_) (fun c => ?_)
            · replace h := h.1 c
              refine J_bipush dX11_fact_100 (ii_c rfl) (by decide) ?_
              refine J_callV (as := [_]) (mc1 := 0) (ms1 := 0) (mc := 0) (ms := 0) dX11_fact_102 mv_X11_code lk_X11_370 sh_489 rfl (Nat.le_of_ble_eq_true rfl) (Nat.le_of_ble_eq_true rfl) h (fun r σ hq _ => ?_)
              obtain ⟨I11, rfl, rfl, h⟩ := hq
              change J _ _ _ _ _ _ _ [] _ _
              exact J_retv dX11_fact_105 rfl h
            · replace h := h.2 c
              refine J_bipush dX11_fact_95 (ii_c rfl) (by decide) ?_
              refine J_goto (tgt := 102) dX11_fact_97 (by decide) ?_
              refine J_callV (as := [_]) (mc1 := 0) (ms1 := 0) (mc := 0) (ms := 0) dX11_fact_102 mv_X11_code lk_X11_370 sh_489 rfl (Nat.le_of_ble_eq_true rfl) (Nat.le_of_ble_eq_true rfl) h (fun r σ hq _ => ?_)
              obtain ⟨I12, rfl, rfl, h⟩ := hq
              change J _ _ _ _ _ _ _ [] _ _
              exact J_retv dX11_fact_105 rfl h
          · replace h := h.2 c
            refine J_bipush dX11_fact_84 (ii_c rfl) (by decide) ?_
            refine J_goto (tgt := 102) dX11_fact_86 (by decide) ?_
            refine J_callV (as := [_]) (mc1 := 0) (ms1 := 0) (mc := 0) (ms := 0) dX11_fact_102 mv_X11_code lk_X11_370 sh_489 rfl (Nat.le_of_ble_eq_true rfl) (Nat.le_of_ble_eq_true rfl) h (fun r σ hq _ => ?_)
            obtain ⟨I13, rfl, rfl, h⟩ := hq
            change J _ _ _ _ _ _ _ [] _ _
            exact J_retv dX11_fact_105 rfl h
        · replace h := h.2 c
          refine J_iload_n dX11_fact_47 rfl rfl ?_
          refine J_bipush dX11_fact_48 (ii_c rfl) (by decide) ?_
          refine J_ic_eq (tgt := 63) dX11_fact_50 (by decide) (fun c => ?_) (fun c => ?_)
          · replace h := h.1 c
            refine J_aload_n dX11_fact_63 rfl rfl ?_
            refine J_dup dX11_fact_64 rfl ?_
            refine J_getI dX11_fact_65 ck_11 fw_X11_230 rfl sh_489 ?_
            refine J_iconst dX11_fact_68 (ii_c rfl) ?_
            refine J_iaddN dX11_fact_69 h.1 ?_
            replace h := h.2
            refine J_putI dX11_fact_70 ck_11 fw_X11_230 rfl rfl (Or.inl rfl) sh_489 ?_
            replace h := h _ rfl
            refine J_aload_n dX11_fact_73 rfl rfl ?_
            refine J_callV (as := []) (mc1 := 0) (ms1 := 0) (mc := 0) (ms := 0) dX11_fact_74 mv_X11_sumsTold lk_X11_397 sh_489 rfl (Nat.le_of_ble_eq_true rfl) (Nat.le_of_ble_eq_true rfl) h (fun r σ hq _ => ?_)
            obtain ⟨I15, rfl, rfl, h⟩ := hq
            change J _ _ _ _ _ _ _ [] _ _
            refine J_aload_n dX11_fact_77 rfl rfl ?_
            refine J_iload_n dX11_fact_78 rfl rfl ?_
            refine J_bipush dX11_fact_79 (ii_c rfl) (by decide) ?_
            refine J_ic_ne (tgt := 89) dX11_fact_81 (by decide) (fun c => ?_) (fun c => ?_)
            · replace h := h.1 c
              refine J_iload_n dX11_fact_89 rfl rfl ?_
              refine J_bipush dX11_fact_90 (ii_c rfl) (by decide) ?_
              refine J_ic_ne (tgt := 100) dX11_fact_92 (by decide) (fun c => ?_) (fun c => ?_)
              · replace h := h.1 c
                refine J_bipush dX11_fact_100 (ii_c rfl) (by decide) ?_
                refine J_callV (as := [_]) (mc1 := 0) (ms1 := 0) (mc := 0) (ms := 0) dX11_fact_102 mv_X11_code lk_X11_370 sh_489 rfl (Nat.le_of_ble_eq_true rfl) (Nat.le_of_ble_eq_true rfl) h (fun r σ hq _ => ?_)
                obtain ⟨I16, rfl, rfl, h⟩ := hq
                change J _ _ _ _ _ _ _ [] _ _
                exact J_retv dX11_fact_105 rfl h
              · replace h := h.2 c
                refine J_bipush dX11_fact_95 (ii_c rfl) (by decide) ?_
                refine J_goto (tgt := 102) dX11_fact_97 (by decide) ?_
                refine J_callV (as := [_]) (mc1 := 0) (ms1 := 0) (mc := 0) (ms := 0) dX11_fact_102 mv_X11_code lk_X11_370 sh_489 rfl (Nat.le_of_ble_eq_true rfl) (Nat.le_of_ble_eq_true rfl) h (fun r σ hq _ => ?_)
                obtain ⟨I17, rfl, rfl, h⟩ := hq
                change J _ _ _ _ _ _ _ [] _ _
                exact J_retv dX11_fact_105 rfl h
            · replace h := h.2 c
              refine J_bipush dX11_fact_84 (ii_c rfl) (by decide) ?_
              refine J_goto (tgt := 102) dX11_fact_86 (by decide) ?_
              refine J_callV (as := [_]) (mc1 := 0) (ms1 := 0) (mc := 0) (ms := 0) dX11_fact_102 mv_X11_code lk_X11_370 sh_489 rfl (Nat.le_of_ble_eq_true rfl) (Nat.le_of_ble_eq_true rfl) h (fun r σ hq _ => ?_)
              obtain ⟨I18, rfl, rfl, h⟩ := hq
              change J _ _ _ _ _ _ _ [] _ _
              exact J_retv dX11_fact_105 rfl h
          · replace h := h.2 c
            refine J_aload_n dX11_fact_53 rfl rfl ?_
            refine J_iconst dX11_fact_54 (ii_c rfl) ?_
            refine J_aload_n dX11_fact_55 rfl rfl ?_
            refine J_getI dX11_fact_56 ck_11 fw_X11_230 rfl sh_489 ?_
            refine J_callV (as := [_, _]) (mc1 := 0) (ms1 := 0) (mc := 0) (ms := 0) dX11_fact_59 mv_X11_fail lk_X11_254 sh_489 rfl (Nat.le_of_ble_eq_true rfl) (Nat.le_of_ble_eq_true rfl) h (fun r σ hq _ => ?_)
            obtain ⟨I19, rfl, rfl, h⟩ := hq
            change J _ _ _ _ _ _ _ [] _ _
            exact J_retv dX11_fact_62 rfl h
    · replace h := h.2 c
      exact J_retv dX11_fact_29 rfl h
  · replace h := h.2 c
    refine J_aload_n dX11_fact_11 rfl rfl ?_
    refine J_bipush dX11_fact_12 (ii_c rfl) (by decide) ?_
    refine J_callV (as := [_]) (mc1 := 0) (ms1 := 0) (mc := 0) (ms := 0) dX11_fact_14 mv_X11_code lk_X11_370 sh_489 rfl (Nat.le_of_ble_eq_true rfl) (Nat.le_of_ble_eq_true rfl) h (fun r σ hq _ => ?_)
    obtain ⟨I20, rfl, rfl, h⟩ := hq
    change J _ _ _ _ _ _ _ [] _ _
    exact J_retv dX11_fact_17 rfl h
set_option maxRecDepth 20000 in
set_option maxHeartbeats 2000000 in
theorem bk_X11_hasSquare_0 {d : Nat} {I : HI} {Q : Option AV → AH → Prop}   (h : J none mX11_hasSquare (d + 1) 0 0 2 [(0, vR 489), (1, vI 0)] [] (mk I) Q) : J none mX11_hasSquare (d + 1) 0 0 0 [(0, vR 489)] [] (mk I) Q := by
  refine J_iconst dX11_hasSquare_0 (ii_c rfl) ?_
  refine J_istore_n dX11_hasSquare_1 rfl (by decide) ?_
  exact h
set_option maxRecDepth 20000 in
set_option maxHeartbeats 2000000 in
theorem bk_X11_hasSquare_2 {d : Nat} {I : HI} {Q : Option AV → AH → Prop} {a1 : Int}  (h : (((I 489 49) ≤ a1 → Q (some (vI 0)) (mk I)) ∧ (¬ ((I 489 49) ≤ a1) → ((0 : Int) ≤ a1 ∧ (a1 : Int) < 1700) ∧ (((I 525 a1.toNat) ≠ 25 → (-2147483648 ≤ a1 + 1 ∧ a1 + 1 ≤ 2147483647) ∧ J none mX11_hasSquare (d + 1) 0 0 2 [(0, vR 489), (1, vI (a1 + 1))] [] (mk I) Q) ∧ ((I 525 a1.toNat) = 25 → Q (some (vI 1)) (mk I)))))) : J none mX11_hasSquare (d + 1) 0 0 2 [(0, vR 489), (1, vI a1)] [] (mk I) Q := by
  refine J_iload_n dX11_hasSquare_2 rfl rfl ?_
  refine J_aload_n dX11_hasSquare_3 rfl rfl ?_
  refine J_getI dX11_hasSquare_4 ck_11 fw_X11_309 rfl sh_489 ?_
  refine J_ic_ge (tgt := 29) dX11_hasSquare_7 (by decide) (fun c => ?_) (fun c => ?_)
  · replace h := h.1 c
    refine J_iconst dX11_hasSquare_29 (ii_c rfl) ?_
    exact J_retz dX11_hasSquare_30 rfl (Or.inl rfl) h
  · replace h := h.2 c
    refine J_aload_n dX11_hasSquare_10 rfl rfl ?_
    refine J_getR dX11_hasSquare_11 ck_11 fw_X11_124 rfl sh_489 rr_489_48 ?_
    refine J_iload_n dX11_hasSquare_14 rfl rfl ?_
    refine J_iald dX11_hasSquare_15 sh_525 h.1.1 h.1.2 ?_
    replace h := h.2
    refine J_bipush dX11_hasSquare_16 (ii_c rfl) (by decide) ?_
    refine J_ic_ne (tgt := 23) dX11_hasSquare_18 (by decide) (fun c => ?_) (fun c => ?_)
    · replace h := h.1 c
      refine J_iincN dX11_hasSquare_23 rfl (by decide) h.1 ?_
      replace h := h.2
      refine J_goto (tgt := 2) dX11_hasSquare_26 (by decide) ?_
      exact h
    · replace h := h.2 c
      refine J_iconst dX11_hasSquare_21 (ii_c rfl) ?_
      exact J_retz dX11_hasSquare_22 rfl (Or.inr rfl) h
set_option maxRecDepth 20000 in
set_option maxHeartbeats 2000000 in
theorem bk_X11_dropsNots_0 {d : Nat} {I : HI} {Q : Option AV → AH → Prop}   (h : (((I 489 5) ≠ 0 → Q none (mk I)) ∧ ((I 489 5) = 0 → CI mX11_isOn d [vR 489, vI 16] I (fun x1 I1 => ((x1 = 0 → Q none (mk I1)) ∧ (¬ (x1 = 0) → (-2147483648 ≤ (I1 489 50) - 1 ∧ (I1 489 50) - 1 ≤ 2147483647) ∧ (∀ I2 : HI, I2 = up I1 489 50 ((I1 489 50) - 1) → CV mX11_drops d [vR 489] I2 (fun I3 => J none mX11_dropsNots (d + 1) 0 0 0 [(0, vR 489)] [] (mk I3) Q)))))))) : J none mX11_dropsNots (d + 1) 0 0 0 [(0, vR 489)] [] (mk I) Q := by
  refine J_aload_n dX11_dropsNots_0 rfl rfl ?_
  refine J_getI dX11_dropsNots_1 ck_11 fw_X11_224 rfl sh_489 ?_
  refine J_if_ne (tgt := 33) dX11_dropsNots_4 (by decide) (fun c => ?_) (fun c => ?_)
  · replace h := h.1 c
    exact J_retv dX11_dropsNots_33 rfl h
  · replace h := h.2 c
    refine J_aload_n dX11_dropsNots_7 rfl rfl ?_
    refine J_bipush dX11_dropsNots_8 (ii_c rfl) (by decide) ?_
    refine J_callV (as := [_]) (mc1 := 0) (ms1 := 0) (mc := 0) (ms := 0) dX11_dropsNots_10 mv_X11_isOn lk_X11_388 sh_489 rfl (Nat.le_of_ble_eq_true rfl) (Nat.le_of_ble_eq_true rfl) h (fun r σ hq _ => ?_)
    obtain ⟨x1, I1, rfl, rfl, h⟩ := hq
    change J _ _ _ _ _ _ _ [vI x1] _ _
    refine J_if_eq (tgt := 33) dX11_dropsNots_13 (by decide) (fun c => ?_) (fun c => ?_)
    · replace h := h.1 c
      exact J_retv dX11_dropsNots_33 rfl h
    · replace h := h.2 c
      refine J_aload_n dX11_dropsNots_16 rfl rfl ?_
      refine J_dup dX11_dropsNots_17 rfl ?_
      refine J_getI dX11_dropsNots_18 ck_11 fw_X11_312 rfl sh_489 ?_
      refine J_iconst dX11_dropsNots_21 (ii_c rfl) ?_
      refine J_isubN dX11_dropsNots_22 h.1 ?_
      replace h := h.2
      refine J_putI dX11_dropsNots_23 ck_11 fw_X11_312 rfl rfl (Or.inl rfl) sh_489 ?_
      replace h := h _ rfl
      refine J_aload_n dX11_dropsNots_26 rfl rfl ?_
      refine J_callV (as := []) (mc1 := 0) (ms1 := 0) (mc := 0) (ms := 0) dX11_dropsNots_27 mv_X11_drops lk_X11_376 sh_489 rfl (Nat.le_of_ble_eq_true rfl) (Nat.le_of_ble_eq_true rfl) h (fun r σ hq _ => ?_)
      obtain ⟨I3, rfl, rfl, h⟩ := hq
      change J _ _ _ _ _ _ _ [] _ _
      refine J_goto (tgt := 0) dX11_dropsNots_30 (by decide) ?_
      exact h
set_option maxRecDepth 20000 in
set_option maxHeartbeats 2000000 in
theorem bk_X11_test_0 {d : Nat} {I : HI} {Q : Option AV → AH → Prop}   (h : J none mX11_test (d + 1) 0 0 2 [(0, vR 489), (1, vI 1)] [] (mk I) Q) : J none mX11_test (d + 1) 0 0 0 [(0, vR 489)] [] (mk I) Q := by
  refine J_iconst dX11_test_0 (ii_c rfl) ?_
  refine J_istore_n dX11_test_1 rfl (by decide) ?_
  exact h
set_option maxRecDepth 20000 in
set_option maxHeartbeats 2000000 in
theorem bk_X11_test_2 {d : Nat} {I : HI} {Q : Option AV → AH → Prop} {a1 : Int}  (h : ((a1 = 0 → J none mX11_test (d + 1) 0 0 110 [(0, vR 489), (1, vI a1)] [] (mk I) Q) ∧ (¬ (a1 = 0) → (((I 489 5) ≠ 0 → J none mX11_test (d + 1) 0 0 110 [(0, vR 489), (1, vI a1)] [] (mk I) Q) ∧ ((I 489 5) = 0 → CI mX11_look d [vR 489] I (fun x1 I1 => ((x1 ≠ 91 → CI mX11_isHere d [vR 489, vR 509] I1 (fun x2 I2 => ((x2 = 0 → CV mX11_fact d [vR 489] I2 (fun I3 => CV mX11_dropsNots d [vR 489] I3 (fun I4 => (((I4 489 5) ≠ 0 → J none mX11_test (d + 1) 0 0 2 [(0, vR 489), (1, vI 0)] [] (mk I4) Q) ∧ ((I4 489 5) = 0 → CI mX11_goesOnTest d [vR 489] I4 (fun x5 I5 => ((x5 = 0 → J none mX11_test (d + 1) 0 0 2 [(0, vR 489), (1, vI 0)] [] (mk I5) Q) ∧ (¬ (x5 = 0) → J none mX11_test (d + 1) 0 0 2 [(0, vR 489), (1, vI 1)] [] (mk I5) Q)))))))) ∧ (¬ (x2 = 0) → CV mX11_opens d [vR 489, vI 16, vI (I2 489 2)] I2 (fun I6 => CV mX11_asks d [vR 489, vR 509] I6 (fun I7 => J none mX11_test (d + 1) 0 0 2 [(0, vR 489), (1, vI a1)] [] (mk I7) Q)))))) ∧ (x1 = 91 → CV mX11_opens d [vR 489, vI 25, vI (I1 489 2)] I1 (fun I8 => (-2147483648 ≤ (I8 489 2) + 1 ∧ (I8 489 2) + 1 ≤ 2147483647) ∧ (∀ I9 : HI, I9 = up I8 489 2 ((I8 489 2) + 1) → J none mX11_test (d + 1) 0 0 2 [(0, vR 489), (1, vI a1)] [] (mk I9) Q)))))))))) : J none mX11_test (d + 1) 0 0 2 [(0, vR 489), (1, vI a1)] [] (mk I) Q := by
  refine J_iload_n dX11_test_2 rfl rfl ?_
  refine J_if_eq (tgt := 110) dX11_test_3 (by decide) (fun c => ?_) (fun c => ?_)
  · replace h := h.1 c
    exact h
  · replace h := h.2 c
    refine J_aload_n dX11_test_6 rfl rfl ?_
    refine J_getI dX11_test_7 ck_11 fw_X11_224 rfl sh_489 ?_
    refine J_if_ne (tgt := 110) dX11_test_10 (by decide) (fun c => ?_) (fun c => ?_)
    · replace h := h.1 c
      exact h
    · replace h := h.2 c
      refine J_aload_n dX11_test_13 rfl rfl ?_
      refine J_callV (as := []) (mc1 := 0) (ms1 := 0) (mc := 0) (ms := 0) dX11_test_14 mv_X11_look lk_X11_236 sh_489 rfl (Nat.le_of_ble_eq_true rfl) (Nat.le_of_ble_eq_true rfl) h (fun r σ hq _ => ?_)
      obtain ⟨x1, I1, rfl, rfl, h⟩ := hq
      change J _ _ _ _ _ _ _ [vI x1] _ _
      refine J_istore_n dX11_test_17 rfl (by decide) ?_
      refine J_iload_n dX11_test_18 rfl rfl ?_
      refine J_bipush dX11_test_19 (ii_c rfl) (by decide) ?_
      refine J_ic_ne (tgt := 47) dX11_test_21 (by decide) (fun c => ?_) (fun c => ?_)
      · replace h := h.1 c
        refine J_aload_n dX11_test_47 rfl rfl ?_
        refine J_aload_n dX11_test_48 rfl rfl ?_
        refine J_getR dX11_test_49 ck_11 fw_X11_72 rfl sh_489 rr_489_27 ?_
        refine J_callV (as := [_]) (mc1 := 0) (ms1 := 0) (mc := 0) (ms := 0) dX11_test_52 mv_X11_isHere lk_X11_247 sh_489 rfl (Nat.le_of_ble_eq_true rfl) (Nat.le_of_ble_eq_true rfl) h (fun r σ hq _ => ?_)
        obtain ⟨x2, I2, rfl, rfl, h⟩ := hq
        change J _ _ _ _ _ _ _ [vI x2] _ _
        refine J_if_eq (tgt := 79) dX11_test_55 (by decide) (fun c => ?_) (fun c => ?_)
        · replace h := h.1 c
          refine J_aload_n dX11_test_79 rfl rfl ?_
          refine J_callV (as := []) (mc1 := 0) (ms1 := 0) (mc := 0) (ms := 0) dX11_test_80 mv_X11_fact lk_X11_400 sh_489 rfl (Nat.le_of_ble_eq_true rfl) (Nat.le_of_ble_eq_true rfl) h (fun r σ hq _ => ?_)
          obtain ⟨I3, rfl, rfl, h⟩ := hq
          change J _ _ _ _ _ _ _ [] _ _
          refine J_aload_n dX11_test_83 rfl rfl ?_
          refine J_callV (as := []) (mc1 := 0) (ms1 := 0) (mc := 0) (ms := 0) dX11_test_84 mv_X11_dropsNots lk_X11_403 sh_489 rfl (Nat.le_of_ble_eq_true rfl) (Nat.le_of_ble_eq_true rfl) h (fun r σ hq _ => ?_)
          obtain ⟨I4, rfl, rfl, h⟩ := hq
          change J _ _ _ _ _ _ _ [] _ _
          refine J_aload_n dX11_test_87 rfl rfl ?_
          refine J_getI dX11_test_88 ck_11 fw_X11_224 rfl sh_489 ?_
          refine J_if_ne (tgt := 105) dX11_test_91 (by decide) (fun c => ?_) (fun c => ?_)
          · replace h := h.1 c
            refine J_iconst dX11_test_105 (ii_c rfl) ?_
            refine J_istore_n dX11_test_106 rfl (by decide) ?_
            refine J_goto (tgt := 2) dX11_test_107 (by decide) ?_
            exact J_loc (ls_sub [0, 1] rfl) h
          · replace h := h.2 c
            refine J_aload_n dX11_test_94 rfl rfl ?_
            refine J_callV (as := []) (mc1 := 0) (ms1 := 0) (mc := 0) (ms := 0) dX11_test_95 mv_X11_goesOnTest lk_X11_406 sh_489 rfl (Nat.le_of_ble_eq_true rfl) (Nat.le_of_ble_eq_true rfl) h (fun r σ hq _ => ?_)
            obtain ⟨x5, I5, rfl, rfl, h⟩ := hq
            change J _ _ _ _ _ _ _ [vI x5] _ _
            refine J_if_eq (tgt := 105) dX11_test_98 (by decide) (fun c => ?_) (fun c => ?_)
            · replace h := h.1 c
              refine J_iconst dX11_test_105 (ii_c rfl) ?_
              refine J_istore_n dX11_test_106 rfl (by decide) ?_
              refine J_goto (tgt := 2) dX11_test_107 (by decide) ?_
              exact J_loc (ls_sub [0, 1] rfl) h
            · replace h := h.2 c
              refine J_iconst dX11_test_101 (ii_c rfl) ?_
              refine J_goto (tgt := 106) dX11_test_102 (by decide) ?_
              refine J_istore_n dX11_test_106 rfl (by decide) ?_
              refine J_goto (tgt := 2) dX11_test_107 (by decide) ?_
              exact J_loc (ls_sub [0, 1] rfl) h
        · replace h := h.2 c
          refine J_aload_n dX11_test_58 rfl rfl ?_
          refine J_bipush dX11_test_59 (ii_c rfl) (by decide) ?_
          refine J_aload_n dX11_test_61 rfl rfl ?_
          refine J_getI dX11_test_62 ck_11 fw_X11_230 rfl sh_489 ?_
          refine J_callV (as := [_, _]) (mc1 := 0) (ms1 := 0) (mc := 0) (ms := 0) dX11_test_65 mv_X11_opens lk_X11_379 sh_489 rfl (Nat.le_of_ble_eq_true rfl) (Nat.le_of_ble_eq_true rfl) h (fun r σ hq _ => ?_)
          obtain ⟨I6, rfl, rfl, h⟩ := hq
          change J _ _ _ _ _ _ _ [] _ _
          refine J_aload_n dX11_test_68 rfl rfl ?_
          refine J_aload_n dX11_test_69 rfl rfl ?_
          refine J_getR dX11_test_70 ck_11 fw_X11_72 rfl sh_489 rr_489_27 ?_
          refine J_callV (as := [_]) (mc1 := 0) (ms1 := 0) (mc := 0) (ms := 0) dX11_test_73 mv_X11_asks lk_X11_295 sh_489 rfl (Nat.le_of_ble_eq_true rfl) (Nat.le_of_ble_eq_true rfl) h (fun r σ hq _ => ?_)
          obtain ⟨I7, rfl, rfl, h⟩ := hq
          change J _ _ _ _ _ _ _ [] _ _
          refine J_goto (tgt := 2) dX11_test_76 (by decide) ?_
          exact J_loc (ls_sub [0, 1] rfl) h
      · replace h := h.2 c
        refine J_aload_n dX11_test_24 rfl rfl ?_
        refine J_bipush dX11_test_25 (ii_c rfl) (by decide) ?_
        refine J_aload_n dX11_test_27 rfl rfl ?_
        refine J_getI dX11_test_28 ck_11 fw_X11_230 rfl sh_489 ?_
        refine J_callV (as := [_, _]) (mc1 := 0) (ms1 := 0) (mc := 0) (ms := 0) dX11_test_31 mv_X11_opens lk_X11_379 sh_489 rfl (Nat.le_of_ble_eq_true rfl) (Nat.le_of_ble_eq_true rfl) h (fun r σ hq _ => ?_)
        obtain ⟨I8, rfl, rfl, h⟩ := hq
        change J _ _ _ _ _ _ _ [] _ _
        refine J_aload_n dX11_test_34 rfl rfl ?_
        refine J_dup dX11_test_35 rfl ?_
        refine J_getI dX11_test_36 ck_11 fw_X11_230 rfl sh_489 ?_
        refine J_iconst dX11_test_39 (ii_c rfl) ?_
        refine J_iaddN dX11_test_40 h.1 ?_
        replace h := h.2
        refine J_putI dX11_test_41 ck_11 fw_X11_230 rfl rfl (Or.inl rfl) sh_489 ?_
        replace h := h _ rfl
        refine J_goto (tgt := 2) dX11_test_44 (by decide) ?_
        exact J_loc (ls_sub [0, 1] rfl) h
set_option maxRecDepth 20000 in
set_option maxHeartbeats 2000000 in
theorem bk_X11_test_110 {d : Nat} {I : HI} {Q : Option AV → AH → Prop} {a1 : Int}  (h : (((I 489 5) ≠ 0 → Q none (mk I)) ∧ ((I 489 5) = 0 → (((I 489 49) ≤ 0 → Q none (mk I)) ∧ (¬ ((I 489 49) ≤ 0) → CV mX11_drops d [vR 489] I (fun I1 => J none mX11_test (d + 1) 0 0 110 [(0, vR 489), (1, vI a1)] [] (mk I1) Q)))))) : J none mX11_test (d + 1) 0 0 110 [(0, vR 489), (1, vI a1)] [] (mk I) Q := by
  refine J_aload_n dX11_test_110 rfl rfl ?_
  refine J_getI dX11_test_111 ck_11 fw_X11_224 rfl sh_489 ?_
  refine J_if_ne (tgt := 131) dX11_test_114 (by decide) (fun c => ?_) (fun c => ?_)
  · replace h := h.1 c
    exact J_retv dX11_test_131 rfl h
  · replace h := h.2 c
    refine J_aload_n dX11_test_117 rfl rfl ?_
    refine J_getI dX11_test_118 ck_11 fw_X11_309 rfl sh_489 ?_
    refine J_if_le (tgt := 131) dX11_test_121 (by decide) (fun c => ?_) (fun c => ?_)
    · replace h := h.1 c
      exact J_retv dX11_test_131 rfl h
    · replace h := h.2 c
      refine J_aload_n dX11_test_124 rfl rfl ?_
      refine J_callV (as := []) (mc1 := 0) (ms1 := 0) (mc := 0) (ms := 0) dX11_test_125 mv_X11_drops lk_X11_376 sh_489 rfl (Nat.le_of_ble_eq_true rfl) (Nat.le_of_ble_eq_true rfl) h (fun r σ hq _ => ?_)
      obtain ⟨I1, rfl, rfl, h⟩ := hq
      change J _ _ _ _ _ _ _ [] _ _
      refine J_goto (tgt := 110) dX11_test_128 (by decide) ?_
      exact h
set_option maxRecDepth 20000 in
set_option maxHeartbeats 2000000 in
theorem bk_X11_goesOnTest_0 {d : Nat} {I : HI} {Q : Option AV → AH → Prop}   (h : (((I 489 5) ≠ 0 → CI mX11_takes d [vR 489, vR 508] I (fun x1 I1 => ((x1 = 0 → CI mX11_takes d [vR 489, vR 507] I1 (fun x2 I2 => ((x2 = 0 → (((I2 489 5) ≠ 0 → Q (some (vI 0)) (mk I2)) ∧ ((I2 489 5) = 0 → CI mX11_hasSquare d [vR 489] I2 (fun x3 I3 => ((x3 = 0 → Q (some (vI 0)) (mk I3)) ∧ (¬ (x3 = 0) → CV mX11_fail d [vR 489, vI 1, vI (I3 489 2)] I3 (fun I4 => Q (some (vI 0)) (mk I4)))))))) ∧ (¬ (x2 = 0) → J none mX11_goesOnTest (d + 1) 0 0 137 [(0, vR 489)] [] (mk I2) Q)))) ∧ (¬ (x1 = 0) → J none mX11_goesOnTest (d + 1) 0 0 87 [(0, vR 489)] [] (mk I1) Q)))) ∧ ((I 489 5) = 0 → CI mX11_look d [vR 489] I (fun x5 I5 => ((x5 ≠ 93 → CI mX11_takes d [vR 489, vR 508] I5 (fun x6 I6 => ((x6 = 0 → CI mX11_takes d [vR 489, vR 507] I6 (fun x7 I7 => ((x7 = 0 → (((I7 489 5) ≠ 0 → Q (some (vI 0)) (mk I7)) ∧ ((I7 489 5) = 0 → CI mX11_hasSquare d [vR 489] I7 (fun x8 I8 => ((x8 = 0 → Q (some (vI 0)) (mk I8)) ∧ (¬ (x8 = 0) → CV mX11_fail d [vR 489, vI 1, vI (I8 489 2)] I8 (fun I9 => Q (some (vI 0)) (mk I9)))))))) ∧ (¬ (x7 = 0) → J none mX11_goesOnTest (d + 1) 0 0 137 [(0, vR 489)] [] (mk I7) Q)))) ∧ (¬ (x6 = 0) → J none mX11_goesOnTest (d + 1) 0 0 87 [(0, vR 489)] [] (mk I6) Q)))) ∧ (x5 = 93 → CI mX11_hasSquare d [vR 489] I5 (fun x10 I10 => ((x10 = 0 → CI mX11_takes d [vR 489, vR 508] I10 (fun x11 I11 => ((x11 = 0 → CI mX11_takes d [vR 489, vR 507] I11 (fun x12 I12 => ((x12 = 0 → (((I12 489 5) ≠ 0 → Q (some (vI 0)) (mk I12)) ∧ ((I12 489 5) = 0 → CI mX11_hasSquare d [vR 489] I12 (fun x13 I13 => ((x13 = 0 → Q (some (vI 0)) (mk I13)) ∧ (¬ (x13 = 0) → CV mX11_fail d [vR 489, vI 1, vI (I13 489 2)] I13 (fun I14 => Q (some (vI 0)) (mk I14)))))))) ∧ (¬ (x12 = 0) → J none mX11_goesOnTest (d + 1) 0 0 137 [(0, vR 489)] [] (mk I12) Q)))) ∧ (¬ (x11 = 0) → J none mX11_goesOnTest (d + 1) 0 0 87 [(0, vR 489)] [] (mk I11) Q)))) ∧ (¬ (x10 = 0) → (-2147483648 ≤ (I10 489 2) + 1 ∧ (I10 489 2) + 1 ≤ 2147483647) ∧ (∀ I15 : HI, I15 = up I10 489 2 ((I10 489 2) + 1) → J none mX11_goesOnTest (d + 1) 0 0 33 [(0, vR 489)] [] (mk I15) Q)))))))))) : J none mX11_goesOnTest (d + 1) 0 0 0 [(0, vR 489)] [] (mk I) Q := by
  refine J_aload_n dX11_goesOnTest_0 rfl rfl ?_
  refine J_getI dX11_goesOnTest_1 ck_11 fw_X11_224 rfl sh_489 ?_
  refine J_if_ne (tgt := 76) dX11_goesOnTest_4 (by decide) (fun c => ?_) (fun c => ?_)
  · replace h := h.1 c
    refine J_aload_n dX11_goesOnTest_76 rfl rfl ?_
    refine J_aload_n dX11_goesOnTest_77 rfl rfl ?_
    refine J_getR dX11_goesOnTest_78 ck_11 fw_X11_69 rfl sh_489 rr_489_26 ?_
    refine J_callV (as := [_]) (mc1 := 0) (ms1 := 0) (mc := 0) (ms := 0) dX11_goesOnTest_81 mv_X11_takes lk_X11_251 sh_489 rfl (Nat.le_of_ble_eq_true rfl) (Nat.le_of_ble_eq_true rfl) h (fun r σ hq _ => ?_)
    obtain ⟨x1, I1, rfl, rfl, h⟩ := hq
    change J _ _ _ _ _ _ _ [vI x1] _ _
    refine J_if_eq (tgt := 126) dX11_goesOnTest_84 (by decide) (fun c => ?_) (fun c => ?_)
    · replace h := h.1 c
      refine J_aload_n dX11_goesOnTest_126 rfl rfl ?_
      refine J_aload_n dX11_goesOnTest_127 rfl rfl ?_
      refine J_getR dX11_goesOnTest_128 ck_11 fw_X11_66 rfl sh_489 rr_489_25 ?_
      refine J_callV (as := [_]) (mc1 := 0) (ms1 := 0) (mc := 0) (ms := 0) dX11_goesOnTest_131 mv_X11_takes lk_X11_251 sh_489 rfl (Nat.le_of_ble_eq_true rfl) (Nat.le_of_ble_eq_true rfl) h (fun r σ hq _ => ?_)
      obtain ⟨x2, I2, rfl, rfl, h⟩ := hq
      change J _ _ _ _ _ _ _ [vI x2] _ _
      refine J_if_eq (tgt := 185) dX11_goesOnTest_134 (by decide) (fun c => ?_) (fun c => ?_)
      · replace h := h.1 c
        refine J_aload_n dX11_goesOnTest_185 rfl rfl ?_
        refine J_getI dX11_goesOnTest_186 ck_11 fw_X11_224 rfl sh_489 ?_
        refine J_if_ne (tgt := 208) dX11_goesOnTest_189 (by decide) (fun c => ?_) (fun c => ?_)
        · replace h := h.1 c
          refine J_iconst dX11_goesOnTest_208 (ii_c rfl) ?_
          exact J_retz dX11_goesOnTest_209 rfl (Or.inl rfl) h
        · replace h := h.2 c
          refine J_aload_n dX11_goesOnTest_192 rfl rfl ?_
          refine J_callV (as := []) (mc1 := 0) (ms1 := 0) (mc := 0) (ms := 0) dX11_goesOnTest_193 mv_X11_hasSquare lk_X11_409 sh_489 rfl (Nat.le_of_ble_eq_true rfl) (Nat.le_of_ble_eq_true rfl) h (fun r σ hq _ => ?_)
          obtain ⟨x3, I3, rfl, rfl, h⟩ := hq
          change J _ _ _ _ _ _ _ [vI x3] _ _
          refine J_if_eq (tgt := 208) dX11_goesOnTest_196 (by decide) (fun c => ?_) (fun c => ?_)
          · replace h := h.1 c
            refine J_iconst dX11_goesOnTest_208 (ii_c rfl) ?_
            exact J_retz dX11_goesOnTest_209 rfl (Or.inl rfl) h
          · replace h := h.2 c
            refine J_aload_n dX11_goesOnTest_199 rfl rfl ?_
            refine J_iconst dX11_goesOnTest_200 (ii_c rfl) ?_
            refine J_aload_n dX11_goesOnTest_201 rfl rfl ?_
            refine J_getI dX11_goesOnTest_202 ck_11 fw_X11_230 rfl sh_489 ?_
            refine J_callV (as := [_, _]) (mc1 := 0) (ms1 := 0) (mc := 0) (ms := 0) dX11_goesOnTest_205 mv_X11_fail lk_X11_254 sh_489 rfl (Nat.le_of_ble_eq_true rfl) (Nat.le_of_ble_eq_true rfl) h (fun r σ hq _ => ?_)
            obtain ⟨I4, rfl, rfl, h⟩ := hq
            change J _ _ _ _ _ _ _ [] _ _
            refine J_iconst dX11_goesOnTest_208 (ii_c rfl) ?_
            exact J_retz dX11_goesOnTest_209 rfl (Or.inl rfl) h
      · replace h := h.2 c
        exact h
    · replace h := h.2 c
      exact h
  · replace h := h.2 c
    refine J_aload_n dX11_goesOnTest_7 rfl rfl ?_
    refine J_callV (as := []) (mc1 := 0) (ms1 := 0) (mc := 0) (ms := 0) dX11_goesOnTest_8 mv_X11_look lk_X11_236 sh_489 rfl (Nat.le_of_ble_eq_true rfl) (Nat.le_of_ble_eq_true rfl) h (fun r σ hq _ => ?_)
    obtain ⟨x5, I5, rfl, rfl, h⟩ := hq
    change J _ _ _ _ _ _ _ [vI x5] _ _
    refine J_bipush dX11_goesOnTest_11 (ii_c rfl) (by decide) ?_
    refine J_ic_ne (tgt := 76) dX11_goesOnTest_13 (by decide) (fun c => ?_) (fun c => ?_)
    · replace h := h.1 c
      refine J_aload_n dX11_goesOnTest_76 rfl rfl ?_
      refine J_aload_n dX11_goesOnTest_77 rfl rfl ?_
      refine J_getR dX11_goesOnTest_78 ck_11 fw_X11_69 rfl sh_489 rr_489_26 ?_
      refine J_callV (as := [_]) (mc1 := 0) (ms1 := 0) (mc := 0) (ms := 0) dX11_goesOnTest_81 mv_X11_takes lk_X11_251 sh_489 rfl (Nat.le_of_ble_eq_true rfl) (Nat.le_of_ble_eq_true rfl) h (fun r σ hq _ => ?_)
      obtain ⟨x6, I6, rfl, rfl, h⟩ := hq
      change J _ _ _ _ _ _ _ [vI x6] _ _
      refine J_if_eq (tgt := 126) dX11_goesOnTest_84 (by decide) (fun c => ?_) (fun c => ?_)
      · replace h := h.1 c
        refine J_aload_n dX11_goesOnTest_126 rfl rfl ?_
        refine J_aload_n dX11_goesOnTest_127 rfl rfl ?_
        refine J_getR dX11_goesOnTest_128 ck_11 fw_X11_66 rfl sh_489 rr_489_25 ?_
        refine J_callV (as := [_]) (mc1 := 0) (ms1 := 0) (mc := 0) (ms := 0) dX11_goesOnTest_131 mv_X11_takes lk_X11_251 sh_489 rfl (Nat.le_of_ble_eq_true rfl) (Nat.le_of_ble_eq_true rfl) h (fun r σ hq _ => ?_)
        obtain ⟨x7, I7, rfl, rfl, h⟩ := hq
        change J _ _ _ _ _ _ _ [vI x7] _ _
        refine J_if_eq (tgt := 185) dX11_goesOnTest_134 (by decide) (fun c => ?_) (fun c => ?_)
        · replace h := h.1 c
          refine J_aload_n dX11_goesOnTest_185 rfl rfl ?_
          refine J_getI dX11_goesOnTest_186 ck_11 fw_X11_224 rfl sh_489 ?_
          refine J_if_ne (tgt := 208) dX11_goesOnTest_189 (by decide) (fun c => ?_) (fun c => ?_)
          · replace h := h.1 c
            refine J_iconst dX11_goesOnTest_208 (ii_c rfl) ?_
            exact J_retz dX11_goesOnTest_209 rfl (Or.inl rfl) h
          · replace h := h.2 c
            refine J_aload_n dX11_goesOnTest_192 rfl rfl ?_
            refine J_callV (as := []) (mc1 := 0) (ms1 := 0) (mc := 0) (ms := 0) dX11_goesOnTest_193 mv_X11_hasSquare lk_X11_409 sh_489 rfl (Nat.le_of_ble_eq_true rfl) (Nat.le_of_ble_eq_true rfl) h (fun r σ hq _ => ?_)
            obtain ⟨x8, I8, rfl, rfl, h⟩ := hq
            change J _ _ _ _ _ _ _ [vI x8] _ _
            refine J_if_eq (tgt := 208) dX11_goesOnTest_196 (by decide) (fun c => ?_) (fun c => ?_)
            · replace h := h.1 c
              refine J_iconst dX11_goesOnTest_208 (ii_c rfl) ?_
              exact J_retz dX11_goesOnTest_209 rfl (Or.inl rfl) h
            · replace h := h.2 c
              refine J_aload_n dX11_goesOnTest_199 rfl rfl ?_
              refine J_iconst dX11_goesOnTest_200 (ii_c rfl) ?_
              refine J_aload_n dX11_goesOnTest_201 rfl rfl ?_
              refine J_getI dX11_goesOnTest_202 ck_11 fw_X11_230 rfl sh_489 ?_
              refine J_callV (as := [_, _]) (mc1 := 0) (ms1 := 0) (mc := 0) (ms := 0) dX11_goesOnTest_205 mv_X11_fail lk_X11_254 sh_489 rfl (Nat.le_of_ble_eq_true rfl) (Nat.le_of_ble_eq_true rfl) h (fun r σ hq _ => ?_)
              obtain ⟨I9, rfl, rfl, h⟩ := hq
              change J _ _ _ _ _ _ _ [] _ _
              refine J_iconst dX11_goesOnTest_208 (ii_c rfl) ?_
              exact J_retz dX11_goesOnTest_209 rfl (Or.inl rfl) h
        · replace h := h.2 c
          exact h
      · replace h := h.2 c
        exact h
    · replace h := h.2 c
      refine J_aload_n dX11_goesOnTest_16 rfl rfl ?_
      refine J_callV (as := []) (mc1 := 0) (ms1 := 0) (mc := 0) (ms := 0) dX11_goesOnTest_17 mv_X11_hasSquare lk_X11_409 sh_489 rfl (Nat.le_of_ble_eq_true rfl) (Nat.le_of_ble_eq_true rfl) h (fun r σ hq _ => ?_)
      obtain ⟨x10, I10, rfl, rfl, h⟩ := hq
      change J _ _ _ _ _ _ _ [vI x10] _ _
      refine J_if_eq (tgt := 76) dX11_goesOnTest_20 (by decide) (fun c => ?_) (fun c => ?_)
      · replace h := h.1 c
        refine J_aload_n dX11_goesOnTest_76 rfl rfl ?_
        refine J_aload_n dX11_goesOnTest_77 rfl rfl ?_
        refine J_getR dX11_goesOnTest_78 ck_11 fw_X11_69 rfl sh_489 rr_489_26 ?_
        refine J_callV (as := [_]) (mc1 := 0) (ms1 := 0) (mc := 0) (ms := 0) dX11_goesOnTest_81 mv_X11_takes lk_X11_251 sh_489 rfl (Nat.le_of_ble_eq_true rfl) (Nat.le_of_ble_eq_true rfl) h (fun r σ hq _ => ?_)
        obtain ⟨x11, I11, rfl, rfl, h⟩ := hq
        change J _ _ _ _ _ _ _ [vI x11] _ _
        refine J_if_eq (tgt := 126) dX11_goesOnTest_84 (by decide) (fun c => ?_) (fun c => ?_)
        · replace h := h.1 c
          refine J_aload_n dX11_goesOnTest_126 rfl rfl ?_
          refine J_aload_n dX11_goesOnTest_127 rfl rfl ?_
          refine J_getR dX11_goesOnTest_128 ck_11 fw_X11_66 rfl sh_489 rr_489_25 ?_
          refine J_callV (as := [_]) (mc1 := 0) (ms1 := 0) (mc := 0) (ms := 0) dX11_goesOnTest_131 mv_X11_takes lk_X11_251 sh_489 rfl (Nat.le_of_ble_eq_true rfl) (Nat.le_of_ble_eq_true rfl) h (fun r σ hq _ => ?_)
          obtain ⟨x12, I12, rfl, rfl, h⟩ := hq
          change J _ _ _ _ _ _ _ [vI x12] _ _
          refine J_if_eq (tgt := 185) dX11_goesOnTest_134 (by decide) (fun c => ?_) (fun c => ?_)
          · replace h := h.1 c
            refine J_aload_n dX11_goesOnTest_185 rfl rfl ?_
            refine J_getI dX11_goesOnTest_186 ck_11 fw_X11_224 rfl sh_489 ?_
            refine J_if_ne (tgt := 208) dX11_goesOnTest_189 (by decide) (fun c => ?_) (fun c => ?_)
            · replace h := h.1 c
              refine J_iconst dX11_goesOnTest_208 (ii_c rfl) ?_
              exact J_retz dX11_goesOnTest_209 rfl (Or.inl rfl) h
            · replace h := h.2 c
              refine J_aload_n dX11_goesOnTest_192 rfl rfl ?_
              refine J_callV (as := []) (mc1 := 0) (ms1 := 0) (mc := 0) (ms := 0) dX11_goesOnTest_193 mv_X11_hasSquare lk_X11_409 sh_489 rfl (Nat.le_of_ble_eq_true rfl) (Nat.le_of_ble_eq_true rfl) h (fun r σ hq _ => ?_)
              obtain ⟨x13, I13, rfl, rfl, h⟩ := hq
              change J _ _ _ _ _ _ _ [vI x13] _ _
              refine J_if_eq (tgt := 208) dX11_goesOnTest_196 (by decide) (fun c => ?_) (fun c => ?_)
              · replace h := h.1 c
                refine J_iconst dX11_goesOnTest_208 (ii_c rfl) ?_
                exact J_retz dX11_goesOnTest_209 rfl (Or.inl rfl) h
              · replace h := h.2 c
                refine J_aload_n dX11_goesOnTest_199 rfl rfl ?_
                refine J_iconst dX11_goesOnTest_200 (ii_c rfl) ?_
                refine J_aload_n dX11_goesOnTest_201 rfl rfl ?_
                refine J_getI dX11_goesOnTest_202 ck_11 fw_X11_230 rfl sh_489 ?_
                refine J_callV (as := [_, _]) (mc1 := 0) (ms1 := 0) (mc := 0) (ms := 0) dX11_goesOnTest_205 mv_X11_fail lk_X11_254 sh_489 rfl (Nat.le_of_ble_eq_true rfl) (Nat.le_of_ble_eq_true rfl) h (fun r σ hq _ => ?_)
                obtain ⟨I14, rfl, rfl, h⟩ := hq
                change J _ _ _ _ _ _ _ [] _ _
                refine J_iconst dX11_goesOnTest_208 (ii_c rfl) ?_
                exact J_retz dX11_goesOnTest_209 rfl (Or.inl rfl) h
          · replace h := h.2 c
            exact h
        · replace h := h.2 c
          exact h
      · replace h := h.2 c
        refine J_aload_n dX11_goesOnTest_23 rfl rfl ?_
        refine J_dup dX11_goesOnTest_24 rfl ?_
        refine J_getI dX11_goesOnTest_25 ck_11 fw_X11_230 rfl sh_489 ?_
        refine J_iconst dX11_goesOnTest_28 (ii_c rfl) ?_
        refine J_iaddN dX11_goesOnTest_29 h.1 ?_
        replace h := h.2
        refine J_putI dX11_goesOnTest_30 ck_11 fw_X11_230 rfl rfl (Or.inl rfl) sh_489 ?_
        replace h := h _ rfl
        exact h
set_option maxRecDepth 20000 in
set_option maxHeartbeats 2000000 in
theorem bk_X11_goesOnTest_33 {d : Nat} {I : HI} {Q : Option AV → AH → Prop}   (h : CI mX11_isOn d [vR 489, vI 25] I (fun x1 I1 => ((x1 ≠ 0 → (-2147483648 ≤ (I1 489 49) - 1 ∧ (I1 489 49) - 1 ≤ 2147483647) ∧ (∀ I2 : HI, I2 = up I1 489 49 ((I1 489 49) - 1) → (-2147483648 ≤ (I2 489 50) - 1 ∧ (I2 489 50) - 1 ≤ 2147483647) ∧ (∀ I3 : HI, I3 = up I2 489 50 ((I2 489 50) - 1) → CV mX11_dropsNots d [vR 489] I3 (fun I4 => J none mX11_goesOnTest (d + 1) 0 0 0 [(0, vR 489)] [] (mk I4) Q)))) ∧ (x1 = 0 → CV mX11_drops d [vR 489] I1 (fun I5 => J none mX11_goesOnTest (d + 1) 0 0 33 [(0, vR 489)] [] (mk I5) Q))))) : J none mX11_goesOnTest (d + 1) 0 0 33 [(0, vR 489)] [] (mk I) Q := by
  refine J_aload_n dX11_goesOnTest_33 rfl rfl ?_
  refine J_bipush dX11_goesOnTest_34 (ii_c rfl) (by decide) ?_
  refine J_callV (as := [_]) (mc1 := 0) (ms1 := 0) (mc := 0) (ms := 0) dX11_goesOnTest_36 mv_X11_isOn lk_X11_388 sh_489 rfl (Nat.le_of_ble_eq_true rfl) (Nat.le_of_ble_eq_true rfl) h (fun r σ hq _ => ?_)
  obtain ⟨x1, I1, rfl, rfl, h⟩ := hq
  change J _ _ _ _ _ _ _ [vI x1] _ _
  refine J_if_ne (tgt := 49) dX11_goesOnTest_39 (by decide) (fun c => ?_) (fun c => ?_)
  · replace h := h.1 c
    refine J_aload_n dX11_goesOnTest_49 rfl rfl ?_
    refine J_dup dX11_goesOnTest_50 rfl ?_
    refine J_getI dX11_goesOnTest_51 ck_11 fw_X11_309 rfl sh_489 ?_
    refine J_iconst dX11_goesOnTest_54 (ii_c rfl) ?_
    refine J_isubN dX11_goesOnTest_55 h.1 ?_
    replace h := h.2
    refine J_putI dX11_goesOnTest_56 ck_11 fw_X11_309 rfl rfl (Or.inl rfl) sh_489 ?_
    replace h := h _ rfl
    refine J_aload_n dX11_goesOnTest_59 rfl rfl ?_
    refine J_dup dX11_goesOnTest_60 rfl ?_
    refine J_getI dX11_goesOnTest_61 ck_11 fw_X11_312 rfl sh_489 ?_
    refine J_iconst dX11_goesOnTest_64 (ii_c rfl) ?_
    refine J_isubN dX11_goesOnTest_65 h.1 ?_
    replace h := h.2
    refine J_putI dX11_goesOnTest_66 ck_11 fw_X11_312 rfl rfl (Or.inl rfl) sh_489 ?_
    replace h := h _ rfl
    refine J_aload_n dX11_goesOnTest_69 rfl rfl ?_
    refine J_callV (as := []) (mc1 := 0) (ms1 := 0) (mc := 0) (ms := 0) dX11_goesOnTest_70 mv_X11_dropsNots lk_X11_403 sh_489 rfl (Nat.le_of_ble_eq_true rfl) (Nat.le_of_ble_eq_true rfl) h (fun r σ hq _ => ?_)
    obtain ⟨I4, rfl, rfl, h⟩ := hq
    change J _ _ _ _ _ _ _ [] _ _
    refine J_goto (tgt := 0) dX11_goesOnTest_73 (by decide) ?_
    exact h
  · replace h := h.2 c
    refine J_aload_n dX11_goesOnTest_42 rfl rfl ?_
    refine J_callV (as := []) (mc1 := 0) (ms1 := 0) (mc := 0) (ms := 0) dX11_goesOnTest_43 mv_X11_drops lk_X11_376 sh_489 rfl (Nat.le_of_ble_eq_true rfl) (Nat.le_of_ble_eq_true rfl) h (fun r σ hq _ => ?_)
    obtain ⟨I5, rfl, rfl, h⟩ := hq
    change J _ _ _ _ _ _ _ [] _ _
    refine J_goto (tgt := 33) dX11_goesOnTest_46 (by decide) ?_
    exact h
set_option maxRecDepth 20000 in
set_option maxHeartbeats 2000000 in
theorem bk_X11_goesOnTest_87 {d : Nat} {I : HI} {Q : Option AV → AH → Prop}   (h : CI mX11_isOn d [vR 489, vI 14] I (fun x1 I1 => ((x1 = 0 → ((0 : Int) ≤ (I1 489 49) ∧ (I1 489 49 : Int) < 1700) ∧ (∀ I2 : HI, I2 = up I1 525 (I1 489 49).toNat 14 → (-2147483648 ≤ (I2 489 49) + 1 ∧ (I2 489 49) + 1 ≤ 2147483647) ∧ (∀ I3 : HI, I3 = up I2 489 49 ((I2 489 49) + 1) → Q (some (vI 1)) (mk I3)))) ∧ (¬ (x1 = 0) → CV mX11_drops d [vR 489] I1 (fun I4 => J none mX11_goesOnTest (d + 1) 0 0 87 [(0, vR 489)] [] (mk I4) Q))))) : J none mX11_goesOnTest (d + 1) 0 0 87 [(0, vR 489)] [] (mk I) Q := by
  refine J_aload_n dX11_goesOnTest_87 rfl rfl ?_
  refine J_bipush dX11_goesOnTest_88 (ii_c rfl) (by decide) ?_
  refine J_callV (as := [_]) (mc1 := 0) (ms1 := 0) (mc := 0) (ms := 0) dX11_goesOnTest_90 mv_X11_isOn lk_X11_388 sh_489 rfl (Nat.le_of_ble_eq_true rfl) (Nat.le_of_ble_eq_true rfl) h (fun r σ hq _ => ?_)
  obtain ⟨x1, I1, rfl, rfl, h⟩ := hq
  change J _ _ _ _ _ _ _ [vI x1] _ _
  refine J_if_eq (tgt := 103) dX11_goesOnTest_93 (by decide) (fun c => ?_) (fun c => ?_)
  · replace h := h.1 c
    refine J_aload_n dX11_goesOnTest_103 rfl rfl ?_
    refine J_getR dX11_goesOnTest_104 ck_11 fw_X11_124 rfl sh_489 rr_489_48 ?_
    refine J_aload_n dX11_goesOnTest_107 rfl rfl ?_
    refine J_getI dX11_goesOnTest_108 ck_11 fw_X11_309 rfl sh_489 ?_
    refine J_bipush dX11_goesOnTest_111 (ii_c rfl) (by decide) ?_
    refine J_iast dX11_goesOnTest_113 sh_525 h.1.1 h.1.2 ?_
    replace h := h.2 _ rfl
    refine J_aload_n dX11_goesOnTest_114 rfl rfl ?_
    refine J_dup dX11_goesOnTest_115 rfl ?_
    refine J_getI dX11_goesOnTest_116 ck_11 fw_X11_309 rfl sh_489 ?_
    refine J_iconst dX11_goesOnTest_119 (ii_c rfl) ?_
    refine J_iaddN dX11_goesOnTest_120 h.1 ?_
    replace h := h.2
    refine J_putI dX11_goesOnTest_121 ck_11 fw_X11_309 rfl rfl (Or.inl rfl) sh_489 ?_
    replace h := h _ rfl
    refine J_iconst dX11_goesOnTest_124 (ii_c rfl) ?_
    exact J_retz dX11_goesOnTest_125 rfl (Or.inr rfl) h
  · replace h := h.2 c
    refine J_aload_n dX11_goesOnTest_96 rfl rfl ?_
    refine J_callV (as := []) (mc1 := 0) (ms1 := 0) (mc := 0) (ms := 0) dX11_goesOnTest_97 mv_X11_drops lk_X11_376 sh_489 rfl (Nat.le_of_ble_eq_true rfl) (Nat.le_of_ble_eq_true rfl) h (fun r σ hq _ => ?_)
    obtain ⟨I4, rfl, rfl, h⟩ := hq
    change J _ _ _ _ _ _ _ [] _ _
    refine J_goto (tgt := 87) dX11_goesOnTest_100 (by decide) ?_
    exact h
set_option maxRecDepth 20000 in
set_option maxHeartbeats 2000000 in
theorem bk_X11_goesOnTest_137 {d : Nat} {I : HI} {Q : Option AV → AH → Prop}   (h : CI mX11_isOn d [vR 489, vI 14] I (fun x1 I1 => ((x1 ≠ 0 → CV mX11_drops d [vR 489] I1 (fun I2 => J none mX11_goesOnTest (d + 1) 0 0 137 [(0, vR 489)] [] (mk I2) Q)) ∧ (x1 = 0 → CI mX11_isOn d [vR 489, vI 15] I1 (fun x3 I3 => ((x3 = 0 → ((0 : Int) ≤ (I3 489 49) ∧ (I3 489 49 : Int) < 1700) ∧ (∀ I4 : HI, I4 = up I3 525 (I3 489 49).toNat 15 → (-2147483648 ≤ (I4 489 49) + 1 ∧ (I4 489 49) + 1 ≤ 2147483647) ∧ (∀ I5 : HI, I5 = up I4 489 49 ((I4 489 49) + 1) → Q (some (vI 1)) (mk I5)))) ∧ (¬ (x3 = 0) → CV mX11_drops d [vR 489] I3 (fun I6 => J none mX11_goesOnTest (d + 1) 0 0 137 [(0, vR 489)] [] (mk I6) Q)))))))) : J none mX11_goesOnTest (d + 1) 0 0 137 [(0, vR 489)] [] (mk I) Q := by
  refine J_aload_n dX11_goesOnTest_137 rfl rfl ?_
  refine J_bipush dX11_goesOnTest_138 (ii_c rfl) (by decide) ?_
  refine J_callV (as := [_]) (mc1 := 0) (ms1 := 0) (mc := 0) (ms := 0) dX11_goesOnTest_140 mv_X11_isOn lk_X11_388 sh_489 rfl (Nat.le_of_ble_eq_true rfl) (Nat.le_of_ble_eq_true rfl) h (fun r σ hq _ => ?_)
  obtain ⟨x1, I1, rfl, rfl, h⟩ := hq
  change J _ _ _ _ _ _ _ [vI x1] _ _
  refine J_if_ne (tgt := 155) dX11_goesOnTest_143 (by decide) (fun c => ?_) (fun c => ?_)
  · replace h := h.1 c
    refine J_aload_n dX11_goesOnTest_155 rfl rfl ?_
    refine J_callV (as := []) (mc1 := 0) (ms1 := 0) (mc := 0) (ms := 0) dX11_goesOnTest_156 mv_X11_drops lk_X11_376 sh_489 rfl (Nat.le_of_ble_eq_true rfl) (Nat.le_of_ble_eq_true rfl) h (fun r σ hq _ => ?_)
    obtain ⟨I2, rfl, rfl, h⟩ := hq
    change J _ _ _ _ _ _ _ [] _ _
    refine J_goto (tgt := 137) dX11_goesOnTest_159 (by decide) ?_
    exact h
  · replace h := h.2 c
    refine J_aload_n dX11_goesOnTest_146 rfl rfl ?_
    refine J_bipush dX11_goesOnTest_147 (ii_c rfl) (by decide) ?_
    refine J_callV (as := [_]) (mc1 := 0) (ms1 := 0) (mc := 0) (ms := 0) dX11_goesOnTest_149 mv_X11_isOn lk_X11_388 sh_489 rfl (Nat.le_of_ble_eq_true rfl) (Nat.le_of_ble_eq_true rfl) h (fun r σ hq _ => ?_)
    obtain ⟨x3, I3, rfl, rfl, h⟩ := hq
    change J _ _ _ _ _ _ _ [vI x3] _ _
    refine J_if_eq (tgt := 162) dX11_goesOnTest_152 (by decide) (fun c => ?_) (fun c => ?_)
    · replace h := h.1 c
      refine J_aload_n dX11_goesOnTest_162 rfl rfl ?_
      refine J_getR dX11_goesOnTest_163 ck_11 fw_X11_124 rfl sh_489 rr_489_48 ?_
      refine J_aload_n dX11_goesOnTest_166 rfl rfl ?_
      refine J_getI dX11_goesOnTest_167 ck_11 fw_X11_309 rfl sh_489 ?_
      refine J_bipush dX11_goesOnTest_170 (ii_c rfl) (by decide) ?_
      refine J_iast dX11_goesOnTest_172 sh_525 h.1.1 h.1.2 ?_
      replace h := h.2 _ rfl
      refine J_aload_n dX11_goesOnTest_173 rfl rfl ?_
      refine J_dup dX11_goesOnTest_174 rfl ?_
      refine J_getI dX11_goesOnTest_175 ck_11 fw_X11_309 rfl sh_489 ?_
      refine J_iconst dX11_goesOnTest_178 (ii_c rfl) ?_
      refine J_iaddN dX11_goesOnTest_179 h.1 ?_
      replace h := h.2
      refine J_putI dX11_goesOnTest_180 ck_11 fw_X11_309 rfl rfl (Or.inl rfl) sh_489 ?_
      replace h := h _ rfl
      refine J_iconst dX11_goesOnTest_183 (ii_c rfl) ?_
      exact J_retz dX11_goesOnTest_184 rfl (Or.inr rfl) h
    · replace h := h.2 c
      refine J_aload_n dX11_goesOnTest_155 rfl rfl ?_
      refine J_callV (as := []) (mc1 := 0) (ms1 := 0) (mc := 0) (ms := 0) dX11_goesOnTest_156 mv_X11_drops lk_X11_376 sh_489 rfl (Nat.le_of_ble_eq_true rfl) (Nat.le_of_ble_eq_true rfl) h (fun r σ hq _ => ?_)
      obtain ⟨I6, rfl, rfl, h⟩ := hq
      change J _ _ _ _ _ _ _ [] _ _
      refine J_goto (tgt := 137) dX11_goesOnTest_159 (by decide) ?_
      exact h
set_option maxRecDepth 20000 in
set_option maxHeartbeats 2000000 in
theorem bk_X11_fault_0 {d : Nat} {I : HI} {Q : Option AV → AH → Prop} {a1 : Int}  (h : ((a1 ≠ 0 → ((a1 ≠ 1 → Q (some (vI (-1))) (mk I)) ∧ (a1 = 1 → Q (some (vI (I 489 8))) (mk I)))) ∧ (a1 = 0 → Q (some (vI (I 489 7))) (mk I)))) : J none mX11_fault (d + 1) 0 0 0 [(0, vR 489), (1, vI a1)] [] (mk I) Q := by
  refine J_iload_n dX11_fault_0 rfl rfl ?_
  refine J_if_ne (tgt := 11) dX11_fault_1 (by decide) (fun c => ?_) (fun c => ?_)
  · replace h := h.1 c
    refine J_iload_n dX11_fault_11 rfl rfl ?_
    refine J_iconst dX11_fault_12 (ii_c rfl) ?_
    refine J_ic_ne (tgt := 23) dX11_fault_13 (by decide) (fun c => ?_) (fun c => ?_)
    · replace h := h.1 c
      refine J_iconst dX11_fault_23 (ii_c rfl) ?_
      exact J_reti dX11_fault_24 rfl h
    · replace h := h.2 c
      refine J_aload_n dX11_fault_16 rfl rfl ?_
      refine J_getI dX11_fault_17 ck_11 fw_X11_13 rfl sh_489 ?_
      refine J_goto (tgt := 24) dX11_fault_20 (by decide) ?_
      exact J_reti dX11_fault_24 rfl h
  · replace h := h.2 c
    refine J_aload_n dX11_fault_4 rfl rfl ?_
    refine J_getI dX11_fault_5 ck_11 fw_X11_352 rfl sh_489 ?_
    refine J_goto (tgt := 24) dX11_fault_8 (by decide) ?_
    exact J_reti dX11_fault_24 rfl h
set_option maxRecDepth 20000 in
set_option maxHeartbeats 2000000 in
theorem bk_X11_clip_0 {d : Nat} {I : HI} {Q : Option AV → AH → Prop} {a0 : Int}  (h : ((a0 ≤ 1000000 → (((-1000000) ≤ a0 → Q (some (vL a0)) (mk I)) ∧ (¬ ((-1000000) ≤ a0) → Q (some (vL (-1000000))) (mk I)))) ∧ (¬ (a0 ≤ 1000000) → Q (some (vL 1000000)) (mk I)))) : J none mX11_clip (d + 1) 0 0 0 [(0, vL a0)] [] (mk I) Q := by
  refine J_lload_n dX11_clip_0 rfl rfl ?_
  refine J_ldc2 1000000 dX11_clip_1 kw_X11_412 (ll_c rfl) ?_
  refine J_lcmp dX11_clip_4 ?_
  refine J_if_le (tgt := 14) dX11_clip_5 (by decide) (fun c => ?_) (fun c => ?_)
  · replace h := h.1 (lC_le.mp c)
    refine J_lload_n dX11_clip_14 rfl rfl ?_
    refine J_ldc2 (-1000000) dX11_clip_15 kw_X11_414 (ll_c rfl) ?_
    refine J_lcmp dX11_clip_18 ?_
    refine J_if_ge (tgt := 28) dX11_clip_19 (by decide) (fun c => ?_) (fun c => ?_)
    · replace h := h.1 (lC_ge.mp c)
      refine J_lload_n dX11_clip_28 rfl rfl ?_
      exact J_retl dX11_clip_29 rfl h
    · replace h := h.2 (fun w => c (lC_ge.mpr w))
      refine J_ldc2 (-1000000) dX11_clip_22 kw_X11_414 (ll_c rfl) ?_
      refine J_goto (tgt := 29) dX11_clip_25 (by decide) ?_
      exact J_retl dX11_clip_29 rfl h
  · replace h := h.2 (fun w => c (lC_le.mpr w))
    refine J_ldc2 1000000 dX11_clip_8 kw_X11_412 (ll_c rfl) ?_
    refine J_goto (tgt := 29) dX11_clip_11 (by decide) ?_
    exact J_retl dX11_clip_29 rfl h
set_option maxRecDepth 20000 in
set_option maxHeartbeats 2000000 in
theorem bk_X11_floor_0 {d : Nat} {I : HI} {Q : Option AV → AH → Prop} {a0 : Int} {a2 : Int}  (h : ((a2 ≠ 0 → a2 ≠ 0 ∧ a2 ≠ 0 ∧ (((lM a0 a2) = 0 → Q (some (vL (lD a0 a2))) (mk I)) ∧ (¬ ((lM a0 a2) = 0) → ((0 ≤ a0 → ((0 ≤ a2 → Q (some (vL (lD a0 a2))) (mk I)) ∧ (¬ (0 ≤ a2) → (-9223372036854775808 ≤ (lD a0 a2) - 1 ∧ (lD a0 a2) - 1 ≤ 9223372036854775807) ∧ Q (some (vL ((lD a0 a2) - 1))) (mk I)))) ∧ (¬ (0 ≤ a0) → ((0 ≤ a2 → (-9223372036854775808 ≤ (lD a0 a2) - 1 ∧ (lD a0 a2) - 1 ≤ 9223372036854775807) ∧ Q (some (vL ((lD a0 a2) - 1))) (mk I)) ∧ (¬ (0 ≤ a2) → Q (some (vL (lD a0 a2))) (mk I)))))))) ∧ (a2 = 0 → Q (some (vL 0)) (mk I)))) : J none mX11_floor (d + 1) 0 0 0 [(0, vL a0), (2, vL a2)] [] (mk I) Q := by
  refine J_lload_n dX11_floor_0 rfl rfl ?_
  refine J_lconst 0 dX11_floor_1 (ll_c rfl) (by decide) ?_
  refine J_lcmp dX11_floor_2 ?_
  refine J_if_ne (tgt := 8) dX11_floor_3 (by decide) (fun c => ?_) (fun c => ?_)
  · replace h := h.1 (fun w => c (lC_eq.mpr w))
    refine J_lload_n dX11_floor_8 rfl rfl ?_
    refine J_lload_n dX11_floor_9 rfl rfl ?_
    refine J_ldiv dX11_floor_10 h.1 ?_
    replace h := h.2
    refine J_lstore dX11_floor_11 (by decide) ?_
    refine J_lload_n dX11_floor_13 rfl rfl ?_
    refine J_lload_n dX11_floor_14 rfl rfl ?_
    refine J_lrem dX11_floor_15 h.1 ?_
    replace h := h.2
    refine J_lconst 0 dX11_floor_16 (ll_c rfl) (by decide) ?_
    refine J_lcmp dX11_floor_17 ?_
    refine J_if_eq (tgt := 53) dX11_floor_18 (by decide) (fun c => ?_) (fun c => ?_)
    · replace h := h.1 (lC_eq.mp c)
      refine J_lload dX11_floor_53 rfl ?_
      exact J_retl dX11_floor_55 rfl h
    · replace h := h.2 (fun w => c (lC_eq.mpr w))
      refine J_lload_n dX11_floor_21 rfl rfl ?_
      refine J_lconst 0 dX11_floor_22 (ll_c rfl) (by decide) ?_
      refine J_lcmp dX11_floor_23 ?_
      refine J_if_ge (tgt := 31) dX11_floor_24 (by decide) (fun c => ?_) (fun c => ?_)
      · replace h := h.1 (lC_ge.mp c)
        refine J_iconst dX11_floor_31 (ii_c rfl) ?_
        refine J_lload_n dX11_floor_32 rfl rfl ?_
        refine J_lconst 0 dX11_floor_33 (ll_c rfl) (by decide) ?_
        refine J_lcmp dX11_floor_34 ?_
        refine J_if_ge (tgt := 42) dX11_floor_35 (by decide) (fun c => ?_) (fun c => ?_)
        · replace h := h.1 (lC_ge.mp c)
          refine J_iconst dX11_floor_42 (ii_c rfl) ?_
          refine J_ic_eq (tgt := 53) dX11_floor_43 (by decide) (fun _ => ?_) (fun c => absurd (by decide) c)
          refine J_lload dX11_floor_53 rfl ?_
          exact J_retl dX11_floor_55 rfl h
        · replace h := h.2 (fun w => c (lC_ge.mpr w))
          refine J_iconst dX11_floor_38 (ii_c rfl) ?_
          refine J_goto (tgt := 43) dX11_floor_39 (by decide) ?_
          refine J_ic_eq (tgt := 53) dX11_floor_43 (by decide) (fun c => absurd c (by decide)) (fun _ => ?_)
          refine J_lload dX11_floor_46 rfl ?_
          refine J_lconst 1 dX11_floor_48 (ll_c rfl) (by decide) ?_
          refine J_lsubN dX11_floor_49 h.1 ?_
          replace h := h.2
          refine J_goto (tgt := 55) dX11_floor_50 (by decide) ?_
          exact J_retl dX11_floor_55 rfl h
      · replace h := h.2 (fun w => c (lC_ge.mpr w))
        refine J_iconst dX11_floor_27 (ii_c rfl) ?_
        refine J_goto (tgt := 32) dX11_floor_28 (by decide) ?_
        refine J_lload_n dX11_floor_32 rfl rfl ?_
        refine J_lconst 0 dX11_floor_33 (ll_c rfl) (by decide) ?_
        refine J_lcmp dX11_floor_34 ?_
        refine J_if_ge (tgt := 42) dX11_floor_35 (by decide) (fun c => ?_) (fun c => ?_)
        · replace h := h.1 (lC_ge.mp c)
          refine J_iconst dX11_floor_42 (ii_c rfl) ?_
          refine J_ic_eq (tgt := 53) dX11_floor_43 (by decide) (fun c => absurd c (by decide)) (fun _ => ?_)
          refine J_lload dX11_floor_46 rfl ?_
          refine J_lconst 1 dX11_floor_48 (ll_c rfl) (by decide) ?_
          refine J_lsubN dX11_floor_49 h.1 ?_
          replace h := h.2
          refine J_goto (tgt := 55) dX11_floor_50 (by decide) ?_
          exact J_retl dX11_floor_55 rfl h
        · replace h := h.2 (fun w => c (lC_ge.mpr w))
          refine J_iconst dX11_floor_38 (ii_c rfl) ?_
          refine J_goto (tgt := 43) dX11_floor_39 (by decide) ?_
          refine J_ic_eq (tgt := 53) dX11_floor_43 (by decide) (fun _ => ?_) (fun c => absurd (by decide) c)
          refine J_lload dX11_floor_53 rfl ?_
          exact J_retl dX11_floor_55 rfl h
  · replace h := h.2 (lC_eq.mp c)
    refine J_lconst 0 dX11_floor_6 (ll_c rfl) (by decide) ?_
    exact J_retl dX11_floor_7 rfl h
set_option maxRecDepth 20000 in
set_option maxHeartbeats 2000000 in
theorem bk_X11_puts_0 {d : Nat} {I : HI} {Q : Option AV → AH → Prop} {a1 : Int}  (h : ((0 : Int) ≤ (I 489 56) ∧ (I 489 56 : Int) < 1700) ∧ (∀ I1 : HI, I1 = up I 529 (I 489 56).toNat a1 → (-2147483648 ≤ (I1 489 56) + 1 ∧ (I1 489 56) + 1 ≤ 2147483647) ∧ (∀ I2 : HI, I2 = up I1 489 56 ((I1 489 56) + 1) → Q none (mk I2)))) : J none mX11_puts (d + 1) 0 0 0 [(0, vR 489), (1, vL a1)] [] (mk I) Q := by
  refine J_aload_n dX11_puts_0 rfl rfl ?_
  refine J_getR dX11_puts_1 ck_11 fw_X11_136 rfl sh_489 rr_489_55 ?_
  refine J_aload_n dX11_puts_4 rfl rfl ?_
  refine J_getI dX11_puts_5 ck_11 fw_X11_416 rfl sh_489 ?_
  refine J_lload_n dX11_puts_8 rfl rfl ?_
  refine J_last dX11_puts_9 sh_529 h.1.1 h.1.2 ?_
  replace h := h.2 _ rfl
  refine J_aload_n dX11_puts_10 rfl rfl ?_
  refine J_dup dX11_puts_11 rfl ?_
  refine J_getI dX11_puts_12 ck_11 fw_X11_416 rfl sh_489 ?_
  refine J_iconst dX11_puts_15 (ii_c rfl) ?_
  refine J_iaddN dX11_puts_16 h.1 ?_
  replace h := h.2
  refine J_putI dX11_puts_17 ck_11 fw_X11_416 rfl rfl (Or.inl rfl) sh_489 ?_
  replace h := h _ rfl
  exact J_retv dX11_puts_20 rfl h
