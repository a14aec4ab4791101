set_option maxRecDepth 20000 in
set_option maxHeartbeats 2000000 in
theorem bk_X11_joins_0 {d : Nat} {I : HI} {Q : Option AV → AH → Prop} {a1 : Int}  (h : (-2147483648 ≤ (I 489 56) - 1 ∧ (I 489 56) - 1 ≤ 2147483647) ∧ ((0 : Int) ≤ ((I 489 56) - 1) ∧ ((I 489 56) - 1 : Int) < 1700) ∧ (-2147483648 ≤ (I 489 56) - 2 ∧ (I 489 56) - 2 ≤ 2147483647) ∧ ((0 : Int) ≤ ((I 489 56) - 2) ∧ ((I 489 56) - 2 : Int) < 1700) ∧ (-2147483648 ≤ (I 489 56) - 2 ∧ (I 489 56) - 2 ≤ 2147483647) ∧ (∀ I1 : HI, I1 = up I 489 56 ((I 489 56) - 2) → (((a1 < 1 ∨ 14 < a1) → (-9223372036854775808 ≤ (I 529 ((I 489 56) - 2).toNat) + (I 529 ((I 489 56) - 1).toNat) ∧ (I 529 ((I 489 56) - 2).toNat) + (I 529 ((I 489 56) - 1).toNat) ≤ 9223372036854775807) ∧ ((((I 529 ((I 489 56) - 2).toNat) + (I 529 ((I 489 56) - 1).toNat)) ≤ 0 → CV mX11_puts d [vR 489, vL 0] I1 (fun I2 => Q none (mk I2))) ∧ (¬ (((I 529 ((I 489 56) - 2).toNat) + (I 529 ((I 489 56) - 1).toNat)) ≤ 0) → CV mX11_puts d [vR 489, vL 1] I1 (fun I3 => Q none (mk I3))))) ∧ (a1 = 1 → (-9223372036854775808 ≤ (I 529 ((I 489 56) - 2).toNat) + (I 529 ((I 489 56) - 1).toNat) ∧ (I 529 ((I 489 56) - 2).toNat) + (I 529 ((I 489 56) - 1).toNat) ≤ 9223372036854775807) ∧ CL mX11_clip d [vL ((I 529 ((I 489 56) - 2).toNat) + (I 529 ((I 489 56) - 1).toNat))] I1 (fun x3 I4 => CV mX11_puts d [vR 489, vL x3] I4 (fun I5 => Q none (mk I5)))) ∧ (a1 = 2 → (-9223372036854775808 ≤ (I 529 ((I 489 56) - 2).toNat) - (I 529 ((I 489 56) - 1).toNat) ∧ (I 529 ((I 489 56) - 2).toNat) - (I 529 ((I 489 56) - 1).toNat) ≤ 9223372036854775807) ∧ CL mX11_clip d [vL ((I 529 ((I 489 56) - 2).toNat) - (I 529 ((I 489 56) - 1).toNat))] I1 (fun x5 I6 => CV mX11_puts d [vR 489, vL x5] I6 (fun I7 => Q none (mk I7)))) ∧ (a1 = 3 → (-9223372036854775808 ≤ (I 529 ((I 489 56) - 2).toNat) * (I 529 ((I 489 56) - 1).toNat) ∧ (I 529 ((I 489 56) - 2).toNat) * (I 529 ((I 489 56) - 1).toNat) ≤ 9223372036854775807) ∧ CL mX11_clip d [vL ((I 529 ((I 489 56) - 2).toNat) * (I 529 ((I 489 56) - 1).toNat))] I1 (fun x7 I8 => CV mX11_puts d [vR 489, vL x7] I8 (fun I9 => Q none (mk I9)))) ∧ (a1 = 4 → CL mX11_floor d [vL (I 529 ((I 489 56) - 2).toNat), vL (I 529 ((I 489 56) - 1).toNat)] I1 (fun x9 I10 => CV mX11_puts d [vR 489, vL x9] I10 (fun I11 => Q none (mk I11)))) ∧ (a1 = 5 → (((I 529 ((I 489 56) - 1).toNat) ≤ (I 529 ((I 489 56) - 2).toNat) → CV mX11_puts d [vR 489, vL (I 529 ((I 489 56) - 1).toNat)] I1 (fun I12 => Q none (mk I12))) ∧ (¬ ((I 529 ((I 489 56) - 1).toNat) ≤ (I 529 ((I 489 56) - 2).toNat)) → CV mX11_puts d [vR 489, vL (I 529 ((I 489 56) - 2).toNat)] I1 (fun I13 => Q none (mk I13))))) ∧ (a1 = 6 → (((I 529 ((I 489 56) - 2).toNat) ≤ (I 529 ((I 489 56) - 1).toNat) → CV mX11_puts d [vR 489, vL (I 529 ((I 489 56) - 1).toNat)] I1 (fun I14 => Q none (mk I14))) ∧ (¬ ((I 529 ((I 489 56) - 2).toNat) ≤ (I 529 ((I 489 56) - 1).toNat)) → CV mX11_puts d [vR 489, vL (I 529 ((I 489 56) - 2).toNat)] I1 (fun I15 => Q none (mk I15))))) ∧ ((7 ≤ a1 ∧ a1 ≤ 10) → (-9223372036854775808 ≤ (I 529 ((I 489 56) - 2).toNat) + (I 529 ((I 489 56) - 1).toNat) ∧ (I 529 ((I 489 56) - 2).toNat) + (I 529 ((I 489 56) - 1).toNat) ≤ 9223372036854775807) ∧ ((((I 529 ((I 489 56) - 2).toNat) + (I 529 ((I 489 56) - 1).toNat)) ≤ 0 → CV mX11_puts d [vR 489, vL 0] I1 (fun I16 => Q none (mk I16))) ∧ (¬ (((I 529 ((I 489 56) - 2).toNat) + (I 529 ((I 489 56) - 1).toNat)) ≤ 0) → CV mX11_puts d [vR 489, vL 1] I1 (fun I17 => Q none (mk I17))))) ∧ (a1 = 11 → (((I 529 ((I 489 56) - 1).toNat) ≤ (I 529 ((I 489 56) - 2).toNat) → CV mX11_puts d [vR 489, vL 0] I1 (fun I24 => Q none (mk I24))) ∧ (¬ ((I 529 ((I 489 56) - 1).toNat) ≤ (I 529 ((I 489 56) - 2).toNat)) → CV mX11_puts d [vR 489, vL 1] I1 (fun I25 => Q none (mk I25))))) ∧ (a1 = 12 → (((I 529 ((I 489 56) - 2).toNat) ≤ (I 529 ((I 489 56) - 1).toNat) → CV mX11_puts d [vR 489, vL 0] I1 (fun I26 => Q none (mk I26))) ∧ (¬ ((I 529 ((I 489 56) - 2).toNat) ≤ (I 529 ((I 489 56) - 1).toNat)) → CV mX11_puts d [vR 489, vL 1] I1 (fun I27 => Q none (mk I27))))) ∧ (a1 = 13 → (((I 529 ((I 489 56) - 2).toNat) ≠ (I 529 ((I 489 56) - 1).toNat) → CV mX11_puts d [vR 489, vL 0] I1 (fun I28 => Q none (mk I28))) ∧ ((I 529 ((I 489 56) - 2).toNat) = (I 529 ((I 489 56) - 1).toNat) → CV mX11_puts d [vR 489, vL 1] I1 (fun I29 => Q none (mk I29))))) ∧ (a1 = 14 → (-9223372036854775808 ≤ (I 529 ((I 489 56) - 2).toNat) * (I 529 ((I 489 56) - 1).toNat) ∧ (I 529 ((I 489 56) - 2).toNat) * (I 529 ((I 489 56) - 1).toNat) ≤ 9223372036854775807) ∧ CV mX11_puts d [vR 489, vL ((I 529 ((I 489 56) - 2).toNat) * (I 529 ((I 489 56) - 1).toNat))] I1 (fun I30 => Q none (mk I30)))))) : J none mX11_joins (d + 1) 0 0 0 [(0, vR 489), (1, vI a1)] [] (mk I) Q := by
  refine J_aload_n dX11_joins_0 rfl rfl ?_
  refine J_getR dX11_joins_1 ck_11 fw_X11_136 rfl sh_489 rr_489_55 ?_
  refine J_aload_n dX11_joins_4 rfl rfl ?_
  refine J_getI dX11_joins_5 ck_11 fw_X11_416 rfl sh_489 ?_
  refine J_iconst dX11_joins_8 (ii_c rfl) ?_
  refine J_isubN dX11_joins_9 h.1 ?_
  replace h := h.2
  refine J_lald dX11_joins_10 sh_529 h.1.1 h.1.2 ?_
  replace h := h.2
  refine J_lstore_n dX11_joins_11 rfl (by decide) ?_
  refine J_aload_n dX11_joins_12 rfl rfl ?_
  refine J_getR dX11_joins_13 ck_11 fw_X11_136 rfl sh_489 rr_489_55 ?_
  refine J_aload_n dX11_joins_16 rfl rfl ?_
  refine J_getI dX11_joins_17 ck_11 fw_X11_416 rfl sh_489 ?_
  refine J_iconst dX11_joins_20 (ii_c rfl) ?_
  refine J_isubN dX11_joins_21 h.1 ?_
  replace h := h.2
  refine J_lald dX11_joins_22 sh_529 h.1.1 h.1.2 ?_
  replace h := h.2
  refine J_lstore dX11_joins_23 (by decide) ?_
  refine J_aload_n dX11_joins_25 rfl rfl ?_
  refine J_dup dX11_joins_26 rfl ?_
  refine J_getI dX11_joins_27 ck_11 fw_X11_416 rfl sh_489 ?_
  refine J_iconst dX11_joins_30 (ii_c rfl) ?_
  refine J_isubN dX11_joins_31 h.1 ?_
  replace h := h.2
  refine J_putI dX11_joins_32 ck_11 fw_X11_416 rfl rfl (Or.inl rfl) sh_489 ?_
  replace h := h _ rfl
  refine J_iload_n dX11_joins_35 rfl rfl ?_
  rcases (show (a1 < 1 ∨ 14 < a1) ∨ a1 = 1 ∨ a1 = 2 ∨ a1 = 3 ∨ a1 = 4 ∨ a1 = 5 ∨ a1 = 6 ∨ a1 = 7 ∨ a1 = 8 ∨ a1 = 9 ∨ a1 = 10 ∨ a1 = 11 ∨ a1 = 12 ∨ a1 = 13 ∨ a1 = 14 by omega) with c | c | c | c | c | c | c | c | c | c | c | c | c | c | c
  · replace h := h.1 c
    refine J_tabOut (tgt := 271) dX11_joins_36 c (by decide) ?_
    refine J_aload_n dX11_joins_271 rfl rfl ?_
    refine J_lload dX11_joins_272 rfl ?_
    refine J_lload_n dX11_joins_274 rfl rfl ?_
    refine J_laddN dX11_joins_275 h.1 ?_
    replace h := h.2
    refine J_lconst 0 dX11_joins_276 (ll_c rfl) (by decide) ?_
    refine J_lcmp dX11_joins_277 ?_
    refine J_if_le (tgt := 285) dX11_joins_278 (by decide) (fun c => ?_) (fun c => ?_)
    · replace h := h.1 (lC_le.mp c)
      refine J_lconst 0 dX11_joins_285 (ll_c rfl) (by decide) ?_
      refine J_callV (as := [_]) (mc1 := 0) (ms1 := 0) (mc := 0) (ms := 0) dX11_joins_286 mv_X11_puts lk_X11_423 sh_489 rfl (Nat.le_of_ble_eq_true rfl) (Nat.le_of_ble_eq_true rfl) h (fun r σ hq _ => ?_)
      obtain ⟨I2, rfl, rfl, h⟩ := hq
      change J _ _ _ _ _ _ _ [] _ _
      exact J_retv dX11_joins_289 rfl h
    · replace h := h.2 (fun w => c (lC_le.mpr w))
      refine J_lconst 1 dX11_joins_281 (ll_c rfl) (by decide) ?_
      refine J_goto (tgt := 286) dX11_joins_282 (by decide) ?_
      refine J_callV (as := [_]) (mc1 := 0) (ms1 := 0) (mc := 0) (ms := 0) dX11_joins_286 mv_X11_puts lk_X11_423 sh_489 rfl (Nat.le_of_ble_eq_true rfl) (Nat.le_of_ble_eq_true rfl) h (fun r σ hq _ => ?_)
      obtain ⟨I3, rfl, rfl, h⟩ := hq
      change J _ _ _ _ _ _ _ [] _ _
      exact J_retv dX11_joins_289 rfl h
  · replace h := h.2.1 c
    refine J_tabIn (tgt := 108) (off := 72) dX11_joins_36 (by omega) (by omega) (by rw [c]; rfl) (by decide) ?_
    refine J_aload_n dX11_joins_108 rfl rfl ?_
    refine J_lload dX11_joins_109 rfl ?_
    refine J_lload_n dX11_joins_111 rfl rfl ?_
    refine J_laddN dX11_joins_112 h.1 ?_
    replace h := h.2
    refine J_callS (as := [_]) (mc1 := 0) (ms1 := 0) (mc := 0) (ms := 0) dX11_joins_113 ms_X11_clip lk_X11_419 rfl (Nat.le_of_ble_eq_true rfl) (Nat.le_of_ble_eq_true rfl) h (fun r σ hq _ => ?_)
    obtain ⟨x3, I4, rfl, rfl, h⟩ := hq
    change J _ _ _ _ _ _ _ [vL x3, vR 489] _ _
    refine J_callV (as := [_]) (mc1 := 0) (ms1 := 0) (mc := 0) (ms := 0) dX11_joins_116 mv_X11_puts lk_X11_423 sh_489 rfl (Nat.le_of_ble_eq_true rfl) (Nat.le_of_ble_eq_true rfl) h (fun r σ hq _ => ?_)
    obtain ⟨I5, rfl, rfl, h⟩ := hq
    change J _ _ _ _ _ _ _ [] _ _
    refine J_goto (tgt := 289) dX11_joins_119 (by decide) ?_
    exact J_retv dX11_joins_289 rfl h
  · replace h := h.2.2.1 c
    refine J_tabIn (tgt := 122) (off := 86) dX11_joins_36 (by omega) (by omega) (by rw [c]; rfl) (by decide) ?_
    refine J_aload_n dX11_joins_122 rfl rfl ?_
    refine J_lload dX11_joins_123 rfl ?_
    refine J_lload_n dX11_joins_125 rfl rfl ?_
    refine J_lsubN dX11_joins_126 h.1 ?_
    replace h := h.2
    refine J_callS (as := [_]) (mc1 := 0) (ms1 := 0) (mc := 0) (ms := 0) dX11_joins_127 ms_X11_clip lk_X11_419 rfl (Nat.le_of_ble_eq_true rfl) (Nat.le_of_ble_eq_true rfl) h (fun r σ hq _ => ?_)
    obtain ⟨x5, I6, rfl, rfl, h⟩ := hq
    change J _ _ _ _ _ _ _ [vL x5, vR 489] _ _
    refine J_callV (as := [_]) (mc1 := 0) (ms1 := 0) (mc := 0) (ms := 0) dX11_joins_130 mv_X11_puts lk_X11_423 sh_489 rfl (Nat.le_of_ble_eq_true rfl) (Nat.le_of_ble_eq_true rfl) h (fun r σ hq _ => ?_)
    obtain ⟨I7, rfl, rfl, h⟩ := hq
    change J _ _ _ _ _ _ _ [] _ _
    refine J_goto (tgt := 289) dX11_joins_133 (by decide) ?_
    exact J_retv dX11_joins_289 rfl h
  · replace h := h.2.2.2.1 c
    refine J_tabIn (tgt := 136) (off := 100) dX11_joins_36 (by omega) (by omega) (by rw [c]; rfl) (by decide) ?_
    refine J_aload_n dX11_joins_136 rfl rfl ?_
    refine J_lload dX11_joins_137 rfl ?_
    refine J_lload_n dX11_joins_139 rfl rfl ?_
    refine J_lmulN dX11_joins_140 h.1 ?_
    replace h := h.2
    refine J_callS (as := [_]) (mc1 := 0) (ms1 := 0) (mc := 0) (ms := 0) dX11_joins_141 ms_X11_clip lk_X11_419 rfl (Nat.le_of_ble_eq_true rfl) (Nat.le_of_ble_eq_true rfl) h (fun r σ hq _ => ?_)
    obtain ⟨x7, I8, rfl, rfl, h⟩ := hq
    change J _ _ _ _ _ _ _ [vL x7, vR 489] _ _
    refine J_callV (as := [_]) (mc1 := 0) (ms1 := 0) (mc := 0) (ms := 0) dX11_joins_144 mv_X11_puts lk_X11_423 sh_489 rfl (Nat.le_of_ble_eq_true rfl) (Nat.le_of_ble_eq_true rfl) h (fun r σ hq _ => ?_)
    obtain ⟨I9, rfl, rfl, h⟩ := hq
    change J _ _ _ _ _ _ _ [] _ _
    refine J_goto (tgt := 289) dX11_joins_147 (by decide) ?_
    exact J_retv dX11_joins_289 rfl h
  · replace h := h.2.2.2.2.1 c
    refine J_tabIn (tgt := 150) (off := 114) dX11_joins_36 (by omega) (by omega) (by rw [c]; rfl) (by decide) ?_
    refine J_aload_n dX11_joins_150 rfl rfl ?_
    refine J_lload dX11_joins_151 rfl ?_
    refine J_lload_n dX11_joins_153 rfl rfl ?_
    refine J_callS (as := [_, _]) (mc1 := 0) (ms1 := 0) (mc := 0) (ms := 0) dX11_joins_154 ms_X11_floor lk_X11_427 rfl (Nat.le_of_ble_eq_true rfl) (Nat.le_of_ble_eq_true rfl) h (fun r σ hq _ => ?_)
    obtain ⟨x9, I10, rfl, rfl, h⟩ := hq
    change J _ _ _ _ _ _ _ [vL x9, vR 489] _ _
    refine J_callV (as := [_]) (mc1 := 0) (ms1 := 0) (mc := 0) (ms := 0) dX11_joins_157 mv_X11_puts lk_X11_423 sh_489 rfl (Nat.le_of_ble_eq_true rfl) (Nat.le_of_ble_eq_true rfl) h (fun r σ hq _ => ?_)
    obtain ⟨I11, rfl, rfl, h⟩ := hq
    change J _ _ _ _ _ _ _ [] _ _
    refine J_goto (tgt := 289) dX11_joins_160 (by decide) ?_
    exact J_retv dX11_joins_289 rfl h
  · replace h := h.2.2.2.2.2.1 c
    refine J_tabIn (tgt := 163) (off := 127) dX11_joins_36 (by omega) (by omega) (by rw [c]; rfl) (by decide) ?_
    refine J_aload_n dX11_joins_163 rfl rfl ?_
    refine J_lload dX11_joins_164 rfl ?_
    refine J_lload_n dX11_joins_166 rfl rfl ?_
    refine J_lcmp dX11_joins_167 ?_
    refine J_if_ge (tgt := 176) dX11_joins_168 (by decide) (fun c => ?_) (fun c => ?_)
    · replace h := h.1 (lC_ge.mp c)
      refine J_lload_n dX11_joins_176 rfl rfl ?_
      refine J_callV (as := [_]) (mc1 := 0) (ms1 := 0) (mc := 0) (ms := 0) dX11_joins_177 mv_X11_puts lk_X11_423 sh_489 rfl (Nat.le_of_ble_eq_true rfl) (Nat.le_of_ble_eq_true rfl) h (fun r σ hq _ => ?_)
      obtain ⟨I12, rfl, rfl, h⟩ := hq
      change J _ _ _ _ _ _ _ [] _ _
      refine J_goto (tgt := 289) dX11_joins_180 (by decide) ?_
      exact J_retv dX11_joins_289 rfl h
    · replace h := h.2 (fun w => c (lC_ge.mpr w))
      refine J_lload dX11_joins_171 rfl ?_
      refine J_goto (tgt := 177) dX11_joins_173 (by decide) ?_
      refine J_callV (as := [_]) (mc1 := 0) (ms1 := 0) (mc := 0) (ms := 0) dX11_joins_177 mv_X11_puts lk_X11_423 sh_489 rfl (Nat.le_of_ble_eq_true rfl) (Nat.le_of_ble_eq_true rfl) h (fun r σ hq _ => ?_)
      obtain ⟨I13, rfl, rfl, h⟩ := hq
      change J _ _ _ _ _ _ _ [] _ _
      refine J_goto (tgt := 289) dX11_joins_180 (by decide) ?_
      exact J_retv dX11_joins_289 rfl h
  · replace h := h.2.2.2.2.2.2.1 c
    refine J_tabIn (tgt := 183) (off := 147) dX11_joins_36 (by omega) (by omega) (by rw [c]; rfl) (by decide) ?_
    refine J_aload_n dX11_joins_183 rfl rfl ?_
    refine J_lload dX11_joins_184 rfl ?_
    refine J_lload_n dX11_joins_186 rfl rfl ?_
    refine J_lcmp dX11_joins_187 ?_
    refine J_if_le (tgt := 196) dX11_joins_188 (by decide) (fun c => ?_) (fun c => ?_)
    · replace h := h.1 (lC_le.mp c)
      refine J_lload_n dX11_joins_196 rfl rfl ?_
      refine J_callV (as := [_]) (mc1 := 0) (ms1 := 0) (mc := 0) (ms := 0) dX11_joins_197 mv_X11_puts lk_X11_423 sh_489 rfl (Nat.le_of_ble_eq_true rfl) (Nat.le_of_ble_eq_true rfl) h (fun r σ hq _ => ?_)
      obtain ⟨I14, rfl, rfl, h⟩ := hq
      change J _ _ _ _ _ _ _ [] _ _
      refine J_goto (tgt := 289) dX11_joins_200 (by decide) ?_
      exact J_retv dX11_joins_289 rfl h
    · replace h := h.2 (fun w => c (lC_le.mpr w))
      refine J_lload dX11_joins_191 rfl ?_
      refine J_goto (tgt := 197) dX11_joins_193 (by decide) ?_
      refine J_callV (as := [_]) (mc1 := 0) (ms1 := 0) (mc := 0) (ms := 0) dX11_joins_197 mv_X11_puts lk_X11_423 sh_489 rfl (Nat.le_of_ble_eq_true rfl) (Nat.le_of_ble_eq_true rfl) h (fun r σ hq _ => ?_)
      obtain ⟨I15, rfl, rfl, h⟩ := hq
      change J _ _ _ _ _ _ _ [] _ _
      refine J_goto (tgt := 289) dX11_joins_200 (by decide) ?_
      exact J_retv dX11_joins_289 rfl h
  · replace h := h.2.2.2.2.2.2.2.1 (by omega)
    refine J_tabIn (tgt := 271) (off := 235) dX11_joins_36 (by omega) (by omega) (by rw [c]; rfl) (by decide) ?_
    refine J_aload_n dX11_joins_271 rfl rfl ?_
    refine J_lload dX11_joins_272 rfl ?_
    refine J_lload_n dX11_joins_274 rfl rfl ?_
    refine J_laddN dX11_joins_275 h.1 ?_
    replace h := h.2
    refine J_lconst 0 dX11_joins_276 (ll_c rfl) (by decide) ?_
    refine J_lcmp dX11_joins_277 ?_
    refine J_if_le (tgt := 285) dX11_joins_278 (by decide) (fun c => ?_) (fun c => ?_)
    · replace h := h.1 (lC_le.mp c)
      refine J_lconst 0 dX11_joins_285 (ll_c rfl) (by decide) ?_
      refine J_callV (as := [_]) (mc1 := 0) (ms1 := 0) (mc := 0) (ms := 0) dX11_joins_286 mv_X11_puts lk_X11_423 sh_489 rfl (Nat.le_of_ble_eq_true rfl) (Nat.le_of_ble_eq_true rfl) h (fun r σ hq _ => ?_)
      obtain ⟨I16, rfl, rfl, h⟩ := hq
      change J _ _ _ _ _ _ _ [] _ _
      exact J_retv dX11_joins_289 rfl h
    · replace h := h.2 (fun w => c (lC_le.mpr w))
      refine J_lconst 1 dX11_joins_281 (ll_c rfl) (by decide) ?_
      refine J_goto (tgt := 286) dX11_joins_282 (by decide) ?_
      refine J_callV (as := [_]) (mc1 := 0) (ms1 := 0) (mc := 0) (ms := 0) dX11_joins_286 mv_X11_puts lk_X11_423 sh_489 rfl (Nat.le_of_ble_eq_true rfl) (Nat.le_of_ble_eq_true rfl) h (fun r σ hq _ => ?_)
      obtain ⟨I17, rfl, rfl, h⟩ := hq
      change J _ _ _ _ _ _ _ [] _ _
      exact J_retv dX11_joins_289 rfl h
  · replace h := h.2.2.2.2.2.2.2.1 (by omega)
    refine J_tabIn (tgt := 271) (off := 235) dX11_joins_36 (by omega) (by omega) (by rw [c]; rfl) (by decide) ?_
    refine J_aload_n dX11_joins_271 rfl rfl ?_
    refine J_lload dX11_joins_272 rfl ?_
    refine J_lload_n dX11_joins_274 rfl rfl ?_
    refine J_laddN dX11_joins_275 h.1 ?_
    replace h := h.2
    refine J_lconst 0 dX11_joins_276 (ll_c rfl) (by decide) ?_
    refine J_lcmp dX11_joins_277 ?_
    refine J_if_le (tgt := 285) dX11_joins_278 (by decide) (fun c => ?_) (fun c => ?_)
    · replace h := h.1 (lC_le.mp c)
      refine J_lconst 0 dX11_joins_285 (ll_c rfl) (by decide) ?_
      refine J_callV (as := [_]) (mc1 := 0) (ms1 := 0) (mc := 0) (ms := 0) dX11_joins_286 mv_X11_puts lk_X11_423 sh_489 rfl (Nat.le_of_ble_eq_true rfl) (Nat.le_of_ble_eq_true rfl) h (fun r σ hq _ => ?_)
      obtain ⟨I18, rfl, rfl, h⟩ := hq
      change J _ _ _ _ _ _ _ [] _ _
      exact J_retv dX11_joins_289 rfl h
    · replace h := h.2 (fun w => c (lC_le.mpr w))
      refine J_lconst 1 dX11_joins_281 (ll_c rfl) (by decide) ?_
      refine J_goto (tgt := 286) dX11_joins_282 (by decide) ?_
      refine J_callV (as := [_]) (mc1 := 0) (ms1 := 0) (mc := 0) (ms := 0) dX11_joins_286 mv_X11_puts lk_X11_423 sh_489 rfl (Nat.le_of_ble_eq_true rfl) (Nat.le_of_ble_eq_true rfl) h (fun r σ hq _ => ?_)
      obtain ⟨I19, rfl, rfl, h⟩ := hq
      change J _ _ _ _ _ _ _ [] _ _
      exact J_retv dX11_joins_289 rfl h
  · replace h := h.2.2.2.2.2.2.2.1 (by omega)
    refine J_tabIn (tgt := 271) (off := 235) dX11_joins_36 (by omega) (by omega) (by rw [c]; rfl) (by decide) ?_
    refine J_aload_n dX11_joins_271 rfl rfl ?_
    refine J_lload dX11_joins_272 rfl ?_
    refine J_lload_n dX11_joins_274 rfl rfl ?_
    refine J_laddN dX11_joins_275 h.1 ?_
    replace h := h.2
    refine J_lconst 0 dX11_joins_276 (ll_c rfl) (by decide) ?_
    refine J_lcmp dX11_joins_277 ?_
    refine J_if_le (tgt := 285) dX11_joins_278 (by decide) (fun c => ?_) (fun c => ?_)
    · replace h := h.1 (lC_le.mp c)
      refine J_lconst 0 dX11_joins_285 (ll_c rfl) (by decide) ?_
      refine J_callV (as := [_]) (mc1 := 0) (ms1 := 0) (mc := 0) (ms := 0) dX11_joins_286 mv_X11_puts lk_X11_423 sh_489 rfl (Nat.le_of_ble_eq_true rfl) (Nat.le_of_ble_eq_true rfl) h (fun r σ hq _ => ?_)
      obtain ⟨I20, rfl, rfl, h⟩ := hq
      change J _ _ _ _ _ _ _ [] _ _
      exact J_retv dX11_joins_289 rfl h
    · replace h := h.2 (fun w => c (lC_le.mpr w))
      refine J_lconst 1 dX11_joins_281 (ll_c rfl) (by decide) ?_
      refine J_goto (tgt := 286) dX11_joins_282 (by decide) ?_
      refine J_callV (as := [_]) (mc1 := 0) (ms1 := 0) (mc := 0) (ms := 0) dX11_joins_286 mv_X11_puts lk_X11_423 sh_489 rfl (Nat.le_of_ble_eq_true rfl) (Nat.le_of_ble_eq_true rfl) h (fun r σ hq _ => ?_)
      obtain ⟨I21, rfl, rfl, h⟩ := hq
      change J _ _ _ _ _ _ _ [] _ _
      exact J_retv dX11_joins_289 rfl h
  · replace h := h.2.2.2.2.2.2.2.1 (by omega)
    refine J_tabIn (tgt := 271) (off := 235) dX11_joins_36 (by omega) (by omega) (by rw [c]; rfl) (by decide) ?_
    refine J_aload_n dX11_joins_271 rfl rfl ?_
    refine J_lload dX11_joins_272 rfl ?_
    refine J_lload_n dX11_joins_274 rfl rfl ?_
    refine J_laddN dX11_joins_275 h.1 ?_
    replace h := h.2
    refine J_lconst 0 dX11_joins_276 (ll_c rfl) (by decide) ?_
    refine J_lcmp dX11_joins_277 ?_
    refine J_if_le (tgt := 285) dX11_joins_278 (by decide) (fun c => ?_) (fun c => ?_)
    · replace h := h.1 (lC_le.mp c)
      refine J_lconst 0 dX11_joins_285 (ll_c rfl) (by decide) ?_
      refine J_callV (as := [_]) (mc1 := 0) (ms1 := 0) (mc := 0) (ms := 0) dX11_joins_286 mv_X11_puts lk_X11_423 sh_489 rfl (Nat.le_of_ble_eq_true rfl) (Nat.le_of_ble_eq_true rfl) h (fun r σ hq _ => ?_)
      obtain ⟨I22, rfl, rfl, h⟩ := hq
      change J _ _ _ _ _ _ _ [] _ _
      exact J_retv dX11_joins_289 rfl h
    · replace h := h.2 (fun w => c (lC_le.mpr w))
      refine J_lconst 1 dX11_joins_281 (ll_c rfl) (by decide) ?_
      refine J_goto (tgt := 286) dX11_joins_282 (by decide) ?_
      refine J_callV (as := [_]) (mc1 := 0) (ms1 := 0) (mc := 0) (ms := 0) dX11_joins_286 mv_X11_puts lk_X11_423 sh_489 rfl (Nat.le_of_ble_eq_true rfl) (Nat.le_of_ble_eq_true rfl) h (fun r σ hq _ => ?_)
      obtain ⟨I23, rfl, rfl, h⟩ := hq
      change J _ _ _ _ _ _ _ [] _ _
      exact J_retv dX11_joins_289 rfl h
  · replace h := h.2.2.2.2.2.2.2.2.1 c
    refine J_tabIn (tgt := 203) (off := 167) dX11_joins_36 (by omega) (by omega) (by rw [c]; rfl) (by decide) ?_
    refine J_aload_n dX11_joins_203 rfl rfl ?_
    refine J_lload dX11_joins_204 rfl ?_
    refine J_lload_n dX11_joins_206 rfl rfl ?_
    refine J_lcmp dX11_joins_207 ?_
    refine J_if_ge (tgt := 215) dX11_joins_208 (by decide) (fun c => ?_) (fun c => ?_)
    · replace h := h.1 (lC_ge.mp c)
      refine J_lconst 0 dX11_joins_215 (ll_c rfl) (by decide) ?_
      refine J_callV (as := [_]) (mc1 := 0) (ms1 := 0) (mc := 0) (ms := 0) dX11_joins_216 mv_X11_puts lk_X11_423 sh_489 rfl (Nat.le_of_ble_eq_true rfl) (Nat.le_of_ble_eq_true rfl) h (fun r σ hq _ => ?_)
      obtain ⟨I24, rfl, rfl, h⟩ := hq
      change J _ _ _ _ _ _ _ [] _ _
      refine J_goto (tgt := 289) dX11_joins_219 (by decide) ?_
      exact J_retv dX11_joins_289 rfl h
    · replace h := h.2 (fun w => c (lC_ge.mpr w))
      refine J_lconst 1 dX11_joins_211 (ll_c rfl) (by decide) ?_
      refine J_goto (tgt := 216) dX11_joins_212 (by decide) ?_
      refine J_callV (as := [_]) (mc1 := 0) (ms1 := 0) (mc := 0) (ms := 0) dX11_joins_216 mv_X11_puts lk_X11_423 sh_489 rfl (Nat.le_of_ble_eq_true rfl) (Nat.le_of_ble_eq_true rfl) h (fun r σ hq _ => ?_)
      obtain ⟨I25, rfl, rfl, h⟩ := hq
      change J _ _ _ _ _ _ _ [] _ _
      refine J_goto (tgt := 289) dX11_joins_219 (by decide) ?_
      exact J_retv dX11_joins_289 rfl h
  · replace h := h.2.2.2.2.2.2.2.2.2.1 c
    refine J_tabIn (tgt := 222) (off := 186) dX11_joins_36 (by omega) (by omega) (by rw [c]; rfl) (by decide) ?_
    refine J_aload_n dX11_joins_222 rfl rfl ?_
    refine J_lload dX11_joins_223 rfl ?_
    refine J_lload_n dX11_joins_225 rfl rfl ?_
    refine J_lcmp dX11_joins_226 ?_
    refine J_if_le (tgt := 234) dX11_joins_227 (by decide) (fun c => ?_) (fun c => ?_)
    · replace h := h.1 (lC_le.mp c)
      refine J_lconst 0 dX11_joins_234 (ll_c rfl) (by decide) ?_
      refine J_callV (as := [_]) (mc1 := 0) (ms1 := 0) (mc := 0) (ms := 0) dX11_joins_235 mv_X11_puts lk_X11_423 sh_489 rfl (Nat.le_of_ble_eq_true rfl) (Nat.le_of_ble_eq_true rfl) h (fun r σ hq _ => ?_)
      obtain ⟨I26, rfl, rfl, h⟩ := hq
      change J _ _ _ _ _ _ _ [] _ _
      refine J_goto (tgt := 289) dX11_joins_238 (by decide) ?_
      exact J_retv dX11_joins_289 rfl h
    · replace h := h.2 (fun w => c (lC_le.mpr w))
      refine J_lconst 1 dX11_joins_230 (ll_c rfl) (by decide) ?_
      refine J_goto (tgt := 235) dX11_joins_231 (by decide) ?_
      refine J_callV (as := [_]) (mc1 := 0) (ms1 := 0) (mc := 0) (ms := 0) dX11_joins_235 mv_X11_puts lk_X11_423 sh_489 rfl (Nat.le_of_ble_eq_true rfl) (Nat.le_of_ble_eq_true rfl) h (fun r σ hq _ => ?_)
      obtain ⟨I27, rfl, rfl, h⟩ := hq
      change J _ _ _ _ _ _ _ [] _ _
      refine J_goto (tgt := 289) dX11_joins_238 (by decide) ?_
      exact J_retv dX11_joins_289 rfl h
  · replace h := h.2.2.2.2.2.2.2.2.2.2.1 c
    refine J_tabIn (tgt := 241) (off := 205) dX11_joins_36 (by omega) (by omega) (by rw [c]; rfl) (by decide) ?_
    refine J_aload_n dX11_joins_241 rfl rfl ?_
    refine J_lload dX11_joins_242 rfl ?_
    refine J_lload_n dX11_joins_244 rfl rfl ?_
    refine J_lcmp dX11_joins_245 ?_
    refine J_if_ne (tgt := 253) dX11_joins_246 (by decide) (fun c => ?_) (fun c => ?_)
    · replace h := h.1 (fun w => c (lC_eq.mpr w))
      refine J_lconst 0 dX11_joins_253 (ll_c rfl) (by decide) ?_
      refine J_callV (as := [_]) (mc1 := 0) (ms1 := 0) (mc := 0) (ms := 0) dX11_joins_254 mv_X11_puts lk_X11_423 sh_489 rfl (Nat.le_of_ble_eq_true rfl) (Nat.le_of_ble_eq_true rfl) h (fun r σ hq _ => ?_)
      obtain ⟨I28, rfl, rfl, h⟩ := hq
      change J _ _ _ _ _ _ _ [] _ _
      refine J_goto (tgt := 289) dX11_joins_257 (by decide) ?_
      exact J_retv dX11_joins_289 rfl h
    · replace h := h.2 (lC_eq.mp c)
      refine J_lconst 1 dX11_joins_249 (ll_c rfl) (by decide) ?_
      refine J_goto (tgt := 254) dX11_joins_250 (by decide) ?_
      refine J_callV (as := [_]) (mc1 := 0) (ms1 := 0) (mc := 0) (ms := 0) dX11_joins_254 mv_X11_puts lk_X11_423 sh_489 rfl (Nat.le_of_ble_eq_true rfl) (Nat.le_of_ble_eq_true rfl) h (fun r σ hq _ => ?_)
      obtain ⟨I29, rfl, rfl, h⟩ := hq
      change J _ _ _ _ _ _ _ [] _ _
      refine J_goto (tgt := 289) dX11_joins_257 (by decide) ?_
      exact J_retv dX11_joins_289 rfl h
  · replace h := h.2.2.2.2.2.2.2.2.2.2.2 c
    refine J_tabIn (tgt := 260) (off := 224) dX11_joins_36 (by omega) (by omega) (by rw [c]; rfl) (by decide) ?_
    refine J_aload_n dX11_joins_260 rfl rfl ?_
    refine J_lload dX11_joins_261 rfl ?_
    refine J_lload_n dX11_joins_263 rfl rfl ?_
    refine J_lmulN dX11_joins_264 h.1 ?_
    replace h := h.2
    refine J_callV (as := [_]) (mc1 := 0) (ms1 := 0) (mc := 0) (ms := 0) dX11_joins_265 mv_X11_puts lk_X11_423 sh_489 rfl (Nat.le_of_ble_eq_true rfl) (Nat.le_of_ble_eq_true rfl) h (fun r σ hq _ => ?_)
    obtain ⟨I30, rfl, rfl, h⟩ := hq
    change J _ _ _ _ _ _ _ [] _ _
    refine J_goto (tgt := 289) dX11_joins_268 (by decide) ?_
    exact J_retv dX11_joins_289 rfl h
set_option maxRecDepth 20000 in
set_option maxHeartbeats 2000000 in
theorem bk_X11_holds_0 {d : Nat} {I : HI} {Q : Option AV → AH → Prop} {a1 : Int}  (h : (∀ I1 : HI, I1 = up I 489 56 0 → (-2147483648 ≤ 6 + a1 ∧ 6 + a1 ≤ 2147483647) ∧ ((0 : Int) ≤ (6 + a1) ∧ (6 + a1 : Int) < 12) ∧ J none mX11_holds (d + 1) 0 0 15 [(0, vR 489), (1, vI a1), (2, vI (I1 526 (6 + a1).toNat))] [] (mk I1) Q)) : J none mX11_holds (d + 1) 0 0 0 [(0, vR 489), (1, vI a1)] [] (mk I) Q := by
  refine J_aload_n dX11_holds_0 rfl rfl ?_
  refine J_iconst dX11_holds_1 (ii_c rfl) ?_
  refine J_putI dX11_holds_2 ck_11 fw_X11_416 rfl rfl (Or.inl rfl) sh_489 ?_
  replace h := h _ rfl
  refine J_aload_n dX11_holds_5 rfl rfl ?_
  refine J_getR dX11_holds_6 ck_11 fw_X11_127 rfl sh_489 rr_489_51 ?_
  refine J_bipush dX11_holds_9 (ii_c rfl) (by decide) ?_
  refine J_iload_n dX11_holds_11 rfl rfl ?_
  refine J_iaddN dX11_holds_12 h.1 ?_
  replace h := h.2
  refine J_iald dX11_holds_13 sh_526 h.1.1 h.1.2 ?_
  replace h := h.2
  refine J_istore_n dX11_holds_14 rfl (by decide) ?_
  exact h
set_option maxRecDepth 20000 in
set_option maxHeartbeats 2000000 in
theorem bk_X11_holds_15 {d : Nat} {I : HI} {Q : Option AV → AH → Prop} {a1 : Int} {a2 : Int}  (h : (-2147483648 ≤ 6 + a1 ∧ 6 + a1 ≤ 2147483647) ∧ ((0 : Int) ≤ (6 + a1) ∧ (6 + a1 : Int) < 12) ∧ (((I 527 (6 + a1).toNat) ≤ a2 → (((I 529 0) ≠ 1 → Q (some (vI 0)) (mk I)) ∧ ((I 529 0) = 1 → Q (some (vI 1)) (mk I)))) ∧ (¬ ((I 527 (6 + a1).toNat) ≤ a2) → (-2147483648 ≤ 1600 + a2 ∧ 1600 + a2 ≤ 2147483647) ∧ ((0 : Int) ≤ (1600 + a2) ∧ (1600 + a2 : Int) < 3200) ∧ (((I 524 (1600 + a2).toNat) < 1000 → (((I 524 (1600 + a2).toNat) ≠ 17 → (((I 524 (1600 + a2).toNat) ≠ 16 → CI mX11_isIn d [vL (I 524 (1600 + a2).toNat), vL 7, vL 10] I (fun x1 I1 => ((x1 ≠ 0 → (((I 524 (1600 + a2).toNat) ≠ 18 → (-2147483648 ≤ (I 524 (1600 + a2).toNat) - 7 ∧ (I 524 (1600 + a2).toNat) - 7 ≤ 2147483647) ∧ ((0 : Int) ≤ ((I 524 (1600 + a2).toNat) - 7) ∧ ((I 524 (1600 + a2).toNat) - 7 : Int) < 5) ∧ CV mX11_puts d [vR 489, vL (I1 530 ((I 524 (1600 + a2).toNat) - 7).toNat)] I1 (fun I2 => (-2147483648 ≤ a2 + 1 ∧ a2 + 1 ≤ 2147483647) ∧ J none mX11_holds (d + 1) 0 0 15 [(0, vR 489), (1, vI a1), (2, vI (a2 + 1))] [] (mk I2) Q)) ∧ ((I 524 (1600 + a2).toNat) = 18 → CV mX11_puts d [vR 489, vL (I1 530 4)] I1 (fun I3 => (-2147483648 ≤ a2 + 1 ∧ a2 + 1 ≤ 2147483647) ∧ J none mX11_holds (d + 1) 0 0 15 [(0, vR 489), (1, vI a1), (2, vI (a2 + 1))] [] (mk I3) Q)))) ∧ (x1 = 0 → (((I 524 (1600 + a2).toNat) ≠ 18 → CV mX11_joins d [vR 489, vI (I 524 (1600 + a2).toNat)] I1 (fun I4 => (-2147483648 ≤ a2 + 1 ∧ a2 + 1 ≤ 2147483647) ∧ J none mX11_holds (d + 1) 0 0 15 [(0, vR 489), (1, vI a1), (2, vI (a2 + 1))] [] (mk I4) Q)) ∧ ((I 524 (1600 + a2).toNat) = 18 → (((I 524 (1600 + a2).toNat) ≠ 18 → (-2147483648 ≤ (I 524 (1600 + a2).toNat) - 7 ∧ (I 524 (1600 + a2).toNat) - 7 ≤ 2147483647) ∧ ((0 : Int) ≤ ((I 524 (1600 + a2).toNat) - 7) ∧ ((I 524 (1600 + a2).toNat) - 7 : Int) < 5) ∧ CV mX11_puts d [vR 489, vL (I1 530 ((I 524 (1600 + a2).toNat) - 7).toNat)] I1 (fun I5 => (-2147483648 ≤ a2 + 1 ∧ a2 + 1 ≤ 2147483647) ∧ J none mX11_holds (d + 1) 0 0 15 [(0, vR 489), (1, vI a1), (2, vI (a2 + 1))] [] (mk I5) Q)) ∧ ((I 524 (1600 + a2).toNat) = 18 → CV mX11_puts d [vR 489, vL (I1 530 4)] I1 (fun I6 => (-2147483648 ≤ a2 + 1 ∧ a2 + 1 ≤ 2147483647) ∧ J none mX11_holds (d + 1) 0 0 15 [(0, vR 489), (1, vI a1), (2, vI (a2 + 1))] [] (mk I6) Q))))))))) ∧ ((I 524 (1600 + a2).toNat) = 16 → (-2147483648 ≤ (I 489 56) - 1 ∧ (I 489 56) - 1 ≤ 2147483647) ∧ (-2147483648 ≤ (I 489 56) - 1 ∧ (I 489 56) - 1 ≤ 2147483647) ∧ ((0 : Int) ≤ ((I 489 56) - 1) ∧ ((I 489 56) - 1 : Int) < 1700) ∧ (-9223372036854775808 ≤ 1 - (I 529 ((I 489 56) - 1).toNat) ∧ 1 - (I 529 ((I 489 56) - 1).toNat) ≤ 9223372036854775807) ∧ ((0 : Int) ≤ ((I 489 56) - 1) ∧ ((I 489 56) - 1 : Int) < 1700) ∧ (∀ I7 : HI, I7 = up I 529 ((I 489 56) - 1).toNat (1 - (I 529 ((I 489 56) - 1).toNat)) → (-2147483648 ≤ a2 + 1 ∧ a2 + 1 ≤ 2147483647) ∧ J none mX11_holds (d + 1) 0 0 15 [(0, vR 489), (1, vI a1), (2, vI (a2 + 1))] [] (mk I7) Q)))) ∧ ((I 524 (1600 + a2).toNat) = 17 → CV mX11_puts d [vR 489, vL 1] I (fun I8 => (-2147483648 ≤ a2 + 1 ∧ a2 + 1 ≤ 2147483647) ∧ J none mX11_holds (d + 1) 0 0 15 [(0, vR 489), (1, vI a1), (2, vI (a2 + 1))] [] (mk I8) Q)))) ∧ (¬ ((I 524 (1600 + a2).toNat) < 1000) → (-2147483648 ≤ (I 524 (1600 + a2).toNat) - 1000 ∧ (I 524 (1600 + a2).toNat) - 1000 ≤ 2147483647) ∧ CV mX11_puts d [vR 489, vL ((I 524 (1600 + a2).toNat) - 1000)] I (fun I9 => (-2147483648 ≤ a2 + 1 ∧ a2 + 1 ≤ 2147483647) ∧ J none mX11_holds (d + 1) 0 0 15 [(0, vR 489), (1, vI a1), (2, vI (a2 + 1))] [] (mk I9) Q)))))) : J none mX11_holds (d + 1) 0 0 15 [(0, vR 489), (1, vI a1), (2, vI a2)] [] (mk I) Q := by
  refine J_iload_n dX11_holds_15 rfl rfl ?_
  refine J_aload_n dX11_holds_16 rfl rfl ?_
  refine J_getR dX11_holds_17 ck_11 fw_X11_130 rfl sh_489 rr_489_52 ?_
  refine J_bipush dX11_holds_20 (ii_c rfl) (by decide) ?_
  refine J_iload_n dX11_holds_22 rfl rfl ?_
  refine J_iaddN dX11_holds_23 h.1 ?_
  replace h := h.2
  refine J_iald dX11_holds_24 sh_527 h.1.1 h.1.2 ?_
  replace h := h.2
  refine J_ic_ge (tgt := 164) dX11_holds_25 (by decide) (fun c => ?_) (fun c => ?_)
  · replace h := h.1 c
    refine J_aload_n dX11_holds_164 rfl rfl ?_
    refine J_getR dX11_holds_165 ck_11 fw_X11_136 rfl sh_489 rr_489_55 ?_
    refine J_iconst dX11_holds_168 (ii_c rfl) ?_
    refine J_lald dX11_holds_169 sh_529 (by decide) (by decide) ?_
    refine J_lconst 1 dX11_holds_170 (ll_c rfl) (by decide) ?_
    refine J_lcmp dX11_holds_171 ?_
    refine J_if_ne (tgt := 179) dX11_holds_172 (by decide) (fun c => ?_) (fun c => ?_)
    · replace h := h.1 (fun w => c (lC_eq.mpr w))
      refine J_iconst dX11_holds_179 (ii_c rfl) ?_
      exact J_retz dX11_holds_180 rfl (Or.inl rfl) h
    · replace h := h.2 (lC_eq.mp c)
      refine J_iconst dX11_holds_175 (ii_c rfl) ?_
      refine J_goto (tgt := 180) dX11_holds_176 (by decide) ?_
      exact J_retz dX11_holds_180 rfl (Or.inr rfl) h
  · replace h := h.2 c
    refine J_aload_n dX11_holds_28 rfl rfl ?_
    refine J_getR dX11_holds_29 ck_11 fw_X11_121 rfl sh_489 rr_489_46 ?_
    refine J_sipush dX11_holds_32 (ii_c rfl) (by decide) ?_
    refine J_iload_n dX11_holds_35 rfl rfl ?_
    refine J_iaddN dX11_holds_36 h.1 ?_
    replace h := h.2
    refine J_iald dX11_holds_37 sh_524 h.1.1 h.1.2 ?_
    replace h := h.2
    refine J_istore_n dX11_holds_38 rfl (by decide) ?_
    refine J_iload_n dX11_holds_39 rfl rfl ?_
    refine J_sipush dX11_holds_40 (ii_c rfl) (by decide) ?_
    refine J_ic_lt (tgt := 59) dX11_holds_43 (by decide) (fun c => ?_) (fun c => ?_)
    · replace h := h.1 c
      refine J_iload_n dX11_holds_59 rfl rfl ?_
      refine J_bipush dX11_holds_60 (ii_c rfl) (by decide) ?_
      refine J_ic_ne (tgt := 73) dX11_holds_62 (by decide) (fun c => ?_) (fun c => ?_)
      · replace h := h.1 c
        refine J_iload_n dX11_holds_73 rfl rfl ?_
        refine J_bipush dX11_holds_74 (ii_c rfl) (by decide) ?_
        refine J_ic_ne (tgt := 106) dX11_holds_76 (by decide) (fun c => ?_) (fun c => ?_)
        · replace h := h.1 c
          refine J_iload_n dX11_holds_106 rfl rfl ?_
          refine J_i2l dX11_holds_107 ?_
          refine J_ldc2 7 dX11_holds_108 kw_X11_431 (ll_c rfl) ?_
          refine J_ldc2 10 dX11_holds_111 kw_X11_433 (ll_c rfl) ?_
          refine J_callS (as := [_, _, _]) (mc1 := 0) (ms1 := 0) (mc := 0) (ms := 0) dX11_holds_114 ms_X11_isIn lk_X11_264 rfl (Nat.le_of_ble_eq_true rfl) (Nat.le_of_ble_eq_true rfl) h (fun r σ hq _ => ?_)
          obtain ⟨x1, I1, rfl, rfl, h⟩ := hq
          change J _ _ _ _ _ _ _ [vI x1] _ _
          refine J_if_ne (tgt := 126) dX11_holds_117 (by decide) (fun c => ?_) (fun c => ?_)
          · replace h := h.1 c
            refine J_aload_n dX11_holds_126 rfl rfl ?_
            refine J_aload_n dX11_holds_127 rfl rfl ?_
            refine J_getR dX11_holds_128 ck_11 fw_X11_139 rfl sh_489 rr_489_57 ?_
            refine J_iload_n dX11_holds_131 rfl rfl ?_
            refine J_bipush dX11_holds_132 (ii_c rfl) (by decide) ?_
            refine J_ic_ne (tgt := 141) dX11_holds_134 (by decide) (fun c => ?_) (fun c => ?_)
            · replace h := h.1 c
              refine J_iload_n dX11_holds_141 rfl rfl ?_
              refine J_bipush dX11_holds_142 (ii_c rfl) (by decide) ?_
              refine J_isubN dX11_holds_144 h.1 ?_
              replace h := h.2
              refine J_iald dX11_holds_145 sh_530 h.1.1 h.1.2 ?_
              replace h := h.2
              refine J_i2l dX11_holds_146 ?_
              refine J_callV (as := [_]) (mc1 := 0) (ms1 := 0) (mc := 0) (ms := 0) dX11_holds_147 mv_X11_puts lk_X11_423 sh_489 rfl (Nat.le_of_ble_eq_true rfl) (Nat.le_of_ble_eq_true rfl) h (fun r σ hq _ => ?_)
              obtain ⟨I2, rfl, rfl, h⟩ := hq
              change J _ _ _ _ _ _ _ [] _ _
              refine J_goto (tgt := 158) dX11_holds_150 (by decide) ?_
              refine J_iincN dX11_holds_158 rfl (by decide) h.1 ?_
              replace h := h.2
              refine J_goto (tgt := 15) dX11_holds_161 (by decide) ?_
              exact J_loc (ls_sub [0, 1, 2] rfl) h
            · replace h := h.2 c
              refine J_iconst dX11_holds_137 (ii_c rfl) ?_
              refine J_goto (tgt := 145) dX11_holds_138 (by decide) ?_
              refine J_iald dX11_holds_145 sh_530 (by decide) (by decide) ?_
              refine J_i2l dX11_holds_146 ?_
              refine J_callV (as := [_]) (mc1 := 0) (ms1 := 0) (mc := 0) (ms := 0) dX11_holds_147 mv_X11_puts lk_X11_423 sh_489 rfl (Nat.le_of_ble_eq_true rfl) (Nat.le_of_ble_eq_true rfl) h (fun r σ hq _ => ?_)
              obtain ⟨I3, rfl, rfl, h⟩ := hq
              change J _ _ _ _ _ _ _ [] _ _
              refine J_goto (tgt := 158) dX11_holds_150 (by decide) ?_
              refine J_iincN dX11_holds_158 rfl (by decide) h.1 ?_
              replace h := h.2
              refine J_goto (tgt := 15) dX11_holds_161 (by decide) ?_
              exact J_loc (ls_sub [0, 1, 2] rfl) h
          · replace h := h.2 c
            refine J_iload_n dX11_holds_120 rfl rfl ?_
            refine J_bipush dX11_holds_121 (ii_c rfl) (by decide) ?_
            refine J_ic_ne (tgt := 153) dX11_holds_123 (by decide) (fun c => ?_) (fun c => ?_)
            · replace h := h.1 c
              refine J_aload_n dX11_holds_153 rfl rfl ?_
              refine J_iload_n dX11_holds_154 rfl rfl ?_
              refine J_callV (as := [_]) (mc1 := 0) (ms1 := 0) (mc := 0) (ms := 0) dX11_holds_155 mv_X11_joins lk_X11_435 sh_489 rfl (Nat.le_of_ble_eq_true rfl) (Nat.le_of_ble_eq_true rfl) h (fun r σ hq _ => ?_)
              obtain ⟨I4, rfl, rfl, h⟩ := hq
              change J _ _ _ _ _ _ _ [] _ _
              refine J_iincN dX11_holds_158 rfl (by decide) h.1 ?_
              replace h := h.2
              refine J_goto (tgt := 15) dX11_holds_161 (by decide) ?_
              exact J_loc (ls_sub [0, 1, 2] rfl) h
            · replace h := h.2 c
              refine J_aload_n dX11_holds_126 rfl rfl ?_
              refine J_aload_n dX11_holds_127 rfl rfl ?_
              refine J_getR dX11_holds_128 ck_11 fw_X11_139 rfl sh_489 rr_489_57 ?_
              refine J_iload_n dX11_holds_131 rfl rfl ?_
              refine J_bipush dX11_holds_132 (ii_c rfl) (by decide) ?_
              refine J_ic_ne (tgt := 141) dX11_holds_134 (by decide) (fun c => ?_) (fun c => ?_)
              · replace h := h.1 c
                refine J_iload_n dX11_holds_141 rfl rfl ?_
                refine J_bipush dX11_holds_142 (ii_c rfl) (by decide) ?_
                refine J_isubN dX11_holds_144 h.1 ?_
                replace h := h.2
                refine J_iald dX11_holds_145 sh_530 h.1.1 h.1.2 ?_
                replace h := h.2
                refine J_i2l dX11_holds_146 ?_
                refine J_callV (as := [_]) (mc1 := 0) (ms1 := 0) (mc := 0) (ms := 0) dX11_holds_147 mv_X11_puts lk_X11_423 sh_489 rfl (Nat.le_of_ble_eq_true rfl) (Nat.le_of_ble_eq_true rfl) h (fun r σ hq _ => ?_)
                obtain ⟨I5, rfl, rfl, h⟩ := hq
                change J _ _ _ _ _ _ _ [] _ _
                refine J_goto (tgt := 158) dX11_holds_150 (by decide) ?_
                refine J_iincN dX11_holds_158 rfl (by decide) h.1 ?_
                replace h := h.2
                refine J_goto (tgt := 15) dX11_holds_161 (by decide) ?_
                exact J_loc (ls_sub [0, 1, 2] rfl) h
              · replace h := h.2 c
                refine J_iconst dX11_holds_137 (ii_c rfl) ?_
                refine J_goto (tgt := 145) dX11_holds_138 (by decide) ?_
                refine J_iald dX11_holds_145 sh_530 (by decide) (by decide) ?_
                refine J_i2l dX11_holds_146 ?_
                refine J_callV (as := [_]) (mc1 := 0) (ms1 := 0) (mc := 0) (ms := 0) dX11_holds_147 mv_X11_puts lk_X11_423 sh_489 rfl (Nat.le_of_ble_eq_true rfl) (Nat.le_of_ble_eq_true rfl) h (fun r σ hq _ => ?_)
                obtain ⟨I6, rfl, rfl, h⟩ := hq
                change J _ _ _ _ _ _ _ [] _ _
                refine J_goto (tgt := 158) dX11_holds_150 (by decide) ?_
                refine J_iincN dX11_holds_158 rfl (by decide) h.1 ?_
                replace h := h.2
                refine J_goto (tgt := 15) dX11_holds_161 (by decide) ?_
                exact J_loc (ls_sub [0, 1, 2] rfl) h
        · replace h := h.2 c
          refine J_aload_n dX11_holds_79 rfl rfl ?_
          refine J_getR dX11_holds_80 ck_11 fw_X11_136 rfl sh_489 rr_489_55 ?_
          refine J_aload_n dX11_holds_83 rfl rfl ?_
          refine J_getI dX11_holds_84 ck_11 fw_X11_416 rfl sh_489 ?_
          refine J_iconst dX11_holds_87 (ii_c rfl) ?_
          refine J_isubN dX11_holds_88 h.1 ?_
          replace h := h.2
          refine J_lconst 1 dX11_holds_89 (ll_c rfl) (by decide) ?_
          refine J_aload_n dX11_holds_90 rfl rfl ?_
          refine J_getR dX11_holds_91 ck_11 fw_X11_136 rfl sh_489 rr_489_55 ?_
          refine J_aload_n dX11_holds_94 rfl rfl ?_
          refine J_getI dX11_holds_95 ck_11 fw_X11_416 rfl sh_489 ?_
          refine J_iconst dX11_holds_98 (ii_c rfl) ?_
          refine J_isubN dX11_holds_99 h.1 ?_
          replace h := h.2
          refine J_lald dX11_holds_100 sh_529 h.1.1 h.1.2 ?_
          replace h := h.2
          refine J_lsubN dX11_holds_101 h.1 ?_
          replace h := h.2
          refine J_last dX11_holds_102 sh_529 h.1.1 h.1.2 ?_
          replace h := h.2 _ rfl
          refine J_goto (tgt := 158) dX11_holds_103 (by decide) ?_
          refine J_iincN dX11_holds_158 rfl (by decide) h.1 ?_
          replace h := h.2
          refine J_goto (tgt := 15) dX11_holds_161 (by decide) ?_
          exact J_loc (ls_sub [0, 1, 2] rfl) h
      · replace h := h.2 c
        refine J_aload_n dX11_holds_65 rfl rfl ?_
        refine J_lconst 1 dX11_holds_66 (ll_c rfl) (by decide) ?_
        refine J_callV (as := [_]) (mc1 := 0) (ms1 := 0) (mc := 0) (ms := 0) dX11_holds_67 mv_X11_puts lk_X11_423 sh_489 rfl (Nat.le_of_ble_eq_true rfl) (Nat.le_of_ble_eq_true rfl) h (fun r σ hq _ => ?_)
        obtain ⟨I8, rfl, rfl, h⟩ := hq
        change J _ _ _ _ _ _ _ [] _ _
        refine J_goto (tgt := 158) dX11_holds_70 (by decide) ?_
        refine J_iincN dX11_holds_158 rfl (by decide) h.1 ?_
        replace h := h.2
        refine J_goto (tgt := 15) dX11_holds_161 (by decide) ?_
        exact J_loc (ls_sub [0, 1, 2] rfl) h
    · replace h := h.2 c
      refine J_aload_n dX11_holds_46 rfl rfl ?_
      refine J_iload_n dX11_holds_47 rfl rfl ?_
      refine J_sipush dX11_holds_48 (ii_c rfl) (by decide) ?_
      refine J_isubN dX11_holds_51 h.1 ?_
      replace h := h.2
      refine J_i2l dX11_holds_52 ?_
      refine J_callV (as := [_]) (mc1 := 0) (ms1 := 0) (mc := 0) (ms := 0) dX11_holds_53 mv_X11_puts lk_X11_423 sh_489 rfl (Nat.le_of_ble_eq_true rfl) (Nat.le_of_ble_eq_true rfl) h (fun r σ hq _ => ?_)
      obtain ⟨I9, rfl, rfl, h⟩ := hq
      change J _ _ _ _ _ _ _ [] _ _
      refine J_goto (tgt := 158) dX11_holds_56 (by decide) ?_
      refine J_iincN dX11_holds_158 rfl (by decide) h.1 ?_
      replace h := h.2
      refine J_goto (tgt := 15) dX11_holds_161 (by decide) ?_
      exact J_loc (ls_sub [0, 1, 2] rfl) h
set_option maxRecDepth 20000 in
set_option maxHeartbeats 2000000 in
theorem bk_X11_isExcepted_0 {d : Nat} {I : HI} {Q : Option AV → AH → Prop} {a1 : Int} {a2 : Int} {a3 : Int} {a4 : Int} {a5 : Int}  (h : (((I 489 64) ≠ 0 → (∀ I1 : HI, I1 = up I 530 0 a1 → (∀ I2 : HI, I2 = up I1 530 1 a2 → (∀ I3 : HI, I3 = up I2 530 2 a3 → ((a5 ≤ a4 → (∀ I4 : HI, I4 = up I3 530 3 a5 → ((a5 ≤ a4 → (∀ I5 : HI, I5 = up I4 530 4 a4 → J none mX11_isExcepted (d + 1) 0 0 73 [(0, vR 489), (1, vI a1), (2, vI a2), (3, vI a3), (4, vI a4), (5, vI a5), (6, vI 0)] [] (mk I5) Q)) ∧ (¬ (a5 ≤ a4) → (∀ I6 : HI, I6 = up I4 530 4 a5 → J none mX11_isExcepted (d + 1) 0 0 73 [(0, vR 489), (1, vI a1), (2, vI a2), (3, vI a3), (4, vI a4), (5, vI a5), (6, vI 0)] [] (mk I6) Q))))) ∧ (¬ (a5 ≤ a4) → (∀ I7 : HI, I7 = up I3 530 3 a4 → ((a5 ≤ a4 → (∀ I8 : HI, I8 = up I7 530 4 a4 → J none mX11_isExcepted (d + 1) 0 0 73 [(0, vR 489), (1, vI a1), (2, vI a2), (3, vI a3), (4, vI a4), (5, vI a5), (6, vI 0)] [] (mk I8) Q)) ∧ (¬ (a5 ≤ a4) → (∀ I9 : HI, I9 = up I7 530 4 a5 → J none mX11_isExcepted (d + 1) 0 0 73 [(0, vR 489), (1, vI a1), (2, vI a2), (3, vI a3), (4, vI a4), (5, vI a5), (6, vI 0)] [] (mk I9) Q)))))))))) ∧ ((I 489 64) = 0 → Q (some (vI 0)) (mk I)))) : J none mX11_isExcepted (d + 1) 0 0 0 [(0, vR 489), (1, vI a1), (2, vI a2), (3, vI a3), (4, vI a4), (5, vI a5)] [] (mk I) Q := by
  refine J_aload_n dX11_isExcepted_0 rfl rfl ?_
  refine J_getI dX11_isExcepted_1 ck_11 fw_X11_361 rfl sh_489 ?_
  refine J_if_ne (tgt := 9) dX11_isExcepted_4 (by decide) (fun c => ?_) (fun c => ?_)
  · replace h := h.1 c
    refine J_aload_n dX11_isExcepted_9 rfl rfl ?_
    refine J_getR dX11_isExcepted_10 ck_11 fw_X11_139 rfl sh_489 rr_489_57 ?_
    refine J_iconst dX11_isExcepted_13 (ii_c rfl) ?_
    refine J_iload_n dX11_isExcepted_14 rfl rfl ?_
    refine J_iast dX11_isExcepted_15 sh_530 (by decide) (by decide) ?_
    replace h := h _ rfl
    refine J_aload_n dX11_isExcepted_16 rfl rfl ?_
    refine J_getR dX11_isExcepted_17 ck_11 fw_X11_139 rfl sh_489 rr_489_57 ?_
    refine J_iconst dX11_isExcepted_20 (ii_c rfl) ?_
    refine J_iload_n dX11_isExcepted_21 rfl rfl ?_
    refine J_iast dX11_isExcepted_22 sh_530 (by decide) (by decide) ?_
    replace h := h _ rfl
    refine J_aload_n dX11_isExcepted_23 rfl rfl ?_
    refine J_getR dX11_isExcepted_24 ck_11 fw_X11_139 rfl sh_489 rr_489_57 ?_
    refine J_iconst dX11_isExcepted_27 (ii_c rfl) ?_
    refine J_iload_n dX11_isExcepted_28 rfl rfl ?_
    refine J_iast dX11_isExcepted_29 sh_530 (by decide) (by decide) ?_
    replace h := h _ rfl
    refine J_aload_n dX11_isExcepted_30 rfl rfl ?_
    refine J_getR dX11_isExcepted_31 ck_11 fw_X11_139 rfl sh_489 rr_489_57 ?_
    refine J_iconst dX11_isExcepted_34 (ii_c rfl) ?_
    refine J_iload dX11_isExcepted_35 rfl ?_
    refine J_iload dX11_isExcepted_37 rfl ?_
    refine J_ic_ge (tgt := 47) dX11_isExcepted_39 (by decide) (fun c => ?_) (fun c => ?_)
    · replace h := h.1 c
      refine J_iload dX11_isExcepted_47 rfl ?_
      refine J_iast dX11_isExcepted_49 sh_530 (by decide) (by decide) ?_
      replace h := h _ rfl
      refine J_aload_n dX11_isExcepted_50 rfl rfl ?_
      refine J_getR dX11_isExcepted_51 ck_11 fw_X11_139 rfl sh_489 rr_489_57 ?_
      refine J_iconst dX11_isExcepted_54 (ii_c rfl) ?_
      refine J_iload dX11_isExcepted_55 rfl ?_
      refine J_iload dX11_isExcepted_57 rfl ?_
      refine J_ic_ge (tgt := 67) dX11_isExcepted_59 (by decide) (fun c => ?_) (fun c => ?_)
      · replace h := h.1 c
        refine J_iload dX11_isExcepted_67 rfl ?_
        refine J_iast dX11_isExcepted_69 sh_530 (by decide) (by decide) ?_
        replace h := h _ rfl
        refine J_iconst dX11_isExcepted_70 (ii_c rfl) ?_
        refine J_istore dX11_isExcepted_71 (by decide) ?_
        exact h
      · replace h := h.2 c
        refine J_iload dX11_isExcepted_62 rfl ?_
        refine J_goto (tgt := 69) dX11_isExcepted_64 (by decide) ?_
        refine J_iast dX11_isExcepted_69 sh_530 (by decide) (by decide) ?_
        replace h := h _ rfl
        refine J_iconst dX11_isExcepted_70 (ii_c rfl) ?_
        refine J_istore dX11_isExcepted_71 (by decide) ?_
        exact h
    · replace h := h.2 c
      refine J_iload dX11_isExcepted_42 rfl ?_
      refine J_goto (tgt := 49) dX11_isExcepted_44 (by decide) ?_
      refine J_iast dX11_isExcepted_49 sh_530 (by decide) (by decide) ?_
      replace h := h _ rfl
      refine J_aload_n dX11_isExcepted_50 rfl rfl ?_
      refine J_getR dX11_isExcepted_51 ck_11 fw_X11_139 rfl sh_489 rr_489_57 ?_
      refine J_iconst dX11_isExcepted_54 (ii_c rfl) ?_
      refine J_iload dX11_isExcepted_55 rfl ?_
      refine J_iload dX11_isExcepted_57 rfl ?_
      refine J_ic_ge (tgt := 67) dX11_isExcepted_59 (by decide) (fun c => ?_) (fun c => ?_)
      · replace h := h.1 c
        refine J_iload dX11_isExcepted_67 rfl ?_
        refine J_iast dX11_isExcepted_69 sh_530 (by decide) (by decide) ?_
        replace h := h _ rfl
        refine J_iconst dX11_isExcepted_70 (ii_c rfl) ?_
        refine J_istore dX11_isExcepted_71 (by decide) ?_
        exact h
      · replace h := h.2 c
        refine J_iload dX11_isExcepted_62 rfl ?_
        refine J_goto (tgt := 69) dX11_isExcepted_64 (by decide) ?_
        refine J_iast dX11_isExcepted_69 sh_530 (by decide) (by decide) ?_
        replace h := h _ rfl
        refine J_iconst dX11_isExcepted_70 (ii_c rfl) ?_
        refine J_istore dX11_isExcepted_71 (by decide) ?_
        exact h
  · replace h := h.2 c
    refine J_iconst dX11_isExcepted_7 (ii_c rfl) ?_
    exact J_retz dX11_isExcepted_8 rfl (Or.inl rfl) h
set_option maxRecDepth 20000 in
set_option maxHeartbeats 2000000 in
theorem bk_X11_isExcepted_73 {d : Nat} {I : HI} {Q : Option AV → AH → Prop} {a1 : Int} {a2 : Int} {a3 : Int} {a4 : Int} {a5 : Int} {a6 : Int}  (h : CI mX11_exceptions d [vR 489] I (fun x1 I1 => ((x1 ≤ a6 → Q (some (vI 0)) (mk I1)) ∧ (¬ (x1 ≤ a6) → (((oA (oSr (I1 489 64) a6) 1) ≠ 1 → (-2147483648 ≤ a6 + 1 ∧ a6 + 1 ≤ 2147483647) ∧ J none mX11_isExcepted (d + 1) 0 0 73 [(0, vR 489), (1, vI a1), (2, vI a2), (3, vI a3), (4, vI a4), (5, vI a5), (6, vI (a6 + 1))] [] (mk I1) Q) ∧ ((oA (oSr (I1 489 64) a6) 1) = 1 → CI mX11_holds d [vR 489, vI a6] I1 (fun x2 I2 => ((x2 = 0 → (-2147483648 ≤ a6 + 1 ∧ a6 + 1 ≤ 2147483647) ∧ J none mX11_isExcepted (d + 1) 0 0 73 [(0, vR 489), (1, vI a1), (2, vI a2), (3, vI a3), (4, vI a4), (5, vI a5), (6, vI (a6 + 1))] [] (mk I2) Q) ∧ (¬ (x2 = 0) → Q (some (vI 1)) (mk I2)))))))))) : J none mX11_isExcepted (d + 1) 0 0 73 [(0, vR 489), (1, vI a1), (2, vI a2), (3, vI a3), (4, vI a4), (5, vI a5), (6, vI a6)] [] (mk I) Q := by
  refine J_iload dX11_isExcepted_73 rfl ?_
  refine J_aload_n dX11_isExcepted_75 rfl rfl ?_
  refine J_callV (as := []) (mc1 := 0) (ms1 := 0) (mc := 0) (ms := 0) dX11_isExcepted_76 mv_X11_exceptions lk_X11_438 sh_489 rfl (Nat.le_of_ble_eq_true rfl) (Nat.le_of_ble_eq_true rfl) h (fun r σ hq _ => ?_)
  obtain ⟨x1, I1, rfl, rfl, h⟩ := hq
  change J _ _ _ _ _ _ _ [vI x1, vI a6] _ _
  refine J_ic_ge (tgt := 112) dX11_isExcepted_79 (by decide) (fun c => ?_) (fun c => ?_)
  · replace h := h.1 c
    refine J_iconst dX11_isExcepted_112 (ii_c rfl) ?_
    exact J_retz dX11_isExcepted_113 rfl (Or.inl rfl) h
  · replace h := h.2 c
    refine J_aload_n dX11_isExcepted_82 rfl rfl ?_
    refine J_getI dX11_isExcepted_83 ck_11 fw_X11_361 rfl sh_489 ?_
    refine J_iload dX11_isExcepted_86 rfl ?_
    refine J_ishr dX11_isExcepted_88 ?_
    refine J_iconst dX11_isExcepted_89 (ii_c rfl) ?_
    refine J_iand dX11_isExcepted_90 ?_
    refine J_iconst dX11_isExcepted_91 (ii_c rfl) ?_
    refine J_ic_ne (tgt := 106) dX11_isExcepted_92 (by decide) (fun c => ?_) (fun c => ?_)
    · replace h := h.1 c
      refine J_iincN dX11_isExcepted_106 rfl (by decide) h.1 ?_
      replace h := h.2
      refine J_goto (tgt := 73) dX11_isExcepted_109 (by decide) ?_
      exact h
    · replace h := h.2 c
      refine J_aload_n dX11_isExcepted_95 rfl rfl ?_
      refine J_iload dX11_isExcepted_96 rfl ?_
      refine J_callV (as := [_]) (mc1 := 0) (ms1 := 0) (mc := 0) (ms := 0) dX11_isExcepted_98 mv_X11_holds lk_X11_441 sh_489 rfl (Nat.le_of_ble_eq_true rfl) (Nat.le_of_ble_eq_true rfl) h (fun r σ hq _ => ?_)
      obtain ⟨x2, I2, rfl, rfl, h⟩ := hq
      change J _ _ _ _ _ _ _ [vI x2] _ _
      refine J_if_eq (tgt := 106) dX11_isExcepted_101 (by decide) (fun c => ?_) (fun c => ?_)
      · replace h := h.1 c
        refine J_iincN dX11_isExcepted_106 rfl (by decide) h.1 ?_
        replace h := h.2
        refine J_goto (tgt := 73) dX11_isExcepted_109 (by decide) ?_
        exact h
      · replace h := h.2 c
        refine J_iconst dX11_isExcepted_104 (ii_c rfl) ?_
        exact J_retz dX11_isExcepted_105 rfl (Or.inr rfl) h
set_option maxRecDepth 20000 in
set_option maxHeartbeats 2000000 in
theorem bk_X11_corners_0 {d : Nat} {I : HI} {Q : Option AV → AH → Prop}   (h : Q (some (vI (I 518 5))) (mk I)) : J none mX11_corners (d + 1) 0 0 0 [(0, vR 489)] [] (mk I) Q := by
  refine J_aload_n dX11_corners_0 rfl rfl ?_
  refine J_getR dX11_corners_1 ck_11 fw_X11_99 rfl sh_489 rr_489_37 ?_
  refine J_iconst dX11_corners_4 (ii_c rfl) ?_
  refine J_iald dX11_corners_5 sh_518 (by decide) (by decide) ?_
  exact J_reti dX11_corners_6 rfl h
set_option maxRecDepth 20000 in
set_option maxHeartbeats 2000000 in
theorem bk_X11_laneMany_0 {d : Nat} {I : HI} {Q : Option AV → AH → Prop}   (h : Q (some (vI (I 518 7))) (mk I)) : J none mX11_laneMany (d + 1) 0 0 0 [(0, vR 489)] [] (mk I) Q := by
  refine J_aload_n dX11_laneMany_0 rfl rfl ?_
  refine J_getR dX11_laneMany_1 ck_11 fw_X11_99 rfl sh_489 rr_489_37 ?_
  refine J_bipush dX11_laneMany_4 (ii_c rfl) (by decide) ?_
  refine J_iald dX11_laneMany_6 sh_518 (by decide) (by decide) ?_
  exact J_reti dX11_laneMany_7 rfl h
set_option maxRecDepth 20000 in
set_option maxHeartbeats 2000000 in
theorem bk_X11_saintMany_0 {d : Nat} {I : HI} {Q : Option AV → AH → Prop}   (h : Q (some (vI (I 518 6))) (mk I)) : J none mX11_saintMany (d + 1) 0 0 0 [(0, vR 489)] [] (mk I) Q := by
  refine J_aload_n dX11_saintMany_0 rfl rfl ?_
  refine J_getR dX11_saintMany_1 ck_11 fw_X11_99 rfl sh_489 rr_489_37 ?_
  refine J_bipush dX11_saintMany_4 (ii_c rfl) (by decide) ?_
  refine J_iald dX11_saintMany_6 sh_518 (by decide) (by decide) ?_
  exact J_reti dX11_saintMany_7 rfl h
set_option maxRecDepth 20000 in
set_option maxHeartbeats 2000000 in
theorem bk_X11_exceptions_0 {d : Nat} {I : HI} {Q : Option AV → AH → Prop}   (h : Q (some (vI (I 518 9))) (mk I)) : J none mX11_exceptions (d + 1) 0 0 0 [(0, vR 489)] [] (mk I) Q := by
  refine J_aload_n dX11_exceptions_0 rfl rfl ?_
  refine J_getR dX11_exceptions_1 ck_11 fw_X11_99 rfl sh_489 rr_489_37 ?_
  refine J_bipush dX11_exceptions_4 (ii_c rfl) (by decide) ?_
  refine J_iald dX11_exceptions_6 sh_518 (by decide) (by decide) ?_
  exact J_reti dX11_exceptions_7 rfl h
set_option maxRecDepth 20000 in
set_option maxHeartbeats 2000000 in
theorem bk_X11_isCorner_0 {d : Nat} {I : HI} {Q : Option AV → AH → Prop} {a1 : Int}  (h : CI mX11_corners d [vR 489] I (fun x1 I1 => (-2147483648 ≤ x1 - 1 ∧ x1 - 1 ≤ 2147483647) ∧ CI mX11_isIn d [vL a1, vL 0, vL (x1 - 1)] I1 (fun x2 I2 => (x2 = 0 ∨ x2 = 1) ∧ Q (some (vI x2)) (mk I2)))) : J none mX11_isCorner (d + 1) 0 0 0 [(0, vR 489), (1, vI a1)] [] (mk I) Q := by
  refine J_iload_n dX11_isCorner_0 rfl rfl ?_
  refine J_i2l dX11_isCorner_1 ?_
  refine J_lconst 0 dX11_isCorner_2 (ll_c rfl) (by decide) ?_
  refine J_aload_n dX11_isCorner_3 rfl rfl ?_
  refine J_callV (as := []) (mc1 := 0) (ms1 := 0) (mc := 0) (ms := 0) dX11_isCorner_4 mv_X11_corners lk_X11_444 sh_489 rfl (Nat.le_of_ble_eq_true rfl) (Nat.le_of_ble_eq_true rfl) h (fun r σ hq _ => ?_)
  obtain ⟨x1, I1, rfl, rfl, h⟩ := hq
  change J _ _ _ _ _ _ _ [vI x1, vL 0, vL a1] _ _
  refine J_iconst dX11_isCorner_7 (ii_c rfl) ?_
  refine J_isubN dX11_isCorner_8 h.1 ?_
  replace h := h.2
  refine J_i2l dX11_isCorner_9 ?_
  refine J_callS (as := [_, _, _]) (mc1 := 0) (ms1 := 0) (mc := 0) (ms := 0) dX11_isCorner_10 ms_X11_isIn lk_X11_264 rfl (Nat.le_of_ble_eq_true rfl) (Nat.le_of_ble_eq_true rfl) h (fun r σ hq _ => ?_)
  obtain ⟨x2, I2, rfl, rfl, h⟩ := hq
  change J _ _ _ _ _ _ _ [vI x2] _ _
  exact J_retz dX11_isCorner_13 rfl h.1 h.2
set_option maxRecDepth 20000 in
set_option maxHeartbeats 2000000 in
theorem bk_X11_isSaint_0 {d : Nat} {I : HI} {Q : Option AV → AH → Prop} {a1 : Int}  (h : CI mX11_saintMany d [vR 489] I (fun x1 I1 => (-2147483648 ≤ x1 - 1 ∧ x1 - 1 ≤ 2147483647) ∧ CI mX11_isIn d [vL a1, vL 0, vL (x1 - 1)] I1 (fun x2 I2 => (x2 = 0 ∨ x2 = 1) ∧ Q (some (vI x2)) (mk I2)))) : J none mX11_isSaint (d + 1) 0 0 0 [(0, vR 489), (1, vI a1)] [] (mk I) Q := by
  refine J_iload_n dX11_isSaint_0 rfl rfl ?_
  refine J_i2l dX11_isSaint_1 ?_
  refine J_lconst 0 dX11_isSaint_2 (ll_c rfl) (by decide) ?_
  refine J_aload_n dX11_isSaint_3 rfl rfl ?_
  refine J_callV (as := []) (mc1 := 0) (ms1 := 0) (mc := 0) (ms := 0) dX11_isSaint_4 mv_X11_saintMany lk_X11_447 sh_489 rfl (Nat.le_of_ble_eq_true rfl) (Nat.le_of_ble_eq_true rfl) h (fun r σ hq _ => ?_)
  obtain ⟨x1, I1, rfl, rfl, h⟩ := hq
  change J _ _ _ _ _ _ _ [vI x1, vL 0, vL a1] _ _
  refine J_iconst dX11_isSaint_7 (ii_c rfl) ?_
  refine J_isubN dX11_isSaint_8 h.1 ?_
  replace h := h.2
  refine J_i2l dX11_isSaint_9 ?_
  refine J_callS (as := [_, _, _]) (mc1 := 0) (ms1 := 0) (mc := 0) (ms := 0) dX11_isSaint_10 ms_X11_isIn lk_X11_264 rfl (Nat.le_of_ble_eq_true rfl) (Nat.le_of_ble_eq_true rfl) h (fun r σ hq _ => ?_)
  obtain ⟨x2, I2, rfl, rfl, h⟩ := hq
  change J _ _ _ _ _ _ _ [vI x2] _ _
  exact J_retz dX11_isSaint_13 rfl h.1 h.2
set_option maxRecDepth 20000 in
set_option maxHeartbeats 2000000 in
theorem bk_X11_isLane_0 {d : Nat} {I : HI} {Q : Option AV → AH → Prop} {a1 : Int}  (h : CI mX11_laneMany d [vR 489] I (fun x1 I1 => (-2147483648 ≤ x1 - 1 ∧ x1 - 1 ≤ 2147483647) ∧ CI mX11_isIn d [vL a1, vL 0, vL (x1 - 1)] I1 (fun x2 I2 => (x2 = 0 ∨ x2 = 1) ∧ Q (some (vI x2)) (mk I2)))) : J none mX11_isLane (d + 1) 0 0 0 [(0, vR 489), (1, vI a1)] [] (mk I) Q := by
  refine J_iload_n dX11_isLane_0 rfl rfl ?_
  refine J_i2l dX11_isLane_1 ?_
  refine J_lconst 0 dX11_isLane_2 (ll_c rfl) (by decide) ?_
  refine J_aload_n dX11_isLane_3 rfl rfl ?_
  refine J_callV (as := []) (mc1 := 0) (ms1 := 0) (mc := 0) (ms := 0) dX11_isLane_4 mv_X11_laneMany lk_X11_450 sh_489 rfl (Nat.le_of_ble_eq_true rfl) (Nat.le_of_ble_eq_true rfl) h (fun r σ hq _ => ?_)
  obtain ⟨x1, I1, rfl, rfl, h⟩ := hq
  change J _ _ _ _ _ _ _ [vI x1, vL 0, vL a1] _ _
  refine J_iconst dX11_isLane_7 (ii_c rfl) ?_
  refine J_isubN dX11_isLane_8 h.1 ?_
  replace h := h.2
  refine J_i2l dX11_isLane_9 ?_
  refine J_callS (as := [_, _, _]) (mc1 := 0) (ms1 := 0) (mc := 0) (ms := 0) dX11_isLane_10 ms_X11_isIn lk_X11_264 rfl (Nat.le_of_ble_eq_true rfl) (Nat.le_of_ble_eq_true rfl) h (fun r σ hq _ => ?_)
  obtain ⟨x2, I2, rfl, rfl, h⟩ := hq
  change J _ _ _ _ _ _ _ [vI x2] _ _
  exact J_retz dX11_isLane_13 rfl h.1 h.2
set_option maxRecDepth 20000 in
set_option maxHeartbeats 2000000 in
theorem bk_X11_homeOf_0 {d : Nat} {I : HI} {Q : Option AV → AH → Prop} {a1 : Int}  (h : (-2147483648 ≤ 4 * a1 ∧ 4 * a1 ≤ 2147483647) ∧ (-2147483648 ≤ 16 + (4 * a1) ∧ 16 + (4 * a1) ≤ 2147483647) ∧ ((0 : Int) ≤ (16 + (4 * a1)) ∧ (16 + (4 * a1) : Int) < 32) ∧ Q (some (vI (I 522 (16 + (4 * a1)).toNat))) (mk I)) : J none mX11_homeOf (d + 1) 0 0 0 [(0, vR 489), (1, vI a1)] [] (mk I) Q := by
  refine J_aload_n dX11_homeOf_0 rfl rfl ?_
  refine J_getR dX11_homeOf_1 ck_11 fw_X11_112 rfl sh_489 rr_489_41 ?_
  refine J_bipush dX11_homeOf_4 (ii_c rfl) (by decide) ?_
  refine J_iconst dX11_homeOf_6 (ii_c rfl) ?_
  refine J_iload_n dX11_homeOf_7 rfl rfl ?_
  refine J_imulN dX11_homeOf_8 h.1 ?_
  replace h := h.2
  refine J_iaddN dX11_homeOf_9 h.1 ?_
  replace h := h.2
  refine J_iald dX11_homeOf_10 sh_522 h.1.1 h.1.2 ?_
  replace h := h.2
  exact J_reti dX11_homeOf_11 rfl h
set_option maxRecDepth 20000 in
set_option maxHeartbeats 2000000 in
theorem bk_X11_paceOf_0 {d : Nat} {I : HI} {Q : Option AV → AH → Prop} {a1 : Int}  (h : (-2147483648 ≤ 4 * a1 ∧ 4 * a1 ≤ 2147483647) ∧ (-2147483648 ≤ 16 + (4 * a1) ∧ 16 + (4 * a1) ≤ 2147483647) ∧ (-2147483648 ≤ (16 + (4 * a1)) + 1 ∧ (16 + (4 * a1)) + 1 ≤ 2147483647) ∧ ((0 : Int) ≤ ((16 + (4 * a1)) + 1) ∧ ((16 + (4 * a1)) + 1 : Int) < 32) ∧ Q (some (vI (I 522 ((16 + (4 * a1)) + 1).toNat))) (mk I)) : J none mX11_paceOf (d + 1) 0 0 0 [(0, vR 489), (1, vI a1)] [] (mk I) Q := by
  refine J_aload_n dX11_paceOf_0 rfl rfl ?_
  refine J_getR dX11_paceOf_1 ck_11 fw_X11_112 rfl sh_489 rr_489_41 ?_
  refine J_bipush dX11_paceOf_4 (ii_c rfl) (by decide) ?_
  refine J_iconst dX11_paceOf_6 (ii_c rfl) ?_
  refine J_iload_n dX11_paceOf_7 rfl rfl ?_
  refine J_imulN dX11_paceOf_8 h.1 ?_
  replace h := h.2
  refine J_iaddN dX11_paceOf_9 h.1 ?_
  replace h := h.2
  refine J_iconst dX11_paceOf_10 (ii_c rfl) ?_
  refine J_iaddN dX11_paceOf_11 h.1 ?_
  replace h := h.2
  refine J_iald dX11_paceOf_12 sh_522 h.1.1 h.1.2 ?_
  replace h := h.2
  exact J_reti dX11_paceOf_13 rfl h
set_option maxRecDepth 20000 in
set_option maxHeartbeats 2000000 in
theorem bk_X11_petalsOf_0 {d : Nat} {I : HI} {Q : Option AV → AH → Prop} {a1 : Int}  (h : (-2147483648 ≤ 4 * a1 ∧ 4 * a1 ≤ 2147483647) ∧ (-2147483648 ≤ 16 + (4 * a1) ∧ 16 + (4 * a1) ≤ 2147483647) ∧ (-2147483648 ≤ (16 + (4 * a1)) + 3 ∧ (16 + (4 * a1)) + 3 ≤ 2147483647) ∧ ((0 : Int) ≤ ((16 + (4 * a1)) + 3) ∧ ((16 + (4 * a1)) + 3 : Int) < 32) ∧ Q (some (vI (I 522 ((16 + (4 * a1)) + 3).toNat))) (mk I)) : J none mX11_petalsOf (d + 1) 0 0 0 [(0, vR 489), (1, vI a1)] [] (mk I) Q := by
  refine J_aload_n dX11_petalsOf_0 rfl rfl ?_
  refine J_getR dX11_petalsOf_1 ck_11 fw_X11_112 rfl sh_489 rr_489_41 ?_
  refine J_bipush dX11_petalsOf_4 (ii_c rfl) (by decide) ?_
  refine J_iconst dX11_petalsOf_6 (ii_c rfl) ?_
  refine J_iload_n dX11_petalsOf_7 rfl rfl ?_
  refine J_imulN dX11_petalsOf_8 h.1 ?_
  replace h := h.2
  refine J_iaddN dX11_petalsOf_9 h.1 ?_
  replace h := h.2
  refine J_iconst dX11_petalsOf_10 (ii_c rfl) ?_
  refine J_iaddN dX11_petalsOf_11 h.1 ?_
  replace h := h.2
  refine J_iald dX11_petalsOf_12 sh_522 h.1.1 h.1.2 ?_
  replace h := h.2
  exact J_reti dX11_petalsOf_13 rfl h
set_option maxRecDepth 20000 in
set_option maxHeartbeats 2000000 in
theorem bk_X11_laneOf_0 {d : Nat} {I : HI} {Q : Option AV → AH → Prop} {a1 : Int} {a2 : Int}  (h : J none mX11_laneOf (d + 1) 0 0 2 [(0, vR 489), (1, vI a1), (2, vI a2), (3, vI 0)] [] (mk I) Q) : J none mX11_laneOf (d + 1) 0 0 0 [(0, vR 489), (1, vI a1), (2, vI a2)] [] (mk I) Q := by
  refine J_iconst dX11_laneOf_0 (ii_c rfl) ?_
  refine J_istore_n dX11_laneOf_1 rfl (by decide) ?_
  exact h
set_option maxRecDepth 20000 in
set_option maxHeartbeats 2000000 in
theorem bk_X11_laneOf_2 {d : Nat} {I : HI} {Q : Option AV → AH → Prop} {a1 : Int} {a2 : Int} {a3 : Int}  (h : CI mX11_laneMany d [vR 489] I (fun x1 I1 => ((x1 ≤ a3 → Q (some (vI (-1))) (mk I1)) ∧ (¬ (x1 ≤ a3) → (-2147483648 ≤ 4 * a3 ∧ 4 * a3 ≤ 2147483647) ∧ (-2147483648 ≤ 64 + (4 * a3) ∧ 64 + (4 * a3) ≤ 2147483647) ∧ ((0 : Int) ≤ (64 + (4 * a3)) ∧ (64 + (4 * a3) : Int) < 128) ∧ (((I1 521 (64 + (4 * a3)).toNat) ≠ a1 → ((0 : Int) ≤ (64 + (4 * a3)) ∧ (64 + (4 * a3) : Int) < 128) ∧ (((I1 521 (64 + (4 * a3)).toNat) ≠ a2 → (-2147483648 ≤ a3 + 1 ∧ a3 + 1 ≤ 2147483647) ∧ J none mX11_laneOf (d + 1) 0 0 2 [(0, vR 489), (1, vI a1), (2, vI a2), (3, vI (a3 + 1))] [] (mk I1) Q) ∧ ((I1 521 (64 + (4 * a3)).toNat) = a2 → (-2147483648 ≤ (64 + (4 * a3)) + 1 ∧ (64 + (4 * a3)) + 1 ≤ 2147483647) ∧ ((0 : Int) ≤ ((64 + (4 * a3)) + 1) ∧ ((64 + (4 * a3)) + 1 : Int) < 128) ∧ (((I1 521 ((64 + (4 * a3)) + 1).toNat) ≠ a1 → (-2147483648 ≤ a3 + 1 ∧ a3 + 1 ≤ 2147483647) ∧ J none mX11_laneOf (d + 1) 0 0 2 [(0, vR 489), (1, vI a1), (2, vI a2), (3, vI (a3 + 1))] [] (mk I1) Q) ∧ ((I1 521 ((64 + (4 * a3)) + 1).toNat) = a1 → Q (some (vI a3)) (mk I1)))))) ∧ ((I1 521 (64 + (4 * a3)).toNat) = a1 → (-2147483648 ≤ (64 + (4 * a3)) + 1 ∧ (64 + (4 * a3)) + 1 ≤ 2147483647) ∧ ((0 : Int) ≤ ((64 + (4 * a3)) + 1) ∧ ((64 + (4 * a3)) + 1 : Int) < 128) ∧ (((I1 521 ((64 + (4 * a3)) + 1).toNat) = a2 → Q (some (vI a3)) (mk I1)) ∧ (¬ ((I1 521 ((64 + (4 * a3)) + 1).toNat) = a2) → ((0 : Int) ≤ (64 + (4 * a3)) ∧ (64 + (4 * a3) : Int) < 128) ∧ (((I1 521 (64 + (4 * a3)).toNat) ≠ a2 → (-2147483648 ≤ a3 + 1 ∧ a3 + 1 ≤ 2147483647) ∧ J none mX11_laneOf (d + 1) 0 0 2 [(0, vR 489), (1, vI a1), (2, vI a2), (3, vI (a3 + 1))] [] (mk I1) Q) ∧ ((I1 521 (64 + (4 * a3)).toNat) = a2 → (-2147483648 ≤ (64 + (4 * a3)) + 1 ∧ (64 + (4 * a3)) + 1 ≤ 2147483647) ∧ ((0 : Int) ≤ ((64 + (4 * a3)) + 1) ∧ ((64 + (4 * a3)) + 1 : Int) < 128) ∧ (((I1 521 ((64 + (4 * a3)) + 1).toNat) ≠ a1 → (-2147483648 ≤ a3 + 1 ∧ a3 + 1 ≤ 2147483647) ∧ J none mX11_laneOf (d + 1) 0 0 2 [(0, vR 489), (1, vI a1), (2, vI a2), (3, vI (a3 + 1))] [] (mk I1) Q) ∧ ((I1 521 ((64 + (4 * a3)) + 1).toNat) = a1 → Q (some (vI a3)) (mk I1))))))))))))) : J none mX11_laneOf (d + 1) 0 0 2 [(0, vR 489), (1, vI a1), (2, vI a2), (3, vI a3)] [] (mk I) Q := by
  refine J_iload_n dX11_laneOf_2 rfl rfl ?_
  refine J_aload_n dX11_laneOf_3 rfl rfl ?_
  refine J_callV (as := []) (mc1 := 0) (ms1 := 0) (mc := 0) (ms := 0) dX11_laneOf_4 mv_X11_laneMany lk_X11_450 sh_489 rfl (Nat.le_of_ble_eq_true rfl) (Nat.le_of_ble_eq_true rfl) h (fun r σ hq _ => ?_)
  obtain ⟨x1, I1, rfl, rfl, h⟩ := hq
  change J _ _ _ _ _ _ _ [vI x1, vI a3] _ _
  refine J_ic_ge (tgt := 74) dX11_laneOf_7 (by decide) (fun c => ?_) (fun c => ?_)
  · replace h := h.1 c
    refine J_iconst dX11_laneOf_74 (ii_c rfl) ?_
    exact J_reti dX11_laneOf_75 rfl h
  · replace h := h.2 c
    refine J_bipush dX11_laneOf_10 (ii_c rfl) (by decide) ?_
    refine J_iconst dX11_laneOf_12 (ii_c rfl) ?_
    refine J_iload_n dX11_laneOf_13 rfl rfl ?_
    refine J_imulN dX11_laneOf_14 h.1 ?_
    replace h := h.2
    refine J_iaddN dX11_laneOf_15 h.1 ?_
    replace h := h.2
    refine J_istore dX11_laneOf_16 (by decide) ?_
    refine J_aload_n dX11_laneOf_18 rfl rfl ?_
    refine J_getR dX11_laneOf_19 ck_11 fw_X11_109 rfl sh_489 rr_489_40 ?_
    refine J_iload dX11_laneOf_22 rfl ?_
    refine J_iald dX11_laneOf_24 sh_521 h.1.1 h.1.2 ?_
    replace h := h.2
    refine J_iload_n dX11_laneOf_25 rfl rfl ?_
    refine J_ic_ne (tgt := 42) dX11_laneOf_26 (by decide) (fun c => ?_) (fun c => ?_)
    · replace h := h.1 c
      refine J_aload_n dX11_laneOf_42 rfl rfl ?_
      refine J_getR dX11_laneOf_43 ck_11 fw_X11_109 rfl sh_489 rr_489_40 ?_
      refine J_iload dX11_laneOf_46 rfl ?_
      refine J_iald dX11_laneOf_48 sh_521 h.1.1 h.1.2 ?_
      replace h := h.2
      refine J_iload_n dX11_laneOf_49 rfl rfl ?_
      refine J_ic_ne (tgt := 68) dX11_laneOf_50 (by decide) (fun c => ?_) (fun c => ?_)
      · replace h := h.1 c
        refine J_iincN dX11_laneOf_68 rfl (by decide) h.1 ?_
        replace h := h.2
        refine J_goto (tgt := 2) dX11_laneOf_71 (by decide) ?_
        exact J_loc (ls_sub [0, 1, 2, 3] rfl) h
      · replace h := h.2 c
        refine J_aload_n dX11_laneOf_53 rfl rfl ?_
        refine J_getR dX11_laneOf_54 ck_11 fw_X11_109 rfl sh_489 rr_489_40 ?_
        refine J_iload dX11_laneOf_57 rfl ?_
        refine J_iconst dX11_laneOf_59 (ii_c rfl) ?_
        refine J_iaddN dX11_laneOf_60 h.1 ?_
        replace h := h.2
        refine J_iald dX11_laneOf_61 sh_521 h.1.1 h.1.2 ?_
        replace h := h.2
        refine J_iload_n dX11_laneOf_62 rfl rfl ?_
        refine J_ic_ne (tgt := 68) dX11_laneOf_63 (by decide) (fun c => ?_) (fun c => ?_)
        · replace h := h.1 c
          refine J_iincN dX11_laneOf_68 rfl (by decide) h.1 ?_
          replace h := h.2
          refine J_goto (tgt := 2) dX11_laneOf_71 (by decide) ?_
          exact J_loc (ls_sub [0, 1, 2, 3] rfl) h
        · replace h := h.2 c
          refine J_iload_n dX11_laneOf_66 rfl rfl ?_
          exact J_reti dX11_laneOf_67 rfl h
    · replace h := h.2 c
      refine J_aload_n dX11_laneOf_29 rfl rfl ?_
      refine J_getR dX11_laneOf_30 ck_11 fw_X11_109 rfl sh_489 rr_489_40 ?_
      refine J_iload dX11_laneOf_33 rfl ?_
      refine J_iconst dX11_laneOf_35 (ii_c rfl) ?_
      refine J_iaddN dX11_laneOf_36 h.1 ?_
      replace h := h.2
      refine J_iald dX11_laneOf_37 sh_521 h.1.1 h.1.2 ?_
      replace h := h.2
      refine J_iload_n dX11_laneOf_38 rfl rfl ?_
      refine J_ic_eq (tgt := 66) dX11_laneOf_39 (by decide) (fun c => ?_) (fun c => ?_)
      · replace h := h.1 c
        refine J_iload_n dX11_laneOf_66 rfl rfl ?_
        exact J_reti dX11_laneOf_67 rfl h
      · replace h := h.2 c
        refine J_aload_n dX11_laneOf_42 rfl rfl ?_
        refine J_getR dX11_laneOf_43 ck_11 fw_X11_109 rfl sh_489 rr_489_40 ?_
        refine J_iload dX11_laneOf_46 rfl ?_
        refine J_iald dX11_laneOf_48 sh_521 h.1.1 h.1.2 ?_
        replace h := h.2
        refine J_iload_n dX11_laneOf_49 rfl rfl ?_
        refine J_ic_ne (tgt := 68) dX11_laneOf_50 (by decide) (fun c => ?_) (fun c => ?_)
        · replace h := h.1 c
          refine J_iincN dX11_laneOf_68 rfl (by decide) h.1 ?_
          replace h := h.2
          refine J_goto (tgt := 2) dX11_laneOf_71 (by decide) ?_
          exact J_loc (ls_sub [0, 1, 2, 3] rfl) h
        · replace h := h.2 c
          refine J_aload_n dX11_laneOf_53 rfl rfl ?_
          refine J_getR dX11_laneOf_54 ck_11 fw_X11_109 rfl sh_489 rr_489_40 ?_
          refine J_iload dX11_laneOf_57 rfl ?_
          refine J_iconst dX11_laneOf_59 (ii_c rfl) ?_
          refine J_iaddN dX11_laneOf_60 h.1 ?_
          replace h := h.2
          refine J_iald dX11_laneOf_61 sh_521 h.1.1 h.1.2 ?_
          replace h := h.2
          refine J_iload_n dX11_laneOf_62 rfl rfl ?_
          refine J_ic_ne (tgt := 68) dX11_laneOf_63 (by decide) (fun c => ?_) (fun c => ?_)
          · replace h := h.1 c
            refine J_iincN dX11_laneOf_68 rfl (by decide) h.1 ?_
            replace h := h.2
            refine J_goto (tgt := 2) dX11_laneOf_71 (by decide) ?_
            exact J_loc (ls_sub [0, 1, 2, 3] rfl) h
          · replace h := h.2 c
            refine J_iload_n dX11_laneOf_66 rfl rfl ?_
            exact J_reti dX11_laneOf_67 rfl h
set_option maxRecDepth 20000 in
set_option maxHeartbeats 2000000 in
theorem bk_X11_sounds_0 {d : Nat} {I : HI} {Q : Option AV → AH → Prop}   (h : J none mX11_sounds (d + 1) 0 0 2 [(0, vR 489), (1, vI 0)] [] (mk I) Q) : J none mX11_sounds (d + 1) 0 0 0 [(0, vR 489)] [] (mk I) Q := by
  refine J_iconst dX11_sounds_0 (ii_c rfl) ?_
  refine J_istore_n dX11_sounds_1 rfl (by decide) ?_
  exact h
set_option maxRecDepth 20000 in
set_option maxHeartbeats 2000000 in
theorem bk_X11_sounds_2 {d : Nat} {I : HI} {Q : Option AV → AH → Prop} {a1 : Int}  (h : ((10 ≤ a1 → J none mX11_sounds (d + 1) 0 0 53 [(0, vR 489), (1, vI 0)] [] (mk I) Q) ∧ (¬ (10 ≤ a1) → J none mX11_sounds (d + 1) 0 0 10 [(0, vR 489), (1, vI a1), (2, vI 0)] [] (mk I) Q))) : J none mX11_sounds (d + 1) 0 0 2 [(0, vR 489), (1, vI a1)] [] (mk I) Q := by
  refine J_iload_n dX11_sounds_2 rfl rfl ?_
  refine J_bipush dX11_sounds_3 (ii_c rfl) (by decide) ?_
  refine J_ic_ge (tgt := 51) dX11_sounds_5 (by decide) (fun c => ?_) (fun c => ?_)
  · replace h := h.1 c
    refine J_iconst dX11_sounds_51 (ii_c rfl) ?_
    refine J_istore_n dX11_sounds_52 rfl (by decide) ?_
    exact h
  · replace h := h.2 c
    refine J_iconst dX11_sounds_8 (ii_c rfl) ?_
    refine J_istore_n dX11_sounds_9 rfl (by decide) ?_
    exact h
set_option maxRecDepth 20000 in
set_option maxHeartbeats 2000000 in
theorem bk_X11_sounds_10 {d : Nat} {I : HI} {Q : Option AV → AH → Prop} {a1 : Int} {a2 : Int}  (h : ((10 ≤ a2 → (-2147483648 ≤ a1 + 1 ∧ a1 + 1 ≤ 2147483647) ∧ J none mX11_sounds (d + 1) 0 0 2 [(0, vR 489), (1, vI (a1 + 1))] [] (mk I) Q) ∧ (¬ (10 ≤ a2) → (-2147483648 ≤ 10 * a1 ∧ 10 * a1 ≤ 2147483647) ∧ (-2147483648 ≤ (10 * a1) + a2 ∧ (10 * a1) + a2 ≤ 2147483647) ∧ ((a1 ≠ a2 → ((0 : Int) ≤ ((10 * a1) + a2) ∧ ((10 * a1) + a2 : Int) < 100) ∧ (∀ I1 : HI, I1 = up I 531 ((10 * a1) + a2).toNat 999 → (-2147483648 ≤ a2 + 1 ∧ a2 + 1 ≤ 2147483647) ∧ J none mX11_sounds (d + 1) 0 0 10 [(0, vR 489), (1, vI a1), (2, vI (a2 + 1))] [] (mk I1) Q)) ∧ (a1 = a2 → ((0 : Int) ≤ ((10 * a1) + a2) ∧ ((10 * a1) + a2 : Int) < 100) ∧ (∀ I2 : HI, I2 = up I 531 ((10 * a1) + a2).toNat 0 → (-2147483648 ≤ a2 + 1 ∧ a2 + 1 ≤ 2147483647) ∧ J none mX11_sounds (d + 1) 0 0 10 [(0, vR 489), (1, vI a1), (2, vI (a2 + 1))] [] (mk I2) Q)))))) : J none mX11_sounds (d + 1) 0 0 10 [(0, vR 489), (1, vI a1), (2, vI a2)] [] (mk I) Q := by
  refine J_iload_n dX11_sounds_10 rfl rfl ?_
  refine J_bipush dX11_sounds_11 (ii_c rfl) (by decide) ?_
  refine J_ic_ge (tgt := 45) dX11_sounds_13 (by decide) (fun c => ?_) (fun c => ?_)
  · replace h := h.1 c
    refine J_iincN dX11_sounds_45 rfl (by decide) h.1 ?_
    replace h := h.2
    refine J_goto (tgt := 2) dX11_sounds_48 (by decide) ?_
    exact J_loc (ls_sub [0, 1] rfl) h
  · replace h := h.2 c
    refine J_aload_n dX11_sounds_16 rfl rfl ?_
    refine J_getR dX11_sounds_17 ck_11 fw_X11_142 rfl sh_489 rr_489_58 ?_
    refine J_bipush dX11_sounds_20 (ii_c rfl) (by decide) ?_
    refine J_iload_n dX11_sounds_22 rfl rfl ?_
    refine J_imulN dX11_sounds_23 h.1 ?_
    replace h := h.2
    refine J_iload_n dX11_sounds_24 rfl rfl ?_
    refine J_iaddN dX11_sounds_25 h.1 ?_
    replace h := h.2
    refine J_iload_n dX11_sounds_26 rfl rfl ?_
    refine J_iload_n dX11_sounds_27 rfl rfl ?_
    refine J_ic_ne (tgt := 35) dX11_sounds_28 (by decide) (fun c => ?_) (fun c => ?_)
    · replace h := h.1 c
      refine J_sipush dX11_sounds_35 (ii_c rfl) (by decide) ?_
      refine J_iast dX11_sounds_38 sh_531 h.1.1 h.1.2 ?_
      replace h := h.2 _ rfl
      refine J_iincN dX11_sounds_39 rfl (by decide) h.1 ?_
      replace h := h.2
      refine J_goto (tgt := 10) dX11_sounds_42 (by decide) ?_
      exact h
    · replace h := h.2 c
      refine J_iconst dX11_sounds_31 (ii_c rfl) ?_
      refine J_goto (tgt := 38) dX11_sounds_32 (by decide) ?_
      refine J_iast dX11_sounds_38 sh_531 h.1.1 h.1.2 ?_
      replace h := h.2 _ rfl
      refine J_iincN dX11_sounds_39 rfl (by decide) h.1 ?_
      replace h := h.2
      refine J_goto (tgt := 10) dX11_sounds_42 (by decide) ?_
      exact h
set_option maxRecDepth 20000 in
set_option maxHeartbeats 2000000 in
theorem bk_X11_sounds_53 {d : Nat} {I : HI} {Q : Option AV → AH → Prop} {a1 : Int}  (h : CI mX11_laneMany d [vR 489] I (fun x1 I1 => ((x1 ≤ a1 → J none mX11_sounds (d + 1) 0 0 138 [(0, vR 489), (1, vI 0)] [] (mk I1) Q) ∧ (¬ (x1 ≤ a1) → (-2147483648 ≤ 4 * a1 ∧ 4 * a1 ≤ 2147483647) ∧ (-2147483648 ≤ 64 + (4 * a1) ∧ 64 + (4 * a1) ≤ 2147483647) ∧ ((0 : Int) ≤ (64 + (4 * a1)) ∧ (64 + (4 * a1) : Int) < 128) ∧ (-2147483648 ≤ 10 * (I1 521 (64 + (4 * a1)).toNat) ∧ 10 * (I1 521 (64 + (4 * a1)).toNat) ≤ 2147483647) ∧ (-2147483648 ≤ (64 + (4 * a1)) + 1 ∧ (64 + (4 * a1)) + 1 ≤ 2147483647) ∧ ((0 : Int) ≤ ((64 + (4 * a1)) + 1) ∧ ((64 + (4 * a1)) + 1 : Int) < 128) ∧ (-2147483648 ≤ (10 * (I1 521 (64 + (4 * a1)).toNat)) + (I1 521 ((64 + (4 * a1)) + 1).toNat) ∧ (10 * (I1 521 (64 + (4 * a1)).toNat)) + (I1 521 ((64 + (4 * a1)) + 1).toNat) ≤ 2147483647) ∧ (-2147483648 ≤ (64 + (4 * a1)) + 3 ∧ (64 + (4 * a1)) + 3 ≤ 2147483647) ∧ ((0 : Int) ≤ ((64 + (4 * a1)) + 3) ∧ ((64 + (4 * a1)) + 3 : Int) < 128) ∧ ((0 : Int) ≤ ((10 * (I1 521 (64 + (4 * a1)).toNat)) + (I1 521 ((64 + (4 * a1)) + 1).toNat)) ∧ ((10 * (I1 521 (64 + (4 * a1)).toNat)) + (I1 521 ((64 + (4 * a1)) + 1).toNat) : Int) < 100) ∧ (∀ I2 : HI, I2 = up I1 531 ((10 * (I1 521 (64 + (4 * a1)).toNat)) + (I1 521 ((64 + (4 * a1)) + 1).toNat)).toNat (I1 521 ((64 + (4 * a1)) + 3).toNat) → (-2147483648 ≤ (64 + (4 * a1)) + 1 ∧ (64 + (4 * a1)) + 1 ≤ 2147483647) ∧ ((0 : Int) ≤ ((64 + (4 * a1)) + 1) ∧ ((64 + (4 * a1)) + 1 : Int) < 128) ∧ (-2147483648 ≤ 10 * (I2 521 ((64 + (4 * a1)) + 1).toNat) ∧ 10 * (I2 521 ((64 + (4 * a1)) + 1).toNat) ≤ 2147483647) ∧ ((0 : Int) ≤ (64 + (4 * a1)) ∧ (64 + (4 * a1) : Int) < 128) ∧ (-2147483648 ≤ (10 * (I2 521 ((64 + (4 * a1)) + 1).toNat)) + (I2 521 (64 + (4 * a1)).toNat) ∧ (10 * (I2 521 ((64 + (4 * a1)) + 1).toNat)) + (I2 521 (64 + (4 * a1)).toNat) ≤ 2147483647) ∧ (-2147483648 ≤ (64 + (4 * a1)) + 3 ∧ (64 + (4 * a1)) + 3 ≤ 2147483647) ∧ ((0 : Int) ≤ ((64 + (4 * a1)) + 3) ∧ ((64 + (4 * a1)) + 3 : Int) < 128) ∧ ((0 : Int) ≤ ((10 * (I2 521 ((64 + (4 * a1)) + 1).toNat)) + (I2 521 (64 + (4 * a1)).toNat)) ∧ ((10 * (I2 521 ((64 + (4 * a1)) + 1).toNat)) + (I2 521 (64 + (4 * a1)).toNat) : Int) < 100) ∧ (∀ I3 : HI, I3 = up I2 531 ((10 * (I2 521 ((64 + (4 * a1)) + 1).toNat)) + (I2 521 (64 + (4 * a1)).toNat)).toNat (I2 521 ((64 + (4 * a1)) + 3).toNat) → (-2147483648 ≤ a1 + 1 ∧ a1 + 1 ≤ 2147483647) ∧ J none mX11_sounds (d + 1) 0 0 53 [(0, vR 489), (1, vI (a1 + 1))] [] (mk I3) Q)))))) : J none mX11_sounds (d + 1) 0 0 53 [(0, vR 489), (1, vI a1)] [] (mk I) Q := by
  refine J_iload_n dX11_sounds_53 rfl rfl ?_
  refine J_aload_n dX11_sounds_54 rfl rfl ?_
  refine J_callV (as := []) (mc1 := 0) (ms1 := 0) (mc := 0) (ms := 0) dX11_sounds_55 mv_X11_laneMany lk_X11_450 sh_489 rfl (Nat.le_of_ble_eq_true rfl) (Nat.le_of_ble_eq_true rfl) h (fun r σ hq _ => ?_)
  obtain ⟨x1, I1, rfl, rfl, h⟩ := hq
  change J _ _ _ _ _ _ _ [vI x1, vI a1] _ _
  refine J_ic_ge (tgt := 136) dX11_sounds_58 (by decide) (fun c => ?_) (fun c => ?_)
  · replace h := h.1 c
    refine J_iconst dX11_sounds_136 (ii_c rfl) ?_
    refine J_istore_n dX11_sounds_137 rfl (by decide) ?_
    exact h
  · replace h := h.2 c
    refine J_bipush dX11_sounds_61 (ii_c rfl) (by decide) ?_
    refine J_iconst dX11_sounds_63 (ii_c rfl) ?_
    refine J_iload_n dX11_sounds_64 rfl rfl ?_
    refine J_imulN dX11_sounds_65 h.1 ?_
    replace h := h.2
    refine J_iaddN dX11_sounds_66 h.1 ?_
    replace h := h.2
    refine J_istore_n dX11_sounds_67 rfl (by decide) ?_
    refine J_aload_n dX11_sounds_68 rfl rfl ?_
    refine J_getR dX11_sounds_69 ck_11 fw_X11_142 rfl sh_489 rr_489_58 ?_
    refine J_bipush dX11_sounds_72 (ii_c rfl) (by decide) ?_
    refine J_aload_n dX11_sounds_74 rfl rfl ?_
    refine J_getR dX11_sounds_75 ck_11 fw_X11_109 rfl sh_489 rr_489_40 ?_
    refine J_iload_n dX11_sounds_78 rfl rfl ?_
    refine J_iald dX11_sounds_79 sh_521 h.1.1 h.1.2 ?_
    replace h := h.2
    refine J_imulN dX11_sounds_80 h.1 ?_
    replace h := h.2
    refine J_aload_n dX11_sounds_81 rfl rfl ?_
    refine J_getR dX11_sounds_82 ck_11 fw_X11_109 rfl sh_489 rr_489_40 ?_
    refine J_iload_n dX11_sounds_85 rfl rfl ?_
    refine J_iconst dX11_sounds_86 (ii_c rfl) ?_
    refine J_iaddN dX11_sounds_87 h.1 ?_
    replace h := h.2
    refine J_iald dX11_sounds_88 sh_521 h.1.1 h.1.2 ?_
    replace h := h.2
    refine J_iaddN dX11_sounds_89 h.1 ?_
    replace h := h.2
    refine J_aload_n dX11_sounds_90 rfl rfl ?_
    refine J_getR dX11_sounds_91 ck_11 fw_X11_109 rfl sh_489 rr_489_40 ?_
    refine J_iload_n dX11_sounds_94 rfl rfl ?_
    refine J_iconst dX11_sounds_95 (ii_c rfl) ?_
    refine J_iaddN dX11_sounds_96 h.1 ?_
    replace h := h.2
    refine J_iald dX11_sounds_97 sh_521 h.1.1 h.1.2 ?_
    replace h := h.2
    refine J_iast dX11_sounds_98 sh_531 h.1.1 h.1.2 ?_
    replace h := h.2 _ rfl
    refine J_aload_n dX11_sounds_99 rfl rfl ?_
    refine J_getR dX11_sounds_100 ck_11 fw_X11_142 rfl sh_489 rr_489_58 ?_
    refine J_bipush dX11_sounds_103 (ii_c rfl) (by decide) ?_
    refine J_aload_n dX11_sounds_105 rfl rfl ?_
    refine J_getR dX11_sounds_106 ck_11 fw_X11_109 rfl sh_489 rr_489_40 ?_
    refine J_iload_n dX11_sounds_109 rfl rfl ?_
    refine J_iconst dX11_sounds_110 (ii_c rfl) ?_
    refine J_iaddN dX11_sounds_111 h.1 ?_
    replace h := h.2
    refine J_iald dX11_sounds_112 sh_521 h.1.1 h.1.2 ?_
    replace h := h.2
    refine J_imulN dX11_sounds_113 h.1 ?_
    replace h := h.2
    refine J_aload_n dX11_sounds_114 rfl rfl ?_
    refine J_getR dX11_sounds_115 ck_11 fw_X11_109 rfl sh_489 rr_489_40 ?_
    refine J_iload_n dX11_sounds_118 rfl rfl ?_
    refine J_iald dX11_sounds_119 sh_521 h.1.1 h.1.2 ?_
    replace h := h.2
    refine J_iaddN dX11_sounds_120 h.1 ?_
    replace h := h.2
    refine J_aload_n dX11_sounds_121 rfl rfl ?_
    refine J_getR dX11_sounds_122 ck_11 fw_X11_109 rfl sh_489 rr_489_40 ?_
    refine J_iload_n dX11_sounds_125 rfl rfl ?_
    refine J_iconst dX11_sounds_126 (ii_c rfl) ?_
    refine J_iaddN dX11_sounds_127 h.1 ?_
    replace h := h.2
    refine J_iald dX11_sounds_128 sh_521 h.1.1 h.1.2 ?_
    replace h := h.2
    refine J_iast dX11_sounds_129 sh_531 h.1.1 h.1.2 ?_
    replace h := h.2 _ rfl
    refine J_iincN dX11_sounds_130 rfl (by decide) h.1 ?_
    replace h := h.2
    refine J_goto (tgt := 53) dX11_sounds_133 (by decide) ?_
    exact J_loc (ls_sub [0, 1] rfl) h
set_option maxRecDepth 20000 in
set_option maxHeartbeats 2000000 in
theorem bk_X11_sounds_138 {d : Nat} {I : HI} {Q : Option AV → AH → Prop} {a1 : Int}  (h : ((10 ≤ a1 → Q none (mk I)) ∧ (¬ (10 ≤ a1) → J none mX11_sounds (d + 1) 0 0 146 [(0, vR 489), (1, vI a1), (2, vI 0)] [] (mk I) Q))) : J none mX11_sounds (d + 1) 0 0 138 [(0, vR 489), (1, vI a1)] [] (mk I) Q := by
  refine J_iload_n dX11_sounds_138 rfl rfl ?_
  refine J_bipush dX11_sounds_139 (ii_c rfl) (by decide) ?_
  refine J_ic_ge (tgt := 232) dX11_sounds_141 (by decide) (fun c => ?_) (fun c => ?_)
  · replace h := h.1 c
    exact J_retv dX11_sounds_232 rfl h
  · replace h := h.2 c
    refine J_iconst dX11_sounds_144 (ii_c rfl) ?_
    refine J_istore_n dX11_sounds_145 rfl (by decide) ?_
    exact h
set_option maxRecDepth 20000 in
set_option maxHeartbeats 2000000 in
theorem bk_X11_sounds_146 {d : Nat} {I : HI} {Q : Option AV → AH → Prop} {a1 : Int} {a2 : Int}  (h : ((10 ≤ a2 → (-2147483648 ≤ a1 + 1 ∧ a1 + 1 ≤ 2147483647) ∧ J none mX11_sounds (d + 1) 0 0 138 [(0, vR 489), (1, vI (a1 + 1))] [] (mk I) Q) ∧ (¬ (10 ≤ a2) → J none mX11_sounds (d + 1) 0 0 154 [(0, vR 489), (1, vI a1), (2, vI a2), (3, vI 0)] [] (mk I) Q))) : J none mX11_sounds (d + 1) 0 0 146 [(0, vR 489), (1, vI a1), (2, vI a2)] [] (mk I) Q := by
  refine J_iload_n dX11_sounds_146 rfl rfl ?_
  refine J_bipush dX11_sounds_147 (ii_c rfl) (by decide) ?_
  refine J_ic_ge (tgt := 226) dX11_sounds_149 (by decide) (fun c => ?_) (fun c => ?_)
  · replace h := h.1 c
    refine J_iincN dX11_sounds_226 rfl (by decide) h.1 ?_
    replace h := h.2
    refine J_goto (tgt := 138) dX11_sounds_229 (by decide) ?_
    exact J_loc (ls_sub [0, 1] rfl) h
  · replace h := h.2 c
    refine J_iconst dX11_sounds_152 (ii_c rfl) ?_
    refine J_istore_n dX11_sounds_153 rfl (by decide) ?_
    exact h
set_option maxRecDepth 20000 in
set_option maxHeartbeats 2000000 in
theorem bk_X11_sounds_154 {d : Nat} {I : HI} {Q : Option AV → AH → Prop} {a1 : Int} {a2 : Int} {a3 : Int}  (h : ((10 ≤ a3 → (-2147483648 ≤ a2 + 1 ∧ a2 + 1 ≤ 2147483647) ∧ J none mX11_sounds (d + 1) 0 0 146 [(0, vR 489), (1, vI a1), (2, vI (a2 + 1))] [] (mk I) Q) ∧ (¬ (10 ≤ a3) → (-2147483648 ≤ 10 * a2 ∧ 10 * a2 ≤ 2147483647) ∧ (-2147483648 ≤ (10 * a2) + a1 ∧ (10 * a2) + a1 ≤ 2147483647) ∧ ((0 : Int) ≤ ((10 * a2) + a1) ∧ ((10 * a2) + a1 : Int) < 100) ∧ (-2147483648 ≤ 10 * a1 ∧ 10 * a1 ≤ 2147483647) ∧ (-2147483648 ≤ (10 * a1) + a3 ∧ (10 * a1) + a3 ≤ 2147483647) ∧ ((0 : Int) ≤ ((10 * a1) + a3) ∧ ((10 * a1) + a3 : Int) < 100) ∧ (-2147483648 ≤ (I 531 ((10 * a2) + a1).toNat) + (I 531 ((10 * a1) + a3).toNat) ∧ (I 531 ((10 * a2) + a1).toNat) + (I 531 ((10 * a1) + a3).toNat) ≤ 2147483647) ∧ (-2147483648 ≤ 10 * a2 ∧ 10 * a2 ≤ 2147483647) ∧ (-2147483648 ≤ (10 * a2) + a3 ∧ (10 * a2) + a3 ≤ 2147483647) ∧ ((0 : Int) ≤ ((10 * a2) + a3) ∧ ((10 * a2) + a3 : Int) < 100) ∧ (((I 531 ((10 * a2) + a3).toNat) ≤ ((I 531 ((10 * a2) + a1).toNat) + (I 531 ((10 * a1) + a3).toNat)) → (-2147483648 ≤ a3 + 1 ∧ a3 + 1 ≤ 2147483647) ∧ J none mX11_sounds (d + 1) 0 0 154 [(0, vR 489), (1, vI a1), (2, vI a2), (3, vI (a3 + 1))] [] (mk I) Q) ∧ (¬ ((I 531 ((10 * a2) + a3).toNat) ≤ ((I 531 ((10 * a2) + a1).toNat) + (I 531 ((10 * a1) + a3).toNat))) → (-2147483648 ≤ 10 * a2 ∧ 10 * a2 ≤ 2147483647) ∧ (-2147483648 ≤ (10 * a2) + a3 ∧ (10 * a2) + a3 ≤ 2147483647) ∧ ((0 : Int) ≤ ((10 * a2) + a3) ∧ ((10 * a2) + a3 : Int) < 100) ∧ (∀ I1 : HI, I1 = up I 531 ((10 * a2) + a3).toNat ((I 531 ((10 * a2) + a1).toNat) + (I 531 ((10 * a1) + a3).toNat)) → (-2147483648 ≤ a3 + 1 ∧ a3 + 1 ≤ 2147483647) ∧ J none mX11_sounds (d + 1) 0 0 154 [(0, vR 489), (1, vI a1), (2, vI a2), (3, vI (a3 + 1))] [] (mk I1) Q)))))) : J none mX11_sounds (d + 1) 0 0 154 [(0, vR 489), (1, vI a1), (2, vI a2), (3, vI a3)] [] (mk I) Q := by
  refine J_iload_n dX11_sounds_154 rfl rfl ?_
  refine J_bipush dX11_sounds_155 (ii_c rfl) (by decide) ?_
  refine J_ic_ge (tgt := 220) dX11_sounds_157 (by decide) (fun c => ?_) (fun c => ?_)
  · replace h := h.1 c
    refine J_iincN dX11_sounds_220 rfl (by decide) h.1 ?_
    replace h := h.2
    refine J_goto (tgt := 146) dX11_sounds_223 (by decide) ?_
    exact J_loc (ls_sub [0, 1, 2] rfl) h
  · replace h := h.2 c
    refine J_aload_n dX11_sounds_160 rfl rfl ?_
    refine J_getR dX11_sounds_161 ck_11 fw_X11_142 rfl sh_489 rr_489_58 ?_
    refine J_bipush dX11_sounds_164 (ii_c rfl) (by decide) ?_
    refine J_iload_n dX11_sounds_166 rfl rfl ?_
    refine J_imulN dX11_sounds_167 h.1 ?_
    replace h := h.2
    refine J_iload_n dX11_sounds_168 rfl rfl ?_
    refine J_iaddN dX11_sounds_169 h.1 ?_
    replace h := h.2
    refine J_iald dX11_sounds_170 sh_531 h.1.1 h.1.2 ?_
    replace h := h.2
    refine J_aload_n dX11_sounds_171 rfl rfl ?_
    refine J_getR dX11_sounds_172 ck_11 fw_X11_142 rfl sh_489 rr_489_58 ?_
    refine J_bipush dX11_sounds_175 (ii_c rfl) (by decide) ?_
    refine J_iload_n dX11_sounds_177 rfl rfl ?_
    refine J_imulN dX11_sounds_178 h.1 ?_
    replace h := h.2
    refine J_iload_n dX11_sounds_179 rfl rfl ?_
    refine J_iaddN dX11_sounds_180 h.1 ?_
    replace h := h.2
    refine J_iald dX11_sounds_181 sh_531 h.1.1 h.1.2 ?_
    replace h := h.2
    refine J_iaddN dX11_sounds_182 h.1 ?_
    replace h := h.2
    refine J_istore dX11_sounds_183 (by decide) ?_
    refine J_iload dX11_sounds_185 rfl ?_
    refine J_aload_n dX11_sounds_187 rfl rfl ?_
    refine J_getR dX11_sounds_188 ck_11 fw_X11_142 rfl sh_489 rr_489_58 ?_
    refine J_bipush dX11_sounds_191 (ii_c rfl) (by decide) ?_
    refine J_iload_n dX11_sounds_193 rfl rfl ?_
    refine J_imulN dX11_sounds_194 h.1 ?_
    replace h := h.2
    refine J_iload_n dX11_sounds_195 rfl rfl ?_
    refine J_iaddN dX11_sounds_196 h.1 ?_
    replace h := h.2
    refine J_iald dX11_sounds_197 sh_531 h.1.1 h.1.2 ?_
    replace h := h.2
    refine J_ic_ge (tgt := 214) dX11_sounds_198 (by decide) (fun c => ?_) (fun c => ?_)
    · replace h := h.1 c
      refine J_iincN dX11_sounds_214 rfl (by decide) h.1 ?_
      replace h := h.2
      refine J_goto (tgt := 154) dX11_sounds_217 (by decide) ?_
      exact J_loc (ls_sub [0, 1, 2, 3] rfl) h
    · replace h := h.2 c
      refine J_aload_n dX11_sounds_201 rfl rfl ?_
      refine J_getR dX11_sounds_202 ck_11 fw_X11_142 rfl sh_489 rr_489_58 ?_
      refine J_bipush dX11_sounds_205 (ii_c rfl) (by decide) ?_
      refine J_iload_n dX11_sounds_207 rfl rfl ?_
      refine J_imulN dX11_sounds_208 h.1 ?_
      replace h := h.2
      refine J_iload_n dX11_sounds_209 rfl rfl ?_
      refine J_iaddN dX11_sounds_210 h.1 ?_
      replace h := h.2
      refine J_iload dX11_sounds_211 rfl ?_
      refine J_iast dX11_sounds_213 sh_531 h.1.1 h.1.2 ?_
      replace h := h.2 _ rfl
      refine J_iincN dX11_sounds_214 rfl (by decide) h.1 ?_
      replace h := h.2
      refine J_goto (tgt := 154) dX11_sounds_217 (by decide) ?_
      exact J_loc (ls_sub [0, 1, 2, 3] rfl) h
set_option maxRecDepth 20000 in
set_option maxHeartbeats 2000000 in
theorem bk_X11_parishes_0 {d : Nat} {I : HI} {Q : Option AV → AH → Prop}   (h : J none mX11_parishes (d + 1) 0 0 4 [(0, vR 489), (1, vI 0), (2, vI 0)] [] (mk I) Q) : J none mX11_parishes (d + 1) 0 0 0 [(0, vR 489)] [] (mk I) Q := by
  refine J_iconst dX11_parishes_0 (ii_c rfl) ?_
  refine J_istore_n dX11_parishes_1 rfl (by decide) ?_
  refine J_iconst dX11_parishes_2 (ii_c rfl) ?_
  refine J_istore_n dX11_parishes_3 rfl (by decide) ?_
  exact h
set_option maxRecDepth 20000 in
set_option maxHeartbeats 2000000 in
theorem bk_X11_parishes_4 {d : Nat} {I : HI} {Q : Option AV → AH → Prop} {a1 : Int} {a2 : Int}  (h : CI mX11_corners d [vR 489] I (fun x1 I1 => ((x1 ≤ a2 → Q (some (vI a1)) (mk I1)) ∧ (¬ (x1 ≤ a2) → (-2147483648 ≤ 10 + a2 ∧ 10 + a2 ≤ 2147483647) ∧ ((0 : Int) ≤ (10 + a2) ∧ (10 + a2 : Int) < 20) ∧ (-2147483648 ≤ a2 + 1 ∧ a2 + 1 ≤ 2147483647) ∧ J none mX11_parishes (d + 1) 0 0 4 [(0, vR 489), (1, vI (oO a1 (oSl 1 (I1 520 (10 + a2).toNat)))), (2, vI (a2 + 1))] [] (mk I1) Q)))) : J none mX11_parishes (d + 1) 0 0 4 [(0, vR 489), (1, vI a1), (2, vI a2)] [] (mk I) Q := by
  refine J_iload_n dX11_parishes_4 rfl rfl ?_
  refine J_aload_n dX11_parishes_5 rfl rfl ?_
  refine J_callV (as := []) (mc1 := 0) (ms1 := 0) (mc := 0) (ms := 0) dX11_parishes_6 mv_X11_corners lk_X11_444 sh_489 rfl (Nat.le_of_ble_eq_true rfl) (Nat.le_of_ble_eq_true rfl) h (fun r σ hq _ => ?_)
  obtain ⟨x1, I1, rfl, rfl, h⟩ := hq
  change J _ _ _ _ _ _ _ [vI x1, vI a2] _ _
  refine J_ic_ge (tgt := 32) dX11_parishes_9 (by decide) (fun c => ?_) (fun c => ?_)
  · replace h := h.1 c
    refine J_iload_n dX11_parishes_32 rfl rfl ?_
    exact J_reti dX11_parishes_33 rfl h
  · replace h := h.2 c
    refine J_iload_n dX11_parishes_12 rfl rfl ?_
    refine J_iconst dX11_parishes_13 (ii_c rfl) ?_
    refine J_aload_n dX11_parishes_14 rfl rfl ?_
    refine J_getR dX11_parishes_15 ck_11 fw_X11_106 rfl sh_489 rr_489_39 ?_
    refine J_bipush dX11_parishes_18 (ii_c rfl) (by decide) ?_
    refine J_iload_n dX11_parishes_20 rfl rfl ?_
    refine J_iaddN dX11_parishes_21 h.1 ?_
    replace h := h.2
    refine J_iald dX11_parishes_22 sh_520 h.1.1 h.1.2 ?_
    replace h := h.2
    refine J_ishl dX11_parishes_23 ?_
    refine J_ior dX11_parishes_24 ?_
    refine J_istore_n dX11_parishes_25 rfl (by decide) ?_
    refine J_iincN dX11_parishes_26 rfl (by decide) h.1 ?_
    replace h := h.2
    refine J_goto (tgt := 4) dX11_parishes_29 (by decide) ?_
    exact h
set_option maxRecDepth 20000 in
set_option maxHeartbeats 2000000 in
theorem bk_X11_bits_0 {d : Nat} {I : HI} {Q : Option AV → AH → Prop} {a0 : Int}  (h : J none mX11_bits (d + 1) 0 0 4 [(0, vI a0), (1, vI 0), (2, vI a0)] [] (mk I) Q) : J none mX11_bits (d + 1) 0 0 0 [(0, vI a0)] [] (mk I) Q := by
  refine J_iconst dX11_bits_0 (ii_c rfl) ?_
  refine J_istore_n dX11_bits_1 rfl (by decide) ?_
  refine J_iload_n dX11_bits_2 rfl rfl ?_
  refine J_istore_n dX11_bits_3 rfl (by decide) ?_
  exact h
set_option maxRecDepth 20000 in
set_option maxHeartbeats 2000000 in
theorem bk_X11_bits_4 {d : Nat} {I : HI} {Q : Option AV → AH → Prop} {a0 : Int} {a1 : Int} {a2 : Int}  (h : ((a2 = 0 → Q (some (vI a1)) (mk I)) ∧ (¬ (a2 = 0) → (-2147483648 ≤ a1 + 1 ∧ a1 + 1 ≤ 2147483647) ∧ (-2147483648 ≤ a2 - 1 ∧ a2 - 1 ≤ 2147483647) ∧ J none mX11_bits (d + 1) 0 0 4 [(0, vI a0), (1, vI (a1 + 1)), (2, vI (oA a2 (a2 - 1)))] [] (mk I) Q))) : J none mX11_bits (d + 1) 0 0 4 [(0, vI a0), (1, vI a1), (2, vI a2)] [] (mk I) Q := by
  refine J_iload_n dX11_bits_4 rfl rfl ?_
  refine J_if_eq (tgt := 20) dX11_bits_5 (by decide) (fun c => ?_) (fun c => ?_)
  · replace h := h.1 c
    refine J_iload_n dX11_bits_20 rfl rfl ?_
    exact J_reti dX11_bits_21 rfl h
  · replace h := h.2 c
    refine J_iincN dX11_bits_8 rfl (by decide) h.1 ?_
    replace h := h.2
    refine J_iload_n dX11_bits_11 rfl rfl ?_
    refine J_iload_n dX11_bits_12 rfl rfl ?_
    refine J_iconst dX11_bits_13 (ii_c rfl) ?_
    refine J_isubN dX11_bits_14 h.1 ?_
    replace h := h.2
    refine J_iand dX11_bits_15 ?_
    refine J_istore_n dX11_bits_16 rfl (by decide) ?_
    refine J_goto (tgt := 4) dX11_bits_17 (by decide) ?_
    exact h
set_option maxRecDepth 20000 in
set_option maxHeartbeats 2000000 in
theorem bk_X11_saintOf_0 {d : Nat} {I : HI} {Q : Option AV → AH → Prop} {a0 : Int}  (h : ((4 ≤ a0 → (-2147483648 ≤ a0 - 4 ∧ a0 - 4 ≤ 2147483647) ∧ Q (some (vI (oD (a0 - 4) 60))) (mk I)) ∧ (¬ (4 ≤ a0) → Q (some (vI a0)) (mk I)))) : J none mX11_saintOf (d + 1) 0 0 0 [(0, vI a0)] [] (mk I) Q := by
  refine J_iload_n dX11_saintOf_0 rfl rfl ?_
  refine J_iconst dX11_saintOf_1 (ii_c rfl) ?_
  refine J_ic_ge (tgt := 9) dX11_saintOf_2 (by decide) (fun c => ?_) (fun c => ?_)
  · replace h := h.1 c
    refine J_iload_n dX11_saintOf_9 rfl rfl ?_
    refine J_iconst dX11_saintOf_10 (ii_c rfl) ?_
    refine J_isubN dX11_saintOf_11 h.1 ?_
    replace h := h.2
    refine J_bipush dX11_saintOf_12 (ii_c rfl) (by decide) ?_
    refine J_idiv dX11_saintOf_14 (by decide) ?_
    exact J_reti dX11_saintOf_15 rfl h
  · replace h := h.2 c
    refine J_iload_n dX11_saintOf_5 rfl rfl ?_
    refine J_goto (tgt := 15) dX11_saintOf_6 (by decide) ?_
    exact J_reti dX11_saintOf_15 rfl h
set_option maxRecDepth 20000 in
set_option maxHeartbeats 2000000 in
theorem bk_X11_endOf_0 {d : Nat} {I : HI} {Q : Option AV → AH → Prop} {a1 : Int}  (h : ((0 : Int) ≤ a1 ∧ (a1 : Int) < 244) ∧ (((I 532 a1.toNat) ≠ 0 → (-2147483648 ≤ 24 * a1 ∧ 24 * a1 ≤ 2147483647) ∧ ((0 : Int) ≤ a1 ∧ (a1 : Int) < 244) ∧ (-2147483648 ≤ (24 * a1) + (I 532 a1.toNat) ∧ (24 * a1) + (I 532 a1.toNat) ≤ 2147483647) ∧ (-2147483648 ≤ ((24 * a1) + (I 532 a1.toNat)) - 1 ∧ ((24 * a1) + (I 532 a1.toNat)) - 1 ≤ 2147483647) ∧ ((0 : Int) ≤ (((24 * a1) + (I 532 a1.toNat)) - 1) ∧ (((24 * a1) + (I 532 a1.toNat)) - 1 : Int) < 5856) ∧ Q (some (vI (I 535 (((24 * a1) + (I 532 a1.toNat)) - 1).toNat))) (mk I)) ∧ ((I 532 a1.toNat) = 0 → Q (some (vI 0)) (mk I)))) : J none mX11_endOf (d + 1) 0 0 0 [(0, vR 489), (1, vI a1)] [] (mk I) Q := by
  refine J_aload_n dX11_endOf_0 rfl rfl ?_
  refine J_getR dX11_endOf_1 ck_11 fw_X11_145 rfl sh_489 rr_489_59 ?_
  refine J_iload_n dX11_endOf_4 rfl rfl ?_
  refine J_iald dX11_endOf_5 sh_532 h.1.1 h.1.2 ?_
  replace h := h.2
  refine J_if_ne (tgt := 13) dX11_endOf_6 (by decide) (fun c => ?_) (fun c => ?_)
  · replace h := h.1 c
    refine J_aload_n dX11_endOf_13 rfl rfl ?_
    refine J_getR dX11_endOf_14 ck_11 fw_X11_154 rfl sh_489 rr_489_62 ?_
    refine J_bipush dX11_endOf_17 (ii_c rfl) (by decide) ?_
    refine J_iload_n dX11_endOf_19 rfl rfl ?_
    refine J_imulN dX11_endOf_20 h.1 ?_
    replace h := h.2
    refine J_aload_n dX11_endOf_21 rfl rfl ?_
    refine J_getR dX11_endOf_22 ck_11 fw_X11_145 rfl sh_489 rr_489_59 ?_
    refine J_iload_n dX11_endOf_25 rfl rfl ?_
    refine J_iald dX11_endOf_26 sh_532 h.1.1 h.1.2 ?_
    replace h := h.2
    refine J_iaddN dX11_endOf_27 h.1 ?_
    replace h := h.2
    refine J_iconst dX11_endOf_28 (ii_c rfl) ?_
    refine J_isubN dX11_endOf_29 h.1 ?_
    replace h := h.2
    refine J_iald dX11_endOf_30 sh_535 h.1.1 h.1.2 ?_
    replace h := h.2
    exact J_reti dX11_endOf_31 rfl h
  · replace h := h.2 c
    refine J_iconst dX11_endOf_9 (ii_c rfl) ?_
    refine J_goto (tgt := 31) dX11_endOf_10 (by decide) ?_
    exact J_reti dX11_endOf_31 rfl h
set_option maxRecDepth 20000 in
set_option maxHeartbeats 2000000 in
theorem bk_X11_endsAt_0 {d : Nat} {I : HI} {Q : Option AV → AH → Prop} {a1 : Int}  (h : ((0 : Int) ≤ a1 ∧ (a1 : Int) < 244) ∧ (((I 532 a1.toNat) ≠ 0 → (-2147483648 ≤ 24 * a1 ∧ 24 * a1 ≤ 2147483647) ∧ ((0 : Int) ≤ a1 ∧ (a1 : Int) < 244) ∧ (-2147483648 ≤ (24 * a1) + (I 532 a1.toNat) ∧ (24 * a1) + (I 532 a1.toNat) ≤ 2147483647) ∧ (-2147483648 ≤ ((24 * a1) + (I 532 a1.toNat)) - 1 ∧ ((24 * a1) + (I 532 a1.toNat)) - 1 ≤ 2147483647) ∧ ((0 : Int) ≤ (((24 * a1) + (I 532 a1.toNat)) - 1) ∧ (((24 * a1) + (I 532 a1.toNat)) - 1 : Int) < 5856) ∧ Q (some (vI (I 533 (((24 * a1) + (I 532 a1.toNat)) - 1).toNat))) (mk I)) ∧ ((I 532 a1.toNat) = 0 → CI mX11_saintOf d [vI a1] I (fun x1 I1 => CI mX11_homeOf d [vR 489, vI x1] I1 (fun x2 I2 => Q (some (vI x2)) (mk I2)))))) : J none mX11_endsAt (d + 1) 0 0 0 [(0, vR 489), (1, vI a1)] [] (mk I) Q := by
  refine J_aload_n dX11_endsAt_0 rfl rfl ?_
  refine J_getR dX11_endsAt_1 ck_11 fw_X11_145 rfl sh_489 rr_489_59 ?_
  refine J_iload_n dX11_endsAt_4 rfl rfl ?_
  refine J_iald dX11_endsAt_5 sh_532 h.1.1 h.1.2 ?_
  replace h := h.2
  refine J_if_ne (tgt := 20) dX11_endsAt_6 (by decide) (fun c => ?_) (fun c => ?_)
  · replace h := h.1 c
    refine J_aload_n dX11_endsAt_20 rfl rfl ?_
    refine J_getR dX11_endsAt_21 ck_11 fw_X11_148 rfl sh_489 rr_489_60 ?_
    refine J_bipush dX11_endsAt_24 (ii_c rfl) (by decide) ?_
    refine J_iload_n dX11_endsAt_26 rfl rfl ?_
    refine J_imulN dX11_endsAt_27 h.1 ?_
    replace h := h.2
    refine J_aload_n dX11_endsAt_28 rfl rfl ?_
    refine J_getR dX11_endsAt_29 ck_11 fw_X11_145 rfl sh_489 rr_489_59 ?_
    refine J_iload_n dX11_endsAt_32 rfl rfl ?_
    refine J_iald dX11_endsAt_33 sh_532 h.1.1 h.1.2 ?_
    replace h := h.2
    refine J_iaddN dX11_endsAt_34 h.1 ?_
    replace h := h.2
    refine J_iconst dX11_endsAt_35 (ii_c rfl) ?_
    refine J_isubN dX11_endsAt_36 h.1 ?_
    replace h := h.2
    refine J_iald dX11_endsAt_37 sh_533 h.1.1 h.1.2 ?_
    replace h := h.2
    exact J_reti dX11_endsAt_38 rfl h
  · replace h := h.2 c
    refine J_aload_n dX11_endsAt_9 rfl rfl ?_
    refine J_iload_n dX11_endsAt_10 rfl rfl ?_
    refine J_callS (as := [_]) (mc1 := 0) (ms1 := 0) (mc := 0) (ms := 0) dX11_endsAt_11 ms_X11_saintOf lk_X11_453 rfl (Nat.le_of_ble_eq_true rfl) (Nat.le_of_ble_eq_true rfl) h (fun r σ hq _ => ?_)
    obtain ⟨x1, I1, rfl, rfl, h⟩ := hq
    change J _ _ _ _ _ _ _ [vI x1, vR 489] _ _
    refine J_callV (as := [_]) (mc1 := 0) (ms1 := 0) (mc := 0) (ms := 0) dX11_endsAt_14 mv_X11_homeOf lk_X11_456 sh_489 rfl (Nat.le_of_ble_eq_true rfl) (Nat.le_of_ble_eq_true rfl) h (fun r σ hq _ => ?_)
    obtain ⟨x2, I2, rfl, rfl, h⟩ := hq
    change J _ _ _ _ _ _ _ [vI x2] _ _
    refine J_goto (tgt := 38) dX11_endsAt_17 (by decide) ?_
    exact J_reti dX11_endsAt_38 rfl h
set_option maxRecDepth 20000 in
set_option maxHeartbeats 2000000 in
theorem bk_X11_fromOf_0 {d : Nat} {I : HI} {Q : Option AV → AH → Prop} {a1 : Int} {a2 : Int}  (h : ((a2 ≠ 0 → (-2147483648 ≤ 24 * a1 ∧ 24 * a1 ≤ 2147483647) ∧ (-2147483648 ≤ (24 * a1) + a2 ∧ (24 * a1) + a2 ≤ 2147483647) ∧ (-2147483648 ≤ ((24 * a1) + a2) - 1 ∧ ((24 * a1) + a2) - 1 ≤ 2147483647) ∧ ((0 : Int) ≤ (((24 * a1) + a2) - 1) ∧ (((24 * a1) + a2) - 1 : Int) < 5856) ∧ Q (some (vI (I 533 (((24 * a1) + a2) - 1).toNat))) (mk I)) ∧ (a2 = 0 → CI mX11_saintOf d [vI a1] I (fun x1 I1 => CI mX11_homeOf d [vR 489, vI x1] I1 (fun x2 I2 => Q (some (vI x2)) (mk I2)))))) : J none mX11_fromOf (d + 1) 0 0 0 [(0, vR 489), (1, vI a1), (2, vI a2)] [] (mk I) Q := by
  refine J_iload_n dX11_fromOf_0 rfl rfl ?_
  refine J_if_ne (tgt := 15) dX11_fromOf_1 (by decide) (fun c => ?_) (fun c => ?_)
  · replace h := h.1 c
    refine J_aload_n dX11_fromOf_15 rfl rfl ?_
    refine J_getR dX11_fromOf_16 ck_11 fw_X11_148 rfl sh_489 rr_489_60 ?_
    refine J_bipush dX11_fromOf_19 (ii_c rfl) (by decide) ?_
    refine J_iload_n dX11_fromOf_21 rfl rfl ?_
    refine J_imulN dX11_fromOf_22 h.1 ?_
    replace h := h.2
    refine J_iload_n dX11_fromOf_23 rfl rfl ?_
    refine J_iaddN dX11_fromOf_24 h.1 ?_
    replace h := h.2
    refine J_iconst dX11_fromOf_25 (ii_c rfl) ?_
    refine J_isubN dX11_fromOf_26 h.1 ?_
    replace h := h.2
    refine J_iald dX11_fromOf_27 sh_533 h.1.1 h.1.2 ?_
    replace h := h.2
    exact J_reti dX11_fromOf_28 rfl h
  · replace h := h.2 c
    refine J_aload_n dX11_fromOf_4 rfl rfl ?_
    refine J_iload_n dX11_fromOf_5 rfl rfl ?_
    refine J_callS (as := [_]) (mc1 := 0) (ms1 := 0) (mc := 0) (ms := 0) dX11_fromOf_6 ms_X11_saintOf lk_X11_453 rfl (Nat.le_of_ble_eq_true rfl) (Nat.le_of_ble_eq_true rfl) h (fun r σ hq _ => ?_)
    obtain ⟨x1, I1, rfl, rfl, h⟩ := hq
    change J _ _ _ _ _ _ _ [vI x1, vR 489] _ _
    refine J_callV (as := [_]) (mc1 := 0) (ms1 := 0) (mc := 0) (ms := 0) dX11_fromOf_9 mv_X11_homeOf lk_X11_456 sh_489 rfl (Nat.le_of_ble_eq_true rfl) (Nat.le_of_ble_eq_true rfl) h (fun r σ hq _ => ?_)
    obtain ⟨x2, I2, rfl, rfl, h⟩ := hq
    change J _ _ _ _ _ _ _ [vI x2] _ _
    refine J_goto (tgt := 28) dX11_fromOf_12 (by decide) ?_
    exact J_reti dX11_fromOf_28 rfl h
set_option maxRecDepth 20000 in
set_option maxHeartbeats 2000000 in
theorem bk_X11_leaves_0 {d : Nat} {I : HI} {Q : Option AV → AH → Prop} {a1 : Int} {a2 : Int}  (h : ((a2 ≠ 0 → (-2147483648 ≤ 24 * a1 ∧ 24 * a1 ≤ 2147483647) ∧ (-2147483648 ≤ (24 * a1) + a2 ∧ (24 * a1) + a2 ≤ 2147483647) ∧ (-2147483648 ≤ ((24 * a1) + a2) - 1 ∧ ((24 * a1) + a2) - 1 ≤ 2147483647) ∧ ((0 : Int) ≤ (((24 * a1) + a2) - 1) ∧ (((24 * a1) + a2) - 1 : Int) < 5856) ∧ Q (some (vI (I 535 (((24 * a1) + a2) - 1).toNat))) (mk I)) ∧ (a2 = 0 → Q (some (vI 0)) (mk I)))) : J none mX11_leaves (d + 1) 0 0 0 [(0, vR 489), (1, vI a1), (2, vI a2)] [] (mk I) Q := by
  refine J_iload_n dX11_leaves_0 rfl rfl ?_
  refine J_if_ne (tgt := 8) dX11_leaves_1 (by decide) (fun c => ?_) (fun c => ?_)
  · replace h := h.1 c
    refine J_aload_n dX11_leaves_8 rfl rfl ?_
    refine J_getR dX11_leaves_9 ck_11 fw_X11_154 rfl sh_489 rr_489_62 ?_
    refine J_bipush dX11_leaves_12 (ii_c rfl) (by decide) ?_
    refine J_iload_n dX11_leaves_14 rfl rfl ?_
    refine J_imulN dX11_leaves_15 h.1 ?_
    replace h := h.2
    refine J_iload_n dX11_leaves_16 rfl rfl ?_
    refine J_iaddN dX11_leaves_17 h.1 ?_
    replace h := h.2
    refine J_iconst dX11_leaves_18 (ii_c rfl) ?_
    refine J_isubN dX11_leaves_19 h.1 ?_
    replace h := h.2
    refine J_iald dX11_leaves_20 sh_535 h.1.1 h.1.2 ?_
    replace h := h.2
    exact J_reti dX11_leaves_21 rfl h
  · replace h := h.2 c
    refine J_iconst dX11_leaves_4 (ii_c rfl) ?_
    refine J_goto (tgt := 21) dX11_leaves_5 (by decide) ?_
    exact J_reti dX11_leaves_21 rfl h
set_option maxRecDepth 20000 in
set_option maxHeartbeats 2000000 in
theorem bk_X11_treads_0 {d : Nat} {I : HI} {Q : Option AV → AH → Prop} {a1 : Int} {a2 : Int} {a3 : Int} {a4 : Int}  (h : (-2147483648 ≤ 24 * a1 ∧ 24 * a1 ≤ 2147483647) ∧ ((0 : Int) ≤ a1 ∧ (a1 : Int) < 244) ∧ (-2147483648 ≤ (24 * a1) + (I 532 a1.toNat) ∧ (24 * a1) + (I 532 a1.toNat) ≤ 2147483647) ∧ CI mX11_endOf d [vR 489, vI a1] I (fun x1 I1 => ((0 : Int) ≤ ((24 * a1) + (I 532 a1.toNat)) ∧ ((24 * a1) + (I 532 a1.toNat) : Int) < 5856) ∧ (∀ I2 : HI, I2 = up I1 533 ((24 * a1) + (I 532 a1.toNat)).toNat a2 → ((0 : Int) ≤ ((24 * a1) + (I 532 a1.toNat)) ∧ ((24 * a1) + (I 532 a1.toNat) : Int) < 5856) ∧ (∀ I3 : HI, I3 = up I2 534 ((24 * a1) + (I 532 a1.toNat)).toNat a3 → (-2147483648 ≤ x1 + a4 ∧ x1 + a4 ≤ 2147483647) ∧ ((0 : Int) ≤ ((24 * a1) + (I 532 a1.toNat)) ∧ ((24 * a1) + (I 532 a1.toNat) : Int) < 5856) ∧ (∀ I4 : HI, I4 = up I3 535 ((24 * a1) + (I 532 a1.toNat)).toNat (x1 + a4) → ((0 : Int) ≤ a1 ∧ (a1 : Int) < 244) ∧ (-2147483648 ≤ (I4 532 a1.toNat) + 1 ∧ (I4 532 a1.toNat) + 1 ≤ 2147483647) ∧ ((0 : Int) ≤ a1 ∧ (a1 : Int) < 244) ∧ (∀ I5 : HI, I5 = up I4 532 a1.toNat ((I4 532 a1.toNat) + 1) → Q none (mk I5))))))) : J none mX11_treads (d + 1) 0 0 0 [(0, vR 489), (1, vI a1), (2, vI a2), (3, vI a3), (4, vI a4)] [] (mk I) Q := by
  refine J_bipush dX11_treads_0 (ii_c rfl) (by decide) ?_
  refine J_iload_n dX11_treads_2 rfl rfl ?_
  refine J_imulN dX11_treads_3 h.1 ?_
  replace h := h.2
  refine J_aload_n dX11_treads_4 rfl rfl ?_
  refine J_getR dX11_treads_5 ck_11 fw_X11_145 rfl sh_489 rr_489_59 ?_
  refine J_iload_n dX11_treads_8 rfl rfl ?_
  refine J_iald dX11_treads_9 sh_532 h.1.1 h.1.2 ?_
  replace h := h.2
  refine J_iaddN dX11_treads_10 h.1 ?_
  replace h := h.2
  refine J_istore dX11_treads_11 (by decide) ?_
  refine J_aload_n dX11_treads_13 rfl rfl ?_
  refine J_iload_n dX11_treads_14 rfl rfl ?_
  refine J_callV (as := [_]) (mc1 := 0) (ms1 := 0) (mc := 0) (ms := 0) dX11_treads_15 mv_X11_endOf lk_X11_459 sh_489 rfl (Nat.le_of_ble_eq_true rfl) (Nat.le_of_ble_eq_true rfl) h (fun r σ hq _ => ?_)
  obtain ⟨x1, I1, rfl, rfl, h⟩ := hq
  change J _ _ _ _ _ _ _ [vI x1] _ _
  refine J_istore dX11_treads_18 (by decide) ?_
  refine J_aload_n dX11_treads_20 rfl rfl ?_
  refine J_getR dX11_treads_21 ck_11 fw_X11_148 rfl sh_489 rr_489_60 ?_
  refine J_iload dX11_treads_24 rfl ?_
  refine J_iload_n dX11_treads_26 rfl rfl ?_
  refine J_iast dX11_treads_27 sh_533 h.1.1 h.1.2 ?_
  replace h := h.2 _ rfl
  refine J_aload_n dX11_treads_28 rfl rfl ?_
  refine J_getR dX11_treads_29 ck_11 fw_X11_151 rfl sh_489 rr_489_61 ?_
  refine J_iload dX11_treads_32 rfl ?_
  refine J_iload_n dX11_treads_34 rfl rfl ?_
  refine J_iast dX11_treads_35 sh_534 h.1.1 h.1.2 ?_
  replace h := h.2 _ rfl
  refine J_aload_n dX11_treads_36 rfl rfl ?_
  refine J_getR dX11_treads_37 ck_11 fw_X11_154 rfl sh_489 rr_489_62 ?_
  refine J_iload dX11_treads_40 rfl ?_
  refine J_iload dX11_treads_42 rfl ?_
  refine J_iload dX11_treads_44 rfl ?_
  refine J_iaddN dX11_treads_46 h.1 ?_
  replace h := h.2
  refine J_iast dX11_treads_47 sh_535 h.1.1 h.1.2 ?_
  replace h := h.2 _ rfl
  refine J_aload_n dX11_treads_48 rfl rfl ?_
  refine J_getR dX11_treads_49 ck_11 fw_X11_145 rfl sh_489 rr_489_59 ?_
  refine J_iload_n dX11_treads_52 rfl rfl ?_
  refine J_dup2 dX11_treads_53 rfl rfl ?_
  refine J_iald dX11_treads_54 sh_532 h.1.1 h.1.2 ?_
  replace h := h.2
  refine J_iconst dX11_treads_55 (ii_c rfl) ?_
  refine J_iaddN dX11_treads_56 h.1 ?_
  replace h := h.2
  refine J_iast dX11_treads_57 sh_532 h.1.1 h.1.2 ?_
  replace h := h.2 _ rfl
  exact J_retv dX11_treads_58 rfl h
set_option maxRecDepth 20000 in
set_option maxHeartbeats 2000000 in
theorem bk_X11_canGo_0 {d : Nat} {I : HI} {Q : Option AV → AH → Prop} {a1 : Int} {a2 : Int}  (h : ((0 : Int) ≤ a1 ∧ (a1 : Int) < 244) ∧ ((24 ≤ (I 532 a1.toNat) → Q (some (vI 0)) (mk I)) ∧ (¬ (24 ≤ (I 532 a1.toNat)) → CI mX11_endOf d [vR 489, vI a1] I (fun x1 I1 => (-2147483648 ≤ x1 + a2 ∧ x1 + a2 ≤ 2147483647) ∧ ((999 < (x1 + a2) → Q (some (vI 0)) (mk I1)) ∧ (¬ (999 < (x1 + a2)) → Q (some (vI 1)) (mk I1))))))) : J none mX11_canGo (d + 1) 0 0 0 [(0, vR 489), (1, vI a1), (2, vI a2)] [] (mk I) Q := by
  refine J_aload_n dX11_canGo_0 rfl rfl ?_
  refine J_getR dX11_canGo_1 ck_11 fw_X11_145 rfl sh_489 rr_489_59 ?_
  refine J_iload_n dX11_canGo_4 rfl rfl ?_
  refine J_iald dX11_canGo_5 sh_532 h.1.1 h.1.2 ?_
  replace h := h.2
  refine J_bipush dX11_canGo_6 (ii_c rfl) (by decide) ?_
  refine J_ic_ge (tgt := 28) dX11_canGo_8 (by decide) (fun c => ?_) (fun c => ?_)
  · replace h := h.1 c
    refine J_iconst dX11_canGo_28 (ii_c rfl) ?_
    exact J_retz dX11_canGo_29 rfl (Or.inl rfl) h
  · replace h := h.2 c
    refine J_aload_n dX11_canGo_11 rfl rfl ?_
    refine J_iload_n dX11_canGo_12 rfl rfl ?_
    refine J_callV (as := [_]) (mc1 := 0) (ms1 := 0) (mc := 0) (ms := 0) dX11_canGo_13 mv_X11_endOf lk_X11_459 sh_489 rfl (Nat.le_of_ble_eq_true rfl) (Nat.le_of_ble_eq_true rfl) h (fun r σ hq _ => ?_)
    obtain ⟨x1, I1, rfl, rfl, h⟩ := hq
    change J _ _ _ _ _ _ _ [vI x1] _ _
    refine J_iload_n dX11_canGo_16 rfl rfl ?_
    refine J_iaddN dX11_canGo_17 h.1 ?_
    replace h := h.2
    refine J_sipush dX11_canGo_18 (ii_c rfl) (by decide) ?_
    refine J_ic_gt (tgt := 28) dX11_canGo_21 (by decide) (fun c => ?_) (fun c => ?_)
    · replace h := h.1 c
      refine J_iconst dX11_canGo_28 (ii_c rfl) ?_
      exact J_retz dX11_canGo_29 rfl (Or.inl rfl) h
    · replace h := h.2 c
      refine J_iconst dX11_canGo_24 (ii_c rfl) ?_
      refine J_goto (tgt := 29) dX11_canGo_25 (by decide) ?_
      exact J_retz dX11_canGo_29 rfl (Or.inr rfl) h
set_option maxRecDepth 20000 in
set_option maxHeartbeats 2000000 in
theorem bk_X11_longOf_0 {d : Nat} {I : HI} {Q : Option AV → AH → Prop} {a1 : Int} {a2 : Int}  (h : (-2147483648 ≤ 4 * a1 ∧ 4 * a1 ≤ 2147483647) ∧ (-2147483648 ≤ 64 + (4 * a1) ∧ 64 + (4 * a1) ≤ 2147483647) ∧ (-2147483648 ≤ (64 + (4 * a1)) + 2 ∧ (64 + (4 * a1)) + 2 ≤ 2147483647) ∧ ((0 : Int) ≤ ((64 + (4 * a1)) + 2) ∧ ((64 + (4 * a1)) + 2 : Int) < 128) ∧ CI mX11_paceOf d [vR 489, vI a2] I (fun x1 I1 => (-2147483648 ≤ (I 521 ((64 + (4 * a1)) + 2).toNat) * x1 ∧ (I 521 ((64 + (4 * a1)) + 2).toNat) * x1 ≤ 2147483647) ∧ Q (some (vI ((I 521 ((64 + (4 * a1)) + 2).toNat) * x1))) (mk I1))) : J none mX11_longOf (d + 1) 0 0 0 [(0, vR 489), (1, vI a1), (2, vI a2)] [] (mk I) Q := by
  refine J_aload_n dX11_longOf_0 rfl rfl ?_
  refine J_getR dX11_longOf_1 ck_11 fw_X11_109 rfl sh_489 rr_489_40 ?_
  refine J_bipush dX11_longOf_4 (ii_c rfl) (by decide) ?_
  refine J_iconst dX11_longOf_6 (ii_c rfl) ?_
  refine J_iload_n dX11_longOf_7 rfl rfl ?_
  refine J_imulN dX11_longOf_8 h.1 ?_
  replace h := h.2
  refine J_iaddN dX11_longOf_9 h.1 ?_
  replace h := h.2
  refine J_iconst dX11_longOf_10 (ii_c rfl) ?_
  refine J_iaddN dX11_longOf_11 h.1 ?_
  replace h := h.2
  refine J_iald dX11_longOf_12 sh_521 h.1.1 h.1.2 ?_
  replace h := h.2
  refine J_aload_n dX11_longOf_13 rfl rfl ?_
  refine J_iload_n dX11_longOf_14 rfl rfl ?_
  refine J_callV (as := [_]) (mc1 := 0) (ms1 := 0) (mc := 0) (ms := 0) dX11_longOf_15 mv_X11_paceOf lk_X11_462 sh_489 rfl (Nat.le_of_ble_eq_true rfl) (Nat.le_of_ble_eq_true rfl) h (fun r σ hq _ => ?_)
  obtain ⟨x1, I1, rfl, rfl, h⟩ := hq
  change J _ _ _ _ _ _ _ [vI x1, vI (I 521 ((64 + (4 * a1)) + 2).toNat)] _ _
  refine J_imulN dX11_longOf_18 h.1 ?_
  replace h := h.2
  exact J_reti dX11_longOf_19 rfl h
set_option maxRecDepth 20000 in
set_option maxHeartbeats 2000000 in
theorem bk_X11_isShut_0 {d : Nat} {I : HI} {Q : Option AV → AH → Prop} {a1 : Int}  (h : (((oA (oSr (I 489 63) a1) 1) ≠ 1 → Q (some (vI 0)) (mk I)) ∧ ((oA (oSr (I 489 63) a1) 1) = 1 → Q (some (vI 1)) (mk I)))) : J none mX11_isShut (d + 1) 0 0 0 [(0, vR 489), (1, vI a1)] [] (mk I) Q := by
  refine J_aload_n dX11_isShut_0 rfl rfl ?_
  refine J_getI dX11_isShut_1 ck_11 fw_X11_358 rfl sh_489 ?_
  refine J_iload_n dX11_isShut_4 rfl rfl ?_
  refine J_ishr dX11_isShut_5 ?_
  refine J_iconst dX11_isShut_6 (ii_c rfl) ?_
  refine J_iand dX11_isShut_7 ?_
  refine J_iconst dX11_isShut_8 (ii_c rfl) ?_
  refine J_ic_ne (tgt := 16) dX11_isShut_9 (by decide) (fun c => ?_) (fun c => ?_)
  · replace h := h.1 c
    refine J_iconst dX11_isShut_16 (ii_c rfl) ?_
    exact J_retz dX11_isShut_17 rfl (Or.inl rfl) h
  · replace h := h.2 c
    refine J_iconst dX11_isShut_12 (ii_c rfl) ?_
    refine J_goto (tgt := 17) dX11_isShut_13 (by decide) ?_
    exact J_retz dX11_isShut_17 rfl (Or.inr rfl) h
set_option maxRecDepth 20000 in
set_option maxHeartbeats 2000000 in
theorem bk_X11_has_0 {d : Nat} {I : HI} {Q : Option AV → AH → Prop} {a1 : Int}  (h : (((a1 < 0 ∨ 9 < a1) → Q (some (vI (-1))) (mk I)) ∧ (a1 = 0 → CI mX11_corners d [vR 489] I (fun x1 I1 => Q (some (vI x1)) (mk I1))) ∧ (a1 = 1 → CI mX11_laneMany d [vR 489] I (fun x2 I2 => Q (some (vI x2)) (mk I2))) ∧ (a1 = 2 → CI mX11_saintMany d [vR 489] I (fun x3 I3 => Q (some (vI x3)) (mk I3))) ∧ (a1 = 3 → Q (some (vI (I 518 8))) (mk I)) ∧ (a1 = 4 → CI mX11_exceptions d [vR 489] I (fun x4 I4 => Q (some (vI x4)) (mk I4))) ∧ (a1 = 5 → Q (some (vI (I 489 44))) (mk I)) ∧ (a1 = 6 → CI mX11_parishes d [vR 489] I (fun x5 I5 => CI mX11_bits d [vI x5] I5 (fun x6 I6 => Q (some (vI x6)) (mk I6)))) ∧ (a1 = 7 → CI mX11_bits d [vI (I 489 63)] I (fun x7 I7 => Q (some (vI x7)) (mk I7))) ∧ (a1 = 8 → Q (some (vI (I 489 64))) (mk I)) ∧ (a1 = 9 → Q (some (vI (I 489 71))) (mk I)))) : J none mX11_has (d + 1) 0 0 0 [(0, vR 489), (1, vI a1)] [] (mk I) Q := by
  refine J_iload_n dX11_has_0 rfl rfl ?_
  rcases (show (a1 < 0 ∨ 9 < a1) ∨ a1 = 0 ∨ a1 = 1 ∨ a1 = 2 ∨ a1 = 3 ∨ a1 = 4 ∨ a1 = 5 ∨ a1 = 6 ∨ a1 = 7 ∨ a1 = 8 ∨ a1 = 9 by omega) with c | c | c | c | c | c | c | c | c | c | c
  · replace h := h.1 c
    refine J_tabOut (tgt := 115) dX11_has_1 c (by decide) ?_
    refine J_iconst dX11_has_115 (ii_c rfl) ?_
    exact J_reti dX11_has_116 rfl h
  · replace h := h.2.1 c
    refine J_tabIn (tgt := 56) (off := 55) dX11_has_1 (by omega) (by omega) (by rw [c]; rfl) (by decide) ?_
    refine J_aload_n dX11_has_56 rfl rfl ?_
    refine J_callV (as := []) (mc1 := 0) (ms1 := 0) (mc := 0) (ms := 0) dX11_has_57 mv_X11_corners lk_X11_444 sh_489 rfl (Nat.le_of_ble_eq_true rfl) (Nat.le_of_ble_eq_true rfl) h (fun r σ hq _ => ?_)
    obtain ⟨x1, I1, rfl, rfl, h⟩ := hq
    change J _ _ _ _ _ _ _ [vI x1] _ _
    exact J_reti dX11_has_60 rfl h
  · replace h := h.2.2.1 c
    refine J_tabIn (tgt := 61) (off := 60) dX11_has_1 (by omega) (by omega) (by rw [c]; rfl) (by decide) ?_
    refine J_aload_n dX11_has_61 rfl rfl ?_
    refine J_callV (as := []) (mc1 := 0) (ms1 := 0) (mc := 0) (ms := 0) dX11_has_62 mv_X11_laneMany lk_X11_450 sh_489 rfl (Nat.le_of_ble_eq_true rfl) (Nat.le_of_ble_eq_true rfl) h (fun r σ hq _ => ?_)
    obtain ⟨x2, I2, rfl, rfl, h⟩ := hq
    change J _ _ _ _ _ _ _ [vI x2] _ _
    exact J_reti dX11_has_65 rfl h
  · replace h := h.2.2.2.1 c
    refine J_tabIn (tgt := 66) (off := 65) dX11_has_1 (by omega) (by omega) (by rw [c]; rfl) (by decide) ?_
    refine J_aload_n dX11_has_66 rfl rfl ?_
    refine J_callV (as := []) (mc1 := 0) (ms1 := 0) (mc := 0) (ms := 0) dX11_has_67 mv_X11_saintMany lk_X11_447 sh_489 rfl (Nat.le_of_ble_eq_true rfl) (Nat.le_of_ble_eq_true rfl) h (fun r σ hq _ => ?_)
    obtain ⟨x3, I3, rfl, rfl, h⟩ := hq
    change J _ _ _ _ _ _ _ [vI x3] _ _
    exact J_reti dX11_has_70 rfl h
  · replace h := h.2.2.2.2.1 c
    refine J_tabIn (tgt := 71) (off := 70) dX11_has_1 (by omega) (by omega) (by rw [c]; rfl) (by decide) ?_
    refine J_aload_n dX11_has_71 rfl rfl ?_
    refine J_getR dX11_has_72 ck_11 fw_X11_99 rfl sh_489 rr_489_37 ?_
    refine J_bipush dX11_has_75 (ii_c rfl) (by decide) ?_
    refine J_iald dX11_has_77 sh_518 (by decide) (by decide) ?_
    exact J_reti dX11_has_78 rfl h
  · replace h := h.2.2.2.2.2.1 c
    refine J_tabIn (tgt := 79) (off := 78) dX11_has_1 (by omega) (by omega) (by rw [c]; rfl) (by decide) ?_
    refine J_aload_n dX11_has_79 rfl rfl ?_
    refine J_callV (as := []) (mc1 := 0) (ms1 := 0) (mc := 0) (ms := 0) dX11_has_80 mv_X11_exceptions lk_X11_438 sh_489 rfl (Nat.le_of_ble_eq_true rfl) (Nat.le_of_ble_eq_true rfl) h (fun r σ hq _ => ?_)
    obtain ⟨x4, I4, rfl, rfl, h⟩ := hq
    change J _ _ _ _ _ _ _ [vI x4] _ _
    exact J_reti dX11_has_83 rfl h
  · replace h := h.2.2.2.2.2.2.1 c
    refine J_tabIn (tgt := 84) (off := 83) dX11_has_1 (by omega) (by omega) (by rw [c]; rfl) (by decide) ?_
    refine J_aload_n dX11_has_84 rfl rfl ?_
    refine J_getI dX11_has_85 ck_11 fw_X11_118 rfl sh_489 ?_
    exact J_reti dX11_has_88 rfl h
  · replace h := h.2.2.2.2.2.2.2.1 c
    refine J_tabIn (tgt := 89) (off := 88) dX11_has_1 (by omega) (by omega) (by rw [c]; rfl) (by decide) ?_
    refine J_aload_n dX11_has_89 rfl rfl ?_
    refine J_callV (as := []) (mc1 := 0) (ms1 := 0) (mc := 0) (ms := 0) dX11_has_90 mv_X11_parishes lk_X11_465 sh_489 rfl (Nat.le_of_ble_eq_true rfl) (Nat.le_of_ble_eq_true rfl) h (fun r σ hq _ => ?_)
    obtain ⟨x5, I5, rfl, rfl, h⟩ := hq
    change J _ _ _ _ _ _ _ [vI x5] _ _
    refine J_callS (as := [_]) (mc1 := 0) (ms1 := 0) (mc := 0) (ms := 0) dX11_has_93 ms_X11_bits lk_X11_468 rfl (Nat.le_of_ble_eq_true rfl) (Nat.le_of_ble_eq_true rfl) h (fun r σ hq _ => ?_)
    obtain ⟨x6, I6, rfl, rfl, h⟩ := hq
    change J _ _ _ _ _ _ _ [vI x6] _ _
    exact J_reti dX11_has_96 rfl h
  · replace h := h.2.2.2.2.2.2.2.2.1 c
    refine J_tabIn (tgt := 97) (off := 96) dX11_has_1 (by omega) (by omega) (by rw [c]; rfl) (by decide) ?_
    refine J_aload_n dX11_has_97 rfl rfl ?_
    refine J_getI dX11_has_98 ck_11 fw_X11_358 rfl sh_489 ?_
    refine J_callS (as := [_]) (mc1 := 0) (ms1 := 0) (mc := 0) (ms := 0) dX11_has_101 ms_X11_bits lk_X11_468 rfl (Nat.le_of_ble_eq_true rfl) (Nat.le_of_ble_eq_true rfl) h (fun r σ hq _ => ?_)
    obtain ⟨x7, I7, rfl, rfl, h⟩ := hq
    change J _ _ _ _ _ _ _ [vI x7] _ _
    exact J_reti dX11_has_104 rfl h
  · replace h := h.2.2.2.2.2.2.2.2.2.1 c
    refine J_tabIn (tgt := 105) (off := 104) dX11_has_1 (by omega) (by omega) (by rw [c]; rfl) (by decide) ?_
    refine J_aload_n dX11_has_105 rfl rfl ?_
    refine J_getI dX11_has_106 ck_11 fw_X11_361 rfl sh_489 ?_
    exact J_reti dX11_has_109 rfl h
  · replace h := h.2.2.2.2.2.2.2.2.2.2 c
    refine J_tabIn (tgt := 110) (off := 109) dX11_has_1 (by omega) (by omega) (by rw [c]; rfl) (by decide) ?_
    refine J_aload_n dX11_has_110 rfl rfl ?_
    refine J_getI dX11_has_111 ck_11 fw_X11_364 rfl sh_489 ?_
    exact J_reti dX11_has_114 rfl h
set_option maxRecDepth 20000 in
set_option maxHeartbeats 2000000 in
theorem bk_X11_letter_0 {d : Nat} {I : HI} {Q : Option AV → AH → Prop} {a1 : Int} {a2 : Int} {a3 : Int}  (h : CI mX11_isIn d [vL a1, vL 0, vL 1] I (fun x1 I1 => ((x1 = 0 → Q (some (vI (-1))) (mk I1)) ∧ (¬ (x1 = 0) → (-2147483648 ≤ 5 + a1 ∧ 5 + a1 ≤ 2147483647) ∧ ((0 : Int) ≤ (5 + a1) ∧ (5 + a1 : Int) < 10) ∧ (-2147483648 ≤ (I1 518 (5 + a1).toNat) - 1 ∧ (I1 518 (5 + a1).toNat) - 1 ≤ 2147483647) ∧ CI mX11_isIn d [vL a2, vL 0, vL ((I1 518 (5 + a1).toNat) - 1)] I1 (fun x2 I2 => ((x2 = 0 → Q (some (vI (-1))) (mk I2)) ∧ (¬ (x2 = 0) → CI mX11_isIn d [vL a3, vL 0, vL 5] I2 (fun x3 I3 => ((x3 ≠ 0 → (-2147483648 ≤ 10 * a1 ∧ 10 * a1 ≤ 2147483647) ∧ (-2147483648 ≤ 20 + (10 * a1) ∧ 20 + (10 * a1) ≤ 2147483647) ∧ (-2147483648 ≤ (20 + (10 * a1)) + a2 ∧ (20 + (10 * a1)) + a2 ≤ 2147483647) ∧ ((0 : Int) ≤ ((20 + (10 * a1)) + a2) ∧ ((20 + (10 * a1)) + a2 : Int) < 40) ∧ J none mX11_letter (d + 1) 0 0 67 [(0, vR 489), (1, vI a1), (2, vI a2), (3, vI a3), (4, vL (I3 519 ((20 + (10 * a1)) + a2).toNat)), (6, vI 0), (7, vL (I3 519 ((20 + (10 * a1)) + a2).toNat))] [] (mk I3) Q) ∧ (x3 = 0 → Q (some (vI (-1))) (mk I3))))))))))) : J none mX11_letter (d + 1) 0 0 0 [(0, vR 489), (1, vI a1), (2, vI a2), (3, vI a3)] [] (mk I) Q := by
  refine J_iload_n dX11_letter_0 rfl rfl ?_
  refine J_i2l dX11_letter_1 ?_
  refine J_lconst 0 dX11_letter_2 (ll_c rfl) (by decide) ?_
  refine J_lconst 1 dX11_letter_3 (ll_c rfl) (by decide) ?_
  refine J_callS (as := [_, _, _]) (mc1 := 0) (ms1 := 0) (mc := 0) (ms := 0) dX11_letter_4 ms_X11_isIn lk_X11_264 rfl (Nat.le_of_ble_eq_true rfl) (Nat.le_of_ble_eq_true rfl) h (fun r σ hq _ => ?_)
  obtain ⟨x1, I1, rfl, rfl, h⟩ := hq
  change J _ _ _ _ _ _ _ [vI x1] _ _
  refine J_if_eq (tgt := 42) dX11_letter_7 (by decide) (fun c => ?_) (fun c => ?_)
  · replace h := h.1 c
    refine J_iconst dX11_letter_42 (ii_c rfl) ?_
    exact J_reti dX11_letter_43 rfl h
  · replace h := h.2 c
    refine J_iload_n dX11_letter_10 rfl rfl ?_
    refine J_i2l dX11_letter_11 ?_
    refine J_lconst 0 dX11_letter_12 (ll_c rfl) (by decide) ?_
    refine J_aload_n dX11_letter_13 rfl rfl ?_
    refine J_getR dX11_letter_14 ck_11 fw_X11_99 rfl sh_489 rr_489_37 ?_
    refine J_iconst dX11_letter_17 (ii_c rfl) ?_
    refine J_iload_n dX11_letter_18 rfl rfl ?_
    refine J_iaddN dX11_letter_19 h.1 ?_
    replace h := h.2
    refine J_iald dX11_letter_20 sh_518 h.1.1 h.1.2 ?_
    replace h := h.2
    refine J_iconst dX11_letter_21 (ii_c rfl) ?_
    refine J_isubN dX11_letter_22 h.1 ?_
    replace h := h.2
    refine J_i2l dX11_letter_23 ?_
    refine J_callS (as := [_, _, _]) (mc1 := 0) (ms1 := 0) (mc := 0) (ms := 0) dX11_letter_24 ms_X11_isIn lk_X11_264 rfl (Nat.le_of_ble_eq_true rfl) (Nat.le_of_ble_eq_true rfl) h (fun r σ hq _ => ?_)
    obtain ⟨x2, I2, rfl, rfl, h⟩ := hq
    change J _ _ _ _ _ _ _ [vI x2] _ _
    refine J_if_eq (tgt := 42) dX11_letter_27 (by decide) (fun c => ?_) (fun c => ?_)
    · replace h := h.1 c
      refine J_iconst dX11_letter_42 (ii_c rfl) ?_
      exact J_reti dX11_letter_43 rfl h
    · replace h := h.2 c
      refine J_iload_n dX11_letter_30 rfl rfl ?_
      refine J_i2l dX11_letter_31 ?_
      refine J_lconst 0 dX11_letter_32 (ll_c rfl) (by decide) ?_
      refine J_ldc2 5 dX11_letter_33 kw_X11_471 (ll_c rfl) ?_
      refine J_callS (as := [_, _, _]) (mc1 := 0) (ms1 := 0) (mc := 0) (ms := 0) dX11_letter_36 ms_X11_isIn lk_X11_264 rfl (Nat.le_of_ble_eq_true rfl) (Nat.le_of_ble_eq_true rfl) h (fun r σ hq _ => ?_)
      obtain ⟨x3, I3, rfl, rfl, h⟩ := hq
      change J _ _ _ _ _ _ _ [vI x3] _ _
      refine J_if_ne (tgt := 44) dX11_letter_39 (by decide) (fun c => ?_) (fun c => ?_)
      · replace h := h.1 c
        refine J_aload_n dX11_letter_44 rfl rfl ?_
        refine J_getR dX11_letter_45 ck_11 fw_X11_102 rfl sh_489 rr_489_38 ?_
        refine J_bipush dX11_letter_48 (ii_c rfl) (by decide) ?_
        refine J_bipush dX11_letter_50 (ii_c rfl) (by decide) ?_
        refine J_iload_n dX11_letter_52 rfl rfl ?_
        refine J_imulN dX11_letter_53 h.1 ?_
        replace h := h.2
        refine J_iaddN dX11_letter_54 h.1 ?_
        replace h := h.2
        refine J_iload_n dX11_letter_55 rfl rfl ?_
        refine J_iaddN dX11_letter_56 h.1 ?_
        replace h := h.2
        refine J_lald dX11_letter_57 sh_519 h.1.1 h.1.2 ?_
        replace h := h.2
        refine J_lstore dX11_letter_58 (by decide) ?_
        refine J_iconst dX11_letter_60 (ii_c rfl) ?_
        refine J_istore dX11_letter_61 (by decide) ?_
        refine J_lload dX11_letter_63 rfl ?_
        refine J_lstore dX11_letter_65 (by decide) ?_
        exact h
      · replace h := h.2 c
        refine J_iconst dX11_letter_42 (ii_c rfl) ?_
        exact J_reti dX11_letter_43 rfl h
set_option maxRecDepth 20000 in
set_option maxHeartbeats 2000000 in
theorem bk_X11_letter_67 {d : Nat} {I : HI} {Q : Option AV → AH → Prop} {a1 : Int} {a2 : Int} {a3 : Int} {a4 : Int} {a6 : Int} {a7 : Int}  (h : ((a7 ≤ 0 → ((a3 < a6 → (-2147483648 ≤ a6 - 1 ∧ a6 - 1 ≤ 2147483647) ∧ J none mX11_letter (d + 1) 0 0 102 [(0, vR 489), (1, vI a1), (2, vI a2), (3, vI a3), (4, vL a4), (6, vI a6), (7, vI (a6 - 1))] [] (mk I) Q) ∧ (¬ (a3 < a6) → Q (some (vI 0)) (mk I)))) ∧ (¬ (a7 ≤ 0) → (-2147483648 ≤ a6 + 1 ∧ a6 + 1 ≤ 2147483647) ∧ J none mX11_letter (d + 1) 0 0 67 [(0, vR 489), (1, vI a1), (2, vI a2), (3, vI a3), (4, vL a4), (6, vI (a6 + 1)), (7, vL (lD a7 27))] [] (mk I) Q))) : J none mX11_letter (d + 1) 0 0 67 [(0, vR 489), (1, vI a1), (2, vI a2), (3, vI a3), (4, vL a4), (6, vI a6), (7, vL a7)] [] (mk I) Q := by
  refine J_lload dX11_letter_67 rfl ?_
  refine J_lconst 0 dX11_letter_69 (ll_c rfl) (by decide) ?_
  refine J_lcmp dX11_letter_70 ?_
  refine J_if_le (tgt := 88) dX11_letter_71 (by decide) (fun c => ?_) (fun c => ?_)
  · replace h := h.1 (lC_le.mp c)
    refine J_iload_n dX11_letter_88 rfl rfl ?_
    refine J_iload dX11_letter_89 rfl ?_
    refine J_ic_lt (tgt := 96) dX11_letter_91 (by decide) (fun c => ?_) (fun c => ?_)
    · replace h := h.1 c
      refine J_iload dX11_letter_96 rfl ?_
      refine J_iconst dX11_letter_98 (ii_c rfl) ?_
      refine J_isubN dX11_letter_99 h.1 ?_
      replace h := h.2
      refine J_istore dX11_letter_100 (by decide) ?_
      exact h
    · replace h := h.2 c
      refine J_iconst dX11_letter_94 (ii_c rfl) ?_
      exact J_reti dX11_letter_95 rfl h
  · replace h := h.2 (fun w => c (lC_le.mpr w))
    refine J_iincN dX11_letter_74 rfl (by decide) h.1 ?_
    replace h := h.2
    refine J_lload dX11_letter_77 rfl ?_
    refine J_ldc2 27 dX11_letter_79 kw_X11_275 (ll_c rfl) ?_
    refine J_ldiv dX11_letter_82 (by decide) ?_
    refine J_lstore dX11_letter_83 (by decide) ?_
    refine J_goto (tgt := 67) dX11_letter_85 (by decide) ?_
    exact h
set_option maxRecDepth 20000 in
set_option maxHeartbeats 2000000 in
theorem bk_X11_letter_102 {d : Nat} {I : HI} {Q : Option AV → AH → Prop} {a1 : Int} {a2 : Int} {a3 : Int} {a4 : Int} {a6 : Int} {a7 : Int}  (h : ((a7 ≤ a3 → Q (some (vI (l2 (lM a4 27)))) (mk I)) ∧ (¬ (a7 ≤ a3) → (-2147483648 ≤ a7 + (-1) ∧ a7 + (-1) ≤ 2147483647) ∧ J none mX11_letter (d + 1) 0 0 102 [(0, vR 489), (1, vI a1), (2, vI a2), (3, vI a3), (4, vL (lD a4 27)), (6, vI a6), (7, vI (a7 + (-1)))] [] (mk I) Q))) : J none mX11_letter (d + 1) 0 0 102 [(0, vR 489), (1, vI a1), (2, vI a2), (3, vI a3), (4, vL a4), (6, vI a6), (7, vI a7)] [] (mk I) Q := by
  refine J_iload dX11_letter_102 rfl ?_
  refine J_iload_n dX11_letter_104 rfl rfl ?_
  refine J_ic_le (tgt := 122) dX11_letter_105 (by decide) (fun c => ?_) (fun c => ?_)
  · replace h := h.1 c
    refine J_lload dX11_letter_122 rfl ?_
    refine J_ldc2 27 dX11_letter_124 kw_X11_275 (ll_c rfl) ?_
    refine J_lrem dX11_letter_127 (by decide) ?_
    refine J_l2i dX11_letter_128 ?_
    exact J_reti dX11_letter_129 rfl h
  · replace h := h.2 c
    refine J_lload dX11_letter_108 rfl ?_
    refine J_ldc2 27 dX11_letter_110 kw_X11_275 (ll_c rfl) ?_
    refine J_ldiv dX11_letter_113 (by decide) ?_
    refine J_lstore dX11_letter_114 (by decide) ?_
    refine J_iincN dX11_letter_116 rfl (by decide) h.1 ?_
    replace h := h.2
    refine J_goto (tgt := 102) dX11_letter_119 (by decide) ?_
    exact h
set_option maxRecDepth 20000 in
set_option maxHeartbeats 2000000 in
theorem bk_X11_lane_0 {d : Nat} {I : HI} {Q : Option AV → AH → Prop} {a1 : Int} {a2 : Int}  (h : CI mX11_isLane d [vR 489, vI a1] I (fun x1 I1 => ((x1 = 0 → Q (some (vI (-1))) (mk I1)) ∧ (¬ (x1 = 0) → CI mX11_isIn d [vL a2, vL 0, vL 4] I1 (fun x2 I2 => ((x2 ≠ 0 → ((a2 ≠ 4 → (-2147483648 ≤ 4 * a1 ∧ 4 * a1 ≤ 2147483647) ∧ (-2147483648 ≤ 64 + (4 * a1) ∧ 64 + (4 * a1) ≤ 2147483647) ∧ (-2147483648 ≤ (64 + (4 * a1)) + a2 ∧ (64 + (4 * a1)) + a2 ≤ 2147483647) ∧ ((0 : Int) ≤ ((64 + (4 * a1)) + a2) ∧ ((64 + (4 * a1)) + a2 : Int) < 128) ∧ Q (some (vI (I2 521 ((64 + (4 * a1)) + a2).toNat))) (mk I2)) ∧ (a2 = 4 → Q (some (vI (oA (oSr (I2 489 63) a1) 1))) (mk I2)))) ∧ (x2 = 0 → Q (some (vI (-1))) (mk I2)))))))) : J none mX11_lane (d + 1) 0 0 0 [(0, vR 489), (1, vI a1), (2, vI a2)] [] (mk I) Q := by
  refine J_aload_n dX11_lane_0 rfl rfl ?_
  refine J_iload_n dX11_lane_1 rfl rfl ?_
  refine J_callV (as := [_]) (mc1 := 0) (ms1 := 0) (mc := 0) (ms := 0) dX11_lane_2 mv_X11_isLane lk_X11_473 sh_489 rfl (Nat.le_of_ble_eq_true rfl) (Nat.le_of_ble_eq_true rfl) h (fun r σ hq _ => ?_)
  obtain ⟨x1, I1, rfl, rfl, h⟩ := hq
  change J _ _ _ _ _ _ _ [vI x1] _ _
  refine J_if_eq (tgt := 20) dX11_lane_5 (by decide) (fun c => ?_) (fun c => ?_)
  · replace h := h.1 c
    refine J_iconst dX11_lane_20 (ii_c rfl) ?_
    exact J_reti dX11_lane_21 rfl h
  · replace h := h.2 c
    refine J_iload_n dX11_lane_8 rfl rfl ?_
    refine J_i2l dX11_lane_9 ?_
    refine J_lconst 0 dX11_lane_10 (ll_c rfl) (by decide) ?_
    refine J_ldc2 4 dX11_lane_11 kw_X11_476 (ll_c rfl) ?_
    refine J_callS (as := [_, _, _]) (mc1 := 0) (ms1 := 0) (mc := 0) (ms := 0) dX11_lane_14 ms_X11_isIn lk_X11_264 rfl (Nat.le_of_ble_eq_true rfl) (Nat.le_of_ble_eq_true rfl) h (fun r σ hq _ => ?_)
    obtain ⟨x2, I2, rfl, rfl, h⟩ := hq
    change J _ _ _ _ _ _ _ [vI x2] _ _
    refine J_if_ne (tgt := 22) dX11_lane_17 (by decide) (fun c => ?_) (fun c => ?_)
    · replace h := h.1 c
      refine J_iload_n dX11_lane_22 rfl rfl ?_
      refine J_iconst dX11_lane_23 (ii_c rfl) ?_
      refine J_ic_ne (tgt := 38) dX11_lane_24 (by decide) (fun c => ?_) (fun c => ?_)
      · replace h := h.1 c
        refine J_aload_n dX11_lane_38 rfl rfl ?_
        refine J_getR dX11_lane_39 ck_11 fw_X11_109 rfl sh_489 rr_489_40 ?_
        refine J_bipush dX11_lane_42 (ii_c rfl) (by decide) ?_
        refine J_iconst dX11_lane_44 (ii_c rfl) ?_
        refine J_iload_n dX11_lane_45 rfl rfl ?_
        refine J_imulN dX11_lane_46 h.1 ?_
        replace h := h.2
        refine J_iaddN dX11_lane_47 h.1 ?_
        replace h := h.2
        refine J_iload_n dX11_lane_48 rfl rfl ?_
        refine J_iaddN dX11_lane_49 h.1 ?_
        replace h := h.2
        refine J_iald dX11_lane_50 sh_521 h.1.1 h.1.2 ?_
        replace h := h.2
        exact J_reti dX11_lane_51 rfl h
      · replace h := h.2 c
        refine J_aload_n dX11_lane_27 rfl rfl ?_
        refine J_getI dX11_lane_28 ck_11 fw_X11_358 rfl sh_489 ?_
        refine J_iload_n dX11_lane_31 rfl rfl ?_
        refine J_ishr dX11_lane_32 ?_
        refine J_iconst dX11_lane_33 (ii_c rfl) ?_
        refine J_iand dX11_lane_34 ?_
        refine J_goto (tgt := 51) dX11_lane_35 (by decide) ?_
        exact J_reti dX11_lane_51 rfl h
    · replace h := h.2 c
      refine J_iconst dX11_lane_20 (ii_c rfl) ?_
      exact J_reti dX11_lane_21 rfl h
set_option maxRecDepth 20000 in
set_option maxHeartbeats 2000000 in
theorem bk_X11_sound_0 {d : Nat} {I : HI} {Q : Option AV → AH → Prop} {a1 : Int} {a2 : Int}  (h : CI mX11_isCorner d [vR 489, vI a1] I (fun x1 I1 => ((x1 = 0 → Q (some (vI (-1))) (mk I1)) ∧ (¬ (x1 = 0) → CI mX11_isCorner d [vR 489, vI a2] I1 (fun x2 I2 => ((x2 = 0 → Q (some (vI (-1))) (mk I2)) ∧ (¬ (x2 = 0) → (-2147483648 ≤ 10 * a1 ∧ 10 * a1 ≤ 2147483647) ∧ (-2147483648 ≤ (10 * a1) + a2 ∧ (10 * a1) + a2 ≤ 2147483647) ∧ ((0 : Int) ≤ ((10 * a1) + a2) ∧ ((10 * a1) + a2 : Int) < 100) ∧ ((999 ≤ (I2 531 ((10 * a1) + a2).toNat) → Q (some (vI 999)) (mk I2)) ∧ (¬ (999 ≤ (I2 531 ((10 * a1) + a2).toNat)) → (-2147483648 ≤ 10 * a1 ∧ 10 * a1 ≤ 2147483647) ∧ (-2147483648 ≤ (10 * a1) + a2 ∧ (10 * a1) + a2 ≤ 2147483647) ∧ ((0 : Int) ≤ ((10 * a1) + a2) ∧ ((10 * a1) + a2 : Int) < 100) ∧ Q (some (vI (I2 531 ((10 * a1) + a2).toNat))) (mk I2)))))))))) : J none mX11_sound (d + 1) 0 0 0 [(0, vR 489), (1, vI a1), (2, vI a2)] [] (mk I) Q := by
  refine J_aload_n dX11_sound_0 rfl rfl ?_
  refine J_iload_n dX11_sound_1 rfl rfl ?_
  refine J_callV (as := [_]) (mc1 := 0) (ms1 := 0) (mc := 0) (ms := 0) dX11_sound_2 mv_X11_isCorner lk_X11_478 sh_489 rfl (Nat.le_of_ble_eq_true rfl) (Nat.le_of_ble_eq_true rfl) h (fun r σ hq _ => ?_)
  obtain ⟨x1, I1, rfl, rfl, h⟩ := hq
  change J _ _ _ _ _ _ _ [vI x1] _ _
  refine J_if_eq (tgt := 53) dX11_sound_5 (by decide) (fun c => ?_) (fun c => ?_)
  · replace h := h.1 c
    refine J_iconst dX11_sound_53 (ii_c rfl) ?_
    exact J_reti dX11_sound_54 rfl h
  · replace h := h.2 c
    refine J_aload_n dX11_sound_8 rfl rfl ?_
    refine J_iload_n dX11_sound_9 rfl rfl ?_
    refine J_callV (as := [_]) (mc1 := 0) (ms1 := 0) (mc := 0) (ms := 0) dX11_sound_10 mv_X11_isCorner lk_X11_478 sh_489 rfl (Nat.le_of_ble_eq_true rfl) (Nat.le_of_ble_eq_true rfl) h (fun r σ hq _ => ?_)
    obtain ⟨x2, I2, rfl, rfl, h⟩ := hq
    change J _ _ _ _ _ _ _ [vI x2] _ _
    refine J_if_eq (tgt := 53) dX11_sound_13 (by decide) (fun c => ?_) (fun c => ?_)
    · replace h := h.1 c
      refine J_iconst dX11_sound_53 (ii_c rfl) ?_
      exact J_reti dX11_sound_54 rfl h
    · replace h := h.2 c
      refine J_aload_n dX11_sound_16 rfl rfl ?_
      refine J_getR dX11_sound_17 ck_11 fw_X11_142 rfl sh_489 rr_489_58 ?_
      refine J_bipush dX11_sound_20 (ii_c rfl) (by decide) ?_
      refine J_iload_n dX11_sound_22 rfl rfl ?_
      refine J_imulN dX11_sound_23 h.1 ?_
      replace h := h.2
      refine J_iload_n dX11_sound_24 rfl rfl ?_
      refine J_iaddN dX11_sound_25 h.1 ?_
      replace h := h.2
      refine J_iald dX11_sound_26 sh_531 h.1.1 h.1.2 ?_
      replace h := h.2
      refine J_sipush dX11_sound_27 (ii_c rfl) (by decide) ?_
      refine J_ic_ge (tgt := 47) dX11_sound_30 (by decide) (fun c => ?_) (fun c => ?_)
      · replace h := h.1 c
        refine J_sipush dX11_sound_47 (ii_c rfl) (by decide) ?_
        refine J_goto (tgt := 54) dX11_sound_50 (by decide) ?_
        exact J_reti dX11_sound_54 rfl h
      · replace h := h.2 c
        refine J_aload_n dX11_sound_33 rfl rfl ?_
        refine J_getR dX11_sound_34 ck_11 fw_X11_142 rfl sh_489 rr_489_58 ?_
        refine J_bipush dX11_sound_37 (ii_c rfl) (by decide) ?_
        refine J_iload_n dX11_sound_39 rfl rfl ?_
        refine J_imulN dX11_sound_40 h.1 ?_
        replace h := h.2
        refine J_iload_n dX11_sound_41 rfl rfl ?_
        refine J_iaddN dX11_sound_42 h.1 ?_
        replace h := h.2
        refine J_iald dX11_sound_43 sh_531 h.1.1 h.1.2 ?_
        replace h := h.2
        refine J_goto (tgt := 54) dX11_sound_44 (by decide) ?_
        exact J_reti dX11_sound_54 rfl h
set_option maxRecDepth 20000 in
set_option maxHeartbeats 2000000 in
theorem bk_X11_saint_0 {d : Nat} {I : HI} {Q : Option AV → AH → Prop} {a1 : Int} {a2 : Int}  (h : CI mX11_isSaint d [vR 489, vI a1] I (fun x1 I1 => ((x1 ≠ 0 → (((a2 < 0 ∨ 6 < a2) → Q (some (vI (-1))) (mk I1)) ∧ ((0 ≤ a2 ∧ a2 ≤ 3) → (-2147483648 ≤ 4 * a1 ∧ 4 * a1 ≤ 2147483647) ∧ (-2147483648 ≤ 16 + (4 * a1) ∧ 16 + (4 * a1) ≤ 2147483647) ∧ (-2147483648 ≤ (16 + (4 * a1)) + a2 ∧ (16 + (4 * a1)) + a2 ≤ 2147483647) ∧ ((0 : Int) ≤ ((16 + (4 * a1)) + a2) ∧ ((16 + (4 * a1)) + a2 : Int) < 32) ∧ Q (some (vI (I1 522 ((16 + (4 * a1)) + a2).toNat))) (mk I1)) ∧ (a2 = 4 → ((0 : Int) ≤ a1 ∧ (a1 : Int) < 244) ∧ Q (some (vI (I1 532 a1.toNat))) (mk I1)) ∧ (a2 = 5 → CI mX11_endOf d [vR 489, vI a1] I1 (fun x2 I2 => Q (some (vI x2)) (mk I2))) ∧ (a2 = 6 → CI mX11_endsAt d [vR 489, vI a1] I1 (fun x3 I3 => Q (some (vI x3)) (mk I3))))) ∧ (x1 = 0 → Q (some (vI (-1))) (mk I1))))) : J none mX11_saint (d + 1) 0 0 0 [(0, vR 489), (1, vI a1), (2, vI a2)] [] (mk I) Q := by
  refine J_aload_n dX11_saint_0 rfl rfl ?_
  refine J_iload_n dX11_saint_1 rfl rfl ?_
  refine J_callV (as := [_]) (mc1 := 0) (ms1 := 0) (mc := 0) (ms := 0) dX11_saint_2 mv_X11_isSaint lk_X11_481 sh_489 rfl (Nat.le_of_ble_eq_true rfl) (Nat.le_of_ble_eq_true rfl) h (fun r σ hq _ => ?_)
  obtain ⟨x1, I1, rfl, rfl, h⟩ := hq
  change J _ _ _ _ _ _ _ [vI x1] _ _
  refine J_if_ne (tgt := 10) dX11_saint_5 (by decide) (fun c => ?_) (fun c => ?_)
  · replace h := h.1 c
    refine J_iload_n dX11_saint_10 rfl rfl ?_
    rcases (show (a2 < 0 ∨ 6 < a2) ∨ a2 = 0 ∨ a2 = 1 ∨ a2 = 2 ∨ a2 = 3 ∨ a2 = 4 ∨ a2 = 5 ∨ a2 = 6 by omega) with c | c | c | c | c | c | c | c
    · replace h := h.1 c
      refine J_tabOut (tgt := 85) dX11_saint_11 c (by decide) ?_
      refine J_iconst dX11_saint_85 (ii_c rfl) ?_
      exact J_reti dX11_saint_86 rfl h
    · replace h := h.2.1 (by omega)
      refine J_tabIn (tgt := 52) (off := 41) dX11_saint_11 (by omega) (by omega) (by rw [c]; rfl) (by decide) ?_
      refine J_aload_n dX11_saint_52 rfl rfl ?_
      refine J_getR dX11_saint_53 ck_11 fw_X11_112 rfl sh_489 rr_489_41 ?_
      refine J_bipush dX11_saint_56 (ii_c rfl) (by decide) ?_
      refine J_iconst dX11_saint_58 (ii_c rfl) ?_
      refine J_iload_n dX11_saint_59 rfl rfl ?_
      refine J_imulN dX11_saint_60 h.1 ?_
      replace h := h.2
      refine J_iaddN dX11_saint_61 h.1 ?_
      replace h := h.2
      refine J_iload_n dX11_saint_62 rfl rfl ?_
      refine J_iaddN dX11_saint_63 h.1 ?_
      replace h := h.2
      refine J_iald dX11_saint_64 sh_522 h.1.1 h.1.2 ?_
      replace h := h.2
      exact J_reti dX11_saint_65 rfl h
    · replace h := h.2.1 (by omega)
      refine J_tabIn (tgt := 52) (off := 41) dX11_saint_11 (by omega) (by omega) (by rw [c]; rfl) (by decide) ?_
      refine J_aload_n dX11_saint_52 rfl rfl ?_
      refine J_getR dX11_saint_53 ck_11 fw_X11_112 rfl sh_489 rr_489_41 ?_
      refine J_bipush dX11_saint_56 (ii_c rfl) (by decide) ?_
      refine J_iconst dX11_saint_58 (ii_c rfl) ?_
      refine J_iload_n dX11_saint_59 rfl rfl ?_
      refine J_imulN dX11_saint_60 h.1 ?_
      replace h := h.2
      refine J_iaddN dX11_saint_61 h.1 ?_
      replace h := h.2
      refine J_iload_n dX11_saint_62 rfl rfl ?_
      refine J_iaddN dX11_saint_63 h.1 ?_
      replace h := h.2
      refine J_iald dX11_saint_64 sh_522 h.1.1 h.1.2 ?_
      replace h := h.2
      exact J_reti dX11_saint_65 rfl h
    · replace h := h.2.1 (by omega)
      refine J_tabIn (tgt := 52) (off := 41) dX11_saint_11 (by omega) (by omega) (by rw [c]; rfl) (by decide) ?_
      refine J_aload_n dX11_saint_52 rfl rfl ?_
      refine J_getR dX11_saint_53 ck_11 fw_X11_112 rfl sh_489 rr_489_41 ?_
      refine J_bipush dX11_saint_56 (ii_c rfl) (by decide) ?_
      refine J_iconst dX11_saint_58 (ii_c rfl) ?_
      refine J_iload_n dX11_saint_59 rfl rfl ?_
      refine J_imulN dX11_saint_60 h.1 ?_
      replace h := h.2
      refine J_iaddN dX11_saint_61 h.1 ?_
      replace h := h.2
      refine J_iload_n dX11_saint_62 rfl rfl ?_
      refine J_iaddN dX11_saint_63 h.1 ?_
      replace h := h.2
      refine J_iald dX11_saint_64 sh_522 h.1.1 h.1.2 ?_
      replace h := h.2
      exact J_reti dX11_saint_65 rfl h
    · replace h := h.2.1 (by omega)
      refine J_tabIn (tgt := 52) (off := 41) dX11_saint_11 (by omega) (by omega) (by rw [c]; rfl) (by decide) ?_
      refine J_aload_n dX11_saint_52 rfl rfl ?_
      refine J_getR dX11_saint_53 ck_11 fw_X11_112 rfl sh_489 rr_489_41 ?_
      refine J_bipush dX11_saint_56 (ii_c rfl) (by decide) ?_
      refine J_iconst dX11_saint_58 (ii_c rfl) ?_
      refine J_iload_n dX11_saint_59 rfl rfl ?_
      refine J_imulN dX11_saint_60 h.1 ?_
      replace h := h.2
      refine J_iaddN dX11_saint_61 h.1 ?_
      replace h := h.2
      refine J_iload_n dX11_saint_62 rfl rfl ?_
      refine J_iaddN dX11_saint_63 h.1 ?_
      replace h := h.2
      refine J_iald dX11_saint_64 sh_522 h.1.1 h.1.2 ?_
      replace h := h.2
      exact J_reti dX11_saint_65 rfl h
    · replace h := h.2.2.1 c
      refine J_tabIn (tgt := 66) (off := 55) dX11_saint_11 (by omega) (by omega) (by rw [c]; rfl) (by decide) ?_
      refine J_aload_n dX11_saint_66 rfl rfl ?_
      refine J_getR dX11_saint_67 ck_11 fw_X11_145 rfl sh_489 rr_489_59 ?_
      refine J_iload_n dX11_saint_70 rfl rfl ?_
      refine J_iald dX11_saint_71 sh_532 h.1.1 h.1.2 ?_
      replace h := h.2
      exact J_reti dX11_saint_72 rfl h
    · replace h := h.2.2.2.1 c
      refine J_tabIn (tgt := 73) (off := 62) dX11_saint_11 (by omega) (by omega) (by rw [c]; rfl) (by decide) ?_
      refine J_aload_n dX11_saint_73 rfl rfl ?_
      refine J_iload_n dX11_saint_74 rfl rfl ?_
      refine J_callV (as := [_]) (mc1 := 0) (ms1 := 0) (mc := 0) (ms := 0) dX11_saint_75 mv_X11_endOf lk_X11_459 sh_489 rfl (Nat.le_of_ble_eq_true rfl) (Nat.le_of_ble_eq_true rfl) h (fun r σ hq _ => ?_)
      obtain ⟨x2, I2, rfl, rfl, h⟩ := hq
      change J _ _ _ _ _ _ _ [vI x2] _ _
      exact J_reti dX11_saint_78 rfl h
    · replace h := h.2.2.2.2 c
      refine J_tabIn (tgt := 79) (off := 68) dX11_saint_11 (by omega) (by omega) (by rw [c]; rfl) (by decide) ?_
      refine J_aload_n dX11_saint_79 rfl rfl ?_
      refine J_iload_n dX11_saint_80 rfl rfl ?_
      refine J_callV (as := [_]) (mc1 := 0) (ms1 := 0) (mc := 0) (ms := 0) dX11_saint_81 mv_X11_endsAt lk_X11_484 sh_489 rfl (Nat.le_of_ble_eq_true rfl) (Nat.le_of_ble_eq_true rfl) h (fun r σ hq _ => ?_)
      obtain ⟨x3, I3, rfl, rfl, h⟩ := hq
      change J _ _ _ _ _ _ _ [vI x3] _ _
      exact J_reti dX11_saint_84 rfl h
  · replace h := h.2 c
    refine J_iconst dX11_saint_8 (ii_c rfl) ?_
    exact J_reti dX11_saint_9 rfl h
