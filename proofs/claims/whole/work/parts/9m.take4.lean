section TK
variable {d : Nat} {I : HI} {K : HI → Prop} {KI : Int → HI → Prop} {K2 : Int → Int → HI → Prop} {cs : Int → List Int} {H : List Sn}
/-- what the class has chosen, row by row -/
theorem sol_xs {X : HI} {n : Nat} {z r : Int} {A : Nat → Int} (hk : KNW X cs) (en : (n : Int) = X 518 6) (hr : r ≠ -1) (hs : SOL X cs z (mbs (oSl 1 (n : Int) - 1) n) r A) : ∃ xs, xs ∈ LL X cs z (List.range' 0 n) ∧ xs.length = n ∧ (∀ (i x : Nat), xs[i]? = some x → A i = x ∧ x ≤ 3 * (rts X i).length ∧ dmo X cs z i x) ∧ r = cst (prc X cs z) (List.range' 0 n) xs := by
  have n6 := hk.1.1.1.2.2.1
  have ab := all_b n (by omega)
  obtain ⟨v1, v2, v3⟩ := vism_all (I := X) (cs := cs) (z := z) ab.2
  rw [v2] at hs
  rcases hs with ⟨w, _⟩ | ⟨xs, g1, g2, g3⟩
  · exact absurd w hr
  · have gm := (FMn_mem g1).1
    have vo := vis_ok _ _ xs gm
    have lx := vo.1
    rw [List.length_range'] at lx
    refine ⟨xs, gm, lx, fun i x hx => ?_, g2⟩
    have il := ge_lt hx
    have hi : (List.range' 0 n)[i]? = some i := by rw [List.getElem?_range' (by omega)]; simp
    have ho := vo.2 i i x hi hx
    refine ⟨g3 i i x hi hx, ?_, ho.1⟩
    have := ho.2
    unfold odn at this
    rw [List.mem_range'_1] at this
    omega
/-- the model behind keeps(): what it holds -/
theorem mkeep {X X2 Z : HI} (ca : CAf X X2) (hf : HFr X2 Z) (hw : WRel X cs H) (hT : CTY X) (hZ : MDW Z cs) : ∀ B : HI, B = kas (rmb Z) → (∀ k, k ≠ 489 → (k < 536 ∨ 545 < k) → B k = Z k) ∧ (∀ j, j ≠ 71 → j ≠ 72 → B 489 j = Z 489 j) ∧ CF Z B ∧ CF X B ∧ B 489 63 = X 489 63 ∧ (∀ s : Nat, (s : Int) < B 518 6 → MOs B B s) ∧ MoW B cs ∧ MoH B (((cs, X 489 63, X 489 64) :: H).take 20) := by
  intro B eB
  have n6 := hT.1.2.2.1
  have b1 : ∀ k, k ≠ 489 → (k < 536 ∨ 545 < k) → B k = Z k := fun k h1 h2 => by rw [eB]; exact kr_f h1 h2
  have b2 : ∀ j, j ≠ 71 → j ≠ 72 → B 489 j = Z 489 j := fun j h1 h2 => by rw [eB]; exact kr_j h2 h1
  have cB : CF Z B := ⟨fun k hk => b1 k (by omega) (by omega), b2 44 (by decide) (by decide)⟩
  have c2 := CF_tr (CF_ca ca) (CF_h hf)
  have x489 : X2 489 = X 489 := ca.1 489 (by omega) (by omega) (by omega) (by omega)
  have z63 : Z 489 63 = X 489 63 := by rw [hf.2.1 63 (by decide) (by decide) (by decide), x489]
  have z64 : Z 489 64 = X 489 64 := by rw [hf.2.1 64 (by decide) (by decide) (by decide), x489]
  have z71 : Z 489 71 = X 489 71 := by rw [hf.2.1 71 (by decide) (by decide) (by decide), x489]
  have z72 : Z 489 72 = X 489 72 := by rw [hf.2.1 72 (by decide) (by decide) (by decide), x489]
  obtain ⟨w1, w2, w3, w4, w5, w6, w7⟩ := hw
  have f518 := c2.1 518 (by omega)
  have f521 := c2.1 521 (by omega)
  have f522 := c2.1 522 (by omega)
  have mhZ : MoH Z H := MoH_fr w6 f518 f521 f522 z71 z72 (fun k k1 k2 => by rw [hf.1 k (by omega) (by omega) (by omega) (by omega) (by omega), ca.1 k (by omega) (by omega) (by omega) (by omega)])
  have okl : ∀ x : Sn, VSn X x → ∀ s : Int, 0 ≤ s → s < Z 518 6 → (wy Z s (x.1 s)).length ≤ 24 := fun x hx s s0 s1 => by
    rw [wy_len]
    rw [f518] at s1
    exact (hx.1 s s0 s1).2.1
  refine ⟨b1, b2, cB, CF_tr c2 cB, by rw [b2 63 (by decide) (by decide), z63], fun s s1 => ?_, ?_, ?_⟩
  · rw [cB.1 518 (by omega)] at s1
    exact MOs_fr (hZ.2.1 s s1) cB (b2 63 (by decide) (by decide)) (b1 546 (by decide) (by omega)) (fun k k1 k2 => b1 k (by omega) (by omega))
  · exact MoW_fr hZ.1.2.1 (cB.1 518 (by omega)) (cB.1 521 (by omega)) (cB.1 522 (by omega)) (by rw [f518]; exact n6.2) (fun s s0 s1 => okl (cs, X 489 63, X 489 64) w3 s s0 s1) (fun j _ => by rw [b1 532 (by decide) (by omega)]) (fun j _ => ⟨by rw [b1 533 (by decide) (by omega)], by rw [b1 534 (by decide) (by omega)], by rw [b1 535 (by decide) (by omega)]⟩)
  · have := MoH_push mhZ (by rw [f518]; exact n6.2) hZ.1.2.1 (fun s s0 s1 => okl (cs, X 489 63, X 489 64) w3 s s0 s1) (fun x hx s s0 s1 => okl x (w7 x hx) s s0 s1)
    rw [z63, z64] at this
    rw [eB]
    exact this
theorem op_take (hp : PLN I cs) (hw : WRel I cs H) (mw : MWs I cs) (h : ∀ x Y cs' H', EFin I Y cs' H' → K2 x x Y) : CI mX10_take (d + 16) [vR 0] I (fun x1 I1 => CI mX11_take (d + 16) [vR 489] I1 (K2 x1)) := by
  have hc := mw.1.1
  have n6 := hc.2.2.1
  obtain ⟨n, en⟩ : ∃ n : Nat, (n : Int) = I 518 6 := ⟨(I 518 6).toNat, by omega⟩
  have nn : (I 518 6).toNat = n := by omega
  have ab := all_b n (by omega)
  refine bk_X10_take_0 (c10_allSaints hc en (by omega) (c6_solve hp ab.1.1 ab.1.2 (Or.inl rfl) (fun X r qX rX vX sX mX => ?_)))
  rw [nn] at sX mX
  have hwX := WRel_q hw n6.2 qX
  have hTX := rX.1.1.1
  have f518 : X 518 = I 518 := (CF_q qX).1 518 (by omega)
  have enX : (n : Int) = X 518 6 := by rw [f518]; exact en
  have mwX := mw_q mw qX
  have n6X := hTX.1.2.2.1
  obtain ⟨v1, v2, v3⟩ := vism_all (I := X) (cs := cs) (z := 0) ab.2
  have fin0 : ∀ Y : HI, HFr X Y → ∀ x, K2 x x Y := fun Y hY x => h x Y cs H (EF_plan hw n6.2 qX rX vX hY)
  have modN : n = 0 → CI mX11_take (d + 16) [vR 489] X (K2 (-1)) := fun q => bk_X11_take_0 (c11_saintMany ⟨fun w => absurd (by omega) w, fun _ => PI_i (fin0 X (HFr_rfl X) _)⟩)
  refine ⟨fun q => PI_i ?_, fun q => ⟨fun q2 => ?_, fun q2 => PI_i (modN (by rw [hTX.1.1.2.2.1] at q2; omega))⟩⟩
  · -- none such
    by_cases n0 : n = 0
    · exact modN n0
    · refine bk_X11_take_0 (c11_saintMany ⟨fun _ => ?_, fun w => by omega⟩)
      refine c11_opts mwX rX.2.2.2.1 (on64 rX.1.1) (fun Y oY hY => ?_)
      have cY := CF_om oY
      have e489 : Y 489 = X 489 := oY.1 489 (by omega) (by omega)
      refine c11_everybody (n := n) (by rw [cY.1 518 (by omega)]; exact enX) (by omega) ?_
      exact mchoose (X := X) (r := r) (A := X 481) enX sX hY cY (by rw [e489]) (by rw [e489]) (fun Z gZ hZ hr hE hC hz hx => by
        rw [if_neg (fun w => w rfl)] at hr
        omega) (fun Z gZ hZ hr => ⟨fun w => absurd rfl w, fun _ => PI_i (fin0 Z (HFr_tr (HFr_o oY) (HFr_g gZ)) _)⟩)
  · -- there is one
    obtain ⟨xs, xm, lx, hx, hr⟩ := sol_xs rX.1 enX q sX
    have hx2 : ∀ (i x : Nat), xs[i]? = some x → x ≤ 3 * (rts X i).length := fun i x hi => (hx i x hi).2.1
    have xnz : ∀ x ∈ xs, x ≠ 0 := LL_nz xm
    have n0 : n ≠ 0 := fun w => q2 (by rw [hTX.1.1.2.2.1]; omega)
    obtain ⟨w1, w2, w3, w4, w5, w6, w7⟩ := id hwX
    have cw := rX.1.1
    have r5 : 0 ≤ X 32 5 ∧ X 32 5 < 21 := ⟨w5.2.2.1, w5.2.2.2.1⟩
    have r6 : 0 ≤ X 32 6 ∧ X 32 6 ≤ 20 := by
      have := w5.1
      have := w5.2.1
      omega
    refine c9_kc r5 r6 ?_
    -- the class carries out
    have f0 : ∀ k, k ≠ 32 → k ≠ 35 → cmC (kpC X) k = X k := fun k h1 h2 => by rw [cmC_f h1, kpC_f h2]
    have g0 : ∀ j, j ≠ 5 → j ≠ 6 → cmC (kpC X) 32 j = X 32 j := fun j h1 h2 => by rw [cmC_j h1 h2, kpC_f (by decide)]
    have c0 : CF X (cmC (kpC X)) := ⟨fun k hk => f0 k (by omega) (by omega), by rw [f0 489 (by decide) (by decide)]⟩
    have e489 : cmC (kpC X) 489 = X 489 := f0 489 (by decide) (by decide)
    have m0 : MSs (cmC (kpC X)) (List.range' 0 n) := by
      rw [v2] at mX
      exact MSs_fr mX (by rw [f0 477 (by decide) (by decide)]) (f0 479 (by decide) (by decide)) (f0 518 (by decide) (by decide))
    refine c6_carryOut (cs := cs) (xs := xs) (n := n) (CTY_fr hTX c0) (RTs_fr c0 (by rw [e489]) n6X.2 (fun k k1 k2 => f0 k (by omega) (by omega)) rX.1.2.1) (by rw [c0.1 518 (by omega)]; exact enX) m0 lx (fun i x hi => by rw [f0 481 (by decide) (by decide), rts_fr c0 (by rw [e489])]; exact ⟨(hx i x hi).1, (hx i x hi).2.1⟩) (fun s s0 s1 => OkW_fr (c0.1 518 (by omega)) (c0.1 521 (by omega)) (c0.1 522 (by omega)) (w3.1 s s0 (by rw [c0.1 518 (by omega)] at s1; exact s1))) (ClW_fr w1 (c0.1 518 (by omega)) (c0.1 521 (by omega)) (c0.1 522 (by omega)) (f0 33 (by decide) (by decide)) n6X.2 (fun k k1 k2 => f0 k (by omega) (by omega))) (fun X2 z2 x27 x27' cw2 => PI_i ?_)
    have ecs : csx (cmC (kpC X)) cs xs n = csx X cs xs n := by
      funext u
      unfold csx chc
      simp only [opc_fr c0 (by rw [e489])]
    rw [ecs] at cw2
    have ca : CAf X X2 := ⟨fun k h1 h2 h3 h4 => by rw [z2.1 k h1 h2 h4, f0 k h1 h3], fun j h1 h2 h3 => by rw [z2.2.1 j h3, g0 j h1 h2]⟩
    have ch : ClH X2 (((cs, X 489 63, X 489 64) :: H).take 20) := cl_push hwX n6X.2 (by rw [z2.2.1 5 (by decide)]) (by rw [z2.2.1 6 (by decide)]) (z2.1 35 (by omega) (by omega) (by omega)) (by rw [z2.1 518 (by omega) (by omega) (by omega), f0 518 (by decide) (by decide)])
    have c2 := CF_ca ca
    have k2 : ∀ k, 57 ≤ k → X2 k = X k := fun k hk => ca.1 k (by omega) (by omega) (by omega) (by omega)
    -- the model
    have mw2 : MWs X2 cs := MWs_fr mwX c2 (fun k k1 k2' => k2 k (by omega))
    have e489' : X2 489 = X 489 := k2 489 (by omega)
    refine bk_X11_take_0 (c11_saintMany ⟨fun _ => ?_, fun w => by rw [c2.1 518 (by omega)] at w; omega⟩)
    refine c11_opts mw2 (by rw [e489']; exact rX.2.2.2.1) (by rw [e489']; exact on64 rX.1.1) (fun Y oY hY => ?_)
    have cY := CF_tr c2 (CF_om oY)
    have e489y : Y 489 = X 489 := by rw [oY.1 489 (by omega) (by omega), e489']
    refine c11_everybody (n := n) (by rw [cY.1 518 (by omega)]; exact enX) (by omega) ?_
    refine mchoose (X := X) (r := r) (A := X 481) enX sX hY cY (by rw [e489y]) (by rw [e489y]) (fun Z gZ hZ hrZ hE hC hz hxx => ⟨fun _ => ?_, fun w => by omega⟩) (fun Z gZ hZ hr' => absurd hr' q)
    obtain ⟨xs', xm', hx'⟩ := hxx
    have exs : xs' = xs := by
      have lx' := (vis_ok _ _ xs' xm').1
      rw [List.length_range'] at lx'
      refine List.ext_getElem? (fun i => ?_)
      by_cases hi : i < n
      · obtain ⟨a, ha⟩ : ∃ a, xs'[i]? = some a := ⟨_, List.getElem?_eq_getElem (by omega)⟩
        obtain ⟨b, hb⟩ : ∃ b, xs[i]? = some b := ⟨_, List.getElem?_eq_getElem (by omega)⟩
        have g1 := (hx' i a ha hi).2
        have g2 := (hx i b hb).1
        rw [ha, hb]
        congr 1
        omega
      · rw [List.getElem?_eq_none (by omega), List.getElem?_eq_none (by omega)]
    subst exs
    have hf2 := HFr_tr (HFr_o oY) (HFr_g gZ)
    have cZ := CF_tr c2 (CF_h hf2)
    have z489 := fun j h1 h2 h3 => hf2.2.1 j h1 h2 h3
    -- it is remembered, and the ways come
    have fin : ∀ B : HI, B = kas (rmb Z) → J none mX11_take (d + 16) 0 0 34 [(0, vR 489), (1, vI 0)] [] (mk B) (PI (K2 r)) := by
      intro B eB
      have mz := mkeep ca hf2 hwX hTX hZ
      obtain ⟨b1, b2, b3, b4, b5, b6, b7, b8⟩ := mz B eB
      have eB84 : B 489 84 = Z 489 84 := b2 84 (by decide) (by decide)
      have ecsB : csx B cs xs' n = csx X cs xs' n := by
        funext u
        unfold csx chc
        simp only [opc_fr b4 b5]
      refine takem_lp (d := d + 14) (I := B) (cs := cs) (xs := xs') (n := n) (CTY_fr hTX b4) (fun s s0 s1 => OkW_fr (b4.1 518 (by omega)) (b4.1 521 (by omega)) (b4.1 522 (by omega)) (w3.1 s s0 (by rw [b4.1 518 (by omega)] at s1; exact s1))) (by rw [b4.1 518 (by omega)]; exact enX) (by omega) lx (fun i x hi => by rw [rts_fr b4 b5]; exact hx2 i x hi) b6 (fun i x hi => by rw [b1 551 (by decide) (by omega)]; exact (hx' i x hi (by have := ge_lt hi; omega)).1) xnz (fun Y fY wY => ?_) n 0 B (by omega) ⟨fun _ _ => rfl, fun _ _ => rfl, fun _ _ => ⟨rfl, rfl, rfl⟩⟩ (by rw [csx_0]; exact b7)
      rw [ecsB] at wY
      have ma : MAf X2 Y := ⟨fun k h1 h2 h3 h4 => by rw [fY.1 k (by omega), b1 k h1 (by omega), hf2.1 k h1 h2 h3 (by omega) (by omega)], fun j h1 h2 h3 h4 h5 => by rw [fY.1 489 (by omega), b2 j h2 h3, hf2.2.1 j h1 h4 h5]⟩
      have mhY : MoH Y (((cs, X 489 63, X 489 64) :: H).take 20) := MoH_fr b8 (fY.1 518 (by omega)) (fY.1 521 (by omega)) (fY.1 522 (by omega)) (by rw [fY.1 489 (by omega)]) (by rw [fY.1 489 (by omega)]) (fun k k1 k2 => fY.1 k (by omega))
      have y7 : Y 32 7 ≠ 0 := by
        rw [ma.1 32 (by omega) (by omega) (by omega) (by omega)]
        rcases x27' with w | w
        · omega
        · obtain ⟨x, hx0⟩ : ∃ x, xs'[0]? = some x := ⟨_, List.getElem?_eq_getElem (by omega)⟩
          exact absurd (w x (List.mem_of_getElem? hx0)) (xnz x (List.mem_of_getElem? hx0))
      obtain ⟨p1, p2, p3, p4⟩ := fin_plan (cs' := csx X cs xs' n) rX ca ma (Or.inl y7)
      have wrel := WRel_new hwX hTX enX lx hx2 ca ma ⟨by rw [z2.2.2.1, f0 33 (by decide) (by decide)], by rw [z2.2.2.2, f0 33 (by decide) (by decide)]⟩ cw2 ch wY mhY (VSn_take w3 w7)
      rw [if_neg (fun w => w rfl), Int.add_zero] at hrZ
      rw [eB84, ← hrZ]
      exact h r Y _ _ ⟨TFr_of qX ca ma, wrel, p1, p2, p3, by rw [p4]; exact VrC_b vX⟩
    have z71 : Z 489 71 = X 489 71 := by rw [hf2.2.1 71 (by decide) (by decide) (by decide), e489']
    have z72 : Z 489 72 = X 489 72 := by rw [hf2.2.1 72 (by decide) (by decide) (by decide), e489']
    refine c11_keeps (by rw [z72]; exact ⟨w6.2.2.1, w6.2.2.2.1⟩) (by rw [z71]; have := w6.1; omega) (fin _ rfl)
end TK
