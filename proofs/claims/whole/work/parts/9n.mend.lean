section MD
variable {d : Nat} {I : HI} {K : HI → Prop} {KI : Int → HI → Prop} {K2 : Int → Int → HI → Prop} {cs : Int → List Int} {H : List Sn}
theorem op_mend (hp : PLN I cs) (hw : WRel I cs H) (mw : MWs I cs) (h : ∀ x Y cs' H', EFin I Y cs' H' → K2 x x Y) : CI mX10_mend (d + 16) [vR 0] I (fun x1 I1 => CI mX11_mend (d + 16) [vR 489] I1 (K2 x1)) := by
  have hc := mw.1.1
  have n6 := hc.2.2.1
  obtain ⟨n, en⟩ : ∃ n : Nat, (n : Int) = I 518 6 := ⟨(I 518 6).toNat, by omega⟩
  have nn : (I 518 6).toNat = n := by omega
  have ab := all_b n (by omega)
  refine bk_X10_mend_0 (c10_allSaints hc en (by omega) (c6_solve hp ab.1.1 ab.1.2 (Or.inr rfl) (fun X r qX rX vX sX mX => ?_)))
  rw [nn] at sX mX
  have hwX := WRel_q hw n6.2 qX
  have hTX := rX.1.1.1
  have f518 : X 518 = I 518 := (CF_q qX).1 518 (by omega)
  have enX : (n : Int) = X 518 6 := by rw [f518]; exact en
  have mwX := mw_q mw qX
  have n6X := hTX.1.2.2.1
  obtain ⟨v1, v2, v3⟩ := vism_all (I := X) (cs := cs) (z := 1) ab.2
  have fin0 : ∀ Y : HI, HFr X Y → ∀ x, K2 x x Y := fun Y hY x => h x Y cs H (EF_plan hw n6.2 qX rX vX hY)
  -- the model's first steps, from any state of the class
  have mod : ∀ (X2 : HI) (x1 : Int), CAf X X2 → (∀ Z : HI, HFr X2 Z → MDW Z cs → r = Z 489 84 + 10000 * Z 489 83 → (0 ≤ Z 489 84 ∧ Z 489 84 ≤ 4000) → (0 ≤ Z 489 83 ∧ Z 489 83 ≤ 4) → (∃ xs, xs ∈ LL X cs 1 (List.range' 0 n) ∧ ∀ (i x : Nat), xs[i]? = some x → i < n → Z 551 i = x ∧ X 481 i = x) → (((Z 489 83) ≠ 0 → CV mX11_keeps (d + 15) [vR 489] Z (fun I4 => J none mX11_mend (d + 16) 0 0 34 [(0, vR 489), (1, vI 0)] [] (mk I4) (PI (K2 x1)))) ∧ ((Z 489 83) = 0 → PI (K2 x1) (some (vI 0)) (mk Z)))) → (∀ Z : HI, HFr X2 Z → r = -1 → K2 x1 (-1) Z) → CI mX11_mend (d + 16) [vR 489] X2 (K2 x1) := by
    intro X2 x1 ca k1 k0
    have c2 := CF_ca ca
    have k2 : ∀ k, 57 ≤ k → X2 k = X k := fun k hk => ca.1 k (by omega) (by omega) (by omega) (by omega)
    have mw2 : MWs X2 cs := MWs_fr mwX c2 (fun k k1 k2' => k2 k (by omega))
    have e489' : X2 489 = X 489 := k2 489 (by omega)
    refine bk_X11_mend_0 (c11_opts mw2 (by rw [e489']; exact rX.2.2.2.1) (by rw [e489']; exact on64 rX.1.1) (fun Y oY hY => ?_))
    have cY := CF_tr c2 (CF_om oY)
    have e489y : Y 489 = X 489 := by rw [oY.1 489 (by omega) (by omega), e489']
    refine c11_everybody (n := n) (by rw [cY.1 518 (by omega)]; exact enX) (by omega) ?_
    refine mchoose (X := X) (r := r) (A := X 481) enX sX hY cY (by rw [e489y]) (by rw [e489y]) (fun Z gZ hZ hrZ hE hC hz hxx => ⟨fun _ => k1 Z (HFr_tr (HFr_o oY) (HFr_g gZ)) hZ (by rw [if_pos (by decide)] at hrZ; exact hrZ) hE hC hxx, fun w => by omega⟩) (fun Z gZ hZ hr' => ⟨fun w => absurd rfl w, fun _ => PI_i (k0 Z (HFr_tr (HFr_o oY) (HFr_g gZ)) hr')⟩)
  refine ⟨fun q => ?_, fun q => PI_i ?_⟩
  · obtain ⟨xs, xm, lx, hx, hr⟩ := sol_xs rX.1 enX q sX
    have hx2 : ∀ (i x : Nat), xs[i]? = some x → x ≤ 3 * (rts X i).length := fun i x hi => (hx i x hi).2.1
    obtain ⟨w1, w2, w3, w4, w5, w6, w7⟩ := id hwX
    have r5 : 0 ≤ X 32 5 ∧ X 32 5 < 21 := ⟨w5.2.2.1, w5.2.2.2.1⟩
    have r6 : 0 ≤ X 32 6 ∧ X 32 6 ≤ 20 := by
      have := w5.1
      have := w5.2.1
      omega
    -- how many change
    have cnt : ∀ E C : Int, r = E + 10000 * C → (0 ≤ E ∧ E ≤ 4000) → C = nzc xs := fun E C hE hr' => by
      rw [nzc_e ab.2 lx]
      have ce := cst_e X cs (oSl 1 (n : Int) - 1) 1 (List.range' 0 n) xs
      rw [if_pos (by decide), v3, v2] at ce
      have en0 : 0 ≤ cst (enm X cs (oSl 1 (n : Int) - 1)) (List.range' 0 n) xs := cst_nn (fun s x => (enm_rng X cs (oSl 1 (n : Int) - 1) s x).1) (List.range' 0 n) xs
      have en1 : cst (enm X cs (oSl 1 (n : Int) - 1)) (List.range' 0 n) xs ≤ 999 * ((List.range' 0 n).length : Nat) := cst_up (M := 999) (fun s x => (enm_rng X cs (oSl 1 (n : Int) - 1) s x).2) (by omega) (List.range' 0 n) xs
      rw [List.length_range'] at en1
      omega
    have uniq : ∀ xs', xs' ∈ LL X cs 1 (List.range' 0 n) → (∀ (i x : Nat), xs'[i]? = some x → i < n → X 481 i = x) → xs' = xs := fun xs' xm' hx' => by
      have lx' := (vis_ok _ _ xs' xm').1
      rw [List.length_range'] at lx'
      refine List.ext_getElem? (fun i => ?_)
      by_cases hi : i < n
      · obtain ⟨a, ha⟩ : ∃ a, xs'[i]? = some a := ⟨_, List.getElem?_eq_getElem (by omega)⟩
        obtain ⟨b, hb⟩ : ∃ b, xs[i]? = some b := ⟨_, List.getElem?_eq_getElem (by omega)⟩
        have g1 := hx' i a ha hi
        have g2 := (hx i b hb).1
        rw [ha, hb]
        congr 1
        omega
      · rw [List.getElem?_eq_none (by omega), List.getElem?_eq_none (by omega)]
    refine c9_keep r5 r6 ?_
    have f0 : ∀ k, k ≠ 35 → kpC X k = X k := fun k h2 => kpC_f h2
    have c0 : CF X (kpC X) := ⟨fun k hk => f0 k (by omega), by rw [f0 489 (by decide)]⟩
    have e489 : kpC X 489 = X 489 := f0 489 (by decide)
    have m0 : MSs (kpC X) (List.range' 0 n) := by
      rw [v2] at mX
      exact MSs_fr mX (by rw [f0 477 (by decide)]) (f0 479 (by decide)) (f0 518 (by decide))
    refine c6_carryOut (cs := cs) (xs := xs) (n := n) (CTY_fr hTX c0) (RTs_fr c0 (by rw [e489]) n6X.2 (fun k k1 k2 => f0 k (by omega)) rX.1.2.1) (by rw [c0.1 518 (by omega)]; exact enX) m0 lx (fun i x hi => by rw [f0 481 (by decide), rts_fr c0 (by rw [e489])]; exact ⟨(hx i x hi).1, (hx i x hi).2.1⟩) (fun s s0 s1 => OkW_fr (c0.1 518 (by omega)) (c0.1 521 (by omega)) (c0.1 522 (by omega)) (w3.1 s s0 (by rw [c0.1 518 (by omega)] at s1; exact s1))) (ClW_fr w1 (c0.1 518 (by omega)) (c0.1 521 (by omega)) (c0.1 522 (by omega)) (f0 33 (by decide)) n6X.2 (fun k k1 k2 => f0 k (by omega))) (fun X2 z2 x27 x27' cw2 => ?_)
    have ecs : csx (kpC X) cs xs n = csx X cs xs n := by
      funext u
      unfold csx chc
      simp only [opc_fr c0 (by rw [e489])]
    rw [ecs] at cw2
    have ca : CAf X X2 := ⟨fun k h1 h2 h3 h4 => by rw [z2.1 k h1 h2 h4, f0 k h3], fun j h1 h2 h3 => by rw [z2.2.1 j h3, f0 32 (by decide)]⟩
    have c33 : X2 33 100 = X 33 100 ∧ X2 33 101 = X 33 101 := ⟨by rw [z2.2.2.1, f0 33 (by decide)], by rw [z2.2.2.2, f0 33 (by decide)]⟩
    refine ⟨fun q2 => PI_i ?_, fun q2 => ?_⟩
    · -- all stay
      have xz := nzc_0 q2
      rw [csx_z xz] at cw2
      have nz0 : nzc xs = 0 := by
        have : 0 ≤ nzc xs := cst_nn (prc := fun _ x => if x ≠ 0 then 1 else 0) (fun s x => by
          show (0 : Int) ≤ if x ≠ 0 then 1 else 0
          split <;> omega) _ _
        omega
      refine mod X2 _ ca (fun Z hf hZ hrZ hE hC hxx => ?_) (fun Z hf hr' => absurd hr' q)
      have hC0 := cnt _ _ hrZ hE
      rw [hC0, nz0]
      refine ⟨fun w => absurd rfl w, fun _ => PI_i ?_⟩
      have ma := MAf_of hf
      obtain ⟨p1, p2, p3, p4⟩ := fin_plan (cs' := cs) rX ca ma (Or.inr rfl)
      have cX2 := CF_ca ca
      have ch : ClH X2 H := ClH_fr (kp_f w5 (fun x hx' s s0 s1 => ((w7 x hx').1 s s0 s1).2.1) n6X.2) (by rw [z2.1 518 (by omega) (by omega) (by omega)]) (by rw [z2.2.1 5 (by decide)]) (by rw [z2.2.1 6 (by decide)]) (z2.1 35 (by omega) (by omega) (by omega))
      have x489 : X2 489 = X 489 := ca.1 489 (by omega) (by omega) (by omega) (by omega)
      have cz := CF_tr cX2 (CF_h hf)
      have mhZ : MoH Z H := MoH_fr w6 (cz.1 518 (by omega)) (cz.1 521 (by omega)) (cz.1 522 (by omega)) (by rw [hf.2.1 71 (by decide) (by decide) (by decide), x489]) (by rw [hf.2.1 72 (by decide) (by decide) (by decide), x489]) (fun k k1 k2 => by rw [hf.1 k (by omega) (by omega) (by omega) (by omega) (by omega), ca.1 k (by omega) (by omega) (by omega) (by omega)])
      have wrel := WRel_new (xs := xs) (n := n) hwX hTX enX lx hx2 ca ma c33 (by rw [csx_z xz]; exact cw2) ch (by rw [csx_z xz]; exact hZ.1.2.1) mhZ w7
      rw [csx_z xz] at wrel
      exact h 0 Z cs H ⟨TFr_of qX ca ma, wrel, p1, p2, p3, by rw [p4]; exact VrC_b vX⟩
    · -- some change
      have r5' : 0 ≤ X2 32 5 ∧ X2 32 5 < 21 := by rw [z2.2.1 5 (by decide), f0 32 (by decide)]; exact r5
      have r6' : 0 ≤ X2 32 6 ∧ X2 32 6 ≤ 20 := by rw [z2.2.1 6 (by decide), f0 32 (by decide)]; exact r6
      refine c9_commit r5' r6' (PI_i ?_)
      have ca3 : CAf X (cmC X2) := ⟨fun k h1 h2 h3 h4 => by rw [cmC_f h1, ca.1 k h1 h2 h3 h4], fun j h1 h2 h3 => by rw [cmC_j h1 h2, ca.2 j h1 h2 h3]⟩
      have e6k : X2 32 6 = kpC X 32 6 := z2.2.1 6 (by decide)
      have e5k : X2 32 5 = kpC X 32 5 := z2.2.1 5 (by decide)
      have ch : ClH (cmC X2) (((cs, X 489 63, X 489 64) :: H).take 20) := cl_push hwX n6X.2 (by rw [cmC_5, cmC_5, e6k, e5k]) (by rw [cmC_6, cmC_6, e6k]) (by rw [cmC_f (by decide), cmC_f (by decide), z2.1 35 (by omega) (by omega) (by omega)]) (by rw [cmC_f (by decide), z2.1 518 (by omega) (by omega) (by omega), f0 518 (by decide)])
      have x7 : X2 32 7 = 1 := by
        rcases x27' with w | w
        · exact w
        · exfalso
          have : nzc xs = 0 := by
            unfold nzc
            have e0 : ∀ (ms l : List Nat), (∀ x ∈ l, x = 0) → cst (fun _ x => if x ≠ 0 then 1 else 0) ms l = 0 := by
              intro ms
              induction ms with
              | nil => intro l _; cases l <;> rfl
              | cons a ms ih =>
                intro l hl
                cases l with
                | nil => rfl
                | cons y l =>
                  show (if y ≠ 0 then 1 else 0) + cst _ ms l = 0
                  rw [ih l (fun z hz => hl z (List.mem_cons_of_mem _ hz)), if_neg (fun u => u (hl y List.mem_cons_self))]
                  rfl
            exact e0 _ _ w
          omega
      refine mod (cmC X2) _ ca3 (fun Z hf2 hZ hrZ hE hC hxx => ?_) (fun Z hf hr' => absurd hr' q)
      have hC0 := cnt _ _ hrZ hE
      refine ⟨fun _ => ?_, fun w => by omega⟩
      obtain ⟨xs', xm', hx'⟩ := hxx
      have exs : xs' = xs := uniq xs' xm' (fun i x hi hn => (hx' i x hi hn).2)
      subst exs
      have x489 : (cmC X2) 489 = X 489 := ca3.1 489 (by omega) (by omega) (by omega) (by omega)
      have z71 : Z 489 71 = X 489 71 := by rw [hf2.2.1 71 (by decide) (by decide) (by decide), x489]
      have z72 : Z 489 72 = X 489 72 := by rw [hf2.2.1 72 (by decide) (by decide) (by decide), x489]
      have fin : ∀ B : HI, B = kas (rmb Z) → J none mX11_mend (d + 16) 0 0 34 [(0, vR 489), (1, vI 0)] [] (mk B) (PI (K2 (nzc xs'))) := by
        intro B eB
        obtain ⟨b1, b2, b3, b4, b5, b6, b7, b8⟩ := mkeep ca3 hf2 hwX hTX hZ B eB
        have eB83 : B 489 83 = Z 489 83 := b2 83 (by decide) (by decide)
        have ecsB : csx B cs xs' n = csx X cs xs' n := by
          funext u
          unfold csx chc
          simp only [opc_fr b4 b5]
        refine mendm_lp (d := d + 14) (I := B) (cs := cs) (xs := xs') (n := n) (CTY_fr hTX b4) (fun s s0 s1 => OkW_fr (b4.1 518 (by omega)) (b4.1 521 (by omega)) (b4.1 522 (by omega)) (w3.1 s s0 (by rw [b4.1 518 (by omega)] at s1; exact s1))) (by rw [b4.1 518 (by omega)]; exact enX) (by omega) lx (fun i x hi => by rw [rts_fr b4 b5]; exact hx2 i x hi) b6 (fun i x hi => by rw [b1 551 (by decide) (by omega)]; exact (hx' i x hi (by have := ge_lt hi; omega)).1) (fun Y fY wY => ?_) n 0 B (by omega) ⟨fun _ _ => rfl, fun _ _ => rfl, fun _ _ => ⟨rfl, rfl, rfl⟩⟩ (by rw [csx_0]; exact b7)
        rw [ecsB] at wY
        have ma : MAf (cmC X2) Y := ⟨fun k h1 h2 h3 h4 => by rw [fY.1 k (by omega), b1 k h1 (by omega), hf2.1 k h1 h2 h3 (by omega) (by omega)], fun j h1 h2 h3 h4 h5 => by rw [fY.1 489 (by omega), b2 j h2 h3, hf2.2.1 j h1 h4 h5]⟩
        have mhY : MoH Y (((cs, X 489 63, X 489 64) :: H).take 20) := MoH_fr b8 (fY.1 518 (by omega)) (fY.1 521 (by omega)) (fY.1 522 (by omega)) (by rw [fY.1 489 (by omega)]) (by rw [fY.1 489 (by omega)]) (fun k k1 k2 => fY.1 k (by omega))
        have y7 : Y 32 7 ≠ 0 := by
          rw [ma.1 32 (by omega) (by omega) (by omega) (by omega), cmC_j (by decide) (by decide), x7]
          decide
        obtain ⟨p1, p2, p3, p4⟩ := fin_plan (cs' := csx X cs xs' n) rX ca3 ma (Or.inl y7)
        have cw3 : ClW (cmC X2) (csx X cs xs' n) := ClW_fr cw2 (cmC_f (by decide)) (cmC_f (by decide)) (cmC_f (by decide)) (cmC_f (by decide)) (by rw [(CF_ca ca).1 518 (by omega)]; exact n6X.2) (fun k k1 k2 => cmC_f (by omega))
        have wrel := WRel_new hwX hTX enX lx hx2 ca3 ma ⟨by rw [cmC_f (by decide)]; exact c33.1, by rw [cmC_f (by decide)]; exact c33.2⟩ cw3 ch wY mhY (VSn_take w3 w7)
        rw [eB83, hC0]
        exact h _ Y _ _ ⟨TFr_of qX ca3 ma, wrel, p1, p2, p3, by rw [p4]; exact VrC_b vX⟩
      refine c11_keeps (by rw [z72]; exact ⟨w6.2.2.1, w6.2.2.2.1⟩) (by rw [z71]; have := w6.1; omega) (fin _ rfl)
  · -- none such
    refine mod X (-1) ⟨fun _ _ _ _ _ => rfl, fun _ _ _ _ => rfl⟩ (fun Z hf hZ hrZ hE hC hxx => by omega) (fun Z hf _ => fin0 Z hf _)
end MD
