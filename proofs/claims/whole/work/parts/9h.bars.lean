theorem all_p : ∀ n : Nat, n < 5 → pop 16 (oSl 1 (n : Int) - 1).toNat = n ∧ oA (oSl 1 (n : Int) - 1) (oX (oSl 1 (n : Int) - 1) (-1)) = 0 := by decide +kernel
section BR
variable {d : Nat} {I : HI} {K : HI → Prop} {KI : Int → HI → Prop} {K2 : Int → Int → HI → Prop} {cs : Int → List Int} {H : List Sn}
/-- the model chooses as the class has solved -/
theorem mchoose {X : HI} {n : Nat} {z r : Int} {A : Nat → Int} (en : (n : Int) = X 518 6) (hs : SOL X cs z (mbs (oSl 1 (n : Int) - 1) n) r A) (h : MDW I cs) (f : CF X I) (e63 : I 489 63 = X 489 63) (e64 : I 489 64 = X 489 64) (k1 : ∀ Z : HI, GFr I Z → MDW Z cs → r = Z 489 84 + (if z ≠ 0 then 10000 * Z 489 83 else 0) → (0 ≤ Z 489 84 ∧ Z 489 84 ≤ 4000) → (0 ≤ Z 489 83 ∧ Z 489 83 ≤ 4) → (z = 0 → Z 489 83 = 0) → (∃ xs, xs ∈ LL X cs z (List.range' 0 n) ∧ ∀ (i x : Nat), xs[i]? = some x → i < n → Z 551 i = x ∧ A i = x) → KI 1 Z) (k0 : ∀ Z : HI, GFr I Z → MDW Z cs → r = -1 → KI 0 Z) : CI mX11_isChosen (d + 9) [vR 489, vI (oSl 1 (n : Int) - 1), vI z, vI 0] I KI := by
  have f518 := f.1 518 (by omega)
  have n6 := h.1.1.1.2.2.1
  have ab := all_b n (by rw [f518] at n6; omega)
  obtain ⟨v1, v2, v3⟩ := vism_all (I := I) (cs := cs) (z := z) ab.2
  have eL : LL I cs z (mbs (oSl 1 (n : Int) - 1) n) = LL X cs z (mbs (oSl 1 (n : Int) - 1) n) := LL_fr f e63 e64 cs z _
  have ep : prc I cs z = prc X cs z := by
    funext s x
    exact prc_fr f e63 cs z s x
  refine c11_isChosen h (by rw [f518]; exact en) ab.1.1 ab.1.2 (fun Z xs gZ hZ _ fm bZ wZ => ?_) (fun Z ys gZ q => absurd rfl q) (fun Z gZ hZ eN => ?_)
  · rw [v1, eL] at fm
    have fm' : FMn (LL X cs z (mbs (oSl 1 (n : Int) - 1) n)) (cst (prc X cs z) (mbs (oSl 1 (n : Int) - 1) n)) xs := FMn_tot fm (fun ys _ => by rw [v3, ep])
    rw [v3, ep] at bZ
    rcases hs with ⟨hs1, hs2⟩ | ⟨xs', g1, g2, g3⟩
    · have := (FMn_mem fm').1
      rw [hs2] at this
      cases this
    · have ex : xs' = xs := FMn_u _ g1 fm'
      subst ex
      have cn := cst_nn (fun s x => (prc_rng X cs z s x).1) (mbs (oSl 1 (n : Int) - 1) n) xs'
      have cu := cst_up (M := 10999) (fun s x => (prc_rng X cs z s x).2) (by omega) (mbs (oSl 1 (n : Int) - 1) n) xs'
      have lm := mbs_len (oSl 1 (n : Int) - 1) n
      rcases bZ with w | ⟨w1, w2, w3, w4⟩
      · rw [f518] at n6
        omega
      · refine k1 Z gZ hZ (by rw [g2]; exact w3) w1 w2 w4 ⟨xs', by rw [← v2]; exact (FMn_mem fm').1, fun i x hx hi => ⟨wZ i x hx hi, g3 i i x ?_ hx⟩⟩
        rw [v2, List.getElem?_range' hi]
        simp
  · rw [v1, eL] at eN
    rcases hs with ⟨hs1, hs2⟩ | ⟨xs', g1, g2, g3⟩
    · exact k0 Z gZ hZ hs1
    · have := (FMn_mem g1).1
      rw [eN] at this
      cases this
theorem mw_q {X : HI} (mw : MWs I cs) (q : QFr I X) : MWs X cs := MWs_fr mw (CF_q q) (fun k k1 k2 => q.1 k (by omega) (by omega) (by omega))
theorem on64 (h : CWs I cs) : 0 ≤ I 489 64 ∧ I 489 64 < 64 := by
  have n9 := h.1.1.2.2.2.2.2
  have := p2_le n9.1 n9.2
  have := h.2.2.2.1
  omega
theorem op_together {a : Int} (hp : PLN I cs) (mw : MWs I cs) (h : ∀ x X Y, QFr I X → RDP X cs → VrC I X → HFr X Y → K2 x x Y) : CI mX10_together (d + 16) [vR 0, vI a] I (fun x1 I1 => CI mX11_together (d + 16) [vR 489, vI a] I1 (K2 x1)) := by
  have hc := mw.1.1
  have n6 := hc.2.2.1
  obtain ⟨n, en⟩ : ∃ n : Nat, (n : Int) = I 518 6 := ⟨(I 518 6).toNat, by omega⟩
  have nn : (I 518 6).toNat = n := by omega
  have ab := all_b n (by omega)
  refine bk_X10_together_0 (c10_allSaints hc en (by omega) (c6_solve hp ab.1.1 ab.1.2 (Or.inl rfl) (fun X r qX rX vX sX mX => ?_)))
  rw [nn] at sX mX
  have f518 : X 518 = I 518 := (CF_q qX).1 518 (by omega)
  have enX : (n : Int) = X 518 6 := by rw [f518]; exact en
  have mwX := mw_q mw qX
  have hcX := mwX.1.1
  have n6X := hcX.2.2.1
  -- the model behind it
  have mod : (a = -1 ∨ (0 ≤ a ∧ a < X 518 6)) → CI mX11_together (d + 16) [vR 489, vI a] X (K2 (if a = -1 ∨ r = -1 then r else X 481 a.toNat - 1)) := by
    intro ha
    have body : CV mX11_options (d + 15) [vR 489] X (fun I1 => CI mX11_everybody (d + 15) [vR 489] I1 (fun x2 I2 => CI mX11_isChosen (d + 15) [vR 489, vI x2, vI 0, vI 0] I2 (fun x3 I3 => ((x3 ≠ 0 → ((a ≠ (-1) → ((0 : Int) ≤ a ∧ (a : Int) < 4) ∧ (-2147483648 ≤ (I3 551 a.toNat) - 1 ∧ (I3 551 a.toNat) - 1 ≤ 2147483647) ∧ PI (K2 (if a = -1 ∨ r = -1 then r else X 481 a.toNat - 1)) (some (vI ((I3 551 a.toNat) - 1))) (mk I3)) ∧ (a = (-1) → PI (K2 (if a = -1 ∨ r = -1 then r else X 481 a.toNat - 1)) (some (vI (I3 489 84))) (mk I3)))) ∧ (x3 = 0 → PI (K2 (if a = -1 ∨ r = -1 then r else X 481 a.toNat - 1)) (some (vI (-1))) (mk I3)))))) := by
      refine c11_opts mwX rX.2.2.2.1 (on64 rX.1.1) (fun Y oY hY => ?_)
      have cY := CF_om oY
      have e489 : Y 489 = X 489 := oY.1 489 (by omega) (by omega)
      have enY : (n : Int) = Y 518 6 := by rw [cY.1 518 (by omega)]; exact enX
      refine c11_everybody enY (by omega) ?_
      refine mchoose (X := X) (r := r) (A := X 481) enX sX hY cY (by rw [e489]) (by rw [e489]) (fun Z gZ hZ hr hE hC hz hx => ⟨fun _ => ⟨fun q => ?_, fun q => PI_i ?_⟩, fun q => by omega⟩) (fun Z gZ hZ hr => ⟨fun q => absurd rfl q, fun _ => PI_i ?_⟩)
      · have a0 : 0 ≤ a ∧ a < X 518 6 := ha.resolve_left q
        obtain ⟨xs, g1, g2⟩ := hx
        have lx := (vis_ok _ _ xs g1).1
        rw [List.length_range'] at lx
        obtain ⟨x, hx'⟩ : ∃ x, xs[a.toNat]? = some x := ⟨_, List.getElem?_eq_getElem (by omega)⟩
        obtain ⟨w1, w2⟩ := g2 a.toNat x hx' (by omega)
        have ho := (vis_ok _ _ xs g1).2 a.toNat a.toNat x (by rw [List.getElem?_range' (by omega)]; simp) hx'
        have xl : x ≤ 60 := by
          have := ho.2
          unfold odn at this
          rw [List.mem_range'_1] at this
          have rl := rts_len (I := X) ((a.toNat : Nat) : Int)
          omega
        rw [w1]
        refine ⟨by omega, by omega, PI_i ?_⟩
        rw [if_neg (fun w => w.elim q (fun w => by omega)), w2]
        exact h _ X Z qX rX vX (HFr_tr (HFr_o oY) (HFr_g gZ))
      · rw [if_neg (fun w => w rfl), Int.add_zero] at hr
        rw [if_pos (Or.inl q), hr]
        exact h _ X Z qX rX vX (HFr_tr (HFr_o oY) (HFr_g gZ))
      · rw [if_pos (Or.inr hr), hr]
        exact h _ X Z qX rX vX (HFr_tr (HFr_o oY) (HFr_g gZ))
    refine bk_X11_together_0 ⟨fun q => body, fun q => ?_⟩
    have a0 : 0 ≤ a ∧ a < X 518 6 := ha.resolve_left q
    exact c11_isSaint n6X (fun _ _ => ⟨fun _ => body, fun q => by omega⟩) (fun q => by omega)
  have modN : a ≠ -1 → (a < 0 ∨ X 518 6 ≤ a) → CI mX11_together (d + 16) [vR 489, vI a] X (K2 (-1)) := fun q q2 => bk_X11_together_0 ⟨fun w => absurd w q, fun _ => c11_isSaint n6X (fun _ _ => by omega) (fun _ => ⟨fun w => absurd rfl w, fun _ => PI_i (h _ X X qX rX vX (HFr_rfl X))⟩)⟩
  refine ⟨fun q => PI_i ?_, fun q => ⟨fun q2 => c10_isSaint (fun a0 a1 => ⟨fun w => by omega, fun _ => ?_⟩) (fun w => ⟨fun _ => PI_i (modN q (by rw [hcX.1.2.2.1] at w; exact w)), fun w => absurd rfl w⟩), fun q2 => PI_i ?_⟩⟩
  · have := mod (Or.inl q)
    rw [if_pos (Or.inl q)] at this
    exact this
  · rw [hcX.1.2.2.1] at a1
    have := mod (Or.inr ⟨a0, a1⟩)
    rw [if_neg (fun w => w.elim q q2)] at this
    rcases sX with ⟨w, _⟩ | ⟨xs, g1, g2, g3⟩
    · exact absurd w q2
    · obtain ⟨v1, v2, v3⟩ := vism_all (I := X) (cs := cs) (z := 0) ab.2
      have gm := (FMn_mem g1).1
      have lx := (vis_ok _ _ xs gm).1
      rw [v2, List.length_range'] at lx
      obtain ⟨x, hx'⟩ : ∃ x, xs[a.toNat]? = some x := ⟨_, List.getElem?_eq_getElem (by omega)⟩
      have hi : (mbs (oSl 1 (n : Int) - 1) n)[a.toNat]? = some a.toNat := by rw [v2, List.getElem?_range' (by omega)]; simp
      have ho := (vis_ok _ _ xs gm).2 a.toNat a.toNat x hi hx'
      have xl : x ≤ 60 := by
        have := ho.2
        unfold odn at this
        rw [List.mem_range'_1] at this
        have rl := rts_len (I := X) ((a.toNat : Nat) : Int)
        omega
      have w2 := g3 a.toNat a.toNat x hi hx'
      rw [w2] at this ⊢
      exact ⟨by omega, by omega, PI_i this⟩
  · by_cases ha : 0 ≤ a ∧ a < X 518 6
    · have := mod (Or.inr ha)
      rw [if_pos (Or.inr q2)] at this
      exact this
    · rw [q2]
      exact modN q (by omega)
/-- the saints that shut it -/
def FEA (I : HI) (cs : Int → List Int) (n : Nat) (b : Int) : Prop := LL I cs 0 (mbs (oA (oSl 1 (n : Int) - 1) (oX b (-1))) n) ≠ []
def EAR (c b b' : Int) : Prop := (pop 16 b'.toNat : Int) < c ∨ ((pop 16 b'.toNat : Int) = c ∧ b' < b)
def BRS (I : HI) (cs : Int → List Int) (n : Nat) (b : Int) : Prop := (0 ≤ b ∧ b ≤ oSl 1 (n : Int) - 1) ∧ FEA I cs n b ∧ ∀ b', 0 ≤ b' → b' ≤ oSl 1 (n : Int) - 1 → EAR (pop 16 b.toNat) b b' → ¬ FEA I cs n b'
theorem BRS_u {n : Nat} {b b' : Int} (h : BRS I cs n b) (g : BRS I cs n b') : b = b' := by
  obtain ⟨h1, h2, h3⟩ := h
  obtain ⟨g1, g2, g3⟩ := g
  rcases Int.lt_trichotomy (pop 16 b.toNat : Int) (pop 16 b'.toNat : Int) with q | q | q
  · exact absurd h2 (g3 b h1.1 h1.2 (Or.inl q))
  · rcases Int.lt_trichotomy b b' with w | w | w
    · exact absurd h2 (g3 b h1.1 h1.2 (Or.inr ⟨q, w⟩))
    · exact w
    · exact absurd g2 (h3 b' g1.1 g1.2 (Or.inr ⟨q.symm, w⟩))
  · exact absurd g2 (h3 b' g1.1 g1.2 (Or.inl q))
theorem FEA_fr {X : HI} (f : CF I X) (e63 : X 489 63 = I 489 63) (e64 : X 489 64 = I 489 64) (n : Nat) (b : Int) : FEA X cs n b ↔ FEA I cs n b := by
  unfold FEA
  rw [LL_fr f e63 e64]
theorem FEA_all {n : Nat} (n4 : n < 5) : FEA I cs n (oSl 1 (n : Int) - 1) := by
  unfold FEA
  rw [(all_p n n4).2]
  have : mbs 0 n = [] := by
    unfold mbs
    refine List.filter_eq_nil_iff.mpr (fun t _ => ?_)
    rw [bit_zero]
    decide
  rw [this]
  intro w
  cases w
def BST2 (I X : HI) (cs : Int → List Int) : Prop := QFr I X ∧ PLN X cs ∧ (X = I ∨ (RDP X cs ∧ VrC I X))
theorem cbar_b {n : Nat} {c : Int} (hp : PLN I cs) (hv : I 69 11 ≤ 500000) (en : (n : Int) = I 518 6) (n4 : n ≤ 4) (k : ∀ (Y : HI) (b : Int), QFr I Y → RDP Y cs → VrC I Y → BRS I cs n b → KI b Y) (h : ∀ Y : HI, BST2 I Y cs → (∀ b', 0 ≤ b' → b' ≤ oSl 1 (n : Int) - 1 → EAR (c + 1) 0 b' → ¬ FEA I cs n b') → J none mX10_bars (d + 16) 0 0 7 [(0, vR 0), (1, vI (oSl 1 (n : Int) - 1)), (2, vI (c + 1))] [] (mk Y) (PI KI)) (cr : 0 ≤ c ∧ c ≤ 4) : ∀ (m : Nat) (b : Int) (X : HI), 0 ≤ b → b + m = oSl 1 (n : Int) → BST2 I X cs → (∀ b', 0 ≤ b' → b' ≤ oSl 1 (n : Int) - 1 → EAR c b b' → ¬ FEA I cs n b') → J none mX10_bars (d + 16) 0 0 14 [(0, vR 0), (1, vI (oSl 1 (n : Int) - 1)), (2, vI c), (3, vI b)] [] (mk X) (PI KI)
  | 0, b, X, b0, e, sX, hd => by
    have ab := all_b n (by omega)
    refine bk_X10_bars_14 ⟨fun _ => ⟨by omega, h X sX (fun b' w0 w1 we => hd b' w0 w1 ?_)⟩, fun q => by omega⟩
    unfold EAR at we ⊢
    omega
  | m + 1, b, X, b0, e, sX, hd => by
    have ab := all_b n (by omega)
    have ih := fun Y => cbar_b hp hv en n4 k h cr m (b + 1) Y
    have ar := ant_rng (x := oSl 1 (n : Int) - 1) (y := b) (by omega) (by omega) b0 (by omega)
    refine bk_X10_bars_14 ⟨fun q => by omega, fun _ => c_bitCount b0 (by omega) ⟨fun q => ⟨by omega, ih X (by omega) (by omega) sX (fun b' w0 w1 we => ?_)⟩, fun q => ?_⟩⟩
    · by_cases eb : b' = b
      · subst eb
        unfold EAR at we
        exact hd b' w0 w1 (by unfold EAR; omega)
      · exact hd b' w0 w1 (by unfold EAR at we ⊢; omega)
    · obtain ⟨qX, pX, hX⟩ := sX
      have f518 : X 518 = I 518 := (CF_q qX).1 518 (by omega)
      have e489 := sh_q qX
      refine c6_solve pX ar.1 (by omega) (Or.inl rfl) (fun Y r qY rY vY sY mY => ?_)
      have qIY := QFr_tr qX qY
      have vIY : VrC I Y := by
        rcases hX with hX | hX
        · rw [← hX]; exact vY
        · have fl := hX.1.2.1
          rcases vY with w | w
          · unfold VrC
            rw [w]
            exact hX.2
          · exact absurd ⟨fl.2.1, fl.2.2⟩ w.2
      have e489' := sh_q qIY
      have fe : LL Y cs 0 (mbs (oA (oSl 1 (n : Int) - 1) (oX b (-1))) n) = LL I cs 0 (mbs (oA (oSl 1 (n : Int) - 1) (oX b (-1))) n) := LL_fr (CF_q qIY) (by rw [e489']) (by rw [e489']) cs 0 _
      rw [f518, show (I 518 6).toNat = n from by omega] at sY mY
      have v5 : Y 69 11 ≤ 1000000 := by
        rcases vIY with w | w <;> omega
      refine ⟨fun q2 => ⟨by omega, ih Y (by omega) (by omega) ⟨qIY, PLN_of rY v5, Or.inr ⟨rY, vIY⟩⟩ (fun b' w0 w1 we => ?_)⟩, fun q2 => PI_i (k Y b qIY rY vIY ⟨⟨b0, by omega⟩, ?_, fun b' w0 w1 we => hd b' w0 w1 (by rw [q] at we; exact we)⟩)⟩
      · by_cases eb : b' = b
        · subst eb
          unfold FEA
          rw [← fe]
          rcases sY with ⟨_, w⟩ | ⟨xs, g1, g2, g3⟩
          · exact fun z => z w
          · have := cst_nn (fun s x => (prc_rng Y cs 0 s x).1) (mbs (oA (oSl 1 (n : Int) - 1) (oX b' (-1))) n) xs
            omega
        · exact hd b' w0 w1 (by unfold EAR at we ⊢; omega)
      · unfold FEA
        rw [← fe]
        rcases sY with ⟨w, _⟩ | ⟨xs, g1, g2, g3⟩
        · exact absurd w q2
        · intro z
          have := (FMn_mem g1).1
          rw [z] at this
          cases this
theorem c10_bars {n : Nat} (hc : CN I) (hp : PLN I cs) (hv : I 69 11 ≤ 500000) (en : (n : Int) = I 518 6) (n4 : n ≤ 4) (k : ∀ (Y : HI) (b : Int), QFr I Y → RDP Y cs → VrC I Y → BRS I cs n b → KI b Y) : CI mX10_bars (d + 16) [vR 0] I KI := by
  have ab := all_b n (by omega)
  have lp : ∀ (m : Nat) (c : Int) (X : HI), 0 ≤ c → c + m = 5 → BST2 I X cs → (∀ b', 0 ≤ b' → b' ≤ oSl 1 (n : Int) - 1 → EAR c 0 b' → ¬ FEA I cs n b') → J none mX10_bars (d + 16) 0 0 7 [(0, vR 0), (1, vI (oSl 1 (n : Int) - 1)), (2, vI c)] [] (mk X) (PI KI) := by
    intro m
    induction m with
    | zero =>
      intro c X c0 e sX hd
      exact absurd (FEA_all (I := I) (cs := cs) (n := n) (by omega)) (hd _ (by omega) (by omega) (Or.inl (by rw [(all_p n (by omega)).1]; omega)))
    | succ m ih =>
      intro c X c0 e sX hd
      refine bk_X10_bars_7 ⟨fun q => by omega, fun _ => ?_⟩
      exact cbar_b hp hv en n4 k (fun Y sY hY => ih (c + 1) Y (by omega) (by omega) sY hY) (by omega) (oSl 1 (n : Int)).toNat 0 X (by omega) (by omega) sX hd
  refine bk_X10_bars_0 (c10_allSaints hc en n4 ?_)
  exact lp 5 0 I (by omega) rfl ⟨QFr_rfl I, hp, Or.inl rfl⟩ (fun b' w0 w1 we => by unfold EAR at we; omega)
theorem mbar_b {n : Nat} {c : Int} (en : (n : Int) = I 518 6) (n4 : n ≤ 4) (k : ∀ (Y : HI) (b : Int), GFr I Y → BRS I cs n b → KI b Y) (h : ∀ (Y : HI) (o : Int), GFr I Y → MDW Y cs → (∀ b', 0 ≤ b' → b' ≤ oSl 1 (n : Int) - 1 → EAR (c + 1) 0 b' → ¬ FEA I cs n b') → J none mX11_bars (d + 10) 0 0 8 [(0, vR 489), (1, vI o), (2, vI (c + 1))] [] (mk Y) (PI KI)) (cr : 0 ≤ c ∧ c ≤ 4) : ∀ (m : Nat) (b o : Int) (X : HI), 0 ≤ b → b + m = oSl 1 (n : Int) → GFr I X → MDW X cs → (∀ b', 0 ≤ b' → b' ≤ oSl 1 (n : Int) - 1 → EAR c b b' → ¬ FEA I cs n b') → J none mX11_bars (d + 10) 0 0 18 [(0, vR 489), (1, vI o), (2, vI c), (3, vI b)] [] (mk X) (PI KI)
  | 0, b, o, X, b0, e, gX, hX, hd => by
    have ab := all_b n (by omega)
    have f518 := (CF_g gX).1 518 (by omega)
    refine bk_X11_bars_18 (c11_everybody (n := n) (by rw [f518]; exact en) n4 ⟨fun _ => ⟨by omega, h X o gX hX (fun b' w0 w1 we => hd b' w0 w1 ?_)⟩, fun q => by omega⟩)
    unfold EAR at we ⊢
    omega
  | m + 1, b, o, X, b0, e, gX, hX, hd => by
    have ab := all_b n (by omega)
    have f518 := (CF_g gX).1 518 (by omega)
    have enX : (n : Int) = X 518 6 := by rw [f518]; exact en
    have ih := fun o Y => mbar_b en n4 k h cr m (b + 1) o Y
    have ar := ant_rng (x := oSl 1 (n : Int) - 1) (y := b) (by omega) (by omega) b0 (by omega)
    have no : ∀ (o : Int) (Y : HI), GFr I Y → MDW Y cs → ((pop 16 b.toNat : Int) = c → ¬ FEA I cs n b) → J none mX11_bars (d + 10) 0 0 18 [(0, vR 489), (1, vI o), (2, vI c), (3, vI (b + 1))] [] (mk Y) (PI KI) := fun o Y gY hY hn => ih o Y (by omega) (by omega) gY hY (fun b' w0 w1 we => by
      by_cases eb : b' = b
      · subst eb
        unfold EAR at we
        by_cases ec : (pop 16 b'.toNat : Int) = c
        · exact hn ec
        · exact hd b' w0 w1 (by unfold EAR; omega)
      · exact hd b' w0 w1 (by unfold EAR at we ⊢; omega))
    refine bk_X11_bars_18 (c11_everybody (n := n) enX n4 ⟨fun q => by omega, fun _ => c11_bits b0 (by omega) ⟨fun q => ?_, fun q => ⟨by omega, no o X gX hX (fun w => absurd w q)⟩⟩⟩)
    refine c11_everybody (n := n) enX n4 ?_
    have eL : ∀ Y, GFr I Y → LL Y cs 0 (mbs (oA (oSl 1 (n : Int) - 1) (oX b (-1))) n) = LL I cs 0 (mbs (oA (oSl 1 (n : Int) - 1) (oX b (-1))) n) := fun Y gY => LL_fr (CF_g gY) (sh_g gY).1 (sh_g gY).2 cs 0 _
    have ne := vne (I := X) (cs := cs) (bits := oA (oSl 1 (n : Int) - 1) (oX b (-1))) (List.range' 0 n) (okm X cs (oA (oSl 1 (n : Int) - 1) (oX b (-1))) 0) (dmo X cs 0) (fun t y ht => ⟨fun w => w ht, fun w _ => w⟩) (fun t y ht w => by rw [ht] at w; cases w)
    have em : (List.range' 0 n).filter (fun t : Nat => bit (oA (oSl 1 (n : Int) - 1) (oX b (-1))) t) = mbs (oA (oSl 1 (n : Int) - 1) (oX b (-1))) n := by
      unfold mbs
      rw [List.range_eq_range']
    rw [em] at ne
    refine c11_isChosen (n := n) hX enX ar.1 (by omega) (fun Y xs gY hY q => by omega) (fun Y ys gY _ hy => ⟨fun q => by omega, fun _ => PI_i (k Y b (GFr_tr gX gY) ⟨⟨b0, by omega⟩, ?_, fun b' w0 w1 we => hd b' w0 w1 (by rw [q] at we; exact we)⟩)⟩) (fun Y gY hY eN => ⟨fun _ => ⟨by omega, no b Y (GFr_tr gX gY) hY (fun _ => ?_)⟩, fun q => absurd rfl q⟩)
    · unfold FEA
      rw [← eL X gX]
      obtain ⟨zs, hz⟩ := ne.mp ⟨ys, hy⟩
      intro w
      have hz' : zs ∈ LL X cs 0 (mbs (oA (oSl 1 (n : Int) - 1) (oX b (-1))) n) := hz
      rw [w] at hz'
      cases hz'
    · unfold FEA
      rw [← eL X gX]
      intro w
      cases el : LL X cs 0 (mbs (oA (oSl 1 (n : Int) - 1) (oX b (-1))) n) with
      | nil => exact w el
      | cons z l =>
        obtain ⟨ys, hy⟩ := ne.mpr ⟨z, by show z ∈ LL X cs 0 _; rw [el]; exact List.mem_cons_self⟩
        have hy' : ys ∈ vism X cs (oA (oSl 1 (n : Int) - 1) (oX b (-1))) (List.range' 0 n) (okm X cs (oA (oSl 1 (n : Int) - 1) (oX b (-1))) 0) := hy
        rw [eN] at hy'
        cases hy'
theorem op_bars (hp : PLN I cs) (hv : I 69 11 ≤ 500000) (mw : MWs I cs) (h : ∀ x X Y, QFr I X → RDP X cs → VrC I X → HFr X Y → K2 x x Y) : CI mX10_bars (d + 16) [vR 0] I (fun x1 I1 => CI mX11_bars (d + 16) [vR 489] I1 (K2 x1)) := by
  have hc := mw.1.1
  have n6 := hc.2.2.1
  obtain ⟨n, en⟩ : ∃ n : Nat, (n : Int) = I 518 6 := ⟨(I 518 6).toNat, by omega⟩
  have ab := all_b n (by omega)
  refine c10_bars hc hp hv en (by omega) (fun X b qX rX vX hb => ?_)
  have f518 : X 518 = I 518 := (CF_q qX).1 518 (by omega)
  have e489 := sh_q qX
  have enX : (n : Int) = X 518 6 := by rw [f518]; exact en
  refine bk_X11_bars_0 (c11_opts (mw_q mw qX) rX.2.2.2.1 (on64 rX.1.1) (fun Y oY hY => ?_))
  have cY := CF_om oY
  have e489' : Y 489 = I 489 := by rw [oY.1 489 (by omega) (by omega), e489]
  have cIY := CF_tr (CF_q qX) cY
  have enY : (n : Int) = Y 518 6 := by rw [cIY.1 518 (by omega)]; exact en
  have fin : ∀ (Z : HI) (b' : Int), GFr Y Z → BRS Y cs n b' → K2 b b' Z := fun Z b' gZ hb' => by
    have : BRS I cs n b' := by
      obtain ⟨g1, g2, g3⟩ := hb'
      refine ⟨g1, (FEA_fr cIY (by rw [e489']) (by rw [e489']) n b').mp g2, fun u u0 u1 ue w => g3 u u0 u1 ue ((FEA_fr cIY (by rw [e489']) (by rw [e489']) n u).mpr w)⟩
    rw [BRS_u this hb]
    exact h _ X Z qX rX vX (HFr_tr (HFr_o oY) (HFr_g gZ))
  have lp : ∀ (m : Nat) (c o : Int) (Z : HI), 0 ≤ c → c + m = n + 1 → GFr Y Z → MDW Z cs → (∀ b', 0 ≤ b' → b' ≤ oSl 1 (n : Int) - 1 → EAR c 0 b' → ¬ FEA Y cs n b') → J none mX11_bars (d + 16) 0 0 8 [(0, vR 489), (1, vI o), (2, vI c)] [] (mk Z) (PI (K2 b)) := by
    intro m
    induction m with
    | zero =>
      intro c o Z c0 e gZ hZ hd
      exact absurd (FEA_all (I := Y) (cs := cs) (n := n) (by omega)) (hd _ (by omega) (by omega) (Or.inl (by rw [(all_p n (by omega)).1]; omega)))
    | succ m ih =>
      intro c o Z c0 e gZ hZ hd
      have f := (CF_g gZ).1 518 (by omega)
      refine bk_X11_bars_8 (c11_saintMany ?_)
      rw [f, ← enY]
      refine ⟨fun q => by omega, fun _ => ?_⟩
      exact mbar_b (d := d + 6) (I := Y) (cs := cs) enY (by omega) (fun U b' gU hb' => fin U b' gU hb') (fun U o' gU hU hd' => ih (c + 1) o' U (by omega) (by omega) gU hU hd') (by omega) (oSl 1 (n : Int)).toNat 0 o Z (by omega) (by omega) gZ hZ hd
  exact lp (n + 1) 0 0 Y (by omega) (by omega) (GFr_rfl Y) hY (fun b' w0 w1 we => by unfold EAR at we; omega)
end BR
