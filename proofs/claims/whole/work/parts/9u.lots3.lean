def mgc (s x : Nat) : Int := if x = 0 then -1 else (wN s x : Int)
theorem mgc_0 {s x : Nat} : mgc s x = -1 ↔ x = 0 := by
  unfold mgc
  split <;> omega
/-- the least end that the saint could have alone -/
def LV (I : HI) (cs : Int → List Int) (a : Nat) (v : Int) : Prop := ((rts I a).length = 0 ∧ v = -1) ∨ ((∃ y, 1 ≤ y ∧ y ≤ 3 * (rts I a).length ∧ v = eN I cs a y) ∧ ∀ y, 1 ≤ y → y ≤ 3 * (rts I a).length → v ≤ eN I cs a y)
def GFl (I X : HI) : Prop := (∀ k, k ≠ 489 → k ≠ 529 → k ≠ 530 → k ≠ 549 → k ≠ 553 → X k = I k) ∧ (∀ j, j ≠ 56 → X 489 j = I 489 j)
def MFl (I X : HI) : Prop := (∀ k, k ≠ 489 → k ≠ 529 → k ≠ 530 → k ≠ 549 → k ≠ 552 → k ≠ 553 → X k = I k) ∧ (∀ j, j ≠ 56 → X 489 j = I 489 j)
theorem GFl_rfl (I : HI) : GFl I I := ⟨fun _ _ _ _ _ _ => rfl, fun _ _ => rfl⟩
theorem MFl_rfl (I : HI) : MFl I I := ⟨fun _ _ _ _ _ _ _ => rfl, fun _ _ => rfl⟩
theorem MFl_tr {I X Y : HI} (h : MFl I X) (g : MFl X Y) : MFl I Y := ⟨fun k h1 h2 h3 h4 h5 h6 => by rw [g.1 k h1 h2 h3 h4 h5 h6, h.1 k h1 h2 h3 h4 h5 h6], fun j hj => by rw [g.2 j hj, h.2 j hj]⟩
theorem MFl_g {I X : HI} (h : GFl I X) : MFl I X := ⟨fun k h1 h2 h3 h4 _ h6 => h.1 k h1 h2 h3 h4 h6, h.2⟩
theorem CF_mf {I X : HI} (h : MFl I X) : CF I X := ⟨fun k hk => h.1 k (by omega) (by omega) (by omega) (by omega) (by omega) (by omega), h.2 44 (by decide)⟩
theorem HFr_mf {I X : HI} (h : MFl I X) : HFr I X := ⟨fun k h1 h2 h3 _ h5 => h.1 k h1 h2 h3 (by omega) (by omega) (by omega), fun j h1 _ _ => h.2 j h1, fun j _ => by rw [h.1 532 (by decide) (by decide) (by decide) (by decide) (by decide) (by decide)], fun j _ => ⟨by rw [h.1 533 (by decide) (by decide) (by decide) (by decide) (by decide) (by decide)], by rw [h.1 534 (by decide) (by decide) (by decide) (by decide) (by decide) (by decide)], by rw [h.1 535 (by decide) (by decide) (by decide) (by decide) (by decide) (by decide)]⟩⟩
section LO
variable {d : Nat} {I : HI} {K : HI → Prop} {KI : Int → HI → Prop} {K2 : Int → Int → HI → Prop} {cs : Int → List Int} {H : List Sn}
theorem MDW_c {X : HI} (h : MDW I cs) (f : ∀ k, k ≠ 552 → k ≠ 553 → X k = I k) : MDW X cs := by
  have e489 := f 489 (by decide) (by decide)
  have c : CF I X := ⟨fun k hk => f k (by omega) (by omega), by rw [e489]⟩
  exact MDW_w h c (by rw [e489]) (by rw [e489]) (f 546 (by decide) (by decide)) (fun k k1 k2 => f k (by omega) (by omega)) (MKN_fr h.2.2.2.2 c (by rw [e489]) (by rw [e489]) (f 549 (by decide) (by decide)))
theorem gets_in {s y o i : Nat} {a3 : Int} {ps xs : List Nat} (h : MDW I cs) (s1 : (s : Int) < I 518 6) (ey : y = o + 1) (y1 : y ≤ 3 * (rts I s).length) (li : xs.length = i) (lp : i ≤ ps.length) (i4 : i ≤ 4) (hps : ∀ j t : Nat, j < i → ps[j]? = some t → (t : Int) < I 518 6) (hxs : ∀ j t x : Nat, ps[j]? = some t → xs[j]? = some x → x ≤ 3 * (rts I t).length ∧ I 553 j = mgc t x) (k1 : ∀ Y : HI, KFr I Y → MDW Y cs → BSD I cs ps xs s y → J none mX11_getsBeside (d + 8) 0 0 12 [(0, vR 489), (1, vI (i : Int)), (2, vI (s : Int)), (3, vI (wN s y : Int)), (4, vI ((o : Int) + 1))] [] (mk Y) (PI KI)) (k0 : ∀ Y : HI, KFr I Y → MDW Y cs → ¬ BSD I cs ps xs s y → J none mX11_getsBeside (d + 8) 0 0 12 [(0, vR 489), (1, vI (i : Int)), (2, vI (s : Int)), (3, vI a3), (4, vI ((o : Int) + 1))] [] (mk Y) (PI KI)) : ∀ (m j : Nat) (X : HI), j + m = i → KFr I X → MDW X cs → (∀ j' t x : Nat, j' < j → ps[j']? = some t → xs[j']? = some x → x ≠ 0 → LW I cs t x s y) → J none mX11_getsBeside (d + 8) 0 0 59 [(0, vR 489), (1, vI (i : Int)), (2, vI (s : Int)), (3, vI a3), (4, vI (o : Int)), (5, vI (wN s y : Int)), (6, vI 1), (7, vI (j : Int))] [] (mk X) (PI KI)
  | 0, j, X, e, fX, hX, hd => by
    have rl := rts_len (I := I) (s : Int)
    exact bk_X11_getsBeside_59 ⟨fun _ => ⟨fun q => by omega, fun _ => ⟨by omega, k1 X fX hX (fun j' t x h1 h2 h3 => hd j' t x (by have := ge_lt h2; omega) h1 h2 h3)⟩⟩, fun q => by omega⟩
  | m + 1, j, X, e, fX, hX, hd => by
    have ih := fun Y => gets_in h s1 ey y1 li lp i4 hps hxs k1 k0 m (j + 1) Y
    have n6 := h.1.1.1.2.2.1
    have rl := rts_len (I := I) (s : Int)
    obtain ⟨t, ht⟩ : ∃ t, ps[j]? = some t := ⟨_, List.getElem?_eq_getElem (by omega)⟩
    obtain ⟨x, hx⟩ : ∃ x, xs[j]? = some x := ⟨_, List.getElem?_eq_getElem (by omega)⟩
    have t1 := hps j t (by omega) ht
    obtain ⟨x1, x0⟩ := hxs j t x ht hx
    have cX := CF_k fX
    have f518 := cX.1 518 (by omega)
    have rf : ∀ u : Int, rts X u = rts I u := fun u => rts_fr cX (fX.2 63 (by decide)) u
    have nx : ∀ Z : HI, KFr I Z → MDW Z cs → (x ≠ 0 → LW I cs t x s y) → J none mX11_getsBeside (d + 8) 0 0 59 [(0, vR 489), (1, vI (i : Int)), (2, vI (s : Int)), (3, vI a3), (4, vI (o : Int)), (5, vI (wN s y : Int)), (6, vI 1), (7, vI ((j : Int) + 1))] [] (mk Z) (PI KI) := fun Z fZ hZ hz => ih Z (by omega) fZ hZ (fun j' t' x' h0 h1 h2 h3 => by
      by_cases ej : j' = j
      · subst ej
        rw [ht] at h1
        rw [hx] at h2
        cases h1
        cases h2
        exact hz h3
      · exact hd j' t' x' (by omega) h1 h2 h3)
    refine bk_X11_getsBeside_59 ⟨fun q => by omega, fun _ => ⟨fun q => by omega, fun _ => ?_⟩⟩
    rw [Int.toNat_natCast, fX.1 553 (by decide) (by decide) (by decide) (by decide), x0]
    by_cases z : x = 0
    · rw [z]
      exact ⟨by omega, fun _ => ⟨by omega, nx X fX hX (fun w => absurd z w)⟩, fun q => absurd rfl q⟩
    · unfold mgc
      rw [if_neg z]
      refine ⟨by omega, fun q => by omega, fun _ => ⟨by omega, ?_⟩⟩
      refine c11_areKnown hX (by rw [f518]; exact t1) (by rw [f518]; exact s1) (by rw [rf]; exact x1) (by rw [rf]; exact y1) (fun Y l fY hY hl => ?_)
      rw [LW_fr cX (fX.2 63 (by decide)) (fX.2 64 (by decide))] at hl
      have fIY := KFr_tr fX fY
      refine ⟨fun zz => ⟨by omega, ?_⟩, fun zz => ⟨by omega, nx Y fIY hY (fun _ => ?_)⟩⟩
      · have nb : ¬ BSD I cs ps xs s y := fun w => by
          rcases hl with u | u
          · omega
          · exact u.2 (w j t x ht hx z)
        exact bk_X11_getsBeside_59 ⟨fun _ => ⟨fun _ => ⟨by omega, k0 Y fIY hY nb⟩, fun q => absurd rfl q⟩, fun _ => ⟨fun _ => ⟨fun _ => ⟨by omega, k0 Y fIY hY nb⟩, fun q => absurd rfl q⟩, fun q => absurd rfl q⟩⟩
      · rcases hl with u | u
        · exact u.2
        · omega
theorem gets_lp {s i : Nat} {ps xs : List Nat} (h : MDW I cs) (s1 : (s : Int) < I 518 6) (li : xs.length = i) (lp : i ≤ ps.length) (i4 : i ≤ 4) (hps : ∀ j t : Nat, j < i → ps[j]? = some t → (t : Int) < I 518 6) (hxs : ∀ j t x : Nat, ps[j]? = some t → xs[j]? = some x → x ≤ 3 * (rts I t).length ∧ I 553 j = mgc t x) (k : ∀ (Y : HI) (x : Nat), KFr I Y → MDW Y cs → GT1 I cs ps xs s x → KI (mgc s x) Y) : ∀ (m o : Nat) (a3 : Int) (X : HI), o + m = 3 * (rts I s).length → KFr I X → MDW X cs → ((a3 = -1 ∧ ∀ y, 1 ≤ y → y ≤ o → ¬ BSD I cs ps xs s y) ∨ ∃ w : Nat, a3 = (wN s w : Int) ∧ (1 ≤ w ∧ w ≤ o) ∧ BSD I cs ps xs s w ∧ ∀ y, 1 ≤ y → y ≤ o → BSD I cs ps xs s y → (eN I cs s w < eN I cs s y ∨ (eN I cs s w = eN I cs s y ∧ w ≤ y))) → J none mX11_getsBeside (d + 8) 0 0 12 [(0, vR 489), (1, vI (i : Int)), (2, vI (s : Int)), (3, vI a3), (4, vI (o : Int))] [] (mk X) (PI KI)
  | 0, o, a3, X, e, fX, hX, hw => by
    have n6 := h.1.1.1.2.2.1
    have rl := rts_len (I := I) (s : Int)
    have cX := CF_k fX
    have o46 : X 546 s = (rts I s).length := by
      have := (hX.2.1 s (by rw [cX.1 518 (by omega)]; exact s1)).1
      rw [rts_fr cX (fX.2 63 (by decide))] at this
      exact this
    refine bk_X11_getsBeside_12 (bk_X11_optionMany_0 ?_)
    rw [Int.toNat_natCast, o46]
    refine ⟨by omega, by omega, PI_i ⟨fun _ => PI_i ?_, fun q => by omega⟩⟩
    have eo : o = 3 * (rts I s).length := by omega
    subst eo
    rcases hw with ⟨e3, nb⟩ | ⟨w, e3, w1, w2, w3⟩
    · have := k X 0 fX hX (Or.inl ⟨rfl, nb⟩)
      rw [e3]
      exact this
    · have := k X w fX hX (Or.inr ⟨w1, w2, w3⟩)
      unfold mgc at this
      rw [if_neg (by omega)] at this
      rw [e3]
      exact this
  | m + 1, o, a3, X, e, fX, hX, hw => by
    have ih := fun a3' Y => gets_lp h s1 li lp i4 hps hxs k m (o + 1) a3' Y
    have n6 := h.1.1.1.2.2.1
    have rl := rts_len (I := I) (s : Int)
    have cX := CF_k fX
    have s1X : (s : Int) < X 518 6 := by rw [cX.1 518 (by omega)]; exact s1
    have o46 : X 546 s = (rts I s).length := by
      have := (hX.2.1 s s1X).1
      rw [rts_fr cX (fX.2 63 (by decide))] at this
      exact this
    have wv : (4 + 60 * (s : Int) + (o : Int)) = (wN s (o + 1) : Int) := by
      unfold wN
      rw [if_neg (by omega)]
      omega
    have rX : rts X s = rts I s := rts_fr cX (fX.2 63 (by decide)) s
    have chf : ∀ x, chw X cs s x = chw I cs s x := fun x => chw_fr cX (fX.2 63 (by decide)) cs s x
    have g59 : (∀ w : Nat, a3 = (wN s w : Int) → 1 ≤ w ∧ w ≤ o → eN I cs s (o + 1) < eN I cs s w) → J none mX11_getsBeside (d + 8) 0 0 59 [(0, vR 489), (1, vI (i : Int)), (2, vI (s : Int)), (3, vI a3), (4, vI (o : Int)), (5, vI (wN s (o + 1) : Int)), (6, vI 1), (7, vI 0)] [] (mk X) (PI KI) := fun lt => by
      have := gets_in (d := d) (KI := KI) (a3 := a3) (I := I) (y := o + 1) (o := o) h s1 rfl (by omega) li lp i4 hps hxs (fun Y fY hY hb => ih _ Y (by omega) fY hY (Or.inr ⟨o + 1, rfl, ⟨by omega, by omega⟩, hb, fun y y0 y1 hy => ?_⟩)) (fun Y fY hY nb => ih _ Y (by omega) fY hY ?_) i 0 X (by omega) fX hX (fun j' t x h0 => by omega)
      · exact this
      · by_cases ey : y = o + 1
        · rw [ey]
          exact Or.inr ⟨rfl, Nat.le_refl _⟩
        · rcases hw with ⟨e3, nb⟩ | ⟨w, e3, w1, w2, w3⟩
          · exact absurd hy (nb y y0 (by omega))
          · have a := w3 y y0 (by omega) hy
            have b := lt w e3 w1
            omega
      · rcases hw with ⟨e3, nb'⟩ | ⟨w, e3, w1, w2, w3⟩
        · exact Or.inl ⟨e3, fun y y0 y1 => by
            by_cases ey : y = o + 1
            · rw [ey]; exact nb
            · exact nb' y y0 (by omega)⟩
        · exact Or.inr ⟨w, e3, ⟨w1.1, by omega⟩, w2, fun y y0 y1 hy => by
            by_cases ey : y = o + 1
            · rw [ey] at hy
              exact absurd hy nb
            · exact w3 y y0 (by omega) hy⟩
    refine bk_X11_getsBeside_12 (bk_X11_optionMany_0 ?_)
    rw [Int.toNat_natCast, o46]
    refine ⟨by omega, by omega, PI_i ⟨fun q => by omega, fun _ => bk_X11_wayOf_0 ⟨by omega, by omega, by omega, PI_i ?_⟩⟩⟩
    rw [wv]
    rcases id hw with ⟨e3, nb⟩ | ⟨w, e3, w1, w2, w3⟩
    · refine ⟨fun _ => g59 (fun w e' w1 => by omega), fun q => absurd e3 q⟩
    · have wr := wN_rng (s := s) (x := w) (by omega) (by omega)
      obtain ⟨g1, g2, g3, g4⟩ := mway hX (s := s) (x := w) s1X (by rw [rX]; omega)
      obtain ⟨v1, v2, v3, v4⟩ := mway hX (s := s) (x := o + 1) s1X (by rw [rX]; omega)
      rw [e3]
      refine ⟨fun q => by omega, fun _ => c11_endOf (by omega) (by omega) v1 v2.2.2.2.2 (c11_endOf (by omega) (by omega) g1 g2.2.2.2.2 ?_)⟩
      rw [chf, chf]
      refine ⟨fun q => ?_, fun q => ?_⟩
      · have nx := ih (wN s w : Int) X (by omega) fX hX (Or.inr ⟨w, rfl, ⟨w1.1, by omega⟩, w2, fun y y0 y1 hy => by
          by_cases ey : y = o + 1
          · rw [ey]
            unfold eN
            omega
          · exact w3 y y0 (by omega) hy⟩)
        have nx' : J none mX11_getsBeside (d + 8) 0 0 12 [(0, vR 489), (1, vI (i : Int)), (2, vI (s : Int)), (3, vI (wN s w : Int)), (4, vI ((o : Int) + 1))] [] (mk X) (PI KI) := nx
        exact bk_X11_getsBeside_59 ⟨fun _ => ⟨fun _ => ⟨by omega, nx'⟩, fun q => absurd rfl q⟩, fun _ => ⟨fun _ => ⟨fun _ => ⟨by omega, nx'⟩, fun q => absurd rfl q⟩, fun q => absurd rfl q⟩⟩
      · rw [← e3]
        refine g59 (fun w' e' w1' => ?_)
        have := wN_inj (s := s) (x := w) (s' := s) (x' := w') (by omega) (by omega) (by omega) (by omega) (by omega)
        rw [← this.2]
        unfold eN
        omega
theorem eN_nn {s x : Nat} (h : MDW I cs) (s1 : (s : Int) < I 518 6) (x1 : x ≤ 3 * (rts I s).length) : 0 ≤ eN I cs s x := by
  obtain ⟨g1, g2, g3, g4⟩ := mway h s1 x1
  exact endS_nn g2.1
theorem leastA_lp {a : Nat} (h : MDW I cs) (a1 : (a : Int) < I 518 6) (k : ∀ v : Int, LV I cs a v → KI v I) : ∀ (m o : Nat) (v : Int), o + m = 3 * (rts I a).length → ((o = 0 ∧ v = -1) ∨ (1 ≤ o ∧ (∃ y, 1 ≤ y ∧ y ≤ o ∧ v = eN I cs a y) ∧ ∀ y, 1 ≤ y → y ≤ o → v ≤ eN I cs a y)) → J none mX11_leastAlone (d + 2) 0 0 4 [(0, vR 489), (1, vI (a : Int)), (2, vI v), (3, vI (o : Int))] [] (mk I) (PI KI)
  | 0, o, v, e, hw => by
    have n6 := h.1.1.1.2.2.1
    have rl := rts_len (I := I) (a : Int)
    have o46 : I 546 a = (rts I a).length := (h.2.1 a a1).1
    refine bk_X11_leastAlone_4 (bk_X11_optionMany_0 ?_)
    rw [Int.toNat_natCast, o46]
    refine ⟨by omega, by omega, PI_i ⟨fun _ => PI_i (k v ?_), fun q => by omega⟩⟩
    rcases hw with w | ⟨w1, w2, w3⟩
    · exact Or.inl ⟨by omega, w.2⟩
    · rw [show o = 3 * (rts I a).length from by omega] at w2 w3
      exact Or.inr ⟨w2, w3⟩
  | m + 1, o, v, e, hw => by
    have ih := fun v' => leastA_lp h a1 k m (o + 1) v'
    have n6 := h.1.1.1.2.2.1
    have rl := rts_len (I := I) (a : Int)
    have o46 : I 546 a = (rts I a).length := (h.2.1 a a1).1
    have wv : (4 + 60 * (a : Int) + (o : Int)) = (wN a (o + 1) : Int) := by
      unfold wN
      rw [if_neg (by omega)]
      omega
    obtain ⟨v1, v2, v3, v4⟩ := mway h (s := a) (x := o + 1) a1 (by omega)
    refine bk_X11_leastAlone_4 (bk_X11_optionMany_0 ?_)
    rw [Int.toNat_natCast, o46]
    refine ⟨by omega, by omega, PI_i ⟨fun q => by omega, fun _ => bk_X11_wayOf_0 ⟨by omega, by omega, by omega, PI_i ?_⟩⟩⟩
    rw [wv]
    refine c11_endOf (by omega) (by omega) v1 v2.2.2.2.2 ?_
    show ((v = -1 → _ ∧ J none mX11_leastAlone (d + 1 + 1) 0 0 4 [(0, vR 489), (1, vI (a : Int)), (2, vI (eN I cs a (o + 1))), (3, vI ((o : Int) + 1))] [] (mk I) (PI KI)) ∧ (¬ v = -1 → ((v ≤ eN I cs a (o + 1) → _ ∧ J none mX11_leastAlone (d + 1 + 1) 0 0 4 [(0, vR 489), (1, vI (a : Int)), (2, vI v), (3, vI ((o : Int) + 1))] [] (mk I) (PI KI)) ∧ (¬ v ≤ eN I cs a (o + 1) → _ ∧ J none mX11_leastAlone (d + 1 + 1) 0 0 4 [(0, vR 489), (1, vI (a : Int)), (2, vI (eN I cs a (o + 1))), (3, vI ((o : Int) + 1))] [] (mk I) (PI KI)))))
    refine ⟨fun q => ⟨by omega, ?_⟩, fun q => ⟨fun q2 => ⟨by omega, ?_⟩, fun q2 => ⟨by omega, ?_⟩⟩⟩
    · refine ih _ (by omega) (Or.inr ⟨by omega, ⟨o + 1, by omega, by omega, rfl⟩, fun y y0 y1 => ?_⟩)
      rcases hw with w | ⟨w1, ⟨u, u1, u2, u3⟩, w3⟩
      · rw [show y = o + 1 from by omega]
        omega
      · have := eN_nn h a1 (x := u) (by omega)
        omega
    · refine ih _ (by omega) (Or.inr ⟨by omega, ?_⟩)
      rcases hw with w | ⟨w1, ⟨u, u1, u2, u3⟩, w3⟩
      · exact absurd w.2 q
      · refine ⟨⟨u, u1, by omega, u3⟩, fun y y0 y1 => ?_⟩
        by_cases ey : y = o + 1
        · rw [ey]; exact q2
        · exact w3 y y0 (by omega)
    · refine ih _ (by omega) (Or.inr ⟨by omega, ⟨o + 1, by omega, by omega, rfl⟩, fun y y0 y1 => ?_⟩)
      rcases hw with w | ⟨w1, ⟨u, u1, u2, u3⟩, w3⟩
      · exact absurd w.2 q
      · by_cases ey : y = o + 1
        · rw [ey]; omega
        · have := w3 y y0 (by omega)
          omega
end LO
