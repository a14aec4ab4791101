noncomputable def cntL (P : List Nat → Prop) (L : List (List Nat)) : Int := ((L.countP (fun p => @decide (P p) (Classical.propDecidable _)) : Nat) : Int)
theorem cntL_n {P : List Nat → Prop} {f : Nat → Option (List Nat)} {i : Nat} (h : f i = none) : cntL P ((List.range (i + 1)).filterMap f) = cntL P ((List.range i).filterMap f) := by
  rw [List.range_succ, List.filterMap_append]
  simp [h]
theorem cntL_s {P : List Nat → Prop} {f : Nat → Option (List Nat)} {i : Nat} {p : List Nat} (h : f i = some p) : (P p → cntL P ((List.range (i + 1)).filterMap f) = cntL P ((List.range i).filterMap f) + 1) ∧ (¬ P p → cntL P ((List.range (i + 1)).filterMap f) = cntL P ((List.range i).filterMap f)) := by
  have e : (List.range (i + 1)).filterMap f = (List.range i).filterMap f ++ [p] := by
    rw [List.range_succ, List.filterMap_append]
    simp [h]
  rw [e]
  unfold cntL
  rw [List.countP_append]
  constructor
  · intro hp
    simp [hp]
  · intro hp
    simp [hp]
theorem cntL_b {P : List Nat → Prop} {f : Nat → Option (List Nat)} (i : Nat) : 0 ≤ cntL P ((List.range i).filterMap f) ∧ cntL P ((List.range i).filterMap f) ≤ i := by
  have h1 : ((List.range i).filterMap f).length ≤ (List.range i).length := List.length_filterMap_le _ _
  rw [List.length_range] at h1
  have h2 := List.countP_le_length (p := fun p => @decide (P p) (Classical.propDecidable _)) (l := (List.range i).filterMap f)
  unfold cntL
  omega
theorem pok_f {n : Nat} {p : List Nat} (h : pok n p = true) : p.length = n ∧ (∀ j t : Nat, p[j]? = some t → t < n) ∧ (∀ j j' t : Nat, p[j]? = some t → p[j']? = some t → j = j') := by
  unfold pok at h
  simp only [Bool.and_eq_true, beq_iff_eq, List.all_eq_true, decide_eq_true_eq, List.mem_range, Bool.or_eq_true, bne_iff_ne] at h
  obtain ⟨⟨⟨h1, h2⟩, h3⟩, _⟩ := h
  refine ⟨h1, fun j t ht => h2 t (List.mem_of_getElem? ht), fun j j' t h4 h5 => ?_⟩
  have a := ge_lt h4
  have b := ge_lt h5
  rcases h3 j (by omega) j' (by omega) with w | w
  · exact w
  · exfalso
    apply w
    rw [List.getD_eq_getElem?_getD, List.getD_eq_getElem?_getD, h4, h5]
theorem ordA_f {n c : Nat} {p : List Nat} (n0 : 1 ≤ n) (n4 : n ≤ 4) (c1 : c < 256) (h : ordA n c = some p) : p.length = n ∧ (∀ j t : Nat, p[j]? = some t → t < n) ∧ (∀ j j' t : Nat, p[j]? = some t → p[j']? = some t → j = j') := by
  have := ord_ok n (by omega) n0
  rw [List.all_eq_true] at this
  exact pok_f (this p (List.mem_filterMap.mpr ⟨c, List.mem_range.mpr c1, h⟩))
theorem ordB_f {n c : Nat} {p : List Nat} (n0 : 1 ≤ n) (n4 : n ≤ 4) (c1 : c < n ^ n) (h : ordB n c = some p) : p.length = n ∧ (∀ j t : Nat, p[j]? = some t → t < n) ∧ (∀ j j' t : Nat, p[j]? = some t → p[j']? = some t → j = j') := by
  have := ord_ok n (by omega) n0
  rw [ord_eq n (by omega) n0, List.all_eq_true] at this
  exact pok_f (this p (List.mem_filterMap.mpr ⟨c, List.mem_range.mpr c1, h⟩))
theorem map_dig {n j t : Nat} {f : Nat → Nat} (h : ((List.range n).map f)[j]? = some t) : t = f j := by
  have := ge_lt h
  rw [List.length_map, List.length_range] at this
  rw [List.getElem?_map, List.getElem?_range this] at h
  cases h
  rfl
def LoF (I X : HI) : Prop := (∀ k, (k < 57 ∨ 66 < k) → k ≠ 75 → k ≠ 76 → k ≠ 480 → X k = I k) ∧ (∀ j, j ≠ 6 → X 62 j = I 62 j)
theorem LoF_rfl (I : HI) : LoF I I := ⟨fun _ _ _ _ _ => rfl, fun _ _ => rfl⟩
theorem CF_lo {I X : HI} (h : LoF I X) : CF I X := ⟨fun k hk => h.1 k (by omega) (by omega) (by omega) (by omega), by rw [h.1 489 (by omega) (by omega) (by omega) (by omega)]⟩
section LO
variable {d : Nat} {I : HI} {K : HI → Prop} {KI : Int → HI → Prop} {K2 : Int → Int → HI → Prop} {cs : Int → List Int} {H : List Sn}
theorem gtc_0 {x : Nat} : gtc x = -1 ↔ x = 0 := by
  unfold gtc
  split <;> omega
theorem lucky_lp {a n : Nat} {ps : List Nat} (hk : KNW I cs) (en : (n : Int) = I 518 6) (i7 : I 477 7 = n) (lp : ps.length = n) (hps : ∀ j t : Nat, ps[j]? = some t → (t : Int) < I 518 6 ∧ I 479 j = t) (nd : ∀ j j' t : Nat, ps[j]? = some t → ps[j']? = some t → j = j') (k1 : ∀ (Y : HI), LoF I Y → KNW Y cs → (∃ i, LCK I cs a ps i) → KI 1 Y) (k0 : ∀ Y : HI, LoF I Y → KNW Y cs → (¬ ∃ i, LCK I cs a ps i) → KI 0 Y) : ∀ (m i : Nat) (xs : List Nat) (X : HI), i + m = n → LoF I X → KNW X cs → GCh I cs ps i xs → (∀ j x : Nat, xs[j]? = some x → X 480 j = gtc x) → (∀ j, j < i → ps[j]? ≠ some a) → J none mX6_luckyIn (d + 9) 0 0 9 [(0, vR 477), (1, vI (a : Int)), (2, vI (i : Int))] [] (mk X) (PI KI)
  | 0, i, xs, X, e, fX, kX, hg, hx, ha => by
    refine bk_X6_luckyIn_9 ?_
    rw [fX.1 477 (by omega) (by omega) (by omega) (by omega), i7]
    refine ⟨fun _ => PI_i (k0 X fX kX (fun ⟨i', hi⟩ => ha i' (by have := ge_lt hi.1; omega) hi.1)), fun q => by omega⟩
  | m + 1, i, xs, X, e, fX, kX, hg, hx, ha => by
    have n6 := hk.1.1.1.2.2.1
    have cX := CF_lo fX
    have e489 : X 489 = I 489 := fX.1 489 (by omega) (by omega) (by omega) (by omega)
    have f518 := cX.1 518 (by omega)
    have li := GCh_len i xs hg
    have gb := GCh_b i xs hg
    obtain ⟨s, hs⟩ : ∃ s, ps[i]? = some s := ⟨_, List.getElem?_eq_getElem (by omega)⟩
    obtain ⟨s1, s9⟩ := hps i s hs
    have x79 : X 479 = I 479 := fX.1 479 (by omega) (by omega) (by omega) (by omega)
    refine bk_X6_luckyIn_9 ?_
    rw [fX.1 477 (by omega) (by omega) (by omega) (by omega), i7]
    refine ⟨fun q => by omega, fun _ => bk_X6_pick_0 ?_⟩
    rw [Int.toNat_natCast, x79, s9]
    refine ⟨by omega, pick_lp (i := i) (ps := ps) (xs := xs) (s := s) kX (by rw [f518]; exact s1) li (by omega) (by omega) (fun j t hj ht => ⟨by rw [f518]; exact (hps j t ht).1, fun w => ?_, by rw [x79]; exact (hps j t ht).2⟩) (fun j t x ht hx' => ⟨by rw [rts_fr cX (by rw [e489])]; exact gb j t x ht hx', hx j x hx'⟩) (fun Y x jY kY hx1 => ?_) (3 * (rts X s).length) 1 X (by omega) (by omega) (JFr_rfl X) kX (fun n' h1 h2 => by omega)⟩
    · rw [w] at ht
      have := nd j i s ht hs
      omega
    · have hx1' : GT1 I cs ps xs s x := (GT1_fr cX (by rw [e489]) (by rw [e489])).mp hx1
      refine ⟨by omega, fun I2 e2 => ⟨by omega, ?_⟩⟩
      have f2 : ∀ k, k ≠ 480 → I2 k = Y k := fun k hk => by rw [e2, up_k hk]
      have s2 : I2 480 i = gtc x := by rw [e2]; exact up_s
      have k2 : KNW I2 cs := KNW_47 kY (fun k _ _ _ h _ => f2 k h)
      have l2 : LoF I I2 := ⟨fun k h1 h2 h3 h4 => by rw [f2 k h4, jY.1 k h1 h2 h3, fX.1 k h1 h2 h3 h4], fun j hj => by rw [f2 62 (by decide), jY.2 j hj, fX.2 j hj]⟩
      have i479 : I2 479 i = s := by rw [l2.1 479 (by omega) (by omega) (by omega) (by omega)]; exact s9
      have c2 := CF_lo l2
      have e489' : I2 489 = I 489 := l2.1 489 (by omega) (by omega) (by omega) (by omega)
      rw [i479, s2]
      refine ⟨fun q => ⟨by omega, ?_⟩, fun q => ⟨by omega, by omega, by omega, by omega, fun q2 => PI_i (k0 I2 l2 k2 ?_), fun q2 => ⟨by omega, ?_⟩⟩⟩
      · refine lucky_lp hk en i7 lp hps nd k1 k0 m (i + 1) (xs ++ [x]) I2 (by omega) l2 k2 ⟨xs, x, s, hg, hs, hx1', rfl⟩ (fun j y hy => ?_) (fun j hj => ?_)
        · rcases Nat.lt_trichotomy j i with w | w | w
          · rw [List.getElem?_append_left (by omega)] at hy
            rw [e2, up_n (by omega), jY.1 480 (by omega) (by omega) (by omega)]
            exact hx j y hy
          · subst w
            rw [← li, List.getElem?_concat_length] at hy
            cases hy
            exact s2
          · rw [List.getElem?_eq_none (by rw [List.length_append, li]; show i + 1 ≤ j; omega)] at hy
            cases hy
        · by_cases ej : j = i
          · rw [ej, hs]
            exact fun w => q (by cases w; rfl)
          · exact ha j (by omega)
      · rintro ⟨i', h1, ys, y, h2, h3, h4, _⟩
        have es : s = a := by omega
        subst es
        have ei := nd i' i s h1 hs
        subst ei
        have ey := GCh_u i' ys xs h2 hg
        subst ey
        exact h4 (by rw [GT1_u h3 hx1']; exact gtc_0.mp q2)
      · have es : s = a := by omega
        subst es
        have x0 : x ≠ 0 := fun w => q2 (gtc_0.mpr w)
        have xb := GT1_b hx1'
        have r2 : rts I2 s = rts I s := rts_fr c2 (by rw [e489']) s
        have s12 : (s : Int) < I2 518 6 := by rw [c2.1 518 (by omega)]; exact s1
        have rl := rts_len (I := I) (s : Int)
        have rv := rk_v k2 s12 (n := 1) (by rw [r2]; omega)
        have rb := rk_best (P := fun _ => True) k2 s12 (n := 1) (by omega) (by rw [r2]; omega) (fun n' h1 h2 => by omega)
        have gx : gtc x = (x : Int) := by
          unfold gtc
          rw [if_neg x0]
        rw [gx, show ((s : Int) * 61 + 1).toNat = 61 * s + 1 from by omega, rv.1]
        have ef : ∀ y, eN I2 cs s y = eN I cs s y := fun y => by
          unfold eN
          rw [chw_fr c2 (by rw [e489'])]
        refine c5_endOf k2 s12 (by rw [r2]; exact xb) (c5_endOf k2 s12 rv.2.1 ?_)
        show ((eN I2 cs s x ≠ eN I2 cs s (rk I2 s 1) → _) ∧ (eN I2 cs s x = eN I2 cs s (rk I2 s 1) → _))
        refine ⟨fun q3 => PI_i (k0 I2 l2 k2 ?_), fun q3 => PI_i (k1 I2 l2 k2 ⟨i, hs, xs, x, hg, hx1', x0, fun y y0 y1 => ?_⟩)⟩
        · rintro ⟨i', h1, ys, y, h2, h3, h4, h5⟩
          have ei := nd i' i s h1 hs
          subst ei
          have ey := GCh_u i' ys xs h2 hg
          subst ey
          have exy := GT1_u h3 hx1'
          subst exy
          have r1 := rv.2.1
          rw [r2] at r1
          have r0 := rv.2.2.2 (by omega)
          have g1 := h5 (rk I2 s 1) (by omega) r1
          have g2 := rb y (by omega) (by rw [r2]; exact xb) trivial
          rw [ef, ef] at g2 q3
          omega
        · have g2 := rb y y0 (by rw [r2]; exact y1) trivial
          rw [ef, ef] at g2 q3
          omega
theorem PLN_do {X : HI} (p : PLN I cs) (f : DFo I X) (x11 : X 477 11 = -1) : PLN X cs := by
  obtain ⟨hw, h33, h63, hO, hR, hP, hv⟩ := p
  have k0 : ∀ k, k ≠ 477 → k ≠ 479 → X k = I k := f.1
  have e489 := k0 489 (by decide) (by decide)
  have c : CF I X := ⟨fun k hk => k0 k (by omega) (by omega), by rw [e489]⟩
  have e32 := k0 32 (by decide) (by decide)
  refine ⟨CWs_fr hw c (by rw [e489]) (k0 33 (by decide) (by decide)) (fun k k1 k2 => k0 k (by omega) (by omega)), by rw [k0 33 (by decide) (by decide), e489]; exact h33, by rw [e489]; exact h63, ⟨fun h8 => RTs_fr c (by rw [e489]) hw.1.1.2.2.1.2 (fun j j1 j2 => k0 j (by omega) (by omega)) (hO.1 (by rw [← e32]; exact h8)), ?_, fun h8 h9 => ?_⟩, RCu_fr hR (fun j j1 j2 => k0 j (by omega) (by omega)) (c.1 518 (by omega)) (c.1 524 (by omega)) (c.1 526 (by omega)) (c.1 527 (by omega)), ⟨?_, fun h1 => absurd x11 h1⟩, by rw [k0 69 (by decide) (by decide)]; exact hv⟩
  · have := hO.2.1
    unfold SUB at this ⊢
    rw [k0 75 (by decide) (by decide), k0 76 (by decide) (by decide)]
    exact this
  · rw [e32] at h8 h9 ⊢
    exact FIT_fr c (by rw [e489]) (by rw [e489]) (k0 75 (by decide) (by decide)) (k0 76 (by decide) (by decide)) (hO.2.2 h8 h9)
  · rw [f.2 12 (by decide) (by decide), k0 69 (by decide) (by decide)]
    exact hP.1
theorem QFr_do {X : HI} (f : DFo I X) : QFr I X := ⟨fun k _ _ h4 => f.1 k (by omega) (by omega), fun j _ => by rw [f.1 62 (by decide) (by decide)], fun j _ _ _ => by rw [f.1 32 (by decide) (by decide)]⟩
theorem QFr_lo {X : HI} (f : LoF I X) : QFr I X := ⟨fun k _ h2 h4 => f.1 k h2 (by omega) (by omega) (by omega), f.2, fun j _ _ _ => by rw [f.1 32 (by omega) (by omega) (by omega) (by omega)]⟩
theorem lots_lp {a n : Nat} (lv : I 69 11 ≤ 500000) (en : (n : Int) = I 518 6) (n0 : 1 ≤ n) (n4 : n ≤ 4) (k : ∀ X : HI, QFr I X → PLN X cs → (I 69 11 ≤ X 69 11 ∧ X 69 11 ≤ I 69 11 + 1) → KI (cntL (fun p => ∃ i, LCK I cs a p i) ((List.range 256).filterMap (ordA n))) X) : ∀ (m c : Nat) (X : HI), c + m = 256 → QFr I X → PLN X cs → ((X 32 = I 32 ∧ X 69 = I 69) ∨ ((I 69 11 ≤ X 69 11 ∧ X 69 11 ≤ I 69 11 + 1) ∧ X 32 8 = 0 ∧ X 32 9 = 0)) → J none mX10_lots (d + 16) 0 0 14 [(0, vR 0), (1, vI (a : Int)), (2, vI (cntL (fun p => ∃ i, LCK I cs a p i) ((List.range c).filterMap (ordA n)))), (3, vI (c : Int))] [] (mk X) (PI KI)
  | 0, c, X, e, qX, pX, vX => by
    refine bk_X10_lots_14 ⟨fun _ => PI_i ?_, fun q => by omega⟩
    rw [show c = 256 from by omega]
    refine k X qX pX ?_
    rcases vX with w | w
    · rw [w.2]
      omega
    · exact w.1
  | m + 1, c, X, e, qX, pX, vX => by
    have ih := fun Y => lots_lp lv en n0 n4 k m (c + 1) Y
    have cb := cntL_b (P := fun p => ∃ i, LCK I cs a p i) (f := ordA n) c
    have vb : I 69 11 ≤ X 69 11 ∧ X 69 11 ≤ I 69 11 + 1 := by
      rcases vX with w | w
      · rw [w.2]
        omega
      · exact w.1
    refine bk_X10_lots_14 ⟨fun q => by omega, fun _ => ?_⟩
    refine c6_drawOrder (n := n) (by rw [pX.1.1.1.1.2.2.1, (CF_q qX).1 518 (by omega)]; exact en) (by omega) n4 (fun Y fY y7 y11 hd ho => ⟨fun q => by omega, fun _ => ?_⟩) (fun Y fY y11 ho => ⟨fun _ => ⟨by omega, ?_⟩, fun q => absurd rfl q⟩)
    · have pY := PLN_do pX fY y11
      obtain ⟨o1, o2, o3⟩ := ordA_f n0 n4 (by omega) ho
      refine bk_X6_luckyIn_0 (c5_prep2 pY (fun Z pZ rZ vZ => ?_))
      have q2 := QFr_tr qX (QFr_tr (QFr_do fY) (QFr_p pZ))
      have cZ := CF_q q2
      have e489 := sh_q q2
      have vIZ : I 69 11 ≤ Z 69 11 ∧ Z 69 11 ≤ I 69 11 + 1 := by
        have y69 : Y 69 = X 69 := fY.1 69 (by decide) (by decide)
        have y32 : Y 32 = X 32 := fY.1 32 (by decide) (by decide)
        rcases vX with w | w
        · have := VrC_b vZ
          rw [y69, w.2] at this
          exact this
        · rcases vZ with u | u
          · rw [u, y69]
            exact w.1
          · rw [y32] at u
            exact absurd ⟨w.2.1, w.2.2⟩ u.2
      have fin : ∀ W : HI, LoF Z W → KNW W cs → QFr I W ∧ PLN W cs ∧ ((W 32 = I 32 ∧ W 69 = I 69) ∨ ((I 69 11 ≤ W 69 11 ∧ W 69 11 ≤ I 69 11 + 1) ∧ W 32 8 = 0 ∧ W 32 9 = 0)) := fun W lW kW => by
        have w0 : ∀ k, (k < 57 ∨ 66 < k) → k ≠ 75 → k ≠ 76 → k ≠ 480 → W k = Z k := lW.1
        have w69 := w0 69 (by omega) (by omega) (by omega) (by omega)
        have w32 := w0 32 (by omega) (by omega) (by omega) (by omega)
        have w489 := w0 489 (by omega) (by omega) (by omega) (by omega)
        have w33 := w0 33 (by omega) (by omega) (by omega) (by omega)
        have w477 := w0 477 (by omega) (by omega) (by omega) (by omega)
        have z11 : Z 477 11 = -1 := by rw [pZ.1 477 (by omega) (by omega)]; exact y11
        refine ⟨QFr_tr q2 (QFr_lo lW), PLN_of ⟨kW, by rw [w32]; exact rZ.2.1, by rw [w33, w489]; exact rZ.2.2.1, by rw [w489]; exact rZ.2.2.2.1, ⟨by rw [w477, w69]; exact rZ.2.2.2.2.1.1, fun h1 => absurd (by rw [w477]; exact z11) h1⟩, by rw [w69]; exact rZ.2.2.2.2.2⟩ (by rw [w69]; omega), Or.inr ⟨by rw [w69]; exact vIZ, by rw [w32]; exact rZ.2.1.2.1, by rw [w32]; exact rZ.2.1.2.2⟩⟩
      have lf : (∃ i, LCK Z cs a ((List.range n).map (digA c)) i) ↔ ∃ i, LCK I cs a ((List.range n).map (digA c)) i := by
        simp only [LCK_fr cZ (by rw [e489]) (by rw [e489])]
      have cn := cntL_s (P := fun p => ∃ i, LCK I cs a p i) ho
      have := lucky_lp (d := d + 6) (a := a) (n := n) (ps := (List.range n).map (digA c)) (KI := fun x2 I2 => ((x2 = 0 → (-2147483648 ≤ (c : Int) + 1 ∧ (c : Int) + 1 ≤ 2147483647) ∧ J none mX10_lots (d + 16) 0 0 14 [(0, vR 0), (1, vI (a : Int)), (2, vI (cntL (fun p => ∃ i, LCK I cs a p i) ((List.range c).filterMap (ordA n)))), (3, vI ((c : Int) + 1))] [] (mk I2) (PI KI)) ∧ (¬ (x2 = 0) → (-2147483648 ≤ cntL (fun p => ∃ i, LCK I cs a p i) ((List.range c).filterMap (ordA n)) + 1 ∧ cntL (fun p => ∃ i, LCK I cs a p i) ((List.range c).filterMap (ordA n)) + 1 ≤ 2147483647) ∧ (-2147483648 ≤ (c : Int) + 1 ∧ (c : Int) + 1 ≤ 2147483647) ∧ J none mX10_lots (d + 16) 0 0 14 [(0, vR 0), (1, vI (a : Int)), (2, vI (cntL (fun p => ∃ i, LCK I cs a p i) ((List.range c).filterMap (ordA n)) + 1)), (3, vI ((c : Int) + 1))] [] (mk I2) (PI KI)))) rZ.1 (by rw [cZ.1 518 (by omega)]; exact en) (by rw [pZ.1 477 (by omega) (by omega)]; exact y7) o1 (fun j t ht => ⟨by rw [cZ.1 518 (by omega)]; have := o2 j t ht; omega, by
        have jl := ge_lt ht
        rw [o1] at jl
        rw [pZ.1 479 (by omega) (by omega), hd j jl, map_dig ht]⟩) o3 (fun W lW kW hl => ⟨fun q => by omega, fun _ => ⟨by omega, by omega, ?_⟩⟩) (fun W lW kW hl => ⟨fun _ => ⟨by omega, ?_⟩, fun q => absurd rfl q⟩) n 0 [] Z (by omega) (LoF_rfl Z) rZ.1 rfl (fun j x hx => by cases hx) (fun j hj => by omega)
      · exact this
      · obtain ⟨f1, f2, f3⟩ := fin W lW kW
        have := ih W (by omega) f1 f2 f3
        rw [cn.1 (lf.mp hl)] at this
        exact this
      · obtain ⟨f1, f2, f3⟩ := fin W lW kW
        have := ih W (by omega) f1 f2 f3
        rw [cn.2 (fun w => hl (lf.mpr w))] at this
        exact this
    · have y69 : Y 69 = X 69 := fY.1 69 (by decide) (by decide)
      have y32 : Y 32 = X 32 := fY.1 32 (by decide) (by decide)
      have := ih Y (by omega) (QFr_tr qX (QFr_do fY)) (PLN_do pX fY y11) (by rw [y69, y32]; exact vX)
      rw [cntL_n ho] at this
      exact this
end LO
