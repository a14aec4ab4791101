/-- a choice stands beside what those before got -/
def BSD (I : HI) (cs : Int → List Int) (ps xs : List Nat) (s y : Nat) : Prop := ∀ i t x : Nat, ps[i]? = some t → xs[i]? = some x → x ≠ 0 → LW I cs t x s y
def GT1 (I : HI) (cs : Int → List Int) (ps xs : List Nat) (s x : Nat) : Prop := (x = 0 ∧ ∀ y, 1 ≤ y → y ≤ 3 * (rts I s).length → ¬ BSD I cs ps xs s y) ∨ ((1 ≤ x ∧ x ≤ 3 * (rts I s).length) ∧ BSD I cs ps xs s x ∧ ∀ y, 1 ≤ y → y ≤ 3 * (rts I s).length → BSD I cs ps xs s y → (eN I cs s x < eN I cs s y ∨ (eN I cs s x = eN I cs s y ∧ x ≤ y)))
theorem GT1_u {I : HI} {cs : Int → List Int} {ps xs : List Nat} {s x x' : Nat} (h : GT1 I cs ps xs s x) (g : GT1 I cs ps xs s x') : x = x' := by
  rcases h with ⟨h1, h2⟩ | ⟨h1, h2, h3⟩ <;> rcases g with ⟨g1, g2⟩ | ⟨g1, g2, g3⟩
  · omega
  · exact absurd g2 (h2 x' g1.1 g1.2)
  · exact absurd h2 (g2 x h1.1 h1.2)
  · have a := h3 x' g1.1 g1.2 g2
    have b := g3 x h1.1 h1.2 h2
    omega
theorem GT1_b {I : HI} {cs : Int → List Int} {ps xs : List Nat} {s x : Nat} (h : GT1 I cs ps xs s x) : x ≤ 3 * (rts I s).length := by
  rcases h with h | h
  · omega
  · exact h.1.2
def GCh (I : HI) (cs : Int → List Int) (ps : List Nat) : Nat → List Nat → Prop
  | 0, xs => xs = []
  | i + 1, xs => ∃ ys x s, GCh I cs ps i ys ∧ ps[i]? = some s ∧ GT1 I cs ps ys s x ∧ xs = ys ++ [x]
theorem GCh_u {I : HI} {cs : Int → List Int} {ps : List Nat} : ∀ (i : Nat) (xs ys : List Nat), GCh I cs ps i xs → GCh I cs ps i ys → xs = ys
  | 0, xs, ys, h, g => by rw [h, g]
  | i + 1, xs, ys, h, g => by
    obtain ⟨a, x, s, h1, h2, h3, h4⟩ := h
    obtain ⟨b, y, t, g1, g2, g3, g4⟩ := g
    have e := GCh_u i a b h1 g1
    rw [h2] at g2
    cases g2
    subst e
    rw [h4, g4, GT1_u h3 g3]
theorem GCh_len {I : HI} {cs : Int → List Int} {ps : List Nat} : ∀ (i : Nat) (xs : List Nat), GCh I cs ps i xs → xs.length = i
  | 0, xs, h => by
    rw [h]
    rfl
  | i + 1, xs, h => by
    obtain ⟨a, x, s, h1, h2, h3, h4⟩ := h
    rw [h4, List.length_append, GCh_len i a h1]
    rfl
theorem GCh_b {I : HI} {cs : Int → List Int} {ps : List Nat} : ∀ (i : Nat) (xs : List Nat), GCh I cs ps i xs → ∀ j t x : Nat, ps[j]? = some t → xs[j]? = some x → x ≤ 3 * (rts I t).length
  | 0, xs, h, j, t, x, _, hx => by
    rw [h] at hx
    cases hx
  | i + 1, xs, h, j, t, x, ht, hx => by
    obtain ⟨a, y, s, h1, h2, h3, h4⟩ := h
    have la := GCh_len i a h1
    rw [h4] at hx
    rcases Nat.lt_trichotomy j i with q | q | q
    · rw [List.getElem?_append_left (by omega)] at hx
      exact GCh_b i a h1 j t x ht hx
    · subst q
      rw [← la, List.getElem?_concat_length] at hx
      rw [h2] at ht
      cases ht
      cases hx
      exact GT1_b h3
    · rw [List.getElem?_eq_none (by rw [List.length_append, la]; show i + 1 ≤ j; omega)] at hx
      cases hx
/-- in this order the saint has its least end -/
def LCK (I : HI) (cs : Int → List Int) (a : Nat) (ps : List Nat) (i : Nat) : Prop := ps[i]? = some a ∧ ∃ xs x, GCh I cs ps i xs ∧ GT1 I cs ps xs a x ∧ x ≠ 0 ∧ ∀ y, 1 ≤ y → y ≤ 3 * (rts I a).length → eN I cs a x ≤ eN I cs a y
def gtc (x : Nat) : Int := if x = 0 then -1 else (x : Int)
section LO
variable {d : Nat} {I : HI} {K : HI → Prop} {KI : Int → HI → Prop} {K2 : Int → Int → HI → Prop} {cs : Int → List Int} {H : List Sn}
theorem GT1_fr {X : HI} {ps xs : List Nat} {s x : Nat} (f : CF I X) (e63 : X 489 63 = I 489 63) (e64 : X 489 64 = I 489 64) : GT1 X cs ps xs s x ↔ GT1 I cs ps xs s x := by
  unfold GT1 BSD eN
  simp only [LW_fr f e63 e64, rts_fr f e63, chw_fr f e63]
theorem GCh_fr {X : HI} {ps : List Nat} (f : CF I X) (e63 : X 489 63 = I 489 63) (e64 : X 489 64 = I 489 64) : ∀ (i : Nat) (xs : List Nat), GCh X cs ps i xs ↔ GCh I cs ps i xs
  | 0, xs => Iff.rfl
  | i + 1, xs => by
    unfold GCh
    simp only [GCh_fr f e63 e64 i, GT1_fr f e63 e64]
theorem LCK_fr {X : HI} {ps : List Nat} {a i : Nat} (f : CF I X) (e63 : X 489 63 = I 489 63) (e64 : X 489 64 = I 489 64) : LCK X cs a ps i ↔ LCK I cs a ps i := by
  unfold LCK eN
  simp only [GCh_fr f e63 e64, GT1_fr f e63 e64, rts_fr f e63, chw_fr f e63]
theorem rk_best {s n : Nat} {P : Nat → Prop} (hk : KNW I cs) (s1 : (s : Int) < I 518 6) (n0 : 1 ≤ n) (nl : n ≤ 3 * (rts I s).length) (hd : ∀ n', 1 ≤ n' → n' < n → ¬ P (rk I s n')) : ∀ y, 1 ≤ y → y ≤ 3 * (rts I s).length → P y → (eN I cs s (rk I s n) < eN I cs s y ∨ (eN I cs s (rk I s n) = eN I cs s y ∧ rk I s n ≤ y)) := by
  intro y y0 y1 ay
  have rv := rk_v hk s1 nl
  have r1 := rv.2.2.2 (by omega)
  obtain ⟨n', n1, n2⟩ := rk_on hk s1 y1
  have nz : n' ≠ 0 := fun z => by
    have := (rk_v hk s1 n1).2.2.1 z
    omega
  have nn : n ≤ n' := by
    rcases Nat.lt_or_ge n' n with z | z
    · rw [← n2] at ay
      exact absurd ay (hd n' (by omega) z)
    · exact z
  by_cases en : n = n'
  · subst en
    rw [n2]
    exact Or.inr ⟨rfl, Nat.le_refl _⟩
  · have g := (hk.2.1 s s1).2
    have ls := g.2.2.2.2 n n' n0 (by omega) n1
    have rv' := rk_v hk s1 n1
    have e1 := g.1 (rk I s n) (by omega) rv.2.1
    have e2 := g.1 (rk I s n') (by have := rv'.2.2.2 nz; omega) rv'.2.1
    have c1 : ∀ x, x ≠ 0 → eN I cs s x = endS 0 (wy I (s : Int) (opc I (s : Int) (x - 1))) := fun x hx => by
      unfold eN chw chc
      rw [if_neg hx]
    rw [c1 _ r1, ← n2, c1 _ (rv'.2.2.2 nz), ← e1, ← e2]
    unfold lsE at ls
    rw [rv.1, rv'.1, Int.toNat_natCast, Int.toNat_natCast] at ls
    rcases ls with z | z
    · exact Or.inl z
    · exact Or.inr ⟨z.1, by omega⟩
theorem pick_in {s n y i : Nat} {ps xs : List Nat} (hk : KNW I cs) (s1 : (s : Int) < I 518 6) (y0 : 1 ≤ y) (y1 : y ≤ 3 * (rts I s).length) (n1 : n ≤ 60) (li : xs.length = i) (lp : i ≤ ps.length) (i4 : i ≤ 4) (hps : ∀ j t, j < i → ps[j]? = some t → (t : Int) < I 518 6 ∧ t ≠ s ∧ I 479 j = t) (hxs : ∀ j t x : Nat, ps[j]? = some t → xs[j]? = some x → x ≤ 3 * (rts I t).length ∧ I 480 j = gtc x) (k1 : ∀ Y : HI, JFr I Y → KNW Y cs → BSD I cs ps xs s y → KI y Y) (k0 : ∀ Y : HI, JFr I Y → KNW Y cs → ¬ BSD I cs ps xs s y → J none mX6_pick (d + 8) 0 0 9 [(0, vR 477), (1, vI (i : Int)), (2, vI (s : Int)), (3, vI ((n : Int) + 1))] [] (mk Y) (PI KI)) : ∀ (m j : Nat) (X : HI), j + m = i → JFr I X → KNW X cs → (∀ j' t x : Nat, j' < j → ps[j']? = some t → xs[j']? = some x → x ≠ 0 → LW I cs t x s y) → J none mX6_pick (d + 8) 0 0 46 [(0, vR 477), (1, vI (i : Int)), (2, vI (s : Int)), (3, vI (n : Int)), (4, vI (y : Int)), (5, vI 1), (6, vI (j : Int))] [] (mk X) (PI KI)
  | 0, j, X, e, jX, kX, hd => bk_X6_pick_46 ⟨fun _ => ⟨fun q => by omega, fun _ => PI_i (k1 X jX kX (fun j' t x h1 h2 h3 => hd j' t x (by have := ge_lt h2; omega) h1 h2 h3))⟩, fun q => by omega⟩
  | m + 1, j, X, e, jX, kX, hd => by
    have ih := fun Y => pick_in hk s1 y0 y1 n1 li lp i4 hps hxs k1 k0 m (j + 1) Y
    have n6 := hk.1.1.1.2.2.1
    have rl := rts_len (I := I) (s : Int)
    obtain ⟨t, ht⟩ : ∃ t, ps[j]? = some t := ⟨_, List.getElem?_eq_getElem (by omega)⟩
    obtain ⟨x, hx⟩ : ∃ x, xs[j]? = some x := ⟨_, List.getElem?_eq_getElem (by omega)⟩
    obtain ⟨t1, ts, t9⟩ := hps j t (by omega) ht
    obtain ⟨x1, x0⟩ := hxs j t x ht hx
    have f518 := (CF_j jX).1 518 (by omega)
    have nx : ∀ Z : HI, JFr I Z → KNW Z cs → (x ≠ 0 → LW I cs t x s y) → J none mX6_pick (d + 8) 0 0 46 [(0, vR 477), (1, vI (i : Int)), (2, vI (s : Int)), (3, vI (n : Int)), (4, vI (y : Int)), (5, vI 1), (6, vI ((j : Int) + 1))] [] (mk Z) (PI KI) := fun Z jZ kZ hz => ih Z (by omega) jZ kZ (fun j' t' x' h0 h1 h2 h3 => by
      by_cases ej : j' = j
      · subst ej
        rw [ht] at h1
        rw [hx] at h2
        cases h1
        cases h2
        exact hz h3
      · exact hd j' t' x' (by omega) h1 h2 h3)
    refine bk_X6_pick_46 ⟨fun q => by omega, fun _ => ⟨fun q => by omega, fun _ => ?_⟩⟩
    rw [Int.toNat_natCast, jX.1 480 (by omega) (by omega) (by omega), jX.1 479 (by omega) (by omega) (by omega), t9, x0]
    by_cases z : x = 0
    · rw [z]
      exact ⟨by omega, fun _ => ⟨by omega, nx X jX kX (fun w => absurd z w)⟩, fun q => absurd rfl q⟩
    · unfold gtc
      rw [if_neg z]
      refine ⟨by omega, fun q => by omega, fun _ => ⟨by omega, by omega, ?_⟩⟩
      have lbp : ∀ u, u < 64 → lb (lSl 1 (y : Int)) u = decide (u = y) := fun u hu => by
        rw [lb_p2 (by omega) (by omega) hu, Int.toNat_natCast]
      refine c5_fitting kX ts (by rw [f518]; exact t1) (by rw [f518]; exact s1) (by rw [rts_j jX]; exact x1) (lrg_Sl _ _) (fun u hu hb => by
        rw [lbp u hu, decide_eq_true_eq] at hb
        rw [rts_j jX, hb]
        exact y1) (fun Y v jY kY vl hv => ?_)
      have v0 : v = 0 ↔ ¬ LW I cs t x s y := by
        constructor
        · intro zz w
          have h0 := hv y (by omega)
          rw [lbp y (by omega), zz, lb_0, decide_eq_true_eq] at h0
          have := h0.mpr ⟨rfl, (LW_j jX cs t x s y).mpr w⟩
          cases this
        · intro w
          refine lext vl ⟨by omega, by omega⟩ (fun u hu => ?_)
          rw [lb_0]
          cases eb : lb v u
          · rfl
          · have := (hv u hu).mp eb
            rw [lbp u hu, decide_eq_true_eq] at this
            rw [this.1] at this
            exact absurd ((LW_j jX cs t x s y).mp this.2) w
      have jIY := JFr_tr jX jY
      refine ⟨fun zz => ⟨by omega, ?_⟩, fun zz => ⟨by omega, nx Y jIY kY (fun _ => Classical.byContradiction fun w => zz (v0.mpr w))⟩⟩
      have nb : ¬ BSD I cs ps xs s y := fun w => v0.mp zz (w j t x ht hx z)
      exact bk_X6_pick_46 ⟨fun _ => ⟨fun _ => ⟨by omega, k0 Y jIY kY nb⟩, fun q => absurd rfl q⟩, fun _ => ⟨fun _ => ⟨fun _ => ⟨by omega, k0 Y jIY kY nb⟩, fun q => absurd rfl q⟩, fun q => absurd rfl q⟩⟩
theorem pick_lp {s i : Nat} {ps xs : List Nat} (hk : KNW I cs) (s1 : (s : Int) < I 518 6) (li : xs.length = i) (lp : i ≤ ps.length) (i4 : i ≤ 4) (hps : ∀ j t, j < i → ps[j]? = some t → (t : Int) < I 518 6 ∧ t ≠ s ∧ I 479 j = t) (hxs : ∀ j t x : Nat, ps[j]? = some t → xs[j]? = some x → x ≤ 3 * (rts I t).length ∧ I 480 j = gtc x) (h : ∀ (Y : HI) (x : Nat), JFr I Y → KNW Y cs → GT1 I cs ps xs s x → KI (gtc x) Y) : ∀ (m n : Nat) (X : HI), n + m = 3 * (rts I s).length + 1 → 1 ≤ n → JFr I X → KNW X cs → (∀ n', 1 ≤ n' → n' < n → ¬ BSD I cs ps xs s (rk I s n')) → J none mX6_pick (d + 8) 0 0 9 [(0, vR 477), (1, vI (i : Int)), (2, vI (s : Int)), (3, vI (n : Int))] [] (mk X) (PI KI)
  | 0, n, X, e, n0, jX, kX, hd => by
    have n6 := hk.1.1.1.2.2.1
    have rl := rts_len (I := I) (s : Int)
    have f71 : X 71 s = (rts I s).length := by rw [jX.1 71 (by omega) (by omega) (by omega)]; exact (hk.2.1 s s1).1.1
    refine bk_X6_pick_9 ?_
    rw [Int.toNat_natCast, f71]
    refine ⟨by omega, by omega, fun _ => PI_i (h X 0 jX kX (Or.inl ⟨rfl, fun y y0 y1 => ?_⟩)), fun q => by omega⟩
    obtain ⟨n', n1, n2⟩ := rk_on hk s1 y1
    have : n' ≠ 0 := fun z => by
      have := (rk_v hk s1 n1).2.2.1 z
      omega
    rw [← n2]
    exact hd n' (by omega) (by omega)
  | m + 1, n, X, e, n0, jX, kX, hd => by
    have n6 := hk.1.1.1.2.2.1
    have rl := rts_len (I := I) (s : Int)
    have f71 : X 71 s = (rts I s).length := by rw [jX.1 71 (by omega) (by omega) (by omega)]; exact (hk.2.1 s s1).1.1
    have rv := rk_v hk s1 (show n ≤ 3 * (rts I s).length from by omega)
    have r1 := rv.2.2.2 (by omega)
    refine bk_X6_pick_9 ?_
    rw [Int.toNat_natCast, f71, show ((s : Int) * 61 + (n : Int)).toNat = 61 * s + n from by omega, jX.1 73 (by omega) (by omega) (by omega), rv.1]
    refine ⟨by omega, by omega, fun q => by omega, fun _ => ⟨by omega, by omega, by omega, ?_⟩⟩
    refine pick_in hk s1 (by omega) rv.2.1 (by omega) li lp i4 hps hxs (fun Y jY kY hb => ?_) (fun Y jY kY hb => ?_) i 0 X (by omega) jX kX (fun j' t x h0 => by omega)
    · have := h Y (rk I s n) jY kY (Or.inr ⟨⟨by omega, rv.2.1⟩, hb, rk_best (P := BSD I cs ps xs s) hk s1 n0 (by omega) hd⟩)
      unfold gtc at this
      rw [if_neg r1] at this
      exact this
    · exact pick_lp hk s1 li lp i4 hps hxs h m (n + 1) Y (by omega) (by omega) jY kY (fun n' h1 h2 => by
        by_cases en : n' = n
        · rw [en]; exact hb
        · exact hd n' h1 (by omega))
end LO
