theorem HPI_ar {lim : Int} {L S G O L' S' G' O' : Nat → Int} {b k : Nat} {D : List Chd} (h : HPI lim L S G O b k D) (e : ∀ i, i < k → L' (b + i) = L (b + i) ∧ S' (b + i) = S (b + i) ∧ G' (b + i) = G (b + i) ∧ O' (b + i) = O (b + i)) : HPI lim L' S' G' O' b k D := by
  obtain ⟨h1, h2, h3, h4⟩ := h
  refine ⟨fun F hF => ?_, fun Q hQ => ?_, h3, fun i hi => ?_⟩
  · rw [h1 F hF, sH_ar (L := L) (S := S) (b := b) k (fun i hi => ⟨(e i hi).1, (e i hi).2.1⟩)]
  · obtain ⟨g1, g2, g3⟩ := h2 Q hQ
    refine ⟨fun l => ?_, ?_, ?_⟩
    · rw [g1 l]
      constructor
      · intro w i hi hq
        rw [(e i hi).1] at hq
        rw [(e i hi).2.2.1]
        exact w i hi hq
      · intro w i hi hq
        have := w i hi (by rw [(e i hi).1]; exact hq)
        rw [(e i hi).2.2.1] at this
        exact this
    · rw [g2]
      constructor
      · rintro ⟨i, hi, hq, ho⟩
        exact ⟨i, hi, by rw [(e i hi).1]; exact hq, by rw [(e i hi).2.2.2]; exact ho⟩
      · rintro ⟨i, hi, hq, ho⟩
        rw [(e i hi).1] at hq
        rw [(e i hi).2.2.2] at ho
        exact ⟨i, hi, hq, ho⟩
    · rw [g3]
      constructor
      · rintro ⟨i, hi, hq⟩
        exact ⟨i, hi, by rw [(e i hi).1]; exact hq⟩
      · rintro ⟨i, hi, hq⟩
        rw [(e i hi).1] at hq
        exact ⟨i, hi, hq⟩
  · obtain ⟨u1, u2, u3, u4⟩ := e i hi
    rw [u1, u2, u3, u4]
    exact h4 i hi
theorem HPs_fr {lim : Int} {I X : HI} {s s' k : Nat} {D : List Chd} (h : HPs lim I s k D) (dl : D.length ≤ 61) (f : HpF s' I X) (ne : s ≠ s') : HPs lim X s k D := by
  obtain ⟨h1, h2⟩ := h
  have kl := h2.2.2.1
  refine ⟨by rw [f.2.2 s ne]; exact h1, HPI_ar h2 (fun i hi => ?_)⟩
  exact f.2.1 (61 * s + i) (by omega)
def PB (I : HI) (s m : Int) (W : List Sp) (p : Int) : Prop := pin p ∧ ∀ l : Int, 0 ≤ l → l < 16 → (bit p l = true ↔ petS I s l m W)
def LnB (W : List Sp) (g : Int) : Prop := pin g ∧ ∀ l : Int, 0 ≤ l → l < 16 → (bit g l = true ↔ ∃ x ∈ W, x.2.1 = l)
def DOK (I : HI) (cs : Int → List Int) (m : Int) (s N : Nat) (D : List Chd) : Prop := D.length = N + 1 ∧ (∀ c, D[0]? = some c → c = (0, 0, 0)) ∧ ∀ (x : Nat) (c : Chd), 1 ≤ x → D[x]? = some c → PB I s m (chw I cs s x) c.1 ∧ LnB (chw I cs s x) c.2.1 ∧ c.2.2 = 1
noncomputable def Nc (I : HI) (s : Nat) : Nat := if (s : Int) < I 518 6 then 3 * (rts I s).length else 0
def LkF (I X : HI) : Prop := ∀ k, (k < 482 ∨ 487 < k) → X k = I k
theorem pin_0 : pin 0 := ⟨by omega, by omega⟩
theorem DOK_pin {I : HI} {cs : Int → List Int} {m : Int} {s N : Nat} {D : List Chd} (h : DOK I cs m s N D) : Pins D := by
  intro x hx
  obtain ⟨i, hi⟩ := List.getElem?_of_mem hx
  by_cases e : i = 0
  · subst e
    rw [h.2.1 x hi]
    exact pin_0
  · exact (h.2.2 i x (by omega) hi).1.1
theorem CF_lk {I X : HI} (h : LkF I X) : CF I X := ⟨fun k hk => h k (by omega), by rw [h 489 (by omega)]⟩
section LK
variable {d : Nat} {I : HI} {K : HI → Prop} {lim m : Int} {cs : Int → List Int}
theorem KNW_lk {X : HI} (h : KNW I cs) (f : LkF I X) : KNW X cs := by
  obtain ⟨h1, h2, h3, h4, h5⟩ := h
  have c := CF_lk f
  have e489 := f 489 (by omega)
  refine ⟨CWs_fr h1 c (by rw [e489]) (f 33 (by omega)) (fun k k1 k2 => f k (by omega)), RTs_fr c (by rw [e489]) h1.1.1.2.2.1.2 (fun k k1 k2 => f k (by omega)) h2, ?_, FIT_fr c (by rw [e489]) (by rw [e489]) (f 75 (by omega)) (f 76 (by omega)) h4, RCu_fr h5 (fun k k1 k2 => f k (by omega)) (f 518 (by omega)) (f 524 (by omega)) (f 526 (by omega)) (f 527 (by omega))⟩
  unfold SUB at h3 ⊢
  rw [f 75 (by omega), f 76 (by omega)]
  exact h3
theorem lies_cf {X : HI} (f : CF I X) (s c m : Int) : lies X s c m ↔ lies I s c m := by
  unfold lies
  rw [f.1 522 (by omega), f.2]
theorem chw_legs {s x : Nat} (hk : KNW I cs) (s1 : (s : Int) < I 518 6) (x1 : x ≤ 3 * (rts I s).length) : ∀ g ∈ legs 0 (chw I cs s x), 0 ≤ g.2.2.2 ∧ g.2.2.2 ≤ 1500 ∧ 0 ≤ g.2.1 ∧ g.2.1 < 16 := by
  intro g hg
  obtain ⟨_, sw, _⟩ := ch_ok ⟨hk.1, hk.2.1⟩ s1 x1
  have a := legs_lo _ _ _ sw.1 g hg
  have b := legs_hi _ _ _ sw.1 g hg
  have lr : ∀ (W : List Sp) (c t : Int), okW c t W → ∀ y ∈ legs t W, 0 ≤ y.2.1 ∧ y.2.1 < 16 := by
    intro W
    induction W with
    | nil => intro c t _ y hy; simp [legs] at hy
    | cons z W ih =>
      intro c t ho y hy
      unfold legs at hy
      split at hy
      · exact ih _ _ ho.2.2.2 y hy
      · rename_i ne
        rcases List.mem_cons.mp hy with rfl | hy
        · exact ho.2.2.1.resolve_left ne
        · exact ih _ _ ho.2.2.2 y hy
  have c := lr _ _ _ sw.1 g hg
  have := sw.2.2.2.1
  omega
/-- the heaps of one saint that is there -/
theorem look_x {s : Nat} (hk : KNW I cs) (s1 : (s : Int) < I 518 6) (s3 : s < 3) (hm0 : 0 ≤ m ∧ m ≤ 999) (h : ∀ (Y : HI) (k : Nat) (D : List Chd), HpF s I Y → HPs lim Y s k D → DOK I cs m s (3 * (rts I s).length) D → J none mX2_look (d + 4) 0 0 9 [(0, vR 482), (1, vI lim), (2, vI m), (3, vI ((s : Int) + 1))] [] (mk Y) (PV K)) : ∀ (n x k : Nat) (D : List Chd) (X : HI), x + n = 3 * (rts I s).length + 1 → 1 ≤ x → HpF s I X → HPs lim X s k D → DOK I cs m s (x - 1) D → J none mX2_look (d + 4) 0 0 62 [(0, vR 482), (1, vI lim), (2, vI m), (3, vI (s : Int)), (4, vI (3 * ((rts I s).length : Int))), (5, vI (x : Int))] [] (mk X) (PV K)
  | 0, x, k, D, X, e, x1, fX, pX, dX => by
    rw [show x - 1 = 3 * (rts I s).length from by omega] at dX
    exact bk_X2_look_62 ⟨fun _ => ⟨by omega, h X k D fX pX dX⟩, fun q => by omega⟩
  | n + 1, x, k, D, X, e, x1, fX, pX, dX => by
    have ih := fun k' D' Y => look_x hk s1 s3 hm0 h n (x + 1) k' D' Y
    have lk : LkF I X := fun k hk => fX.1 k (by omega)
    have cX := CF_lk lk
    have kX := KNW_lk hk lk
    have rl := rts_len (I := I) (s : Int)
    have rX : rts X s = rts I s := rts_fr cX (by rw [lk 489 (by omega)]) s
    have s1X : (s : Int) < X 518 6 := by rw [cX.1 518 (by omega)]; exact s1
    have xb : x ≤ 3 * (rts X s).length := by rw [rX]; omega
    obtain ⟨tw, sw, _, _, lr⟩ := ch_ok ⟨kX.1, kX.2.1⟩ s1X xb
    have hT := kX.1.1
    refine bk_X2_look_62 ⟨fun q => by omega, fun _ => c5_trackOf (by omega) (by omega) (c5_lateOf (by omega) ?_)⟩
    refine c0_petalsOf hT.1 hT.2.1 hT.2.2.2.2.1 (by omega) s1X tw.1 (chw_legs kX s1X xb) (fun y y0 y1 y2 => ?_)
    have chf : chw X cs s x = chw I cs s x := chw_fr cX (by rw [lk 489 (by omega)]) cs s x
    have pb : PB I s m (chw I cs s x) y := by
      refine ⟨⟨y0, y1⟩, fun l l0 l1 => ?_⟩
      rw [y2 l l0 l1, chf]
      unfold petS
      rw [pet_eq (fun c => lies I s c m) l (by omega) (chw I cs s x) 0]
      simp only [lies_cf cX]
    have gb : LnB (chw I cs s x) (X (chT s x) 6) := by
      obtain ⟨b0, b1, b2⟩ := tw.2.2.1
      refine ⟨⟨b0, b1⟩, fun l l0 l1 => ?_⟩
      rw [b2 l l0 l1, chf]
      have := pet_eq (fun _ => True) l (by omega) (chw I cs s x) 0
      simp only [and_true] at this
      rw [this]
    have dn : DOK I cs m s (x + 1 - 1) (D ++ [(y, X (chT s x) 6, 1)]) := by
      obtain ⟨d1, d2, d3⟩ := dX
      have dl : D.length = x := by omega
      refine ⟨by rw [List.length_append, dl]; rfl, fun c hc => ?_, fun x' c hx' hc => ?_⟩
      · rw [List.getElem?_append_left (by omega)] at hc
        exact d2 c hc
      · rcases Nat.lt_trichotomy x' x with w | w | w
        · rw [List.getElem?_append_left (by omega)] at hc
          exact d3 x' c hx' hc
        · subst w
          have cl : (D ++ [(y, X (chT s x') 6, (1 : Int))])[x']? = some (y, X (chT s x') 6, (1 : Int)) := by
            have := List.getElem?_concat_length (l := D) (a := (y, X (chT s x') 6, (1 : Int)))
            rw [dl] at this
            exact this
          rw [cl] at hc
          cases hc
          exact ⟨pb, gb, rfl⟩
        · rw [List.getElem?_eq_none (by rw [List.length_append, dl]; show x + 1 ≤ x'; omega)] at hc
          cases hc
    have dl : D.length = x := by have := dX.1; omega
    refine ⟨fun q => ⟨by omega, ?_⟩, fun q => ?_⟩
    · have sk : HPI lim (X 483) (X 484) (X 485) (X 486) (61 * s) k (D ++ [(y, X (chT s x) 6, 1)]) := HPI_skip (x := (y, X (chT s x) 6, 1)) pX.2 pb.1 q
      have := ih k (D ++ [(y, X (chT s x) 6, 1)]) X (by omega) (by omega) fX ⟨pX.1, sk⟩ dn
      exact this
    · have := c2_heap (d := d + 2) (I := X) (lim := lim) (s := s) (k := k) (D := D) (x := (y, X (chT s x) 6, 1)) (K := fun I4 => ((-2147483648 ≤ (x : Int) + 1 ∧ (x : Int) + 1 ≤ 2147483647) ∧ J none mX2_look (d + 4) 0 0 62 [(0, vR 482), (1, vI lim), (2, vI m), (3, vI (s : Int)), (4, vI (3 * ((rts I s).length : Int))), (5, vI ((x : Int) + 1))] [] (mk I4) (PV K))) s3 (by omega) pX pb.1 gb.1 (Or.inr rfl) (fun Y k' fY pY => ⟨by omega, by
        have q9 := ih k' (D ++ [(y, X (chT s x) 6, 1)]) Y (by omega) (by omega) (HpF_tr fX fY) pY dn
        exact q9⟩)
      exact this
end LK
