/-- what the class's search for routes of s changes -/
def EFr (s : Nat) (I X : HI) : Prop := (∀ k, k ≠ 71 → k ≠ 74 → (k < 77 + 100 * s ∨ 77 + 100 * s + 100 ≤ k) → X k = I k) ∧ (∀ j, j ≠ s → X 71 j = I 71 j)
theorem EFr_rfl (s : Nat) (I : HI) : EFr s I I := ⟨fun _ _ _ _ => rfl, fun _ _ => rfl⟩
theorem EFr_tr {s : Nat} {I X Y : HI} (h : EFr s I X) (g : EFr s X Y) : EFr s I Y := ⟨fun k h1 h2 h3 => by rw [g.1 k h1 h2 h3, h.1 k h1 h2 h3], fun j hj => by rw [g.2 j hj, h.2 j hj]⟩
theorem CF_e {s : Nat} {I X : HI} (s4 : s < 4) (h : EFr s I X) : CF I X := ⟨fun k hk => h.1 k (by omega) (by omega) (by omega), by rw [h.1 489 (by omega) (by omega) (by omega)]⟩
def PathIs (X : HI) (p : List Int) : Prop := ∀ (i : Nat) (x : Int), p[i]? = some x → X 74 i = x
theorem PathIs_up {X : HI} {p : List Int} {x : Int} (h : PathIs X p) : PathIs (up X 74 p.length x) (p ++ [x]) := by
  intro i y hy
  by_cases e : i < p.length
  · rw [List.getElem?_append_left e] at hy
    rw [up_j (by omega)]
    exact h i y hy
  · have := ge_lt hy
    rw [List.length_append, List.length_singleton] at this
    obtain rfl : i = p.length := by omega
    rw [List.getElem?_concat_length] at hy
    cases hy
    exact up_e
theorem PathIs_l {X : HI} {p : List Int} {x : Int} (h : PathIs X (p ++ [x])) : PathIs X p := fun i y hy => h i y (by rw [List.getElem?_append_left (ge_lt hy)]; exact hy)
/-- the class's tracks of the routes R of s -/
def CRt (I X : HI) (s : Nat) (R : List (List Int)) : Prop := X 71 s = R.length ∧ ∀ (r : Nat) (q : List Int), R[r]? = some q → TW X (77 + 5 * (20 * s + r)) 10 0 (hm I s) (wy I s q)
theorem TRo_n {i : Nat} (h : i < 80) : TR (77 + 5 * i) 10 := (TRo_all i h).1
theorem and_p2 {s p : Int} (s0 : 0 ≤ s) (s1 : s < 1024) (p0 : 0 ≤ p) (p1 : p < 10) : oA s (oSl 1 p) = 0 ↔ bit s p = false := by
  have pr := p2_rng (k := p) 10 (by omega) p0 (by omega)
  have r := and_rng (x := s) (y := oSl 1 p) s0 (by omega) (by omega) (by omega)
  constructor
  · intro h
    cases e : bit s p
    · rfl
    · have : bit (oA s (oSl 1 p)) p = true := by
        rw [bit_and s0 (by omega) (by omega) (by omega), e, bit_p2 p0 (by omega) p0]
        simp
      rw [h, bit_zero] at this
      cases this
  · intro h
    refine bit_ext 10 r.1 (by omega) (by omega) (by omega) (fun j j0 j1 => ?_)
    rw [bit_and s0 (by omega) (by omega) (by omega), bit_p2 p0 (by omega) j0, bit_zero]
    by_cases e : j = p
    · rw [e, h]; rfl
    · simp [e]
section EX5
variable {d : Nat} {I : HI} {K : HI → Prop} {KI : Int → HI → Prop} {K2 : Int → Int → HI → Prop} {cs : Int → List Int} {H : List Sn}
theorem lane_c {X : HI} (hT : CTY I) (f : CF I X) {a b : Int} (a0 : 0 ≤ a) (a1 : a < I 518 5) (b0 : 0 ≤ b) (b1 : b < I 518 5) : X 12 (a * 10 + b).toNat = laneM I a b := by
  rw [f.1 12 (by omega)]
  exact hT.2.2.1.2.2 a b a0 a1 b0 b1
theorem min_c {X : HI} (hT : CTY I) (f : CF I X) {s l : Int} (s0 : 0 ≤ s) (s1 : s < I 518 6) (l0 : 0 ≤ l) (l1 : l < I 518 7) : X 6 (l * 4 + 2).toNat * X 7 (s * 4 + 1).toNat = miM I s l := by
  rw [f.1 6 (by omega), f.1 7 (by omega), hT.2.2.1.1 l 2 l0 l1 (by omega) (by omega), hT.2.1.1 s 1 s0 s1 (by omega) (by omega)]
  exact (miM_e l0).symm
theorem rec_lp {s t : Nat} {pt : List Int} {X0 : HI} (hT : CTY I) (s1 : (s : Int) < I 518 6) (ht : TR t 10) (t77 : 77 ≤ t) (t477 : t + 5 ≤ 477) (fX : CF I X0) (hp : PathIs X0 (hm I s :: pt)) (ok : OkW I s pt) (l9 : pt.length ≤ 9) (rx : ∀ x ∈ pt, 0 ≤ x ∧ x < I 518 5) (h : ∀ Y : HI, (∀ k, (k < t ∨ t + 4 < k) → Y k = X0 k) → TW Y t 10 0 (hm I s) (wy I s pt) → K Y) : ∀ (q2 q1 : List Int) (X : HI), pt = q1 ++ q2 → (∀ k, (k < t ∨ t + 4 < k) → X k = X0 k) → TW X t 10 0 (hm I s) (wy I s q1) → J none mX5_record (d + 2) 0 0 40 [(0, vR 69), (1, vI (s : Int)), (2, vI (pt.length : Int)), (3, vR t), (4, vI ((q1.length : Int) + 1))] [] (mk X) (PV K)
  | [], q1, X, e, hf, hW => by
    rw [List.append_nil] at e
    refine bk_X5_record_40 ht ⟨fun _ => PV_i (h X hf (by rw [e]; exact hW)), fun q => ?_⟩
    rw [e] at q
    omega
  | x :: q2, q1, X, e, hf, hW => by
    have n5 := hT.1.2.1
    have n6 := hT.1.2.2.1
    have n7 := hT.1.2.2.2.1
    have hl : pt.length = q1.length + (q2.length + 1) := by rw [e]; simp
    have hx : pt[q1.length]? = some x := by rw [e]; simp
    have xr := rx x (List.mem_of_getElem? hx)
    have cX : CF I X := CF_tr fX ⟨fun k hk => hf k (by omega), by rw [hf 489 (by omega)]⟩
    have e74 : X 74 = X0 74 := hf 74 (by omega)
    obtain ⟨o1, o2, o3, o4, o5, o6⟩ := ok_mid (c1 := q1) (c2 := q2) (x := x) hT.1 hT.2.1 hT.2.2.1 (s := (s : Int)) (by omega) s1 (by rw [e] at ok; exact ok)
    rw [if_neg (by omega)] at o6
    -- the corner ahead
    have lastc : ∀ (q1 : List Int), (∀ y ∈ q1, y ≤ 100) → lastS (hm I (s : Int)) (wy I (s : Int) q1) = (hm I (s : Int) :: q1).getD q1.length 0 := by
      intro q1 hq
      rcases List.eq_nil_or_concat q1 with rfl | ⟨q, y, rfl⟩
      · rfl
      · rw [List.concat_eq_append] at hq ⊢
        have y100 := hq y (by simp)
        rw [wy_snoc, if_neg (by omega), lastS_app]
        simp [lastS]
    have q100 : ∀ y ∈ q1, y ≤ 100 := fun y hy => by
      have := rx y (by rw [e]; exact List.mem_append_left _ hy)
      omega
    have ea : X 74 (q1.length : Nat) = lastS (hm I (s : Int)) (wy I (s : Int) q1) := by
      rw [e74, lastc q1 q100]
      refine hp q1.length _ ?_
      rw [e]
      have : q1.length < (hm I (s : Int) :: (q1 ++ x :: q2)).length := by simp; omega
      have g : (hm I (s : Int) :: (q1 ++ x :: q2))[q1.length]? = (hm I (s : Int) :: q1)[q1.length]? := by
        rw [← List.cons_append, List.getElem?_append_left (by simp)]
      rw [g, List.getD_eq_getElem?_getD]
      rw [List.getElem?_eq_getElem (by simp)]
      rfl
    have ex : X 74 (q1.length + 1 : Nat) = x := by
      rw [e74]
      refine hp (q1.length + 1) x ?_
      rw [List.getElem?_cons_succ]
      exact hx
    have lr := laneM_rng n7.1 o6.2.2
    have mr := miM_rng hT.2.1 hT.2.2.1 (s := (s : Int)) (by omega) s1 lr.1 lr.2
    obtain ⟨⟨tk1, tk2, tk3, tk4, tk5⟩, t5, t6, t7, t8⟩ := id hW
    have al := AL_len _ _ tk3
    have ll := legs_len (wy I (s : Int) q1) 0
    have wl := wy_len I (s : Int) q1
    refine bk_X5_record_40 ht ⟨fun q => by omega, fun _ => ?_⟩
    rw [show ((q1.length : Int) + 1 - 1).toNat = q1.length from by omega, show ((q1.length : Int) + 1).toNat = q1.length + 1 from by omega, ea, ex, lane_c hT cX o3.1 o3.2 xr.1 xr.2]
    refine ⟨by omega, by omega, by omega, by omega, by omega, by omega, by omega, ?_⟩
    have mc := min_c hT cX (s := (s : Int)) (by omega) s1 lr.1 lr.2
    refine c0_minutesOf (by omega) (by omega) lr.1 (by omega) (by rw [mc]; omega) ?_
    rw [mc]
    refine c8_walkBy ht (by omega) (by omega) (by omega) (by omega) (by omega) ⟨by omega, ?_⟩
    have := rec_lp hT s1 ht t77 t477 fX hp ok l9 rx h q2 (q1 ++ [x]) (wkb X t (laneM I (lastS (hm I (s : Int)) (wy I (s : Int) q1)) x) x (miM I (s : Int) (laneM I (lastS (hm I (s : Int)) (wy I (s : Int) q1)) x))) (by rw [e]; simp) (fun k hk => by rw [wkb_f hk]; exact hf k hk) (by
      rw [wy_snoc, if_neg (by omega)]
      exact TW_w hW (by omega) lr.1 (by omega))
    rw [List.length_append, List.length_singleton] at this
    exact this
theorem c5_record {s : Nat} {pt : List Int} {R : List (List Int)} {X : HI} (hT : CTY I) (s1 : (s : Int) < I 518 6) (eX : EFr s I X) (hp : PathIs X (hm I s :: pt)) (hR : CRt I X s R) (lR : R.length < 20) (ok : OkW I s pt) (l9 : pt.length ≤ 9) (rx : ∀ x ∈ pt, 0 ≤ x ∧ x < I 518 5) (h : ∀ Y : HI, EFr s I Y → Y 74 = X 74 → CRt I Y s (R ++ [pt]) → K Y) : CV mX5_record (d + 2) [vR 69, vI (s : Int), vI (pt.length : Int)] X K := by
  have n6 := hT.1.2.2.1
  have s4 : s < 4 := by omega
  have hs71 := hR.1
  refine bk_X5_record_0 ?_
  rw [Int.toNat_natCast, hs71]
  refine ⟨by omega, by omega, by omega, by omega, by omega, by omega, by omega, fun I1 e1 => ?_⟩
  have et : 77 + 5 * ((s : Int) * 20 + (R.length : Int)).toNat = 77 + 5 * (20 * s + R.length) := by omega
  rw [et]
  have ht : TR (77 + 5 * (20 * s + R.length)) 10 := TRo_n (by omega)
  have f1 : ∀ k, k ≠ 71 → I1 k = X k := fun k hk => by rw [e1, up_k hk]
  have h0 : I1 74 0 = hm I (s : Int) := by
    rw [f1 74 (by decide)]
    exact hp 0 _ rfl
  rw [h0]
  refine c8_start ht (by omega) (by omega) ?_
  have g1 : ∀ k, (k < 77 + 5 * (20 * s + R.length) ∨ 77 + 5 * (20 * s + R.length) + 4 < k) → st0 I1 (77 + 5 * (20 * s + R.length)) (hm I (s : Int)) k = I1 k := fun k hk => st0_f hk
  have := rec_lp (d := d) (K := K) (t := 77 + 5 * (20 * s + R.length)) (X0 := st0 I1 (77 + 5 * (20 * s + R.length)) (hm I (s : Int))) hT s1 ht (by omega) (by omega) (CF_tr (CF_e s4 eX) ⟨fun k hk => by rw [g1 k (by omega), f1 k (by omega)], by rw [g1 489 (by omega), f1 489 (by omega)]⟩) (fun i x hx => by rw [g1 74 (by omega), f1 74 (by decide)]; exact hp i x hx) ok l9 rx (fun Y fY tY => ?_) pt [] _ rfl (fun k hk => rfl) (TW_0 ht (by omega) (by omega))
  · exact this
  · have gY : ∀ k, k ≠ 71 → (k < 77 + 5 * (20 * s + R.length) ∨ 77 + 5 * (20 * s + R.length) + 4 < k) → Y k = X k := fun k hk h2 => by rw [fY k h2, g1 k h2, f1 k hk]
    have y71 : ∀ j, Y 71 j = I1 71 j := fun j => by rw [fY 71 (by omega), g1 71 (by omega)]
    refine h Y (EFr_tr eX ⟨fun k k1 k2 k3 => gY k k1 (by omega), fun j hj => by rw [y71, e1, up_j hj]⟩) (gY 74 (by decide) (by omega)) ⟨?_, fun r q hr => ?_⟩
    · rw [y71, e1, up_e, List.length_append, List.length_singleton]
      omega
    · by_cases e : r < R.length
      · rw [List.getElem?_append_left e] at hr
        exact TW_fr (hR.2 r q hr) (fun k k1 k2 => gY k (by omega) (by omega))
      · have := ge_lt hr
        rw [List.length_append, List.length_singleton] at this
        obtain rfl : r = R.length := by omega
        rw [List.getElem?_concat_length] at hr
        cases hr
        exact tY
end EX5
