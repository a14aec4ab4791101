/-- the last minute of petals of s that came -/
def lastP (I : HI) (s came : Int) : Int := if I 489 44 ≤ came then came + I 522 (16 + 4 * s + 3).toNat - 1 else min (came + I 522 (16 + 4 * s + 3).toNat - 1) (I 489 44 - 1)
theorem lies_iff {I : HI} {s came m : Int} (hr : CRa I) (hm : 0 ≤ came) : lies I s came m ↔ came ≤ m ∧ m ≤ lastP I s came := by
  obtain ⟨r1, r2, r3⟩ := hr
  unfold lies lastP
  split <;> omega
def passS (P : Nat → Int) (p : Int) : List Sp → Int
  | [] => -1
  | x :: W => if P (10 + x.1).toNat = p then x.2.2 else passS P p W
def passL (P : Nat → Int) (p : Int) : List Lg → Int
  | [] => -1
  | x :: W => if P (10 + x.1).toNat = p then x.2.2.2 else passL P p W
theorem pass_eq (P : Nat → Int) (p : Int) : ∀ (W : List Sp) (c t : Int), okW c t W → P (10 + c).toNat ≠ p → passS P p W = passL P p (legs t W)
  | [], c, t, h, hn => rfl
  | x :: W, c, t, h, hn => by
    obtain ⟨h1, h2, h3, h4⟩ := h
    unfold passS legs
    by_cases hx : x.2.1 = -1
    · rw [if_pos hx, h2 hx, if_neg hn]
      exact pass_eq P p W c x.2.2 (h2 hx ▸ h4) hn
    · rw [if_neg hx]
      unfold passL
      by_cases hp : P (10 + x.1).toNat = p
      · rw [if_pos hp, if_pos hp]
      · rw [if_neg hp, if_neg hp, pass_eq P p W x.1 x.2.2 h4 hp]
theorem passL_no (P : Nat → Int) (p : Int) : ∀ (L : List Lg), (∀ x ∈ L, P (10 + x.1).toNat ≠ p) → passL P p L = -1
  | [], h => rfl
  | x :: L, h => by
    unfold passL
    rw [if_neg (h x List.mem_cons_self), passL_no P p L (fun y hy => h y (List.mem_cons_of_mem _ hy))]
/-- the petals of all saints on a lane -/
noncomputable def petB (I : HI) (cs : Int → List Int) (l m : Int) : Nat → Int → Int → Int
  | 0, _, a => a
  | n + 1, s, a => petB I cs l m n (s + 1) (iF (petS I s l m (wy I s (cs s))) (oO a (oSl 1 s)) a)
noncomputable def joyS (I : HI) (cs : Int → List Int) : Nat → Int → Int → Int
  | 0, _, a => a
  | n + 1, b, a => joyS I cs n (b + 1) (a + iF (glad I cs b) (I 523 (40 + 4 * b + 3).toNat) 0)
/-- balconies' minutes -/
def CBm (I : HI) : Prop := ∀ b : Int, 0 ≤ b → b < I 518 8 → 0 ≤ I 523 (40 + 4 * b + 1).toNat ∧ I 523 (40 + 4 * b + 1).toNat ≤ I 523 (40 + 4 * b + 2).toNat ∧ I 523 (40 + 4 * b + 2).toNat ≤ 999
section OD
variable {d : Nat} {I : HI} {K : Int → HI → Prop} {K2 : Int → Int → HI → Prop} {cs : Int → List Int}
theorem c0_lastPetals {s came : Int} (hc : CN I) (hs : CSa I) (hr : CRa I) (s0 : 0 ≤ s) (s1 : s < I 518 6) (h0 : 0 ≤ came) (h1 : came ≤ 2000) (h : K (lastP I s came) I) : CI mX0_lastPetals (d + 1) [vR 1, vI s, vI came] I K := by
  have e := hs.1 s 3 s0 s1 (by omega) (by omega)
  obtain ⟨q1, q2, q3, q4⟩ := hs.2 s s0 s1
  obtain ⟨r1, r2, r3⟩ := hr
  have b1 := hc.2.2.1
  refine bk_X0_lastPetals_0 ?_
  rw [e, r1]
  unfold lastP at h
  (repeat' (with_reducible first | refine And.intro ?_ ?_ | intro _ | refine PI_i ?_ | refine PV_i ?_ | refine PL_i ?_)) <;> first | omega | skip
  · rwa [if_pos (by omega)] at h
  · rwa [if_neg (by omega)] at h
theorem petalsOf_lp {s late m : Int} {t n : Nat} (hc : CN I) (hs : CSa I) (hr : CRa I) (s0 : 0 ≤ s) (s1 : s < I 518 6) (ht : TR t n) (hn : n ≤ 25) : ∀ (L : List Lg) (i a : Int), AL I t late i L → 0 < i → i + L.length ≤ n → (∀ x ∈ L, 0 ≤ x.2.2.2 ∧ x.2.2.2 ≤ 1500 ∧ 0 ≤ x.2.1 ∧ x.2.1 < 16) → 0 ≤ a → a < 65536 → (∀ y, 0 ≤ y → y < 65536 → (∀ l : Int, 0 ≤ l → l < 16 → (bit y l = true ↔ bit a l = true ∨ ∃ x ∈ L, x.2.1 = l ∧ lies I s x.2.2.2 m)) → K y I) → J none mX0_petalsOf (d + 2) 0 0 6 [(0, vR 1), (1, vI s), (2, vR t), (3, vI late), (4, vI m), (5, vI a), (6, vI i)] [] (mk I) (PI K)
  | [], i, a, ha, hi, hl, hx, a0, a1, h => by
    have e := AL_len _ _ ha
    simp at e hl
    refine bk_X0_petalsOf_6 ht ?_
    (repeat' (with_reducible first | refine And.intro ?_ ?_ | intro _ | refine PI_i ?_ | refine PV_i ?_ | refine PL_i ?_)) <;> first | omega | skip
    exact h a a0 a1 (fun l _ _ => by simp)
  | x :: L, i, a, ha, hi, hl, hx, a0, a1, h => by
    have e := AL_len _ _ ha
    simp only [List.length_cons] at e hl
    obtain ⟨g1, g2, g3, g4, g5, g6⟩ := ha
    obtain ⟨x1, x2, x3, x4⟩ := hx x List.mem_cons_self
    have ih := petalsOf_lp hc hs hr s0 s1 ht hn L (i + 1) (late := late) (m := m)
    have hx2 := fun y hy => hx y (List.mem_cons_of_mem x hy)
    have p := p2_rng (k := x.2.1) 16 (by omega) (by omega) (by omega)
    have o := or_rng 16 (by omega) (x := a) (y := oSl 1 x.2.1) a0 (by omega) (by omega) p.2
    have hli := lies_iff (s := s) (m := m) hr x1
    refine bk_X0_petalsOf_6 ht ?_
    rw [g5]
    (repeat' (with_reducible first | refine And.intro ?_ ?_ | intro _ | refine PI_i ?_ | refine PV_i ?_ | refine PL_i ?_)) <;> first | omega | skip
    · refine ih a g6 (by omega) (by omega) hx2 a0 a1 (fun y y0 y1 y2 => h y y0 y1 (fun l l0 l1 => ?_))
      rw [y2 l l0 l1]
      constructor
      · rintro (q | ⟨z, hz, q1, q2⟩)
        · exact Or.inl q
        · exact Or.inr ⟨z, List.mem_cons_of_mem _ hz, q1, q2⟩
      · rintro (q | ⟨z, hz, q1, q2⟩)
        · exact Or.inl q
        · rcases List.mem_cons.mp hz with rfl | hz
          · have := hli.mp q2
            omega
          · exact Or.inr ⟨z, hz, q1, q2⟩
    · refine c0_lastPetals hc hs hr s0 s1 x1 (by omega) ?_
      rw [g3]
      (repeat' (with_reducible first | refine And.intro ?_ ?_ | intro _ | refine PI_i ?_ | refine PV_i ?_ | refine PL_i ?_)) <;> first | omega | skip
      · refine ih a g6 (by omega) (by omega) hx2 a0 a1 (fun y y0 y1 y2 => h y y0 y1 (fun l l0 l1 => ?_))
        rw [y2 l l0 l1]
        constructor
        · rintro (q | ⟨z, hz, q1, q2⟩)
          · exact Or.inl q
          · exact Or.inr ⟨z, List.mem_cons_of_mem _ hz, q1, q2⟩
        · rintro (q | ⟨z, hz, q1, q2⟩)
          · exact Or.inl q
          · rcases List.mem_cons.mp hz with rfl | hz
            · have := hli.mp q2
              omega
            · exact Or.inr ⟨z, hz, q1, q2⟩
      · refine ih _ g6 (by omega) (by omega) hx2 o.1 (by omega) (fun y y0 y1 y2 => h y y0 y1 (fun l l0 l1 => ?_))
        rw [y2 l l0 l1, bit_or a0 (by omega) (by omega) (by omega), bit_p2 (by omega) (by omega) l0, Bool.or_eq_true, decide_eq_true_eq]
        constructor
        · rintro ((q | q) | ⟨z, hz, q1, q2⟩)
          · exact Or.inl q
          · exact Or.inr ⟨x, List.mem_cons_self, q.symm, hli.mpr (by omega)⟩
          · exact Or.inr ⟨z, List.mem_cons_of_mem _ hz, q1, q2⟩
        · rintro (q | ⟨z, hz, q1, q2⟩)
          · exact Or.inl (Or.inl q)
          · rcases List.mem_cons.mp hz with rfl | hz
            · exact Or.inl (Or.inr q1.symm)
            · exact Or.inr ⟨z, hz, q1, q2⟩
theorem c0_petalsOf {s late m c : Int} {t n : Nat} {L : List Lg} (hc : CN I) (hs : CSa I) (hr : CRa I) (s0 : 0 ≤ s) (s1 : s < I 518 6) (hk : TK I t n late c L) (hx : ∀ x ∈ L, 0 ≤ x.2.2.2 ∧ x.2.2.2 ≤ 1500 ∧ 0 ≤ x.2.1 ∧ x.2.1 < 16) (h : ∀ y, 0 ≤ y → y < 65536 → (∀ l : Int, 0 ≤ l → l < 16 → (bit y l = true ↔ ∃ x ∈ L, x.2.1 = l ∧ lies I s x.2.2.2 m)) → K y I) : CI mX0_petalsOf (d + 2) [vR 1, vI s, vR t, vI late, vI m] I K :=
  bk_X0_petalsOf_0 hk.1 (petalsOf_lp hc hs hr s0 s1 hk.1 hk.2.2.2.2 L 1 0 hk.2.2.1 (by omega) (by have := hk.2.2.2.1; omega) hx (by omega) (by omega) (fun y y0 y1 y2 => h y y0 y1 (fun l l0 l1 => by rw [y2 l l0 l1, bit_zero]; simp)))
theorem oO_0 {a : Int} (h0 : 0 ≤ a) (h1 : a ≤ 2147483647) : oO a 0 = a := by
  rw [oO_or h0 h1 (by omega) (by omega)]
  simp
  omega
/-- the legs of a saint's way stand in their bounds -/
theorem wy_legs {s : Int} {c : List Int} (hc : CN I) (hs : CSa I) (hl : CLa I) (s0 : 0 ≤ s) (s1 : s < I 518 6) (h : RW I s c) : ∀ x ∈ legs 0 (wy I s c), 0 ≤ x.2.2.2 ∧ x.2.2.2 ≤ 999 ∧ 0 ≤ x.2.1 ∧ x.2.1 < 16 ∧ 0 ≤ x.2.2.1 ∧ x.2.2.1 < x.2.2.2 ∧ 0 ≤ x.1 ∧ x.1 < I 518 5 := by
  intro x hx
  have ok := wy_ok hc hs hl s0 s1 h.1
  have h1 := legs_lo _ _ _ ok x hx
  have h2 := legs_hi _ _ _ ok x hx
  have h3 := okW_lane _ _ _ ok x hx
  have hh := hm_rng hs s0 s1
  have h4 := legs_in _ 0 _ (run_in c _ 0 hh.1 hh.2 h.1) x hx
  have h5 := h.2.2.1
  omega
theorem petals_m {l m : Int} (hc : CN I) (hs : CSa I) (hl : CLa I) (hr : CRa I) (hw : RWy I cs) : ∀ (n : Nat) (s a : Int), 0 ≤ s → s + n = I 518 6 → 0 ≤ a → a < 16 → K (petB I cs l m n s a) I → J none mX11_petals (d + 4) 0 0 27 [(0, vR 489), (1, vI l), (2, vI m), (3, vI a), (4, vI s)] [] (mk I) (PI K)
  | 0, s, a, s0, s1, a0, a1, h => by
    refine bk_X11_petals_27 (c11_saintMany ?_)
    (repeat' (with_reducible first | refine And.intro ?_ ?_ | intro _ | refine PI_i ?_ | refine PV_i ?_ | refine PL_i ?_)) <;> first | omega | exact h
  | n + 1, s, a, s0, s1, a0, a1, h => by
    obtain ⟨w1, w2, w3, w4, w5, w6, w7⟩ := hw s s0 (by omega)
    have ok := wy_ok hc hs hl s0 (by omega) w1
    have ln := run_len I s (cs s) (hm I s) 0
    have b1 := hc.2.2.1
    have ih := petals_m (l := l) (m := m) hc hs hl hr hw n (s + 1)
    have p := p2_rng (k := s) 4 (by omega) (by omega) (by omega)
    have o := or_rng 4 (by omega) (x := a) (y := oSl 1 s) a0 (by omega) (by omega) p.2
    have hco := okW_come _ _ _ ok
    refine bk_X11_petals_27 (c11_saintMany ⟨fun q => by omega, fun q => ?_⟩)
    unfold petB at h
    refine c11_arePetals s0 (by omega) (by rw [sof_s (by omega)]; exact (hs.2 s s0 (by omega)).2.2.2) w4 (by unfold wy; omega) (fun x hx => by have := hco x hx; omega) (fun q => ?_) (fun q => ?_)
    · rw [sof_s (by omega)] at q
      rw [iF_pos q] at h
      (repeat' (with_reducible first | refine And.intro ?_ ?_ | intro _ | refine PI_i ?_ | refine PV_i ?_ | refine PL_i ?_)) <;> first | omega | skip
      exact ih _ (by omega) (by omega) o.1 (by omega) h
    · rw [sof_s (by omega)] at q
      rw [iF_neg q] at h
      (repeat' (with_reducible first | refine And.intro ?_ ?_ | intro _ | refine PI_i ?_ | refine PV_i ?_ | refine PL_i ?_)) <;> first | omega | skip
      exact ih _ (by omega) (by omega) a0 a1 h
theorem petals_c {l m : Int} (hc : CN I) (hs : CSa I) (hl : CLa I) (hr : CRa I) (hw : RWy I cs) (l0 : 0 ≤ l) (l1 : l < 16) : ∀ (n : Nat) (s a : Int), 0 ≤ s → s + n = I 518 6 → 0 ≤ a → a < 16 → K (petB I cs l m n s a) I → J none mX10_petals (d + 3) 0 0 23 [(0, vR 0), (1, vI l), (2, vI m), (3, vI a), (4, vI s)] [] (mk I) (PI K)
  | 0, s, a, s0, s1, a0, a1, h => by
    have c2 := hc.1.2.2.1
    refine bk_X10_petals_23 ?_
    (repeat' (with_reducible first | refine And.intro ?_ ?_ | intro _ | refine PI_i ?_ | refine PV_i ?_ | refine PL_i ?_)) <;> first | omega | exact h
  | n + 1, s, a, s0, s1, a0, a1, h => by
    have hW := hw s s0 (by omega)
    obtain ⟨w1, w2, w3, w4, w5, w6, w7⟩ := hw s s0 (by omega)
    have ok := wy_ok hc hs hl s0 (by omega) w1
    have c2 := hc.1.2.2.1
    have b1 := hc.2.2.1
    have ih := petals_c (m := m) hc hs hl hr hw l0 l1 n (s + 1)
    have p := p2_rng (k := s) 4 (by omega) (by omega) (by omega)
    have o := or_rng 4 (by omega) (x := a) (y := oSl 1 s) a0 (by omega) (by omega) p.2
    refine bk_X10_petals_23 ⟨fun q => by omega, fun q => ⟨by omega, ?_⟩⟩
    unfold petB at h
    refine c0_petalsOf hc hs hr s0 (by omega) w7.1 (fun x hx => by have := wy_legs hc hs hl s0 (by omega) hW x hx; omega) (fun y y0 y1 y2 => ⟨by omega, ?_⟩)
    have y3 := (y2 l l0 l1).trans (pet_eq (fun c => lies I s c m) l (by omega) (wy I s (cs s)) 0).symm
    rw [bit_01 y0 (by omega) l0 (by omega)]
    by_cases q : petS I s l m (wy I s (cs s))
    · rw [iF_pos q] at h
      rw [if_pos (y3.mpr q)]
      exact ih _ (by omega) (by omega) o.1 (by omega) h
    · rw [iF_neg q] at h
      rw [if_neg (fun z => q (y3.mp z))]
      have e0 : oSl 0 s = 0 := by
        have := oSl_nat 0 s.toNat (by omega) (by simp)
        rw [show ((s.toNat : Nat) : Int) = s from by omega] at this
        simpa using this
      rw [e0, oO_0 a0 (by omega)]
      exact ih _ (by omega) (by omega) a0 a1 h
theorem op_petals {a b : Int} (hc : CN I) (hs : CSa I) (hl : CLa I) (hr : CRa I) (hw : RWy I cs) (h : ∀ x, K2 x x I) : CI mX10_petals (d + 4) [vR 0, vI a, vI b] I (fun x1 I1 => CI mX11_petals (d + 4) [vR 489, vI a, vI b] I1 (K2 x1)) := by
  have hc0 := hc
  obtain ⟨⟨c0, c1, c2, c3, c4⟩, b0, b1, b2, b3, b4⟩ := hc
  refine bk_X10_petals_0 ?_
  (repeat' (with_reducible first | refine And.intro ?_ ?_ | intro _ | refine PI_i ?_ | refine PV_i ?_ | refine PL_i ?_ | apply c10_isLane | apply c10_isMinute)) <;> first | omega | skip
  case _ =>
    refine petals_c hc0 hs hl hr hw (by omega) (by omega) (I 518 6).toNat 0 0 (by omega) (by omega) (by omega) (by omega) ?_
    refine bk_X11_petals_0 ?_
    (repeat' (with_reducible first | refine And.intro ?_ ?_ | intro _ | refine PI_i ?_ | refine PV_i ?_ | refine PL_i ?_ | apply c11_isLane | apply b2 | apply c11_isIn)) <;> first | omega | skip
    exact petals_m hc0 hs hl hr hw (I 518 6).toNat 0 0 (by omega) (by omega) (by omega) (by omega) (h _)
  all_goals
    refine bk_X11_petals_0 ?_
    (repeat' (with_reducible first | refine And.intro ?_ ?_ | intro _ | refine PI_i ?_ | refine PV_i ?_ | refine PL_i ?_ | apply c11_isLane | apply b2 | apply c11_isIn)) <;> first | omega | exact h _
end OD
