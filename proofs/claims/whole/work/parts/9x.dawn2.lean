theorem or3_sub {lim p q r : Int} (hp : pin p) (hq : pin q) (hr : pin r) (e : oO (oO p q) r = lim) : sbs lim p ∧ sbs lim q ∧ sbs lim r := by
  unfold pin at hp hq hr
  have o1 : 0 ≤ oO p q ∧ oO p q < 65536 := by
    rw [oO_or (by omega) (by omega) (by omega) (by omega)]
    have : p.toNat ||| q.toNat < 2 ^ 16 := Nat.or_lt_two_pow (by omega) (by omega)
    omega
  have o2 : 0 ≤ lim ∧ lim < 65536 := by
    rw [← e, oO_or (by omega) (by omega) (by omega) (by omega)]
    have : (oO p q).toNat ||| r.toNat < 2 ^ 16 := Nat.or_lt_two_pow (by omega) (by omega)
    omega
  have bl : ∀ j, bit lim j = ((bit p j || bit q j) || bit r j) := fun j => by
    rw [← e, bit_or (by omega) (by omega) (by omega) (by omega), bit_or (by omega) (by omega) (by omega) (by omega)]
  have z : ∀ x, 0 ≤ x → x < 65536 → (∀ j, bit x j = true → bit lim j = true) → sbs lim x := fun x x0 x1 hx => by
    unfold sbs
    have ar := ant_rng (x := x) (y := lim) (by omega) (by omega) (by omega) (by omega)
    refine bit_ext 16 (by omega) (by omega) (by omega) (by omega) (fun j _ _ => ?_)
    rw [bit_ant (by omega) (by omega) (by omega) (by omega), bit_zero]
    cases hb : bit x j
    · rfl
    · rw [hx j hb]
      rfl
  refine ⟨z p hp.1 hp.2 (fun j h => ?_), z q hq.1 hq.2 (fun j h => ?_), z r hr.1 hr.2 (fun j h => ?_)⟩
  · rw [bl, h]
    rfl
  · rw [bl, h]
    cases bit p j <;> rfl
  · rw [bl, h]
    cases bit p j <;> cases bit q j <;> rfl
noncomputable def chi (lim p q r : Int) : Int := @ite Int (oO (oO p q) r = lim) (Classical.propDecidable _) 1 0
theorem chi_1 {lim p q r : Int} (h : oO (oO p q) r = lim) : chi lim p q r = 1 := by
  unfold chi
  rw [if_pos h]
theorem chi_0 {lim p q r : Int} (h : ¬ oO (oO p q) r = lim) : chi lim p q r = 0 := by
  unfold chi
  rw [if_neg h]
theorem chi_b (lim p q r : Int) : 0 ≤ chi lim p q r ∧ chi lim p q r ≤ 1 := by
  unfold chi
  split <;> omega
def Pins (D : List Chd) : Prop := ∀ x ∈ D, pin x.1
noncomputable def T3 (lim : Int) (D0 D1 D2 : List Chd) : Int := sD (fun p => sD (fun q => sD (fun r => chi lim p q r) D2) D1) D0
noncomputable def F2 (lim : Int) (L S : Nat → Int) (b k : Nat) (p q : Int) : Int := sH (fun r => chi lim p q r) L S b k
noncomputable def F1 (lim : Int) (L S L' S' : Nat → Int) (b k b' k' : Nat) (p : Int) : Int := sH (fun q => F2 lim L' S' b' k' p q) L S b k
section TR
variable {lim : Int} {L0 S0 G0 O0 L1 S1 G1 O1 L2 S2 G2 O2 : Nat → Int} {b0 k0 b1 k1 b2 k2 : Nat} {D0 D1 D2 : List Chd}
theorem T3_eq (h0 : HPI lim L0 S0 G0 O0 b0 k0 D0) (h1 : HPI lim L1 S1 G1 O1 b1 k1 D1) (h2 : HPI lim L2 S2 G2 O2 b2 k2 D2) (p0 : Pins D0) (p1 : Pins D1) : T3 lim D0 D1 D2 = sH (fun p => F1 lim L1 S1 L2 S2 b1 k1 b2 k2 p) L0 S0 b0 k0 := by
  unfold T3
  have a : sD (fun p => sD (fun q => sD (fun r => chi lim p q r) D2) D1) D0 = sD (fun p => F1 lim L1 S1 L2 S2 b1 k1 b2 k2 p) D0 := by
    refine sD_congr D0 (fun x hx => ?_)
    have c : sD (fun q => sD (fun r => chi lim x.1 q r) D2) D1 = sD (fun q => F2 lim L2 S2 b2 k2 x.1 q) D1 := by
      refine sD_congr D1 (fun y hy => ?_)
      exact h2.1 (fun r => chi lim x.1 y.1 r) (fun r pr nr => chi_0 (fun e => nr (or3_sub (p0 x hx) (p1 y hy) pr e).2.2))
    show sD (fun q => sD (fun r => chi lim x.1 q r) D2) D1 = _
    rw [c]
    refine h1.1 (fun q => F2 lim L2 S2 b2 k2 x.1 q) (fun q pq nq => ?_)
    exact sH_0 k2 (fun i hi => chi_0 (fun e => nq (or3_sub (p0 x hx) pq (h2.2.2.2 i hi).2.2.1 e).2.1))
  rw [a]
  refine h0.1 (fun p => F1 lim L1 S1 L2 S2 b1 k1 b2 k2 p) (fun p pp np => ?_)
  exact sH_0 k1 (fun j hj => sH_0 k2 (fun i hi => chi_0 (fun e => np (or3_sub pp (h1.2.2.2 j hj).2.2.1 (h2.2.2.2 i hi).2.2.1 e).1)))
theorem allD {L S G O : Nat → Int} {b k : Nat} {D : List Chd} {Q : Int → Prop} {l : Int} (c : Prop) (h : HPI lim L S G O b k D) (hQ : ∀ p, pin p → Q p → sbs lim p) : (∀ x ∈ D, Q x.1 → c ∨ bit x.2.1 l = true) ↔ ∀ i, i < k → Q (L (b + i)) → c ∨ bit (G (b + i)) l = true := by
  have g := (h.2.1 (fun p => Q p ∧ ¬ c) (fun p pp hq => hQ p pp hq.1)).1 l
  constructor
  · intro w i hi hq
    by_cases hc : c
    · exact Or.inl hc
    · exact Or.inr (g.mp (fun x hx hx1 => (w x hx hx1.1).resolve_left hc) i hi ⟨hq, hc⟩)
  · intro w x hx hq
    by_cases hc : c
    · exact Or.inl hc
    · exact Or.inr (g.mpr (fun i hi hx1 => (w i hi hx1.1).resolve_left hc) x hx ⟨hq, hc⟩)
theorem all3 {l : Int} (h0 : HPI lim L0 S0 G0 O0 b0 k0 D0) (h1 : HPI lim L1 S1 G1 O1 b1 k1 D1) (h2 : HPI lim L2 S2 G2 O2 b2 k2 D2) (p0 : Pins D0) (p1 : Pins D1) : (∀ x ∈ D0, ∀ y ∈ D1, ∀ z ∈ D2, oO (oO x.1 y.1) z.1 = lim → (bit x.2.1 l = true ∨ bit y.2.1 l = true) ∨ bit z.2.1 l = true) ↔ ∀ i j k, i < k0 → j < k1 → k < k2 → oO (oO (L0 (b0 + i)) (L1 (b1 + j))) (L2 (b2 + k)) = lim → (bit (G0 (b0 + i)) l = true ∨ bit (G1 (b1 + j)) l = true) ∨ bit (G2 (b2 + k)) l = true := by
  have e1 : (∀ x ∈ D0, ∀ y ∈ D1, ∀ z ∈ D2, oO (oO x.1 y.1) z.1 = lim → (bit x.2.1 l = true ∨ bit y.2.1 l = true) ∨ bit z.2.1 l = true) ↔ ∀ x ∈ D0, ∀ y ∈ D1, ∀ k, k < k2 → oO (oO x.1 y.1) (L2 (b2 + k)) = lim → (bit x.2.1 l = true ∨ bit y.2.1 l = true) ∨ bit (G2 (b2 + k)) l = true := by
    constructor
    · intro w x hx y hy
      exact (allD (Q := fun r => oO (oO x.1 y.1) r = lim) _ h2 (fun r pr e => (or3_sub (p0 x hx) (p1 y hy) pr e).2.2)).mp (w x hx y hy)
    · intro w x hx y hy
      exact (allD (Q := fun r => oO (oO x.1 y.1) r = lim) _ h2 (fun r pr e => (or3_sub (p0 x hx) (p1 y hy) pr e).2.2)).mpr (w x hx y hy)
  have e2 : (∀ x ∈ D0, ∀ y ∈ D1, ∀ k, k < k2 → oO (oO x.1 y.1) (L2 (b2 + k)) = lim → (bit x.2.1 l = true ∨ bit y.2.1 l = true) ∨ bit (G2 (b2 + k)) l = true) ↔ ∀ x ∈ D0, ∀ j k, j < k1 → k < k2 → oO (oO x.1 (L1 (b1 + j))) (L2 (b2 + k)) = lim → (bit x.2.1 l = true ∨ bit (G1 (b1 + j)) l = true) ∨ bit (G2 (b2 + k)) l = true := by
    constructor
    · intro w x hx j k hj hk e
      have := (allD (Q := fun q => oO (oO x.1 q) (L2 (b2 + k)) = lim) (l := l) (bit x.2.1 l = true ∨ bit (G2 (b2 + k)) l = true) h1 (fun q pq e => (or3_sub (p0 x hx) pq (h2.2.2.2 k hk).2.2.1 e).2.1)).mp (fun y hy e => by rcases w x hx y hy k hk e with (u | u) | u <;> simp [u]) j hj e
      rcases this with (u | u) | u <;> simp [u]
    · intro w x hx y hy k hk e
      have := (allD (Q := fun q => oO (oO x.1 q) (L2 (b2 + k)) = lim) (l := l) (bit x.2.1 l = true ∨ bit (G2 (b2 + k)) l = true) h1 (fun q pq e => (or3_sub (p0 x hx) pq (h2.2.2.2 k hk).2.2.1 e).2.1)).mpr (fun j hj e => by rcases w x hx j k hj hk e with (u | u) | u <;> simp [u]) y hy e
      rcases this with (u | u) | u <;> simp [u]
  rw [e1, e2]
  constructor
  · intro w i j k hi hj hk e
    have := (allD (Q := fun p => oO (oO p (L1 (b1 + j))) (L2 (b2 + k)) = lim) (l := l) (bit (G1 (b1 + j)) l = true ∨ bit (G2 (b2 + k)) l = true) h0 (fun p pp e => (or3_sub pp (h1.2.2.2 j hj).2.2.1 (h2.2.2.2 k hk).2.2.1 e).1)).mp (fun x hx e => by rcases w x hx j k hj hk e with (u | u) | u <;> simp [u]) i hi e
    rcases this with (u | u) | u <;> simp [u]
  · intro w x hx j k hj hk e
    have := (allD (Q := fun p => oO (oO p (L1 (b1 + j))) (L2 (b2 + k)) = lim) (l := l) (bit (G1 (b1 + j)) l = true ∨ bit (G2 (b2 + k)) l = true) h0 (fun p pp e => (or3_sub pp (h1.2.2.2 j hj).2.2.1 (h2.2.2.2 k hk).2.2.1 e).1)).mpr (fun i hi e => by rcases w i j k hi hj hk e with (u | u) | u <;> simp [u]) x hx e
    rcases this with (u | u) | u <;> simp [u]
theorem ex2 {V : Int → Int → Prop} (hV : ∀ q r, pin q → pin r → V q r → sbs lim q ∧ sbs lim r) (h1 : HPI lim L1 S1 G1 O1 b1 k1 D1) (h2 : HPI lim L2 S2 G2 O2 b2 k2 D2) (p2 : Pins D2) : (∃ y ∈ D1, ∃ z ∈ D2, V y.1 z.1) ↔ ∃ j k, (j < k1 ∧ k < k2) ∧ V (L1 (b1 + j)) (L2 (b2 + k)) := by
  have a := (h1.2.1 (fun q => ∃ z ∈ D2, V q z.1) (fun q pq ⟨z, hz, e⟩ => (hV q z.1 pq (p2 z hz) e).1)).2.2
  rw [a]
  constructor
  · rintro ⟨j, hj, e⟩
    obtain ⟨k, hk, e2⟩ := (h2.2.1 (fun r => V (L1 (b1 + j)) r) (fun r pr e => (hV _ r (h1.2.2.2 j hj).2.2.1 pr e).2)).2.2.mp e
    exact ⟨j, k, ⟨hj, hk⟩, e2⟩
  · rintro ⟨j, k, ⟨hj, hk⟩, e⟩
    exact ⟨j, hj, (h2.2.1 (fun r => V (L1 (b1 + j)) r) (fun r pr e => (hV _ r (h1.2.2.2 j hj).2.2.1 pr e).2)).2.2.mpr ⟨k, hk, e⟩⟩
theorem out0 (h0 : HPI lim L0 S0 G0 O0 b0 k0 D0) (h1 : HPI lim L1 S1 G1 O1 b1 k1 D1) (h2 : HPI lim L2 S2 G2 O2 b2 k2 D2) (p1 : Pins D1) (p2 : Pins D2) : (∃ x ∈ D0, (∃ y ∈ D1, ∃ z ∈ D2, oO (oO x.1 y.1) z.1 = lim) ∧ x.2.2 = 1) ↔ ∃ i j k, (i < k0 ∧ j < k1 ∧ k < k2) ∧ oO (oO (L0 (b0 + i)) (L1 (b1 + j))) (L2 (b2 + k)) = lim ∧ O0 (b0 + i) = 1 := by
  rw [(h0.2.1 (fun p => ∃ y ∈ D1, ∃ z ∈ D2, oO (oO p y.1) z.1 = lim) (fun p pp ⟨y, hy, z, hz, e⟩ => (or3_sub pp (p1 y hy) (p2 z hz) e).1)).2.1]
  constructor
  · rintro ⟨i, hi, e, o⟩
    obtain ⟨j, k, hjk, e2⟩ := (ex2 (V := fun q r => oO (oO (L0 (b0 + i)) q) r = lim) (fun q r pq pr e => (or3_sub (h0.2.2.2 i hi).2.2.1 pq pr e).2) h1 h2 p2).mp e
    exact ⟨i, j, k, ⟨hi, hjk⟩, e2, o⟩
  · rintro ⟨i, j, k, ⟨hi, hjk⟩, e, o⟩
    exact ⟨i, hi, (ex2 (V := fun q r => oO (oO (L0 (b0 + i)) q) r = lim) (fun q r pq pr e => (or3_sub (h0.2.2.2 i hi).2.2.1 pq pr e).2) h1 h2 p2).mpr ⟨j, k, hjk, e⟩, o⟩
theorem out1 (h0 : HPI lim L0 S0 G0 O0 b0 k0 D0) (h1 : HPI lim L1 S1 G1 O1 b1 k1 D1) (h2 : HPI lim L2 S2 G2 O2 b2 k2 D2) (p0 : Pins D0) (p2 : Pins D2) : (∃ y ∈ D1, (∃ x ∈ D0, ∃ z ∈ D2, oO (oO x.1 y.1) z.1 = lim) ∧ y.2.2 = 1) ↔ ∃ i j k, (i < k0 ∧ j < k1 ∧ k < k2) ∧ oO (oO (L0 (b0 + i)) (L1 (b1 + j))) (L2 (b2 + k)) = lim ∧ O1 (b1 + j) = 1 := by
  rw [(h1.2.1 (fun q => ∃ x ∈ D0, ∃ z ∈ D2, oO (oO x.1 q) z.1 = lim) (fun q pq ⟨x, hx, z, hz, e⟩ => (or3_sub (p0 x hx) pq (p2 z hz) e).2.1)).2.1]
  constructor
  · rintro ⟨j, hj, e, o⟩
    obtain ⟨i, k, hik, e2⟩ := (ex2 (V := fun p r => oO (oO p (L1 (b1 + j))) r = lim) (fun p r pp pr e => ⟨(or3_sub pp (h1.2.2.2 j hj).2.2.1 pr e).1, (or3_sub pp (h1.2.2.2 j hj).2.2.1 pr e).2.2⟩) h0 h2 p2).mp e
    exact ⟨i, j, k, ⟨hik.1, hj, hik.2⟩, e2, o⟩
  · rintro ⟨i, j, k, ⟨hi, hj, hk⟩, e, o⟩
    exact ⟨j, hj, (ex2 (V := fun p r => oO (oO p (L1 (b1 + j))) r = lim) (fun p r pp pr e => ⟨(or3_sub pp (h1.2.2.2 j hj).2.2.1 pr e).1, (or3_sub pp (h1.2.2.2 j hj).2.2.1 pr e).2.2⟩) h0 h2 p2).mpr ⟨i, k, ⟨hi, hk⟩, e⟩, o⟩
theorem out2 (h0 : HPI lim L0 S0 G0 O0 b0 k0 D0) (h1 : HPI lim L1 S1 G1 O1 b1 k1 D1) (h2 : HPI lim L2 S2 G2 O2 b2 k2 D2) (p0 : Pins D0) (p1 : Pins D1) : (∃ z ∈ D2, (∃ x ∈ D0, ∃ y ∈ D1, oO (oO x.1 y.1) z.1 = lim) ∧ z.2.2 = 1) ↔ ∃ i j k, (i < k0 ∧ j < k1 ∧ k < k2) ∧ oO (oO (L0 (b0 + i)) (L1 (b1 + j))) (L2 (b2 + k)) = lim ∧ O2 (b2 + k) = 1 := by
  rw [(h2.2.1 (fun r => ∃ x ∈ D0, ∃ y ∈ D1, oO (oO x.1 y.1) r = lim) (fun r pr ⟨x, hx, y, hy, e⟩ => (or3_sub (p0 x hx) (p1 y hy) pr e).2.2)).2.1]
  constructor
  · rintro ⟨k, hk, e, o⟩
    obtain ⟨i, j, hij, e2⟩ := (ex2 (V := fun p q => oO (oO p q) (L2 (b2 + k)) = lim) (fun p q pp pq e => ⟨(or3_sub pp pq (h2.2.2.2 k hk).2.2.1 e).1, (or3_sub pp pq (h2.2.2.2 k hk).2.2.1 e).2.1⟩) h0 h1 p1).mp e
    exact ⟨i, j, k, ⟨hij.1, hij.2, hk⟩, e2, o⟩
  · rintro ⟨i, j, k, ⟨hi, hj, hk⟩, e, o⟩
    exact ⟨k, hk, (ex2 (V := fun p q => oO (oO p q) (L2 (b2 + k)) = lim) (fun p q pp pq e => ⟨(or3_sub pp pq (h2.2.2.2 k hk).2.2.1 e).1, (or3_sub pp pq (h2.2.2.2 k hk).2.2.1 e).2.1⟩) h0 h1 p1).mpr ⟨i, j, ⟨hi, hj⟩, e⟩, o⟩
end TR
