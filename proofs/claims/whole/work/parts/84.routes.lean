theorem pop_set : ∀ k n p : Nat, p < k → n.testBit p = false → pop k (n ||| 2 ^ p) = pop k n + 1
  | 0, n, p, h, hb => by omega
  | k + 1, n, p, h, hb => by
    have ed : (n ||| 2 ^ p) / 2 = n / 2 ||| 2 ^ p / 2 := Nat.or_div_two
    have em : (n ||| 2 ^ p) % 2 = (n % 2 ||| 2 ^ p % 2) := by
      have := Nat.or_mod_two_pow (a := n) (b := 2 ^ p) (n := 1)
      simpa using this
    cases p with
    | zero =>
      have h0 : n % 2 = 0 := by
        rw [Nat.testBit_zero] at hb
        have := of_decide_eq_false hb
        omega
      simp only [pop]
      rw [ed, em, h0]
      simp
      omega
    | succ p =>
      have e2 : 2 ^ (p + 1) / 2 = 2 ^ p := by rw [Nat.pow_succ]; omega
      have e3 : 2 ^ (p + 1) % 2 = 0 := by rw [Nat.pow_succ]; omega
      have ih := pop_set k (n / 2) p (by omega) (by rw [Nat.testBit_succ] at hb; exact hb)
      simp only [pop]
      rw [ed, em, e2, e3, ih]
      simp
      omega
theorem pop_sub : ∀ k a b : Nat, (∀ i, a.testBit i = true → b.testBit i = true) → a < 2 ^ k → b < 2 ^ k → pop k a ≤ pop k b ∧ (pop k a = pop k b → a = b)
  | 0, a, b, h, ha, hb => by
    simp at ha hb
    subst ha hb
    exact ⟨Nat.le_refl _, fun _ => rfl⟩
  | k + 1, a, b, h, ha, hb => by
    have ih := pop_sub k (a / 2) (b / 2) (fun i hi => by
      rw [← Nat.testBit_succ] at hi ⊢
      exact h _ hi) (by rw [Nat.pow_succ] at ha; omega) (by rw [Nat.pow_succ] at hb; omega)
    have h0 := h 0
    rw [Nat.testBit_zero, Nat.testBit_zero] at h0
    simp only [decide_eq_true_eq] at h0
    simp only [pop]
    have := ih.2
    refine ⟨by omega, fun e => ?_⟩
    have e1 := ih.2 (by omega)
    omega
/-- the parish of a corner -/
def par (I : HI) (x : Int) : Int := I 520 (10 + x).toNat
def pb (I : HI) (x : Int) : Int := oSl 1 (par I x)
def opn (I : HI) (c s x : Int) : Bool := decide (laneM I c x ≠ -1) && !bit (I 489 63) (laneM I c x) && !bit s (par I x)
def exA (g : Int → List (List Int)) (p : Int → Bool) : Nat → Int → List (List Int)
  | 0, _ => []
  | n + 1, x => (if p x then (g x).map (fun t => x :: t) else []) ++ exA g p n (x + 1)
/-- the routes from a corner on, by what has been seen -/
def exD (I : HI) : Nat → Int → Int → List (List Int)
  | 0, _, _ => []
  | f + 1, c, s => if s = parM I then [[]] else exA (fun x => exD I f x (oO s (pb I x))) (opn I c s) (I 518 5).toNat 0
def sn (I : HI) : Int → List Int → Int
  | s, [] => s
  | s, x :: p => sn I (oO s (pb I x)) p
theorem sn_app (I : HI) : ∀ (p q : List Int) (s : Int), sn I s (p ++ q) = sn I (sn I s p) q
  | [], q, s => rfl
  | x :: p, q, s => sn_app I p q (oO s (pb I x))
theorem pb_rng {I : HI} (hp : CPa I) {x : Int} (x0 : 0 ≤ x) (x1 : x < I 518 5) : 1 ≤ par I x ∧ par I x ≤ 9 ∧ 0 < pb I x ∧ pb I x < 1024 := by
  obtain ⟨_, h1, h2⟩ := hp x x0 x1
  have := p2_rng (k := par I x) 10 (by omega) (by unfold par; omega) (by unfold par; omega)
  exact ⟨h1, h2, this.1, this.2⟩
theorem bit_pb {I : HI} (hp : CPa I) {x j s : Int} (x0 : 0 ≤ x) (x1 : x < I 518 5) (s0 : 0 ≤ s) (s1 : s < 1024) (j0 : 0 ≤ j) : bit (oO s (pb I x)) j = (bit s j || decide (j = par I x)) := by
  obtain ⟨g1, g2, g3, g4⟩ := pb_rng hp x0 x1
  rw [bit_or s0 (by omega) (by omega) (by omega)]
  unfold pb
  rw [bit_p2 (by omega) (by omega) j0]
theorem sn_rng {I : HI} (hp : CPa I) : ∀ (p : List Int) (s : Int), (∀ x ∈ p, 0 ≤ x ∧ x < I 518 5) → 0 ≤ s → s < 1024 → 0 ≤ sn I s p ∧ sn I s p < 1024
  | [], s, h, h0, h1 => ⟨h0, h1⟩
  | x :: p, s, h, h0, h1 => by
    obtain ⟨g1, g2, g3, g4⟩ := pb_rng hp (h x List.mem_cons_self).1 (h x List.mem_cons_self).2
    have r := or_rng 10 (by omega) (x := s) (y := pb I x) h0 (by omega) (by omega) (by omega)
    exact sn_rng hp p _ (fun y hy => h y (List.mem_cons_of_mem _ hy)) r.1 (by omega)
theorem parS_bit {I : HI} (hc : CN I) (hp : CPa I) {j : Int} (j0 : 0 ≤ j) : ∀ (n : Nat) (c a : Int), 0 ≤ c → c + n ≤ I 518 5 → 0 ≤ a → a < 1024 → (bit (parS (I 520) n c a) j = true ↔ bit a j = true ∨ ∃ k, c ≤ k ∧ k < c + n ∧ par I k = j)
  | 0, c, a, c0, c1, a0, a1 => by
    refine ⟨Or.inl, fun z => z.elim id (fun ⟨k, k0, k1, _⟩ => by omega)⟩
  | n + 1, c, a, c0, c1, a0, a1 => by
    obtain ⟨g1, g2, g3, g4⟩ := pb_rng hp c0 (by omega)
    have r := or_rng 10 (by omega) (x := a) (y := pb I c) a0 (by omega) (by omega) (by omega)
    have ih := parS_bit hc hp j0 n (c + 1) (oO a (pb I c)) (by omega) (by omega) r.1 (by omega)
    show bit (parS (I 520) n (c + 1) (oO a (pb I c))) j = true ↔ _
    rw [ih, bit_pb hp c0 (by omega) a0 a1 j0, Bool.or_eq_true, decide_eq_true_eq]
    constructor
    · rintro ((z | z) | ⟨k, k0, k1, k2⟩)
      · exact Or.inl z
      · exact Or.inr ⟨c, by omega, by omega, z.symm⟩
      · exact Or.inr ⟨k, by omega, by omega, k2⟩
    · rintro (z | ⟨k, k0, k1, k2⟩)
      · exact Or.inl (Or.inl z)
      · by_cases e : k = c
        · subst e
          exact Or.inl (Or.inr k2.symm)
        · exact Or.inr ⟨k, by omega, by omega, k2⟩
theorem parM_bit {I : HI} (hc : CN I) (hp : CPa I) {j : Int} (j0 : 0 ≤ j) : bit (parM I) j = true ↔ ∃ k, 0 ≤ k ∧ k < I 518 5 ∧ par I k = j := by
  have n5 := hc.2.1
  unfold parM
  rw [parS_bit hc hp j0 _ 0 0 (by omega) (by omega) (by omega) (by omega), bit_zero]
  refine ⟨fun z => z.elim (fun z => by cases z) (fun ⟨k, k0, k1, k2⟩ => ⟨k, k0, by omega, k2⟩), fun ⟨k, k0, k1, k2⟩ => Or.inr ⟨k, k0, by omega, k2⟩⟩
theorem sn_sub {I : HI} (hc : CN I) (hp : CPa I) : ∀ (p : List Int) (s : Int), (∀ x ∈ p, 0 ≤ x ∧ x < I 518 5) → 0 ≤ s → s < 1024 → (∀ j, 0 ≤ j → bit s j = true → bit (parM I) j = true) → ∀ j, 0 ≤ j → bit (sn I s p) j = true → bit (parM I) j = true
  | [], s, h, h0, h1, hs => hs
  | x :: p, s, h, h0, h1, hs => by
    have hx := h x List.mem_cons_self
    obtain ⟨g1, g2, g3, g4⟩ := pb_rng hp hx.1 hx.2
    have r := or_rng 10 (by omega) (x := s) (y := pb I x) h0 (by omega) (by omega) (by omega)
    refine sn_sub hc hp p _ (fun y hy => h y (List.mem_cons_of_mem _ hy)) r.1 (by omega) (fun j j0 hj => ?_)
    rw [bit_pb hp hx.1 hx.2 h0 h1 j0, Bool.or_eq_true, decide_eq_true_eq] at hj
    rcases hj with hj | hj
    · exact hs j j0 hj
    · exact (parM_bit hc hp j0).mpr ⟨x, hx.1, hx.2, hj.symm⟩
/-- a row of corners, a parish each -/
def PK (I : HI) (p : List Int) : Prop := (∀ x ∈ p, 0 ≤ x ∧ x < I 518 5) ∧ pop 16 (sn I 0 p).toNat = p.length
theorem bit_tb {a b : Int} (h : ∀ j : Int, 0 ≤ j → bit a j = true → bit b j = true) (i : Nat) (g : a.toNat.testBit i = true) : b.toNat.testBit i = true := by
  have := h (i : Int) (by omega)
  unfold bit at this
  rw [Int.toNat_natCast] at this
  exact this g
theorem parM_pop {I : HI} (hc : CN I) (hp : CPa I) : pop 16 (parM I).toNat ≤ 9 := by
  have r := parM_rng hc hp
  have := pop_sub 16 (parM I).toNat 1022 (fun i hi => ?_) (by omega) (by omega)
  · have e : pop 16 1022 = 9 := by decide
    omega
  · refine bit_tb (b := 1022) (fun j j0 hj => ?_) i hi
    obtain ⟨k, k0, k1, k2⟩ := (parM_bit hc hp j0).mp hj
    obtain ⟨g1, g2, _⟩ := pb_rng hp k0 k1
    have : ∀ n : Nat, n < 10 → 1 ≤ n → (1022 : Nat).testBit n = true := by decide
    unfold bit
    exact this _ (by omega) (by omega)
theorem PK_le {I : HI} (hc : CN I) (hp : CPa I) {p : List Int} (h : PK I p) : p.length ≤ pop 16 (parM I).toNat ∧ p.length ≤ 9 ∧ (p.length = pop 16 (parM I).toNat ↔ sn I 0 p = parM I) := by
  have r := sn_rng hp p 0 h.1 (by omega) (by omega)
  have rp := parM_rng hc hp
  have g := pop_sub 16 (sn I 0 p).toNat (parM I).toNat (fun i hi => bit_tb (sn_sub hc hp p 0 h.1 (by omega) (by omega) (fun j j0 z => by rw [bit_zero] at z; cases z)) i hi) (by omega) (by omega)
  have p9 := parM_pop hc hp
  rw [h.2] at g
  refine ⟨g.1, by omega, fun e => ?_, fun e => ?_⟩
  · have := g.2 e
    omega
  · rw [← e, h.2]
theorem PK_snoc {I : HI} (hp : CPa I) {p : List Int} {x : Int} (h : PK I p) (x0 : 0 ≤ x) (x1 : x < I 518 5) (hb : bit (sn I 0 p) (par I x) = false) : PK I (p ++ [x]) := by
  have r := sn_rng hp p 0 h.1 (by omega) (by omega)
  obtain ⟨g1, g2, g3, g4⟩ := pb_rng hp x0 x1
  refine ⟨fun y hy => ?_, ?_⟩
  · rcases List.mem_append.mp hy with hy | hy
    · exact h.1 y hy
    · rw [List.mem_singleton.mp hy]
      exact ⟨x0, x1⟩
  · rw [sn_app]
    show pop 16 (oO (sn I 0 p) (pb I x)).toNat = _
    have e : (oO (sn I 0 p) (pb I x)).toNat = (sn I 0 p).toNat ||| 2 ^ (par I x).toNat := by
      rw [oO_or r.1 (by omega) (by omega) (by omega), Int.toNat_natCast]
      unfold pb
      rw [oSl_1 (by omega) (by omega), Int.toNat_natCast]
    rw [e, pop_set 16 _ _ (by omega) hb, h.2, List.length_append, List.length_singleton]
theorem PK_1 {I : HI} (hp : CPa I) {x : Int} (x0 : 0 ≤ x) (x1 : x < I 518 5) : PK I [x] := by
  have : PK I [] := ⟨fun y hy => (by cases hy), (by show pop 16 0 = 0; decide)⟩
  exact PK_snoc hp this x0 x1 (bit_zero _)
theorem exA_nil {g : Int → List (List Int)} {p : Int → Bool} (h : ∀ x, g x = []) : ∀ (n : Nat) (x : Int), exA g p n x = []
  | 0, x => rfl
  | n + 1, x => by
    unfold exA
    rw [h x, exA_nil h n]
    simp
theorem exA_mem {g : Int → List (List Int)} {p : Int → Bool} {t : List Int} : ∀ (n : Nat) (x : Int), t ∈ exA g p n x → ∃ y u, x ≤ y ∧ y < x + n ∧ p y = true ∧ u ∈ g y ∧ t = y :: u
  | 0, x, h => by cases h
  | n + 1, x, h => by
    unfold exA at h
    rcases List.mem_append.mp h with h | h
    · by_cases hp : p x = true
      · rw [if_pos hp] at h
        obtain ⟨u, hu, e⟩ := List.mem_map.mp h
        exact ⟨x, u, by omega, by omega, hp, hu, e.symm⟩
      · rw [if_neg hp] at h
        cases h
    · obtain ⟨y, u, h1, h2, h3⟩ := exA_mem n (x + 1) h
      exact ⟨y, u, by omega, by omega, h3⟩
theorem opn_spec {I : HI} {c s x : Int} : opn I c s x = true ↔ laneM I c x ≠ -1 ∧ bit (I 489 63) (laneM I c x) = false ∧ bit s (par I x) = false := by
  unfold opn
  simp [and_assoc]
theorem exD_ok {I : HI} (hc : CN I) : ∀ (f : Nat) (c s : Int) (t : List Int), t ∈ exD I f c s → okC I c t ∧ t.length < f ∧ (∀ x ∈ t, 0 ≤ x ∧ x < I 518 5)
  | 0, c, s, t, h => by cases h
  | f + 1, c, s, t, h => by
    have n5 := hc.2.1
    unfold exD at h
    by_cases e : s = parM I
    · rw [if_pos e] at h
      rw [List.mem_singleton.mp h]
      exact ⟨trivial, by simp, fun x hx => by cases hx⟩
    · rw [if_neg e] at h
      obtain ⟨y, u, y0, y1, y2, y3, rfl⟩ := exA_mem _ _ h
      have ih := exD_ok hc f y _ u y3
      refine ⟨?_, by simp only [List.length_cons]; omega, fun x hx => ?_⟩
      · unfold okC
        rw [if_neg (by omega)]
        exact ⟨⟨by omega, by omega, (opn_spec.mp y2).1⟩, ih.1⟩
      · rcases List.mem_cons.mp hx with rfl | hx
        · omega
        · exact ih.2.2 x hx
/-- the codes of a saint's routes -/
def rts (I : HI) (s : Int) : List (List Int) := (exD I 10 (hm I s) (pb I (hm I s))).take 20
theorem exA_fr {g g' : Int → List (List Int)} {p p' : Int → Bool} (hg : ∀ x, g x = g' x) (hp : ∀ x, p x = p' x) : ∀ (n : Nat) (x : Int), exA g p n x = exA g' p' n x
  | 0, x => rfl
  | n + 1, x => by
    unfold exA
    rw [hg, hp, exA_fr hg hp n]
theorem exD_fr {I X : HI} (f : CF I X) (sh : X 489 63 = I 489 63) : ∀ (n : Nat) (c s : Int), exD X n c s = exD I n c s
  | 0, c, s => rfl
  | n + 1, c, s => by
    have e520 := f.1 520 (by omega)
    have e518 := f.1 518 (by omega)
    have ep : parM X = parM I := by
      unfold parM
      rw [e520, e518]
    have eq : ∀ x, par X x = par I x := fun x => by
      unfold par
      rw [e520]
    unfold exD
    rw [ep, e518]
    congr 1
    refine exA_fr (fun x => ?_) (fun x => ?_) _ _
    · rw [exD_fr f sh n]
      unfold pb
      rw [eq]
    · unfold opn
      rw [sh, eq, laneM_fr e518 (f.1 521 (by omega))]
theorem rts_fr {I X : HI} (f : CF I X) (sh : X 489 63 = I 489 63) (s : Int) : rts X s = rts I s := by
  unfold rts pb par
  rw [exD_fr f sh, hm_cf f, f.1 520 (by omega)]
