section CT
variable {d : Nat} {I : HI} {K : HI → Prop} {lim : Int} {k0 k1 k2 : Nat}
theorem cnt_j {i : Nat} (hb : HB I k0 k1 k2) (tot : sH (fun p => F1 lim (I 483) (I 484) (I 483) (I 484) 61 k1 122 k2 p) (I 483) (I 484) 0 k0 ≤ 1000000) (hi : i < k0) (h : ∀ X : HI, CST lim I k0 k1 k2 (i + 1) 0 0 X → J none mX2_count (d + 1) 0 0 18 [(0, vR 482), (1, vI lim), (2, vI ((i : Int) + 1))] [] (mk X) (PV K)) : ∀ (m j : Nat) (X : HI), j + m = k1 → CST lim I k0 k1 k2 i j 0 X → J none mX2_count (d + 1) 0 0 31 [(0, vR 482), (1, vI lim), (2, vI (i : Int)), (3, vI (61 + (j : Int)))] [] (mk X) (PV K)
  | 0, j, X, e, hX => by
    have f := hX.1.1
    have b2 := hb.2.1
    refine bk_X2_count_31 ?_
    rw [f 487 (by decide), hb.1.2.1]
    have ej : j = k1 := by omega
    refine ⟨by omega, fun _ => ⟨by omega, h X ?_⟩, fun q => by omega⟩
    subst ej
    obtain ⟨a1, a2, ⟨a3, a4⟩, a5, a6, a7, a8⟩ := hX
    refine ⟨a1, ?_, ⟨a3, fun l l0 l1 => by rw [ALLP_i]; exact a4 l l0 l1⟩, a5, by rw [ALLP_i]; exact a6, by rw [ALLP_i]; exact a7, by rw [ALLP_i]; exact a8⟩
    rw [a2]
    exact (NUM_i i).symm
  | m + 1, j, X, e, hX => by
    have ih := fun Y => cnt_j hb tot hi h m (j + 1) Y
    have f := hX.1.1
    have b2 := hb.2.1
    refine bk_X2_count_31 ?_
    rw [f 487 (by decide), hb.1.2.1, f 483 (by decide), Int.toNat_natCast, show (61 + (j : Int)).toNat = 61 + j from by omega]
    refine ⟨by omega, fun q => by omega, fun _ => ⟨by omega, by omega, ?_⟩⟩
    have := cnt_k (d := d) (K := K) (i := i) (j := j) hb tot hi (by omega) (fun Y hY => by
      have := ih Y (by omega) hY
      rw [show (61 : Int) + ((j + 1 : Nat) : Int) = 61 + (j : Int) + 1 from by omega] at this
      exact this) k2 0 X (by omega) hX
    exact this
theorem cnt_i (hb : HB I k0 k1 k2) (tot : sH (fun p => F1 lim (I 483) (I 484) (I 483) (I 484) 61 k1 122 k2 p) (I 483) (I 484) 0 k0 ≤ 1000000) (h : ∀ X : HI, CST lim I k0 k1 k2 k0 0 0 X → K X) : ∀ (m i : Nat) (X : HI), i + m = k0 → CST lim I k0 k1 k2 i 0 0 X → J none mX2_count (d + 1) 0 0 18 [(0, vR 482), (1, vI lim), (2, vI (i : Int))] [] (mk X) (PV K)
  | 0, i, X, e, hX => by
    refine bk_X2_count_18 ?_
    rw [hX.1.1 487 (by decide), hb.1.1]
    refine ⟨fun _ => PV_i (h X ?_), fun q => by omega⟩
    rw [show i = k0 from by omega] at hX
    exact hX
  | m + 1, i, X, e, hX => by
    refine bk_X2_count_18 ?_
    rw [hX.1.1 487 (by decide), hb.1.1]
    refine ⟨fun q => by omega, fun _ => ?_⟩
    have := cnt_j (d := d) (K := K) (i := i) hb tot (by omega) (fun Y hY => cnt_i hb tot h m (i + 1) Y (by omega) hY) k1 0 X (by omega) hX
    exact this
theorem bit_all : ∀ l : Nat, l < 16 → bit 65535 (l : Int) = true := by decide +kernel
theorem c2_count (hb : HB I k0 k1 k2) (tot : sH (fun p => F1 lim (I 483) (I 484) (I 483) (I 484) 61 k1 122 k2 p) (I 483) (I 484) 0 k0 ≤ 1000000) (h : ∀ X : HI, CST lim I k0 k1 k2 k0 0 0 X → K X) : CV mX2_count (d + 1) [vR 482, vI lim] I K := by
  refine bk_X2_count_0 (fun I1 e1 I2 e2 I3 e3 => ?_)
  have := cnt_i (d := d) (K := K) hb tot h k0 0 I3 (by omega) ?_
  · exact this
  · have f : CFr I I3 := ⟨fun k hk => by rw [e3, up_k hk, e2, up_k hk, e1, up_k hk], fun j h7 h8 h9 => by rw [e3, up_n (by omega), e2, up_n (by omega), e1, up_n (by omega)]⟩
    have i7 : I3 482 7 = 0 := by rw [e3, up_n (by omega), e2, up_n (by omega), e1, up_s]
    have i8 : I3 482 8 = 65535 := by rw [e3, up_n (by omega), e2, up_s]
    have i9 : I3 482 9 = 0 := by rw [e3, up_s]
    have nb : ∀ s, ∀ P : Nat → Nat → Nat → Prop, (bit 0 s = true ↔ ¬ ALLP k0 k1 k2 P 0 0 0) := fun s P => ⟨fun w => (by rw [bit_zero] at w; cases w), fun w => absurd ALLP_0 w⟩
    refine ⟨f, by rw [i7]; exact NUM_0.symm, ⟨by rw [i8]; exact ⟨by omega, by omega⟩, fun l l0 l1 => ?_⟩, by rw [i9]; omega, by rw [i9]; exact nb _ _, by rw [i9]; exact nb _ _, by rw [i9]; exact nb _ _⟩
    rw [i8]
    have := bit_all l.toNat (by omega)
    rw [Int.toNat_of_nonneg l0] at this
    exact ⟨fun _ => ALLP_0, fun _ => this⟩
/-- what filling the heaps of one saint changes -/
def HpF (s : Nat) (I X : HI) : Prop := (∀ k, (k < 483 ∨ 487 < k) → X k = I k) ∧ (∀ j, (j < 61 * s ∨ 61 * s + 61 ≤ j) → X 483 j = I 483 j ∧ X 484 j = I 484 j ∧ X 485 j = I 485 j ∧ X 486 j = I 486 j) ∧ (∀ j, j ≠ s → X 487 j = I 487 j)
theorem HpF_rfl (s : Nat) (I : HI) : HpF s I I := ⟨fun _ _ => rfl, fun _ _ => ⟨rfl, rfl, rfl, rfl⟩, fun _ _ => rfl⟩
theorem HpF_tr {s : Nat} {X Y : HI} (h : HpF s I X) (g : HpF s X Y) : HpF s I Y := by
  refine ⟨fun k hk => by rw [g.1 k hk, h.1 k hk], fun j hj => ?_, fun j hj => by rw [g.2.2 j hj, h.2.2 j hj]⟩
  obtain ⟨a1, a2, a3, a4⟩ := h.2.1 j hj
  obtain ⟨b1, b2, b3, b4⟩ := g.2.1 j hj
  exact ⟨b1.trans a1, b2.trans a2, b3.trans a3, b4.trans a4⟩
def HPs (lim : Int) (I : HI) (s k : Nat) (D : List Chd) : Prop := I 487 s = k ∧ HPI lim (I 483) (I 484) (I 485) (I 486) (61 * s) k D
theorem oA_self {g : Int} (h : pin g) : oA g g = g := by
  obtain ⟨a, rfl⟩ := Int.eq_ofNat_of_zero_le h.1
  have := h.2
  rw [oA_nat a a (by omega) (by omega), Nat.and_self]
theorem heap_lp {s k : Nat} {D : List Chd} {x : Chd} (s3 : s < 3) (dl : D.length ≤ 60) (hp : HPs lim I s k D) (pl : pin x.1) (pg : pin x.2.1) (po : x.2.2 = 0 ∨ x.2.2 = 1) (h : ∀ (Y : HI) (k' : Nat), HpF s I Y → HPs lim Y s k' (D ++ [x]) → K Y) : ∀ (m i : Nat), i + m = k → J none mX2_heap (d + 1) 0 0 10 [(0, vR 482), (1, vI (s : Int)), (2, vI x.1), (3, vI x.2.1), (4, vI x.2.2), (5, vI ((s : Int) * 61)), (6, vI ((s : Int) * 61 + (i : Int)))] [] (mk I) (PV K) := by
  obtain ⟨h7, hI⟩ := hp
  have kl := hI.2.2.1
  have pe : ∀ i : Nat, ((s : Int) * 61 + (i : Int)).toNat = 61 * s + i := fun i => by omega
  -- at its place
  have at41 : ∀ i : Nat, i ≤ k → (i < k → I 483 (61 * s + i) = x.1) → J none mX2_heap (d + 1) 0 0 41 [(0, vR 482), (1, vI (s : Int)), (2, vI x.1), (3, vI x.2.1), (4, vI x.2.2), (5, vI ((s : Int) * 61)), (6, vI ((s : Int) * 61 + (i : Int)))] [] (mk I) (PV K) := by
    intro i ik hL
    refine bk_X2_heap_41 ?_
    rw [pe, Int.toNat_natCast, h7]
    refine ⟨by omega, by omega, fun q => ?_, fun q => ?_⟩
    · have ik' : i < k := by omega
      obtain ⟨q1, q2, q3, q4⟩ := hI.2.2.2 i ik'
      refine ⟨by omega, by omega, by omega, fun I1 e1 => ⟨by omega, by omega, fun I2 e2 => ⟨by omega, by omega, ?_, fun I3 e3 => PV_i ?_⟩⟩⟩
      · have : I2 486 (61 * s + i) = I 486 (61 * s + i) := by rw [e2, up_k (by decide), e1, up_k (by decide)]
        rw [this]
        exact (oO_o q4 po).1
      · have f : ∀ c, c ≠ 484 → c ≠ 485 → c ≠ 486 → I3 c = I c := fun c h1 h2 h3 => by rw [e3, up_k h3, e2, up_k h2, e1, up_k h1]
        have f84 : ∀ j, j ≠ 61 * s + i → I3 484 j = I 484 j := fun j hj => by rw [e3, up_k (by decide), e2, up_k (by decide), e1, up_n (by omega)]
        have f85 : ∀ j, j ≠ 61 * s + i → I3 485 j = I 485 j := fun j hj => by rw [e3, up_k (by decide), e2, up_n (by omega), e1, up_k (by decide)]
        have f86 : ∀ j, j ≠ 61 * s + i → I3 486 j = I 486 j := fun j hj => by rw [e3, up_n (by omega), e2, up_k (by decide), e1, up_k (by decide)]
        have s84 : I3 484 (61 * s + i) = I 484 (61 * s + i) + 1 := by rw [e3, up_k (by decide), e2, up_k (by decide), e1, up_s]
        have s85 : I3 485 (61 * s + i) = oA (I 485 (61 * s + i)) x.2.1 := by rw [e3, up_k (by decide), e2, up_s, e1, up_k (by decide)]
        have s86 : I3 486 (61 * s + i) = oO (I 486 (61 * s + i)) x.2.2 := by rw [e3, up_s, e2, up_k (by decide), e1, up_k (by decide)]
        refine h I3 k ⟨fun c hc => f c (by omega) (by omega) (by omega), fun j hj => ⟨by rw [f 483 (by decide) (by decide) (by decide)], f84 j (by omega), f85 j (by omega), f86 j (by omega)⟩, fun j _ => by rw [f 487 (by decide) (by decide) (by decide)]⟩ ⟨by rw [f 487 (by decide) (by decide) (by decide)]; exact h7, ?_⟩
        rw [f 483 (by decide) (by decide) (by decide)]
        exact HPI_old hI ik' (hL ik') pg po s84 s85 s86 (fun j hj ne => ⟨f84 _ (by omega), f85 _ (by omega), f86 _ (by omega)⟩)
    · have ei : i = k := by omega
      subst ei
      refine ⟨by omega, by omega, by omega, fun I4 e4 => ⟨by omega, fun I5 e5 => ⟨by omega, fun I6 e6 => ⟨by omega, fun I7 e7 => ⟨by omega, Or.inl rfl, fun I8 e8 => ?_⟩⟩⟩⟩⟩
      have v84 : I8 484 (61 * s + i) = 0 := by rw [e8, up_k (by decide), e7, up_k (by decide), e6, up_s]
      rw [v84]
      refine ⟨by omega, by omega, by omega, fun I9 e9 => ⟨by omega, by omega, fun I10 e10 => ⟨by omega, by omega, ?_, fun I11 e11 => PV_i ?_⟩⟩⟩
      · have v86 : I10 486 (61 * s + i) = 0 := by rw [e10, up_k (by decide), e9, up_k (by decide), e8, up_s]
        rw [v86]
        exact (oO_o (Or.inl rfl) po).1
      · have v85 : I9 485 (61 * s + i) = x.2.1 := by rw [e9, up_k (by decide), e8, up_k (by decide), e7, up_s]
        have v86 : I10 486 (61 * s + i) = 0 := by rw [e10, up_k (by decide), e9, up_k (by decide), e8, up_s]
        rw [v85, oA_self pg] at e10
        have o0 : oO 0 x.2.2 = x.2.2 := by
          rcases po with w | w <;> rw [w] <;> decide +kernel
        rw [v86, o0] at e11
        have f : ∀ c, (c < 483 ∨ 487 < c) → I11 c = I c := fun c hc => by rw [e11, up_k (by omega), e10, up_k (by omega), e9, up_k (by omega), e8, up_k (by omega), e7, up_k (by omega), e6, up_k (by omega), e5, up_k (by omega), e4, up_k (by omega)]
        have f83 : ∀ j, j ≠ 61 * s + i → I11 483 j = I 483 j := fun j hj => by rw [e11, up_k (by decide), e10, up_k (by decide), e9, up_k (by decide), e8, up_k (by decide), e7, up_k (by decide), e6, up_k (by decide), e5, up_n (by omega), e4, up_k (by decide)]
        have f84 : ∀ j, j ≠ 61 * s + i → I11 484 j = I 484 j := fun j hj => by rw [e11, up_k (by decide), e10, up_k (by decide), e9, up_n (by omega), e8, up_k (by decide), e7, up_k (by decide), e6, up_n (by omega), e5, up_k (by decide), e4, up_k (by decide)]
        have f85 : ∀ j, j ≠ 61 * s + i → I11 485 j = I 485 j := fun j hj => by rw [e11, up_k (by decide), e10, up_n (by omega), e9, up_k (by decide), e8, up_k (by decide), e7, up_n (by omega), e6, up_k (by decide), e5, up_k (by decide), e4, up_k (by decide)]
        have f86 : ∀ j, j ≠ 61 * s + i → I11 486 j = I 486 j := fun j hj => by rw [e11, up_n (by omega), e10, up_k (by decide), e9, up_k (by decide), e8, up_n (by omega), e7, up_k (by decide), e6, up_k (by decide), e5, up_k (by decide), e4, up_k (by decide)]
        have f87 : ∀ j, j ≠ s → I11 487 j = I 487 j := fun j hj => by rw [e11, up_k (by decide), e10, up_k (by decide), e9, up_k (by decide), e8, up_k (by decide), e7, up_k (by decide), e6, up_k (by decide), e5, up_k (by decide), e4, up_n (by omega)]
        have s83 : I11 483 (61 * s + i) = x.1 := by rw [e11, up_k (by decide), e10, up_k (by decide), e9, up_k (by decide), e8, up_k (by decide), e7, up_k (by decide), e6, up_k (by decide), e5, up_s]
        have s84 : I11 484 (61 * s + i) = 1 := by rw [e11, up_k (by decide), e10, up_k (by decide), e9, up_s]; rfl
        have s85 : I11 485 (61 * s + i) = x.2.1 := by rw [e11, up_k (by decide), e10, up_s]
        have s86 : I11 486 (61 * s + i) = x.2.2 := by rw [e11, up_s]
        have s87 : I11 487 s = ((i + 1 : Nat) : Int) := by rw [e11, up_k (by decide), e10, up_k (by decide), e9, up_k (by decide), e8, up_k (by decide), e7, up_k (by decide), e6, up_k (by decide), e5, up_k (by decide), e4, up_s]; omega
        exact h I11 (i + 1) ⟨f, fun j hj => ⟨f83 j (by omega), f84 j (by omega), f85 j (by omega), f86 j (by omega)⟩, f87⟩ ⟨s87, HPI_new hI pl pg po s83 s84 s85 s86 (fun j hj => ⟨f83 _ (by omega), f84 _ (by omega), f85 _ (by omega), f86 _ (by omega)⟩)⟩
  intro m
  induction m with
  | zero =>
    intro i e
    refine bk_X2_heap_10 ?_
    rw [Int.toNat_natCast, h7]
    exact ⟨by omega, by omega, fun _ => at41 i (by omega) (fun w => by omega), fun q => by omega⟩
  | succ m ih =>
    intro i e
    refine bk_X2_heap_10 ?_
    rw [Int.toNat_natCast, h7, pe]
    refine ⟨by omega, by omega, fun q => by omega, fun _ => ⟨by omega, fun q => at41 i (by omega) (fun _ => q), fun q => ⟨by omega, ?_⟩⟩⟩
    have := ih (i + 1) (by omega)
    rw [show (s : Int) * 61 + ((i + 1 : Nat) : Int) = (s : Int) * 61 + (i : Int) + 1 from by omega] at this
    exact this
theorem c2_heap {s k : Nat} {D : List Chd} {x : Chd} (s3 : s < 3) (dl : D.length ≤ 60) (hp : HPs lim I s k D) (pl : pin x.1) (pg : pin x.2.1) (po : x.2.2 = 0 ∨ x.2.2 = 1) (h : ∀ (Y : HI) (k' : Nat), HpF s I Y → HPs lim Y s k' (D ++ [x]) → K Y) : CV mX2_heap (d + 1) [vR 482, vI (s : Int), vI x.1, vI x.2.1, vI x.2.2] I K := by
  refine bk_X2_heap_0 ⟨by omega, ?_⟩
  have := heap_lp (d := d) s3 dl hp pl pg po h k 0 (by omega)
  rw [show (s : Int) * 61 + ((0 : Nat) : Int) = (s : Int) * 61 from by omega] at this
  exact this
end CT
