/-- the heaps of the class stand -/
def HB (I : HI) (k0 k1 k2 : Nat) : Prop := (I 487 0 = k0 ∧ I 487 1 = k1 ∧ I 487 2 = k2) ∧ (k0 ≤ 61 ∧ k1 ≤ 61 ∧ k2 ≤ 61) ∧ (∀ i, i < k0 → (1 ≤ I 484 (0 + i) ∧ I 484 (0 + i) ≤ 61) ∧ pin (I 485 (0 + i)) ∧ pin (I 483 (0 + i)) ∧ (I 486 (0 + i) = 0 ∨ I 486 (0 + i) = 1)) ∧ (∀ i, i < k1 → (1 ≤ I 484 (61 + i) ∧ I 484 (61 + i) ≤ 61) ∧ pin (I 485 (61 + i)) ∧ pin (I 483 (61 + i)) ∧ (I 486 (61 + i) = 0 ∨ I 486 (61 + i) = 1)) ∧ (∀ i, i < k2 → (1 ≤ I 484 (122 + i) ∧ I 484 (122 + i) ≤ 61) ∧ pin (I 485 (122 + i)) ∧ pin (I 483 (122 + i)) ∧ (I 486 (122 + i) = 0 ∨ I 486 (122 + i) = 1))
def VLD (lim : Int) (L : Nat → Int) (i j k : Nat) : Prop := oO (oO (L (0 + i)) (L (61 + j))) (L (122 + k)) = lim
def GP (lim : Int) (L G : Nat → Int) (l : Int) (i j k : Nat) : Prop := VLD lim L i j k → (bit (G (0 + i)) l = true ∨ bit (G (61 + j)) l = true) ∨ bit (G (122 + k)) l = true
def OP0 (lim : Int) (L O : Nat → Int) (i j k : Nat) : Prop := VLD lim L i j k → O (0 + i) ≠ 1
def OP1 (lim : Int) (L O : Nat → Int) (i j k : Nat) : Prop := VLD lim L i j k → O (61 + j) ≠ 1
def OP2 (lim : Int) (L O : Nat → Int) (i j k : Nat) : Prop := VLD lim L i j k → O (122 + k) ≠ 1
def CFr (I X : HI) : Prop := (∀ k, k ≠ 482 → X k = I k) ∧ (∀ j, j ≠ 7 → j ≠ 8 → j ≠ 9 → X 482 j = I 482 j)
noncomputable def NMc (lim : Int) (L S : Nat → Int) (k1 k2 i j k : Nat) : Int := NUM lim L S L S L S 0 61 k1 122 k2 i j k
def CST (lim : Int) (I : HI) (k0 k1 k2 i j k : Nat) (X : HI) : Prop := CFr I X ∧ X 482 7 = NMc lim (I 483) (I 484) k1 k2 i j k ∧ (pin (X 482 8) ∧ ∀ l : Int, 0 ≤ l → l < 16 → (bit (X 482 8) l = true ↔ ALLP k0 k1 k2 (GP lim (I 483) (I 485) l) i j k)) ∧ ((0 ≤ X 482 9 ∧ X 482 9 < 8) ∧ (bit (X 482 9) 0 = true ↔ ¬ ALLP k0 k1 k2 (OP0 lim (I 483) (I 486)) i j k) ∧ (bit (X 482 9) 1 = true ↔ ¬ ALLP k0 k1 k2 (OP1 lim (I 483) (I 486)) i j k) ∧ (bit (X 482 9) 2 = true ↔ ¬ ALLP k0 k1 k2 (OP2 lim (I 483) (I 486)) i j k))
theorem or_8 : ∀ a : Nat, a < 8 → ∀ b : Nat, b < 8 → 0 ≤ oO (a : Int) (b : Int) ∧ oO (a : Int) (b : Int) < 8 := by decide +kernel
theorem oO_pin {x y : Int} (hx : pin x) (hy : pin y) : pin (oO x y) := by
  unfold pin at hx hy ⊢
  rw [oO_or (by omega) (by omega) (by omega) (by omega)]
  have : x.toNat ||| y.toNat < 2 ^ 16 := Nat.or_lt_two_pow (by omega) (by omega)
  omega
section CT
variable {d : Nat} {I : HI} {K : HI → Prop} {lim : Int} {k0 k1 k2 : Nat}
theorem cnt_k {i j : Nat} (hb : HB I k0 k1 k2) (tot : sH (fun p => F1 lim (I 483) (I 484) (I 483) (I 484) 61 k1 122 k2 p) (I 483) (I 484) 0 k0 ≤ 1000000) (hi : i < k0) (hj : j < k1) (h : ∀ X : HI, CST lim I k0 k1 k2 i (j + 1) 0 X → J none mX2_count (d + 1) 0 0 31 [(0, vR 482), (1, vI lim), (2, vI (i : Int)), (3, vI (61 + (j : Int) + 1))] [] (mk X) (PV K)) : ∀ (m k : Nat) (X : HI), k + m = k2 → CST lim I k0 k1 k2 i j k X → J none mX2_count (d + 1) 0 0 63 [(0, vR 482), (1, vI lim), (2, vI (i : Int)), (3, vI (61 + (j : Int))), (4, vI (oO (I 483 i) (I 483 (61 + j)))), (5, vI (122 + (k : Int)))] [] (mk X) (PV K)
  | 0, k, X, e, hX => by
    have f := hX.1.1
    have b2 := hb.2.1
    refine bk_X2_count_63 ?_
    rw [f 487 (by decide), hb.1.2.2]
    have ek : k = k2 := by omega
    refine ⟨by omega, fun _ => ⟨by omega, h X ?_⟩, fun q => by omega⟩
    subst ek
    obtain ⟨a1, a2, ⟨a3, a4⟩, a5, a6, a7, a8⟩ := hX
    refine ⟨a1, ?_, ⟨a3, fun l l0 l1 => by rw [ALLP_j]; exact a4 l l0 l1⟩, a5, by rw [ALLP_j]; exact a6, by rw [ALLP_j]; exact a7, by rw [ALLP_j]; exact a8⟩
    rw [a2]
    exact (NUM_j i j).symm
  | m + 1, k, X, e, hX => by
    have ih := fun Y => cnt_k hb tot hi hj h m (k + 1) Y
    have f := hX.1.1
    have b2 := hb.2.1
    have hk : k < k2 := by omega
    obtain ⟨⟨s0, g0, l0, o0⟩, ⟨s1, g1, l1, o1⟩, ⟨s2, g2, l2, o2⟩⟩ := And.intro (hb.2.2.1 i hi) (And.intro (hb.2.2.2.1 j hj) (hb.2.2.2.2 k hk))
    have e1 : (61 + (j : Int)).toNat = 61 + j := by omega
    have e2 : (122 + (k : Int)).toNat = 122 + k := by omega
    have z0 : 0 + i = i := Nat.zero_add i
    rw [z0] at s0 g0 l0 o0
    refine bk_X2_count_63 ?_
    rw [f 487 (by decide), hb.1.2.2, f 483 (by decide), f 484 (by decide), Int.toNat_natCast, e1, e2]
    have nx : ∀ Y : HI, CST lim I k0 k1 k2 i j (k + 1) Y → J none mX2_count (d + 1) 0 0 63 [(0, vR 482), (1, vI lim), (2, vI (i : Int)), (3, vI (61 + (j : Int))), (4, vI (oO (I 483 i) (I 483 (61 + j)))), (5, vI (122 + (k : Int) + 1))] [] (mk Y) (PV K) := fun Y hY => by
      have := ih Y (by omega) hY
      rw [show (122 : Int) + ((k + 1 : Nat) : Int) = 122 + (k : Int) + 1 from by omega] at this
      exact this
    obtain ⟨a1, a2, ⟨a3, a4⟩, a5, a6, a7, a8⟩ := hX
    refine ⟨by omega, fun q => by omega, fun _ => ⟨by omega, fun q => ⟨by omega, nx X ?_⟩, fun q => ?_⟩⟩
    · have nv : ¬ VLD lim (I 483) i j k := by
        unfold VLD
        rw [z0]
        exact q
      refine ⟨a1, ?_, ⟨a3, fun l l0 l1 => ?_⟩, a5, ?_, ?_, ?_⟩
      · rw [a2]
        unfold NMc
        rw [NUM_k, chi_0 nv, Int.mul_zero, Int.add_zero]
      · rw [ALLP_k hi hj hk, a4 l l0 l1]
        exact ⟨fun w => ⟨w, fun v => absurd v nv⟩, fun w => w.1⟩
      · rw [ALLP_k hi hj hk, a6]
        exact ⟨fun w z => w z.1, fun w z => w ⟨z, fun v => absurd v nv⟩⟩
      · rw [ALLP_k hi hj hk, a7]
        exact ⟨fun w z => w z.1, fun w z => w ⟨z, fun v => absurd v nv⟩⟩
      · rw [ALLP_k hi hj hk, a8]
        exact ⟨fun w z => w z.1, fun w z => w ⟨z, fun v => absurd v nv⟩⟩
    · have v : VLD lim (I 483) i j k := by
        unfold VLD
        rw [z0]
        exact q
      have nle := fun k hk => NUM_le (lim := lim) (L0 := I 483) (S0 := I 484) (L1 := I 483) (S1 := I 484) (L2 := I 483) (S2 := I 484) (b0 := 0) (k0 := k0) (b1 := 61) (k1 := k1) (b2 := 122) (k2 := k2) (i := i) (j := j) (k := k) (fun i hi => by have := (hb.2.2.1 i hi).1; omega) (fun i hi => by have := (hb.2.2.2.1 i hi).1; omega) (fun i hi => by have := (hb.2.2.2.2 i hi).1; omega) hi hj hk
      have n1 := nle k (by omega)
      have n2 := nle (k + 1) (by omega)
      have ek := NUM_k (lim := lim) (L0 := I 483) (S0 := I 484) (L1 := I 483) (S1 := I 484) (L2 := I 483) (S2 := I 484) (b0 := 0) (b1 := 61) (k1 := k1) (b2 := 122) (k2 := k2) i j k
      rw [chi_1 v, Int.mul_one, z0] at ek
      have mm := mul_61 s0 s1 s2
      have a2' : X 482 7 = NUM lim (I 483) (I 484) (I 483) (I 484) (I 483) (I 484) 0 61 k1 122 k2 i j k := a2
      rw [a2']
      refine ⟨by omega, by omega, by omega, by omega, by omega, by omega, fun I1 E1 => ⟨by omega, by omega, by omega, fun I2 E2 => ?_⟩⟩
      have f2 : ∀ k, k ≠ 482 → I2 k = I k := fun k hk => by rw [E2, up_k hk, E1, up_k hk, f k hk]
      have i7 : I2 482 7 = NUM lim (I 483) (I 484) (I 483) (I 484) (I 483) (I 484) 0 61 k1 122 k2 i j (k + 1) := by
        rw [E2, up_n (by omega), E1, up_s, ek]
      have i18 : I1 482 8 = X 482 8 := by rw [E1, up_n (by omega)]
      have f1 : I1 485 = I 485 := by rw [E1, up_k (by decide), f 485 (by decide)]
      have i8 : I2 482 8 = oA (X 482 8) (oO (oO (I 485 i) (I 485 (61 + j))) (I 485 (122 + k))) := by
        rw [E2, up_s, i18, f1]
      have i9 : I2 482 9 = X 482 9 := by rw [E2, up_n (by omega), E1, up_n (by omega)]
      have og := oO_pin (oO_pin g0 g1) g2
      -- any mask that tells who is out
      have fin : ∀ (mm : Int) (I3 : HI), (0 ≤ mm ∧ mm < 8) → (bit mm 0 = true ↔ I 486 i = 1) → (bit mm 1 = true ↔ I 486 (61 + j) = 1) → (bit mm 2 = true ↔ I 486 (122 + k) = 1) → I3 = up I2 482 9 (oO (I2 482 9) mm) → J none mX2_count (d + 1) 0 0 63 [(0, vR 482), (1, vI lim), (2, vI (i : Int)), (3, vI (61 + (j : Int))), (4, vI (oO (I 483 i) (I 483 (61 + j)))), (5, vI (122 + (k : Int) + 1))] [] (mk I3) (PV K) := by
        intro mm I3 mr m0 m1 m2 E3
        have bo : ∀ s, bit (oO (X 482 9) mm) s = (bit (X 482 9) s || bit mm s) := fun s => bit_or (by omega) (by omega) (by omega) (by omega)
        have r9 : 0 ≤ oO (X 482 9) mm ∧ oO (X 482 9) mm < 8 := by
          have := or_8 (X 482 9).toNat (by omega) mm.toNat (by omega)
          rw [Int.toNat_of_nonneg (by omega), Int.toNat_of_nonneg (by omega)] at this
          exact this
        have j9 : I3 482 9 = oO (X 482 9) mm := by rw [E3, up_s, i9]
        refine nx I3 ⟨⟨fun k hk => by rw [E3, up_k hk, f2 k hk], fun j h7 h8 h9 => by rw [E3, up_n (by omega), E2, up_n (by omega), E1, up_n (by omega), a1.2 j h7 h8 h9]⟩, by rw [E3, up_n (by omega), i7]; rfl, ⟨?_, fun l l0 l1 => ?_⟩, by rw [j9]; exact r9, ?_, ?_, ?_⟩
        · rw [E3, up_n (by omega), i8]
          exact oA_pin a3 og
        · rw [E3, up_n (by omega), i8, ALLP_k hi hj hk, ← a4 l l0 l1]
          unfold GP
          unfold pin at a3 og g0 g1 g2
          have o01 := oO_pin (x := I 485 i) (y := I 485 (61 + j)) g0 g1
          unfold pin at o01
          rw [bit_and (by omega) (by omega) (by omega) (by omega), bit_or (by omega) (by omega) (by omega) (by omega), bit_or (by omega) (by omega) (by omega) (by omega), Bool.and_eq_true, Bool.or_eq_true, Bool.or_eq_true, z0]
          exact ⟨fun w => ⟨w.1, fun _ => w.2⟩, fun w => ⟨w.1, w.2 v⟩⟩
        · rw [j9, bo, Bool.or_eq_true, a6, m0, ALLP_k hi hj hk]
          unfold OP0
          rw [z0]
          exact ⟨fun w z => w.elim (fun u => u z.1) (fun u => z.2 v u), fun w => Classical.byContradiction fun u => w ⟨Classical.byContradiction fun t => u (Or.inl t), fun _ t => u (Or.inr t)⟩⟩
        · rw [j9, bo, Bool.or_eq_true, a7, m1, ALLP_k hi hj hk]
          unfold OP1
          exact ⟨fun w z => w.elim (fun u => u z.1) (fun u => z.2 v u), fun w => Classical.byContradiction fun u => w ⟨Classical.byContradiction fun t => u (Or.inl t), fun _ t => u (Or.inr t)⟩⟩
        · rw [j9, bo, Bool.or_eq_true, a8, m2, ALLP_k hi hj hk]
          unfold OP2
          exact ⟨fun w z => w.elim (fun u => u z.1) (fun u => z.2 v u), fun w => Classical.byContradiction fun u => w ⟨Classical.byContradiction fun t => u (Or.inl t), fun _ t => u (Or.inr t)⟩⟩
      rw [f2 486 (by decide)]
      have y1 : ∀ {m s o : Int}, bit m s = true → o = 1 → (bit m s = true ↔ o = 1) := fun h1 h2 => ⟨fun _ => h2, fun _ => h1⟩
      have y0 : ∀ {m s o : Int}, bit m s = false → o = 0 → (bit m s = true ↔ o = 1) := fun h1 h2 => ⟨fun w => (by rw [h1] at w; cases w), fun w => by omega⟩
      refine ⟨by omega, fun q0 => ⟨by omega, fun q1 => ⟨by omega, fun q2 I3 E3 => ⟨by omega, ?_⟩, fun q2 I3 E3 => ⟨by omega, ?_⟩⟩, fun q1 => ⟨by omega, fun q2 I3 E3 => ⟨by omega, ?_⟩, fun q2 I3 E3 => ⟨by omega, ?_⟩⟩⟩, fun q0 => ⟨by omega, fun q1 => ⟨by omega, fun q2 I3 E3 => ⟨by omega, ?_⟩, fun q2 I3 E3 => ⟨by omega, ?_⟩⟩, fun q1 => ⟨by omega, fun q2 I3 E3 => ⟨by omega, ?_⟩, fun q2 I3 E3 => ⟨by omega, ?_⟩⟩⟩⟩
      · exact fin _ I3 (by decide +kernel) (y0 (by decide +kernel) (by omega)) (y0 (by decide +kernel) (by omega)) (y0 (by decide +kernel) (by omega)) E3
      · exact fin _ I3 (by decide +kernel) (y0 (by decide +kernel) (by omega)) (y0 (by decide +kernel) (by omega)) (y1 (by decide +kernel) (by omega)) E3
      · exact fin _ I3 (by decide +kernel) (y0 (by decide +kernel) (by omega)) (y1 (by decide +kernel) (by omega)) (y0 (by decide +kernel) (by omega)) E3
      · exact fin _ I3 (by decide +kernel) (y0 (by decide +kernel) (by omega)) (y1 (by decide +kernel) (by omega)) (y1 (by decide +kernel) (by omega)) E3
      · exact fin _ I3 (by decide +kernel) (y1 (by decide +kernel) (by omega)) (y0 (by decide +kernel) (by omega)) (y0 (by decide +kernel) (by omega)) E3
      · exact fin _ I3 (by decide +kernel) (y1 (by decide +kernel) (by omega)) (y0 (by decide +kernel) (by omega)) (y1 (by decide +kernel) (by omega)) E3
      · exact fin _ I3 (by decide +kernel) (y1 (by decide +kernel) (by omega)) (y1 (by decide +kernel) (by omega)) (y0 (by decide +kernel) (by omega)) E3
      · exact fin _ I3 (by decide +kernel) (y1 (by decide +kernel) (by omega)) (y1 (by decide +kernel) (by omega)) (y1 (by decide +kernel) (by omega)) E3
end CT
