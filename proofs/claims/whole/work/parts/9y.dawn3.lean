def ALLP (k0 k1 k2 : Nat) (P : Nat → Nat → Nat → Prop) (i j k : Nat) : Prop := ∀ i' j' k', i' < k0 → j' < k1 → k' < k2 → (i' < i ∨ (i' = i ∧ (j' < j ∨ (j' = j ∧ k' < k)))) → P i' j' k'
section AP
variable {k0 k1 k2 i j k : Nat} {P : Nat → Nat → Nat → Prop}
theorem ALLP_0 : ALLP k0 k1 k2 P 0 0 0 := fun i' j' k' h1 h2 h3 h => by omega
theorem ALLP_k (h0 : i < k0) (h1 : j < k1) (h2 : k < k2) : ALLP k0 k1 k2 P i j (k + 1) ↔ (ALLP k0 k1 k2 P i j k ∧ P i j k) := by
  constructor
  · exact fun w => ⟨fun i' j' k' a b c h => w i' j' k' a b c (by omega), w i j k h0 h1 h2 (by omega)⟩
  · rintro ⟨w1, w2⟩ i' j' k' a b c h
    by_cases e : i' = i ∧ j' = j ∧ k' = k
    · obtain ⟨rfl, rfl, rfl⟩ := e
      exact w2
    · exact w1 i' j' k' a b c (by omega)
theorem ALLP_j : ALLP k0 k1 k2 P i (j + 1) 0 ↔ ALLP k0 k1 k2 P i j k2 := by
  constructor <;> exact fun w i' j' k' a b c h => w i' j' k' a b c (by omega)
theorem ALLP_i : ALLP k0 k1 k2 P (i + 1) 0 0 ↔ ALLP k0 k1 k2 P i k1 0 := by
  constructor <;> exact fun w i' j' k' a b c h => w i' j' k' a b c (by omega)
theorem ALLP_e : ALLP k0 k1 k2 P k0 0 0 ↔ ∀ i j k, i < k0 → j < k1 → k < k2 → P i j k := by
  constructor
  · exact fun w i j k a b c => w i j k a b c (by omega)
  · exact fun w i' j' k' a b c _ => w i' j' k' a b c
end AP
theorem sH_nn {F : Int → Int} {L S : Nat → Int} {b : Nat} (k : Nat) (h : ∀ i, i < k → 0 ≤ S (b + i) ∧ 0 ≤ F (L (b + i))) : 0 ≤ sH F L S b k := by
  have := sH_mono (F := F) (L := L) (S := S) (b := b) k 0 (fun i hi => h i (by omega))
  rw [Nat.zero_add] at this
  exact this
noncomputable def NUM (lim : Int) (L0 S0 L1 S1 L2 S2 : Nat → Int) (b0 b1 k1 b2 k2 : Nat) (i j k : Nat) : Int := sH (fun p => F1 lim L1 S1 L2 S2 b1 k1 b2 k2 p) L0 S0 b0 i + S0 (b0 + i) * (sH (fun q => F2 lim L2 S2 b2 k2 (L0 (b0 + i)) q) L1 S1 b1 j + S1 (b1 + j) * sH (fun r => chi lim (L0 (b0 + i)) (L1 (b1 + j)) r) L2 S2 b2 k)
section NM
variable {lim : Int} {L0 S0 L1 S1 L2 S2 : Nat → Int} {b0 k0 b1 k1 b2 k2 : Nat}
theorem NUM_0 : NUM lim L0 S0 L1 S1 L2 S2 b0 b1 k1 b2 k2 0 0 0 = 0 := by
  unfold NUM
  show 0 + S0 (b0 + 0) * (0 + S1 (b1 + 0) * 0) = 0
  simp
theorem NUM_k (i j k : Nat) : NUM lim L0 S0 L1 S1 L2 S2 b0 b1 k1 b2 k2 i j (k + 1) = NUM lim L0 S0 L1 S1 L2 S2 b0 b1 k1 b2 k2 i j k + ((S0 (b0 + i) * S1 (b1 + j)) * S2 (b2 + k)) * chi lim (L0 (b0 + i)) (L1 (b1 + j)) (L2 (b2 + k)) := by
  unfold NUM
  show _ + S0 (b0 + i) * (_ + S1 (b1 + j) * (sH (fun r => chi lim (L0 (b0 + i)) (L1 (b1 + j)) r) L2 S2 b2 k + S2 (b2 + k) * chi lim (L0 (b0 + i)) (L1 (b1 + j)) (L2 (b2 + k)))) = _
  rw [Int.mul_add, Int.mul_add, Int.mul_add, Int.mul_add, Int.mul_assoc, Int.mul_assoc]
  omega
theorem NUM_j (i j : Nat) : NUM lim L0 S0 L1 S1 L2 S2 b0 b1 k1 b2 k2 i (j + 1) 0 = NUM lim L0 S0 L1 S1 L2 S2 b0 b1 k1 b2 k2 i j k2 := by
  unfold NUM
  show _ + S0 (b0 + i) * ((sH (fun q => F2 lim L2 S2 b2 k2 (L0 (b0 + i)) q) L1 S1 b1 j + S1 (b1 + j) * F2 lim L2 S2 b2 k2 (L0 (b0 + i)) (L1 (b1 + j))) + S1 (b1 + (j + 1)) * 0) = _
  rw [Int.mul_zero, Int.add_zero]
  rfl
theorem NUM_i (i : Nat) : NUM lim L0 S0 L1 S1 L2 S2 b0 b1 k1 b2 k2 (i + 1) 0 0 = NUM lim L0 S0 L1 S1 L2 S2 b0 b1 k1 b2 k2 i k1 0 := by
  unfold NUM
  show (sH (fun p => F1 lim L1 S1 L2 S2 b1 k1 b2 k2 p) L0 S0 b0 i + S0 (b0 + i) * F1 lim L1 S1 L2 S2 b1 k1 b2 k2 (L0 (b0 + i))) + S0 (b0 + (i + 1)) * (0 + S1 (b1 + 0) * 0) = sH (fun p => F1 lim L1 S1 L2 S2 b1 k1 b2 k2 p) L0 S0 b0 i + S0 (b0 + i) * (sH (fun q => F2 lim L2 S2 b2 k2 (L0 (b0 + i)) q) L1 S1 b1 k1 + S1 (b1 + k1) * 0)
  rw [Int.mul_zero, Int.mul_zero, Int.zero_add, Int.mul_zero, Int.add_zero, Int.add_zero]
  rfl
theorem NUM_e : NUM lim L0 S0 L1 S1 L2 S2 b0 b1 k1 b2 k2 k0 0 0 = sH (fun p => F1 lim L1 S1 L2 S2 b1 k1 b2 k2 p) L0 S0 b0 k0 := by
  unfold NUM
  show _ + S0 (b0 + k0) * (0 + S1 (b1 + 0) * 0) = _
  rw [Int.mul_zero, Int.zero_add, Int.mul_zero, Int.add_zero]
theorem NUM_le {i j k : Nat} (hS0 : ∀ i, i < k0 → 0 ≤ S0 (b0 + i)) (hS1 : ∀ i, i < k1 → 0 ≤ S1 (b1 + i)) (hS2 : ∀ i, i < k2 → 0 ≤ S2 (b2 + i)) (hi : i < k0) (hj : j < k1) (hk : k ≤ k2) : 0 ≤ NUM lim L0 S0 L1 S1 L2 S2 b0 b1 k1 b2 k2 i j k ∧ NUM lim L0 S0 L1 S1 L2 S2 b0 b1 k1 b2 k2 i j k ≤ sH (fun p => F1 lim L1 S1 L2 S2 b1 k1 b2 k2 p) L0 S0 b0 k0 := by
  have c3 : ∀ p q, ∀ m, m ≤ k2 → 0 ≤ sH (fun r => chi lim p q r) L2 S2 b2 m := fun p q m hm => sH_nn m (fun i hi => ⟨hS2 i (by omega), (chi_b _ _ _ _).1⟩)
  have f2 : ∀ p q, 0 ≤ F2 lim L2 S2 b2 k2 p q := fun p q => c3 p q k2 (Nat.le_refl _)
  have f1m : ∀ p m, m ≤ k1 → 0 ≤ sH (fun q => F2 lim L2 S2 b2 k2 p q) L1 S1 b1 m := fun p m hm => sH_nn m (fun i hi => ⟨hS1 i (by omega), f2 _ _⟩)
  have f1 : ∀ p, 0 ≤ F1 lim L1 S1 L2 S2 b1 k1 b2 k2 p := fun p => f1m p k1 (Nat.le_refl _)
  have f0 : 0 ≤ sH (fun p => F1 lim L1 S1 L2 S2 b1 k1 b2 k2 p) L0 S0 b0 i := sH_nn i (fun i' hi' => ⟨hS0 i' (by omega), f1 _⟩)
  have s0 := hS0 i hi
  have s1 := hS1 j hj
  have a1 : sH (fun r => chi lim (L0 (b0 + i)) (L1 (b1 + j)) r) L2 S2 b2 k ≤ F2 lim L2 S2 b2 k2 (L0 (b0 + i)) (L1 (b1 + j)) := by
    have := sH_mono (F := fun r => chi lim (L0 (b0 + i)) (L1 (b1 + j)) r) (L := L2) (S := S2) (b := b2) (k2 - k) k (fun i hi => ⟨hS2 i (by omega), (chi_b _ _ _ _).1⟩)
    rw [show k + (k2 - k) = k2 from by omega] at this
    exact this
  have a2 : sH (fun q => F2 lim L2 S2 b2 k2 (L0 (b0 + i)) q) L1 S1 b1 (j + 1) ≤ F1 lim L1 S1 L2 S2 b1 k1 b2 k2 (L0 (b0 + i)) := by
    have := sH_mono (F := fun q => F2 lim L2 S2 b2 k2 (L0 (b0 + i)) q) (L := L1) (S := S1) (b := b1) (k1 - (j + 1)) (j + 1) (fun i hi => ⟨hS1 i (by omega), f2 _ _⟩)
    rw [show j + 1 + (k1 - (j + 1)) = k1 from by omega] at this
    exact this
  have a3 : sH (fun p => F1 lim L1 S1 L2 S2 b1 k1 b2 k2 p) L0 S0 b0 (i + 1) ≤ sH (fun p => F1 lim L1 S1 L2 S2 b1 k1 b2 k2 p) L0 S0 b0 k0 := by
    have := sH_mono (F := fun p => F1 lim L1 S1 L2 S2 b1 k1 b2 k2 p) (L := L0) (S := S0) (b := b0) (k0 - (i + 1)) (i + 1) (fun i hi => ⟨hS0 i (by omega), f1 _⟩)
    rw [show i + 1 + (k0 - (i + 1)) = k0 from by omega] at this
    exact this
  have m1 : S1 (b1 + j) * sH (fun r => chi lim (L0 (b0 + i)) (L1 (b1 + j)) r) L2 S2 b2 k ≤ S1 (b1 + j) * F2 lim L2 S2 b2 k2 (L0 (b0 + i)) (L1 (b1 + j)) := Int.mul_le_mul_of_nonneg_left a1 s1
  have n1 : 0 ≤ S1 (b1 + j) * sH (fun r => chi lim (L0 (b0 + i)) (L1 (b1 + j)) r) L2 S2 b2 k := Int.mul_nonneg s1 (c3 _ _ _ hk)
  have e2 : sH (fun q => F2 lim L2 S2 b2 k2 (L0 (b0 + i)) q) L1 S1 b1 (j + 1) = sH (fun q => F2 lim L2 S2 b2 k2 (L0 (b0 + i)) q) L1 S1 b1 j + S1 (b1 + j) * F2 lim L2 S2 b2 k2 (L0 (b0 + i)) (L1 (b1 + j)) := rfl
  have n2 := f1m (L0 (b0 + i)) j (by omega)
  have m2 : S0 (b0 + i) * (sH (fun q => F2 lim L2 S2 b2 k2 (L0 (b0 + i)) q) L1 S1 b1 j + S1 (b1 + j) * sH (fun r => chi lim (L0 (b0 + i)) (L1 (b1 + j)) r) L2 S2 b2 k) ≤ S0 (b0 + i) * F1 lim L1 S1 L2 S2 b1 k1 b2 k2 (L0 (b0 + i)) := Int.mul_le_mul_of_nonneg_left (by omega) s0
  have n3 : 0 ≤ S0 (b0 + i) * (sH (fun q => F2 lim L2 S2 b2 k2 (L0 (b0 + i)) q) L1 S1 b1 j + S1 (b1 + j) * sH (fun r => chi lim (L0 (b0 + i)) (L1 (b1 + j)) r) L2 S2 b2 k) := Int.mul_nonneg s0 (by omega)
  have e3 : sH (fun p => F1 lim L1 S1 L2 S2 b1 k1 b2 k2 p) L0 S0 b0 (i + 1) = sH (fun p => F1 lim L1 S1 L2 S2 b1 k1 b2 k2 p) L0 S0 b0 i + S0 (b0 + i) * F1 lim L1 S1 L2 S2 b1 k1 b2 k2 (L0 (b0 + i)) := rfl
  unfold NUM
  omega
end NM
theorem mul_61 {a b c : Int} (ha : 1 ≤ a ∧ a ≤ 61) (hb : 1 ≤ b ∧ b ≤ 61) (hc : 1 ≤ c ∧ c ≤ 61) : (0 ≤ a * b ∧ a * b ≤ 3721) ∧ (0 ≤ a * b * c ∧ a * b * c ≤ 226981) := by
  have h1 : a * b ≤ 61 * 61 := Int.mul_le_mul ha.2 hb.2 (by omega) (by omega)
  have h2 : 0 ≤ a * b := Int.mul_nonneg (by omega) (by omega)
  have h3 : a * b * c ≤ 3721 * 61 := Int.mul_le_mul (by omega) hc.2 (by omega) (by omega)
  have h4 : 0 ≤ a * b * c := Int.mul_nonneg h2 (by omega)
  omega
