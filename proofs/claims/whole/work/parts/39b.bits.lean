theorem bit_zero (j : Int) : bit 0 j = false := by simp [bit]
theorem bit_or {x y j : Int} (hx : 0 ≤ x) (hx1 : x ≤ 2147483647) (hy : 0 ≤ y) (hy1 : y ≤ 2147483647) : bit (oO x y) j = (bit x j || bit y j) := by
  rw [oO_or hx hx1 hy hy1]
  simp [bit, Nat.testBit_or]
theorem bit_and {x y j : Int} (hx : 0 ≤ x) (hx1 : x ≤ 2147483647) (hy : 0 ≤ y) (hy1 : y ≤ 2147483647) : bit (oA x y) j = (bit x j && bit y j) := by
  rw [oA_and hx hx1 hy hy1]
  simp [bit, Nat.testBit_and]
theorem bit_xor {x y j : Int} (hx : 0 ≤ x) (hx1 : x ≤ 2147483647) (hy : 0 ≤ y) (hy1 : y ≤ 2147483647) : bit (oX x y) j = (bit x j ^^ bit y j) := by
  rw [oX_xor hx hx1 hy hy1]
  simp [bit, Nat.testBit_xor]
theorem bit_p2 {k j : Int} (hk : 0 ≤ k) (hk1 : k < 31) (hj : 0 ≤ j) : bit (oSl 1 k) j = decide (j = k) := by
  rw [oSl_1 hk hk1]
  unfold bit
  rw [Int.toNat_natCast, Nat.testBit_two_pow]
  by_cases h : j = k
  · subst h; simp
  · have : ¬ k.toNat = j.toNat := by omega
    simp [h, this]
theorem or_rng (k : Nat) (hk : k ≤ 31) {x y : Int} (hx : 0 ≤ x) (hx1 : x < 2 ^ k) (hy : 0 ≤ y) (hy1 : y < 2 ^ k) : 0 ≤ oO x y ∧ oO x y < 2 ^ k := by
  have hp : (2 : Int) ^ k ≤ 2 ^ 31 := by
    have := Nat.pow_le_pow_right (n := 2) (by decide) hk
    exact_mod_cast this
  have h31 : (2 : Int) ^ 31 = 2147483648 := by decide
  rw [oO_or hx (by omega) hy (by omega)]
  have e : ((2 ^ k : Nat) : Int) = (2 : Int) ^ k := by simp
  have := Nat.or_lt_two_pow (x := x.toNat) (y := y.toNat) (n := k) (by omega) (by omega)
  omega
theorem p2_rng {k : Int} (n : Nat) (hn : n ≤ 31) (hk : 0 ≤ k) (hk1 : k < n) : 0 < oSl 1 k ∧ oSl 1 k < 2 ^ n := by
  rw [oSl_1 hk (by omega)]
  have e : ((2 ^ n : Nat) : Int) = (2 : Int) ^ n := by simp
  have h1 := Nat.pow_lt_pow_right (a := 2) (m := k.toNat) (n := n) (by decide) (by omega)
  have h2 := Nat.two_pow_pos k.toNat
  omega
theorem and_rng {x y : Int} (hx : 0 ≤ x) (hx1 : x ≤ 2147483647) (hy : 0 ≤ y) (hy1 : y ≤ 2147483647) : 0 ≤ oA x y ∧ oA x y ≤ x ∧ oA x y ≤ y := by
  rw [oA_and hx hx1 hy hy1]
  have h1 := Nat.and_le_left (n := x.toNat) (m := y.toNat)
  have h2 := Nat.and_le_right (n := x.toNat) (m := y.toNat)
  omega
theorem xor_rng (k : Nat) (hk : k ≤ 31) {x y : Int} (hx : 0 ≤ x) (hx1 : x < 2 ^ k) (hy : 0 ≤ y) (hy1 : y < 2 ^ k) : 0 ≤ oX x y ∧ oX x y < 2 ^ k := by
  have hp : (2 : Int) ^ k ≤ 2 ^ 31 := by
    have := Nat.pow_le_pow_right (n := 2) (by decide) hk
    exact_mod_cast this
  have h31 : (2 : Int) ^ 31 = 2147483648 := by decide
  rw [oX_xor hx (by omega) hy (by omega)]
  have e : ((2 ^ k : Nat) : Int) = (2 : Int) ^ k := by simp
  have := Nat.xor_lt_two_pow (x := x.toNat) (y := y.toNat) (n := k) (by omega) (by omega)
  omega
theorem bit_hi {x j : Int} (k : Nat) (hx : 0 ≤ x) (hx1 : x < 2 ^ k) (hj : k ≤ j) : bit x j = false := by
  unfold bit
  have e : ((2 ^ k : Nat) : Int) = (2 : Int) ^ k := by simp
  apply Nat.testBit_lt_two_pow
  exact Nat.lt_of_lt_of_le (m := 2 ^ k) (by omega) (Nat.pow_le_pow_right (by decide) (by omega))
theorem bit_ext {x y : Int} (k : Nat) (hx : 0 ≤ x) (hx1 : x < 2 ^ k) (hy : 0 ≤ y) (hy1 : y < 2 ^ k) (h : ∀ j : Int, 0 ≤ j → j < k → bit x j = bit y j) : x = y := by
  have e : x.toNat = y.toNat := by
    apply Nat.eq_of_testBit_eq
    intro i
    by_cases hi : (i : Int) < k
    · have := h i (by omega) hi
      simpa [bit] using this
    · have h1 := bit_hi (j := i) k hx hx1 (by omega)
      have h2 := bit_hi (j := i) k hy hy1 (by omega)
      simp only [bit, Int.toNat_natCast] at h1 h2
      rw [h1, h2]
  omega
theorem sb_1 {x k : Int} (hx : 0 ≤ x) (hx1 : x ≤ 2147483647) (hk : 0 ≤ k) (hk1 : k < 32) : oA (oSr x k) 1 = 1 ↔ bit x k = true := by
  rw [bit_01 hx hx1 hk hk1]
  cases bit x k <;> simp
theorem sb_0 {x k : Int} (hx : 0 ≤ x) (hx1 : x ≤ 2147483647) (hk : 0 ≤ k) (hk1 : k < 32) : oA (oSr x k) 1 = 0 ↔ bit x k = false := by
  rw [bit_01 hx hx1 hk hk1]
  cases bit x k <;> simp
theorem nt_nat (a b : Nat) : nI a &&& (nI b ^^^ Int32.ofInt (-1)) = nI (a ^^^ (a &&& b)) := by
  apply Int32.toBitVec_inj.1
  show BitVec.ofNat 32 a &&& (BitVec.ofNat 32 b ^^^ (-1#32)) = BitVec.ofNat 32 (a ^^^ (a &&& b))
  apply BitVec.eq_of_getLsbD_eq
  intro i hi
  have h1 : (-1#32).getLsbD i = true := by
    have hh : ∀ j, j < 32 → (-1#32).getLsbD j = true := by decide
    exact hh i hi
  simp only [BitVec.getLsbD_and, BitVec.getLsbD_xor, BitVec.getLsbD_ofNat, h1, hi, decide_true, Bool.true_and, Nat.testBit_xor, Nat.testBit_and]
  cases a.testBit i <;> cases b.testBit i <;> rfl
/-- x & ~y -/
theorem ant_nat {x y : Int} (hx : 0 ≤ x) (hx1 : x ≤ 2147483647) (hy : 0 ≤ y) (hy1 : y ≤ 2147483647) : oA x (oX y (-1)) = ((x.toNat ^^^ (x.toNat &&& y.toNat) : Nat) : Int) := by
  obtain ⟨a, rfl⟩ := Int.eq_ofNat_of_zero_le hx
  obtain ⟨b, rfl⟩ := Int.eq_ofNat_of_zero_le hy
  simp only [Int.toNat_natCast]
  unfold oA oX
  rw [Int32.ofInt_toInt, io_nI a (by omega), io_nI b (by omega), nt_nat, nI_toInt]
  exact xor_lt31 (by omega) (Nat.lt_of_le_of_lt Nat.and_le_left (by omega))
theorem bit_ant {x y j : Int} (hx : 0 ≤ x) (hx1 : x ≤ 2147483647) (hy : 0 ≤ y) (hy1 : y ≤ 2147483647) : bit (oA x (oX y (-1))) j = (bit x j && !bit y j) := by
  rw [ant_nat hx hx1 hy hy1]
  unfold bit
  rw [Int.toNat_natCast, Nat.testBit_xor, Nat.testBit_and]
  cases x.toNat.testBit j.toNat <;> cases y.toNat.testBit j.toNat <;> rfl
theorem ant_rng {x y : Int} (hx : 0 ≤ x) (hx1 : x ≤ 2147483647) (hy : 0 ≤ y) (hy1 : y ≤ 2147483647) : 0 ≤ oA x (oX y (-1)) ∧ oA x (oX y (-1)) ≤ x := by
  rw [ant_nat hx hx1 hy hy1]
  have h : x.toNat ^^^ (x.toNat &&& y.toNat) ≤ x.toNat := by
    have e : x.toNat ^^^ (x.toNat &&& y.toNat) = x.toNat &&& (x.toNat ^^^ (x.toNat &&& y.toNat)) := by
      apply Nat.eq_of_testBit_eq
      intro i
      simp only [Nat.testBit_xor, Nat.testBit_and]
      cases x.toNat.testBit i <;> cases y.toNat.testBit i <;> rfl
    rw [e]
    exact Nat.and_le_left
  omega
