theorem lo_id {x : Int} (h : -9223372036854775808 ≤ x) (h1 : x ≤ 9223372036854775807) : (Int64.ofInt x).toInt = x := Int64.toInt_ofInt_of_le (by omega) (by omega)
theorem bm64 {x : Int} (h : -9223372036854775808 ≤ x) (h1 : x ≤ 9223372036854775807) : x.bmod (2 ^ 64) = x := Int.bmod_eq_of_le (by omega) (by omega)
theorem bm32 {x : Int} (h : -2147483648 ≤ x) (h1 : x ≤ 2147483647) : x.bmod (2 ^ 32) = x := Int.bmod_eq_of_le (by omega) (by omega)
theorem l2_id {x : Int} (h : -2147483648 ≤ x) (h1 : x ≤ 2147483647) : l2 x = x := by
  unfold l2
  rw [Int64.toInt_toInt32, lo_id (by omega) (by omega), bm32 h h1]
theorem ediv_rng {x y : Int} (hx : 0 ≤ x) (hy : 0 < y) : 0 ≤ x / y ∧ x / y ≤ x := ⟨Int.ediv_nonneg hx (by omega), Int.ediv_le_self y hx⟩
theorem lD_div {x y : Int} (hx : 0 ≤ x) (hx1 : x ≤ 9223372036854775807) (hy : 0 < y) (hy1 : y ≤ 9223372036854775807) : lD x y = x / y := by
  unfold lD
  have h := ediv_rng hx hy
  rw [Int64.toInt_div, lo_id (by omega) hx1, lo_id (by omega) hy1, Int.tdiv_eq_ediv_of_nonneg hx, bm64 (by omega) (by omega)]
theorem lM_mod {x y : Int} (hx : 0 ≤ x) (hx1 : x ≤ 9223372036854775807) (hy : 0 < y) (hy1 : y ≤ 9223372036854775807) : lM x y = x % y := by
  unfold lM
  have h := ediv_rng hx hy
  have h2 := Int.emod_nonneg x (show y ≠ 0 by omega)
  have h3 := Int.emod_lt_of_pos x hy
  have h4 : x / y * y = x - x % y := by
    have := Int.emod_add_mul_ediv x y
    rw [Int.mul_comm] at this
    omega
  have h5 : 0 ≤ x / y * y := Int.mul_nonneg h.1 (by omega)
  rw [Int64.toInt_sub, Int64.toInt_mul, Int64.toInt_div, lo_id (by omega) hx1, lo_id (by omega) hy1, Int.tdiv_eq_ediv_of_nonneg hx, bm64 (x := x / y) (by omega) (by omega), h4, bm64 (x := x - x % y) (by omega) (by omega), bm64 (by omega) (by omega)]
  omega
/-- bits of a Nat, counted -/
def pop : Nat → Nat → Nat
  | 0, _ => 0
  | k + 1, n => n % 2 + pop k (n / 2)
theorem pop_0 : ∀ k, pop k 0 = 0
  | 0 => rfl
  | k + 1 => by simp [pop, pop_0 k]
theorem land2 (a b : Nat) : (a &&& b) % 2 = (a % 2) * (b % 2) ∧ (a &&& b) / 2 = (a / 2) &&& (b / 2) := by
  refine ⟨?_, Nat.and_div_two⟩
  have h := Nat.and_mod_two_pow (a := a) (b := b) (n := 1)
  simp only [Nat.pow_one] at h
  rw [h]
  rcases Nat.mod_two_eq_zero_or_one a with ha | ha <;> rcases Nat.mod_two_eq_zero_or_one b with hb | hb <;> rw [ha, hb] <;> rfl
theorem pop_step : ∀ k n, 0 < n → n < 2 ^ k → pop k (n &&& (n - 1)) + 1 = pop k n
  | 0, n, h0, h1 => by simp at h1; omega
  | k + 1, n, h0, h1 => by
    obtain ⟨e1, e2⟩ := land2 n (n - 1)
    simp only [pop, e1, e2]
    rcases Nat.mod_two_eq_zero_or_one n with hn | hn
    · have e3 : (n - 1) / 2 = n / 2 - 1 := by omega
      have ih := pop_step k (n / 2) (by omega) (by rw [Nat.pow_succ] at h1; omega)
      rw [e3, hn]
      omega
    · have e3 : (n - 1) / 2 = n / 2 := by omega
      rw [e3, Nat.and_self, hn]
      have : (n - 1) % 2 = 0 := by omega
      rw [this]
      omega
theorem land_lt {n : Nat} (h : 0 < n) : n &&& (n - 1) < n := Nat.lt_of_le_of_lt Nat.and_le_right (by omega)
/-- the count of bits by sums -/
def bcN (n : Nat) : Nat :=
  let a := n - (n / 2 &&& 1431655765)
  let b := (a &&& 858993459) + (a / 4 &&& 858993459)
  let c := (b + b / 16) &&& 252645135
  let e := c + c / 256
  (e + e / 65536) &&& 63
def bck : Nat → Nat → Bool
  | 0, lo => Nat.beq (bcN lo) (pop 16 lo)
  | k + 1, lo => bck k lo && bck k (lo + 2 ^ k)
theorem bck_ok : ∀ (k lo n : Nat), bck k lo = true → lo ≤ n → n < lo + 2 ^ k → bcN n = pop 16 n
  | 0, lo, n, h, h1, h2 => by
    obtain rfl : n = lo := by simp at h2; omega
    exact Nat.eq_of_beq_eq_true h
  | k + 1, lo, n, h, h1, h2 => by
    simp only [bck, Bool.and_eq_true] at h
    rw [Nat.pow_succ] at h2
    by_cases hn : n < lo + 2 ^ k
    · exact bck_ok k lo n h.1 h1 hn
    · exact bck_ok k (lo + 2 ^ k) n h.2 (by omega) (by omega)
theorem bck_0 : bck 12 0 = true := by decide +kernel
theorem bck_1 : bck 12 4096 = true := by decide +kernel
theorem bck_2 : bck 12 8192 = true := by decide +kernel
theorem bck_3 : bck 12 12288 = true := by decide +kernel
theorem bck_4 : bck 12 16384 = true := by decide +kernel
theorem bck_5 : bck 12 20480 = true := by decide +kernel
theorem bck_6 : bck 12 24576 = true := by decide +kernel
theorem bck_7 : bck 12 28672 = true := by decide +kernel
theorem bck_8 : bck 12 32768 = true := by decide +kernel
theorem bck_9 : bck 12 36864 = true := by decide +kernel
theorem bck_10 : bck 12 40960 = true := by decide +kernel
theorem bck_11 : bck 12 45056 = true := by decide +kernel
theorem bck_12 : bck 12 49152 = true := by decide +kernel
theorem bck_13 : bck 12 53248 = true := by decide +kernel
theorem bck_14 : bck 12 57344 = true := by decide +kernel
theorem bck_15 : bck 12 61440 = true := by decide +kernel
theorem bcN_pop : ∀ n, n < 65536 → bcN n = pop 16 n := by
  intro n h
  have hp : (2 : Nat) ^ 12 = 4096 := by decide
  by_cases h0 : n < 4096
  · exact bck_ok 12 0 n bck_0 (by omega) (by omega)
  by_cases h1 : n < 8192
  · exact bck_ok 12 4096 n bck_1 (by omega) (by omega)
  by_cases h2 : n < 12288
  · exact bck_ok 12 8192 n bck_2 (by omega) (by omega)
  by_cases h3 : n < 16384
  · exact bck_ok 12 12288 n bck_3 (by omega) (by omega)
  by_cases h4 : n < 20480
  · exact bck_ok 12 16384 n bck_4 (by omega) (by omega)
  by_cases h5 : n < 24576
  · exact bck_ok 12 20480 n bck_5 (by omega) (by omega)
  by_cases h6 : n < 28672
  · exact bck_ok 12 24576 n bck_6 (by omega) (by omega)
  by_cases h7 : n < 32768
  · exact bck_ok 12 28672 n bck_7 (by omega) (by omega)
  by_cases h8 : n < 36864
  · exact bck_ok 12 32768 n bck_8 (by omega) (by omega)
  by_cases h9 : n < 40960
  · exact bck_ok 12 36864 n bck_9 (by omega) (by omega)
  by_cases h10 : n < 45056
  · exact bck_ok 12 40960 n bck_10 (by omega) (by omega)
  by_cases h11 : n < 49152
  · exact bck_ok 12 45056 n bck_11 (by omega) (by omega)
  by_cases h12 : n < 53248
  · exact bck_ok 12 49152 n bck_12 (by omega) (by omega)
  by_cases h13 : n < 57344
  · exact bck_ok 12 53248 n bck_13 (by omega) (by omega)
  by_cases h14 : n < 61440
  · exact bck_ok 12 57344 n bck_14 (by omega) (by omega)
  by_cases h15 : n < 65536
  · exact bck_ok 12 61440 n bck_15 (by omega) (by omega)
  omega
