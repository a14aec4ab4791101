theorem fa_and (a b : Nat) : nI a &&& nI b = nI (a &&& b) := by
  apply Int32.toBitVec_inj.1
  show BitVec.ofNat 32 a &&& BitVec.ofNat 32 b = BitVec.ofNat 32 (a &&& b)
  apply BitVec.eq_of_getLsbD_eq
  intro i hi
  simp [hi]
theorem fa_or (a b : Nat) : nI a ||| nI b = nI (a ||| b) := by
  apply Int32.toBitVec_inj.1
  show BitVec.ofNat 32 a ||| BitVec.ofNat 32 b = BitVec.ofNat 32 (a ||| b)
  apply BitVec.eq_of_getLsbD_eq
  intro i hi
  simp [hi]
theorem fb_xorI (a b : Nat) : nI a ^^^ nI b = nI (a ^^^ b) := by
  apply Int32.toBitVec_inj.1
  show BitVec.ofNat 32 a ^^^ BitVec.ofNat 32 b = BitVec.ofNat 32 (a ^^^ b)
  apply BitVec.eq_of_getLsbD_eq
  intro i hi
  simp [hi]
theorem io_nI (n : Nat) (h : n < 2 ^ 31) : Int32.ofInt (n : Int) = nI n := by
  apply Int32.toInt_inj.mp
  rw [nI_toInt h, ii_ofI]
  unfold ii; omega
theorem oA_nat (a b : Nat) (ha : a < 2 ^ 31) (hb : b < 2 ^ 31) : oA (a : Int) (b : Int) = ((a &&& b : Nat) : Int) := by
  unfold oA
  rw [io_nI a ha, io_nI b hb, fa_and, nI_toInt (Nat.lt_of_le_of_lt Nat.and_le_left ha)]
theorem or_lt31 {a b : Nat} (ha : a < 2 ^ 31) (hb : b < 2 ^ 31) : a ||| b < 2 ^ 31 := Nat.or_lt_two_pow ha hb
theorem xor_lt31 {a b : Nat} (ha : a < 2 ^ 31) (hb : b < 2 ^ 31) : a ^^^ b < 2 ^ 31 := Nat.xor_lt_two_pow ha hb
theorem oO_nat (a b : Nat) (ha : a < 2 ^ 31) (hb : b < 2 ^ 31) : oO (a : Int) (b : Int) = ((a ||| b : Nat) : Int) := by
  unfold oO
  rw [io_nI a ha, io_nI b hb, fa_or, nI_toInt (or_lt31 ha hb)]
theorem oX_nat (a b : Nat) (ha : a < 2 ^ 31) (hb : b < 2 ^ 31) : oX (a : Int) (b : Int) = ((a ^^^ b : Nat) : Int) := by
  unfold oX
  rw [io_nI a ha, io_nI b hb, fb_xorI, nI_toInt (xor_lt31 ha hb)]
theorem sh31 : ∀ k, k < 32 → nI k &&& 31 = nI k ∧ ((nI k).toBitVec.smod 32).toNat = k := by decide +kernel
theorem oSr_nat (a k : Nat) (ha : a < 2 ^ 31) (hk : k < 32) : oSr (a : Int) (k : Int) = ((a / 2 ^ k : Nat) : Int) := by
  unfold oSr
  rw [io_nI a ha, io_nI k (by omega), (sh31 k hk).1, pk_shrN ha _ k (sh31 k hk).2, nI_toInt (Nat.lt_of_le_of_lt (Nat.div_le_self _ _) ha)]
theorem oSl_nat (a k : Nat) (hk : k < 32) (h : a * 2 ^ k < 2 ^ 31) : oSl (a : Int) (k : Int) = ((a * 2 ^ k : Nat) : Int) := by
  have ha : a < 2 ^ 31 := Nat.lt_of_le_of_lt (Nat.le_mul_of_pos_right a (Nat.two_pow_pos k)) h
  unfold oSl
  rw [io_nI a ha, io_nI k (by omega), (sh31 k hk).1, pk_shlN _ k (sh31 k hk).2 (by omega), nI_toInt h]
theorem oA_and {x y : Int} (hx : 0 ≤ x) (hx1 : x ≤ 2147483647) (hy : 0 ≤ y) (hy1 : y ≤ 2147483647) : oA x y = ((x.toNat &&& y.toNat : Nat) : Int) := by
  have h := oA_nat x.toNat y.toNat (by omega) (by omega)
  rwa [Int.toNat_of_nonneg hx, Int.toNat_of_nonneg hy] at h
theorem oO_or {x y : Int} (hx : 0 ≤ x) (hx1 : x ≤ 2147483647) (hy : 0 ≤ y) (hy1 : y ≤ 2147483647) : oO x y = ((x.toNat ||| y.toNat : Nat) : Int) := by
  have h := oO_nat x.toNat y.toNat (by omega) (by omega)
  rwa [Int.toNat_of_nonneg hx, Int.toNat_of_nonneg hy] at h
theorem oX_xor {x y : Int} (hx : 0 ≤ x) (hx1 : x ≤ 2147483647) (hy : 0 ≤ y) (hy1 : y ≤ 2147483647) : oX x y = ((x.toNat ^^^ y.toNat : Nat) : Int) := by
  have h := oX_nat x.toNat y.toNat (by omega) (by omega)
  rwa [Int.toNat_of_nonneg hx, Int.toNat_of_nonneg hy] at h
theorem oA_mask (k : Nat) (hk : k < 31) {x : Int} (hx : 0 ≤ x) (hx1 : x ≤ 2147483647) : oA x ((2 ^ k - 1 : Nat) : Int) = x % ((2 ^ k : Nat) : Int) := by
  have hp : (2 : Nat) ^ k < 2 ^ 31 := Nat.pow_lt_pow_right (by decide) hk
  have h := oA_nat x.toNat (2 ^ k - 1) (by omega) (by omega)
  rw [Int.toNat_of_nonneg hx] at h
  rw [h, Nat.and_two_pow_sub_one_eq_mod, Int.natCast_emod, Int.toNat_of_nonneg hx]
theorem oA_255 {x : Int} (hx : 0 ≤ x) (hx1 : x ≤ 2147483647) : oA x 255 = x % 256 := oA_mask 8 (by decide) hx hx1
theorem oA_63 {x : Int} (hx : 0 ≤ x) (hx1 : x ≤ 2147483647) : oA x 63 = x % 64 := oA_mask 6 (by decide) hx hx1
theorem oA_1 {x : Int} (hx : 0 ≤ x) (hx1 : x ≤ 2147483647) : oA x 1 = x % 2 := oA_mask 1 (by decide) hx hx1
theorem oA_3 {x : Int} (hx : 0 ≤ x) (hx1 : x ≤ 2147483647) : oA x 3 = x % 4 := oA_mask 2 (by decide) hx hx1
def bit (x k : Int) : Bool := x.toNat.testBit k.toNat
theorem oSr_div {x k : Int} (hx : 0 ≤ x) (hx1 : x ≤ 2147483647) (hk : 0 ≤ k) (hk1 : k < 32) : oSr x k = ((x.toNat / 2 ^ k.toNat : Nat) : Int) := by
  have h := oSr_nat x.toNat k.toNat (by omega) (by omega)
  rwa [Int.toNat_of_nonneg hx, Int.toNat_of_nonneg hk] at h
theorem bit_01 {x k : Int} (hx : 0 ≤ x) (hx1 : x ≤ 2147483647) (hk : 0 ≤ k) (hk1 : k < 32) : oA (oSr x k) 1 = if bit x k then 1 else 0 := by
  have hd : x.toNat / 2 ^ k.toNat ≤ x.toNat := Nat.div_le_self _ _
  have h3 : ((x.toNat / 2 ^ k.toNat : Nat) : Int) ≤ (x.toNat : Int) := Int.ofNat_le.mpr hd
  rw [oSr_div hx hx1 hk hk1, oA_1 (Int.natCast_nonneg _) (Int.le_trans h3 (by omega))]
  unfold bit
  rw [Nat.testBit_eq_decide_div_mod_eq]
  by_cases h : x.toNat / 2 ^ k.toNat % 2 = 1
  · simp only [h, decide_true, if_true]
    omega
  · simp only [h, decide_false]
    have : x.toNat / 2 ^ k.toNat % 2 = 0 := by omega
    simp only [Bool.false_eq_true, if_false]
    omega
theorem oSl_1 {k : Int} (hk : 0 ≤ k) (hk1 : k < 31) : oSl 1 k = ((2 ^ k.toNat : Nat) : Int) := by
  have hp : (2 : Nat) ^ k.toNat < 2 ^ 31 := Nat.pow_lt_pow_right (by decide) (by omega)
  have h := oSl_nat 1 k.toNat (by omega) (by omega)
  rw [Int.toNat_of_nonneg hk] at h
  rw [show (1 : Int) = ((1 : Nat) : Int) from rfl, h]
  simp
theorem oD_nat (a b : Nat) (ha : a < 2 ^ 31) (h0 : 0 < b) (hb : b < 2 ^ 31) : oD (a : Int) (b : Int) = ((a / b : Nat) : Int) := by
  unfold oD
  rw [io_nI a ha, io_nI b hb, pk_div ha h0 hb, nI_toInt (Nat.lt_of_le_of_lt (Nat.div_le_self _ _) ha)]
theorem oM_nat (a b : Nat) (ha : a < 2 ^ 31) (h0 : 0 < b) (hb : b < 2 ^ 31) : oM (a : Int) (b : Int) = ((a % b : Nat) : Int) := by
  unfold oM
  rw [io_nI a ha, io_nI b hb, pk_rem ha h0 hb, nI_toInt (Nat.lt_of_le_of_lt (Nat.mod_le _ _) ha)]
theorem oD_div {x y : Int} (hx : 0 ≤ x) (hx1 : x ≤ 2147483647) (hy : 0 < y) (hy1 : y ≤ 2147483647) : oD x y = x / y := by
  have h := oD_nat x.toNat y.toNat (by omega) (by omega) (by omega)
  rw [Int.toNat_of_nonneg hx, Int.toNat_of_nonneg (by omega)] at h
  rw [h, Int.natCast_ediv, Int.toNat_of_nonneg hx, Int.toNat_of_nonneg (by omega)]
theorem oM_mod {x y : Int} (hx : 0 ≤ x) (hx1 : x ≤ 2147483647) (hy : 0 < y) (hy1 : y ≤ 2147483647) : oM x y = x % y := by
  have h := oM_nat x.toNat y.toNat (by omega) (by omega) (by omega)
  rw [Int.toNat_of_nonneg hx, Int.toNat_of_nonneg (by omega)] at h
  rw [h, Int.natCast_emod, Int.toNat_of_nonneg hx, Int.toNat_of_nonneg (by omega)]
theorem byte_sh (x : Int32) : ∀ k, k < 4 → (x >>> (nI (8 * k) &&& 31)) &&& 255 = ((x.toUInt32 >>> ((nI (8 * k)).toUInt32 &&& Int32.toUInt32 31)).toInt32) &&& 255 := by
  intro k hk
  apply Int32.toBitVec_inj.1
  match k, hk with
  | 0, _ => apply BitVec.eq_of_getLsbD_eq; intro i hi; simp [nI]
  | 1, _ =>
    show (x.toBitVec.sshiftRight 8) &&& 255#32 = (x.toBitVec >>> 8) &&& 255#32
    apply BitVec.eq_of_getLsbD_eq
    intro i hi
    by_cases h : i < 8
    · simp [BitVec.getElem_sshiftRight, hi, show 8 + i < 32 by omega]
    · have e : (255#32).getLsbD i = false := by
        have hh : ∀ j, j < 32 → ¬ j < 8 → (255#32).getLsbD j = false := by decide
        exact hh i hi h
      simp [e]
  | 2, _ =>
    show (x.toBitVec.sshiftRight 16) &&& 255#32 = (x.toBitVec >>> 16) &&& 255#32
    apply BitVec.eq_of_getLsbD_eq
    intro i hi
    by_cases h : i < 8
    · simp [BitVec.getElem_sshiftRight, hi, show 16 + i < 32 by omega]
    · have e : (255#32).getLsbD i = false := by
        have hh : ∀ j, j < 32 → ¬ j < 8 → (255#32).getLsbD j = false := by decide
        exact hh i hi h
      simp [e]
  | 3, _ =>
    show (x.toBitVec.sshiftRight 24) &&& 255#32 = (x.toBitVec >>> 24) &&& 255#32
    apply BitVec.eq_of_getLsbD_eq
    intro i hi
    by_cases h : i < 8
    · simp [BitVec.getElem_sshiftRight, hi, show 24 + i < 32 by omega]
    · have e : (255#32).getLsbD i = false := by
        have hh : ∀ j, j < 32 → ¬ j < 8 → (255#32).getLsbD j = false := by decide
        exact hh i hi h
      simp [e]
theorem byte_eq (w : Int) {s : Int} (k : Nat) (hk : k < 4) (hs : s = ((8 * k : Nat) : Int)) : oA (oSr w s) 255 = oA (oUr w s) 255 := by
  subst hs
  unfold oA oSr oUr
  rw [io_nI (8 * k) (by omega), Int32.ofInt_toInt, Int32.ofInt_toInt]
  have h := byte_sh (Int32.ofInt w) k hk
  exact congrArg Int32.toInt h
theorem byte_rng (x : Int) : 0 ≤ oA x 255 ∧ oA x 255 ≤ 255 := by
  unfold oA
  obtain ⟨j, hj, e⟩ := pk_andE (Int32.ofInt x) (m := Int32.ofInt 255) 8 (by decide)
  rw [e, nI_toInt (by omega)]
  omega
