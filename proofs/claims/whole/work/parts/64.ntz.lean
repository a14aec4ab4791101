theorem odd_part : ∀ n : Nat, 0 < n → ∃ k m : Nat, n = 2 ^ k * (2 * m + 1)
  | 0, h => by omega
  | n + 1, h => by
    by_cases g : (n + 1) % 2 = 1
    · exact ⟨0, (n + 1) / 2, by simp; omega⟩
    · obtain ⟨k, m, e⟩ := odd_part ((n + 1) / 2) (by omega)
      refine ⟨k + 1, m, ?_⟩
      have e2 : n + 1 = 2 * ((n + 1) / 2) := by omega
      rw [e2, e, Nat.pow_succ]
      rw [Nat.mul_comm (2 ^ k) 2, Nat.mul_assoc]
theorem low_bits (k m i : Nat) : (2 ^ k * (2 * m + 1)).testBit i = (decide (k ≤ i) && (2 * m + 1).testBit (i - k)) := by
  rw [Nat.mul_comm, Nat.testBit_mul_two_pow]
theorem low_pred (k m : Nat) : 2 ^ k * (2 * m + 1) - 1 = 2 ^ (k + 1) * m + (2 ^ k - 1) := by
  have h := Nat.two_pow_pos k
  have e : 2 ^ k * (2 * m + 1) = 2 ^ (k + 1) * m + 2 ^ k := by
    rw [Nat.mul_add, Nat.pow_succ, Nat.mul_one, ← Nat.mul_assoc]
  omega
theorem pred_bits (k m i : Nat) : (2 ^ k * (2 * m + 1) - 1).testBit i = if i ≤ k then decide (i < k) else m.testBit (i - (k + 1)) := by
  rw [low_pred, Nat.testBit_two_pow_mul_add m (show 2 ^ k - 1 < 2 ^ (k + 1) from by rw [Nat.pow_succ]; have := Nat.two_pow_pos k; omega)]
  by_cases g : i ≤ k
  · rw [if_pos (by omega), if_pos g, Nat.testBit_two_pow_sub_one]
  · rw [if_neg (by omega), if_neg g]
theorem odd_bits (m i : Nat) : (2 * m + 1).testBit i = if i = 0 then true else m.testBit (i - 1) := by
  cases i with
  | zero => simp
  | succ i =>
    rw [if_neg (by omega), Nat.testBit_succ]
    congr 1
    omega
/-- the bits below the least one of n -/
theorem tz_bits {n k : Nat} (hk : n.testBit k = true) (hl : ∀ i, i < k → n.testBit i = false) (i : Nat) : ((!n.testBit i) && (n - 1).testBit i) = decide (i < k) := by
  have h0 : 0 < n := by
    rcases Nat.eq_zero_or_pos n with e | e
    · rw [e] at hk
      simp at hk
    · exact e
  obtain ⟨k', m, e⟩ := odd_part n h0
  have ek : k' = k := by
    have a : n.testBit k' = true := by
      rw [e, low_bits]
      simp
    have b : k ≤ k' := by
      by_cases g : k ≤ k'
      · exact g
      · rw [hl k' (by omega)] at a
        simp at a
    rcases Nat.lt_or_ge k k' with g | g
    · rw [e, low_bits] at hk
      have : ¬ k' ≤ k := by omega
      simp [this] at hk
    · omega
  subst ek
  rw [e, pred_bits, low_bits, odd_bits]
  by_cases g : i < k'
  · have g1 : ¬ k' ≤ i := by omega
    have g2 : i ≤ k' := by omega
    simp [g, g1, g2]
  · by_cases g2 : i = k'
    · subst g2
      simp
    · have g3 : k' ≤ i := by omega
      have g4 : ¬ i ≤ k' := by omega
      have g5 : i - k' ≠ 0 := by omega
      rw [if_neg g4, if_neg g5, show i - k' - 1 = i - (k' + 1) from by omega]
      simp [g, g3]
def ib (x : Int) (i : Nat) : Bool := (Int32.ofInt x).toBitVec.getLsbD i
theorem wr_ofI (z : Int) : Int32.ofInt (wr z) = Int32.ofInt z := by
  unfold wr
  split
  · rfl
  · exact Int32.ofInt_toInt _
theorem tz_val {x : Int} {k : Nat} (hk : k < 32) (hb : ib x k = true) (hl : ∀ i, i < k → ib x i = false) : oA (oX x (-1)) (wr (x - 1)) = (BitVec.ofNat 32 (2 ^ k - 1)).toInt := by
  have e : (Int32.ofInt (oX x (-1)) &&& Int32.ofInt (wr (x - 1))).toBitVec = BitVec.ofNat 32 (2 ^ k - 1) := by
    refine BitVec.eq_of_getLsbD_eq (fun i hi => ?_)
    have e1 : (Int32.ofInt (-1)).toBitVec = BitVec.allOnes 32 := by decide
    have e2 : (Int32.ofInt (x - 1)).toBitVec = (Int32.ofInt x).toBitVec - 1#32 := by
      rw [show x - 1 = x + (-1) from rfl, Int32.ofInt_add, Int32.toBitVec_add, e1]
      rw [BitVec.sub_eq_add_neg]
      rfl
    unfold oX
    rw [wr_ofI, Int32.toBitVec_and, BitVec.getLsbD_and, Int32.ofInt_toInt, Int32.toBitVec_xor, BitVec.getLsbD_xor, e1, BitVec.getLsbD_allOnes, e2]
    have hn : (Int32.ofInt x).toBitVec.toNat.testBit k = true := by rw [BitVec.testBit_toNat]; exact hb
    have hl' : ∀ i, i < k → (Int32.ofInt x).toBitVec.toNat.testBit i = false := fun i hi => by rw [BitVec.testBit_toNat]; exact hl i hi
    have h0 : 0 < (Int32.ofInt x).toBitVec.toNat := by
      rcases Nat.eq_zero_or_pos (Int32.ofInt x).toBitVec.toNat with q | q
      · rw [q] at hn
        simp at hn
      · exact q
    have t := tz_bits hn hl' i
    have e3 : ((Int32.ofInt x).toBitVec - 1#32).toNat = (Int32.ofInt x).toBitVec.toNat - 1 := by
      have := (Int32.ofInt x).toBitVec.isLt
      rw [BitVec.toNat_sub]
      simp only [BitVec.toNat_ofNat]
      omega
    rw [← BitVec.testBit_toNat ((Int32.ofInt x).toBitVec - 1#32), e3, BitVec.getLsbD_ofNat, Nat.testBit_two_pow_sub_one, ← t, BitVec.testBit_toNat]
    simp [hi]
  unfold oA
  rw [← Int32.toInt_toBitVec, e]
def t49 (a n : Int) : Int := if a ≤ 16 then (if a ≤ 4 then wr (n + oUr a 1) else wr ((n + 2) + oUr (oUr a 2) 1)) else (if oUr a 4 ≤ 4 then wr ((n + 4) + oUr (oUr a 4) 1) else wr (((n + 4) + 2) + oUr (oUr (oUr a 4) 2) 1))
def tzF (M : Int) : Int := if 0 < M then (if M ≤ 65536 then (if M ≤ 256 then t49 M 1 else t49 (oUr M 8) 9) else (if oUr M 16 ≤ 256 then t49 (oUr M 16) 17 else t49 (oUr (oUr M 16) 8) 25)) else oA M 32
theorem tz_all : ∀ k : Nat, k < 32 → tzF (BitVec.ofNat 32 (2 ^ k - 1)).toInt = (k : Int) := by decide +kernel
section NT
variable {d : Nat} {I : HI} {KI : Int → HI → Prop}
theorem t49_c {a n : Int} (n0 : 0 ≤ n) (n1 : n ≤ 100) (h : KI (t49 a n) I) : J none mJ6_numberOfTrailingZeros_0f7a4 (d + 1) 0 0 49 [(0, vI a), (1, vI n)] [] (mk I) (PI KI) := by
  unfold t49 at h
  refine bk_J6_numberOfTrailingZeros_0f7a4_49 ⟨fun c => ?_, fun c => ⟨by omega, ?_⟩⟩
  · rw [if_pos c] at h
    refine ⟨fun c2 => PI_i ?_, fun c2 => ⟨by omega, PI_i ?_⟩⟩
    · rw [if_pos c2] at h
      exact h
    · rw [if_neg c2] at h
      exact h
  · rw [if_neg c] at h
    refine ⟨fun c2 => PI_i ?_, fun c2 => ⟨by omega, PI_i ?_⟩⟩
    · rw [if_pos c2] at h
      exact h
    · rw [if_neg c2] at h
      exact h
theorem c_ntz32 {x : Int} {k : Nat} (hk : k < 32) (hb : ib x k = true) (hl : ∀ i, i < k → ib x i = false) (h : KI (k : Int) I) : CI mJ6_numberOfTrailingZeros_0f7a4 (d + 1) [vI x] I KI := by
  have e := tz_all k hk
  rw [← tz_val hk hb hl] at e
  rw [← e] at h
  refine bk_J6_numberOfTrailingZeros_0f7a4_0 ?_
  revert h
  generalize oA (oX x (-1)) (wr (x - 1)) = M
  intro h
  unfold tzF at h
  refine ⟨fun c => ⟨fun c2 => ⟨fun c3 => t49_c (by omega) (by omega) ?_, fun c3 => t49_c (by omega) (by omega) ?_⟩, fun c2 => ⟨fun c3 => t49_c (by omega) (by omega) ?_, fun c3 => t49_c (by omega) (by omega) ?_⟩⟩, fun c => PI_i ?_⟩
  · rw [if_pos c, if_pos c2, if_pos c3] at h
    exact h
  · rw [if_pos c, if_pos c2, if_neg c3] at h
    exact h
  · rw [if_pos c, if_neg c2, if_pos c3] at h
    exact h
  · rw [if_pos c, if_neg c2, if_neg c3] at h
    exact h
  · rw [if_neg c] at h
    exact h
theorem ib_l2 (x : Int) {i : Nat} (h : i < 32) : ib (l2 x) i = lb x i := by
  unfold ib lb l2
  rw [Int32.ofInt_toInt, Int64.toBitVec_toInt32, BitVec.getLsbD_signExtend, if_pos (by omega)]
  simp [h]
theorem ib_0 (i : Nat) : ib 0 i = false := by
  have e : (Int32.ofInt 0).toBitVec = 0#32 := by decide
  unfold ib
  rw [e]
  simp
theorem c_ntz64 {x : Int} {k : Nat} (hk : k < 64) (hb : lb x k = true) (hl : ∀ i, i < k → lb x i = false) (h : KI (k : Int) I) : CI mJ13_numberOfTrailingZeros_95d88 (d + 2) [vL x] I KI := by
  refine bk_J13_numberOfTrailingZeros_95d88_0 ⟨fun c => ?_, fun c => ?_⟩
  · have k32 : k < 32 := by
      rcases Nat.lt_or_ge k 32 with q | q
      · exact q
      · exfalso
        refine c ?_
        have e : (Int64.ofInt x).toInt32.toBitVec = 0#32 := by
          refine BitVec.eq_of_getLsbD_eq (fun i hi => ?_)
          have := ib_l2 x hi
          unfold ib l2 at this
          rw [Int32.ofInt_toInt] at this
          rw [this, hl i (by omega)]
          simp
        unfold l2
        rw [← Int32.toInt_toBitVec, e]
        rfl
    exact c_ntz32 k32 (by rw [ib_l2 x k32]; exact hb) (fun i hi => by rw [ib_l2 x (by omega)]; exact hl i hi) (PI_i h)
  · have k32 : 32 ≤ k := by
      rcases Nat.lt_or_ge k 32 with q | q
      · have := ib_l2 x q
        rw [c, ib_0, hb] at this
        simp at this
      · exact q
    refine c_ntz32 (k := k - 32) (by omega) ?_ (fun i hi => ?_) (PI_i ?_)
    · rw [ib_l2 _ (by omega), lb_Ur (by omega) (by omega), show (32 : Int).toNat + (k - 32) = k from by show 32 + (k - 32) = k; omega]
      exact hb
    · rw [ib_l2 _ (by omega), lb_Ur (by omega) (by omega)]
      exact hl _ (by show 32 + i < k; omega)
    · refine K_eq h ?_
      unfold wr
      rw [if_pos (by omega)]
      omega
/-- the least bit of a long -/
theorem lb_least {x : Int} (hx : lrg x) (h : x ≠ 0) : ∃ k, k < 64 ∧ lb x k = true ∧ ∀ i, i < k → lb x i = false := by
  obtain ⟨i, hi, hb⟩ := lne0 hx h
  have go : ∀ n i : Nat, i < n → lb x i = true → ∃ k, k ≤ i ∧ lb x k = true ∧ ∀ j, j < k → lb x j = false := by
    intro n
    induction n with
    | zero => intro i h0; omega
    | succ n ih =>
      intro i h0 h1
      by_cases g : ∃ j, j < i ∧ lb x j = true
      · obtain ⟨j, j0, j1⟩ := g
        obtain ⟨k, k0, k1, k2⟩ := ih j (by omega) j1
        exact ⟨k, by omega, k1, k2⟩
      · refine ⟨i, by omega, h1, fun j hj => ?_⟩
        cases q : lb x j with
        | false => rfl
        | true => exact absurd ⟨j, hj, q⟩ g
  obtain ⟨k, k0, k1, k2⟩ := go (i + 1) i (by omega) hb
  exact ⟨k, by omega, k1, k2⟩
end NT
