/-- the bits of a long -/
def lb (x : Int) (i : Nat) : Bool := (Int64.ofInt x).toBitVec.getLsbD i
def lrg (x : Int) : Prop := -9223372036854775808 ≤ x ∧ x ≤ 9223372036854775807
theorem lrg_to (z : Int64) : lrg z.toInt := by
  have h1 := Int64.le_toInt z
  have h2 := Int64.toInt_lt z
  unfold lrg
  omega
theorem lrg_A (x y : Int) : lrg (lA x y) := lrg_to _
theorem lrg_O (x y : Int) : lrg (lO x y) := lrg_to _
theorem lrg_X (x y : Int) : lrg (lX x y) := lrg_to _
theorem lrg_Sl (x y : Int) : lrg (lSl x y) := lrg_to _
theorem lrg_Ur (x y : Int) : lrg (lUr x y) := lrg_to _
theorem lb_A (x y : Int) (i : Nat) : lb (lA x y) i = (lb x i && lb y i) := by
  unfold lb lA
  rw [Int64.ofInt_toInt, Int64.toBitVec_and, BitVec.getLsbD_and]
theorem lb_O (x y : Int) (i : Nat) : lb (lO x y) i = (lb x i || lb y i) := by
  unfold lb lO
  rw [Int64.ofInt_toInt, Int64.toBitVec_or, BitVec.getLsbD_or]
theorem lb_X (x y : Int) (i : Nat) : lb (lX x y) i = (lb x i ^^ lb y i) := by
  unfold lb lX
  rw [Int64.ofInt_toInt, Int64.toBitVec_xor, BitVec.getLsbD_xor]
theorem lb_m1 {i : Nat} (h : i < 64) : lb (-1) i = true := by
  have e : (Int64.ofInt (-1)).toBitVec = BitVec.allOnes 64 := by decide
  unfold lb
  rw [e, BitVec.getLsbD_allOnes]
  simp [h]
theorem lb_0 (i : Nat) : lb 0 i = false := by
  have e : (Int64.ofInt 0).toBitVec = 0#64 := by decide
  unfold lb
  rw [e]
  simp
theorem lb_1 (i : Nat) : lb 1 i = decide (i = 0) := by
  have e : (Int64.ofInt 1).toBitVec = 1#64 := by decide
  unfold lb
  rw [e]
  simp [BitVec.getLsbD_one]
theorem lb_ge (x : Int) {i : Nat} (h : 64 ≤ i) : lb x i = false := BitVec.getLsbD_of_ge _ _ h
theorem lb_N (x : Int) {i : Nat} (h : i < 64) : lb (lX x (-1)) i = !lb x i := by
  rw [lb_X, lb_m1 h]
  simp
theorem lext {x y : Int} (hx : lrg x) (hy : lrg y) (h : ∀ i, i < 64 → lb x i = lb y i) : x = y := by
  have e : (Int64.ofInt x).toBitVec = (Int64.ofInt y).toBitVec := BitVec.eq_of_getLsbD_eq (fun i hi => h i hi)
  have e2 : Int64.ofInt x = Int64.ofInt y := Int64.toBitVec_inj.mp e
  have e3 := congrArg Int64.toInt e2
  rw [lo_id hx.1 hx.2, lo_id hy.1 hy.2] at e3
  exact e3
theorem lne0 {x : Int} (hx : lrg x) (h : x ≠ 0) : ∃ i, i < 64 ∧ lb x i = true := by
  by_cases g : ∃ i, i < 64 ∧ lb x i = true
  · exact g
  · exfalso
    refine h (lext hx ⟨by omega, by omega⟩ (fun i hi => ?_))
    rw [lb_0]
    cases q : lb x i with
    | false => rfl
    | true => exact absurd ⟨i, hi, q⟩ g
theorem sh63 : ∀ k, k < 64 → ((((Int32.ofInt (k : Nat)).toInt64 &&& 63).toBitVec).smod 64).toNat = k := by decide +kernel
theorem sh63u : ∀ k, k < 64 → (((Int32.ofInt (k : Nat)).toInt64.toUInt64 &&& Int64.toUInt64 63).toBitVec % 64).toNat = k := by decide +kernel
theorem lb_Sl {x k : Int} (h0 : 0 ≤ k) (h1 : k < 64) {i : Nat} (hi : i < 64) : lb (lSl x k) i = (decide (k.toNat ≤ i) && lb x (i - k.toNat)) := by
  have e := sh63 k.toNat (by omega)
  rw [show ((k.toNat : Nat) : Int) = k from by omega] at e
  unfold lb lSl
  rw [Int64.ofInt_toInt, Int64.toBitVec_shiftLeft, BitVec.shiftLeft_eq', e, BitVec.getLsbD_shiftLeft]
  by_cases g : k.toNat ≤ i
  · have g2 : ¬ i < k.toNat := by omega
    simp [hi, g, g2]
  · have g2 : i < k.toNat := by omega
    simp [g, g2]
theorem lb_p2 {k : Int} (h0 : 0 ≤ k) (h1 : k < 64) {i : Nat} (hi : i < 64) : lb (lSl 1 k) i = decide (i = k.toNat) := by
  rw [lb_Sl h0 h1 hi, lb_1]
  by_cases g : i = k.toNat
  · subst g
    simp
  · by_cases g2 : k.toNat ≤ i
    · have g3 : ¬ i - k.toNat = 0 := by omega
      simp [g, g3]
    · simp [g, g2]
theorem lb_Ur {x k : Int} (h0 : 0 ≤ k) (h1 : k < 64) (i : Nat) : lb (lUr x k) i = lb x (k.toNat + i) := by
  have e := sh63u k.toNat (by omega)
  rw [show ((k.toNat : Nat) : Int) = k from by omega] at e
  unfold lb lUr
  rw [Int64.ofInt_toInt, UInt64.toBitVec_toInt64, UInt64.toBitVec_shiftRight, BitVec.ushiftRight_eq', e, BitVec.getLsbD_ushiftRight, Int64.toBitVec_toUInt64]
theorem lu_1 {x k : Int} (h0 : 0 ≤ k) (h1 : k < 64) : lA (lUr x k) 1 = if lb x k.toNat then 1 else 0 := by
  refine lext (lrg_A _ _) (by split <;> exact ⟨by omega, by omega⟩) (fun i hi => ?_)
  rw [lb_A, lb_Ur h0 h1, lb_1]
  by_cases g : i = 0
  · subst g
    split
    · rename_i q
      simp [lb_1, q]
    · rename_i q
      simp [lb_0, q]
  · split
    · simp [lb_1, g]
    · simp [lb_0, g]
