/-- the orders, as the class and as the model number them -/
def digA (c j : Nat) : Nat := c / 4 ^ j % 4
def digB (n c j : Nat) : Nat := c / n ^ j % n
def mskOf (f : Nat → Nat) : Nat → Nat
  | 0 => 0
  | i + 1 => mskOf f i ||| 2 ^ f i
def ordA (n c : Nat) : Option (List Nat) := if c / 4 ^ n = 0 ∧ mskOf (digA c) n = 2 ^ n - 1 then some ((List.range n).map (digA c)) else none
def ordB (n c : Nat) : Option (List Nat) := if mskOf (digB n c) n = 2 ^ n - 1 then some ((List.range n).map (digB n c)) else none
theorem ord_eq : ∀ n : Nat, n < 5 → 1 ≤ n → (List.range 256).filterMap (ordA n) = (List.range (n ^ n)).filterMap (ordB n) := by decide +kernel
def pok (n : Nat) (p : List Nat) : Bool := p.length == n && p.all (fun s => s < n) && (List.range n).all (fun i => (List.range n).all (fun j => i == j || p.getD i 9 != p.getD j 9)) && (List.range n).all (fun s => p.any (fun t => t == s))
theorem ord_ok : ∀ n : Nat, n < 5 → 1 ≤ n → ((List.range 256).filterMap (ordA n)).all (pok n) = true := by decide +kernel
theorem dA1 : ∀ c : Nat, c < 256 → ∀ i : Nat, i < 4 → oA (oSr (c : Int) (2 * (i : Int))) 3 = (digA c i : Int) := by decide +kernel
theorem dA2 : ∀ c : Nat, c < 256 → ∀ n : Nat, n < 5 → (oSr (c : Int) (2 * (n : Int)) = 0 ↔ c / 4 ^ n = 0) := by decide +kernel
theorem dM : ∀ a : Nat, a < 16 → ∀ s : Nat, s < 4 → oO (a : Int) (oSl 1 (s : Int)) = ((a ||| 2 ^ s : Nat) : Int) ∧ (a ||| 2 ^ s) < 16 := by decide +kernel
theorem dE : ∀ n : Nat, n < 5 → oSl 1 (n : Int) - 1 = ((2 ^ n - 1 : Nat) : Int) ∧ n ^ n ≤ 256 := by decide +kernel
theorem msk_b {f : Nat → Nat} (hf : ∀ j, f j < 4) : ∀ i, mskOf f i < 16
  | 0 => by
    unfold mskOf
    omega
  | i + 1 => (dM _ (msk_b hf i) _ (hf i)).2
def DFo (I X : HI) : Prop := (∀ k, k ≠ 477 → k ≠ 479 → X k = I k) ∧ (∀ j, j ≠ 7 → j ≠ 11 → X 477 j = I 477 j)
section LO
variable {d : Nat} {I : HI} {K : HI → Prop} {KI : Int → HI → Prop} {K2 : Int → Int → HI → Prop} {cs : Int → List Int} {H : List Sn}
theorem draw_lp {c n : Nat} (c1 : c < 256) (n4 : n ≤ 4) (k1 : ∀ Y : HI, DFo I Y → Y 477 7 = n → Y 477 11 = -1 → (∀ j, j < n → Y 479 j = digA c j) → ordA n c = some ((List.range n).map (digA c)) → KI 1 Y) (k0 : ∀ Y : HI, DFo I Y → Y 477 11 = -1 → ordA n c = none → KI 0 Y) : ∀ (m i : Nat) (X : HI), i + m = n → DFo I X → X 477 7 = n → (∀ j, j < i → X 479 j = digA c j) → J none mX6_drawOrder (d + 1) 0 0 17 [(0, vR 477), (1, vI (c : Int)), (2, vI (mskOf (digA c) i : Int)), (3, vI (i : Int))] [] (mk X) (PI KI)
  | 0, i, X, e, fX, x7, hd => by
    have mb := msk_b (f := digA c) (fun j => Nat.mod_lt _ (by omega)) i
    refine bk_X6_drawOrder_17 ?_
    rw [x7]
    refine ⟨fun _ I1 e1 => ?_, fun q => by omega⟩
    have ei : i = n := by omega
    have f7 : I1 477 7 = n := by rw [e1, up_n (by omega)]; exact x7
    have f11 : I1 477 11 = -1 := by rw [e1]; exact up_s
    have fI : DFo I I1 := ⟨fun k h1 h2 => by rw [e1, up_k h1]; exact fX.1 k h1 h2, fun j h1 h2 => by rw [e1, up_n (by omega)]; exact fX.2 j h1 h2⟩
    have hd1 : ∀ j, j < n → I1 479 j = digA c j := fun j hj => by rw [e1, up_k (by decide)]; exact hd j (by omega)
    rw [f7, (dE n (by omega)).1]
    have a2 := dA2 c c1 n (by omega)
    refine ⟨by omega, fun q => PI_i (k0 I1 fI f11 ?_), fun q => ⟨?_, fun q2 => PI_i (k0 I1 fI f11 ?_), fun q2 => PI_i (k1 I1 fI f7 f11 hd1 ?_)⟩⟩
    · unfold ordA
      rw [if_neg (fun w => q (a2.mpr w.1))]
    · have : 2 ^ n ≤ 16 := by
        have := (dE n (by omega)).1
        have := (all_b n (by omega)).1
        omega
      omega
    · unfold ordA
      rw [if_neg (fun w => q2 (by rw [ei, w.2]))]
    · unfold ordA
      rw [if_pos ⟨a2.mp q, by rw [ei] at q2; omega⟩]
  | m + 1, i, X, e, fX, x7, hd => by
    have ih := fun Y => draw_lp c1 n4 k1 k0 m (i + 1) Y
    have mb := msk_b (f := digA c) (fun j => Nat.mod_lt _ (by omega)) i
    have dl : digA c i < 4 := Nat.mod_lt _ (by omega)
    refine bk_X6_drawOrder_17 ?_
    rw [x7]
    refine ⟨fun q => by omega, fun _ => ⟨by omega, by omega, fun I2 e2 => ⟨by omega, by omega, ?_⟩⟩⟩
    rw [dA1 c c1 i (by omega), Int.toNat_natCast] at e2
    have s2 : I2 479 i = digA c i := by rw [e2]; exact up_s
    rw [Int.toNat_natCast, s2, (dM _ mb _ dl).1]
    refine ih I2 (by omega) ⟨fun k h1 h2 => by rw [e2, up_k h2]; exact fX.1 k h1 h2, fun j h1 h2 => by rw [e2, up_k (by decide)]; exact fX.2 j h1 h2⟩ (by rw [e2, up_k (by decide)]; exact x7) (fun j hj => ?_)
    by_cases ej : j = i
    · rw [ej]; exact s2
    · rw [e2, up_n (by omega)]
      exact hd j (by omega)
theorem c6_drawOrder {c n : Nat} (en : (n : Int) = I 2 2) (c1 : c < 256) (n4 : n ≤ 4) (k1 : ∀ Y : HI, DFo I Y → Y 477 7 = n → Y 477 11 = -1 → (∀ j, j < n → Y 479 j = digA c j) → ordA n c = some ((List.range n).map (digA c)) → KI 1 Y) (k0 : ∀ Y : HI, DFo I Y → Y 477 11 = -1 → ordA n c = none → KI 0 Y) : CI mX6_drawOrder (d + 1) [vR 477, vI (c : Int)] I KI := by
  refine bk_X6_drawOrder_0 (fun I1 e1 => ?_)
  rw [← en] at e1
  have f : DFo I I1 := ⟨fun k h1 h2 => by rw [e1, up_k h1], fun j h1 h2 => by rw [e1, up_n (by omega)]⟩
  exact draw_lp c1 n4 (fun Y fY => k1 Y fY) (fun Y fY => k0 Y fY) n 0 I1 (by omega) f (by rw [e1]; exact up_s) (fun j hj => by omega)
theorem order_lp {c n : Nat} (en : (n : Int) = I 518 6) (n0 : 1 ≤ n) (n4 : n ≤ 4) (c1 : c < 256) (k1 : ∀ Y : HI, (∀ k, k ≠ 552 → Y k = I k) → (∀ j, j < n → Y 552 j = digB n c j) → ordB n c = some ((List.range n).map (digB n c)) → KI 1 Y) (k0 : ∀ Y : HI, (∀ k, k ≠ 552 → Y k = I k) → ordB n c = none → KI 0 Y) : ∀ (m i : Nat) (X : HI), i + m = n → (∀ k, k ≠ 552 → X k = I k) → (∀ j, j < i → X 552 j = digB n c j) → J none mX11_isOrder (d + 3) 0 0 7 [(0, vR 489), (1, vI (c : Int)), (2, vI (mskOf (digB n c) i : Int)), (3, vI ((c / n ^ i : Nat) : Int)), (4, vI (i : Int))] [] (mk X) (PI KI)
  | 0, i, X, e, fX, hd => by
    have ei : i = n := by omega
    refine bk_X11_isOrder_7 (c11_saintMany ?_)
    rw [fX 518 (by decide), ← en]
    refine ⟨fun _ => c11_everybody (n := n) (by rw [fX 518 (by decide)]; exact en) n4 ?_, fun q => by omega⟩
    rw [(dE n (by omega)).1]
    refine ⟨fun q => PI_i (k0 X fX ?_), fun q => PI_i (k1 X fX (fun j hj => hd j (by omega)) ?_)⟩
    · unfold ordB
      rw [if_neg (fun w => q (by rw [ei, w]))]
    · unfold ordB
      rw [if_pos (by rw [ei] at q; omega)]
  | m + 1, i, X, e, fX, hd => by
    have ih := fun Y => order_lp en n0 n4 c1 k1 k0 m (i + 1) Y
    have dl : digB n c i < n := Nat.mod_lt _ (by omega)
    have mb := msk_b (f := digB n c) (fun j => Nat.lt_of_lt_of_le (Nat.mod_lt _ (by omega)) n4) i
    have cl : c / n ^ i ≤ c := Nat.div_le_self _ _
    refine bk_X11_isOrder_7 (c11_saintMany ?_)
    rw [fX 518 (by decide), ← en]
    refine ⟨fun q => by omega, fun _ => c11_saintMany ?_⟩
    rw [fX 518 (by decide), ← en]
    refine ⟨by omega, by omega, fun I4 e4 => ?_⟩
    have hm4 : oM ((c / n ^ i : Nat) : Int) (n : Int) = (digB n c i : Int) := by
      rw [oM_mod (Int.natCast_nonneg _) (by have : ((c / n ^ i : Nat) : Int) ≤ (c : Int) := Int.ofNat_le.mpr cl
                                            omega) (by omega) (by omega)]
      rfl
    rw [hm4, Int.toNat_natCast] at e4
    have s4 : I4 552 i = digB n c i := by rw [e4]; exact up_s
    have f4 : ∀ k, k ≠ 552 → I4 k = I k := fun k hk => by rw [e4, up_k hk]; exact fX k hk
    refine c11_saintMany ?_
    rw [f4 518 (by decide), ← en]
    refine ⟨by omega, by omega, by omega, ?_⟩
    have hd4 : oD ((c / n ^ i : Nat) : Int) (n : Int) = ((c / n ^ (i + 1) : Nat) : Int) := by
      rw [oD_div (Int.natCast_nonneg _) (by have : ((c / n ^ i : Nat) : Int) ≤ (c : Int) := Int.ofNat_le.mpr cl
                                            omega) (by omega) (by omega), Nat.pow_succ, ← Nat.div_div_eq_div_mul]
      rfl
    rw [Int.toNat_natCast, s4, (dM _ mb _ (by omega)).1, hd4]
    refine ih I4 (by omega) f4 (fun j hj => ?_)
    by_cases ej : j = i
    · rw [ej]; exact s4
    · rw [e4, up_n (by omega)]
      exact hd j (by omega)
theorem c11_isOrder {c n : Nat} (en : (n : Int) = I 518 6) (n0 : 1 ≤ n) (n4 : n ≤ 4) (c1 : c < 256) (k1 : ∀ Y : HI, (∀ k, k ≠ 552 → Y k = I k) → (∀ j, j < n → Y 552 j = digB n c j) → ordB n c = some ((List.range n).map (digB n c)) → KI 1 Y) (k0 : ∀ Y : HI, (∀ k, k ≠ 552 → Y k = I k) → ordB n c = none → KI 0 Y) : CI mX11_isOrder (d + 3) [vR 489, vI (c : Int)] I KI := by
  refine bk_X11_isOrder_0 ?_
  have := order_lp (d := d) en n0 n4 c1 k1 k0 n 0 I (by omega) (fun _ _ => rfl) (fun j hj => by omega)
  rw [Nat.pow_zero, Nat.div_one] at this
  exact this
end LO
