theorem K_eq {K : Int → HI → Prop} {a b : Int} {I : HI} (h : K a I) (e : a = b) : K b I := e ▸ h
theorem sh31u : ∀ k, k < 32 → ((nI k).toUInt32 &&& Int32.toUInt32 31).toNat = k := by decide +kernel
theorem nI_u (a : Nat) (h : a < 2 ^ 31) : (nI a).toUInt32.toNat = a := by
  show (BitVec.ofNat 32 a).toNat = a
  rw [BitVec.toNat_ofNat]
  omega
theorem oUr_nat (a k : Nat) (ha : a < 2 ^ 31) (hk : k < 32) : oUr (a : Int) (k : Int) = ((a / 2 ^ k : Nat) : Int) := by
  unfold oUr
  rw [io_nI a ha, io_nI k (by omega)]
  have e : ((nI a).toUInt32 >>> ((nI k).toUInt32 &&& Int32.toUInt32 31)) = UInt32.ofNat (a / 2 ^ k) := by
    apply UInt32.toNat_inj.mp
    rw [UInt32.toNat_shiftRight, sh31u k hk, nI_u a ha, Nat.shiftRight_eq_div_pow, Nat.mod_eq_of_lt hk]
    have : a / 2 ^ k < 2 ^ 32 := Nat.lt_of_le_of_lt (Nat.div_le_self _ _) (by omega)
    rw [UInt32.toNat_ofNat', Nat.mod_eq_of_lt this]
  rw [e]
  have h2 : a / 2 ^ k < 2 ^ 31 := Nat.lt_of_le_of_lt (Nat.div_le_self _ _) ha
  exact nI_toInt h2
section BC
variable {d : Nat} {I : HI} {K : Int → HI → Prop}
theorem c_bitCount {x : Int} (h0 : 0 ≤ x) (h1 : x < 65536) (h : K (pop 16 x.toNat : Nat) I) : CI mJ6_bitCount_0f7a4 (d + 1) [vI x] I K := by
  obtain ⟨n, rfl⟩ := Int.eq_ofNat_of_zero_le h0
  have hn : n < 65536 := by omega
  rw [Int.toNat_natCast, ← bcN_pop n hn] at h
  refine bk_J6_bitCount_0f7a4_0 ?_
  have e1 : oA (oUr (n : Int) 1) 1431655765 = ((n / 2 &&& 1431655765 : Nat) : Int) := by
    have := oUr_nat n 1 (by omega) (by decide)
    rw [show ((1 : Nat) : Int) = 1 from rfl] at this
    rw [this]
    exact oA_nat (n / 2 ^ 1) 1431655765 (by omega) (by decide)
  have g1 : (n / 2 &&& 1431655765) ≤ n / 2 := Nat.and_le_left
  have e2 : wr ((n : Int) - ((n / 2 &&& 1431655765 : Nat) : Int)) = ((n - (n / 2 &&& 1431655765) : Nat) : Int) := by
    rw [wr_id (by omega) (by omega)]
    omega
  rw [e1, e2]
  unfold bcN at h
  simp only at h
  generalize hag : n - (n / 2 &&& 1431655765) = a at h ⊢
  have ha : a ≤ n := by omega
  clear e1 e2
  have u2 : oUr (a : Int) 2 = ((a / 4 : Nat) : Int) := oUr_nat a 2 (by omega) (by decide)
  have e3 : oA (a : Int) 858993459 = ((a &&& 858993459 : Nat) : Int) := oA_nat a 858993459 (by omega) (by decide)
  have e4 : oA ((a / 4 : Nat) : Int) 858993459 = ((a / 4 &&& 858993459 : Nat) : Int) := oA_nat (a / 4) 858993459 (by omega) (by decide)
  have g2 : (a &&& 858993459) ≤ a := Nat.and_le_left
  have g3 : (a / 4 &&& 858993459) ≤ a / 4 := Nat.and_le_left
  rw [u2, e3, e4]
  generalize (a &&& 858993459) = p at *
  generalize (a / 4 &&& 858993459) = q at *
  have e5 : wr ((p : Int) + (q : Int)) = ((p + q : Nat) : Int) := by
    rw [wr_id (by omega) (by omega)]
    omega
  rw [e5]
  generalize hb : p + q = b at *
  have hb2 : b < 131072 := by omega
  have u4 : oUr (b : Int) 4 = ((b / 16 : Nat) : Int) := oUr_nat b 4 (by omega) (by decide)
  have e6 : wr ((b : Int) + ((b / 16 : Nat) : Int)) = ((b + b / 16 : Nat) : Int) := by
    rw [wr_id (by omega) (by omega)]
    omega
  rw [u4, e6, show oA ((b + b / 16 : Nat) : Int) 252645135 = ((b + b / 16 &&& 252645135 : Nat) : Int) from oA_nat (b + b / 16) 252645135 (by omega) (by decide)]
  have g4 : (b + b / 16 &&& 252645135) ≤ b + b / 16 := Nat.and_le_left
  generalize (b + b / 16 &&& 252645135) = c at *
  have u8 : oUr (c : Int) 8 = ((c / 256 : Nat) : Int) := oUr_nat c 8 (by omega) (by decide)
  have e7 : wr ((c : Int) + ((c / 256 : Nat) : Int)) = ((c + c / 256 : Nat) : Int) := by
    rw [wr_id (by omega) (by omega)]
    omega
  rw [u8, e7]
  generalize hf : c + c / 256 = f at *
  have hf2 : f < 400000 := by omega
  have u16 : oUr (f : Int) 16 = ((f / 65536 : Nat) : Int) := oUr_nat f 16 (by omega) (by decide)
  have e8 : wr ((f : Int) + ((f / 65536 : Nat) : Int)) = ((f + f / 65536 : Nat) : Int) := by
    rw [wr_id (by omega) (by omega)]
    omega
  rw [u16, e8, show oA ((f + f / 65536 : Nat) : Int) 63 = ((f + f / 65536 &&& 63 : Nat) : Int) from oA_nat (f + f / 65536) 63 (by omega) (by decide)]
  exact PI_i h
theorem bits_lp {o : Int} : ∀ (n : Nat) (x c : Int), 0 ≤ x → x < 65536 → x.toNat < n → 0 ≤ c → c + pop 16 x.toNat ≤ 100 → K (c + pop 16 x.toNat) I → J none mX11_bits (d + 1) 0 0 4 [(0, vI o), (1, vI c), (2, vI x)] [] (mk I) (PI K)
  | 0, x, c, h0, h1, hn, hc, hl, h => by omega
  | n + 1, x, c, h0, h1, hn, hc, hl, h => by
    refine bk_X11_bits_4 ⟨fun e => PI_i ?_, fun e => ?_⟩
    · subst e
      simpa [pop_0] using h
    · have g1 := pop_step 16 x.toNat (by omega) (by omega)
      have g2 := land_lt (n := x.toNat) (by omega)
      have e2 : oA x (x - 1) = ((x.toNat &&& (x.toNat - 1) : Nat) : Int) := by
        rw [oA_and h0 (by omega) (by omega) (by omega)]
        congr 2
        omega
      rw [e2]
      refine ⟨by omega, by omega, bits_lp n _ (c + 1) (by omega) (by omega) (by omega) (by omega) ?_ ?_⟩
      · rw [Int.toNat_natCast]
        omega
      · rw [Int.toNat_natCast]
        refine K_eq h ?_
        omega
theorem pop_le : ∀ k n, pop k n ≤ k
  | 0, n => Nat.le_refl _
  | k + 1, n => by
    have := pop_le k (n / 2)
    unfold pop
    omega
theorem c11_bits {x : Int} (h0 : 0 ≤ x) (h1 : x < 65536) (h : K (pop 16 x.toNat : Nat) I) : CI mX11_bits (d + 1) [vI x] I K := by
  have := pop_le 16 x.toNat
  exact bk_X11_bits_0 (bits_lp (x.toNat + 1) x 0 h0 h1 (by omega) (by omega) (by omega) (by simpa using h))
end BC
