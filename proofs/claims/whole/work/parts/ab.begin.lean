section BG
variable {d : Nat} {I : HI} {K : HI → Prop}
/-- a track that has only begun -/
def TB0 (I : HI) (t : Nat) (c : Int) : Prop := I (t + 1) 0 = c ∧ I (t + 2) 0 = -1 ∧ I t 4 = 1 ∧ I t 5 = 0 ∧ I t 6 = 0 ∧ I t 7 = 0
theorem c8_start0 {t n : Nat} {c : Int} (ht : TR t n) (n0 : 0 < n) (n1 : n ≤ 100) (h : ∀ Y : HI, (∀ k, (k < t ∨ t + 4 < k) → Y k = I k) → TB0 Y t c → K Y) : CV mX8_start (d + 1) [vR t, vI c] I K := by
  refine bk_X8_start_0 ht ⟨by omega, fun q => by omega, fun _ => ⟨by omega, fun I4 e4 => ⟨by omega, fun I5 e5 I6 e6 I7 e7 I8 e8 I9 e9 => PV_i (h I9 (fun k hk => ?_) ⟨?_, ?_, ?_, ?_, ?_, ?_⟩)⟩⟩⟩
  · rw [e9, up_k (by omega), e8, up_k (by omega), e7, up_k (by omega), e6, up_k (by omega), e5, up_k (by omega), e4, up_k (by omega)]
  · rw [e9, up_k (by omega), e8, up_k (by omega), e7, up_k (by omega), e6, up_k (by omega), e5, up_k (by omega), e4, up_s]
  · rw [e9, up_k (by omega), e8, up_k (by omega), e7, up_k (by omega), e6, up_k (by omega), e5, up_s]
  · rw [e9, up_n (by omega), e8, up_n (by omega), e7, up_n (by omega), e6, up_s]
  · rw [e9, up_n (by omega), e8, up_n (by omega), e7, up_s]
  · rw [e9, up_n (by omega), e8, up_s]
  · rw [e9, up_s]
theorem begin_lp {n : Nat} (en : I 2 2 = n) (n4 : n ≤ 4) (hz : ∀ s, s < n → I 33 s = 0) (h : ∀ Y : HI, (∀ k, k ≠ 32 → (k < 37 ∨ 56 < k) → Y k = I k) → (∀ j, j ≠ 7 → j ≠ 8 → j ≠ 9 → Y 32 j = I 32 j) → (Y 32 7 = 1 ∧ Y 32 8 = 1 ∧ Y 32 9 = 1) → (∀ s, s < n → TB0 Y (37 + 5 * s) (I 7 (4 * s))) → K Y) : ∀ (m s : Nat) (X : HI), s + m = n → (∀ k, (k < 37 ∨ 56 < k) → X k = I k) → (∀ u, u < s → TB0 X (37 + 5 * u) (I 7 (4 * u))) → J none mX9_replayAll (d + 3) 0 0 2 [(0, vR 32), (1, vI (s : Int))] [] (mk X) (PV K)
  | 0, s, X, e, fX, hX => by
    refine bk_X9_replayAll_2 ?_
    rw [fX 2 (by omega), en]
    refine ⟨fun _ I1 e1 I2 e2 I3 e3 => PV_i (h I3 (fun k k1 k2 => ?_) (fun j h7 h8 h9 => ?_) ⟨?_, ?_, ?_⟩ (fun u hu => ?_)), fun q => by omega⟩
    · rw [e3, up_k k1, e2, up_k k1, e1, up_k k1, fX k k2]
    · rw [e3, up_n (by omega), e2, up_n (by omega), e1, up_n (by omega), fX 32 (by omega)]
    · rw [e3, up_n (by omega), e2, up_n (by omega), e1, up_s]
    · rw [e3, up_n (by omega), e2, up_s]
    · rw [e3, up_s]
    · have f : ∀ k, k ≠ 32 → I3 k = X k := fun k hk => by rw [e3, up_k hk, e2, up_k hk, e1, up_k hk]
      have := hX u (by omega)
      unfold TB0 at this ⊢
      rw [f _ (by omega), f _ (by omega), f _ (by omega)]
      exact this
  | m + 1, s, X, e, fX, hX => by
    have ih := fun Y => begin_lp en n4 hz h m (s + 1) Y
    have ht : TR (37 + 5 * s) 25 := (TRw_all s (by omega)).1
    refine bk_X9_replayAll_2 ?_
    rw [fX 2 (by omega), en]
    refine ⟨fun q => by omega, fun _ => bk_X9_replay_0 ⟨by omega, by omega, by omega, ?_⟩⟩
    rw [Int.toNat_natCast, show ((s : Int) * 4).toNat = 4 * s from by omega, fX 7 (by omega)]
    refine c8_start0 ht (by omega) (by omega) (fun Y fY tY => bk_X9_replay_24 ht ?_)
    rw [Int.toNat_natCast, fY 33 (by omega), fX 33 (by omega), hz s (by omega)]
    refine ⟨by omega, fun _ => PV_i ⟨by omega, ?_⟩, fun q => by omega⟩
    have := ih Y (by omega) (fun k hk => by rw [fY k (by omega), fX k hk]) (fun u hu => ?_)
    · exact this
    · by_cases eu : u = s
      · subst eu
        exact tY
      · have := hX u (by omega)
        unfold TB0 at this ⊢
        rw [fY _ (by omega), fY _ (by omega), fY _ (by omega)]
        exact this
theorem c9_begin {n : Nat} (en : I 2 2 = n) (n4 : n ≤ 4) (h : ∀ Y : HI, (∀ k, k ≠ 32 → k ≠ 33 → (k < 37 ∨ 56 < k) → Y k = I k) → (∀ j, j ≠ 6 → j ≠ 7 → j ≠ 8 → j ≠ 9 → Y 32 j = I 32 j) → (Y 32 6 = 0 ∧ Y 32 7 = 1 ∧ Y 32 8 = 1 ∧ Y 32 9 = 1) → (∀ j, j < 102 → Y 33 j = 0) → (∀ s, s < n → TB0 Y (37 + 5 * s) (I 7 (4 * s))) → K Y) : CV mX9_begin (d + 4) [vR 32] I K := by
  refine bk_X9_begin_0 (c_fill (n0 := 102) rfl (by omega) (fun I2 e2 => ?_))
  have f : ∀ k, k ≠ 32 → k ≠ 33 → I2 k = I k := fun k h1 h2 => by rw [e2, up_k h1, flI_f h2]
  have z : ∀ j, j < 102 → I2 33 j = 0 := fun j hj => by rw [e2, up_k (by decide), flI_i hj]
  refine bk_X9_replayAll_0 (begin_lp (d := d) (I := I2) (n := n) (by rw [f 2 (by decide) (by decide)]; exact en) n4 (fun s hs => z s (by omega)) (fun Y fY gY yY tY => PV_i (h Y (fun k k1 k2 k3 => by rw [fY k k1 k3, f k k1 k2]) (fun j h6 h7 h8 h9 => ?_) ⟨?_, yY⟩ (fun j hj => by rw [fY 33 (by omega) (by omega)]; exact z j hj) (fun s hs => ?_))) n 0 I2 (by omega) (fun _ _ => rfl) (fun u hu => by omega))
  · rw [gY j h7 h8 h9, e2, up_n (by omega), flI_f (by decide)]
  · rw [gY 6 (by decide) (by decide) (by decide), e2, up_s]
  · have := tY s hs
    rw [f 7 (by decide) (by decide)] at this
    exact this
end BG
