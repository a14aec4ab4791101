theorem p2_16 {k : Int} (h0 : 0 ≤ k) (h1 : k ≤ 16) : 0 < oSl 1 k ∧ oSl 1 k ≤ 65536 := by
  rw [oSl_1 h0 (by omega)]
  have h := Nat.pow_le_pow_right (n := 2) (by decide) (show k.toNat ≤ 16 by omega)
  have h2 : (2 : Nat) ^ 16 = 65536 := by decide
  have h3 : 0 < 2 ^ k.toNat := Nat.two_pow_pos k.toNat
  omega
section B3
variable {d : Nat} {I : HI} {Q : Option AV → AH → Prop} {K : HI → Prop} {KI : Int → HI → Prop} {K2 : Int → Int → HI → Prop} {cs : Int → List Int} {H : List Sn}
theorem isTold_a {n : Nat} (hc : CN I) (hs : CSa I) (hl : CLa I) (hn : n ≤ 1600) (hn4 : 4 ≤ n) (hB : ∀ j, j < n → 0 ≤ I 490 j ∧ I 490 j ≤ 255) (hck : I 490 (n - 1) = chk (I 490) (n - 1) 0 83) (k0 : ∀ X : HI, OFr I X → ¬ Good I (I 490) n → KI 0 X) (k1 : ∀ X : HI, OFr I X → Good I (I 490) n → FO I X (I 490) (I 518 6) → KI 1 X) : ∀ (m : Nat) (s : Int) (p : Nat) (X : HI), 0 ≤ s → s + m = I 518 6 → p = pls (I 490) s.toNat → OFr I X → FO I X (I 490) s → J none mX11_isTold (d + 4) 0 0 32 [(0, vR 489), (1, vI (n : Int)), (2, vI (p : Int)), (3, vI s)] [] (mk X) (PI KI)
  | 0, s, p, X, s0, e, hp, ho, hf => by
    have b1 := hc.2.2.1
    have b2 := hc.2.2.2.1
    have b4 := hc.2.2.2.2.2
    have es : s = I 518 6 := by omega
    have f518 := ho.1 518 (by decide)
    have f490 := ho.1 490 (by decide)
    have B4 := hB (n - 4) (by omega)
    have B3 := hB (n - 3) (by omega)
    have t4 : ((n : Int) - 4).toNat = n - 4 := by omega
    have t3 : ((n : Int) - 3).toNat = n - 3 := by omega
    have t2 : ((n : Int) - 2).toNat = n - 2 := by omega
    have p1 := p2_16 b2.1 b2.2
    have p2 := p2_le b4.1 b4.2
    refine bk_X11_isTold_32 (c11_saintMany ?_)
    rw [f518, f490, t4, t3, t2]
    refine ⟨fun _ => ⟨by omega, fun q => PI_i (k0 X ho (fun z => ?_)), fun q => ⟨by omega, by omega, by omega, by omega, by omega, by omega, c11_laneMany ?_⟩⟩, fun q => by omega⟩
    · have := z.2.1
      rw [← es, ← hp] at this
      omega
    · rw [f518, f490]
      refine ⟨fun q2 => PI_i (k0 X ho (fun z => by have := z.2.2.1; omega)), fun q2 => ⟨by omega, by omega, c11_exceptions ?_⟩⟩
      rw [f518]
      refine ⟨fun q3 => PI_i (k0 X ho (fun z => by have := z.2.2.2.1; omega)), fun q3 => PI_i (k1 X ho ⟨fun u u0 u1 => ?_, ?_, by omega, by omega, hck⟩ (by rw [← es]; exact hf))⟩
      · obtain ⟨a, b, c⟩ := hf u u0 (by omega)
        exact ⟨c, b⟩
      · rw [← es, ← hp]
        omega
  | m + 1, s, p, X, s0, e, hp, ho, hf => by
    have b1 := hc.2.2.1
    have f518 := ho.1 518 (by decide)
    have f490 := ho.1 490 (by decide)
    have ga : Good I (I 490) n → p + 1 + (I 490 p).toNat + 4 ≤ n := fun z => by
      have := Good_at z s0 (by omega)
      rw [← hp] at this
      exact this
    have gb : Good I (I 490) n → I 490 p ≤ 24 ∧ OkW I s (tv (I 490) p) := fun z => by
      have := z.1 s s0 (by omega)
      unfold csT at this
      rw [← hp] at this
      exact this
    refine bk_X11_isTold_32 (c11_saintMany ?_)
    rw [f518]
    refine ⟨fun q => by omega, fun _ => c11_wayOf s0 (by omega) (by omega) (by omega) ⟨by omega, fun I5 e5 => ?_⟩⟩
    have e5' : I5 = up X 532 (4 + 60 * s).toNat 0 := by
      rw [e5, Int.add_zero]
    have o5 : OFr I I5 := by
      rw [e5']
      exact OFr_0 ho (by omega)
    have g490 := o5.1 490 (by decide)
    rw [g490, Int.toNat_natCast, Int.add_zero]
    refine ⟨by omega, fun q => PI_i (k0 I5 o5 (fun z => by have := ga z; omega)), fun q => ?_⟩
    have Bp := hB p (by omega)
    refine ⟨by omega, fun q2 => PI_i (k0 I5 o5 (fun z => by have := (gb z).1; omega)), fun q2 => ⟨by omega, by omega, fun q3 => ?_, fun q3 => PI_i (k0 I5 o5 (fun z => by have := ga z; omega))⟩⟩
    have ih := isTold_a hc hs hl hn hn4 hB hck k0 k1 m (s + 1) (p + 1 + (I 490 p).toNat)
    have hpl : p + 1 + (I 490 p).toNat = pls (I 490) (s + 1).toNat := by
      rw [show (s + 1).toNat = s.toNat + 1 from by omega]
      show p + 1 + (I 490 p).toNat = pls (I 490) s.toNat + 1 + (I 490 (pls (I 490) s.toNat)).toNat
      rw [← hp]
    refine isTold_b hc hs hl s0 (by omega) hn (by omega) (by omega) hp hB (by omega) (fun Y oY z => k0 Y oY (fun g => z (gb g).2)) (fun Y oY fY => ?_) (tv (I 490) p) [] I5 rfl o5 (fun u u0 u1 => ?_) ?_ (OkW_nil I s)
    · have := ih Y (by omega) (by omega) hpl oY fY
      rw [show (((p + 1 + (I 490 p).toNat : Nat)) : Int) = (p : Int) + (I 490 p + 1) from by omega] at this
      exact this
    · obtain ⟨a, b⟩ := hf u u0 u1
      refine ⟨?_, b⟩
      have g := (SL_EW (by omega)).mp a
      rw [e5']
      refine (SL_EW (by omega)).mpr (EW_cp g ?_ (up_j (by omega)) (fun k hk => ?_))
      · rw [wy_len]
        exact b.1.2.1
      · rw [up_k (by decide), up_k (by decide), up_k (by decide)]
        exact ⟨rfl, rfl, rfl⟩
    · show (0 : Int) = I5 532 (4 + 60 * s).toNat
      rw [e5', up_e]
theorem c11_isTold {n : Nat} (hc : CN I) (hs : CSa I) (hl : CLa I) (hn : n ≤ 1600) (hB : ∀ j, j < n → 0 ≤ I 490 j ∧ I 490 j ≤ 255) (k0 : ∀ X : HI, OFr I X → ¬ Good I (I 490) n → KI 0 X) (k1 : ∀ X : HI, OFr I X → Good I (I 490) n → FO I X (I 490) (I 518 6) → KI 1 X) : CI mX11_isTold (d + 4) [vR 489, vI (n : Int)] I KI := by
  have b1 := hc.2.2.1
  refine bk_X11_isTold_0 ⟨fun q => PI_i (k0 I (OFr_rfl I) (fun z => by have := z.2.1; omega)), fun q => ?_⟩
  rw [show ((n : Int) - 1).toNat = n - 1 from by omega, show (n : Int) - 1 = ((n - 1 : Nat) : Int) from by omega]
  refine ⟨by omega, by omega, by omega, c11_checked sh_490 (by omega) (by omega) (fun j hj => hB j (by omega)) ⟨fun q2 => ?_, fun q2 => PI_i (k0 I (OFr_rfl I) (fun z => q2 z.2.2.2.2))⟩⟩
  exact isTold_a hc hs hl hn (by omega) hB q2 k0 k1 (I 518 6).toNat 0 0 I (by omega) (by omega) rfl (OFr_rfl I) (fun u u0 u1 => by omega)
/-- the ways come to be what was told -/
theorem back_lp {I0 : HI} {B : Nat → Int} {n : Nat} (hc : CN I0) (hn : n ≤ 1600) (hn4 : 4 ≤ n) (hB : ∀ j, j < n → 0 ≤ I0 490 j ∧ I0 490 j ≤ 255) (k1 : ∀ X : HI, (∀ k, (k < 532 ∨ 535 < k) → k ≠ 489 → X k = I0 k) → (∀ j, j ≠ 63 → j ≠ 64 → j ≠ 71 → X 489 j = I0 489 j) → X 489 63 = 256 * I0 490 (n - 4) + I0 490 (n - 3) → X 489 64 = I0 490 (n - 2) → X 489 71 = 0 → (∀ u : Int, 0 ≤ u → u < I0 518 6 → SL X u 0 (wy I0 u (csT B u))) → KI 1 X) : ∀ (m : Nat) (s : Int) (X : HI), 0 ≤ s → s + m = I0 518 6 → (∀ k, (k < 532 ∨ 535 < k) → X k = I0 k) → FO I0 X B (I0 518 6) → (∀ u : Int, 0 ≤ u → u < s → SL X u 0 (wy I0 u (csT B u))) → J none mX11_back (d + 2) 0 0 22 [(0, vR 489), (1, vI (n : Int)), (2, vI s)] [] (mk X) (PI KI)
  | 0, s, X, s0, e, hf, ho, hw => by
    have f518 := hf 518 (by decide)
    have f490 := hf 490 (by decide)
    have B4 := hB (n - 4) (by omega)
    have B3 := hB (n - 3) (by omega)
    refine bk_X11_back_22 (c11_saintMany ?_)
    rw [f518, f490, show ((n : Int) - 4).toNat = n - 4 from by omega, show ((n : Int) - 3).toNat = n - 3 from by omega, show ((n : Int) - 2).toNat = n - 2 from by omega]
    refine ⟨fun _ => ⟨by omega, by omega, by omega, by omega, by omega, by omega, fun I2 e2 => ⟨by omega, by omega, fun I3 e3 I4 e4 => PI_i ?_⟩⟩, fun q => by omega⟩
    have g490 : I2 490 = I0 490 := by rw [e2, up_k (by decide), f490]
    rw [g490] at e3
    have fx : ∀ k, k ≠ 489 → I4 k = X k := fun k hk => by rw [e4, up_k hk, e3, up_k hk, e2, up_k hk]
    refine k1 I4 (fun k k1 k2 => by rw [fx k k2, hf k k1]) (fun j j1 j2 j3 => by rw [e4, up_j j3, e3, up_j j2, e2, up_j j1, hf 489 (by decide)]) ?_ ?_ ?_ (fun u u0 u1 => SL_fr u0 (hw u u0 (by omega)) (fx 532 (by decide)) (fx 533 (by decide)) (fx 534 (by decide)) (fx 535 (by decide)))
    · rw [e4, up_j (by decide), e3, up_j (by decide), e2, up_e]
    · rw [e4, up_j (by decide), e3, up_e]
    · rw [e4, up_e]
  | m + 1, s, X, s0, e, hf, ho, hw => by
    have b1 := hc.2.2.1
    have f518 := hf 518 (by decide)
    obtain ⟨a, b, c⟩ := ho s s0 (by omega)
    have wl := wy_len I0 s (csT B s)
    have l24 := b.2.1
    have ln := SL_len _ _ a
    refine bk_X11_back_22 (c11_saintMany ?_)
    rw [f518]
    refine ⟨fun q => by omega, fun _ => c11_wayOf s0 (by omega) (by omega) (by omega) ?_⟩
    rw [Int.add_zero]
    refine c11_comesTo (n := (wy I0 s (csT B s)).length) s0 (by omega) (by omega) (by omega) (by rw [ln]; omega) (by omega) ⟨by omega, ?_⟩
    refine back_lp hc hn hn4 hB k1 m (s + 1) _ (by omega) (by omega) (fun k hk => by rw [cmT_f hk, hf k hk]) (fun u u0 u1 => ?_) (fun u u0 u1 => ?_)
    · obtain ⟨a', b', c'⟩ := ho u u0 u1
      refine ⟨(SL_EW (by omega)).mpr (EW_cp ((SL_EW (by omega)).mp a') ?_ (cmT_532 (by omega)) (fun k hk => cmT_533 (by omega))), b', c'⟩
      rw [wy_len]
      exact b'.2.1
    · by_cases eu : u = s
      · subst eu
        exact SL_cmT u0 (by omega) a
      · refine (SL_EW u0).mpr (EW_cp ((SL_EW u0).mp (hw u u0 (by omega))) ?_ (cmT_532 (by omega)) (fun k hk => cmT_533 (by omega)))
        rw [wy_len]
        exact (ho u u0 (by omega)).2.1.2.1
/-- what the class's image leaves as it was -/
theorem accept_lp {n : Nat} (hc : CN I) (hs : CSa I) (hl : CLa I) (hn : n ≤ 1600) (hB : ∀ j, j < n → 0 ≤ I 27 j ∧ I 27 j ≤ 255) (hx : 0 ≤ I 32 5 ∧ I 32 5 < 21) (k0 : ∀ X : HI, (∀ k, k ≠ 34 → X k = I k) → ¬ Good I (I 27) n → KI 0 X) (k1 : ∀ X : HI, Good I (I 27) n → (∀ k, k ≠ 32 → k ≠ 33 → k ≠ 34 → (k < 37 ∨ 56 < k) → X k = I k) → X 32 5 = I 32 5 → X 32 6 = 0 → X 32 7 = 1 → X 32 8 = 1 → X 32 9 = 1 → ClW X (csT (I 27)) → X 33 100 = 256 * I 27 (n - 4) + I 27 (n - 3) → X 33 101 = I 27 (n - 2) → KI 1 X) : ∀ (m : Nat) (s : Int) (p : Nat) (X : HI), 0 ≤ s → s + m = I 518 6 → p = pls (I 27) s.toNat → p ≤ n → (∀ k, k ≠ 34 → X k = I k) → (∀ u : Int, 0 ≤ u → u < s → EC (X 34) 0 u (csT (I 27) u) ∧ OkW I u (csT (I 27) u) ∧ I 27 (pls (I 27) u.toNat) ≤ 24) → J none mX9_accept (d + 4) 0 0 13 [(0, vR 32), (1, vR 27), (2, vI (n : Int)), (3, vI (p : Int)), (4, vI s)] [] (mk X) (PI KI)
  | 0, s, p, X, s0, e, hp, hpn, hf, hw => by
    have c2 := hc.1.2.2.1
    have c1 := hc.1.2.1
    have c4 := hc.1.2.2.2.2
    have b1 := hc.2.2.1
    have b2 := hc.2.2.2.1
    have b4 := hc.2.2.2.2.2
    have es : s = I 518 6 := by omega
    have f27 := hf 27 (by decide)
    refine bk_X9_accept_13 sh_27 ⟨fun _ => ?_, fun q => by rw [hf 2 (by decide)] at q; omega⟩
    have g2 : Good I (I 27) n → p + 4 = n := fun z => by
      have := z.2.1
      rw [← es, ← hp] at this
      exact this
    refine bk_X9_accept_48 sh_27 ⟨fun q => by omega, fun _ => ⟨by omega, fun q => ?_, fun q => PI_i (k0 X hf (fun z => q (by have := g2 z; omega)))⟩⟩
    have n4 : p + 4 = n := by omega
    have B4 := hB p (by omega)
    have B3 := hB (p + 1) (by omega)
    have B2 := hB (p + 2) (by omega)
    have e4 : n - 4 = p := by omega
    have e3 : n - 3 = p + 1 := by omega
    have e2 : n - 2 = p + 2 := by omega
    have e1 : n - 1 = p + 3 := by omega
    rw [e4, e3, e2] at k1
    rw [f27, Int.toNat_natCast, show ((p : Int) + 1).toNat = p + 1 from by omega, show ((p : Int) + 2).toNat = p + 2 from by omega, show ((p : Int) + 3).toNat = p + 3 from by omega, or_byte B4.1 B4.2 B3.1 B3.2]
    refine ⟨by omega, by omega, by omega, fun I1 g1 => ⟨by omega, by omega, fun I2 h2 => ?_⟩⟩
    have fi1 : ∀ k, k ≠ 34 → I1 k = I k := fun k hk => by rw [g1, up_k hk, hf k hk]
    rw [fi1 27 (by decide)] at h2
    have fi2 : ∀ k, k ≠ 34 → I2 k = I k := fun k hk => by rw [h2, up_k hk, fi1 k hk]
    have v100 : I2 34 100 = 256 * I 27 p + I 27 (p + 1) := by rw [h2, up_j (by decide), g1, up_e]
    have v101 : I2 34 101 = I 27 (p + 2) := by rw [h2, up_e]
    have vo : ∀ j, j < 100 → I2 34 j = X 34 j := fun j hj => by rw [h2, up_j (by omega), g1, up_j (by omega)]
    rw [v100, v101, fi2 2 (by decide), fi2 27 (by decide), c1, c4]
    refine ⟨fun q2 => PI_i (k0 I2 fi2 (fun z => ?_)), fun q2 => ⟨fun q3 => PI_i (k0 I2 fi2 (fun z => ?_)), fun q3 => ⟨by omega, by omega, by omega, ?_⟩⟩⟩
    · have := z.2.2.1
      rw [e4, e3] at this
      omega
    · have := z.2.2.2.1
      rw [e2] at this
      omega
    rw [show (p : Int) + 3 = ((p + 3 : Nat) : Int) from by omega]
    refine c9_sumOf sh_27 (by omega) (by omega) (fun j hj => by rw [fi2 27 (by decide)]; exact hB j (by omega)) ?_
    rw [fi2 27 (by decide)]
    refine ⟨fun q4 => ⟨by omega, fun I4 h4 I5 h5 => ?_⟩, fun q4 => PI_i (k0 I2 fi2 (fun z => q4 ?_))⟩
    · have good : Good I (I 27) n := ⟨fun u u0 u1 => ⟨(hw u u0 (by omega)).2.2, (hw u u0 (by omega)).2.1⟩, by rw [← es, ← hp]; exact n4, by rw [e4, e3]; omega, by rw [e2]; omega, by rw [e1]; exact q4⟩
      have fi5 : ∀ k, k ≠ 32 → k ≠ 33 → k ≠ 34 → I5 k = I k := fun k k1 k2 k3 => by rw [h5, up_k k1, h4, cpI_f k2, fi2 k k3]
      have r33 : ∀ j, j < 102 → I5 33 j = I2 34 j := fun j hj => by
        rw [h5, up_k (by decide), h4, cpI_i (by omega) (by omega)]
        congr 1
        omega
      have f518 := fi5 518 (by decide) (by decide) (by decide)
      have f521 := fi5 521 (by decide) (by decide) (by decide)
      have f522 := fi5 522 (by decide) (by decide) (by decide)
      have ecw : ∀ u : Int, 0 ≤ u → u < I 518 6 → EC (I5 33) 0 u (csT (I 27) u) := fun u u0 u1 => by
        obtain ⟨a, b, c⟩ := hw u u0 (by omega)
        exact EC_cp a u0 (by omega) b.2.1 (fun j hj => by rw [Nat.zero_add, r33 j (by omega), vo j hj])
      refine c9_replayAll (cs := csT (I 27)) (CN_fr hc (fi5 2 (by decide) (by decide) (by decide)) f518) (CSa_fr hs (fi5 7 (by decide) (by decide) (by decide)) f518 f522) (CLa_fr hl (fi5 6 (by decide) (by decide) (by decide)) (fi5 12 (by decide) (by decide) (by decide)) f518 f521) (fun u u0 u1 => ecw u u0 (by rw [f518] at u1; exact u1)) (fun u u0 u1 => OkW_fr f518 f521 f522 ((hw u u0 (by rw [f518] at u1; omega)).2.1)) (fun Y r1 r2 r3 r4 r5 r6 => PI_i ?_)
      have fy : ∀ k, k ≠ 32 → k ≠ 33 → k ≠ 34 → (k < 37 ∨ 56 < k) → Y k = I k := fun k k1 k2 k3 k4 => by rw [r1 k k1 k4, fi5 k k1 k2 k3]
      have y33 : Y 33 = I5 33 := r1 33 (by decide) (by decide)
      refine k1 Y good fy ?_ ?_ r3 r4 r5 (fun u u0 u1 => ?_) ?_ ?_
      · rw [r2 5 (by decide) (by decide) (by decide), h5, up_j (by decide), h4, cpI_f (by decide), fi2 32 (by decide)]
      · rw [r2 6 (by decide) (by decide) (by decide), h5, up_e]
      · have m518 := fy 518 (by decide) (by decide) (by decide) (by decide)
        have m521 := fy 521 (by decide) (by decide) (by decide) (by decide)
        have m522 := fy 522 (by decide) (by decide) (by decide) (by decide)
        rw [m518] at u1
        have t := r6 u u0 (by rw [f518]; exact u1)
        rw [wy_fr f518 f521 f522, hm_fr f522] at t
        rw [wy_fr m518 m521 m522, hm_fr m522, y33]
        exact ⟨ecw u u0 u1, t⟩
      · rw [y33, r33 100 (by decide), v100]
      · rw [y33, r33 101 (by decide), v101]
    · have := z.2.2.2.2
      rw [e1] at this
      exact this
  | m + 1, s, p, X, s0, e, hp, hpn, hf, hw => by
    have c2 := hc.1.2.2.1
    have b1 := hc.2.2.1
    have f27 := hf 27 (by decide)
    have f518 := hf 518 (by decide)
    have f521 := hf 521 (by decide)
    have f522 := hf 522 (by decide)
    have ga : Good I (I 27) n → p + 1 + (I 27 p).toNat + 4 ≤ n := fun z => by
      have := Good_at z s0 (by omega)
      rw [← hp] at this
      exact this
    have gb : Good I (I 27) n → I 27 p ≤ 24 ∧ OkW I s (tv (I 27) p) := fun z => by
      have := z.1 s s0 (by omega)
      unfold csT at this
      rw [← hp] at this
      exact this
    refine bk_X9_accept_13 sh_27 ⟨fun q => by rw [hf 2 (by decide)] at q; omega, fun _ => ⟨fun q => by omega, fun _ => ?_⟩⟩
    refine c9_tryWay (CN_fr hc (hf 2 (by decide)) f518) (CSa_fr hs (hf 7 (by decide)) f518 f522) (CLa_fr hl (hf 6 (by decide)) (hf 12 (by decide)) f518 f521) s0 (by rw [f518]; omega) hn (by rw [f27]; exact hB) (fun Y fY z => ⟨by omega, ?_⟩) (fun Y fY z hE hO => ⟨by omega, ?_⟩)
    · have fy : ∀ k, k ≠ 34 → Y k = I k := fun k hk => by rw [fY k hk, hf k hk]
      have ng : ¬ Good I (I 27) n := fun g => z (by
        have a := ga g
        have b := gb g
        rw [f27]
        have Bp := hB p (by omega)
        exact ⟨by omega, b.1, by omega, OkW_fr f518 f521 f522 b.2⟩)
      have fin : J none mX9_accept (d + 4) 0 0 48 [(0, vR 32), (1, vR 27), (2, vI (n : Int)), (3, vI (-1)), (4, vI (s + 1))] [] (mk Y) (PI KI) := bk_X9_accept_48 sh_27 ⟨fun _ => PI_i (k0 Y fy ng), fun q => absurd rfl q⟩
      exact bk_X9_accept_13 sh_27 ⟨fun _ => fin, fun _ => ⟨fun _ => fin, fun q => absurd rfl q⟩⟩
    · rw [f27] at z hE ⊢
      have Bp := hB p z.1
      have hpl : p + 1 + (I 27 p).toNat = pls (I 27) (s + 1).toNat := by
        rw [show (s + 1).toNat = s.toNat + 1 from by omega]
        show p + 1 + (I 27 p).toNat = pls (I 27) s.toNat + 1 + (I 27 (pls (I 27) s.toNat)).toNat
        rw [← hp]
      have ih := accept_lp hc hs hl hn hB hx k0 k1 m (s + 1) (p + 1 + (I 27 p).toNat) Y (by omega) (by omega) hpl (by have := z.2.2.1; omega) (fun k hk => by rw [fY k hk, hf k hk]) (fun u u0 u1 => ?_)
      · rw [show (((p + 1 + (I 27 p).toNat : Nat)) : Int) = (p : Int) + 1 + I 27 p from by omega] at ih
        exact ih
      · by_cases eu : u = s
        · subst eu
          have ec : csT (I 27) u = tv (I 27) p := by
            unfold csT
            rw [← hp]
          rw [ec, ← hp]
          exact ⟨hE, OkW_fr f518.symm f521.symm f522.symm z.2.2.2, z.2.1⟩
        · obtain ⟨a, b, c⟩ := hw u u0 (by omega)
          refine ⟨?_, b, c⟩
          have bl := b.2.1
          unfold EC at a ⊢
          simp only [Nat.zero_add] at a ⊢
          exact ⟨by rw [hO _ (by omega) (by omega)]; exact a.1, fun k hk => by rw [hO _ (by omega) (by omega)]; exact a.2 k hk⟩
theorem c9_accept {n : Nat} (hc : CN I) (hs : CSa I) (hl : CLa I) (hn : n ≤ 1600) (hB : ∀ j, j < n → 0 ≤ I 27 j ∧ I 27 j ≤ 255) (hx : 0 ≤ I 32 5 ∧ I 32 5 < 21) (k0 : ∀ X : HI, (∀ k, k ≠ 34 → X k = I k) → ¬ Good I (I 27) n → KI 0 X) (k1 : ∀ X : HI, Good I (I 27) n → (∀ k, k ≠ 32 → k ≠ 33 → k ≠ 34 → (k < 37 ∨ 56 < k) → X k = I k) → X 32 5 = I 32 5 → X 32 6 = 0 → X 32 7 = 1 → X 32 8 = 1 → X 32 9 = 1 → ClW X (csT (I 27)) → X 33 100 = 256 * I 27 (n - 4) + I 27 (n - 3) → X 33 101 = I 27 (n - 2) → KI 1 X) : CI mX9_accept (d + 4) [vR 32, vR 27, vI (n : Int)] I KI := by
  have b1 := hc.2.2.1
  refine bk_X9_accept_0 sh_27 (c_fill sh_34 (by omega) ?_)
  have ff : ∀ k, k ≠ 34 → flI I 34 102 0 k = I k := fun k hk => flI_f hk
  exact accept_lp hc hs hl hn hB hx k0 k1 (I 518 6).toNat 0 0 _ (by omega) (by omega) rfl (by omega) ff (fun u u0 u1 => by omega)
end B3
