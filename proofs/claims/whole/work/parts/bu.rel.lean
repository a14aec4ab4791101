/-- what stands between two calls, but the ways: n calls more can come -/
def BAS (n : Nat) (I : HI) : Prop := STC I ∧ (RTape (I 0 12) (I 27) (I 489 1) (I 490) ∧ RIm I ∧ (I 0 14 = I 489 7 ∧ I 0 15 = I 489 8) ∧ OWR I) ∧ (RNi I ∧ I 67 5 + 16 * (n : Int) ≤ 60000) ∧ (0 ≤ I 69 11 ∧ I 69 11 + (n : Int) ≤ 4000) ∧ (0 ≤ I 62 5 ∧ I 62 5 + (n : Int) ≤ 100000) ∧ (0 ≤ I 28 11 ∧ I 28 11 + 2000 * (n : Int) ≤ 8000000)
/-- the ways, and what the class keeps of them -/
def DYN (I : HI) (cs : Int → List Int) (H : List Sn) : Prop := WRel I cs H ∧ ROpt I cs ∧ RPl I ∧ RCu I
def REL (n : Nat) (I : HI) : Prop := BAS n I ∧ ∃ (cs : Int → List Int) (H : List Sn), DYN I cs H
theorem BAS_g {m : Nat} {I Y : HI} (h : BAS (m + 1) I) (s : STC Y) (t : RTape (Y 0 12) (Y 27) (Y 489 1) (Y 490)) (i : RIm Y) (z : Y 0 14 = Y 489 7 ∧ Y 0 15 = Y 489 8) (ow : ∀ k, 490 < k → k < 518 → Y k = I k) (rn : RNi Y ∧ Y 67 5 ≤ I 67 5 + 16) (e69 : I 69 11 ≤ Y 69 11 ∧ Y 69 11 ≤ I 69 11 + 1) (e62 : I 62 5 ≤ Y 62 5 ∧ Y 62 5 ≤ I 62 5 + 1) (e28 : 0 ≤ Y 28 11 ∧ Y 28 11 ≤ I 28 11 + 2000) : BAS m Y := by
  obtain ⟨h1, ⟨t1, t2, t3, t4⟩, ⟨h3, h4⟩, h5, h6, h7⟩ := h
  refine ⟨s, ⟨t, i, z, fun w hw k hk => ?_⟩, ⟨rn.1, by omega⟩, ⟨by omega, by omega⟩, ⟨by omega, by omega⟩, ⟨by omega, by omega⟩⟩
  rw [ow (491 + w) (by omega) (by omega)]
  exact t4 w hw k hk
theorem RIm_f {I Y : HI} (h : RIm I) (e0 : Y 0 13 = I 0 13) (e8 : Y 488 = I 488) (e6 : Y 556 = I 556) (e9 : Y 489 90 = I 489 90) : RIm Y := by
  unfold RIm at h ⊢
  rw [e0, e8, e6, e9]
  exact h
theorem RNi_f {I Y : HI} (h : RNi I) (e7 : Y 67 = I 67) (e8 : Y 68 = I 68) : RNi Y ∧ Y 67 5 ≤ I 67 5 + 16 := by
  unfold RNi at h ⊢
  rw [e7, e8]
  exact ⟨h, by omega⟩
theorem BAS_fr {m : Nat} {I Y : HI} (h : BAS (m + 1) I) (f : CF I Y) (e : ∀ k, (k = 0 ∨ k = 27 ∨ k = 28 ∨ k = 67 ∨ k = 68 ∨ k = 488 ∨ (489 < k ∧ k < 518) ∨ k = 556) → Y k = I k) (g : ∀ j, (j = 1 ∨ j = 7 ∨ j = 8 ∨ j = 90) → Y 489 j = I 489 j) (e62 : Y 62 5 = I 62 5) (e69 : I 69 11 ≤ Y 69 11 ∧ Y 69 11 ≤ I 69 11 + 1) : BAS m Y := by
  obtain ⟨h1, ⟨t1, t2, t3, t4⟩, ⟨h3, h4⟩, h5, h6, h7⟩ := id h
  refine BAS_g h (STC_fr h1 f) ?_ (RIm_f t2 (by rw [e 0 (by omega)]) (e 488 (by omega)) (e 556 (by omega)) (g 90 (by omega))) ?_ (fun k k1 k2 => e k (by omega)) (RNi_f h3 (e 67 (by omega)) (e 68 (by omega))) e69 (by omega) ?_
  · rw [e 0 (by omega), e 27 (by omega), e 490 (by omega), g 1 (by omega)]
    exact t1
  · rw [e 0 (by omega), g 7 (by omega), g 8 (by omega)]
    exact t3
  · rw [e 28 (by omega)]
    omega
theorem REL_d {m : Nat} {I : HI} (h : REL (m + 1) I) : REL m I := ⟨BAS_fr h.1 (CF_rfl I) (fun _ _ => rfl) (fun _ _ => rfl) rfl (by omega), h.2⟩
theorem BAS_4 {n : Nat} {I : HI} (h : BAS n I) : I 518 6 ≤ 4 := h.1.1.1.2.2.1.2
theorem DYN_c {I Y : HI} {cs cs' : Int → List Int} {H H' : List Sn} (h : DYN I cs H) (n4 : I 518 6 ≤ 4) (f : CF I Y) (w : WRel Y cs' H') (rc : RCu Y) (e : ∀ k, 69 ≤ k → k ≤ 481 → Y k = I k) (c7 : Y 32 7 = 1 ∨ (Y 32 7 = I 32 7 ∧ cs' = cs)) (c8 : Y 32 8 = 1 ∨ (Y 32 8 = I 32 8 ∧ Y 489 63 = I 489 63)) (c9 : Y 32 9 = 1 ∨ (Y 32 9 = I 32 9 ∧ Y 489 64 = I 489 64)) : DYN Y cs' H' := by
  obtain ⟨hw, hO, hP, hR⟩ := h
  have e8 : Y 32 8 = 0 → I 32 8 = 0 ∧ Y 489 63 = I 489 63 := fun z => by
    rcases c8 with q | q
    · omega
    · exact ⟨by omega, q.2⟩
  have e9 : Y 32 9 = 0 → I 32 9 = 0 ∧ Y 489 64 = I 489 64 := fun z => by
    rcases c9 with q | q
    · omega
    · exact ⟨by omega, q.2⟩
  refine ⟨w, ⟨fun h8 => RTs_fr f (e8 h8).2 n4 (fun k k1 k2 => e k k1 (by omega)) (hO.1 (e8 h8).1), ?_, fun h8 h9 => ?_⟩, ⟨?_, fun h1 h2 h8 h9 => ?_⟩, rc⟩
  · have := hO.2.1
    unfold SUB at this ⊢
    rw [e 75 (by omega) (by omega), e 76 (by omega) (by omega)]
    exact this
  · have F : FIT Y cs (I 32 7 ≠ 0) := FIT_fr f (e8 h8).2 (e9 h9).2 (e 75 (by omega) (by omega)) (e 76 (by omega) (by omega)) (hO.2.2 (e8 h8).1 (e9 h9).1)
    rcases c7 with q | ⟨q1, q2⟩
    · intro a b ab b1 x y x1 y1 hz
      exact FIT_cs (cs' := cs') F a b ab b1 x y x1 y1 (fun _ => hz (by omega))
    · rw [q1, q2]
      exact F
  · rw [e 477 (by omega) (by omega), e 69 (by omega) (by omega)]
    exact hP.1
  · rw [e 477 (by omega) (by omega)] at h1 h2
    rw [e 69 (by omega) (by omega)] at h2
    obtain ⟨g1, g2⟩ := hP.2 h1 h2 (e8 h8).1 (e9 h9).1
    rw [e 477 (by omega) (by omega), f.1 518 (by omega), e 481 (by omega) (by omega)]
    exact ⟨fun cs => SOL_fr f (e8 h8).2 (e9 h9).2 (g1 cs), MSs_fr g2 (by rw [e 477 (by omega) (by omega)]) (e 479 (by omega) (by omega)) (f.1 518 (by omega))⟩
theorem DYN_f {I Y : HI} {cs : Int → List Int} {H : List Sn} (h : DYN I cs H) (n4 : I 518 6 ≤ 4) (f : CF I Y) (rc : RCu Y) (e : ∀ k, ((32 ≤ k ∧ k < 57) ∨ (69 ≤ k ∧ k ≤ 481) ∨ (536 ≤ k ∧ k ≤ 541)) → Y k = I k) (e2 : ∀ j, j < 4 → Y 532 j = I 532 j) (e3 : ∀ j, j < 96 → Y 533 j = I 533 j ∧ Y 534 j = I 534 j ∧ Y 535 j = I 535 j) (g : ∀ j, (j = 63 ∨ j = 64 ∨ j = 71 ∨ j = 72) → Y 489 j = I 489 j) : DYN Y cs H :=
  DYN_c h n4 f (WRel_fr h.1 n4 f (g 63 (by omega)) (g 64 (by omega)) (g 71 (by omega)) (g 72 (by omega)) (e 33 (by omega)) (e 35 (by omega)) (by rw [e 32 (by omega)]) (by rw [e 32 (by omega)]) (fun k k1 k2 => e k (by omega)) e2 e3 (fun k k1 k2 => e k (by omega))) rc (fun k k1 k2 => e k (by omega)) (Or.inr ⟨by rw [e 32 (by omega)], rfl⟩) (Or.inr ⟨by rw [e 32 (by omega)], g 63 (by omega)⟩) (Or.inr ⟨by rw [e 32 (by omega)], g 64 (by omega)⟩)
theorem W_RWy {I : HI} {cs : Int → List Int} {H : List Sn} (h : WRel I cs H) : RWy I cs := fun s s0 s1 => RW_iff.mpr ⟨h.2.2.1.1 s s0 s1, h.2.1 s s0 s1, (h.1 s s0 s1).1, (h.1 s s0 s1).2⟩
theorem W_RSh {I : HI} {cs : Int → List Int} {H : List Sn} (h : WRel I cs H) (hc : CN I) : RSh I := by
  obtain ⟨_, _, ⟨_, v2, v3⟩, ⟨w1, w2⟩, _⟩ := h
  have n9 := hc.2.2.2.2.2
  have e : oSl 1 (I 518 9) ≤ 64 := by
    rw [oSl_1 n9.1 (by omega)]
    have := Nat.pow_le_pow_right (n := 2) (by omega) (show (I 518 9).toNat ≤ 6 by omega)
    have e64 : 2 ^ 6 = 64 := by decide
    omega
  have v2' : 0 ≤ I 489 63 ∧ I 489 63 < 65536 := v2
  have v3' : 0 ≤ I 489 64 ∧ I 489 64 < oSl 1 (I 518 9) := v3
  exact ⟨w1, w2, v2'.1, v2'.2, v3'.1, by omega⟩
theorem W_H {I : HI} {cs : Int → List Int} {H : List Sn} (h : WRel I cs H) : I 32 6 = I 489 71 := by
  have a := h.2.2.2.2.1.1
  have b := h.2.2.2.2.2.1.1
  omega
theorem D_PLN {I : HI} {cs : Int → List Int} {H : List Sn} {n : Nat} (b : BAS n I) (h : DYN I cs H) : PLN I cs ∧ MWs I cs := by
  obtain ⟨hw, hO, hP, hR⟩ := h
  obtain ⟨w1, w2, ⟨w3, v2, v3⟩, ⟨w4, w5⟩, _⟩ := hw
  have v := b.2.2.2.1
  exact ⟨⟨⟨b.1.1, w1, w3, v3, w5⟩, w4, v2, hO, hR, hP, ⟨by omega, by omega⟩⟩, b.1.1, w2, w3⟩
