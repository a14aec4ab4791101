/-- what back leaves as it was -/
def WFrB (I I' : HI) : Prop := (∀ k, k ≠ 0 → k ≠ 32 → k ≠ 33 → k ≠ 34 → k ≠ 35 → (k < 37 ∨ 56 < k) → k ≠ 489 → (k < 532 ∨ 545 < k) → I' k = I k) ∧ (∀ j, j ≠ 12 → I' 0 j = I 0 j) ∧ (∀ j, j ≠ 1 → j ≠ 63 → j ≠ 64 → j ≠ 71 → j ≠ 72 → I' 489 j = I 489 j)
theorem pls_eq {I : HI} {B B' : Nat → Int} {n : Nat} (h : Good I B n) (e : ∀ j, j < n → B j = B' j) : ∀ s : Nat, (s : Int) ≤ I 518 6 → pls B s = pls B' s
  | 0, hs => rfl
  | s + 1, hs => by
    have ih := pls_eq h e s (by omega)
    have g := Good_at h (s := (s : Int)) (by omega) (by omega)
    rw [Int.toNat_natCast] at g
    show pls B s + 1 + (B (pls B s)).toNat = pls B' s + 1 + (B' (pls B' s)).toNat
    rw [← ih, e (pls B s) (by omega)]
theorem csT_eq {I : HI} {B B' : Nat → Int} {n : Nat} (h : Good I B n) (e : ∀ j, j < n → B j = B' j) {s : Int} (s0 : 0 ≤ s) (s1 : s < I 518 6) : csT B s = csT B' s := by
  have g := Good_at h s0 s1
  have p := pls_eq h e s.toNat (by omega)
  unfold csT tv
  rw [← p, ← e (pls B s.toNat) (by omega)]
  exact bl_eq _ _ (fun j j0 j1 => e j (by omega))
theorem Good_eq {I : HI} {B B' : Nat → Int} {n : Nat} (h : Good I B n) (e : ∀ j, j < n → B j = B' j) : Good I B' n := by
  have hn := h.2.1
  refine ⟨fun s s0 s1 => ?_, ?_, ?_, ?_, ?_⟩
  · have g := Good_at h s0 s1
    have q := h.1 s s0 s1
    rw [← csT_eq h e s0 s1, ← pls_eq h e s.toNat (by omega), ← e (pls B s.toNat) (by omega)]
    exact q
  · by_cases z : 0 ≤ I 518 6
    · rw [← pls_eq h e (I 518 6).toNat (by omega)]
      exact hn
    · have z2 : (I 518 6).toNat = 0 := by omega
      rw [z2] at hn ⊢
      exact hn
  · rw [← e (n - 4) (by omega), ← e (n - 3) (by omega)]
    exact h.2.2.1
  · rw [← e (n - 2) (by omega)]
    exact h.2.2.2.1
  · rw [← e (n - 1) (by omega), ← chk_eq (A := B) (n - 1) 0 83 (fun j j0 j1 => e j (by omega))]
    exact h.2.2.2.2
theorem Good_fr {I I0 : HI} {B : Nat → Int} {n : Nat} (h1 : I 518 = I0 518) (h2 : I 521 = I0 521) (h3 : I 522 = I0 522) (h : Good I0 B n) : Good I B n := by
  obtain ⟨a, b⟩ := h
  refine ⟨fun s s0 s1 => ?_, by rw [h1]; exact b⟩
  rw [h1] at s1
  exact ⟨(a s s0 s1).1, OkW_fr h1 h2 h3 (a s s0 s1).2⟩
section B4
variable {d : Nat} {I : HI} {K2 : Int → Int → HI → Prop} {cs : Int → List Int} {H : List Sn}
theorem op_back (hc : CN I) (hs : CSa I) (hl : CLa I) (ht : RTape (I 0 12) (I 27) (I 489 1) (I 490)) (hw : WRel I cs H) (h : ∀ x I' cs' H', WRel I' cs' H' → WFrB I I' → WCh I I' cs cs' → I' 0 12 = 0 → I' 489 1 = 0 → K2 x x I') : CI mX10_back (d + 5) [vR 0] I (fun x1 I1 => CI mX11_back (d + 5) [vR 489] I1 (K2 x1)) := by
  have hw0 := hw
  obtain ⟨⟨c0, c1, c2, c3, c4⟩, b0, b1, b2, b3, b4⟩ := id hc
  obtain ⟨w1, w2, w3, w4, w5, w6, w7⟩ := hw
  obtain ⟨t1, t2, t3, t4⟩ := ht
  have p5 := w6.2.2
  refine bk_X10_back_0 (fun I1 e1 => ?_)
  have f1 : ∀ k, k ≠ 0 → I1 k = I k := fun k hk => by rw [e1, up_k hk]
  have en : I 0 12 = (((I 0 12).toNat : Nat) : Int) := by omega
  have f518 := f1 518 (by decide)
  have f521 := f1 521 (by decide)
  have f522 := f1 522 (by decide)
  have f27 := f1 27 (by decide)
  have f32 := f1 32 (by decide)
  have hc1 := CN_fr hc (f1 2 (by decide)) f518
  have hs1 := CSa_fr hs (f1 7 (by decide)) f518 f522
  have hl1 := CLa_fr hl (f1 6 (by decide)) (f1 12 (by decide)) f518 f521
  rw [en]
  generalize hN : (I 0 12).toNat = N at *
  have t5 : ∀ j : Nat, j < N → I 27 j = I 490 j ∧ 0 ≤ I 27 j ∧ I 27 j ≤ 255 := fun j hj => t4 j (by omega)
  -- the model, from any state that has the class's answer
  have mod : ∀ (X : HI), (∀ k, 57 ≤ k → X k = I k) → X 2 = I 2 → X 7 = I 7 → X 6 = I 6 → X 12 = I 12 → ∀ (KI : Int → HI → Prop), (∀ Y : HI, ¬ Good I (I 27) N → OFr (up X 489 1 0) Y → KI 0 Y) → (∀ Y : HI, Good I (I 27) N → (∀ k, (k < 532 ∨ 535 < k) → k ≠ 489 → Y k = X k) → (∀ j, j ≠ 1 → j ≠ 63 → j ≠ 64 → j ≠ 71 → Y 489 j = I 489 j) → Y 489 1 = 0 → Y 489 63 = 256 * I 27 (N - 4) + I 27 (N - 3) → Y 489 64 = I 27 (N - 2) → Y 489 71 = 0 → (∀ u : Int, 0 ≤ u → u < I 518 6 → SL Y u 0 (wy I u (csT (I 27) u))) → KI 1 Y) → CI mX11_back (d + 5) [vR 489] X KI := by
    intro X fX x2 x7 x6 x12 KI k0 k1
    have x518 := fX 518 (by decide)
    have x521 := fX 521 (by decide)
    have x522 := fX 522 (by decide)
    have x490 := fX 490 (by decide)
    refine bk_X11_back_0 (fun X1 g1 => ?_)
    have fx : ∀ k, k ≠ 489 → X1 k = X k := fun k hk => by rw [g1, up_k hk]
    have y518 : X1 518 = I 518 := by rw [fx 518 (by decide), x518]
    have y521 : X1 521 = I 521 := by rw [fx 521 (by decide), x521]
    have y522 : X1 522 = I 522 := by rw [fx 522 (by decide), x522]
    have y490 : X1 490 = I 490 := by rw [fx 490 (by decide), x490]
    have y1 : X 489 1 = (N : Int) := by
      rw [fX 489 (by decide)]
      omega
    rw [y1]
    refine c11_isTold (CN_fr hc (by rw [fx 2 (by decide), x2]) y518) (CSa_fr hs (by rw [fx 7 (by decide), x7]) y518 y522) (CLa_fr hl (by rw [fx 6 (by decide), x6]) (by rw [fx 12 (by decide), x12]) y518 y521) (by omega) (fun j hj => by rw [y490, ← (t5 j hj).1]; exact (t5 j hj).2) (fun Y oY z => ⟨fun q => by omega, fun _ => PI_i (k0 Y (fun g => z (Good_fr y518 y521 y522 (by rw [y490]; exact Good_eq g (fun j hj => (t5 j hj).1)))) (by rw [← g1]; exact oY))⟩) (fun Y oY z fo => ⟨fun _ => ?_, fun q => by omega⟩)
    have g : Good I (I 27) N := by
      rw [y490] at z
      exact Good_eq (Good_fr y518.symm y521.symm y522.symm z) (fun j hj => ((t5 j hj).1).symm)
    have hn4 : 4 ≤ N := by have := g.2.1; omega
    have cseq : ∀ u : Int, 0 ≤ u → u < I 518 6 → csT (X1 490) u = csT (I 27) u := fun u u0 u1 => by
      rw [y490]
      exact (csT_eq g (fun j hj => (t5 j hj).1) u0 u1).symm
    refine back_lp (I0 := X1) (B := X1 490) (CN_fr hc (by rw [fx 2 (by decide), x2]) y518) (by omega) hn4 (fun j hj => by rw [y490, ← (t5 j hj).1]; exact (t5 j hj).2) (fun Z r1 r2 r3 r4 r5 r6 => ?_) (X1 518 6).toNat 0 Y (by omega) (by rw [y518]; omega) oY.1 fo (fun u u0 u1 => by omega)
    rw [y490, ← (t5 (N - 4) (by omega)).1, ← (t5 (N - 3) (by omega)).1] at r3
    rw [y490, ← (t5 (N - 2) (by omega)).1] at r4
    refine k1 Z g (fun k k1 k2 => by rw [r1 k k1 k2, fx k k2]) (fun j j0 j1 j2 j3 => by rw [r2 j j1 j2 j3, g1, up_j j0, fX 489 (by decide)]) (by rw [r2 1 (by decide) (by decide) (by decide), g1, up_e]) r3 r4 r5 (fun u u0 u1 => ?_)
    have q := r6 u u0 (by rw [y518]; exact u1)
    rw [cseq u u0 u1, wy_fr y518 y521 y522] at q
    exact q
  refine c9_accept hc1 hs1 hl1 (by omega) (fun j hj => by rw [f27]; exact (t5 j hj).2) (by rw [f32]; exact ⟨w5.2.2.1, w5.2.2.2.1⟩) (fun X fX z => ⟨Or.inl rfl, PI_i ?_⟩) (fun X g fX r1 r2 r3 r4 r5 r6 r7 r8 => ⟨Or.inr rfl, PI_i ?_⟩)
  · rw [f27] at z
    have zn : ¬ Good I (I 27) N := fun g => z (Good_fr f518 f521 f522 g)
    have fx : ∀ k, k ≠ 0 → k ≠ 34 → X k = I k := fun k k1 k2 => by rw [fX k k2, f1 k k1]
    refine mod X (fun k hk => fx k (by omega) (by omega)) (fx 2 (by decide) (by decide)) (fx 7 (by decide) (by decide)) (fx 6 (by decide) (by decide)) (fx 12 (by decide) (by decide)) _ (fun Y _ oY => ?_) (fun Y g => absurd g zn)
    have fy : ∀ k, k ≠ 0 → k ≠ 34 → k ≠ 489 → (k < 532 ∨ 535 < k) → Y k = I k := fun k k1 k2 k3 k4 => by
      rw [oY.1 k k4, up_k k3, fx k k1 k2]
    have yj : ∀ j, j ≠ 1 → Y 489 j = I 489 j := fun j hj => by
      rw [oY.1 489 (by decide), up_j hj, fx 489 (by decide) (by decide)]
    have m518 := fy 518 (by decide) (by decide) (by decide) (by decide)
    have m521 := fy 521 (by decide) (by decide) (by decide) (by decide)
    have m522 := fy 522 (by decide) (by decide) (by decide) (by decide)
    have m32 := fy 32 (by decide) (by decide) (by decide) (by decide)
    have m33 := fy 33 (by decide) (by decide) (by decide) (by decide)
    have y0 : ∀ j, Y 0 j = I1 0 j := fun j => by rw [oY.1 0 (by decide), up_k (by decide), fX 0 (by decide)]
    refine h 0 Y cs H ⟨?_, ?_, ?_, ?_, ?_, ?_, ?_⟩ ⟨fun k k1 k2 k3 k4 k5 k6 k7 k8 => fy k k1 k4 k7 (by omega), fun j hj => by rw [y0 j, e1, up_j hj], fun j j1 j2 j3 j4 j5 => yj j j1⟩ ⟨Or.inr ⟨by rw [m32], rfl, fun k k1 k2 => fy k (by omega) (by omega) (by omega) (by omega)⟩, Or.inr ⟨by rw [m32], yj 63 (by decide)⟩, Or.inr ⟨by rw [m32], yj 64 (by decide)⟩⟩ (by rw [y0 12, e1, up_e]) (by rw [oY.1 489 (by decide), up_e])
    · exact ClW_fr w1 m518 m521 m522 m33 b1.2 (fun k k1 k2 => fy k (by omega) (by omega) (by omega) (by omega))
    · refine MoW_fr w2 m518 m521 m522 b1.2 (fun s s0 s1 => by rw [wy_len]; exact (w3.1 s s0 s1).2.1) (fun j hj => ?_) (fun j hj => ?_)
      · rw [oY.2.1 j hj, up_k (by decide), fx 532 (by decide) (by decide)]
      · obtain ⟨q1, q2, q3⟩ := oY.2.2 j hj
        rw [q1, q2, q3, up_k (by decide), up_k (by decide), up_k (by decide), fx 533 (by decide) (by decide), fx 534 (by decide) (by decide), fx 535 (by decide) (by decide)]
        exact ⟨rfl, rfl, rfl⟩
    · rw [yj 63 (by decide), yj 64 (by decide)]
      exact VSn_fr m518 m521 m522 w3
    · rw [m33, yj 63 (by decide), yj 64 (by decide)]
      exact w4
    · exact ClH_fr w5 m518 (by rw [m32]) (by rw [m32]) (fy 35 (by decide) (by decide) (by decide) (by decide))
    · exact MoH_fr w6 m518 m521 m522 (yj 71 (by decide)) (yj 72 (by decide)) (fun k k1 k2 => fy k (by omega) (by omega) (by omega) (by omega))
    · exact fun x hx => VSn_fr m518 m521 m522 (w7 x hx)
  · rw [f27] at g r6 r7 r8
    have gI : Good I (I 27) N := Good_fr f518.symm f521.symm f522.symm g
    have fx : ∀ k, k ≠ 0 → k ≠ 32 → k ≠ 33 → k ≠ 34 → (k < 37 ∨ 56 < k) → X k = I k := fun k k0 k1 k2 k3 k4 => by rw [fX k k1 k2 k3 k4, f1 k k0]
    refine mod X (fun k hk => fx k (by omega) (by omega) (by omega) (by omega) (by omega)) (fx 2 (by decide) (by decide) (by decide) (by decide) (by decide)) (fx 7 (by decide) (by decide) (by decide) (by decide) (by decide)) (fx 6 (by decide) (by decide) (by decide) (by decide) (by decide)) (fx 12 (by decide) (by decide) (by decide) (by decide) (by decide)) _ (fun Y z => absurd gI z) (fun Y _ s1 s2 s3 s4 s5 s6 s7 => ?_)
    have fy : ∀ k, k ≠ 0 → k ≠ 32 → k ≠ 33 → k ≠ 34 → (k < 37 ∨ 56 < k) → k ≠ 489 → (k < 532 ∨ 535 < k) → Y k = I k := fun k k0 k1 k2 k3 k4 k5 k6 => by rw [s1 k k6 k5, fx k k0 k1 k2 k3 k4]
    have m518 := fy 518 (by decide) (by decide) (by decide) (by decide) (by decide) (by decide) (by decide)
    have m521 := fy 521 (by decide) (by decide) (by decide) (by decide) (by decide) (by decide) (by decide)
    have m522 := fy 522 (by decide) (by decide) (by decide) (by decide) (by decide) (by decide) (by decide)
    have x518 := fx 518 (by decide) (by decide) (by decide) (by decide) (by decide)
    have x521 := fx 521 (by decide) (by decide) (by decide) (by decide) (by decide)
    have x522 := fx 522 (by decide) (by decide) (by decide) (by decide) (by decide)
    have m32 : Y 32 = X 32 := s1 32 (by decide) (by decide)
    have m33 : Y 33 = X 33 := s1 33 (by decide) (by decide)
    have hn4 : 4 ≤ N := by have := gI.2.1; omega
    have q4 := (t5 (N - 4) (by omega)).2
    have q3 := (t5 (N - 3) (by omega)).2
    have q2 := (t5 (N - 2) (by omega)).2
    have z1 := gI.2.2.1
    have z2 := gI.2.2.2.1
    have pa := p2_16 b2.1 b2.2
    have pb := p2_le b4.1 b4.2
    have y0 : Y 0 = I1 0 := by rw [s1 0 (by decide) (by decide), fX 0 (by decide) (by decide) (by decide) (by decide)]
    refine h 1 Y (csT (I 27)) [] ⟨?_, ?_, ?_, ?_, ?_, ?_, ?_⟩ ⟨fun k k1 k2 k3 k4 k5 k6 k7 k8 => fy k k1 k2 k3 k4 k6 k7 (by omega), fun j hj => by rw [y0, e1, up_j hj], fun j j1 j2 j3 j4 j5 => s2 j j1 j2 j3 j4⟩ ⟨Or.inl (by rw [m32]; exact r3), Or.inl (by rw [m32]; exact r4), Or.inl (by rw [m32]; exact r5)⟩ (by rw [y0, e1, up_e]) s3
    · exact ClW_fr r6 (by rw [m518, x518]) (by rw [m521, x521]) (by rw [m522, x522]) m33 (by rw [x518]; exact b1.2) (fun k k1 k2 => s1 k (by omega) (by omega))
    · intro u u0 u1
      rw [m518] at u1
      rw [wy_fr m518 m521 m522]
      exact s7 u u0 u1
    · rw [s4, s5]
      refine VSn_fr m518 m521 m522 ⟨fun u u0 u1 => (gI.1 u u0 u1).2, ?_, ?_⟩
      · show 0 ≤ 256 * I 27 (N - 4) + I 27 (N - 3) ∧ 256 * I 27 (N - 4) + I 27 (N - 3) < 65536
        omega
      · show 0 ≤ I 27 (N - 2) ∧ I 27 (N - 2) < oSl 1 (I 518 9)
        omega
    · rw [m33, s4, s5]
      exact ⟨r7, r8⟩
    · refine ⟨by rw [m32, r2]; rfl, by simp, ?_, ?_, fun i x hx => by simp at hx⟩
      · rw [m32, r1, f32]
        exact w5.2.2.1
      · rw [m32, r1, f32]
        exact w5.2.2.2.1
    · refine ⟨by rw [s6]; rfl, by simp, ?_, ?_, fun i x hx => by simp at hx⟩
      · rw [s2 72 (by decide) (by decide) (by decide) (by decide)]
        exact p5.1
      · rw [s2 72 (by decide) (by decide) (by decide) (by decide)]
        exact p5.2.1
    · intro x hx
      simp at hx
end B4
