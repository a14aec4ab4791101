/-- what stays over a told city -/
theorem CYS_f {I Y : HI} {mf : Nat} (h : CYS I Y mf) : (∀ c, (c = 27 ∨ (33 < c ∧ c < 37) ∨ (56 < c ∧ c < 62) ∨ (62 < c ∧ c < 489) ∨ (489 < c ∧ c < 518) ∨ c = 529 ∨ c = 530 ∨ 532 < c) → Y c = I c) ∧ (Y 0 12 = 0 ∧ Y 0 14 = 0 ∧ Y 0 15 = -1 ∧ ∀ j, j ≠ 12 → j ≠ 14 → j ≠ 15 → Y 0 j = I 0 j) ∧ (Y 489 1 = 0 ∧ Y 489 7 = 0 ∧ Y 489 8 = -1 ∧ ∀ j, 72 ≤ j → Y 489 j = I 489 j) ∧ (Y 62 5 = I 62 5 + 1 ∧ Y 32 5 = I 32 5) ∧ (0 ≤ Y 28 11 ∧ Y 28 11 ≤ I 28 11 + 2000) := by
  obtain ⟨F, V, W, Z, XR, C, n, nl, ns, hn, fF, f0, bF, ⟨Y1, Y2, Y3, s1, p1, m1, c2, ⟨b1, b2, b3, b4, b5⟩, eV⟩, iW, ⟨Z1, d1, d2, d3⟩, z5, xr, mo, dv, lC, std, mx⟩ := h
  obtain ⟨i1, i2, ⟨_, w1, _⟩, i4⟩ := iW
  have yv : ∀ c, c < 489 → Y c = V c := fun c hc => by rw [std.1 c (by omega) (by omega) (by omega) (by omega) (by omega), xr, up_k (by omega), up_k (by omega), d2 c (by omega), d1.1 c (by omega) (by omega), i1 c (by omega) (by omega)]
  have yw : ∀ c, 489 < c → c ≠ 531 → c ≠ 532 → (c < 518 ∨ 528 < c) → Y c = V c := fun c hc h1 h2 h3 => by rw [std.1 c (by omega) h1 h2 (by omega) (by omega), xr, up_k (by omega), up_k (by omega), d2 c (by omega), d1.1 c (by omega) (by omega), i1 c (by omega) (by omega)]
  have v1 : ∀ c, c ≠ 62 → c ≠ 32 → c ≠ 33 → (c < 37 ∨ 56 < c) → (c = 0 ∨ 26 < c) → V c = up (up F 0 14 0) 0 15 (-1) c := fun c q1 q2 q3 q4 q5 => by
    rw [eV, up_k q1, b1 c q2 q3 q4, c2.1 c (by omega), s1.1 c (by omega) (by omega)]
  have vF : ∀ c, 26 < c → c ≠ 62 → c ≠ 32 → c ≠ 33 → (c < 37 ∨ 56 < c) → V c = F c := fun c q0 q1 q2 q3 q4 => by
    rw [v1 c q1 q2 q3 q4 (by omega), up_k (by omega), up_k (by omega)]
  have y62 : Y3 62 = F 62 := by rw [b1 62 (by decide) (by decide) (by omega), c2.1 62 (by omega), s1.1 62 (by decide) (by decide), up_k (by decide), up_k (by decide)]
  have yj : ∀ j, (j = 1 ∨ 7 ≤ j) → j ≠ 44 → j ≠ 63 → j ≠ 64 → j ≠ 71 → Y 489 j = up (up Z 489 7 0) 489 8 (-1) 489 j := fun j q0 q1 q2 q3 q4 => by
    rw [std.2.2.1.1 j q1 q2 q3 q4, xr]
  refine ⟨fun c hc => ?_, ⟨?_, ?_, ?_, fun j j1 j2 j3 => ?_⟩, ⟨?_, ?_, ?_, fun j hj => ?_⟩, ⟨?_, ?_⟩, ?_⟩
  · by_cases q : c < 489
    · rw [yv c q, vF c (by omega) (by omega) (by omega) (by omega) (by omega), fF c (by omega)]
    · rw [yw c (by omega) (by omega) (by omega) (by omega), vF c (by omega) (by omega) (by omega) (by omega) (by omega), fF c (by omega)]
  · rw [yv 0 (by decide), v1 0 (by decide) (by decide) (by decide) (by omega) (by omega), up_n (by decide), up_n (by decide)]; exact f0.1
  · rw [yv 0 (by decide), v1 0 (by decide) (by decide) (by decide) (by omega) (by omega), up_n (by decide), up_s]
  · rw [yv 0 (by decide), v1 0 (by decide) (by decide) (by decide) (by omega) (by omega), up_s]
  · rw [yv 0 (by decide), v1 0 (by decide) (by decide) (by decide) (by omega) (by omega), up_n (by omega), up_n (by omega)]; exact f0.2 j j1
  · rw [yj 1 (by omega) (by decide) (by decide) (by decide) (by decide), up_n (by decide), up_n (by decide), d3 1 (by decide), d1.2.2 1 (by decide) (by decide) (by decide) (by decide) (by decide) (by decide) (by decide) (by decide) (by decide) (by decide)]; exact w1
  · rw [yj 7 (by omega) (by decide) (by decide) (by decide) (by decide), up_n (by decide), up_s]
  · rw [yj 8 (by omega) (by decide) (by decide) (by decide) (by decide), up_s]
  · rw [yj j (by omega) (by omega) (by omega) (by omega) (by omega), up_n (by omega), up_n (by omega), d3 j (by omega), d1.2.2 j (by omega) (by omega) (by omega) (by omega) (by omega) (by omega) (by omega) (by omega) (by omega) (by omega), i4 j (by omega) (by omega) (by omega) (by omega), vF 489 (by omega) (by omega) (by omega) (by omega) (by omega), fF 489 (by omega)]
  · rw [yv 62 (by decide), eV, up_s, y62, fF 62 (by omega)]
  · rw [yv 32 (by decide), eV, up_k (by decide), b2 5 (by decide) (by decide) (by decide) (by decide), c2.1 32 (by omega), s1.1 32 (by decide) (by decide), up_k (by decide), up_k (by decide), fF 32 (by omega)]
  · rw [yv 28 (by decide), vF 28 (by omega) (by omega) (by omega) (by omega) (by omega)]; exact bF
theorem oSl_1p {k : Int} (hk : 0 ≤ k) (hk1 : k ≤ 16) : 0 < oSl 1 k := by
  rw [oSl_1 hk (by omega)]
  have := Nat.pow_pos (n := k.toNat) (show 0 < 2 by decide)
  omega
/-- a told city: empty ways, no past, all marked new -/
theorem CYS_W {I Y : HI} {mf : Nat} (h : CYS I Y mf) (h5 : 0 ≤ I 32 5 ∧ I 32 5 < 21) (h72 : 0 ≤ I 489 72 ∧ I 489 72 < 20) : WRel Y (fun _ => []) [] ∧ (Y 32 7 = 1 ∧ Y 32 8 = 1 ∧ Y 32 9 = 1) := by
  have cn := CYS_CN h
  have sa := CYS_CSa h
  have ff := CYS_f h
  obtain ⟨F, V, W, Z, XR, C, n, nl, ns, hn, fF, f0, bF, ⟨Y1, Y2, Y3, s1, p1, m1, c2, ⟨b1, b2, b3, b4, b5⟩, eV⟩, iW, ⟨Z1, d1, d2, d3⟩, z5, xr, mo, dv, lC, std, mx⟩ := h
  have yv : ∀ c, c < 489 → c ≠ 62 → Y c = Y3 c := fun c hc h2 => by rw [std.1 c (by omega) (by omega) (by omega) (by omega) (by omega), xr, up_k (by omega), up_k (by omega), d2 c (by omega), d1.1 c (by omega) (by omega), iW.1 c (by omega) (by omega), eV, up_k h2]
  have e6 : Y 518 6 = ns := by rw [show (6 : Nat) = 5 + 1 from rfl, std.2.1.1.1 1 (by omega), mo.1.1.2]; exact hn.2.2
  obtain ⟨s63, s64, s71⟩ := std.2.2.1.2.2
  have n4 := cn.2.2.1
  have n9 := cn.2.2.2.2.2
  have y33 : ∀ j, j < 102 → Y 33 j = 0 := fun j hj => by rw [yv 33 (by decide) (by decide)]; exact b4 j hj
  refine ⟨⟨fun s s0 s1 => ⟨⟨?_, fun k hk => absurd hk (Nat.not_lt_zero k)⟩, ?_⟩, fun s s0 s1 => ?_, ⟨fun s s0 s1 => ⟨trivial, Nat.zero_le _, by show (0 : Int) ≤ 999; omega⟩, ?_, ?_⟩, ⟨?_, ?_⟩, ⟨?_, Nat.zero_le _, ?_, ?_, fun i x q => ?_⟩, ⟨?_, Nat.zero_le _, ?_, ?_, fun i x q => ?_⟩, fun x q => ?_⟩, ?_, ?_, ?_⟩
  · rw [y33 _ (by omega)]; rfl
  · have tb := b5 s.toNat (by omega)
    have tk : ∀ c, 37 ≤ c → c ≤ 56 → Y c = Y3 c := fun c q1 q2 => yv c (by omega) (by omega)
    obtain ⟨t1, t2, t3, t4, t5, t6⟩ := tb
    have eh : Y2 7 (4 * s.toNat) = hm Y s := by
      have q := sa.1 s 0 s0 s1 (by omega) (by omega)
      rw [show (s * 4 + 0).toNat = 4 * s.toNat from by omega, show (16 + 4 * s + 0).toNat = (16 + 4 * s).toNat from by omega, yv 7 (by decide) (by decide), b1 7 (by decide) (by decide) (by omega)] at q
      exact q
    rw [← tk _ (by omega) (by omega)] at t1 t3 t4 t5 t6
    refine ⟨⟨TRw s0 (by omega), by rw [t1]; exact eh, t3.symm, by show 0 < 25; omega, by omega⟩, by rw [t4]; rfl, by rw [t5]; exact LB_nil, ?_, Or.inl t6⟩
    rw [t6]
    exact ⟨fun q => by omega, fun q => absurd rfl q⟩
  · show (0 : Int) = Y 532 s.toNat
    rw [std.2.2.2.1 s.toNat (by omega)]
  · show 0 ≤ Y 489 63 ∧ Y 489 63 < 65536
    rw [s63]; omega
  · show 0 ≤ Y 489 64 ∧ Y 489 64 < oSl 1 (Y 518 9)
    have := oSl_1p n9.1 (by omega)
    rw [s64]; omega
  · rw [y33 100 (by omega), s63]
  · rw [y33 101 (by omega), s64]
  · show (0 : Int) = Y 32 6
    rw [yv 32 (by decide) (by decide), b3.1]
  · rw [ff.2.2.2.1.2]; exact h5.1
  · rw [ff.2.2.2.1.2]; exact h5.2
  · simp at q
  · show (0 : Int) = Y 489 71
    rw [s71]
  · rw [ff.2.2.1.2.2.2 72 (by omega)]; exact h72.1
  · rw [ff.2.2.1.2.2.2 72 (by omega)]; exact h72.2
  · simp at q
  · simp at q
  · rw [yv 32 (by decide) (by decide)]; exact b3.2.1
  · rw [yv 32 (by decide) (by decide)]; exact b3.2.2.1
  · rw [yv 32 (by decide) (by decide)]; exact b3.2.2.2
theorem CYS_RCu {I Y : HI} {mf : Nat} (h : CYS I Y mf) (r : RCu I) : RCu Y := by
  have ff := CYS_f h
  have e64 : Y 64 = I 64 := ff.1 64 (by omega)
  have e5 := ff.2.2.2.1.1
  refine ⟨fun j hj => ?_, fun a b sl w a0 ab b4 s0 s1 w0 w1 hv => ?_⟩
  · have := r.1 j hj
    rw [e64, e5]; omega
  · have pr := plc_rng a0 ab b4 s0 s1 w0 w1
    have := r.1 (plc a b sl w).toNat (by omega)
    rw [e64, e5] at hv
    omega
