theorem iE_z {k : Nat} (h : csE11.2.2.getD k [] = []) (j : Nat) : iE k j = 0 := by
  show (csE11.2.2.getD k []).getD j 0 = 0
  rw [h]
  rfl
theorem iE_ow : ∀ w, w < 27 → ∀ k, k < wln w → iE (491 + w) k = ow (8 * w + k) := by decide +kernel
theorem iE_a : (iE 0 12 = 0 ∧ iE 0 13 = 0 ∧ iE 0 14 = 0 ∧ iE 0 15 = -1) ∧ (iE 489 1 = 0 ∧ iE 489 7 = 0 ∧ iE 489 8 = -1 ∧ iE 489 90 = 0) ∧ (iE 489 44 = -1 ∧ iE 489 63 = 0 ∧ iE 489 64 = 0 ∧ iE 489 71 = 0 ∧ iE 489 72 = 0) ∧ (iE 1 12 = 0 ∧ iE 1 13 = -1) ∧ (iE 2 0 = 0 ∧ iE 2 1 = 0 ∧ iE 2 2 = 0 ∧ iE 2 3 = 0 ∧ iE 2 4 = 0) := by decide +kernel
theorem iE_b : (iE 518 5 = 0 ∧ iE 518 6 = 0 ∧ iE 518 7 = 0 ∧ iE 518 8 = 0 ∧ iE 518 9 = 0) ∧ (iE 33 100 = 0 ∧ iE 33 101 = 0) ∧ (iE 32 5 = 0 ∧ iE 32 6 = 0 ∧ iE 32 8 = 1 ∧ iE 32 9 = 1) ∧ (iE 62 5 = 1 ∧ iE 67 5 = 0 ∧ iE 69 11 = 0 ∧ iE 28 11 = 0) ∧ (iE 477 11 = -1 ∧ iE 477 12 = 0) := by decide +kernel
theorem iE_64 (j : Nat) : iE 64 j = 0 := iE_z (by decide +kernel) j
theorem iE_68 (j : Nat) : iE 68 j = 0 := iE_z (by decide +kernel) j
theorem iE_76 (j : Nat) : iE 76 j = 0 := iE_z (by decide +kernel) j
theorem iE_STC : STC iE := by
  obtain ⟨⟨a1, a2, a3, a4⟩, ⟨b1, b2, b3, b4⟩, ⟨c1, c2, c3, c4, c5⟩, ⟨d1, d2⟩, e1, e2, e3, e4, e5⟩ := iE_a
  obtain ⟨⟨f1, f2, f3, f4, f5⟩, _⟩ := iE_b
  refine ⟨⟨?_, ⟨fun s j s0 s1 => by omega, fun s s0 s1 => by omega⟩, ⟨fun s j s0 s1 => by omega, fun s s0 s1 => by omega, fun a b p0 p1 => by omega⟩, fun a b p0 p1 => by omega, ⟨by rw [d2, c1], by omega, by omega⟩, fun k k0 k1 => by omega, fun c p0 p1 => by omega, ?_, fun e p0 p1 => by omega⟩, ⟨fun w w0 w1 => by omega, fun w w0 w1 => by omega⟩, ⟨fun s j s0 s1 => by omega, fun s s0 s1 => by omega⟩, fun s s0 s1 => by omega⟩
  · unfold CN
    omega
  · show iE 1 12 = parS (iE 520) (iE 518 5).toNat 0 0
    rw [d1, f1]
    rfl
theorem iE_DYN : DYN iE (fun _ => []) [] := by
  obtain ⟨⟨a1, a2, a3, a4⟩, ⟨b1, b2, b3, b4⟩, ⟨c1, c2, c3, c4, c5⟩, ⟨d1, d2⟩, e1, e2, e3, e4, e5⟩ := iE_a
  obtain ⟨⟨f1, f2, f3, f4, f5⟩, ⟨g1, g2⟩, ⟨g3, g4, g5, g6⟩, ⟨k1, k2, k3, k4⟩, k5, k6⟩ := iE_b
  refine ⟨⟨fun s s0 s1 => by omega, fun s s0 s1 => by omega, ⟨fun s s0 s1 => by omega, ?_, ?_⟩, ⟨by rw [g1, c2], by rw [g2, c3]⟩, ⟨?_, Nat.zero_le _, by omega, by omega, fun i x q => ?_⟩, ⟨?_, Nat.zero_le _, by omega, by omega, fun i x q => ?_⟩, fun x q => ?_⟩, ⟨fun z => by omega, fun j _ i _ z => ?_, fun z => by omega⟩, ⟨by omega, fun z => absurd k5 z⟩, ⟨fun j _ => ?_, fun a b sl w _ _ _ _ _ _ _ _ e p0 p1 => by omega⟩⟩
  · dsimp only
    omega
  · dsimp only
    have := oSl_1p (k := iE 518 9) (by omega) (by omega)
    omega
  · show (0 : Int) = iE 32 6
    omega
  · simp at q
  · show (0 : Int) = iE 489 71
    omega
  · simp at q
  · simp at q
  · rw [iE_76, lb_0] at z
    exact absurd z (by decide)
  · rw [iE_64]
    omega
theorem R_iE (n : Nat) (hn : n ≤ 3073) : REL n iE := by
  obtain ⟨⟨a1, a2, a3, a4⟩, ⟨b1, b2, b3, b4⟩, _⟩ := iE_a
  obtain ⟨_, _, _, ⟨k1, k2, k3, k4⟩, _⟩ := iE_b
  refine ⟨⟨iE_STC, ⟨?_, ⟨by rw [a2, b4], by omega, by omega, fun k k0 k1 => by omega⟩, ⟨by rw [a3, b2], by rw [a4, b3]⟩, fun w hw k hk => iE_ow w (by omega) k hk⟩, ⟨⟨by omega, fun j _ => ?_⟩, by omega⟩, ⟨by omega, by omega⟩, ⟨by omega, by omega⟩, by omega, by omega⟩, _, _, iE_DYN⟩
  · rw [a1, b1]
    exact ⟨rfl, by omega, by omega, fun j hj => by omega⟩
  · rw [iE_68]
    omega
