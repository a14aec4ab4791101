/-- the reference's rows against the draft -/
theorem CYS_r {I Y : HI} {mf : Nat} (h : CYS I Y mf) : ∃ (F XR : HI) (C : List Int), DRV F C ∧ Mdr XR F C ∧ (Y 518 5 = F 15 0 ∧ Y 518 6 = F 15 2 ∧ Y 518 7 = F 15 1 ∧ Y 518 8 = F 15 3 ∧ Y 518 9 = F 15 4) ∧ (∀ k j, 2 ≤ k → k ≤ 12 → j < rsz k → Y k j = F (k + 13) j) ∧ STD XR Y C.length ∧ (Y 1 13 = F 14 13) := by
  obtain ⟨F, XR, C, n, nl, ns, hn, dv, mo, lC, cl, c1, _, std, _⟩ := CYS_c h
  have r := std.2.1.1.1
  refine ⟨F, XR, C, dv, mo, ⟨?_, ?_, ?_, ?_, ?_⟩, cl, std, c1.2⟩
  · rw [show (5 : Nat) = 5 + 0 from rfl, r 0 (by omega)]; exact mo.1.1.1
  · rw [show (6 : Nat) = 5 + 1 from rfl, r 1 (by omega)]; exact mo.1.1.2
  · rw [show (7 : Nat) = 5 + 2 from rfl, r 2 (by omega)]; exact mo.2.1.1
  · rw [show (8 : Nat) = 5 + 3 from rfl, r 3 (by omega)]; exact mo.2.1.2.1
  · rw [show (9 : Nat) = 5 + 4 from rfl, r 4 (by omega)]; exact mo.2.1.2.2
theorem CYS_CSa {I Y : HI} {mf : Nat} (h : CYS I Y mf) : CSa Y := by
  obtain ⟨F, XR, C, dv, mo, ⟨e0, e1, e2, e3, e4⟩, cl, std, _⟩ := CYS_r h
  have r : ∀ j, j < 16 → Y 522 (16 + j) = XR 522 j := std.2.1.2.2.2.2.1.1
  have g3 := dv.1.2.2.1
  have row : ∀ s j : Int, 0 ≤ s → s < F 15 2 → 0 ≤ j → j < 4 → Y 522 (16 + 4 * s + j).toNat = F 20 (4 * s.toNat + j.toNat) := fun s j s0 s1 j0 j1 => by
    rw [show (16 + 4 * s + j).toNat = 16 + (4 * s.toNat + j.toNat) from by omega, r _ (by omega)]
    exact mo.2.2.1.2.2.1 _ (by omega)
  refine ⟨fun s j s0 s1 j0 j1 => ?_, fun s s0 s1 => ?_⟩
  · rw [e1] at s1
    rw [row s j s0 s1 j0 j1, cl 7 _ (by omega) (by omega) (by show (s * 4 + j).toNat < 16; omega), show (s * 4 + j).toNat = 4 * s.toNat + j.toNat from by omega]
  · rw [e1] at s1
    have d := dv.2.2.2.2.1 s.toNat (by omega)
    have a0 := row s 0 s0 s1 (by omega) (by omega)
    rw [show (16 + 4 * s + 0).toNat = (16 + 4 * s).toNat from by omega] at a0
    rw [a0, row s 1 s0 s1 (by omega) (by omega), row s 2 s0 s1 (by omega) (by omega), row s 3 s0 s1 (by omega) (by omega), e0]
    exact d
theorem CYS_CRa {I Y : HI} {mf : Nat} (h : CYS I Y mf) : CRa Y := by
  obtain ⟨F, XR, C, dv, mo, _, cl, std, e13⟩ := CYS_r h
  have e44 : Y 489 44 = F 14 13 := by rw [std.2.2.1.2.1]; exact mo.2.2.2.1
  exact ⟨by rw [e13, e44], by rw [e44]; exact dv.2.2.2.2.2.2.1.1⟩
theorem CYS_CPa {I Y : HI} {mf : Nat} (h : CYS I Y mf) : CPa Y := by
  obtain ⟨F, XR, C, dv, mo, ⟨e0, e1, e2, e3, e4⟩, cl, std, _⟩ := CYS_r h
  have r : ∀ j, j < 10 → Y 520 (10 + j) = XR 520 j := std.2.1.2.2.1.1
  have g1 := dv.1.1
  intro c c0 c1
  rw [e0] at c1
  have row : Y 520 (10 + c).toNat = F 18 c.toNat := by
    rw [show (10 + c).toNat = 10 + c.toNat from by omega, r _ (by omega)]
    exact mo.2.2.1.1 _ (by omega)
  rw [row, cl 5 _ (by omega) (by omega) (by show c.toNat < 10; omega)]
  exact ⟨rfl, dv.2.1 c.toNat (by omega)⟩
theorem CYS_CBa {I Y : HI} {mf : Nat} (h : CYS I Y mf) : CBa Y ∧ CBm Y := by
  obtain ⟨F, XR, C, dv, mo, ⟨e0, e1, e2, e3, e4⟩, cl, std, _⟩ := CYS_r h
  have r : ∀ j, j < 40 → Y 523 (40 + j) = XR 523 j := std.2.1.2.2.2.2.2.1.1
  have g4 := dv.1.2.2.2.1
  have row : ∀ s j : Int, 0 ≤ s → s < F 15 3 → 0 ≤ j → j < 4 → Y 523 (40 + 4 * s + j).toNat = F 21 (4 * s.toNat + j.toNat) := fun s j s0 s1 j0 j1 => by
    rw [show (40 + 4 * s + j).toNat = 40 + (4 * s.toNat + j.toNat) from by omega, r _ (by omega)]
    exact mo.2.2.1.2.2.2 _ (by omega)
  refine ⟨⟨fun s j s0 s1 j0 j1 => ?_, fun s s0 s1 => ?_⟩, fun s s0 s1 => ?_⟩
  · rw [e3] at s1
    rw [row s j s0 s1 j0 j1, cl 8 _ (by omega) (by omega) (by show (s * 4 + j).toNat < 40; omega), show (s * 4 + j).toNat = 4 * s.toNat + j.toNat from by omega]
  · rw [e3] at s1
    rw [row s 3 s0 s1 (by omega) (by omega)]
    exact (dv.2.2.2.2.2.1 s.toNat (by omega)).2
  · rw [e3] at s1
    rw [row s 1 s0 s1 (by omega) (by omega), row s 2 s0 s1 (by omega) (by omega)]
    exact (dv.2.2.2.2.2.1 s.toNat (by omega)).1
