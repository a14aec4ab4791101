/-- a told city: the class's rows and the reference's rows, both against the draft F -/
theorem CYS_c {I Y : HI} {mf : Nat} (h : CYS I Y mf) : ∃ (F XR : HI) (C : List Int) (n nl ns : Nat), (F 15 0 = n ∧ F 15 1 = nl ∧ F 15 2 = ns) ∧ DRV F C ∧ Mdr XR F C ∧ C.length ≤ 1600 ∧ (∀ k j, 2 ≤ k → k ≤ 12 → j < rsz k → Y k j = F (k + 13) j) ∧ (Y 1 12 = parS (fun u => F 18 (u - 10)) n 0 0 ∧ Y 1 13 = F 14 13) ∧ MX (Y 13) n (fwn (lnk (fun l => F 19 (4 * l)) (fun l => F 19 (4 * l + 1)) (fun l => F 19 (4 * l + 3)) nl) n) ∧ STD XR Y C.length ∧ MX (Y 531) 10 (fwn (lnk (fun l => XR 521 (4 * l)) (fun l => XR 521 (4 * l + 1)) (fun l => XR 521 (4 * l + 3)) nl) 10) := by
  obtain ⟨F, V, W, Z, XR, C, n, nl, ns, hn, fF, f0, bF, ⟨Y1, Y2, Y3, s1, p1, m1, c2, ⟨b1, b2, b3, b4, b5⟩, eV⟩, iW, ⟨Z1, d1, d2, d3⟩, z5, xr, mo, dv, lC, std, mx⟩ := h
  have yv : ∀ c, c < 489 → Y c = V c := fun c hc => by rw [std.1 c (by omega) (by omega) (by omega) (by omega) (by omega), xr, up_k (by omega), up_k (by omega), d2 c (by omega), d1.1 c (by omega) (by omega), iW.1 c (by omega) (by omega)]
  have v2 : ∀ c, c < 14 → V c = Y2 c := fun c hc => by rw [eV, up_k (by omega), b1 c (by omega) (by omega) (by omega)]
  have n10 : n ≤ 10 := by have := dv.1.1; omega
  refine ⟨F, XR, C, n, nl, ns, hn, dv, mo, lC, fun k j k2 k12 hj => ?_, ⟨?_, ?_⟩, fun a b ha hb => ?_, std, mx⟩
  · rw [yv k (by omega), v2 k (by omega), c2.2.2.2 k j k2 (by omega) hj, s1.1 (k + 13) (by omega) (by omega), up_k (by omega), up_k (by omega)]
  · rw [yv 1 (by omega), v2 1 (by omega), c2.2.2.1.1]; exact p1
  · rw [yv 1 (by omega), v2 1 (by omega), c2.2.2.1.2, s1.2 13 (by decide), up_k (by decide), up_k (by decide)]
  · rw [yv 13 (by omega), v2 13 (by omega), c2.2.2.2 13 (10 * a + b) (by omega) (by omega) (by show 10 * a + b < 100; omega)]
    exact m1 a b ha hb
theorem CYS_CN {I Y : HI} {mf : Nat} (h : CYS I Y mf) : CN Y := by
  obtain ⟨F, XR, C, n, nl, ns, hn, dv, mo, lC, cl, _, _, std, _⟩ := CYS_c h
  have r := std.2.1.1.1
  have q0 := cl 2 0 (by omega) (by omega) (by decide)
  have q1 := cl 2 1 (by omega) (by omega) (by decide)
  have q2 := cl 2 2 (by omega) (by omega) (by decide)
  have q3 := cl 2 3 (by omega) (by omega) (by decide)
  have q4 := cl 2 4 (by omega) (by omega) (by decide)
  have e0 : Y 518 5 = F 15 0 := by rw [show (5 : Nat) = 5 + 0 from rfl, r 0 (by omega)]; exact mo.1.1.1
  have e1 : Y 518 6 = F 15 2 := by rw [show (6 : Nat) = 5 + 1 from rfl, r 1 (by omega)]; exact mo.1.1.2
  have e2 : Y 518 7 = F 15 1 := by rw [show (7 : Nat) = 5 + 2 from rfl, r 2 (by omega)]; exact mo.2.1.1
  have e3 : Y 518 8 = F 15 3 := by rw [show (8 : Nat) = 5 + 3 from rfl, r 3 (by omega)]; exact mo.2.1.2.1
  have e4 : Y 518 9 = F 15 4 := by rw [show (9 : Nat) = 5 + 4 from rfl, r 4 (by omega)]; exact mo.2.1.2.2
  obtain ⟨g1, g2, g3, g4, g5⟩ := dv.1
  exact ⟨⟨by rw [q0, e0], by rw [q1, e2], by rw [q2, e1], by rw [q3, e3], by rw [q4, e4]⟩, by rw [e0]; exact g1, by rw [e1]; exact g3, by rw [e2]; exact g2, by rw [e3]; exact g4, by rw [e4]; exact g5⟩
