theorem CYS_CSo {I Y : HI} {mf : Nat} (h : CYS I Y mf) : CSo Y := by
  obtain ⟨F, XR, C, n, nl, ns, hn, dv, mo, lC, cl, c1, m13, std, m31⟩ := CYS_c h
  have r8 := std.2.1.1.1
  have g1 := dv.1.1
  have g2 := dv.1.2.1
  have e0 : Y 518 5 = n := by rw [show (5 : Nat) = 5 + 0 from rfl, r8 0 (by omega), mo.1.1.1]; exact hn.1
  have hL : LNo n nl (fun l => F 19 (4 * l)) (fun l => F 19 (4 * l + 1)) (fun l => F 19 (4 * l + 3)) := fun l hl => by
    have := dv.2.2.1 l (by omega)
    dsimp only
    omega
  have ec : lnk (fun l => XR 521 (4 * l)) (fun l => XR 521 (4 * l + 1)) (fun l => XR 521 (4 * l + 3)) nl = lnk (fun l => F 19 (4 * l)) (fun l => F 19 (4 * l + 1)) (fun l => F 19 (4 * l + 3)) nl := lnk_congr nl (fun i hi => ⟨mo.2.2.1.2.1 _ (by omega), mo.2.2.1.2.1 _ (by omega), mo.2.2.1.2.1 _ (by omega)⟩)
  rw [ec] at m31
  obtain ⟨s1, s2⟩ := sound_eq (by omega) hL
  intro a b a0 a1 b0 b1
  rw [e0] at a1 b1
  have fw := s1 a.toNat b.toNat (by omega) (by omega)
  have q1 : Y 13 (a * 10 + b).toNat = fwn (lnk (fun l => F 19 (4 * l)) (fun l => F 19 (4 * l + 1)) (fun l => F 19 (4 * l + 3)) nl) n a.toNat b.toNat := by
    rw [show (a * 10 + b).toNat = 10 * a.toNat + b.toNat from by omega]; exact m13 _ _ (by omega) (by omega)
  have q2 : Y 531 (10 * a + b).toNat = fwn (lnk (fun l => F 19 (4 * l)) (fun l => F 19 (4 * l + 1)) (fun l => F 19 (4 * l + 3)) nl) 10 a.toNat b.toNat := by
    rw [show (10 * a + b).toNat = 10 * a.toNat + b.toNat from by omega]; exact m31 _ _ (by omega) (by omega)
  have q3 : Y 531 (10 * b + a).toNat = fwn (lnk (fun l => F 19 (4 * l)) (fun l => F 19 (4 * l + 1)) (fun l => F 19 (4 * l + 3)) nl) 10 b.toNat a.toNat := by
    rw [show (10 * b + a).toNat = 10 * b.toNat + a.toNat from by omega]; exact m31 _ _ (by omega) (by omega)
  have q4 := s2 a.toNat b.toNat (by omega) (by omega)
  rw [q1, q2, q3, q4]
  rw [q4] at fw
  obtain ⟨f1, f2, f3⟩ := fw
  refine ⟨rfl, ?_, ?_, ?_⟩
  · omega
  · omega
  · omega
