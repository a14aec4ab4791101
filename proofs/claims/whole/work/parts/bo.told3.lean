theorem CYS_CWo {I Y : HI} {mf : Nat} (h : CYS I Y mf) : CWo Y := by
  obtain ⟨F, XR, C, dv, mo, ⟨e0, e1, e2, e3, e4⟩, cl, std, _⟩ := CYS_r h
  have r : ∀ j, j < 6 → Y 528 (6 + j) = XR 528 j := std.2.1.2.2.2.2.2.2.2.2.1.1
  have g5 := dv.1.2.2.2.2
  intro c c0 c1
  rw [e4] at c1
  have row : Y 528 (6 + c).toNat = F 24 c.toNat := by
    rw [show (6 + c).toNat = 6 + c.toNat from by omega, r _ (by omega)]
    exact (mo.2.2.2.2.1 _ (by omega)).1
  rw [row, cl 11 _ (by omega) (by omega) (by show c.toNat < 6; omega)]
  exact ⟨rfl, (dv.2.2.2.2.2.2.2 c.toNat (by omega)).1⟩
theorem CYS_CNa {I Y : HI} {mf : Nat} (h : CYS I Y mf) : CNa Y := by
  obtain ⟨F, XR, C, dv, mo, ⟨e0, e1, e2, e3, e4⟩, cl, std, _⟩ := CYS_r h
  have r : ∀ j, j < 20 → Y 519 (20 + j) = XR 519 j := std.2.1.2.1.1
  have g1 := dv.1.1
  have g3 := dv.1.2.2.1
  refine ⟨fun w w0 w1 => ?_, fun w w0 w1 => ?_⟩
  · rw [e0] at w1
    rw [show (20 + 10 * 0 + w).toNat = 20 + w.toNat from by omega, r _ (by omega)]
    refine NM_cg (mo.1.2.2.2.1 w.toNat (by omega)) (fun k hk => ?_)
    show Y 3 (w * 6 + k).toNat = F 16 (6 * w.toNat + k)
    rw [cl 3 _ (by omega) (by omega) (by show (w * 6 + k).toNat < 60; omega), show (w * 6 + (k : Int)).toNat = 6 * w.toNat + k from by omega]
  · rw [e1] at w1
    rw [show (20 + 10 * 1 + w).toNat = 20 + (10 + w.toNat) from by omega, r _ (by omega)]
    refine NM_cg (mo.1.2.2.2.2 w.toNat (by omega)) (fun k hk => ?_)
    show Y 4 (w * 6 + k).toNat = F 17 (6 * w.toNat + k)
    rw [cl 4 _ (by omega) (by omega) (by show (w * 6 + k).toNat < 24; omega), show (w * 6 + (k : Int)).toNat = 6 * w.toNat + k from by omega]
theorem parS_cg {P Q : Nat → Int} : ∀ (n : Nat) (c a : Int), 0 ≤ c → (∀ k : Int, c ≤ k → k < c + n → P (10 + k).toNat = Q (10 + k).toNat) → parS P n c a = parS Q n c a
  | 0, _, _, _, _ => rfl
  | n + 1, c, a, c0, h => by
    show parS P n (c + 1) (oO a (oSl 1 (P (10 + c).toNat))) = parS Q n (c + 1) (oO a (oSl 1 (Q (10 + c).toNat)))
    rw [h c (by omega) (by omega)]
    exact parS_cg n (c + 1) _ (by omega) (fun k k1 k2 => h k (by omega) (by omega))
theorem CYS_CPb {I Y : HI} {mf : Nat} (h : CYS I Y mf) : CPb Y := by
  obtain ⟨F, XR, C, n, nl, ns, hn, dv, mo, lC, cl, c1, _, std, _⟩ := CYS_c h
  have r : ∀ j, j < 10 → Y 520 (10 + j) = XR 520 j := std.2.1.2.2.1.1
  have r8 := std.2.1.1.1
  have g1 := dv.1.1
  have e0 : Y 518 5 = n := by rw [show (5 : Nat) = 5 + 0 from rfl, r8 0 (by omega), mo.1.1.1]; exact hn.1
  show Y 1 12 = parS (Y 520) (Y 518 5).toNat 0 0
  rw [c1.1, e0, Int.toNat_natCast]
  refine parS_cg n 0 0 (by omega) (fun k k0 k1 => ?_)
  show F 18 ((10 + k).toNat - 10) = Y 520 (10 + k).toNat
  rw [show (10 + k).toNat = 10 + k.toNat from by omega, r _ (by omega), Nat.add_sub_cancel_left]
  exact (mo.2.2.1.1 _ (by omega)).symm
