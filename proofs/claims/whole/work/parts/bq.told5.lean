theorem lnS_none (L : Nat → Int) (a b : Int) : ∀ (n : Nat) (l : Int), 0 ≤ l → (∀ k : Int, l ≤ k → k < l + n → ¬ ((L (64 + 4 * k).toNat = a ∧ L (64 + 4 * k + 1).toNat = b) ∨ (L (64 + 4 * k).toNat = b ∧ L (64 + 4 * k + 1).toNat = a))) → lnS L a b n l = -1
  | 0, _, _, _ => rfl
  | n + 1, l, h0, h => by
    unfold lnS
    rw [if_neg (h l (by omega) (by omega))]
    exact lnS_none L a b n (l + 1) (by omega) (fun k k1 k2 => h k (by omega) (by omega))
theorem lnS_some (L : Nat → Int) (a b k : Int) (hk : (L (64 + 4 * k).toNat = a ∧ L (64 + 4 * k + 1).toNat = b) ∨ (L (64 + 4 * k).toNat = b ∧ L (64 + 4 * k + 1).toNat = a)) : ∀ (n : Nat) (l : Int), 0 ≤ l → l ≤ k → k < l + n → (∀ k' : Int, l ≤ k' → k' < k → ¬ ((L (64 + 4 * k').toNat = a ∧ L (64 + 4 * k' + 1).toNat = b) ∨ (L (64 + 4 * k').toNat = b ∧ L (64 + 4 * k' + 1).toNat = a))) → lnS L a b n l = k
  | 0, _, _, _, _, _ => by omega
  | n + 1, l, h0, h1, h2, h => by
    unfold lnS
    by_cases e : l = k
    · subst e
      rw [if_pos hk]
    · rw [if_neg (h l (by omega) (by omega))]
      exact lnS_some L a b k hk n (l + 1) (by omega) (by omega) (by omega) (fun k' k1 k2 => h k' (by omega) (by omega))
theorem CYS_CLa {I Y : HI} {mf : Nat} (h : CYS I Y mf) : CLa Y := by
  obtain ⟨F, XR, C, dv, mo, ⟨e0, e1, e2, e3, e4⟩, cl, std, _⟩ := CYS_r h
  have r : ∀ j, j < 64 → Y 521 (64 + j) = XR 521 j := std.2.1.2.2.2.1.1
  have g1 := dv.1.1
  have g2 := dv.1.2.1
  have row : ∀ s j : Int, 0 ≤ s → s < F 15 1 → 0 ≤ j → j < 4 → Y 521 (64 + 4 * s + j).toNat = F 19 (4 * s.toNat + j.toNat) := fun s j s0 s1 j0 j1 => by
    rw [show (64 + 4 * s + j).toNat = 64 + (4 * s.toNat + j.toNat) from by omega, r _ (by omega)]
    exact mo.2.2.1.2.1 _ (by omega)
  have row0 : ∀ s : Int, 0 ≤ s → s < F 15 1 → Y 521 (64 + 4 * s).toNat = F 19 (4 * s.toNat) := fun s s0 s1 => by
    have a0 := row s 0 s0 s1 (by omega) (by omega)
    rw [show (64 + 4 * s + 0).toNat = (64 + 4 * s).toNat from by omega] at a0
    exact a0
  have row1 : ∀ s : Int, 0 ≤ s → s < F 15 1 → Y 521 (64 + 4 * s + 1).toNat = F 19 (4 * s.toNat + 1) := fun s s0 s1 => row s 1 s0 s1 (by omega) (by omega)
  refine ⟨fun s j s0 s1 j0 j1 => ?_, fun s s0 s1 => ?_, fun a b a0 a1 b0 b1 => ?_⟩
  · rw [e2] at s1
    rw [row s j s0 s1 j0 j1, cl 6 _ (by omega) (by omega) (by show (s * 4 + j).toNat < 64; omega), show (s * 4 + j).toNat = 4 * s.toNat + j.toNat from by omega]
  · rw [e2] at s1
    obtain ⟨d1, d2, d3, d4, d5⟩ := dv.2.2.1 s.toNat (by omega)
    rw [row0 s s0 s1, row1 s s0 s1, row s 2 s0 s1 (by omega) (by omega), row s 3 s0 s1 (by omega) (by omega), e0]
    exact ⟨d1, d2, d4, d5⟩
  · rw [e0] at a1 b1
    rw [cl 12 _ (by omega) (by omega) (by show (a * 10 + b).toNat < 100; omega), show (a * 10 + b).toNat = 10 * a.toNat + b.toNat from by omega]
    show F 25 (10 * a.toNat + b.toNat) = lnS (Y 521) a b (Y 518 7).toNat 0
    rw [e2]
    have jn : ∀ s : Int, 0 ≤ s → s < F 15 1 → (((Y 521 (64 + 4 * s).toNat = a ∧ Y 521 (64 + 4 * s + 1).toNat = b) ∨ (Y 521 (64 + 4 * s).toNat = b ∧ Y 521 (64 + 4 * s + 1).toNat = a)) ↔ jns (F 19) s.toNat a b) := fun s s0 s1 => by
      rw [row0 s s0 s1, row1 s s0 s1]
      exact Iff.rfl
    have ea : ((a.toNat : Nat) : Int) = a := by omega
    have eb : ((b.toNat : Nat) : Int) = b := by omega
    rcases dv.2.2.2.1 a.toNat b.toNat (by omega) (by omega) with ⟨q1, q2⟩ | ⟨l, l1, q1, q2, q3⟩
    · rw [ea, eb] at q2
      rw [q1, lnS_none (Y 521) a b (F 15 1).toNat 0 (by omega) (fun k k0 k1 z => q2 k.toNat (by omega) ((jn k k0 (by omega)).mp z))]
    · rw [ea, eb] at q2 q3
      rw [q1]
      refine (lnS_some (Y 521) a b (l : Int) ((jn (l : Int) (by omega) l1).mpr (by rw [Int.toNat_natCast]; exact q2)) (F 15 1).toNat 0 (by omega) (by omega) (by omega) (fun k k0 k1 z => q3 k.toNat (by omega) ((jn k k0 (by omega)).mp z))).symm
theorem bl_list {B : Nat → Int} : ∀ (c : List Int) (p : Nat), (∀ k, k < c.length → B (p + k) = c.getD k 0) → bl B p c.length = c
  | [], _, _ => rfl
  | x :: c, p, h => by
    show B p :: bl B (p + 1) c.length = x :: c
    have h0 : B p = x := h 0 (by simp)
    rw [h0, bl_list c (p + 1) (fun k hk => by
      have := h (k + 1) (by simp; omega)
      rw [show p + 1 + k = p + (k + 1) from by omega, this]
      rfl)]
theorem getD_mid (A c B : List Int) (k : Nat) (hk : k < c.length) : (A ++ (c ++ B)).getD (A.length + k) 0 = c.getD k 0 := by
  rw [List.getD_eq_getElem?_getD, List.getD_eq_getElem?_getD, List.getElem?_append_right (by omega), Nat.add_sub_cancel_left, List.getElem?_append_left hk]
theorem getD_tr (c : List Int) (k : Nat) (hk : k < c.length) : (c.map tr).getD k 0 = tr (c.getD k 0) := by
  rw [List.getD_eq_getElem?_getD, List.getD_eq_getElem?_getD, List.getElem?_map, List.getElem?_eq_getElem hk]
  rfl
theorem CYS_CCo {I Y : HI} {mf : Nat} (h : CYS I Y mf) : CCo Y := by
  obtain ⟨F, XR, C, n, nl, ns, hn, dv, mo, lC, cl, c1, _, std, _⟩ := CYS_c h
  have e4 : Y 518 9 = F 15 4 := by rw [show (9 : Nat) = 5 + 4 from rfl, std.2.1.1.1 4 (by omega)]; exact mo.2.1.2.2
  have r6 : ∀ j, j < 6 → Y 526 (6 + j) = XR 526 j := std.2.1.2.2.2.2.2.2.1.1
  have r7 : ∀ j, j < 6 → Y 527 (6 + j) = XR 527 j := std.2.1.2.2.2.2.2.2.2.1.1
  have r4 : ∀ j, j < C.length → Y 524 (1600 + j) = XR 524 j := std.2.1.2.2.2.2.2.2.2.2.2.1
  have g5 := dv.1.2.2.2.2
  have m6 := mo.2.2.2.2.1
  have m7 := mo.2.2.2.2.2.1.2
  have m8 := mo.2.2.2.2.2.2.1
  intro k k0 k1
  rw [e4] at k1
  obtain ⟨A, c, B, eC, f1, f2, wc⟩ := (dv.2.2.2.2.2.2.2 k.toNat (by omega)).2
  have lc : C.length = A.length + (c.length + B.length) := by rw [eC]; simp
  have a6 : Y 526 (6 + k).toNat = A.length := by
    rw [show (6 + k).toNat = 6 + k.toNat from by omega, r6 _ (by omega), (m6 k.toNat (by omega)).2.1, f1]
  have a7 : Y 527 (6 + k).toNat = (A.length : Int) + c.length := by
    rw [show (6 + k).toNat = 6 + k.toNat from by omega, r7 _ (by omega), (m6 k.toNat (by omega)).2.2, f2]
  have a10 : Y 10 k.toNat = A.length := by rw [cl 10 _ (by omega) (by omega) (by show k.toNat < 7; omega)]; exact f1
  have a11 : Y 10 (k + 1).toNat = (A.length : Int) + c.length := by
    rw [cl 10 _ (by omega) (by omega) (by show (k + 1).toNat < 7; omega), show (k + 1).toNat = k.toNat + 1 from by omega]; exact f2
  have mc : mcode Y k = c := by
    unfold mcode
    rw [a6, a7, show ((A.length : Int) + c.length).toNat - ((A.length : Int)).toNat = c.length from by omega, Int.toNat_natCast]
    refine bl_list c _ (fun j hj => ?_)
    rw [Nat.add_assoc, r4 _ (by omega), m7 _ (by omega), eC]
    exact getD_mid A c B j hj
  rw [mc, a6, a7, a10, a11]
  refine ⟨⟨by omega, by omega, by omega⟩, ⟨by omega, by omega, rfl⟩, ?_, wc⟩
  rw [Int.toNat_natCast]
  have lm : (c.map tr).length = c.length := List.length_map ..
  have := bl_list (B := Y 9) (c.map tr) A.length (fun j hj => by
    rw [lm] at hj
    rw [cl 9 _ (by omega) (by omega) (by show A.length + j < 1600; omega), getD_tr c j hj]
    show F 22 (A.length + j) = tr (c.getD j 0)
    rw [m8.2 _ (by omega), eC, getD_mid A c B j hj])
  rw [lm] at this
  exact this
