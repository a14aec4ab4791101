/-- which lane joins two corners, as the class keeps it -/
def DBv (I : HI) : Prop := ∀ a b : Nat, a < 10 → b < 10 → (I 25 (10 * a + b) = -1 ∧ ∀ l : Nat, (l : Int) < I 15 1 → ¬ jns (I 19) l a b) ∨ (∃ l : Nat, (l : Int) < I 15 1 ∧ I 25 (10 * a + b) = l ∧ jns (I 19) l a b ∧ ∀ l', l' < l → ¬ jns (I 19) l' a b)
/-- the class's draft is a city -/
def DRV (I : HI) (C : List Int) : Prop := CRg I ∧ (∀ u : Nat, (u : Int) < I 15 0 → 1 ≤ I 18 u ∧ I 18 u ≤ 9) ∧ (∀ l : Nat, (l : Int) < I 15 1 → (0 ≤ I 19 (4 * l) ∧ I 19 (4 * l) < I 15 0) ∧ (0 ≤ I 19 (4 * l + 1) ∧ I 19 (4 * l + 1) < I 15 0) ∧ I 19 (4 * l) ≠ I 19 (4 * l + 1) ∧ (1 ≤ I 19 (4 * l + 2) ∧ I 19 (4 * l + 2) ≤ 9) ∧ (0 ≤ I 19 (4 * l + 3) ∧ I 19 (4 * l + 3) ≤ 9)) ∧ DBv I ∧ (∀ s : Nat, (s : Int) < I 15 2 → (0 ≤ I 20 (4 * s) ∧ I 20 (4 * s) < I 15 0) ∧ (1 ≤ I 20 (4 * s + 1) ∧ I 20 (4 * s + 1) ≤ 5) ∧ (0 ≤ I 20 (4 * s + 2) ∧ I 20 (4 * s + 2) ≤ 20) ∧ (0 ≤ I 20 (4 * s + 3) ∧ I 20 (4 * s + 3) ≤ 99)) ∧ (∀ b : Nat, (b : Int) < I 15 3 → (0 ≤ I 21 (4 * b + 1) ∧ I 21 (4 * b + 1) ≤ I 21 (4 * b + 2) ∧ I 21 (4 * b + 2) ≤ 999) ∧ (1 ≤ I 21 (4 * b + 3) ∧ I 21 (4 * b + 3) ≤ 99)) ∧ ((-1 ≤ I 14 13 ∧ I 14 13 ≤ 999) ∧ I 14 12 = 0) ∧ (∀ e : Nat, (e : Int) < I 15 4 → (0 ≤ I 24 e ∧ I 24 e ≤ 1600) ∧ ∃ A c B : List Int, C = A ++ (c ++ B) ∧ I 23 e = A.length ∧ I 23 (e + 1) = (A.length : Int) + c.length ∧ wt c [])
theorem DBv_f {I Y : HI} (h : DBv I) (e1 : Y 15 1 = I 15 1) (e2 : Y 19 = I 19) (e3 : Y 25 = I 25) : DBv Y := by
  unfold DBv
  rw [e1, e2, e3]
  exact h
theorem wct_rng {t : Txt} {i0 : Nat} : ∀ k, 0 ≤ wct t i0 k ∧ wct t i0 k ≤ k
  | 0 => by unfold wct; omega
  | k + 1 => by
    have := wct_rng (t := t) (i0 := i0) k
    show 0 ≤ wct t i0 k + _ ∧ wct t i0 k + _ ≤ _
    unfold wk1
    split
    · split <;> omega
    · omega
section DV
variable {I Y : HI} {t : Txt} {i : Nat} {C : List Int}
theorem DRV_corner {n : Nat} {v : Int} (h : DRV I C) (en : I 15 0 = n) (n10 : n < 10) (hv : 1 ≤ v ∧ v ≤ 9) (cn : CNT I Y 0) (b18 : AP1 (I 18) (Y 18) (I 15 0).toNat v) (fy : ∀ c, 14 ≤ c → c ≤ 26 → c ≠ 15 → c ≠ 16 → c ≠ 18 → Y c = I c) : DRV Y C := by
  obtain ⟨h1, h2, h3, h4, h5, h6, h7, h8⟩ := h
  obtain ⟨⟨c0, c1⟩, c2⟩ := cn
  rw [en, Int.toNat_natCast] at b18
  have y : ∀ u, u ≠ 0 → Y 15 u = I 15 u := c1
  have y0 : Y 15 0 = (n : Int) + 1 := by rw [c0, en]
  obtain ⟨g1, g2, g3, g4, g5⟩ := h1
  refine ⟨⟨by omega, by rw [y 1 (by decide)]; exact g2, by rw [y 2 (by decide)]; exact g3, by rw [y 3 (by decide)]; exact g4, by rw [y 4 (by decide)]; exact g5⟩, fun u hu => ?_, fun l hl => ?_, DBv_f h4 (y 1 (by decide)) (fy 19 (by omega) (by omega) (by omega) (by omega) (by omega)) (fy 25 (by omega) (by omega) (by omega) (by omega) (by omega)), fun s hs => ?_, fun b hb => ?_, ?_, fun e he => ?_⟩
  · by_cases e : u = n
    · rw [e, b18.1]; exact hv
    · rw [b18.2 u e]; exact h2 u (by omega)
  · rw [y 1 (by decide)] at hl
    have := h3 l hl
    rw [fy 19 (by omega) (by omega) (by omega) (by omega) (by omega), y0]
    omega
  · rw [y 2 (by decide)] at hs
    have := h5 s hs
    rw [fy 20 (by omega) (by omega) (by omega) (by omega) (by omega), y0]
    omega
  · rw [y 3 (by decide)] at hb
    rw [fy 21 (by omega) (by omega) (by omega) (by omega) (by omega)]
    exact h6 b hb
  · rw [fy 14 (by omega) (by omega) (by omega) (by omega) (by omega)]; exact h7
  · rw [y 4 (by decide)] at he
    rw [fy 24 (by omega) (by omega) (by omega) (by omega) (by omega), fy 23 (by omega) (by omega) (by omega) (by omega) (by omega)]
    exact h8 e he
theorem DRV_lane {n a1 a2 : Nat} {v w : Int} (h : DRV I C) (en : I 15 1 = n) (n16 : n < 16) (q1 : (a1 : Int) < I 15 0) (q2 : (a2 : Int) < I 15 0) (ne : a1 ≠ a2) (fr : I 25 (10 * a1 + a2) = -1) (hv : 1 ≤ v ∧ v ≤ 9) (hw : 0 ≤ w ∧ w ≤ 9) (cn : CNT I Y 1) (b19 : AP4 (I 19) (Y 19) (I 15 1).toNat a1 a2 v w) (b25 : AP2 (I 25) (Y 25) (10 * a1 + a2) (10 * a2 + a1) (I 15 1)) (fy : ∀ c, 14 ≤ c → c ≤ 26 → c ≠ 15 → c ≠ 19 → c ≠ 25 → Y c = I c) : DRV Y C := by
  obtain ⟨h1, h2, h3, h4, h5, h6, h7, h8⟩ := h
  obtain ⟨⟨c0, c1⟩, c2⟩ := cn
  rw [en, Int.toNat_natCast] at b19
  rw [en] at b25
  have y : ∀ u, u ≠ 1 → Y 15 u = I 15 u := c1
  have y1 : Y 15 1 = (n : Int) + 1 := by rw [c0, en]
  obtain ⟨g1, g2, g3, g4, g5⟩ := h1
  obtain ⟨⟨s1, s2, s3, s4⟩, s5⟩ := b19
  have old : ∀ (l : Nat) (a b : Int), l < n → (jns (Y 19) l a b ↔ jns (I 19) l a b) := fun l a b hl => by
    unfold jns
    rw [s5 (4 * l) (by omega), s5 (4 * l + 1) (by omega)]
  have new : ∀ (a b : Int), jns (Y 19) n a b ↔ ((a1 : Int) = a ∧ (a2 : Int) = b) ∨ ((a1 : Int) = b ∧ (a2 : Int) = a) := fun a b => by
    unfold jns
    rw [s1, s2]
  have sym : ∀ (f : Nat → Int) (l : Nat) (a b : Int), jns f l a b → jns f l b a := fun f l a b u => u.symm
  have none12 : ∀ l : Nat, (l : Int) < I 15 1 → ¬ jns (I 19) l a1 a2 := by
    rcases h4 a1 a2 (by omega) (by omega) with u | ⟨l, _, u, _⟩
    · exact u.2
    · omega
  refine ⟨⟨by rw [y 0 (by decide)]; exact g1, by omega, by rw [y 2 (by decide)]; exact g3, by rw [y 3 (by decide)]; exact g4, by rw [y 4 (by decide)]; exact g5⟩, fun u hu => ?_, fun l hl => ?_, fun a b a10 b10 => ?_, fun s hs => ?_, fun b hb => ?_, ?_, fun e he => ?_⟩
  · rw [y 0 (by decide)] at hu
    rw [fy 18 (by omega) (by omega) (by omega) (by omega) (by omega)]; exact h2 u hu
  · rw [y 0 (by decide)]
    by_cases e : l = n
    · rw [e, s1, s2, s3, s4]
      omega
    · rw [s5 (4 * l) (by omega), s5 (4 * l + 1) (by omega), s5 (4 * l + 2) (by omega), s5 (4 * l + 3) (by omega)]
      exact h3 l (by omega)
  · by_cases e1 : a = a1 ∧ b = a2
    · right
      obtain ⟨ea, eb⟩ := e1
      subst ea; subst eb
      exact ⟨n, by omega, b25.1, (new a b).mpr (Or.inl ⟨rfl, rfl⟩), fun l' hl u => none12 l' (by omega) ((old l' a b hl).mp u)⟩
    · by_cases e2 : a = a2 ∧ b = a1
      · right
        obtain ⟨ea, eb⟩ := e2
        subst ea; subst eb
        exact ⟨n, by omega, b25.2.1, (new a b).mpr (Or.inr ⟨rfl, rfl⟩), fun l' hl u => none12 l' (by omega) (sym _ _ _ _ ((old l' a b hl).mp u))⟩
      · have nn : ¬ jns (Y 19) n a b := fun u => by
          rcases (new a b).mp u with v | v
          · exact e1 ⟨by omega, by omega⟩
          · exact e2 ⟨by omega, by omega⟩
        rw [b25.2.2 (10 * a + b) (by omega) (by omega)]
        rcases h4 a b a10 b10 with ⟨u1, u2⟩ | ⟨l, u1, u2, u3, u4⟩
        · left
          refine ⟨u1, fun l hl u => ?_⟩
          by_cases el : l = n
          · subst el; exact nn u
          · exact u2 l (by omega) ((old l a b (by omega)).mp u)
        · right
          exact ⟨l, by omega, u2, (old l a b (by omega)).mpr u3, fun l' hl u => u4 l' hl ((old l' a b (by omega)).mp u)⟩
  · rw [y 2 (by decide)] at hs
    rw [fy 20 (by omega) (by omega) (by omega) (by omega) (by omega), y 0 (by decide)]
    exact h5 s hs
  · rw [y 3 (by decide)] at hb
    rw [fy 21 (by omega) (by omega) (by omega) (by omega) (by omega)]
    exact h6 b hb
  · rw [fy 14 (by omega) (by omega) (by omega) (by omega) (by omega)]; exact h7
  · rw [y 4 (by decide)] at he
    rw [fy 24 (by omega) (by omega) (by omega) (by omega) (by omega), fy 23 (by omega) (by omega) (by omega) (by omega) (by omega)]
    exact h8 e he
theorem DRV_saint {n a3 : Nat} {v5 v7 v9 : Int} (h : DRV I C) (en : I 15 2 = n) (n4 : n < 4) (qa : (a3 : Int) < I 15 0) (hv5 : 1 ≤ v5 ∧ v5 ≤ 5) (hv7 : 0 ≤ v7 ∧ v7 ≤ 20) (hv9 : 0 ≤ v9 ∧ v9 ≤ 99) (cn : CNT I Y 2) (b20 : AP4 (I 20) (Y 20) (I 15 2).toNat a3 v5 v7 v9) (fy : ∀ c, 14 ≤ c → c ≤ 26 → c ≠ 15 → c ≠ 17 → c ≠ 20 → Y c = I c) : DRV Y C := by
  obtain ⟨h1, h2, h3, h4, h5, h6, h7, h8⟩ := h
  obtain ⟨⟨c0, c1⟩, c2⟩ := cn
  rw [en, Int.toNat_natCast] at b20
  have y : ∀ u, u ≠ 2 → Y 15 u = I 15 u := c1
  have y2 : Y 15 2 = (n : Int) + 1 := by rw [c0, en]
  obtain ⟨g1, g2, g3, g4, g5⟩ := h1
  obtain ⟨⟨s1, s2, s3, s4⟩, s5⟩ := b20
  refine ⟨⟨by rw [y 0 (by decide)]; exact g1, by rw [y 1 (by decide)]; exact g2, by omega, by rw [y 3 (by decide)]; exact g4, by rw [y 4 (by decide)]; exact g5⟩, fun u hu => ?_, fun l hl => ?_, DBv_f h4 (y 1 (by decide)) (fy 19 (by omega) (by omega) (by omega) (by omega) (by omega)) (fy 25 (by omega) (by omega) (by omega) (by omega) (by omega)), fun s hs => ?_, fun b hb => ?_, ?_, fun e he => ?_⟩
  · rw [y 0 (by decide)] at hu
    rw [fy 18 (by omega) (by omega) (by omega) (by omega) (by omega)]; exact h2 u hu
  · rw [y 1 (by decide)] at hl
    rw [fy 19 (by omega) (by omega) (by omega) (by omega) (by omega), y 0 (by decide)]; exact h3 l hl
  · rw [y 0 (by decide)]
    by_cases e : s = n
    · rw [e, s1, s2, s3, s4]
      omega
    · rw [s5 (4 * s) (by omega), s5 (4 * s + 1) (by omega), s5 (4 * s + 2) (by omega), s5 (4 * s + 3) (by omega)]
      exact h5 s (by omega)
  · rw [y 3 (by decide)] at hb
    rw [fy 21 (by omega) (by omega) (by omega) (by omega) (by omega)]
    exact h6 b hb
  · rw [fy 14 (by omega) (by omega) (by omega) (by omega) (by omega)]; exact h7
  · rw [y 4 (by decide)] at he
    rw [fy 24 (by omega) (by omega) (by omega) (by omega) (by omega), fy 23 (by omega) (by omega) (by omega) (by omega) (by omega)]
    exact h8 e he
theorem DRV_balcony {n a2 : Nat} {v4 v6 v8 : Int} (h : DRV I C) (en : I 15 3 = n) (n10 : n < 10) (hv4 : 0 ≤ v4) (hv6 : v4 ≤ v6 ∧ v6 ≤ 999) (hv8 : 1 ≤ v8 ∧ v8 ≤ 99) (cn : CNT I Y 3) (b21 : AP4 (I 21) (Y 21) (I 15 3).toNat a2 v4 v6 v8) (fy : ∀ c, 14 ≤ c → c ≤ 26 → c ≠ 15 → c ≠ 21 → Y c = I c) : DRV Y C := by
  obtain ⟨h1, h2, h3, h4, h5, h6, h7, h8⟩ := h
  obtain ⟨⟨c0, c1⟩, c2⟩ := cn
  rw [en, Int.toNat_natCast] at b21
  have y : ∀ u, u ≠ 3 → Y 15 u = I 15 u := c1
  have y3 : Y 15 3 = (n : Int) + 1 := by rw [c0, en]
  obtain ⟨g1, g2, g3, g4, g5⟩ := h1
  obtain ⟨⟨s1, s2, s3, s4⟩, s5⟩ := b21
  refine ⟨⟨by rw [y 0 (by decide)]; exact g1, by rw [y 1 (by decide)]; exact g2, by rw [y 2 (by decide)]; exact g3, by omega, by rw [y 4 (by decide)]; exact g5⟩, fun u hu => ?_, fun l hl => ?_, DBv_f h4 (y 1 (by decide)) (fy 19 (by omega) (by omega) (by omega) (by omega)) (fy 25 (by omega) (by omega) (by omega) (by omega)), fun s hs => ?_, fun b hb => ?_, ?_, fun e he => ?_⟩
  · rw [y 0 (by decide)] at hu
    rw [fy 18 (by omega) (by omega) (by omega) (by omega)]; exact h2 u hu
  · rw [y 1 (by decide)] at hl
    rw [fy 19 (by omega) (by omega) (by omega) (by omega), y 0 (by decide)]; exact h3 l hl
  · rw [y 2 (by decide)] at hs
    rw [fy 20 (by omega) (by omega) (by omega) (by omega), y 0 (by decide)]; exact h5 s hs
  · by_cases e : b = n
    · rw [e, s2, s3, s4]
      omega
    · rw [s5 (4 * b + 1) (by omega), s5 (4 * b + 2) (by omega), s5 (4 * b + 3) (by omega)]
      exact h6 b (by omega)
  · rw [fy 14 (by omega) (by omega) (by omega) (by omega)]; exact h7
  · rw [y 4 (by decide)] at he
    rw [fy 24 (by omega) (by omega) (by omega) (by omega), fy 23 (by omega) (by omega) (by omega) (by omega)]
    exact h8 e he
theorem DRV_but {n : Nat} {w : Int} {cs : List Int} (h : DRV I C) (en : I 15 4 = n) (n6 : n < 6) (hw : 0 ≤ w ∧ w ≤ 1600) (hwt : wt cs []) (e23 : I 23 n = C.length) (b15 : AP1 (I 15) (Y 15) 4 (I 15 4 + 1)) (b24 : AP1 (I 24) (Y 24) (I 15 4).toNat w) (b23 : AP1 (I 23) (Y 23) ((I 15 4).toNat + 1) ((C ++ cs).length)) (fy : ∀ c, 14 ≤ c → c ≤ 26 → c ≠ 15 → c ≠ 22 → c ≠ 23 → c ≠ 24 → Y c = I c) : DRV Y (C ++ cs) := by
  obtain ⟨h1, h2, h3, h4, h5, h6, h7, h8⟩ := h
  rw [en] at b15
  rw [en, Int.toNat_natCast] at b24 b23
  have y : ∀ u, u ≠ 4 → Y 15 u = I 15 u := b15.2
  have fyc : ∀ c, (c = 14 ∨ (16 ≤ c ∧ c ≤ 21) ∨ c = 25) → Y c = I c := fun c hc => fy c (by omega) (by omega) (by omega) (by omega) (by omega) (by omega)
  obtain ⟨g1, g2, g3, g4, g5⟩ := h1
  refine ⟨⟨by rw [y 0 (by decide)]; exact g1, by rw [y 1 (by decide)]; exact g2, by rw [y 2 (by decide)]; exact g3, by rw [y 3 (by decide)]; exact g4, by rw [b15.1]; omega⟩, fun u hu => ?_, fun l hl => ?_, DBv_f h4 (y 1 (by decide)) (fyc 19 (by omega)) (fyc 25 (by omega)), fun s hs => ?_, fun b hb => ?_, ?_, fun e he => ?_⟩
  · rw [y 0 (by decide)] at hu
    rw [fyc 18 (by omega)]; exact h2 u hu
  · rw [y 1 (by decide)] at hl
    rw [fyc 19 (by omega), y 0 (by decide)]; exact h3 l hl
  · rw [y 2 (by decide)] at hs
    rw [fyc 20 (by omega), y 0 (by decide)]; exact h5 s hs
  · rw [y 3 (by decide)] at hb
    rw [fyc 21 (by omega)]; exact h6 b hb
  · rw [fyc 14 (by omega)]; exact h7
  · rw [b15.1] at he
    by_cases e' : e = n
    · rw [e', b24.1, b23.2 n (by omega), b23.1]
      exact ⟨hw, C, cs, [], by rw [List.append_nil], e23, by rw [List.length_append]; omega, hwt⟩
    · rw [b24.2 e e', b23.2 e (by omega), b23.2 (e + 1) (by omega)]
      obtain ⟨p1, A, c, B, p2, p3, p4, p5⟩ := h8 e (by omega)
      exact ⟨p1, A, c, B ++ cs, by rw [p2]; simp only [List.append_assoc], p3, p4, p5⟩
theorem DRV_rain {v : Int} (h : DRV I C) (hv : 0 ≤ v ∧ v ≤ 999) (b14 : AP1 (I 14) (Y 14) 13 v) (fy : ∀ c, 15 ≤ c → c ≤ 26 → Y c = I c) : DRV Y C := by
  obtain ⟨h1, h2, h3, h4, h5, h6, h7, h8⟩ := h
  have y15 := fy 15 (by omega) (by omega)
  refine ⟨?_, fun u hu => ?_, fun l hl => ?_, DBv_f h4 (by rw [y15]) (fy 19 (by omega) (by omega)) (fy 25 (by omega) (by omega)), fun s hs => ?_, fun b hb => ?_, ⟨?_, ?_⟩, fun e he => ?_⟩
  · unfold CRg; rw [y15]; exact h1
  · rw [y15] at hu; rw [fy 18 (by omega) (by omega)]; exact h2 u hu
  · rw [y15] at hl; rw [fy 19 (by omega) (by omega), y15]; exact h3 l hl
  · rw [y15] at hs; rw [fy 20 (by omega) (by omega), y15]; exact h5 s hs
  · rw [y15] at hb; rw [fy 21 (by omega) (by omega)]; exact h6 b hb
  · rw [b14.1]; omega
  · rw [b14.2 12 (by decide)]; exact h7.2
  · rw [y15] at he; rw [fy 24 (by omega) (by omega), fy 23 (by omega) (by omega)]; exact h8 e he
end DV
