/-- the drafts on both sides -/
def Mdr (X I : HI) (C : List Int) : Prop := NMR X I ∧ (X 518 2 = I 15 1 ∧ X 518 3 = I 15 3 ∧ X 518 4 = I 15 4) ∧ ((∀ u : Nat, (u : Int) < I 15 0 → X 520 u = I 18 u) ∧ (∀ u : Nat, (u : Int) < 4 * I 15 1 → X 521 u = I 19 u) ∧ (∀ u : Nat, (u : Int) < 4 * I 15 2 → X 522 u = I 20 u) ∧ (∀ u : Nat, (u : Int) < 4 * I 15 3 → X 523 u = I 21 u)) ∧ X 489 43 = I 14 13 ∧ (∀ e : Nat, (e : Int) < I 15 4 → X 528 e = I 24 e ∧ X 526 e = I 23 e ∧ X 527 e = I 23 (e + 1)) ∧ (X 489 47 = C.length ∧ ∀ k, k < C.length → X 524 k = C.getD k 0) ∧ CDt I C ∧ I 23 (I 15 4).toNat = C.length
theorem NM_cg {v : Int} {f g : Nat → Int} (h : NM v f) (e : ∀ k, k < 6 → g k = f k) : NM v g := by
  obtain ⟨r, r1, r2, r3, r4, r5⟩ := h
  exact ⟨r, r1, r2, r3, r4, fun k hk => by rw [e k hk]; exact r5 k hk⟩
theorem Mdr_9 {X Y I : HI} {C : List Int} (h : Mdr X I C) (f : ∀ c, c ≠ 489 → Y c = X c) (g3 : Y 489 43 = X 489 43) (g7 : Y 489 47 = X 489 47) : Mdr Y I C := by
  obtain ⟨h1, h2, ⟨h3, h4, h5, h6⟩, h7, h8, h9, h10⟩ := h
  refine ⟨NMR_f h1 (f 518 (by decide)) (f 519 (by decide)), by rw [f 518 (by decide)]; exact h2, ⟨fun u hu => by rw [f 520 (by decide)]; exact h3 u hu, fun u hu => by rw [f 521 (by decide)]; exact h4 u hu, fun u hu => by rw [f 522 (by decide)]; exact h5 u hu, fun u hu => by rw [f 523 (by decide)]; exact h6 u hu⟩, by rw [g3]; exact h7, fun e he => by rw [f 528 (by decide), f 526 (by decide), f 527 (by decide)]; exact h8 e he, ⟨by rw [g7]; exact h9.1, fun k hk => by rw [f 524 (by decide)]; exact h9.2 k hk⟩, h10⟩
theorem CDt_f {I Y : HI} {C : List Int} (h : CDt I C) (e22 : Y 22 = I 22) (e12 : Y 28 12 = I 28 12) : CDt Y C := ⟨by rw [e12]; exact h.1, fun k hk => by rw [e22]; exact h.2 k hk⟩
section MO
variable {X Z I Y : HI} {t : Txt} {i : Nat} {C : List Int}
theorem Mdr_corner {n : Nat} {v : Int} (ht : TKN t) (hi : i + 1 ≤ uN t) (mo : Mdr X I C) (en : I 15 0 = n) (n10 : n < 10) (hn : NAs t (i + 1)) (a18 : AP1 (X 518) (Z 518) 0 ((n : Int) + 1)) (a19 : AP1 (X 519) (Z 519) n (nmv (uA t) (uS t (i + 1)) (uP t (i + 1) - uS t (i + 1)))) (a20 : AP1 (X 520) (Z 520) n v) (f : ∀ c, c ≠ 489 → c ≠ 518 → c ≠ 519 → c ≠ 520 → Z c = X c) (g : O9 X Z) (cn : CNT I Y 0) (b18 : AP1 (I 18) (Y 18) (I 15 0).toNat v) (b16 : AP6 (I 16) (Y 16) (I 15 0).toNat t (i + 1)) (fy : ∀ c, 14 ≤ c → c ≤ 26 → c ≠ 15 → c ≠ 16 → c ≠ 18 → Y c = I c) : Mdr Z Y C := by
  obtain ⟨⟨⟨p1, p2⟩, p3, p4, p5, p6⟩, h2, ⟨h3, h4, h5, h6⟩, h7, h8, h9, h10, h11⟩ := mo
  obtain ⟨⟨c0, c1⟩, c2⟩ := cn
  rw [en] at c0 p3
  rw [en, Int.toNat_natCast] at b18 b16
  have y : ∀ u, u ≠ 0 → Y 15 u = I 15 u := c1
  refine ⟨⟨⟨by rw [a18.1, c0], by rw [a18.2 1 (by decide), y 2 (by decide)]; exact p2⟩, by rw [c0]; omega, by rw [y 2 (by decide)]; exact p4, fun w hw => ?_, fun w hw => ?_⟩, by rw [a18.2 2 (by decide), a18.2 3 (by decide), a18.2 4 (by decide), y 1 (by decide), y 3 (by decide), y 4 (by decide)]; exact h2, ⟨fun u hu => ?_, fun u hu => ?_, fun u hu => ?_, fun u hu => ?_⟩, ?_, fun e he => ?_, ⟨?_, fun k hk => ?_⟩, CDt_f h10 (fy 22 (by omega) (by omega) (by omega) (by omega) (by omega)) c2, ?_⟩
  · rw [c0] at hw
    by_cases e : w = n
    · subst e
      rw [a19.1]
      exact NM_cg (NM_tok ht hi hn) (fun k hk => b16.1 k hk)
    · rw [a19.2 w e]
      exact NM_cg (p5 w (by omega)) (fun k hk => b16.2 (6 * w + k) (by omega))
  · rw [y 2 (by decide)] at hw
    rw [a19.2 (10 + w) (by omega), fy 17 (by omega) (by omega) (by omega) (by omega) (by omega)]
    exact p6 w hw
  · rw [c0] at hu
    by_cases e : u = n
    · rw [e, a20.1, b18.1]
    · rw [a20.2 u e, b18.2 u e]
      exact h3 u (by omega)
  · rw [y 1 (by decide)] at hu
    rw [f 521 (by decide) (by decide) (by decide) (by decide), fy 19 (by omega) (by omega) (by omega) (by omega) (by omega)]; exact h4 u hu
  · rw [y 2 (by decide)] at hu
    rw [f 522 (by decide) (by decide) (by decide) (by decide), fy 20 (by omega) (by omega) (by omega) (by omega) (by omega)]; exact h5 u hu
  · rw [y 3 (by decide)] at hu
    rw [f 523 (by decide) (by decide) (by decide) (by decide), fy 21 (by omega) (by omega) (by omega) (by omega) (by omega)]; exact h6 u hu
  · rw [g 43 (by decide) (by decide) (by decide), fy 14 (by omega) (by omega) (by omega) (by omega) (by omega)]; exact h7
  · rw [y 4 (by decide)] at he
    rw [f 528 (by decide) (by decide) (by decide) (by decide), f 526 (by decide) (by decide) (by decide) (by decide), f 527 (by decide) (by decide) (by decide) (by decide), fy 24 (by omega) (by omega) (by omega) (by omega) (by omega), fy 23 (by omega) (by omega) (by omega) (by omega) (by omega)]; exact h8 e he
  · rw [g 47 (by decide) (by decide) (by decide)]; exact h9.1
  · rw [f 524 (by decide) (by decide) (by decide) (by decide)]; exact h9.2 k hk
  · rw [y 4 (by decide), fy 23 (by omega) (by omega) (by omega) (by omega) (by omega)]; exact h11
theorem Mdr_saint {n : Nat} {v1 v2 v3 v4 : Int} (ht : TKN t) (hi : i + 1 ≤ uN t) (mo : Mdr X I C) (en : I 15 2 = n) (n4 : n < 4) (hn : NAs t (i + 1)) (a18 : AP1 (X 518) (Z 518) 1 ((n : Int) + 1)) (a19 : AP1 (X 519) (Z 519) (10 + n) (nmv (uA t) (uS t (i + 1)) (uP t (i + 1) - uS t (i + 1)))) (a22 : AP4 (X 522) (Z 522) n v1 v2 v3 v4) (f : ∀ c, c ≠ 489 → c ≠ 518 → c ≠ 519 → c ≠ 522 → Z c = X c) (g : O9 X Z) (cn : CNT I Y 2) (b20 : AP4 (I 20) (Y 20) (I 15 2).toNat v1 v2 v3 v4) (b17 : AP6 (I 17) (Y 17) (I 15 2).toNat t (i + 1)) (fy : ∀ c, 14 ≤ c → c ≤ 26 → c ≠ 15 → c ≠ 17 → c ≠ 20 → Y c = I c) : Mdr Z Y C := by
  obtain ⟨⟨⟨p1, p2⟩, p3, p4, p5, p6⟩, h2, ⟨h3, h4, h5, h6⟩, h7, h8, h9, h10, h11⟩ := mo
  obtain ⟨⟨c0, c1⟩, c2⟩ := cn
  rw [en] at c0 p4
  rw [en, Int.toNat_natCast] at b20 b17
  have y : ∀ u, u ≠ 2 → Y 15 u = I 15 u := c1
  refine ⟨⟨⟨by rw [a18.2 0 (by decide), y 0 (by decide)]; exact p1, by rw [a18.1, c0]⟩, by rw [y 0 (by decide)]; exact p3, by rw [c0]; omega, fun w hw => ?_, fun w hw => ?_⟩, by rw [a18.2 2 (by decide), a18.2 3 (by decide), a18.2 4 (by decide), y 1 (by decide), y 3 (by decide), y 4 (by decide)]; exact h2, ⟨fun u hu => ?_, fun u hu => ?_, fun u hu => ?_, fun u hu => ?_⟩, ?_, fun e he => ?_, ⟨?_, fun k hk => ?_⟩, CDt_f h10 (fy 22 (by omega) (by omega) (by omega) (by omega) (by omega)) c2, ?_⟩
  · rw [y 0 (by decide)] at hw
    rw [a19.2 w (by omega), fy 16 (by omega) (by omega) (by omega) (by omega) (by omega)]
    exact p5 w hw
  · rw [c0] at hw
    by_cases e : w = n
    · subst e
      rw [a19.1]
      exact NM_cg (NM_tok ht hi hn) (fun k hk => b17.1 k hk)
    · rw [a19.2 (10 + w) (by omega)]
      exact NM_cg (p6 w (by omega)) (fun k hk => b17.2 (6 * w + k) (by omega))
  · rw [y 0 (by decide)] at hu
    rw [f 520 (by decide) (by decide) (by decide) (by decide), fy 18 (by omega) (by omega) (by omega) (by omega) (by omega)]; exact h3 u hu
  · rw [y 1 (by decide)] at hu
    rw [f 521 (by decide) (by decide) (by decide) (by decide), fy 19 (by omega) (by omega) (by omega) (by omega) (by omega)]; exact h4 u hu
  · rw [c0] at hu
    by_cases e : u < 4 * n
    · rw [a22.2 u (Or.inl e), b20.2 u (Or.inl e)]
      exact h5 u (by omega)
    · obtain ⟨⟨q1, q2, q3, q4⟩, _⟩ := a22
      obtain ⟨⟨s1, s2, s3, s4⟩, _⟩ := b20
      rcases (by omega : u = 4 * n ∨ u = 4 * n + 1 ∨ u = 4 * n + 2 ∨ u = 4 * n + 3) with w | w | w | w
      · rw [w, q1, s1]
      · rw [w, q2, s2]
      · rw [w, q3, s3]
      · rw [w, q4, s4]
  · rw [y 3 (by decide)] at hu
    rw [f 523 (by decide) (by decide) (by decide) (by decide), fy 21 (by omega) (by omega) (by omega) (by omega) (by omega)]; exact h6 u hu
  · rw [g 43 (by decide) (by decide) (by decide), fy 14 (by omega) (by omega) (by omega) (by omega) (by omega)]; exact h7
  · rw [y 4 (by decide)] at he
    rw [f 528 (by decide) (by decide) (by decide) (by decide), f 526 (by decide) (by decide) (by decide) (by decide), f 527 (by decide) (by decide) (by decide) (by decide), fy 24 (by omega) (by omega) (by omega) (by omega) (by omega), fy 23 (by omega) (by omega) (by omega) (by omega) (by omega)]; exact h8 e he
  · rw [g 47 (by decide) (by decide) (by decide)]; exact h9.1
  · rw [f 524 (by decide) (by decide) (by decide) (by decide)]; exact h9.2 k hk
  · rw [y 4 (by decide), fy 23 (by omega) (by omega) (by omega) (by omega) (by omega)]; exact h11
theorem Mdr_lane {n : Nat} {v1 v2 v3 v4 : Int} (mo : Mdr X I C) (en : I 15 1 = n) (a18 : AP1 (X 518) (Z 518) 2 ((n : Int) + 1)) (a21 : AP4 (X 521) (Z 521) n v1 v2 v3 v4) (f : ∀ c, c ≠ 489 → c ≠ 518 → c ≠ 521 → Z c = X c) (g : O9 X Z) (cn : CNT I Y 1) (b19 : AP4 (I 19) (Y 19) (I 15 1).toNat v1 v2 v3 v4) (fy : ∀ c, 14 ≤ c → c ≤ 26 → c ≠ 15 → c ≠ 19 → c ≠ 25 → Y c = I c) : Mdr Z Y C := by
  obtain ⟨⟨⟨p1, p2⟩, p3, p4, p5, p6⟩, h2, ⟨h3, h4, h5, h6⟩, h7, h8, h9, h10, h11⟩ := mo
  obtain ⟨⟨c0, c1⟩, c2⟩ := cn
  rw [en] at c0
  rw [en, Int.toNat_natCast] at b19
  have y : ∀ u, u ≠ 1 → Y 15 u = I 15 u := c1
  refine ⟨⟨⟨by rw [a18.2 0 (by decide), y 0 (by decide)]; exact p1, by rw [a18.2 1 (by decide), y 2 (by decide)]; exact p2⟩, by rw [y 0 (by decide)]; exact p3, by rw [y 2 (by decide)]; exact p4, fun w hw => ?_, fun w hw => ?_⟩, ⟨by rw [a18.1, c0], by rw [a18.2 3 (by decide), y 3 (by decide)]; exact h2.2.1, by rw [a18.2 4 (by decide), y 4 (by decide)]; exact h2.2.2⟩, ⟨fun u hu => ?_, fun u hu => ?_, fun u hu => ?_, fun u hu => ?_⟩, ?_, fun e he => ?_, ⟨?_, fun k hk => ?_⟩, CDt_f h10 (fy 22 (by omega) (by omega) (by omega) (by omega) (by omega)) c2, ?_⟩
  · rw [y 0 (by decide)] at hw
    rw [f 519 (by decide) (by decide) (by decide), fy 16 (by omega) (by omega) (by omega) (by omega) (by omega)]
    exact p5 w hw
  · rw [y 2 (by decide)] at hw
    rw [f 519 (by decide) (by decide) (by decide), fy 17 (by omega) (by omega) (by omega) (by omega) (by omega)]
    exact p6 w hw
  · rw [y 0 (by decide)] at hu
    rw [f 520 (by decide) (by decide) (by decide), fy 18 (by omega) (by omega) (by omega) (by omega) (by omega)]; exact h3 u hu
  · rw [c0] at hu
    by_cases e : u < 4 * n
    · rw [a21.2 u (Or.inl e), b19.2 u (Or.inl e)]
      exact h4 u (by omega)
    · obtain ⟨⟨q1, q2, q3, q4⟩, _⟩ := a21
      obtain ⟨⟨s1, s2, s3, s4⟩, _⟩ := b19
      rcases (by omega : u = 4 * n ∨ u = 4 * n + 1 ∨ u = 4 * n + 2 ∨ u = 4 * n + 3) with w | w | w | w
      · rw [w, q1, s1]
      · rw [w, q2, s2]
      · rw [w, q3, s3]
      · rw [w, q4, s4]
  · rw [y 2 (by decide)] at hu
    rw [f 522 (by decide) (by decide) (by decide), fy 20 (by omega) (by omega) (by omega) (by omega) (by omega)]; exact h5 u hu
  · rw [y 3 (by decide)] at hu
    rw [f 523 (by decide) (by decide) (by decide), fy 21 (by omega) (by omega) (by omega) (by omega) (by omega)]; exact h6 u hu
  · rw [g 43 (by decide) (by decide) (by decide), fy 14 (by omega) (by omega) (by omega) (by omega) (by omega)]; exact h7
  · rw [y 4 (by decide)] at he
    rw [f 528 (by decide) (by decide) (by decide), f 526 (by decide) (by decide) (by decide), f 527 (by decide) (by decide) (by decide), fy 24 (by omega) (by omega) (by omega) (by omega) (by omega), fy 23 (by omega) (by omega) (by omega) (by omega) (by omega)]; exact h8 e he
  · rw [g 47 (by decide) (by decide) (by decide)]; exact h9.1
  · rw [f 524 (by decide) (by decide) (by decide)]; exact h9.2 k hk
  · rw [y 4 (by decide), fy 23 (by omega) (by omega) (by omega) (by omega) (by omega)]; exact h11
theorem Mdr_balcony {n : Nat} {v1 v2 v3 v4 : Int} (mo : Mdr X I C) (en : I 15 3 = n) (a18 : AP1 (X 518) (Z 518) 3 ((n : Int) + 1)) (a23 : AP4 (X 523) (Z 523) n v1 v2 v3 v4) (f : ∀ c, c ≠ 489 → c ≠ 518 → c ≠ 523 → Z c = X c) (g : O9 X Z) (cn : CNT I Y 3) (b21 : AP4 (I 21) (Y 21) (I 15 3).toNat v1 v2 v3 v4) (fy : ∀ c, 14 ≤ c → c ≤ 26 → c ≠ 15 → c ≠ 21 → Y c = I c) : Mdr Z Y C := by
  obtain ⟨⟨⟨p1, p2⟩, p3, p4, p5, p6⟩, h2, ⟨h3, h4, h5, h6⟩, h7, h8, h9, h10, h11⟩ := mo
  obtain ⟨⟨c0, c1⟩, c2⟩ := cn
  rw [en] at c0
  rw [en, Int.toNat_natCast] at b21
  have y : ∀ u, u ≠ 3 → Y 15 u = I 15 u := c1
  have fyc : ∀ c, 14 ≤ c → c ≤ 26 → c ≠ 15 → c ≠ 21 → Y c = I c := fy
  refine ⟨⟨⟨by rw [a18.2 0 (by decide), y 0 (by decide)]; exact p1, by rw [a18.2 1 (by decide), y 2 (by decide)]; exact p2⟩, by rw [y 0 (by decide)]; exact p3, by rw [y 2 (by decide)]; exact p4, fun w hw => ?_, fun w hw => ?_⟩, ⟨by rw [a18.2 2 (by decide), y 1 (by decide)]; exact h2.1, by rw [a18.1, c0], by rw [a18.2 4 (by decide), y 4 (by decide)]; exact h2.2.2⟩, ⟨fun u hu => ?_, fun u hu => ?_, fun u hu => ?_, fun u hu => ?_⟩, ?_, fun e he => ?_, ⟨?_, fun k hk => ?_⟩, CDt_f h10 (fy 22 (by omega) (by omega) (by omega) (by omega)) c2, ?_⟩
  · rw [y 0 (by decide)] at hw
    rw [f 519 (by decide) (by decide) (by decide), fy 16 (by omega) (by omega) (by omega) (by omega)]
    exact p5 w hw
  · rw [y 2 (by decide)] at hw
    rw [f 519 (by decide) (by decide) (by decide), fy 17 (by omega) (by omega) (by omega) (by omega)]
    exact p6 w hw
  · rw [y 0 (by decide)] at hu
    rw [f 520 (by decide) (by decide) (by decide), fy 18 (by omega) (by omega) (by omega) (by omega)]; exact h3 u hu
  · rw [y 1 (by decide)] at hu
    rw [f 521 (by decide) (by decide) (by decide), fy 19 (by omega) (by omega) (by omega) (by omega)]; exact h4 u hu
  · rw [y 2 (by decide)] at hu
    rw [f 522 (by decide) (by decide) (by decide), fy 20 (by omega) (by omega) (by omega) (by omega)]; exact h5 u hu
  · rw [c0] at hu
    by_cases e : u < 4 * n
    · rw [a23.2 u (Or.inl e), b21.2 u (Or.inl e)]
      exact h6 u (by omega)
    · obtain ⟨⟨q1, q2, q3, q4⟩, _⟩ := a23
      obtain ⟨⟨s1, s2, s3, s4⟩, _⟩ := b21
      rcases (by omega : u = 4 * n ∨ u = 4 * n + 1 ∨ u = 4 * n + 2 ∨ u = 4 * n + 3) with w | w | w | w
      · rw [w, q1, s1]
      · rw [w, q2, s2]
      · rw [w, q3, s3]
      · rw [w, q4, s4]
  · rw [g 43 (by decide) (by decide) (by decide), fy 14 (by omega) (by omega) (by omega) (by omega)]; exact h7
  · rw [y 4 (by decide)] at he
    rw [f 528 (by decide) (by decide) (by decide), f 526 (by decide) (by decide) (by decide), f 527 (by decide) (by decide) (by decide), fy 24 (by omega) (by omega) (by omega) (by omega), fy 23 (by omega) (by omega) (by omega) (by omega)]; exact h8 e he
  · rw [g 47 (by decide) (by decide) (by decide)]; exact h9.1
  · rw [f 524 (by decide) (by decide) (by decide)]; exact h9.2 k hk
  · rw [y 4 (by decide), fy 23 (by omega) (by omega) (by omega) (by omega)]; exact h11
theorem Mdr_but {n : Nat} {w : Int} {cs : List Int} (mo : Mdr X I C) (en : I 15 4 = n) (a18 : AP1 (X 518) (Z 518) 4 ((n : Int) + 1)) (a26 : AP1 (X 526) (Z 526) n C.length) (a27 : AP1 (X 527) (Z 527) n (C ++ cs).length) (a28 : AP1 (X 528) (Z 528) n w) (a24 : Z 489 47 = (C ++ cs).length ∧ ∀ k, k < (C ++ cs).length → Z 524 k = (C ++ cs).getD k 0) (f : ∀ c, c ≠ 489 → c ≠ 518 → c ≠ 524 → c ≠ 525 → c ≠ 526 → c ≠ 527 → c ≠ 528 → Z c = X c) (g : Z 489 43 = X 489 43) (bC : ∀ C, CDt I C → CDt Y (C ++ cs)) (b15 : AP1 (I 15) (Y 15) 4 (I 15 4 + 1)) (b24 : AP1 (I 24) (Y 24) (I 15 4).toNat w) (b23 : AP1 (I 23) (Y 23) ((I 15 4).toNat + 1) (Y 28 12)) (fy : ∀ c, 14 ≤ c → c ≤ 26 → c ≠ 15 → c ≠ 22 → c ≠ 23 → c ≠ 24 → Y c = I c) : Mdr Z Y (C ++ cs) := by
  obtain ⟨⟨⟨p1, p2⟩, p3, p4, p5, p6⟩, h2, ⟨h3, h4, h5, h6⟩, h7, h8, h9, h10, h11⟩ := mo
  have dY := bC C h10
  rw [dY.1] at b23
  rw [en] at b15
  rw [en, Int.toNat_natCast] at b24 b23 h11
  have y : ∀ u, u ≠ 4 → Y 15 u = I 15 u := b15.2
  have f9 : ∀ c, 519 ≤ c → c ≤ 523 → Z c = X c := fun c a b => f c (by omega) (by omega) (by omega) (by omega) (by omega) (by omega) (by omega)
  have fyc : ∀ c, 16 ≤ c → c ≤ 21 → Y c = I c := fun c a b => fy c (by omega) (by omega) (by omega) (by omega) (by omega) (by omega)
  refine ⟨⟨⟨by rw [a18.2 0 (by decide), y 0 (by decide)]; exact p1, by rw [a18.2 1 (by decide), y 2 (by decide)]; exact p2⟩, by rw [y 0 (by decide)]; exact p3, by rw [y 2 (by decide)]; exact p4, fun w hw => ?_, fun w hw => ?_⟩, ⟨by rw [a18.2 2 (by decide), y 1 (by decide)]; exact h2.1, by rw [a18.2 3 (by decide), y 3 (by decide)]; exact h2.2.1, by rw [a18.1, b15.1]⟩, ⟨fun u hu => ?_, fun u hu => ?_, fun u hu => ?_, fun u hu => ?_⟩, ?_, fun e he => ?_, a24, dY, ?_⟩
  · rw [y 0 (by decide)] at hw
    rw [f9 519 (by omega) (by omega), fyc 16 (by omega) (by omega)]; exact p5 w hw
  · rw [y 2 (by decide)] at hw
    rw [f9 519 (by omega) (by omega), fyc 17 (by omega) (by omega)]; exact p6 w hw
  · rw [y 0 (by decide)] at hu
    rw [f9 520 (by omega) (by omega), fyc 18 (by omega) (by omega)]; exact h3 u hu
  · rw [y 1 (by decide)] at hu
    rw [f9 521 (by omega) (by omega), fyc 19 (by omega) (by omega)]; exact h4 u hu
  · rw [y 2 (by decide)] at hu
    rw [f9 522 (by omega) (by omega), fyc 20 (by omega) (by omega)]; exact h5 u hu
  · rw [y 3 (by decide)] at hu
    rw [f9 523 (by omega) (by omega), fyc 21 (by omega) (by omega)]; exact h6 u hu
  · rw [g, fy 14 (by omega) (by omega) (by omega) (by omega) (by omega) (by omega)]; exact h7
  · rw [b15.1] at he
    by_cases e' : e = n
    · subst e'
      refine ⟨by rw [a28.1, b24.1], by rw [a26.1, b23.2 e (by omega)]; exact h11.symm, by rw [a27.1, b23.1]⟩
    · rw [a28.2 e e', a26.2 e e', a27.2 e e', b24.2 e e', b23.2 e (by omega), b23.2 (e + 1) (by omega)]
      exact h8 e (by omega)
  · rw [b15.1, show ((n : Int) + 1).toNat = n + 1 from by omega]
    exact b23.1
theorem Mdr_rain {v : Int} (mo : Mdr X I C) (f : ∀ c, c ≠ 489 → Z c = X c) (g3 : Z 489 43 = v) (g7 : Z 489 47 = X 489 47) (b14 : AP1 (I 14) (Y 14) 13 v) (fy : ∀ c, 15 ≤ c → c ≤ 26 → Y c = I c) (e12 : Y 28 12 = I 28 12) : Mdr Z Y C := by
  obtain ⟨⟨⟨p1, p2⟩, p3, p4, p5, p6⟩, h2, ⟨h3, h4, h5, h6⟩, h7, h8, h9, h10, h11⟩ := mo
  have y15 := fy 15 (by omega) (by omega)
  refine ⟨⟨⟨?_, ?_⟩, ?_, ?_, fun w hw => ?_, fun w hw => ?_⟩, ?_, ⟨fun u hu => ?_, fun u hu => ?_, fun u hu => ?_, fun u hu => ?_⟩, ?_, fun e he => ?_, ⟨?_, fun k hk => ?_⟩, CDt_f h10 (fy 22 (by omega) (by omega)) e12, ?_⟩
  · rw [f 518 (by decide), y15]; exact p1
  · rw [f 518 (by decide), y15]; exact p2
  · rw [y15]; exact p3
  · rw [y15]; exact p4
  · rw [y15] at hw; rw [f 519 (by decide), fy 16 (by omega) (by omega)]; exact p5 w hw
  · rw [y15] at hw; rw [f 519 (by decide), fy 17 (by omega) (by omega)]; exact p6 w hw
  · rw [f 518 (by decide), y15]; exact h2
  · rw [y15] at hu; rw [f 520 (by decide), fy 18 (by omega) (by omega)]; exact h3 u hu
  · rw [y15] at hu; rw [f 521 (by decide), fy 19 (by omega) (by omega)]; exact h4 u hu
  · rw [y15] at hu; rw [f 522 (by decide), fy 20 (by omega) (by omega)]; exact h5 u hu
  · rw [y15] at hu; rw [f 523 (by decide), fy 21 (by omega) (by omega)]; exact h6 u hu
  · rw [g3, b14.1]
  · rw [y15] at he; rw [f 528 (by decide), f 526 (by decide), f 527 (by decide), fy 24 (by omega) (by omega), fy 23 (by omega) (by omega)]; exact h8 e he
  · rw [g7]; exact h9.1
  · rw [f 524 (by decide)]; exact h9.2 k hk
  · rw [y15, fy 23 (by omega) (by omega)]; exact h11
end MO
