def RowT (I Y : HI) (c o n : Nat) : Prop := (∀ j, j < n → Y c (o + j) = I c j) ∧ (∀ j, j < o → Y c j = I c j)
theorem RowT_of {I X Y : HI} {c o n : Nat} (h : CPo I X c o n) (e : Y c = X c) : RowT I Y c o n := ⟨fun j hj => by
  rw [e, h.2.1 (o + j) (by omega) (by omega)]
  congr 1
  omega, fun j hj => by rw [e, h.2.2 j (by omega)]⟩
/-- the reference's city as it stands -/
def STD (I Y : HI) (cd : Nat) : Prop := (∀ k, k ≠ 489 → k ≠ 531 → k ≠ 532 → (k < 518 ∨ 524 < k) → (k < 526 ∨ 528 < k) → Y k = I k) ∧ (RowT I Y 518 5 5 ∧ RowT I Y 519 20 20 ∧ RowT I Y 520 10 10 ∧ RowT I Y 521 64 64 ∧ RowT I Y 522 16 16 ∧ RowT I Y 523 40 40 ∧ RowT I Y 526 6 6 ∧ RowT I Y 527 6 6 ∧ RowT I Y 528 6 6 ∧ RowT I Y 524 1600 cd) ∧ ((∀ j, j ≠ 44 → j ≠ 63 → j ≠ 64 → j ≠ 71 → Y 489 j = I 489 j) ∧ Y 489 44 = I 489 43 ∧ Y 489 63 = 0 ∧ Y 489 64 = 0 ∧ Y 489 71 = 0) ∧ ((∀ j, j < 4 → Y 532 j = 0) ∧ ∀ j, 4 ≤ j → Y 532 j = I 532 j)
section ST
variable {d : Nat} {I : HI} {K : HI → Prop}
theorem st_288 (h : ∀ Y : HI, (∀ k, k ≠ 532 → Y k = I k) → (∀ j, j < 4 → Y 532 j = 0) → (∀ j, 4 ≤ j → Y 532 j = I 532 j) → CV mX11_sounds (d + 2) [vR 489] Y (fun I1 => PV K none (mk I1))) : ∀ (m i : Nat) (X : HI), i + m = 4 → (∀ k, k ≠ 532 → X k = I k) → (∀ j, j < i → X 532 j = 0) → (∀ j, 4 ≤ j → X 532 j = I 532 j) → J none mX11_stands (d + 3) 0 0 288 [(0, vR 489), (1, vI (i : Int))] [] (mk X) (PV K)
  | 0, i, X, e, fX, zX, oX => bk_X11_stands_288 ⟨fun _ => h X fX (fun j hj => zX j (by omega)) oX, fun q => by omega⟩
  | m + 1, i, X, e, fX, zX, oX => by
    refine bk_X11_stands_288 ⟨fun q => by omega, fun _ => ⟨by omega, fun I2 e2 => ⟨by omega, ?_⟩⟩⟩
    rw [Int.toNat_natCast] at e2
    have := st_288 h m (i + 1) I2 (by omega) (fun k hk => by rw [e2, up_k hk, fX k hk]) (fun j hj => by
      by_cases q : j = i
      · rw [q, e2, up_s]
      · rw [e2, up_n (by omega)]
        exact zX j (by omega)) (fun j hj => by rw [e2, up_n (by omega)]; exact oX j hj)
    exact this
theorem st_233 {cd : Nat} (ec : I 489 47 = cd) (c16 : cd ≤ 1600) (h : ∀ X Y : HI, CPo I X 524 1600 cd → (∀ k, k ≠ 489 → Y k = X k) → (∀ j, j ≠ 44 → j ≠ 63 → j ≠ 64 → j ≠ 71 → Y 489 j = I 489 j) → (Y 489 44 = I 489 43 ∧ Y 489 63 = 0 ∧ Y 489 64 = 0 ∧ Y 489 71 = 0) → J none mX11_stands (d + 3) 0 0 288 [(0, vR 489), (1, vI 0)] [] (mk Y) (PV K)) : ∀ (m i : Nat) (X : HI), i + m = cd → CPo I X 524 1600 i → J none mX11_stands (d + 3) 0 0 233 [(0, vR 489), (1, vI (i : Int))] [] (mk X) (PV K)
  | 0, i, X, e, hX => by
    have ei : i = cd := by omega
    subst ei
    have x489 := hX.1 489 (by decide)
    refine bk_X11_stands_233 ?_
    rw [x489, ec]
    refine ⟨fun _ I1 e1 I2 e2 I3 e3 I4 e4 => h X I4 hX (fun k hk => by rw [e4, up_k hk, e3, up_k hk, e2, up_k hk, e1, up_k hk]) (fun j h1 h2 h3 h4 => by rw [e4, up_n (by omega), e3, up_n (by omega), e2, up_n (by omega), e1, up_n (by omega), x489]) ⟨?_, ?_, ?_, ?_⟩, fun q => by omega⟩
    · rw [e4, up_n (by omega), e3, up_n (by omega), e2, up_n (by omega), e1, up_s]
    · rw [e4, up_n (by omega), e3, up_n (by omega), e2, up_s]
    · rw [e4, up_n (by omega), e3, up_s]
    · rw [e4, up_s]
  | m + 1, i, X, e, hX => by
    refine bk_X11_stands_233 ?_
    rw [hX.1 489 (by decide), ec]
    refine ⟨fun q => by omega, fun _ => ⟨by omega, by omega, by omega, fun I1 e1 => ⟨by omega, ?_⟩⟩⟩
    rw [show (1600 + (i : Int)).toNat = 1600 + i from by omega, Int.toNat_natCast] at e1
    have := st_233 ec c16 h m (i + 1) I1 (by omega) (CPo_s hX (by omega) e1)
    exact this
theorem c11_stands {n nl cd : Nat} (n10 : n ≤ 10) (enl : I 518 2 = nl) (nl16 : nl ≤ 16) (ec : I 489 47 = cd) (c16 : cd ≤ 1600) (hL : LNo n nl (fun l => I 521 (4 * l)) (fun l => I 521 (4 * l + 1)) (fun l => I 521 (4 * l + 3))) (h : ∀ Y : HI, STD I Y cd → MX (Y 531) 10 (fwn (lnk (fun l => I 521 (4 * l)) (fun l => I 521 (4 * l + 1)) (fun l => I 521 (4 * l + 3)) nl) 10) → K Y) : CV mX11_stands (d + 3) [vR 489] I K := by
  refine bk_X11_stands_0 (st_2 (fun A1 h1 => ?_) 5 0 I (by omega) (CPo_0 _ _ _))
  refine st_29 (fun A2 h2 => ?_) 20 0 A1 (by omega) (CPo_0 _ _ _)
  refine st_58 (fun A3 h3 => ?_) 10 0 A2 (by omega) (CPo_0 _ _ _)
  refine st_87 (fun A4 h4 => ?_) 64 0 A3 (by omega) (CPo_0 _ _ _)
  refine st_116 (fun A5 h5 => ?_) 16 0 A4 (by omega) (CPo_0 _ _ _)
  refine st_145 (fun A6 h6 => ?_) 40 0 A5 (by omega) (CPo_0 _ _ _)
  refine st_174 (fun A7 A8 A9 h7 h8 h9 => ?_) 6 0 A6 A6 A6 (by omega) (CPo_0 _ _ _) (CPo_0 _ _ _) (CPo_0 _ _ _)
  have k9 : ∀ k, (k < 518 ∨ 523 < k) → (k < 526 ∨ 528 < k) → A9 k = I k := fun k k1 k2 => by
    rw [h9.1 k (by omega), h8.1 k (by omega), h7.1 k (by omega), h6.1 k (by omega), h5.1 k (by omega), h4.1 k (by omega), h3.1 k (by omega), h2.1 k (by omega), h1.1 k (by omega)]
  refine st_233 (I := A9) (cd := cd) (by rw [k9 489 (by omega) (by omega)]; exact ec) c16 (fun B C hB fC gC zC => ?_) cd 0 A9 (by omega) (CPo_0 _ _ _)
  refine st_288 (I := C) (fun E fE zE oE => ?_) 4 0 C (by omega) (fun _ _ => rfl) (fun j hj => by omega) (fun _ _ => rfl)
  have kE : ∀ k, k ≠ 489 → k ≠ 524 → k ≠ 532 → E k = A9 k := fun k a b c => by rw [fE k c, fC k a, hB.1 k b]
  have r18 : E 518 = A1 518 := by rw [kE 518 (by decide) (by decide) (by decide), h9.1 518 (by decide), h8.1 518 (by decide), h7.1 518 (by decide), h6.1 518 (by decide), h5.1 518 (by decide), h4.1 518 (by decide), h3.1 518 (by decide), h2.1 518 (by decide)]
  have r19 : E 519 = A2 519 := by rw [kE 519 (by decide) (by decide) (by decide), h9.1 519 (by decide), h8.1 519 (by decide), h7.1 519 (by decide), h6.1 519 (by decide), h5.1 519 (by decide), h4.1 519 (by decide), h3.1 519 (by decide)]
  have r20 : E 520 = A3 520 := by rw [kE 520 (by decide) (by decide) (by decide), h9.1 520 (by decide), h8.1 520 (by decide), h7.1 520 (by decide), h6.1 520 (by decide), h5.1 520 (by decide), h4.1 520 (by decide)]
  have r21 : E 521 = A4 521 := by rw [kE 521 (by decide) (by decide) (by decide), h9.1 521 (by decide), h8.1 521 (by decide), h7.1 521 (by decide), h6.1 521 (by decide), h5.1 521 (by decide)]
  have r22 : E 522 = A5 522 := by rw [kE 522 (by decide) (by decide) (by decide), h9.1 522 (by decide), h8.1 522 (by decide), h7.1 522 (by decide), h6.1 522 (by decide)]
  have r23 : E 523 = A6 523 := by rw [kE 523 (by decide) (by decide) (by decide), h9.1 523 (by decide), h8.1 523 (by decide), h7.1 523 (by decide)]
  have r26 : E 526 = A7 526 := by rw [kE 526 (by decide) (by decide) (by decide), h9.1 526 (by decide), h8.1 526 (by decide)]
  have r27 : E 527 = A8 527 := by rw [kE 527 (by decide) (by decide) (by decide), h9.1 527 (by decide)]
  have r28 : E 528 = A9 528 := kE 528 (by decide) (by decide) (by decide)
  have r24 : E 524 = B 524 := by rw [fE 524 (by decide), fC 524 (by decide)]
  have lift : ∀ {A X : HI} {c o n : Nat}, A c = I c → CPo A X c o n → E c = X c → RowT I E c o n := fun {A X c o n} eA hX eX => by
    have := RowT_of hX eX
    unfold RowT at this ⊢
    rw [eA] at this
    exact this
  have t18 := lift (c := 518) rfl h1 r18
  have t19 := lift (c := 519) (h1.1 519 (by decide)) h2 r19
  have t20 := lift (c := 520) (by rw [h2.1 520 (by decide), h1.1 520 (by decide)]) h3 r20
  have t21 := lift (c := 521) (by rw [h3.1 521 (by decide), h2.1 521 (by decide), h1.1 521 (by decide)]) h4 r21
  have t22 := lift (c := 522) (by rw [h4.1 522 (by decide), h3.1 522 (by decide), h2.1 522 (by decide), h1.1 522 (by decide)]) h5 r22
  have t23 := lift (c := 523) (by rw [h5.1 523 (by decide), h4.1 523 (by decide), h3.1 523 (by decide), h2.1 523 (by decide), h1.1 523 (by decide)]) h6 r23
  have a6 : ∀ k, (k < 518 ∨ 523 < k) → A6 k = I k := fun k hk => by rw [h6.1 k (by omega), h5.1 k (by omega), h4.1 k (by omega), h3.1 k (by omega), h2.1 k (by omega), h1.1 k (by omega)]
  have t26 := lift (c := 526) (a6 526 (by omega)) h7 r26
  have t27 := lift (c := 527) (by rw [h7.1 527 (by decide), a6 527 (by omega)]) h8 r27
  have t28 := lift (c := 528) (by rw [h8.1 528 (by decide), h7.1 528 (by decide), a6 528 (by omega)]) h9 r28
  have t24 := lift (c := 524) (k9 524 (by omega) (by omega)) hB r24
  have fl : ∀ l j, l < nl → j < 4 → E 521 (64 + 4 * l + j) = I 521 (4 * l + j) := fun l j hl hj => by
    have := t21.1 (4 * l + j) (by omega)
    rw [← this]
    congr 1
    omega
  have lc := lnk_congr (F := fun l => I 521 (4 * l)) (G := fun l => I 521 (4 * l + 1)) (W := fun l => I 521 (4 * l + 3)) (F' := fun l => E 521 (64 + 4 * l)) (G' := fun l => E 521 (64 + 4 * l + 1)) (W' := fun l => E 521 (64 + 4 * l + 3)) nl (fun i hi => ⟨fl i 0 hi (by omega), fl i 1 hi (by omega), fl i 3 hi (by omega)⟩)
  refine c11_sounds (n := n) (nl := nl) n10 (by rw [← enl]; exact t18.1 2 (by omega)) nl16 (fun l hl => ?_) (fun Y fY mY => PV_i (h Y ⟨fun k a b c e1 e2 => ?_, ⟨?_, ?_, ?_, ?_, ?_, ?_, ?_, ?_, ?_, ?_⟩, ⟨fun j a b c e => ?_, ?_⟩, ?_⟩ (by rw [lc] at mY; exact mY)))
  · have := hL l hl
    have u0 := fl l 0 hl (by omega)
    have u1 := fl l 1 hl (by omega)
    have u3 := fl l 3 hl (by omega)
    dsimp only at this ⊢
    rw [Nat.add_zero] at u0
    rw [u0, u1, u3]
    exact this
  · rw [fY k b, kE k a (by omega) c, k9 k (by omega) e2]
  all_goals first | (unfold RowT; rw [fY _ (by decide)]; assumption) | skip
  · rw [fY 489 (by decide), fE 489 (by decide), gC j a b c e, k9 489 (by omega) (by omega)]
  · rw [fY 489 (by decide), fE 489 (by decide)]
    rw [k9 489 (by omega) (by omega)] at zC
    exact zC
  · rw [fY 532 (by decide)]
    refine ⟨zE, fun j hj => ?_⟩
    rw [oE j hj, fC 532 (by decide), hB.1 532 (by decide), k9 532 (by omega) (by omega)]
end ST
