theorem MSx_tr {X Y W : HI} (h : MSx X Y) (g : MSx Y W) : MSx X W := by
  obtain ⟨Z1, a1, a2, a3⟩ := h
  obtain ⟨Z2, ⟨b1, ⟨c1, c2, c3, c4, c5, c6, c7, c8, c9, c10⟩, b5⟩, b2, b3⟩ := g
  refine ⟨up Z2 489 45 (Z1 489 45), MSd_tr a1 ⟨fun c x y => by rw [up_k x, b1 c x y, a2 c x], ⟨fun u hu => by rw [up_k (by decide), c1 u hu, a2 518 (by decide)], fun u hu => by rw [up_k (by decide), c2 u hu, a2 519 (by decide)], fun u hu => by rw [up_k (by decide), c3 u hu, a2 520 (by decide)], fun u hu => by rw [up_k (by decide), c4 u hu, a2 521 (by decide)], fun u hu => by rw [up_k (by decide), c5 u hu, a2 522 (by decide)], fun u hu => by rw [up_k (by decide), c6 u hu, a2 523 (by decide)], fun u hu => by rw [up_k (by decide), c7 u hu, a2 524 (by decide)], fun u hu => by rw [up_k (by decide), c8 u hu, a2 526 (by decide)], fun u hu => by rw [up_k (by decide), c9 u hu, a2 527 (by decide)], fun u hu => by rw [up_k (by decide), c10 u hu, a2 528 (by decide)]⟩, fun j d1 d2 d3 d4 d5 d6 d7 d8 d9 d10 => ?_⟩, fun c hc => by rw [up_k hc, b2 c hc], fun j hj => by rw [up_n (by omega), b3 j hj]⟩
  by_cases e : j = 45
  · rw [e, up_s]
  · rw [up_n (by omega), b5 j d1 d2 d3 d4 d5 d6 d7 d8 d9 d10, a3 j e]
theorem MSx_of {X Y : HI} (h : MSd X Y) : MSx X Y := ⟨Y, h, fun _ _ => rfl, fun _ _ => rfl⟩
theorem SS_nj {t : Txt} {i j : Nat} {I Y : HI} (h : SS t i j I Y) : ¬ jnd t j := by
  have key : ∀ u : Nat, sgn t u 59 → ¬ jnd t (u + 1) := fun u s q => by
    have := q.2.1
    rw [show u + 1 - 1 = u from by omega] at this
    have := s.1
    omega
  rcases h with hs | hs | hs | hs | hs | hs
  · obtain ⟨ej, hk, h0, v3, ⟨h1, h2, h3, h4⟩, _⟩ := hs
    rw [ej]; exact key (i + 4) h4
  · obtain ⟨ej, hk, h0, a1, a2, v4, v6, ⟨h1, h2, h3, h4, h5, h6, h7⟩, _⟩ := hs
    rw [ej]; exact key (i + 7) h7
  · obtain ⟨ej, hk, h0, a3, v5, v7, v9, ⟨h1, h2, h3, h4, h5, h6, h7, h8, h9, h10⟩, _⟩ := hs
    rw [ej]; exact key (i + 10) h10
  · obtain ⟨ej, hk, h0, a2, v4, v6, v8, ⟨h1, h2, h3, h4, h5, h6, h7, h8, h9⟩, _⟩ := hs
    rw [ej]; exact key (i + 9) h9
  · obtain ⟨hk, h0, j1, cs, h1, h2, ej, _⟩ := hs
    rw [ej]; exact key j1 h2
  · obtain ⟨ej, hk, ⟨v, h1, h2, b14⟩, _⟩ := hs
    rw [ej]; exact key (i + 2) h2
section LPC
variable {d : Nat} {KI : Int → HI → Prop} {t : Txt}
theorem city_bad {Z : HI} {a1 : Int} (h : ∀ I2 : HI, I2 = up (up Z 0 14 (Z 28 13)) 0 15 (Z 28 14) → KI (-1) I2) : J none mX10_city (d + 22) 0 0 20 [(0, vR 0), (1, vI a1), (2, vI 0)] [] (mk Z) (PI KI) := by
  refine bk_X10_city_20 ⟨fun _ I1 e1 I2 e2 => ⟨fun z => absurd rfl z, fun _ => PI_i (h I2 ?_)⟩, fun z => absurd rfl z⟩
  rw [e2, e1, up_k (by decide)]
theorem city_20 (ht : TKN t) : ∀ (w m i : Nat) (Z : HI) (C : List Int), m + w = 70 → RDk t Z i → DRV Z C → CDt Z C → Z 23 (Z 15 4).toNat = C.length → C.length ≤ i → (Z 28 13 = 0 ∧ Z 28 14 = -1) → (∀ (L mf : Nat) (Y : HI) (C' : List Int), CHt t L i m Z mf Y → mf ≤ 70 → (∀ c, (c < 14 ∨ 26 < c) → c ≠ 28 → Y c = Z c) → (0 ≤ Y 28 11 ∧ Y 28 11 ≤ uO t + 2000) → DRV Y C' → CDt Y C' → Y 23 (Y 15 4).toNat = C'.length → ∀ I2 : HI, I2 = up (up Y 0 14 0) 0 15 (-1) → CV mX0_settle (d + 21) [vR 14] I2 (fun I16 => CV mX0_copyFrom (d + 21) [vR 1, vR 14] I16 (fun I17 => CV mX9_begin (d + 21) [vR 32] I17 (fun I18 => CV mX1_forget (d + 21) [vR 62] I18 (fun I19 => (PI KI) (some (vI (mf : Int))) (mk I19)))))) → (∀ (L : Nat) (k p : Int) (Y : HI), CHu t L i m Z k p → FQc t Z Y k p → ∀ I2 : HI, I2 = up (up Y 0 14 k) 0 15 p → KI (-1) I2) → J none mX10_city (d + 22) 0 0 20 [(0, vR 0), (1, vI (m : Int)), (2, vI 1)] [] (mk Z) (PI KI) := by
  intro w
  induction w with
  | zero =>
    intro m i Z C hm rZ dv dC e23 lC f0 kS kF
    have i' := rZ.2.1
    have kk := tK_e ht i'
    have r8 := rZ.2.2.1.2.2.2
    have r6 := rZ.2.2.1.2.1
    have b11 := rZ.2.2.2.2
    have n16 := ht.1.2
    refine bk_X10_city_20 ⟨fun z => absurd z (by decide), fun _ => ⟨fun z => by omega, fun _ => bk_X7_more_0 ⟨fun q => PI_i ⟨fun _ J1 e1 J2 e2 => ⟨fun _ => ?_, fun z => absurd z (by decide)⟩, fun z => absurd rfl z⟩, fun q => PI_i ⟨fun z => by omega, fun _ => ⟨fun _ => ?_, fun z => by omega⟩⟩⟩⟩⟩
    · exact kS 0 m Z C ⟨by omega, rfl, rfl⟩ (by omega) (fun _ _ _ => rfl) (by omega) dv dC e23 J2 (by rw [e2, e1, up_k (by decide), f0.1, f0.2])
    · rw [r6]
      refine c7_fail (fun Y fY => ⟨by omega, city_bad (fun J2 e2 => kF 0 5 _ Y ⟨by omega, Or.inl ⟨by omega, rfl, rfl⟩⟩ (FQ_mid ht rZ (MID_rfl Z 14 14) (by omega) (by omega) (by rw [dC.1]; omega) fY) J2 (by rw [e2, fY.2.2.1, fY.2.2.2]))⟩)
  | succ w ih =>
    intro m i Z C hm rZ dv dC e23 lC f0 kS kF
    have i' := rZ.2.1
    have kk := tK_e ht i'
    have r8 := rZ.2.2.1.2.2.2
    have b11 := rZ.2.2.2.2
    have n16 := ht.1.2
    refine bk_X10_city_20 ⟨fun z => absurd z (by decide), fun _ => ⟨fun z => by omega, fun _ => bk_X7_more_0 ⟨fun q => PI_i ⟨fun _ J1 e1 J2 e2 => ⟨fun _ => ?_, fun z => absurd z (by decide)⟩, fun z => absurd rfl z⟩, fun q => PI_i ⟨fun z => by omega, fun _ => ⟨fun z => by omega, fun _ => ?_⟩⟩⟩⟩⟩
    · exact kS 0 m Z C ⟨by omega, rfl, rfl⟩ (by omega) (fun _ _ _ => rfl) (by omega) dv dC e23 J2 (by rw [e2, e1, up_k (by decide), f0.1, f0.2])
    · have hi : i < uN t := by omega
      refine c7_statement (d := d) ht rZ hi dv.1 dC lC (fun j Y hs rY fr => ⟨by omega, ?_⟩) (fun k p Y hf fq => ⟨by omega, city_bad (fun J2 e2 => kF 0 k p Y ⟨hi, Or.inr ⟨by omega, hf⟩⟩ fq J2 (by rw [e2, fq.2.1.1, fq.2.1.2]))⟩)
      obtain ⟨C', dv', dC', e23', lC', _⟩ := SS_v ht hs rY.2.1 dv dC e23 lC
      have := ih (m + 1) j Y C' (by omega) rY dv' dC' e23' lC' (by rw [fr.2.1, fr.2.2]; exact f0) (fun L mf V C2 hc m70 fV bV a1 a2 a3 I2 e2 => kS (L + 1) mf V C2 ⟨hi, by omega, j, Y, hs, hc⟩ m70 (fun c x y => by rw [fV c x y, fr.1 c x y]) bV a1 a2 a3 I2 e2) (fun L k p V hc fq I2 e2 => kF (L + 1) k p V ⟨hi, by omega, j, Y, hs, hc⟩ ⟨fun c x y => by rw [fq.1 c x y, fr.1 c x y], fq.2⟩ I2 e2)
      exact this
end LPC
section LPM
variable {d : Nat} {KI : Int → HI → Prop} {t : Txt}
/-- the reference ends its loop -/
def FINm (d : Nat) (KI : Int → HI → Prop) (X : HI) : Prop := J none mX11_city (d + 12) 0 0 68 [(0, vR 489), (1, vI 5)] [] (mk X) (PI KI)
theorem mcity_S (ht : TKN t) (hA : ∀ j, j < uE t → 0 ≤ uA t j) : ∀ (L i m : Nat) (X I If : HI) (mf : Nat) (C : List Int), CHt t L i m I mf If → MRk t X i → ¬ jnd t i → X 489 45 = m → Mdr X I C → DRV I C → C.length ≤ i → (∀ (Y : HI) (C' : List Int), MSx X Y → MRk t Y (uN t) → Mdr Y If C' → DRV If C' → C'.length ≤ 1600 → Y 489 45 = mf → FINm d KI Y) → FINm d KI X
  | 0, i, m, X, I, If, mf, C, hc, mX, nj, em, mo, dv, lC, k => by
    obtain ⟨e1, e2, e3⟩ := hc
    subst e2; subst e3
    have n16 := ht.1.2
    exact k X C (MSx_of (MSd_rfl X)) (by rw [← e1]; exact mX) mo dv (by omega) em
  | L + 1, i, m, X, I, If, mf, C, hc, mX, nj, em, mo, dv, lC, k => by
    obtain ⟨hi, m70, j, I1, hs, hc⟩ := hc
    have ih := fun Y C' => mcity_S ht hA L j (m + 1) Y I1 If mf C' hc
    refine bk_X11_city_68 ⟨fun z => absurd mX.2.2.1.2 z, fun _ => c11_lookK ht mX (fun Y fY mY => ⟨fun q => ?_, fun _ => ?_⟩)⟩
    · have tn := tK_n ht hi
      unfold lkv at q
      rw [if_neg (by omega)] at q
      have := hA (uS t i) (by omega)
      omega
    · have fN := NTf_l fY
      refine c11_stS (d := d) ht mY hi nj (by rw [fY.2.1 45 (by decide)]; exact em) m70 (Mdr_9 mo fY.1 (fY.2.1 43 (by decide)) (fY.2.1 47 (by decide))) dv lC hs (fun Z C' sZ mZ moZ dvZ lZ z45 => ?_)
      have := ih Z C' mZ (SS_nj hs) (by rw [z45]; rfl) moZ dvZ lZ (fun V C2 sV mV moV dvV lV v45 => k V C2 (MSx_tr (MSx_of (MSd_n fN)) (MSx_tr sZ sV)) mV moV dvV lV v45)
      exact this
theorem mcity_F (ht : TKN t) (hA : ∀ j, j < uE t → 0 ≤ uA t j) : ∀ (L i m : Nat) (X I : HI) (kf p : Int) (C : List Int), CHu t L i m I kf p → MRk t X i → ¬ jnd t i → X 489 45 = m → Mdr X I C → DRV I C → C.length ≤ i → (∀ Y : HI, MFx X Y kf p → FINm d KI Y) → FINm d KI X
  | 0, i, m, X, I, kf, p, C, hc, mX, nj, em, mo, dv, lC, k => by
    obtain ⟨hi, hc⟩ := hc
    have tn := tK_n ht hi
    refine bk_X11_city_68 ⟨fun z => absurd mX.2.2.1.2 z, fun _ => c11_lookK ht mX (fun Y fY mY => ⟨fun q => ?_, fun _ => ?_⟩)⟩
    · unfold lkv at q
      rw [if_neg (by omega)] at q
      have := hA (uS t i) (by omega)
      omega
    · have y45 : Y 489 45 = m := by rw [fY.2.1 45 (by decide)]; exact em
      have sY := MSx_of (MSd_n (NTf_l fY))
      rcases hc with ⟨h1, h2, h3⟩ | ⟨h1, h2⟩
      · subst h2; subst h3
        refine bk_X11_statementTold_0 ⟨fun z => absurd (by rw [y45, h1]; rfl) z, fun _ => ?_⟩
        rw [fY.2.2]
        exact c11_fail mY.2.2.1.2 (fun Z fZ => PV_i (k Z ⟨MSx_tr sY (MSx_of (MSd_9 fZ.1 (fun j _ _ c e _ => fZ.2.1 j c e))), fZ.2.2.1, fZ.2.2.2, by decide⟩))
      · exact c11_stF (d := d) ht mY hi nj fY.2.2 y45 h1 (Mdr_9 mo fY.1 (fY.2.1 43 (by decide)) (fY.2.1 47 (by decide))) dv lC h2 (fun Z fZ => k Z ⟨MSx_tr sY fZ.1, fZ.2⟩)
  | L + 1, i, m, X, I, kf, p, C, hc, mX, nj, em, mo, dv, lC, k => by
    obtain ⟨hi, m70, j, I1, hs, hc⟩ := hc
    have ih := fun Y C' => mcity_F ht hA L j (m + 1) Y I1 kf p C' hc
    refine bk_X11_city_68 ⟨fun z => absurd mX.2.2.1.2 z, fun _ => c11_lookK ht mX (fun Y fY mY => ⟨fun q => ?_, fun _ => ?_⟩)⟩
    · have tn := tK_n ht hi
      unfold lkv at q
      rw [if_neg (by omega)] at q
      have := hA (uS t i) (by omega)
      omega
    · have fN := NTf_l fY
      refine c11_stS (d := d) ht mY hi nj (by rw [fY.2.1 45 (by decide)]; exact em) m70 (Mdr_9 mo fY.1 (fY.2.1 43 (by decide)) (fY.2.1 47 (by decide))) dv lC hs (fun Z C' sZ mZ moZ dvZ lZ z45 => ?_)
      have := ih Z C' mZ (SS_nj hs) (by rw [z45]; rfl) moZ dvZ lZ (fun V fV => k V ⟨MSx_tr (MSx_of (MSd_n fN)) (MSx_tr sZ fV.1), fV.2⟩)
      exact this
end LPM
