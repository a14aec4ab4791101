section MS9
variable {d : Nat} {X I I' : HI} {K : HI → Prop} {t : Txt} {i j : Nat} {C : List Int}
theorem lane_tk {a b n : Nat} (mo : Mdr X I C) (dv : DRV I C) (en : I 15 1 = n) (ha : a < 10) (hb : b < 10) : (∃ l, l < n ∧ jns (X 521) l a b) ↔ I 25 (10 * a + b) ≠ -1 := by
  have e : ∀ l : Nat, l < n → (jns (X 521) l a b ↔ jns (I 19) l a b) := fun l hl => by
    unfold jns
    rw [mo.2.2.1.2.1 (4 * l) (by omega), mo.2.2.1.2.1 (4 * l + 1) (by omega)]
  rcases dv.2.2.2.1 a b ha hb with ⟨u1, u2⟩ | ⟨l, u1, u2, u3, u4⟩
  · refine ⟨fun ⟨l, l1, l2⟩ => absurd ((e l l1).mp l2) (u2 l (by omega)), fun u => absurd u1 u⟩
  · exact ⟨fun _ => by omega, fun _ => ⟨l, by omega, (e l (by omega)).mpr u3⟩⟩
theorem st_fin {m j' : Nat} {Z : HI} (ht : TKN t) (s : MSd X Z) (mZ : MRk t Z j') (sg : sgn t j' 59) (em : X 489 45 = m) (m70 : m < 70) (k : ∀ Y : HI, MSx X Y → MRk t Y (j' + 1) → (∀ c, c ≠ 489 → Y c = Z c) → (Y 489 43 = Z 489 43 ∧ Y 489 47 = Z 489 47) → Y 489 45 = (m : Int) + 1 → K Y) : CV mX11_asksSign (d + 10) [vR 489, vI 59] Z (fun I24 => (-2147483648 ≤ (I24 489 45) + 1 ∧ (I24 489 45) + 1 ≤ 2147483647) ∧ (∀ I25 : HI, I25 = up I24 489 45 ((I24 489 45) + 1) → PV K none (mk I25))) := by
  refine c11_asksSg ht mZ (by omega) (by unfold ltr; omega) (by unfold dgt; omega) (fun _ V fV mV => ?_) (fun u => absurd sg u)
  have v45 : V 489 45 = m := by rw [fV.2.1 45 (by decide), MSd_45 s]; exact em
  rw [v45]
  refine ⟨by omega, fun W eW => PV_i (k W ⟨V, MSd_tr s (MSd_n (NTf_l fV)), fun c hc => by rw [eW, up_k hc], fun u hu => by rw [eW, up_n (by omega)]⟩ (MRk_c mV (fun c hc => by rw [eW, up_k (by omega)]) (fun u _ _ => by rw [eW, up_n (by omega)])) (fun c hc => by rw [eW, up_k hc, fV.1 c hc]) ⟨by rw [eW, up_n (by decide), fV.2.1 43 (by decide)], by rw [eW, up_n (by decide), fV.2.1 47 (by decide)]⟩ (by rw [eW, up_s]))⟩
theorem MFx_up {Z W : HI} {kf p v : Int} (fq : MFq X Z kf p) (eW : W = up Z 489 45 v) : MFx X W kf p := ⟨⟨Z, fq.1, fun c hc => by rw [eW, up_k hc], fun u hu => by rw [eW, up_n (by omega)]⟩, by rw [eW, up_n (by decide)]; exact fq.2.1, by rw [eW, up_n (by decide)]; exact fq.2.2.1, fq.2.2.2⟩
theorem st_finF {Z : HI} {kf p : Int} {m : Nat} (fq : MFq X Z kf p) (em : X 489 45 = m) (m70 : m < 70) (k : ∀ Y : HI, MFx X Y kf p → K Y) : CV mX11_asksSign (d + 10) [vR 489, vI 59] Z (fun I24 => (-2147483648 ≤ (I24 489 45) + 1 ∧ (I24 489 45) + 1 ≤ 2147483647) ∧ (∀ I25 : HI, I25 = up I24 489 45 ((I24 489 45) + 1) → PV K none (mk I25))) := by
  have z45 : Z 489 45 = m := by rw [MSd_45 fq.1]; exact em
  exact c11_asksSignB (MFq_b fq) ⟨by omega, fun W eW => PV_i (k W (MFx_up fq eW))⟩
theorem st_finG {m j' : Nat} {Z : HI} {kf p : Int} (ht : TKN t) (s : MSd X Z) (mZ : MRk t Z j') (sg : GF t j' 59 kf p) (em : X 489 45 = m) (m70 : m < 70) (k : ∀ Y : HI, MFx X Y kf p → K Y) : CV mX11_asksSign (d + 10) [vR 489, vI 59] Z (fun I24 => (-2147483648 ≤ (I24 489 45) + 1 ∧ (I24 489 45) + 1 ≤ 2147483647) ∧ (∀ I25 : HI, I25 = up I24 489 45 ((I24 489 45) + 1) → PV K none (mk I25))) := by
  obtain ⟨g1, g2, g3⟩ := sg
  subst g2; subst g3
  refine c11_asksSg ht mZ (by omega) (by unfold ltr; omega) (by unfold dgt; omega) (fun u => absurd u g1) (fun _ V W fV fW => ?_)
  have fq := MFq_l (MSd_tr s (MSd_n (NTf_l fV))) fW (by decide)
  have v45 : W 489 45 = m := by rw [MSd_45 fq.1]; exact em
  exact ⟨by omega, fun W' eW => PV_i (k W' (MFx_up fq eW))⟩
/-- the word that begins a statement is taken -/
theorem st_go {m : Nat} (ht : TKN t) (hm : MRk t X i) (hi : i < uN t) (nj : ¬ jnd t i) (em : X 489 45 = m) (m70 : m < 70) (k0 : uK t i = 0 → ∀ Y : HI, NTf X Y → Y 489 2 = uP t i → MRk t Y (i + 1) → CV mX11_newCorner (d + 10) [vR 489, vI (X 489 2)] Y (fun I23 => CV mX11_asksSign (d + 10) [vR 489, vI 59] I23 (fun I24 => (-2147483648 ≤ (I24 489 45) + 1 ∧ (I24 489 45) + 1 ≤ 2147483647) ∧ (∀ I25 : HI, I25 = up I24 489 45 ((I24 489 45) + 1) → (PV K) none (mk I25))))) (k2 : uK t i = 2 → ∀ Y : HI, NTf X Y → Y 489 2 = uP t i → MRk t Y (i + 1) → CV mX11_newLane (d + 10) [vR 489, vI (X 489 2)] Y (fun I20 => CV mX11_asksSign (d + 10) [vR 489, vI 59] I20 (fun I21 => (-2147483648 ≤ (I21 489 45) + 1 ∧ (I21 489 45) + 1 ≤ 2147483647) ∧ (∀ I22 : HI, I22 = up I21 489 45 ((I21 489 45) + 1) → (PV K) none (mk I22))))) (k5 : uK t i = 5 → ∀ Y : HI, NTf X Y → Y 489 2 = uP t i → MRk t Y (i + 1) → CV mX11_newSaint (d + 10) [vR 489, vI (X 489 2)] Y (fun I17 => CV mX11_asksSign (d + 10) [vR 489, vI 59] I17 (fun I18 => (-2147483648 ≤ (I18 489 45) + 1 ∧ (I18 489 45) + 1 ≤ 2147483647) ∧ (∀ I19 : HI, I19 = up I18 489 45 ((I18 489 45) + 1) → (PV K) none (mk I19))))) (k10 : uK t i = 10 → ∀ Y : HI, NTf X Y → Y 489 2 = uP t i → MRk t Y (i + 1) → CV mX11_newBalcony (d + 10) [vR 489, vI (X 489 2)] Y (fun I14 => CV mX11_asksSign (d + 10) [vR 489, vI 59] I14 (fun I15 => (-2147483648 ≤ (I15 489 45) + 1 ∧ (I15 489 45) + 1 ≤ 2147483647) ∧ (∀ I16 : HI, I16 = up I15 489 45 ((I15 489 45) + 1) → (PV K) none (mk I16))))) (k14 : uK t i = 14 → ∀ Y : HI, NTf X Y → Y 489 2 = uP t i → MRk t Y (i + 1) → CV mX11_newException (d + 10) [vR 489, vI (X 489 2)] Y (fun I11 => CV mX11_asksSign (d + 10) [vR 489, vI 59] I11 (fun I12 => (-2147483648 ≤ (I12 489 45) + 1 ∧ (I12 489 45) + 1 ≤ 2147483647) ∧ (∀ I13 : HI, I13 = up I12 489 45 ((I12 489 45) + 1) → (PV K) none (mk I13))))) (kr : (uK t i ≠ 0 ∧ uK t i ≠ 2 ∧ uK t i ≠ 5 ∧ uK t i ≠ 10 ∧ uK t i ≠ 14) → ∀ Y : HI, NTf X Y → MRk t Y i → CV mX11_asks (d + 10) [vR 489, vR 506] Y (fun I6 => CI mX11_number (d + 10) [vR 489, vI 0, vI 999] I6 (fun x7 I7 => (∀ I8 : HI, I8 = up I7 489 43 x7 → CV mX11_asksSign (d + 10) [vR 489, vI 59] I8 (fun I9 => (-2147483648 ≤ (I9 489 45) + 1 ∧ (I9 489 45) + 1 ≤ 2147483647) ∧ (∀ I10 : HI, I10 = up I9 489 45 ((I9 489 45) + 1) → (PV K) none (mk I10))))))) : CV mX11_statementTold (d + 11) [vR 489] X K := by
  refine bk_X11_statementTold_0 ⟨fun _ => ?_, fun z => by omega⟩
  refine c11_takesW (w := 0) rfl (by omega) ht hm (fun e _ Y fY mY => ⟨fun z => by omega, fun _ => k0 e Y (NTf_t fY) fY.2.2.1 mY⟩) (fun n0 Z0 f0 m0 => ⟨fun _ => ?_, fun z => absurd rfl z⟩)
  refine c11_takesW (w := 2) rfl (by omega) ht m0 (fun e _ Y fY mY => ⟨fun z => by omega, fun _ => k2 e Y (NTf_tr (NTf_l f0) (NTf_t fY)) fY.2.2.1 mY⟩) (fun n2 Z2 f2 m2 => ⟨fun _ => ?_, fun z => absurd rfl z⟩)
  have g2 := NTf_tr (NTf_l f0) (NTf_l f2)
  refine c11_takesW (w := 5) rfl (by omega) ht m2 (fun e _ Y fY mY => ⟨fun z => by omega, fun _ => k5 e Y (NTf_tr g2 (NTf_t fY)) fY.2.2.1 mY⟩) (fun n5 Z5 f5 m5 => ⟨fun _ => ?_, fun z => absurd rfl z⟩)
  have g5 := NTf_tr g2 (NTf_l f5)
  refine c11_takesW (w := 10) rfl (by omega) ht m5 (fun e _ Y fY mY => ⟨fun z => by omega, fun _ => k10 e Y (NTf_tr g5 (NTf_t fY)) fY.2.2.1 mY⟩) (fun n10 Z10 f10 m10 => ⟨fun _ => ?_, fun z => absurd rfl z⟩)
  have g10 := NTf_tr g5 (NTf_l f10)
  refine c11_takesW (w := 14) rfl (by omega) ht m10 (fun e _ Y fY mY => ⟨fun z => by omega, fun _ => k14 e Y (NTf_tr g10 (NTf_t fY)) fY.2.2.1 mY⟩) (fun n14 Z14 f14 m14 => ⟨fun _ => ?_, fun z => absurd rfl z⟩)
  exact kr ⟨fun e => n0 ⟨e, nj⟩, fun e => n2 ⟨e, nj⟩, fun e => n5 ⟨e, nj⟩, fun e => n10 ⟨e, nj⟩, fun e => n14 ⟨e, nj⟩⟩ Z14 (NTf_tr g10 (NTf_l f14)) m14
theorem c11_stS {m : Nat} (ht : TKN t) (hm : MRk t X i) (hi : i < uN t) (nj : ¬ jnd t i) (em : X 489 45 = m) (m70 : m < 70) (mo : Mdr X I C) (dv : DRV I C) (lC : C.length ≤ i) (hs : SS t i j I I') (k : ∀ (Y : HI) (C' : List Int), MSx X Y → MRk t Y j → Mdr Y I' C' → DRV I' C' → C'.length ≤ j → Y 489 45 = (m : Int) + 1 → K Y) : CV mX11_statementTold (d + 11) [vR 489] X K := by
  have mY9 : ∀ {Y : HI}, NTf X Y → Mdr Y I C ∧ Y 489 45 = m := fun f => ⟨Mdr_9 mo f.1 (f.2 43 (by decide) (by decide) (by decide)) (f.2 47 (by decide) (by decide) (by decide)), by rw [f.2 45 (by decide) (by decide) (by decide)]; exact em⟩
  have cr := dv.1
  rcases hs with hs | hs | hs | hs | hs | hs
  · obtain ⟨ej, hk, h0, v3, ⟨h1, h2, h3, h4⟩, cn, b18, b16, fy⟩ := hs
    subst ej
    obtain ⟨n, en⟩ : ∃ n : Nat, I 15 0 = n := ⟨(I 15 0).toNat, by have := cr.1; omega⟩
    refine st_go ht hm hi nj em m70 (fun _ Y fY y2 mY => ?_) (fun u => by omega) (fun u => by omega) (fun u => by omega) (fun u => by omega) (fun u => absurd hk u.1)
    obtain ⟨mo', e45⟩ := mY9 fY
    refine c11_newCornerS (d := d + 3) (n := n) ht mY mo'.1 en (by omega) h1 h2 h3 (fun Z sZ mZ a18 a19 a20 f g => ?_)
    have z45 : Z 489 45 = m := by rw [g 45 (by decide) (by decide) (by decide)]; exact e45
    exact st_fin ht (MSd_tr (MSd_n fY) sZ) mZ h4 em m70 (fun V sV mV fV gV v45 => k V C sV mV (Mdr_9 (Mdr_corner ht (by omega) mo' en (by omega) h1.1 a18 a19 a20 f g cn b18 b16 fy) fV gV.1 gV.2) (DRV_corner dv en (by omega) h3.2.2.2 cn b18 fy) (by omega) v45)
  · obtain ⟨ej, hk, h0, a1, a2, v4, v6, ⟨h1, h2, h3, h4, h5, h6, h7⟩, cn, b19, b25, fy⟩ := hs
    subst ej
    obtain ⟨n, en⟩ : ∃ n : Nat, I 15 1 = n := ⟨(I 15 1).toNat, by have := cr.2.1; omega⟩
    have q1 := h1.2.1.1
    have q2 := h2.2.1.1
    have c0 := cr.1
    obtain ⟨p1, p2⟩ := h2.2.2 (by omega)
    rw [show ((a1 : Int) * 10 + (a2 : Int)).toNat = 10 * a1 + a2 from by omega] at p2
    refine st_go ht hm hi nj em m70 (fun u => by omega) (fun _ Y fY y2 mY => ?_) (fun u => by omega) (fun u => by omega) (fun u => by omega) (fun u => absurd hk u.2.1)
    obtain ⟨mo', e45⟩ := mY9 fY
    refine c11_newLaneS (d := d + 3) (nl := n) ht mY mo'.1 (by rw [mo'.2.1.1]; exact en) (by omega) (AC_s h1) (AC_s h2) (fun u => ?_) h3 h4 h5 h6 (fun Z sZ mZ a18 a21 f g => ?_)
    · rcases u with u | u
      · exact p1 u.symm
      · exact (lane_tk mo' dv en (by omega) (by omega)).mp u p2
    · have z45 : Z 489 45 = m := by rw [g 45 (by decide) (by decide) (by decide)]; exact e45
      exact st_fin ht (MSd_tr (MSd_n fY) sZ) mZ h7 em m70 (fun V sV mV fV gV v45 => k V C sV mV (Mdr_9 (Mdr_lane mo' en a18 a21 f g cn b19 fy) fV gV.1 gV.2) (DRV_lane dv en (by omega) q1 q2 (fun u => p1 (by omega)) p2 h4.2.2.2 h6.2.2.2 cn b19 b25 fy) (by omega) v45)
  · obtain ⟨ej, hk, h0, a3, v5, v7, v9, ⟨h1, h2, h3, h4, h5, h6, h7, h8, h9, h10⟩, cn, b20, b17, fy⟩ := hs
    subst ej
    obtain ⟨n, en⟩ : ∃ n : Nat, I 15 2 = n := ⟨(I 15 2).toNat, by have := cr.2.2.1; omega⟩
    refine st_go ht hm hi nj em m70 (fun u => by omega) (fun u => by omega) (fun _ Y fY y2 mY => ?_) (fun u => by omega) (fun u => by omega) (fun u => absurd hk u.2.2.1)
    obtain ⟨mo', e45⟩ := mY9 fY
    refine c11_newSaintS (d := d + 3) (n := n) ht mY mo'.1 en (by omega) h1 h2 (AC_s h3) h4 h5 h6 h7 h8 h9 (fun Z sZ mZ a18 a19 a22 f g => ?_)
    have z45 : Z 489 45 = m := by rw [g 45 (by decide) (by decide) (by decide)]; exact e45
    exact st_fin ht (MSd_tr (MSd_n fY) sZ) mZ h10 em m70 (fun V sV mV fV gV v45 => k V C sV mV (Mdr_9 (Mdr_saint ht (by omega) mo' en (by omega) h1.1 a18 a19 a22 f g cn b20 b17 fy) fV gV.1 gV.2) (DRV_saint dv en (by omega) h3.2.1.1 h5.2.2.2 h7.2.2.2 h9.2.2.2 cn b20 fy) (by omega) v45)
  · obtain ⟨ej, hk, h0, a2, v4, v6, v8, ⟨h1, h2, h3, h4, h5, h6, h7, h8, h9⟩, cn, b21, fy⟩ := hs
    subst ej
    obtain ⟨n, en⟩ : ∃ n : Nat, I 15 3 = n := ⟨(I 15 3).toNat, by have := cr.2.2.2.1; omega⟩
    refine st_go ht hm hi nj em m70 (fun u => by omega) (fun u => by omega) (fun u => by omega) (fun _ Y fY y2 mY => ?_) (fun u => by omega) (fun u => absurd hk u.2.2.2.1)
    obtain ⟨mo', e45⟩ := mY9 fY
    refine c11_newBalconyS (d := d + 3) (nb := n) ht mY mo'.1 (by rw [mo'.2.1.2.1]; exact en) (by omega) h1 (AC_s h2) h3 h4 h5 h6 h7 h8 (fun Z sZ mZ a18 a23 f g => ?_)
    have z45 : Z 489 45 = m := by rw [g 45 (by decide) (by decide) (by decide)]; exact e45
    exact st_fin ht (MSd_tr (MSd_n fY) sZ) mZ h9 em m70 (fun V sV mV fV gV v45 => k V C sV mV (Mdr_9 (Mdr_balcony mo' en a18 a23 f g cn b21 fy) fV gV.1 gV.2) (DRV_balcony dv en (by omega) h4.2.2.2.1 h6.2.2.2 h8.2.2.2 cn b21 fy) (by omega) v45)
  · obtain ⟨hk, h0, j1, cs, h1, h2, ej, bC, b15, b24, b23, fy⟩ := hs
    subst ej
    obtain ⟨n, en⟩ : ∃ n : Nat, I 15 4 = n := ⟨(I 15 4).toNat, by have := cr.2.2.2.2; omega⟩
    refine st_go ht hm hi nj em m70 (fun u => by omega) (fun u => by omega) (fun u => by omega) (fun u => by omega) (fun _ Y fY y2 mY => ?_) (fun u => absurd hk u.2.2.2.2)
    obtain ⟨mo', e45⟩ := mY9 fY
    have ln := Tss_len h1
    refine c11_newExcS (d := d) (ne := n) ht mY hi hk y2 (by rw [mo'.2.1.2.2]; exact en) (by omega) mo'.2.2.2.2.2.1 lC h1 (fun Z sZ mZ a18 a26 a27 a28 a24 f g => ?_)
    have z45 : Z 489 45 = m := by rw [g.2]; exact e45
    have j1n := mZ.2.1
    have n16 := ht.1.2
    have wr := wct_rng (t := t) (i0 := i + 1) j1
    have dY := bC C mo.2.2.2.2.2.2.1
    have e23 : I 23 n = C.length := by have := mo.2.2.2.2.2.2.2; rw [en, Int.toNat_natCast] at this; exact this
    exact st_fin ht (MSd_tr (MSd_n fY) sZ) mZ h2 em m70 (fun V sV mV fV gV v45 => k V (C ++ cs) sV mV (Mdr_9 (Mdr_but mo' en a18 a26 a27 a28 a24 f g.1 bC b15 b24 b23 fy) fV gV.1 gV.2) (DRV_but dv en (by omega) (by omega) (Tss_w h1) e23 b15 b24 (by rw [dY.1] at b23; exact b23) fy) (by rw [List.length_append]; omega) v45)
  · obtain ⟨ej, hk, ⟨v, h1, h2, b14⟩, fy, e12⟩ := hs
    subst ej
    refine st_go ht hm hi nj em m70 (fun u => by omega) (fun u => by omega) (fun u => by omega) (fun u => by omega) (fun u => by omega) (fun _ Y fY mY => ?_)
    obtain ⟨mo', e45⟩ := mY9 fY
    refine c11_asksS (w := 15) rfl (by omega) ht mY ⟨hk, nj⟩ (fun Z1 f1 m1 => c11_numS ht m1 h1 (fun Z2 f2 m2 I3 e3 => ?_))
    have f12 := NTf_tr fY (NTf_tr f1 f2)
    have m3 : MRk t I3 (i + 2) := MRk_c m2 (fun c hc => by rw [e3, up_k (by omega)]) (fun u _ _ => by rw [e3, up_n (by omega)])
    have z45 : I3 489 45 = m := by rw [e3, up_n (by decide), f12.2 45 (by decide) (by decide) (by decide)]; exact em
    exact st_fin ht (MSd_tr (MSd_n f12) (MSd_u9 e3 (by omega))) m3 h2 em m70 (fun V sV mV fV gV v45 => k V C sV mV (Mdr_9 (Mdr_rain mo (fun c hc => by rw [e3, up_k hc, f12.1 c hc]) (by rw [e3, up_s]) (by rw [e3, up_n (by decide), f12.2 47 (by decide) (by decide) (by decide)]) b14 fy e12) fV gV.1 gV.2) (DRV_rain dv h1.2.2.2 b14 fy) (by omega) v45)
end MS9
