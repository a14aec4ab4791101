theorem FQ_sfr {t : Txt} {I Z Y : HI} {m : Nat} {k p : Int} (ht : TKN t) (hr : RDk t Z m) (h : SFd I Z) (w0 : 0 ≤ Z 28 12) (f : FLc Z Y k p) : FQc t I Y k p := by
  have bd := hr.2.2.2.2
  have n := hr.2.1
  have n16 := ht.1.2
  exact ⟨fun c x y => by rw [f.1 c y, h.1 c x y], f.2.2, by rw [f.2.1 11 (by decide) (by decide)]; omega, by rw [f.2.1 12 (by decide) (by decide)]; exact w0⟩
theorem SFd_av {I Z Y : HI} (h : SFd I Z) (f : AVf Z Y) : SFd I Y := ⟨fun c x y => by rw [f.1 c y, h.1 c x y], by rw [f.2 13 (by omega), f.2 14 (by omega)]; exact h.2⟩
section ST9
variable {d : Nat} {I : HI} {K : HI → Prop} {KI : Int → HI → Prop} {t : Txt} {i : Nat} {C : List Int}
theorem c7_exceptionStands {n : Nat} (en : I 15 4 = n) (n6 : n < 6) (h : ∀ Y : HI, (∀ c, c ≠ 15 → c ≠ 23 → c ≠ 24 → Y c = I c) → AP1 (I 15) (Y 15) 4 ((n : Int) + 1) → AP1 (I 24) (Y 24) n (I 28 11) → AP1 (I 23) (Y 23) (n + 1) (I 28 12) → KI 1 Y) : CI mX7_exceptionStands (d + 1) [vR 28] I KI := by
  refine bk_X7_exceptionStands_0 ?_
  rw [en, Int.toNat_natCast, show ((n : Int) + 1).toNat = n + 1 from by omega]
  refine ⟨by omega, fun I1 e1 => ⟨by omega, fun I2 e2 => ⟨by omega, by omega, fun I3 e3 => PI_i (h I3 (fun c a b c' => by rw [e3, up_k b, e2, up_k c', e1, up_k a]) ⟨?_, fun u hu => ?_⟩ ⟨?_, fun u hu => ?_⟩ ⟨?_, fun u hu => ?_⟩)⟩⟩⟩
  · rw [e3, up_k (by decide), e2, up_k (by decide), e1, up_s]
  · rw [e3, up_k (by decide), e2, up_k (by decide), e1, up_n (by omega)]
  · rw [e3, up_k (by decide), e2, up_s, e1, up_k (by decide)]
  · rw [e3, up_k (by decide), e2, up_n (by omega), e1, up_k (by decide)]
  · rw [e3, up_s, e2, up_k (by decide), e1, up_k (by decide)]
  · rw [e3, up_n (by omega), e2, up_k (by decide), e1, up_k (by decide)]
theorem c7_statement (ht : TKN t) (hr : RDk t I i) (hi : i < uN t) (cr : CRg I) (hC : CDt I C) (lC : C.length ≤ i) (k1 : ∀ j Y, SS t i j I Y → RDk t Y j → SFd I Y → KI 1 Y) (k0 : ∀ k p Y, SF t i I k p → FQc t I Y k p → KI 0 Y) : CI mX7_statement (d + 21) [vR 28] I KI := by
  have w0 : 0 ≤ I 28 12 := by rw [hC.1]; omega
  have r7 := hr.2.2.1.2.2.2
  have r5 := hr.2.2.1.2.1
  have kk := tK_n ht hi
  have no : (uK t i ≠ 0 ∧ uK t i ≠ 2 ∧ uK t i ≠ 5 ∧ uK t i ≠ 10 ∧ uK t i ≠ 14 ∧ uK t i ≠ 15) → CI mX7_fail (d + 20) [vR 28, vI 1, vI (I 28 6)] I (fun x1 I1 => ((x1 = 0 → PI KI (some (vI 0)) (mk I1)) ∧ (¬ (x1 = 0) → CI mX7_sign (d + 20) [vR 28, vI 59] I1 (fun x2 I2 => ((x2 = 0 → PI KI (some (vI 0)) (mk I2)) ∧ (¬ (x2 = 0) → PI KI (some (vI 1)) (mk I2))))))) := fun h => by
    rw [r5]
    exact c7_fail (fun Y fY => ⟨fun _ => PI_i (k0 1 _ Y (Or.inr (Or.inr (Or.inr (Or.inr (Or.inr (Or.inr ⟨h, rfl, rfl⟩)))))) (FQ_mid ht hr (MID_rfl I 14 14) (by omega) (by omega) w0 fY)), fun z => absurd rfl z⟩)
  refine bk_X7_statement_0 ?_
  rw [r7]
  refine ⟨fun q => no (by omega), fun q => ?_, fun q => no (by omega), fun q => ?_, fun q => no (by omega), fun q => ?_, fun q => no (by omega), fun q => ?_, fun q => no (by omega), fun q => ?_, fun q => ?_⟩
  · have hk : uK t i = 0 := by omega
    refine c7_tellCorner (d := d + 16) ht hr hk cr w0 (fun v3 Z h1 h2 h3 h4 rZ E fr => ⟨fun z => by omega, fun _ => ?_⟩) (fun k p Y h fq => ⟨fun _ => PI_i (k0 k p Y (Or.inl h) fq), fun z => absurd rfl z⟩)
    refine c7_sign ht rZ (fun s Y fY rY _ => ⟨fun z => by omega, fun _ => PI_i (k1 (i + 5) Y (Or.inl ⟨rfl, hk, h1, v3, ⟨h2, h3, h4, s⟩, ⟨by rw [fY.1 15 (by decide)]; exact E.1.1, by rw [fY.2 12 (by omega)]; exact E.1.2⟩, by rw [fY.1 18 (by decide)]; exact E.2.1, by rw [fY.1 16 (by decide)]; exact E.2.2.1, fun c a1 a2 a3 a4 a5 => by rw [fY.1 c (by omega)]; exact E.2.2.2 c a1 a2 a3 a4 a5⟩) rY (SFd_av fr fY))⟩) (fun s Y fY => ⟨fun _ => PI_i (k0 1 _ Y (Or.inl ⟨hk, Or.inr ⟨h1, Or.inr ⟨h2, Or.inr ⟨h3, Or.inr ⟨v3, h4, s, rfl, rfl⟩⟩⟩⟩⟩) (FQ_sfr ht rZ fr (by rw [E.1.2]; exact w0) fY)), fun z => absurd rfl z⟩)
  · have hk : uK t i = 2 := by omega
    refine c7_tellLane (d := d + 16) ht hr hk cr w0 (fun a1 a2 v4 v6 Z h1 h2 h3 h4 h5 h6 h7 rZ E fr => ⟨fun z => by omega, fun _ => ?_⟩) (fun k p Y h fq => ⟨fun _ => PI_i (k0 k p Y (Or.inr (Or.inl h)) fq), fun z => absurd rfl z⟩)
    refine c7_sign ht rZ (fun s Y fY rY _ => ⟨fun z => by omega, fun _ => PI_i (k1 (i + 8) Y (Or.inr (Or.inl ⟨rfl, hk, h1, a1, a2, v4, v6, ⟨h2, h3, h4, h5, h6, h7, s⟩, ⟨by rw [fY.1 15 (by decide)]; exact E.1.1, by rw [fY.2 12 (by omega)]; exact E.1.2⟩, by rw [fY.1 19 (by decide)]; exact E.2.1, by rw [fY.1 25 (by decide)]; exact E.2.2.1, fun c a1 a2 a3 a4 a5 => by rw [fY.1 c (by omega)]; exact E.2.2.2 c a1 a2 a3 a4 a5⟩)) rY (SFd_av fr fY))⟩) (fun s Y fY => ⟨fun _ => PI_i (k0 1 _ Y (Or.inr (Or.inl ⟨hk, Or.inr ⟨h1, Or.inr ⟨a1, h2, Or.inr ⟨a2, h3, Or.inr ⟨h4, Or.inr ⟨v4, h5, Or.inr ⟨h6, Or.inr ⟨v6, h7, s, rfl, rfl⟩⟩⟩⟩⟩⟩⟩⟩)) (FQ_sfr ht rZ fr (by rw [E.1.2]; exact w0) fY)), fun z => absurd rfl z⟩)
  · have hk : uK t i = 5 := by omega
    refine c7_tellSaint (d := d + 16) ht hr hk cr w0 (fun a3 v5 v7 v9 Z h1 h2 h3 h4 h5 h6 h7 h8 h9 h10 rZ E fr => ⟨fun z => by omega, fun _ => ?_⟩) (fun k p Y h fq => ⟨fun _ => PI_i (k0 k p Y (Or.inr (Or.inr (Or.inl h))) fq), fun z => absurd rfl z⟩)
    refine c7_sign ht rZ (fun s Y fY rY _ => ⟨fun z => by omega, fun _ => PI_i (k1 (i + 11) Y (Or.inr (Or.inr (Or.inl ⟨rfl, hk, h1, a3, v5, v7, v9, ⟨h2, h3, h4, h5, h6, h7, h8, h9, h10, s⟩, ⟨by rw [fY.1 15 (by decide)]; exact E.1.1, by rw [fY.2 12 (by omega)]; exact E.1.2⟩, by rw [fY.1 20 (by decide)]; exact E.2.1, by rw [fY.1 17 (by decide)]; exact E.2.2.1, fun c a1 a2 a3 a4 a5 => by rw [fY.1 c (by omega)]; exact E.2.2.2 c a1 a2 a3 a4 a5⟩))) rY (SFd_av fr fY))⟩) (fun s Y fY => ⟨fun _ => PI_i (k0 1 _ Y (Or.inr (Or.inr (Or.inl ⟨hk, Or.inr ⟨h1, Or.inr ⟨h2, Or.inr ⟨h3, Or.inr ⟨a3, h4, Or.inr ⟨h5, Or.inr ⟨v5, h6, Or.inr ⟨h7, Or.inr ⟨v7, h8, Or.inr ⟨h9, Or.inr ⟨v9, h10, s, rfl, rfl⟩⟩⟩⟩⟩⟩⟩⟩⟩⟩⟩))) (FQ_sfr ht rZ fr (by rw [E.1.2]; exact w0) fY)), fun z => absurd rfl z⟩)
  · have hk : uK t i = 10 := by omega
    refine c7_tellBalcony (d := d + 16) ht hr hk cr w0 (fun a2 v4 v6 v8 Z h1 h2 h3 h4 h5 h6 h7 h8 h9 rZ E fr => ⟨fun z => by omega, fun _ => ?_⟩) (fun k p Y h fq => ⟨fun _ => PI_i (k0 k p Y (Or.inr (Or.inr (Or.inr (Or.inl h)))) fq), fun z => absurd rfl z⟩)
    refine c7_sign ht rZ (fun s Y fY rY _ => ⟨fun z => by omega, fun _ => PI_i (k1 (i + 10) Y (Or.inr (Or.inr (Or.inr (Or.inl ⟨rfl, hk, h1, a2, v4, v6, v8, ⟨h2, h3, h4, h5, h6, h7, h8, h9, s⟩, ⟨by rw [fY.1 15 (by decide)]; exact E.1.1, by rw [fY.2 12 (by omega)]; exact E.1.2⟩, by rw [fY.1 21 (by decide)]; exact E.2.1, fun c a1 a2 a3 a4 => by rw [fY.1 c (by omega)]; exact E.2.2 c a1 a2 a3 a4⟩)))) rY (SFd_av fr fY))⟩) (fun s Y fY => ⟨fun _ => PI_i (k0 1 _ Y (Or.inr (Or.inr (Or.inr (Or.inl ⟨hk, Or.inr ⟨h1, Or.inr ⟨h2, Or.inr ⟨a2, h3, Or.inr ⟨h4, Or.inr ⟨v4, h5, Or.inr ⟨h6, Or.inr ⟨v6, h7, Or.inr ⟨h8, Or.inr ⟨v8, h9, s, rfl, rfl⟩⟩⟩⟩⟩⟩⟩⟩⟩⟩)))) (FQ_sfr ht rZ fr (by rw [E.1.2]; exact w0) fY)), fun z => absurd rfl z⟩)
  · have hk : uK t i = 14 := by omega
    obtain ⟨n, en⟩ : ∃ n : Nat, I 15 4 = n := ⟨(I 15 4).toNat, by have := cr.2.2.2.2; omega⟩
    have inj : ∀ {k p : Int}, SF_but t i I k p → SF t i I k p := fun h => Or.inr (Or.inr (Or.inr (Or.inr (Or.inl h))))
    refine c7_full (w := 4) ht hr hi (by omega) (fun hf Z1 m1 r1 t1 => ⟨fun z => absurd rfl z, fun _ => ?_⟩) (fun hf Y fY => ⟨fun _ => PI_i (k0 5 _ Y (inj ⟨hk, Or.inl ⟨hf, rfl, rfl⟩⟩) (FQ_mid ht hr (MID_rfl I 14 14) (by omega) (by omega) w0 fY)), fun z => by omega⟩)
    have z1 : ∀ c, c ≠ 28 → Z1 c = I c := fun c hc => m1.1 c hc hc hc
    have cs1 : CSt t (i + 1) Z1 Z1 (i + 1) C := ⟨r1, ⟨by rw [m1.2 12 (by omega)]; exact hC.1, fun k hk' => by rw [z1 22 (by decide)]; exact hC.2 k hk'⟩, Nat.le_refl _, by rw [t1, wct_0 _ (Nat.le_refl _)], fun _ _ _ => rfl, rfl, rfl⟩
    have te := c7_test (t := t) (i0 := i + 1) (I0 := Z1) ht
    have e6 : (6 : Int) - ((6 : Nat) : Int) = 0 := rfl
    unfold TESc at te
    rw [e6] at te
    refine te _ (d + 20) (i + 1) Z1 C (by omega) cs1 (by omega) (npt_of ht hi (by omega)) (fun j1 cs Z hs cZ => ⟨fun z => by omega, fun _ => ?_⟩) (fun k p Y hs fq => ⟨fun _ => PI_i (k0 k p Y (inj ⟨hk, Or.inr ⟨hf, Or.inl hs⟩⟩) ⟨fun c a b => by rw [fq.1 c a b, z1 c b], fq.2.1, fq.2.2.1, fq.2.2.2⟩), fun z => absurd rfl z⟩)
    obtain ⟨rZ, dZ, iZ, tZ, fZ, gZ⟩ := cZ
    have zI : ∀ c, c ≠ 22 → c ≠ 28 → Z c = I c := fun c a b => by rw [fZ c a b, z1 c b]
    refine c7_exceptionStands (n := n) (by rw [zI 15 (by decide) (by decide)]; exact en) (by omega) (fun V fV v15 v24 v23 => ⟨fun z => by omega, fun _ => ?_⟩)
    have rV : RDk t V j1 := RD_f rZ (fun c hc => fV c (by omega) (by omega) (by omega))
    have v28 : V 28 = Z 28 := fV 28 (by decide) (by decide) (by decide)
    have frV : SFd I V := ⟨fun c a b => by rw [fV c (by omega) (by omega) (by omega), zI c (by omega) b], by rw [v28, gZ.1, gZ.2]; exact ⟨m1.2 13 (by omega), m1.2 14 (by omega)⟩⟩
    refine c7_sign ht rV (fun s Y fY rY _ => ⟨fun z => by omega, fun _ => PI_i (k1 (j1 + 1) Y (Or.inr (Or.inr (Or.inr (Or.inr (Or.inl ⟨hk, hf, j1, cs, hs, s, rfl, fun C' hC' => ?_, ?_, ?_, ?_, fun c a1 a2 a3 a4 a5 a6 => ?_⟩))))) rY (SFd_av frV fY))⟩) (fun s Y fY => ⟨fun _ => PI_i (k0 1 _ Y (inj ⟨hk, Or.inr ⟨hf, Or.inr ⟨j1, cs, hs, s, rfl, rfl⟩⟩⟩) (FQ_sfr ht rV frV (by rw [v28, dZ.1]; omega) fY)), fun z => absurd rfl z⟩)
    · have lc : C'.length = C.length := by
        have h1 := hC.1
        have h2 := hC'.1
        omega
      have dd : ∀ k, k < C.length → tr (C'.getD k 0) = tr (C.getD k 0) := fun k hk' => by rw [← hC.2 k hk', ← hC'.2 k (by omega)]
      refine ⟨by rw [fY.2 12 (by omega), v28, dZ.1]; simp only [List.length_append]; omega, fun k hk' => ?_⟩
      rw [fY.1 22 (by decide), fV 22 (by decide) (by decide) (by decide), dZ.2 k (by simp only [List.length_append] at *; omega)]
      by_cases kc : k < C.length
      · rw [gd_l kc, gd_l (by omega)]
        exact (dd k kc).symm
      · rw [List.getD_eq_getElem?_getD, List.getD_eq_getElem?_getD, List.getElem?_append_right (by omega), List.getElem?_append_right (by omega), lc]
    · rw [fY.1 15 (by decide), en]
      rw [zI 15 (by decide) (by decide)] at v15
      exact v15
    · rw [fY.1 24 (by decide), en, Int.toNat_natCast]
      rw [zI 24 (by decide) (by decide), tZ] at v24
      exact v24
    · rw [fY.1 23 (by decide), en, Int.toNat_natCast, fY.2 12 (by omega), v28]
      rw [zI 23 (by decide) (by decide)] at v23
      exact v23
    · rw [fY.1 c (by omega), fV c a3 a5 a6]
      exact zI c a4 (by omega)
  · have hk : uK t i = 15 := by omega
    have inj : ∀ {k p : Int}, SF_rain t i I k p → SF t i I k p := fun h => Or.inr (Or.inr (Or.inr (Or.inr (Or.inr (Or.inl h)))))
    refine c7_advance ht hr hi (fun Z1 f1 r1 _ => ?_)
    have m1 : MID I Z1 14 14 := MID_av (MID_rfl I 14 14) f1
    refine c7_number ht r1 (fun v Z2 hv f2 vz r2 _ I3 e3 => ⟨fun z => by omega, fun _ => ?_⟩) (fun k p hu X Y fX eX fY I3 e3 => ⟨fun _ => PI_i (k0 k p I3 (inj ⟨hk, Or.inl hu⟩) (FQ_up (FQ_midN ht r1 m1 (by omega) (by omega) w0 fX eX fY) e3 (by omega))), fun z => absurd rfl z⟩)
    have r3 := RD_up r2 e3 (by decide)
    have z2 : ∀ c, c ≠ 28 → Z2 c = I c := fun c hc => by rw [f2.1 c hc, f1.1 c hc]
    have g3 : ∀ j, 11 < j → I3 28 j = I 28 j := fun j hj => by rw [e3, up_k (by decide), f2.2 j (by omega), f1.2 j (by omega)]
    have fr3 : SFd I I3 := ⟨fun c a b => by rw [e3, up_k (by omega), z2 c b], g3 13 (by omega), g3 14 (by omega)⟩
    rw [vz] at e3
    refine c7_sign ht r3 (fun s Y fY rY _ => ⟨fun z => by omega, fun _ => PI_i (k1 (i + 3) Y (Or.inr (Or.inr (Or.inr (Or.inr (Or.inr ⟨rfl, hk, ⟨v, hv, s, ?_, fun u hu => ?_⟩, fun c a1 a2 => ?_, ?_⟩))))) rY (SFd_av fr3 fY))⟩) (fun s Y fY => ⟨fun _ => PI_i (k0 1 _ Y (inj ⟨hk, Or.inr ⟨v, hv, s, rfl, rfl⟩⟩) (FQ_sfr ht r3 fr3 (by rw [g3 12 (by omega)]; exact w0) fY)), fun z => absurd rfl z⟩)
    · rw [fY.1 14 (by decide), e3, up_s]
    · rw [fY.1 14 (by decide), e3, up_n (by omega), z2 14 (by decide)]
    · rw [fY.1 c (by omega), e3, up_k (by omega), z2 c (by omega)]
    · rw [fY.2 12 (by omega), g3 12 (by omega)]
end ST9
