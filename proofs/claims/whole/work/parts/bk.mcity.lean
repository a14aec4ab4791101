/-- the reference has begun to read -/
def INm (X W : HI) (e : Nat) : Prop := (∀ c, c ≠ 489 → c ≠ 518 → W c = X c) ∧ ((∀ u, 5 ≤ u → W 518 u = X 518 u) ∧ ∀ u, u < 5 → W 518 u = 0) ∧ (W 489 3 = e ∧ W 489 1 = 0 ∧ W 489 2 = 0 ∧ W 489 4 = -1 ∧ W 489 5 = 0 ∧ W 489 6 = -1 ∧ W 489 45 = 0 ∧ W 489 47 = 0 ∧ W 489 43 = -1) ∧ (∀ j, (j = 0 ∨ 6 < j) → j ≠ 43 → j ≠ 45 → j ≠ 47 → W 489 j = X 489 j)
section MCY
variable {d : Nat} {X : HI} {KI : Int → HI → Prop} {t : Txt}
theorem mc_50 {W0 : HI} (h : ∀ W : HI, (∀ c, c ≠ 518 → W c = W0 c) → (∀ u, 5 ≤ u → W 518 u = W0 518 u) → (∀ u, u < 5 → W 518 u = 0) → FINm d KI W) : ∀ (m u : Nat) (W : HI), u + m = 5 → (∀ c, c ≠ 518 → W c = W0 c) → (∀ v, u ≤ v → W 518 v = W0 518 v) → (∀ v, v < u → W 518 v = 0) → J none mX11_city (d + 12) 0 0 50 [(0, vR 489), (1, vI (u : Int))] [] (mk W) (PI KI)
  | 0, u, W, e, f, g, z => by
    have eu : u = 5 := by omega
    subst eu
    exact bk_X11_city_50 ⟨fun _ => h W f g z, fun q => by omega⟩
  | m + 1, u, W, e, f, g, z => by
    have ih := fun Y => mc_50 h m (u + 1) Y (by omega)
    refine bk_X11_city_50 ⟨fun q => by omega, fun _ => ⟨by omega, fun I1 e1 => ⟨by omega, ?_⟩⟩⟩
    rw [Int.toNat_natCast] at e1
    have := ih I1 (fun c hc => by rw [e1, up_k hc, f c hc]) (fun v hv => by rw [e1, up_n (by omega), g v (by omega)]) (fun v hv => by
      by_cases ev : v = u
      · rw [ev, e1, up_s]
      · rw [e1, up_n (by omega), z v (by omega)])
    exact this
theorem mc_ini {e : Nat} (ee : X 489 1 = e) (h : ∀ W : HI, INm X W e → FINm d KI W) : CI mX11_city (d + 12) [vR 489] X KI := by
  refine bk_X11_city_0 (fun I1 e1 I2 e2 I3 e3 I4 e4 I5 e5 I6 e6 I7 e7 I8 e8 I9 e9 => ?_)
  have f : ∀ c, c ≠ 489 → I9 c = X c := fun c hc => by rw [e9, up_k hc, e8, up_k hc, e7, up_k hc, e6, up_k hc, e5, up_k hc, e4, up_k hc, e3, up_k hc, e2, up_k hc, e1, up_k hc]
  have := mc_50 (d := d) (KI := KI) (W0 := I9) (fun W fW gW zW => h W ⟨fun c a b => by rw [fW c b, f c a], ⟨fun u hu => by rw [gW u hu, f 518 (by decide)], zW⟩, ?_, fun j a b c g => ?_⟩) 5 0 I9 (by omega) (fun _ _ => rfl) (fun _ _ => rfl) (fun v hv => by omega)
  · exact this
  · rw [fW 489 (by decide)]
    refine ⟨?_, ?_, ?_, ?_, ?_, ?_, ?_, ?_, ?_⟩
    · rw [e9, up_n (by decide), e8, up_n (by decide), e7, up_n (by decide), e6, up_n (by decide), e5, up_n (by decide), e4, up_n (by decide), e3, up_n (by decide), e2, up_n (by decide), e1, up_s]; exact ee
    · rw [e9, up_n (by decide), e8, up_n (by decide), e7, up_n (by decide), e6, up_n (by decide), e5, up_n (by decide), e4, up_n (by decide), e3, up_n (by decide), e2, up_s]
    · rw [e9, up_n (by decide), e8, up_n (by decide), e7, up_n (by decide), e6, up_n (by decide), e5, up_n (by decide), e4, up_n (by decide), e3, up_s]
    · rw [e9, up_n (by decide), e8, up_n (by decide), e7, up_n (by decide), e6, up_n (by decide), e5, up_n (by decide), e4, up_s]
    · rw [e9, up_n (by decide), e8, up_n (by decide), e7, up_n (by decide), e6, up_n (by decide), e5, up_s]
    · rw [e9, up_n (by decide), e8, up_n (by decide), e7, up_n (by decide), e6, up_s]
    · rw [e9, up_n (by decide), e8, up_n (by decide), e7, up_s]
    · rw [e9, up_n (by decide), e8, up_s]
    · rw [e9, up_s]
  · rw [fW 489 (by decide), e9, up_n (by omega), e8, up_n (by omega), e7, up_n (by omega), e6, up_n (by omega), e5, up_n (by omega), e4, up_n (by omega), e3, up_n (by omega), e2, up_n (by omega), e1, up_n (by omega)]
theorem INm_m {W Z0 I : HI} (ht : TKN t) (h : INm X W (uE t)) (hb : ∀ j, j < uE t → X 490 j = uA t j) (ow : OWR X) (oz : OPZ t I Z0) : MRk t W 0 ∧ ¬ jnd t 0 ∧ Mdr W Z0 [] ∧ DRV Z0 [] := by
  obtain ⟨h1, ⟨h2, h3⟩, ⟨g3, g1, g2, g4, g5, g6, g45, g47, g43⟩, _⟩ := h
  obtain ⟨Z, op, eZ⟩ := oz
  obtain ⟨dv, dC⟩ := OPN_v op
  have fz : ∀ c, c ≠ 0 → Z0 c = Z c := fun c hc => by rw [eZ, up_k hc]
  obtain ⟨_, _, ⟨k12, _⟩, z15, z25, z23, z1, z2⟩ := op
  have q : ∀ u, u < 5 → Z0 15 u = 0 := fun u hu => by rw [fz 15 (by decide)]; exact z15 u hu
  have q0 := q 0 (by omega)
  have q1 := q 1 (by omega)
  have q2 := q 2 (by omega)
  have q3 := q 3 (by omega)
  have q4 := q 4 (by omega)
  refine ⟨⟨⟨fun j hj => by rw [h1 490 (by decide) (by decide)]; exact hb j hj, fun w hw k hk => by rw [h1 (491 + w) (by omega) (by omega)]; exact ow w hw k hk⟩, Nat.zero_le _, ⟨g3, g5⟩, ⟨0, g2, by unfold pe; rw [if_pos rfl]; exact Nat.le_refl _, Nat.zero_le _, g6⟩, ⟨fun w => absurd w.1 (by omega), fun _ => by rw [g4]; omega⟩⟩, fun w => by have := w.1; omega, ⟨⟨⟨by rw [h3 0 (by omega), q0], by rw [h3 1 (by omega), q2]⟩, by omega, by omega, fun w hw => by omega, fun w hw => by omega⟩, ⟨by rw [h3 2 (by omega), q1], by rw [h3 3 (by omega), q3], by rw [h3 4 (by omega), q4]⟩, ⟨fun u hu => by omega, fun u hu => by omega, fun u hu => by omega, fun u hu => by omega⟩, by rw [g43, fz 14 (by decide)]; exact z2.symm, fun e he => by omega, ⟨by rw [g47]; rfl, fun k hk => absurd hk (Nat.not_lt_zero _)⟩, CDt_f dC (fz 22 (by decide)) (by rw [fz 28 (by decide)]), by rw [q4, fz 23 (by decide)]; exact z23⟩, DRV_fr (fun c a b => fz c (by omega)) dv⟩
theorem c11_cityF {L : Nat} {k p : Int} {Z0 I : HI} (ht : TKN t) (hA : ∀ j, j < uE t → 0 ≤ uA t j) (ee : X 489 1 = uE t) (hb : ∀ j, j < uE t → X 490 j = uA t j) (ow : OWR X) (oz : OPZ t I Z0) (hc : CHu t L 0 0 Z0 k p) (h : ∀ W Z Y : HI, INm X W (uE t) → MFx W Z k p → Y = up (up Z 489 7 k) 489 8 p → KI (-1) Y) : CI mX11_city (d + 12) [vR 489] X KI := by
  refine mc_ini ee (fun W iW => ?_)
  obtain ⟨mW, nj, mo, dv⟩ := INm_m ht iW hb ow oz
  refine mcity_F ht hA L 0 0 W Z0 k p [] hc mW nj (by rw [iW.2.2.1.2.2.2.2.2.2.1]; rfl) mo dv (Nat.le_refl _) (fun Z fZ => ?_)
  have nb : Z 489 5 ≠ 0 := by rw [fZ.2.1]; exact fZ.2.2.2
  refine bk_X11_city_68 ⟨fun _ I1 e1 I2 e2 => ?_, fun z => absurd z nb⟩
  have i5 : I2 489 5 = Z 489 5 := by rw [e2, up_n (by decide), e1, up_n (by decide)]
  refine ⟨fun z => absurd (by rw [← i5]; exact z) nb, fun _ => PI_i (h W Z I2 iW fZ ?_)⟩
  rw [e2, e1, up_n (by decide), fZ.2.1, fZ.2.2.1]
theorem c11_cityS {L mf : Nat} {Z0 F I : HI} {n nl : Nat} (ht : TKN t) (hA : ∀ j, j < uE t → 0 ≤ uA t j) (ee : X 489 1 = uE t) (hb : ∀ j, j < uE t → X 490 j = uA t j) (ow : OWR X) (oz : OPZ t I Z0) (hc : CHt t L 0 0 Z0 mf F) (en : F 15 0 = n) (enl : F 15 1 = nl) (h : ∀ (W Z XR Y : HI) (C : List Int), INm X W (uE t) → MSx W Z → Z 489 5 = 0 → XR = up (up Z 489 7 0) 489 8 (-1) → Mdr XR F C → DRV F C → C.length ≤ 1600 → STD XR Y C.length → MX (Y 531) 10 (fwn (lnk (fun l => XR 521 (4 * l)) (fun l => XR 521 (4 * l + 1)) (fun l => XR 521 (4 * l + 3)) nl) 10) → KI (mf : Int) Y) : CI mX11_city (d + 12) [vR 489] X KI := by
  refine mc_ini ee (fun W iW => ?_)
  obtain ⟨mW, nj, mo, dv⟩ := INm_m ht iW hb ow oz
  refine mcity_S ht hA L 0 0 W Z0 F mf [] hc mW nj (by rw [iW.2.2.1.2.2.2.2.2.2.1]; rfl) mo dv (Nat.le_refl _) (fun Z C sZ mZ moZ dvZ lC z45 => ?_)
  refine bk_X11_city_68 ⟨fun z => absurd mZ.2.2.1.2 z, fun _ => c11_lookK ht mZ (fun V fV mV => ?_)⟩
  have lk : lkv t (uN t) = -1 := by unfold lkv; rw [if_pos rfl]
  refine ⟨fun _ I5 e5 I6 e6 => ?_, fun z => absurd lk z⟩
  obtain ⟨_, _, _, _, v6⟩ := mV.2.2.2.1
  have i5 : I6 489 5 = 0 := by rw [e6, up_n (by decide), e5, up_n (by decide)]; exact mV.2.2.1.2
  have xr : I6 = up (up V 489 7 0) 489 8 (-1) := by rw [e6, e5, up_n (by decide), mV.2.2.1.2, v6]
  have f6 : ∀ c, c ≠ 489 → I6 c = V c := fun c hc => by rw [xr, up_k hc, up_k hc]
  have moV : Mdr V F C := Mdr_9 moZ fV.1 (fV.2.1 43 (by decide)) (fV.2.1 47 (by decide))
  have mo6 : Mdr I6 F C := Mdr_9 moV f6 (by rw [xr, up_n (by decide), up_n (by decide)]) (by rw [xr, up_n (by decide), up_n (by decide)])
  refine ⟨fun _ => ?_, fun z => absurd i5 z⟩
  have r0 := dvZ.1.1
  have r1 := dvZ.1.2.1
  refine c11_stands (d := d + 8) (n := n) (nl := nl) (cd := C.length) (by omega) (by rw [mo6.2.1.1]; exact enl) (by omega) mo6.2.2.2.2.2.1.1 lC (fun l hl => ?_) (fun Y sY mY => PI_i ?_)
  · have a := dvZ.2.2.1 l (by omega)
    have b := mo6.2.2.1.2.1
    dsimp only
    rw [b (4 * l) (by omega), b (4 * l + 1) (by omega), b (4 * l + 3) (by omega)]
    omega
  · have y45 : Y 489 45 = mf := by rw [sY.2.2.1.1 45 (by decide) (by decide) (by decide) (by decide), xr, up_n (by decide), up_n (by decide), fV.2.1 45 (by decide)]; exact z45
    rw [y45]
    exact h W V I6 Y C iW (MSx_tr sZ (MSx_of (MSd_n (NTf_l fV)))) mV.2.2.1.2 xr mo6 dvZ lC sY mY
end MCY
