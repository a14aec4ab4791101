section MN
variable {d : Nat} {X X0 : HI} {K Kp : HI → Prop} {KI : Int → HI → Prop} {t : Txt} {i b : Nat} {T C : List Int} {o : Int}
theorem lkv_dg (ht : TKN t) (hi : i ≤ uN t) : dgt (lkv t i) ↔ uK t i = 28 := by
  unfold lkv
  by_cases e : i = uN t
  · rw [if_pos e]
    have := ht.2.1.2.2
    rw [← e] at this
    unfold dgt
    omega
  · rw [if_neg e]
    exact (tk_ltr ht (by omega)).2.1
theorem mnum_49 {lo hi : Int} (ht : TKN t) (hm : MRk t X i) (hk : uK t i = 28) (hj : ¬ jnd t i) (k1 : ∀ v Y, NUs t i lo hi v → TKf X Y (uP t i) → MRk t Y (i + 1) → KI v Y) (k0 : ∀ k p, NUf t i lo hi k p → ∀ x Y, (0 ≤ x ∧ x ≤ 9999) → FXf X Y k p → KI x Y) : ∀ (m c : Nat) (Z : HI), uS t i + c + m = uP t i → c ≤ 4 → LKf X Z (uS t i + c) → J none mX11_number (d + 2) 0 0 49 [(0, vR 489), (1, vI lo), (2, vI hi), (3, vI (uS t i : Int)), (4, vI (num (uA t) (uS t i) c))] [] (mk Z) (PI KI) := by
  have hi' := hm.2.1
  have kk := tK_e ht hi'
  have run := tD_run ht hk hi'
  have hin : i < uN t := by omega
  have tn := tK_n ht hin
  have e16 := ht.1.1
  intro m
  induction m with
  | zero =>
    intro c Z ec c4 fZ
    have rg := num_rng (A := uA t) (s := uS t i) c (fun j hj' => run.2.1 (uS t i + j) (by omega) (by omega))
    have eP : uP t i = uS t i + c := by omega
    have z3 : Z 489 3 = uE t := by rw [fZ.2.1 3 (by decide)]; exact hm.2.2.1.1
    have ev : num (uA t) (uS t i) (uP t i - uS t i) = num (uA t) (uS t i) c := by congr 1; omega
    have fin : ∀ I1 : HI, I1 = up Z 489 4 (Z 489 2) → CI mX11_isIn (d + 1) [vL (num (uA t) (uS t i) c), vL lo, vL hi] I1 (fun x1 I2 => ((x1 ≠ 0 → PI KI (some (vI (num (uA t) (uS t i) c))) (mk I2)) ∧ (x1 = 0 → CV mX11_fail (d + 1) [vR 489, vI 2, vI (uS t i : Int)] I2 (fun I3 => PI KI (some (vI (num (uA t) (uS t i) c))) (mk I3))))) := by
      intro I1 e1
      have tf : TKf X I1 (uP t i) := ⟨fun k hk' => by rw [e1, up_k hk', fZ.1 k hk'], fun j j2 j4 => by rw [e1, up_n (by omega), fZ.2.1 j j2], by rw [e1, up_n (by decide), fZ.2.2, eP], by rw [e1, up_s, fZ.2.2, eP]⟩
      refine c11_isInK (fun q => ⟨fun _ => PI_i (k1 _ I1 ⟨⟨hk, hj⟩, by omega, ev.symm, q.1, q.2⟩ tf (MRk_w ht hm hin (by omega) tf)), fun z => by omega⟩) (fun q => ⟨fun z => absurd rfl z, fun _ => c11_fail (by rw [e1, up_n (by decide), fZ.2.1 5 (by decide)]; exact hm.2.2.1.2) (fun Y fY => PI_i (k0 2 _ (Or.inr (Or.inr ⟨⟨hk, hj⟩, by omega, by rw [ev]; exact q, rfl, rfl⟩)) _ Y ⟨rg.1, rg.2.2.2.2.2 c4⟩ (FXf_m (MFr_t tf) fY (by rw [tf.2.2.1]; omega))))⟩)
    refine bk_X11_number_49 ?_
    rw [z3, fZ.2.2, Int.toNat_natCast, fZ.1 490 (by decide)]
    refine ⟨fun _ I1 e1 => fin I1 (by rw [fZ.2.2]; exact e1), fun q => ⟨by omega, c11_isDigit (fun q2 => ?_) (fun q2 => ⟨fun _ I5 e5 => fin I5 e5, fun z => absurd rfl z⟩)⟩⟩
    rw [hm.1.1 _ (by omega)] at q2
    rcases run.2.2 with u | u
    · omega
    · rw [eP] at u
      exact absurd q2 u
  | succ m ih =>
    intro c Z ec c4 fZ
    have rg := num_rng (A := uA t) (s := uS t i) c (fun j hj' => run.2.1 (uS t i + j) (by omega) (by omega))
    have z3 : Z 489 3 = uE t := by rw [fZ.2.1 3 (by decide)]; exact hm.2.2.1.1
    have z90 : Z 490 = X 490 := fZ.1 490 (by decide)
    have hd := run.2.1 (uS t i + c) (by omega) (by omega)
    have hd' := hd
    unfold dgt at hd'
    have ea : X 490 (uS t i + c) = uA t (uS t i + c) := hm.1.1 _ (by omega)
    refine bk_X11_number_49 ?_
    rw [z3, fZ.2.2, Int.toNat_natCast, z90, ea]
    refine ⟨fun q => by omega, fun _ => ⟨by omega, c11_isDigit (fun _ => ⟨fun z => by omega, fun _ => ?_⟩) (fun q => absurd hd q)⟩⟩
    rw [fZ.2.2, Int.toNat_natCast, z90, ea]
    have b9 := rg.2.2.2.2.2 c4
    refine ⟨by omega, fun q => ⟨by omega, by omega, by omega, by omega, by omega, fun I8 e8 => ?_⟩, fun q => ?_⟩
    · have := ih (c + 1) I8 (by omega) (by omega) ⟨fun k hk' => by rw [e8, up_k hk', fZ.1 k hk'], fun j j2 => by rw [e8, up_n (by omega), fZ.2.1 j j2], by rw [e8, up_s]; omega⟩
      rw [show num (uA t) (uS t i) (c + 1) = 10 * num (uA t) (uS t i) c + uA t (uS t i + c) - 48 from by show num (uA t) (uS t i) c * 10 + uA t (uS t i + c) - 48 = _; omega] at this
      exact this
    · exact c11_fail (by rw [fZ.2.1 5 (by decide)]; exact hm.2.2.1.2) (fun Y fY => PI_i (k0 1 _ (Or.inr (Or.inl ⟨⟨hk, hj⟩, by omega, rfl, by omega⟩)) 0 Y (by omega) (FXf_m (MFr_l fZ) fY (by rw [fZ.2.2]; omega))))
theorem c11_numberK {lo hi : Int} (ht : TKN t) (hm : MRk t X i) (k1 : ∀ v Y, NUs t i lo hi v → TKf X Y (uP t i) → MRk t Y (i + 1) → KI v Y) (k0 : ∀ k p, NUf t i lo hi k p → ∀ x Y, (0 ≤ x ∧ x ≤ 9999) → FXf X Y k p → KI x Y) : CI mX11_number (d + 2) [vR 489, vI lo, vI hi] X KI := by
  have kk0 := tK_e ht hm.2.1
  refine bk_X11_number_0 ⟨fun _ => c11_lookK ht hm (fun Y fY mY => c11_isDigit (fun q => ⟨fun z => by omega, fun _ => ?_⟩) (fun q => ⟨fun _ => ?_, fun z => absurd rfl z⟩)), fun q => absurd hm.2.2.1.2 q⟩
  · have hk := (lkv_dg ht hm.2.1).mp q
    have kk := tK_e ht hm.2.1
    have tn := tK_n ht (i := i) (by have := hm.2.1; omega)
    rw [fY.2.2]
    have en := mY.2.2.2.2
    refine ⟨fun q2 => ?_, fun q2 => ?_⟩
    · have hj : ¬ jnd t i := fun u => q2 (en.1 ((jnx_jnd (by omega)).mpr u)).symm
      have := mnum_49 (d := d) ht hm hk hj k1 k0 (uP t i - uS t i) 0 Y (by omega) (by omega) fY
      exact this
    · have hj : jnd t i := by
        by_cases u : jnx t i
        · exact (jnx_jnd (by omega)).mp u
        · have := en.2 u
          omega
      exact c11_fail mY.2.2.1.2 (fun Z fZ => PI_i (k0 1 _ (Or.inl ⟨fun u => u.2 hj, rfl, rfl⟩) 0 Z (by omega) (FXf_m (MFr_l fY) fZ (by rw [fY.2.2]; omega))))
  · rw [fY.2.2]
    exact c11_fail mY.2.2.1.2 (fun Z fZ => PI_i (k0 1 _ (Or.inl ⟨fun u => q ((lkv_dg ht hm.2.1).mpr u.1), rfl, rfl⟩) 0 Z (by omega) (FXf_m (MFr_l fY) fZ (by rw [fY.2.2]; omega))))
theorem FTm_x {Y : HI} {k p cb : Int} (h : RSc X0 X T b o C) (f : FXf X Y k p) (hk : k ≠ 0) (hb : (C.length : Int) ≤ cb) : FTm X0 Y k p cb := by
  obtain ⟨h1, h2, h3, h4, h5, h6⟩ := h
  refine ⟨⟨fun c a b' e => by rw [f.1 c a, h4 c a b' e], fun j a b' c e e2 e3 e4 e5 => ?_, fun k hk => by rw [f.1 524 (by decide), h6 k hk]⟩, ⟨f.2.2.1, f.2.2.2.1, hk⟩, ?_, f.2.2.2.2⟩
  · rw [f.2.1 j a b' c e, h5 j a b' c e e2 e3 e4 e5]
  · rw [f.2.1 47 (by decide) (by decide) (by decide) (by decide), h1.1]
    omega
theorem NUf_k {lo hi k p : Int} (h : NUf t i lo hi k p) : k ≠ 0 := by
  rcases h with u | u | u
  · omega
  · omega
  · have := u.2.2.2.1; omega
def PPx (d : Nat) (Kp : HI → Prop) (X : HI) : Prop := J none mX11_onePart (d + 6) 0 0 2 [(0, vR 489), (1, vI 1)] [] (mk X) (PV Kp)
theorem pp_bad (hb : X 489 5 ≠ 0) (h : Kp X) : PPx d Kp X :=
  bk_X11_onePart_2 ⟨fun q => absurd q (by decide), fun _ => ⟨fun _ => bk_X11_onePart_146 ⟨fun q => absurd q hb, fun _ => PV_i h⟩, fun q => absurd q hb⟩⟩
theorem FTm_2 {Y : HI} {k p cb : Int} (h : FTm X0 X k p cb) (f : ∀ c, c ≠ 489 → Y c = X c) (g : ∀ j, j ≠ 2 → Y 489 j = X 489 j) (b2 : 0 ≤ Y 489 2 ∧ Y 489 2 ≤ 1600) : FTm X0 Y k p cb := by
  obtain ⟨⟨h1, h2, h3⟩, h4, h5, h7⟩ := h
  exact ⟨⟨fun c a b' e => by rw [f c a, h1 c a b' e], fun j a b' c e e2 e3 e4 e5 => by rw [g j a, h2 j a b' c e e2 e3 e4 e5], fun k hk => by rw [f 524 (by decide), h3 k hk]⟩, by rw [g 5 (by decide), g 6 (by decide)]; exact h4, by rw [g 47 (by decide)]; exact h5, b2⟩
theorem pp_open {q : Nat} (ht : TKN t) (hm : MRk t X i) (r : RSc X0 X T b o C) (bd : C.length + T.length + q ≤ i) (s : sgn t i 40) (o0 : 0 ≤ o) (o6 : o ≤ 6) (q1 : 1 ≤ q) (k1 : o ≠ 6 → ∀ Y : HI, MRk t Y (i + 1) → RSc X0 Y (20 :: T) b (o + 1) C → PPx d Kp Y) (k0 : o = 6 → ∀ Y : HI, FTm X0 Y 4 (uS t i) (1601 - (q : Int)) → Kp Y) : PPx d Kp X := by
  have hi' := hm.2.1
  have n16 := ht.1.2
  have lk : lkv t i = 40 := (lkv_sg ht hi' (by omega) (by unfold ltr; omega) (by unfold dgt; omega)).mpr s
  have kk := tK_e ht hi'
  refine bk_X11_onePart_2 ⟨fun z => absurd z (by decide), fun _ => ⟨fun z => absurd hm.2.2.1.2 z, fun _ => c11_lookK ht hm (fun Y fY mY => ⟨fun z => absurd lk z, fun _ => ?_⟩)⟩⟩
  have y2 := fY.2.2
  rw [y2]
  refine c11_opens mY (RSc_m r (MFr_l fY)) (by omega) o0 (fun on I8 m8 r8 e8 => ?_) (fun on I8 f8 => ?_) o6
  · rw [e8, y2]
    refine ⟨by omega, fun I9 e9 => ?_⟩
    have f9 : LKf I8 I9 (uS t i + 1) := ⟨fun k hk => by rw [e9, up_k hk], fun j hj => by rw [e9, up_n (by omega)], by rw [e9, up_s]; omega⟩
    exact k1 on I9 (MRk_sg ht m8 (sgn_lt ht hi' s) s.1 f9) (RSc_m r8 (MFr_l f9))
  · have ff := FTm_of (cb := 1601 - (q : Int)) r (MFr_l fY) f8 (by decide) (by omega) (by rw [y2]; omega)
    have e2 : I8 489 2 = uS t i := by rw [f8.2.1 2 (by decide) (by decide), y2]
    rw [e2]
    refine ⟨by omega, fun I9 e9 => ?_⟩
    have ff9 := FTm_2 ff (Y := I9) (fun c hc => by rw [e9, up_k hc]) (fun j hj => by rw [e9, up_n (by omega)]) (by rw [e9, up_s]; have := tK_n ht (sgn_lt ht hi' s); have := ht.1.1; omega)
    exact pp_bad (by rw [ff9.2.1.1]; decide) (k0 on I9 ff9)
theorem pp_mm {q : Nat} {mq : Int} (ht : TKN t) (hm : MRk t X i) (r : RSc X0 X T b o C) (bd : C.length + T.length + q ≤ i) (s : mmk t i mq) (o0 : 0 ≤ o) (o6 : o ≤ 6) (q1 : 1 ≤ q) (k1 : sgn t (i + 1) 40 → o ≠ 6 → ∀ Y : HI, MRk t Y (i + 2) → RSc X0 Y ((mq + 16) :: T) b (o + 1) C → PPx d Kp Y) (k0 : sgn t (i + 1) 40 → o = 6 → ∀ Y : HI, FTm X0 Y 4 (uS t (i + 1)) (1601 - (q : Int)) → Kp Y) (k2 : ¬ sgn t (i + 1) 40 → ∀ Y : HI, FTm X0 Y 1 (uS t (i + 1)) (1601 - (q : Int)) → Kp Y) : PPx d Kp X := by
  have hi' := hm.2.1
  have n16 := ht.1.2
  have kk := tK_e ht hi'
  obtain ⟨⟨s1, s2⟩, s3⟩ := s
  have lk : lkv t i ≠ 40 := fun u => by
    have := ((lkv_sg ht hi' (by omega) (by unfold ltr; omega) (by unfold dgt; omega)).mp u).1
    omega
  have g90 : ∀ (x a3 : Int) (Z : HI), MRk t Z (i + 1) → RSc X0 Z T b o C → ((a3 = 1 ∧ mq = 5) ∨ (a3 = 0 ∧ mq = 6)) → J none mX11_onePart (d + 6) 0 0 90 [(0, vR 489), (1, vI 1), (2, vI x), (3, vI a3)] [] (mk Z) (PV Kp) := by
    intro x a3 Z mZ rZ ha
    have hz := mZ.2.1
    have sgw := lkv_sg ht hz (c := 40) (by omega) (by unfold ltr; omega) (by unfold dgt; omega)
    refine bk_X11_onePart_90 (c11_lookK ht mZ (fun Y fY mY => ⟨fun w => ?_, fun w => ?_⟩))
    · refine c11_asksSg ht mY (by omega) (by unfold ltr; omega) (by unfold dgt; omega) (fun u => absurd (sgw.mpr u) w) (fun u Z1 Z2 f1 f2 => ?_)
      have ff := FTm_of (cb := 1601 - (q : Int)) rZ (MFr_tr (MFr_l fY) (MFr_l f1)) f2 (by decide) (by omega) (by rw [f1.2.2]; have := tK_e ht hz; omega)
      exact pp_bad (by rw [ff.2.1.1]; decide) (k2 u Z2 ff)
    · have sg := sgw.mp w
      have y2 := fY.2.2
      rw [y2]
      have opn : ∀ (v : Int), v = mq + 16 → CV mX11_opens (d + 5) [vR 489, vI v, vI (uS t (i + 1) : Int)] Y (fun I4 => CV mX11_asksSign (d + 5) [vR 489, vI 40] I4 (fun I5 => J none mX11_onePart (d + 6) 0 0 2 [(0, vR 489), (1, vI 1)] [] (mk I5) (PV Kp))) := by
        intro v ev
        refine c11_opens mY (RSc_m rZ (MFr_l fY)) (by omega) o0 (fun on I8 m8 r8 e8 => ?_) (fun on I8 f8 => ?_) o6
        · refine c11_asksSg ht m8 (by omega) (by unfold ltr; omega) (by unfold dgt; omega) (fun u Y9 f9 m9 => ?_) (fun u => absurd sg u)
          rw [ev] at r8
          exact k1 sg on Y9 m9 (RSc_m r8 (MFr_l f9))
        · have ff := FTm_of (cb := 1601 - (q : Int)) rZ (MFr_l fY) f8 (by decide) (by omega) (by rw [y2]; have := tK_e ht hz; omega)
          have nb : I8 489 5 ≠ 0 := by rw [ff.2.1.1]; decide
          exact c11_asksSignB nb (pp_bad nb (k0 sg on I8 ff))
      refine ⟨fun z => by omega, fun _ => ⟨fun z => opn 22 (by omega), fun z => opn 21 (by omega)⟩⟩
  refine bk_X11_onePart_2 ⟨fun z => absurd z (by decide), fun _ => ⟨fun z => absurd hm.2.2.1.2 z, fun _ => c11_lookK ht hm (fun Y fY mY => ⟨fun _ => ?_, fun z => absurd z lk⟩)⟩⟩
  have rY := RSc_m r (MFr_l fY)
  refine c11_isHereW (w := 25) rfl (by omega) ht mY (fun e1 e2 Z fZ mZ => ⟨fun _ => ?_, fun z => by omega⟩) (fun ne Z fZ mZ => ⟨fun z => absurd rfl z, fun _ => ?_⟩)
  · have rZ := RSc_m rY (MFr_l fZ)
    exact c11_takesW (w := 25) rfl (by omega) ht mZ (fun _ _ V fV mV => ⟨fun _ => g90 _ 1 V mV (RSc_m rZ (MFr_t fV)) (Or.inl ⟨rfl, by omega⟩), fun z => by omega⟩) (fun u => absurd ⟨e1, e2⟩ u)
  · have rZ := RSc_m rY (MFr_l fZ)
    have e26 : uK t i = 26 := by
      rcases s1 with u | u
      · exact absurd ⟨u, s2⟩ ne
      · exact u
    refine c11_isHereW (w := 26) rfl (by omega) ht mZ (fun e1 e2 V fV mV => ⟨fun z => by omega, fun _ => ?_⟩) (fun u => absurd ⟨e26, s2⟩ u)
    have rV := RSc_m rZ (MFr_l fV)
    refine c11_takesW (w := 25) rfl (by omega) ht mV (fun u => by omega) (fun _ U fU mU => ⟨fun z => absurd rfl z, fun _ => ?_⟩)
    have rU := RSc_m rV (MFr_l fU)
    exact c11_asksW (w := 26) rfl (by omega) ht mU (fun _ _ S fS mS => g90 _ 0 S mS (RSc_m rU (MFr_t fS)) (Or.inr ⟨rfl, by omega⟩)) (fun u => absurd ⟨e26, s2⟩ u)
theorem pp_one {q : Nat} (ht : TKN t) (hm : MRk t X i) (r : RSc X0 X T b o C) (bd : C.length + T.length + q ≤ i) (q1 : 1 ≤ q) (n40 : ¬ sgn t i 40) (np : npt t i) (n25 : uK t i ≠ 25) (n26 : uK t i ≠ 26) (k1 : ∀ a Y, ask t i a → MRk t Y (i + 1) → RSc X0 Y T b o (C ++ [a]) → Kp Y) (k2 : ∀ v Y, NUs t i 0 9999 v → MRk t Y (i + 1) → RSc X0 Y T b o (C ++ [1000 + v]) → Kp Y) (k3 : ∀ k p Y, ¬ (20 ≤ uK t i ∧ uK t i ≤ 24) → NUf t i 0 9999 k p → FTm X0 Y k p (1601 - (q : Int)) → Kp Y) : PPx d Kp X := by
  have hi' := hm.2.1
  have n16 := ht.1.2
  have kk := tK_e ht hi'
  have lk : lkv t i ≠ 40 := fun u => n40 ((lkv_sg ht hi' (by omega) (by unfold ltr; omega) (by unfold dgt; omega)).mp u)
  have g146 : ∀ Y : HI, MRk t Y i → RSc X0 Y T b o C → J none mX11_onePart (d + 6) 0 0 146 [(0, vR 489), (1, vI 0)] [] (mk Y) (PV Kp) := by
    intro Y mY rY
    have ak : ∀ (a : Int) (w : Nat) (Z : HI), uK t i = w → 20 ≤ w → w ≤ 24 → a = (if w = 24 then 18 else (w : Int) - 13) → ¬ jnd t i → MRk t Z (i + 1) → RSc X0 Z T b o C → CV mX11_code (d + 5) [vR 489, vI a] Z (fun I7 => PV Kp none (mk I7)) := fun a w Z e1 e2 e3 e4 e5 mZ rZ => c11_codeK mZ rZ (by omega) (fun V mV rV => PV_i (k1 a V ⟨⟨⟨by omega, by omega⟩, e5⟩, by rw [e4, e1]⟩ mV rV))
    refine bk_X11_onePart_146 ⟨fun _ => ?_, fun z => absurd mY.2.2.1.2 z⟩
    refine c11_takesW (w := 20) rfl (by omega) ht mY (fun e1 e2 Z fZ mZ => ⟨fun z => by omega, fun _ => ak 7 20 Z e1 (by omega) (by omega) (by decide) e2 mZ (RSc_m rY (MFr_t fZ))⟩) (fun n1 Z1 f1 m1 => ⟨fun _ => ?_, fun z => absurd rfl z⟩)
    have r1 := RSc_m rY (MFr_l f1)
    refine c11_takesW (w := 21) rfl (by omega) ht m1 (fun e1 e2 Z fZ mZ => ⟨fun z => by omega, fun _ => ak 8 21 Z e1 (by omega) (by omega) (by decide) e2 mZ (RSc_m r1 (MFr_t fZ))⟩) (fun n2 Z2 f2 m2 => ⟨fun _ => ?_, fun z => absurd rfl z⟩)
    have r2 := RSc_m r1 (MFr_l f2)
    refine c11_takesW (w := 22) rfl (by omega) ht m2 (fun e1 e2 Z fZ mZ => ⟨fun z => by omega, fun _ => ak 9 22 Z e1 (by omega) (by omega) (by decide) e2 mZ (RSc_m r2 (MFr_t fZ))⟩) (fun n3 Z3 f3 m3 => ⟨fun _ => ?_, fun z => absurd rfl z⟩)
    have r3 := RSc_m r2 (MFr_l f3)
    refine c11_takesW (w := 23) rfl (by omega) ht m3 (fun e1 e2 Z fZ mZ => ⟨fun z => by omega, fun _ => ak 10 23 Z e1 (by omega) (by omega) (by decide) e2 mZ (RSc_m r3 (MFr_t fZ))⟩) (fun n4 Z4 f4 m4 => ⟨fun _ => ?_, fun z => absurd rfl z⟩)
    have r4 := RSc_m r3 (MFr_l f4)
    refine c11_takesW (w := 24) rfl (by omega) ht m4 (fun e1 e2 Z fZ mZ => ⟨fun z => by omega, fun _ => ak 18 24 Z e1 (by omega) (by omega) (by decide) e2 mZ (RSc_m r4 (MFr_t fZ))⟩) (fun n5 Z5 f5 m5 => ⟨fun _ => ?_, fun z => absurd rfl z⟩)
    have r5 := RSc_m r4 (MFr_l f5)
    have nk : ¬ (20 ≤ uK t i ∧ uK t i ≤ 24) := fun u => by
      have nj : ¬ jnd t i := fun v => by have := np v; omega
      rcases (by omega : uK t i = 20 ∨ uK t i = 21 ∨ uK t i = 22 ∨ uK t i = 23 ∨ uK t i = 24) with w | w | w | w | w
      · exact n1 ⟨w, nj⟩
      · exact n2 ⟨w, nj⟩
      · exact n3 ⟨w, nj⟩
      · exact n4 ⟨w, nj⟩
      · exact n5 ⟨w, nj⟩
    refine c11_numberK ht m5 (fun v Z hv fZ mZ => ⟨?_, c11_codeK mZ (RSc_m r5 (MFr_t fZ)) (by omega) (fun V mV rV => PV_i (k2 v V hv mV rV))⟩) (fun k p hf x Z hx fZ => ⟨by omega, ?_⟩)
    · have := hv.2.2.2
      omega
    · exact c11_codeF (FTm_x (cb := 1600 - (q : Int)) r5 fZ (NUf_k hf) (by omega)) (by omega) (fun V fV => PV_i (k3 k p V nk hf (by rw [show 1600 - (q : Int) + 1 = 1601 - (q : Int) from by omega] at fV; exact fV)))
  refine bk_X11_onePart_2 ⟨fun z => absurd z (by decide), fun _ => ⟨fun z => absurd hm.2.2.1.2 z, fun _ => c11_lookK ht hm (fun Y fY mY => ⟨fun _ => ?_, fun z => absurd z lk⟩)⟩⟩
  have rY := RSc_m r (MFr_l fY)
  refine c11_isHereW (w := 25) rfl (by omega) ht mY (fun e1 => absurd e1 n25) (fun ne Z fZ mZ => ⟨fun z => absurd rfl z, fun _ => ?_⟩)
  have rZ := RSc_m rY (MFr_l fZ)
  refine c11_isHereW (w := 26) rfl (by omega) ht mZ (fun e1 => absurd e1 n26) (fun ne V fV mV => ⟨fun _ => ?_, fun z => absurd rfl z⟩)
  exact bk_X11_onePart_2 ⟨fun _ => g146 V mV (RSc_m rZ (MFr_l fV)), fun z => absurd rfl z⟩
end MN
