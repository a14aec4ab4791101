theorem run_lane (I : HI) (h1 : 0 ≤ I 518 7) (s : Int) : ∀ (cs : List Int) (c t : Int), ∀ y ∈ runW I s c t cs, y.2.1 = -1 ∨ y.2.1 < I 518 7
  | [], c, t, y, hy => by
    unfold runW at hy
    cases hy
  | x :: cs, c, t, y, hy => by
    unfold runW at hy
    split at hy
    · rcases List.mem_cons.mp hy with rfl | hy
      · exact Or.inl rfl
      · exact run_lane I h1 s cs _ _ y hy
    · rcases List.mem_cons.mp hy with rfl | hy
      · by_cases e : laneM I c x = -1
        · exact Or.inl e
        · exact Or.inr (laneM_rng h1 e).2
      · exact run_lane I h1 s cs _ _ y hy
theorem PB_u {I : HI} {s m : Int} {W : List Sp} {p q : Int} (h : PB I s m W p) (g : PB I s m W q) : p = q := by
  have h1 := h.1
  have g1 := g.1
  unfold pin at h1 g1
  refine bit_ext 16 (by omega) (by omega) (by omega) (by omega) (fun j j0 j1 => ?_)
  have := (h.2 j j0 (by omega)).trans (g.2 j j0 (by omega)).symm
  cases hb : bit p j <;> cases hc : bit q j <;> simp_all
theorem LnB_u {W : List Sp} {p q : Int} (h : LnB W p) (g : LnB W q) : p = q := by
  have h1 := h.1
  have g1 := g.1
  unfold pin at h1 g1
  refine bit_ext 16 (by omega) (by omega) (by omega) (by omega) (fun j j0 j1 => ?_)
  have := (h.2 j j0 (by omega)).trans (g.2 j j0 (by omega)).symm
  cases hb : bit p j <;> cases hc : bit q j <;> simp_all
theorem low_b : ∀ n : Nat, n < 17 → (0 ≤ oSl 1 (n : Int) - 1 ∧ oSl 1 (n : Int) - 1 < 65536) ∧ ∀ l : Nat, l < 16 → (bit (oSl 1 (n : Int) - 1) (l : Int) = true ↔ l < n) := by decide +kernel
theorem low_3 : ∀ n : Nat, n < 4 → 0 ≤ oSl 1 (n : Int) - 1 ∧ oSl 1 (n : Int) - 1 < 8 := by decide +kernel
theorem T3_ne {lim : Int} {D0 D1 D2 : List Chd} (h : T3 lim D0 D1 D2 ≠ 0) : ∃ x ∈ D0, ∃ y ∈ D1, ∃ z ∈ D2, oO (oO x.1 y.1) z.1 = lim := by
  refine Classical.byContradiction fun u => h (sD_0 D0 (fun x hx => sD_0 D1 (fun y hy => sD_0 D2 (fun z hz => chi_0 (fun e => u ⟨x, hx, y, hy, z, hz, e⟩)))))
section OD
variable {d : Nat} {I : HI} {K : HI → Prop} {K2 : Int → Int → HI → Prop} {cs : Int → List Int} {H : List Sn}
theorem EF_lk {Z Y W : HI} (lv : I 69 11 ≤ 500000) (hw : WRel I cs H) (n4 : I 518 6 ≤ 4) (p : PFr I Z) (r : RDP Z cs) (v : VrC I Z) (l : LkF Z Y) (m : HFr Y W) : EFin I W cs H := by
  have q := QFr_p p
  have vb := VrC_b v
  have pz := PLN_of r (by omega)
  have k := m.1
  have e32 : W 32 = Z 32 := by rw [k 32 (by omega) (by omega) (by omega) (by omega) (by omega), l 32 (by omega)]
  have cz := CF_tr (CF_lk l) (CF_h m)
  have y489 : Y 489 = Z 489 := l 489 (by omega)
  obtain ⟨g1, g2, g3⟩ := fin_pln pz cz (by rw [m.2.1 63 (by decide) (by decide) (by decide), y489]) (by rw [m.2.1 64 (by decide) (by decide) (by decide), y489]) (fun j j1 j2 => by rw [k j (by omega) (by omega) (by omega) (by omega) (by omega), l j (by omega)]) (by rw [e32]) (by rw [e32]) (by rw [e32])
  have n4z : Z 518 6 ≤ 4 := by rw [(CF_q q).1 518 (by omega)]; exact n4
  have wz := WRel_q hw n4 q
  have wy_ : WRel Y cs H := WRel_fr wz n4z (CF_lk l) (by rw [y489]) (by rw [y489]) (by rw [y489]) (by rw [y489]) (l 33 (by omega)) (l 35 (by omega)) (by rw [l 32 (by omega)]) (by rw [l 32 (by omega)]) (fun k k1 k2 => l k (by omega)) (fun j _ => by rw [l 532 (by omega)]) (fun j _ => ⟨by rw [l 533 (by omega)], by rw [l 534 (by omega)], by rw [l 535 (by omega)]⟩) (fun k k1 k2 => l k (by omega))
  refine ⟨⟨fun k' hk => ?_, fun j hj => ?_, fun j h1 h2 h3 h4 h5 => ?_⟩, WRel_h wy_ (by rw [l 518 (by omega)]; exact n4z) m, g1, g2, g3, ?_⟩
  · rw [k k' (by omega) (by omega) (by omega) (by omega) (by omega), l k' (by omega), q.1 k' (by omega) (by omega) (by omega)]
  · rw [k 62 (by omega) (by omega) (by omega) (by omega) (by omega), l 62 (by omega), q.2.1 j hj]
  · rw [m.2.1 j h1 h4 h5, y489, q.1 489 (by omega) (by omega) (by omega)]
  · rw [k 69 (by omega) (by omega) (by omega) (by omega) (by omega), l 69 (by omega)]
    exact vb
/-- what the model tells beside what the class told -/
def RSM (lim : Int) (n nl : Nat) (D0 D1 D2 : List Chd) (a4 a5 a6 : Int) : Prop := a4 = T3 lim D0 D1 D2 ∧ (pin a5 ∧ ∀ l : Int, 0 ≤ l → l < 16 → (bit a5 l = true ↔ l < nl ∧ ∀ x ∈ D0, ∀ y ∈ D1, ∀ z ∈ D2, oO (oO x.1 y.1) z.1 = lim → (bit x.2.1 l = true ∨ bit y.2.1 l = true) ∨ bit z.2.1 l = true)) ∧ ((0 ≤ a6 ∧ a6 < 8) ∧ (bit a6 0 = true ↔ 0 < n ∧ ¬ ∃ x ∈ D0, (∃ y ∈ D1, ∃ z ∈ D2, oO (oO x.1 y.1) z.1 = lim) ∧ x.2.2 = 1) ∧ (bit a6 1 = true ↔ 1 < n ∧ ¬ ∃ y ∈ D1, (∃ x ∈ D0, ∃ z ∈ D2, oO (oO x.1 y.1) z.1 = lim) ∧ y.2.2 = 1) ∧ (bit a6 2 = true ↔ 2 < n ∧ ¬ ∃ z ∈ D2, (∃ x ∈ D0, ∃ y ∈ D1, oO (oO x.1 y.1) z.1 = lim) ∧ z.2.2 = 1))
theorem mdawn {KI : Int → HI → Prop} {lim m a3 : Int} {n nl : Nat} {D0 D1 D2 : List Chd} (h : MDW I cs) (en : (n : Int) = I 518 6) (n3 : n ≤ 3) (enl : (nl : Int) = I 518 7) (nl16 : nl ≤ 16) (hm0 : 0 ≤ m ∧ m ≤ 999) (d0 : DOK I cs m 0 (Nc I 0) D0) (d1 : DOK I cs m 1 (Nc I 1) D1) (d2 : DOK I cs m 2 (Nc I 2) D2) (kk : ∀ (W : HI) (a4 a5 a6 : Int), HFr I W → RSM lim n nl D0 D1 D2 a4 a5 a6 → ((a3 ≠ 0 → ((a4 ≠ 0 → ((a3 ≠ 1 → KI a6 W) ∧ (a3 = 1 → KI a5 W))) ∧ (a4 = 0 → KI 0 W))) ∧ (a3 = 0 → KI a4 W))) : J none mX11_dawn (d + 16) 0 0 59 [(0, vR 489), (1, vI lim), (2, vI m), (3, vI a3), (4, vI 0)] [] (mk I) (PI KI) := by
  have nb0 := Nc_b I 0
  have nb1 := Nc_b I 1
  have nb2 := Nc_b I 2
  have := mdw_lp (d := d) (KI := KI) (lim := lim) (a3 := a3) h en n3 hm0 (fun W fW mW => ?_) n 0 I (by omega) (fun _ _ _ => rfl) (fun s' hs' => by omega)
  · exact this
  · have hW := MDW_d h fW
    have cW : CF I W := ⟨fun k hk => fW k (by omega) (by omega), by rw [fW 489 (by decide) (by decide)]⟩
    have hf : HFr I W := ⟨fun k h1 h2 h3 h4 h5 => fW k (by omega) (by omega), fun j _ _ _ => by rw [fW 489 (by decide) (by decide)], fun j _ => by rw [fW 532 (by decide) (by decide)], fun j _ => ⟨by rw [fW 533 (by decide) (by decide)], by rw [fW 534 (by decide) (by decide)], by rw [fW 535 (by decide) (by decide)]⟩⟩
    have ncf : ∀ s, Nc W s = Nc I s := fun s => by
      unfold Nc
      rw [cW.1 518 (by omega), rts_fr cW (by rw [fW 489 (by decide) (by decide)])]
    have rws : ∀ (s : Nat) (D : List Chd), s < 3 → DOK I cs m s (Nc I s) D → RWS (W 554) (W 555) (61 * s) D := fun s D s3 hD x c hc => by
      have nbs := Nc_b I s
      have xl := ge_lt hc
      rw [hD.1] at xl
      by_cases e : x = 0
      · subst e
        have ec := hD.2.1 c hc
        subst ec
        refine ⟨(mW s s3).1.1, (mW s s3).1.2, ?_, pin_0, pin_0⟩
        unfold ox
        rw [if_pos (by omega)]
      · obtain ⟨u1, u2, u3⟩ := hD.2.2 x c (by omega) hc
        obtain ⟨v1, v2⟩ := (mW s s3).2 x (by omega) (by omega)
        refine ⟨PB_u v1 u1, LnB_u v2 u2, ?_, u1.1, u2.1⟩
        rw [u3]
        unfold ox
        rw [if_neg (by omega)]
    have r0 : RWS (W 554) (W 555) 0 D0 := rws 0 D0 (by omega) d0
    have r1 : RWS (W 554) (W 555) 61 D1 := rws 1 D1 (by omega) d1
    have r2 : RWS (W 554) (W 555) 122 D2 := rws 2 D2 (by omega) d2
    have h0 := HPI_mod (lim := lim) r0
    have h1 := HPI_mod (lim := lim) r1
    have h2 := HPI_mod (lim := lim) r2
    have p0 := DOK_pin d0
    have p1 := DOK_pin d1
    have p2 := DOK_pin d2
    have te := T3_eq h0 h1 h2 p0 p1
    have tb := T3_b (lim := lim) (D0 := D0) (D1 := D1) (D2 := D2) (by rw [d0.1]; omega) (by rw [d1.1]; omega) (by rw [d2.1]; omega)
    have mp : MPN W D0.length D1.length D2.length := ⟨⟨by rw [ncf, d0.1], by rw [ncf, d1.1], by rw [ncf, d2.1]⟩, fun i hi => (h0.2.2.2 i hi).2.1, fun i hi => (h1.2.2.2 i hi).2.1, fun i hi => (h2.2.2.2 i hi).2.1⟩
    have lb := low_b nl (by omega)
    have lb3 := low_b n (by omega)
    have l3 := low_3 n (by omega)
    refine bk_X11_dawn_87 ⟨fun _ => c11_laneMany ?_, fun q => by omega⟩
    rw [cW.1 518 (by omega), ← enl]
    refine ⟨by omega, c11_everybody (d := d + 13) (n := n) (by rw [cW.1 518 (by omega)]; exact en) (by omega) ?_⟩
    have := m_i (d := d) (KI := KI) (lim := lim) (m := m) (a3 := a3) (n := n) (nl := nl) hW mp (by rw [← te]; omega) (fun a4 a5 a6 hM => kk W a4 a5 a6 hf ?_) D0.length 0 0 (oSl 1 (nl : Int) - 1) (oSl 1 (n : Int) - 1) (by omega) ⟨NUM_0.symm, ⟨lb.1, fun l l0 l1 => ?_⟩, l3, ?_, ?_, ?_⟩
    · exact this
    · obtain ⟨x2, ⟨x3, x4⟩, x5, x6, x7, x8⟩ := hM
      refine ⟨by rw [x2, te]; exact NUM_e, ⟨x3, fun l l0 l1 => ?_⟩, x5, ?_, ?_, ?_⟩
      · rw [x4 l l0 l1, all3 h0 h1 h2 p0 p1, ALLP_e]
        exact Iff.rfl
      · rw [x6, out0 h0 h1 h2 p1 p2, ← nALL (P := fun i _ _ => ox (0 + i)), Classical.not_not]
        exact Iff.rfl
      · rw [x7, out1 h0 h1 h2 p0 p2, ← nALL (P := fun _ j _ => ox (61 + j)), Classical.not_not]
        exact Iff.rfl
      · rw [x8, out2 h0 h1 h2 p0 p1, ← nALL (P := fun _ _ k => ox (122 + k)), Classical.not_not]
        exact Iff.rfl
    · have := lb.2 l.toNat (by omega)
      rw [Int.toNat_of_nonneg l0] at this
      rw [this]
      exact ⟨fun w => ⟨by omega, ALLP_0⟩, fun w => by omega⟩
    · exact (lb3.2 0 (by omega)).trans ⟨fun w => ⟨w, ALLP_0⟩, fun w => w.1⟩
    · exact (lb3.2 1 (by omega)).trans ⟨fun w => ⟨w, ALLP_0⟩, fun w => w.1⟩
    · exact (lb3.2 2 (by omega)).trans ⟨fun w => ⟨w, ALLP_0⟩, fun w => w.1⟩
theorem op_dawn {a b c : Int} (lv : I 69 11 ≤ 500000) (hp : PLN I cs) (hw : WRel I cs H) (mw : MWs I cs) (h : ∀ x Y, EFin I Y cs H → K2 x x Y) : CI mX10_dawn (d + 17) [vR 0, vI a, vI b, vI c] I (fun x1 I1 => CI mX11_dawn (d + 17) [vR 489, vI a, vI b, vI c] I1 (K2 x1)) := by
  have hc := mw.1.1
  have n6 := hc.2.2.1
  have n7 := hc.2.2.2.1
  obtain ⟨n, en⟩ : ∃ n : Nat, (n : Int) = I 518 6 := ⟨(I 518 6).toNat, by omega⟩
  obtain ⟨nl, enl⟩ : ∃ n : Nat, (n : Int) = I 518 7 := ⟨(I 518 7).toNat, by omega⟩
  have lb := low_b nl (by omega)
  have c1 : I 2 1 = I 518 7 := hc.1.2.1
  have c2 : I 2 2 = I 518 6 := hc.1.2.2.1
  have fin0 : ∀ x, K2 x x I := fun x => h x I (EF_q hw n6.2 ⟨fun _ _ _ _ => rfl, fun _ _ => rfl, fun _ _ _ _ => rfl⟩ hp (by omega) (HFr_rfl I))
  have mfail : (a < 0 ∨ oSl 1 (nl : Int) ≤ a ∨ b < 0 ∨ 999 < b ∨ c < 0 ∨ 2 < c ∨ 3 < n) → CI mX11_dawn (d + 17) [vR 489, vI a, vI b, vI c] I (K2 (-1)) := fun F => by
    refine bk_X11_dawn_0 (c11_laneMany ?_)
    rw [← enl]
    refine ⟨by omega, c11_isIn (fun q1 q2 => ⟨fun z => by omega, fun _ => c11_isIn (fun q3 q4 => ⟨fun z => by omega, fun _ => c11_saintMany ⟨fun _ => PI_i (fin0 _), fun q5 => c11_isIn (fun q6 q7 => ?_) (fun _ => ⟨fun z => absurd rfl z, fun _ => PI_i (fin0 _)⟩)⟩⟩) (fun _ => ⟨fun _ => PI_i (fin0 _), fun z => absurd rfl z⟩)⟩) (fun _ => ⟨fun _ => PI_i (fin0 _), fun z => absurd rfl z⟩)⟩
    omega
  refine bk_X10_dawn_0 ?_
  rw [c1, ← enl]
  refine ⟨fun q => PI_i (mfail (by omega)), fun q1 => ⟨fun q => PI_i (mfail (by omega)), fun q2 => ?_⟩⟩
  refine c10_isMinute (fun b0 b1 => ⟨fun _ => ⟨fun q => PI_i (mfail (by omega)), fun q3 => ⟨fun q => PI_i (mfail (by omega)), fun q4 => ?_⟩⟩, fun q => by omega⟩) (fun q => ⟨fun z => absurd rfl z, fun _ => PI_i (mfail (by omega))⟩)
  rw [c2, ← en]
  refine ⟨fun q5 => ?_, fun q => PI_i (mfail (by omega))⟩
  refine c2_look (d := d + 1) (lim := a) (m := b) hp ⟨b0, b1⟩ (fun Z Y D0 D1 D2 pZ rZ vZ lY d0 d1 d2 rs => ?_)
  have cZ := CF_q (QFr_p pZ)
  have cY := CF_tr cZ (CF_lk lY)
  have y489 : Y 489 = Z 489 := lY 489 (by omega)
  have z489 : Z 489 = I 489 := sh_q (QFr_p pZ)
  have mwY : MWs Y cs := MWs_fr mw cY (fun k k1 k2 => by rw [lY k (by omega), pZ.1 k (by omega) (by omega)])
  obtain ⟨r7, ⟨r8, r8'⟩, r9, r90, r91, r92⟩ := rs
  have l3 := low_3 n (by omega)
  -- the model, for any answer of the class
  have mod : ∀ v : Int, (∀ (W : HI) (a4 a5 a6 : Int), EFin I W cs H → RSM a n nl D0 D1 D2 a4 a5 a6 → ((c ≠ 0 → ((a4 ≠ 0 → ((c ≠ 1 → K2 v a6 W) ∧ (c = 1 → K2 v a5 W))) ∧ (a4 = 0 → K2 v 0 W))) ∧ (c = 0 → K2 v a4 W))) → CI mX11_dawn (d + 17) [vR 489, vI a, vI b, vI c] Y (K2 v) := fun v kk => by
    refine bk_X11_dawn_0 (c11_laneMany ?_)
    rw [cY.1 518 (by omega), ← enl]
    refine ⟨by omega, c11_isIn (fun _ _ => ⟨fun z => by omega, fun _ => c11_isIn (fun _ _ => ⟨fun z => by omega, fun _ => c11_saintMany ?_⟩) (fun z => by omega)⟩) (fun z => by omega)⟩
    rw [cY.1 518 (by omega), ← en]
    refine ⟨fun z => by omega, fun _ => c11_isIn (fun _ _ => ⟨fun _ => ?_, fun z => by omega⟩) (fun z => by omega)⟩
    refine c11_opts mwY (by rw [y489, z489]; exact hp.2.2.1) (by rw [y489, z489]; exact on64 hp.1) (fun P oP hP => ?_)
    have cP := CF_tr (CF_lk lY) (CF_om oP)
    have p489 : P 489 = Z 489 := by rw [oP.1 489 (by omega) (by omega), y489]
    have ncP : ∀ s, Nc P s = Nc Z s := fun s => by
      unfold Nc
      rw [cP.1 518 (by omega), rts_fr cP (by rw [p489])]
    have dP : ∀ (s : Nat) (D : List Chd), DOK Z cs b s (Nc Z s) D → DOK P cs b s (Nc P s) D := fun s D hD => by
      rw [ncP]
      refine ⟨hD.1, hD.2.1, fun x e hx he => ?_⟩
      have := hD.2.2 x e hx he
      rw [chw_fr cP (by rw [p489]), PB_fr cP]
      exact this
    have cIP := CF_tr cZ cP
    have := mdawn (d := d + 1) (I := P) (cs := cs) (KI := K2 v) (lim := a) (m := b) (a3 := c) (n := n) (nl := nl) hP (by rw [cIP.1 518 (by omega)]; exact en) (by omega) (by rw [cIP.1 518 (by omega)]; exact enl) (by omega) ⟨b0, b1⟩ (dP 0 D0 d0) (dP 1 D1 d1) (dP 2 D2 d2) (fun W a4 a5 a6 hf rm => kk W a4 a5 a6 (EF_lk lv hw n6.2 pZ rZ vZ lY (HFr_tr (HFr_o oP) hf)) rm)
    exact this
  refine ⟨fun q6 => PI_i (mod _ (fun W a4 a5 a6 eW rm => ⟨fun z => absurd q6 z, fun _ => ?_⟩)), fun q6 => ⟨fun q7 => PI_i (mod _ (fun W a4 a5 a6 eW rm => ⟨fun _ => ⟨fun _ => ⟨fun z => absurd q6 z, fun _ => ?_⟩, fun z => ?_⟩, fun z => by omega⟩)), fun q7 => PI_i (mod _ (fun W a4 a5 a6 eW rm => ⟨fun _ => ⟨fun z => ?_, fun _ => h _ W eW⟩, fun z => by omega⟩))⟩, fun q6 => ⟨fun q7 => ?_, fun q7 => PI_i (mod _ (fun W a4 a5 a6 eW rm => ⟨fun _ => ⟨fun z => ?_, fun _ => h _ W eW⟩, fun z => by omega⟩))⟩⟩
  · rw [rm.1, ← r7]
    exact h _ W eW
  · have e5 : a5 = Y 482 8 := by
      have p5 := rm.2.1.1
      unfold pin at p5 r8
      refine bit_ext 16 (by omega) (by omega) (by omega) (by omega) (fun j j0 j1 => ?_)
      have u1 := rm.2.1.2 j j0 (by omega)
      have u2 := r8' j j0 (by omega)
      have imp : bit (Y 482 8) j = true → j < nl := fun w => by
        obtain ⟨x, hx, y, hy, z, hz, e⟩ := T3_ne (by rw [← r7]; exact q7)
        have lane : ∀ (s : Nat) (D : List Chd) (e : Chd), DOK Z cs b s (Nc Z s) D → e ∈ D → bit e.2.1 j = true → j < nl := fun s D e hD he be => by
          obtain ⟨i, hi⟩ := List.getElem?_of_mem he
          by_cases ei : i = 0
          · subst ei
            rw [hD.2.1 e hi, bit_zero] at be
            cases be
          · have := (hD.2.2 i e (by omega) hi).2.1
            obtain ⟨g, hg, el⟩ := (this.2 j j0 (by omega)).mp be
            have f7 : Z 518 7 = nl := by rw [cZ.1 518 (by omega)]; exact enl.symm
            have := run_lane Z (by omega) s _ _ _ g hg
            omega
        rcases u2.mp w x hx y hy z hz e with (t | t) | t
        · exact lane 0 D0 x d0 hx t
        · exact lane 1 D1 y d1 hy t
        · exact lane 2 D2 z d2 hz t
      have : bit a5 j = true ↔ bit (Y 482 8) j = true := by
        rw [u1]
        exact ⟨fun w => u2.mpr w.2, fun w => ⟨imp w, u2.mp w⟩⟩
      cases hb : bit a5 j <;> cases hcc : bit (Y 482 8) j <;> simp_all
    rw [e5]
    exact h _ W eW
  · exact absurd (by rw [r7, ← rm.1]; exact z) q7
  · exact absurd (by rw [rm.1, ← r7]; exact q7) z
  · refine c10_allSaints (d := d + 15) (n := n) (CTY_fr mw.1 cY).1 (by rw [cY.1 518 (by omega)]; exact en) (by omega) (PI_i (mod _ (fun W a4 a5 a6 eW rm => ⟨fun _ => ⟨fun _ => ⟨fun _ => ?_, fun z => by omega⟩, fun z => ?_⟩, fun z => by omega⟩)))
    · have e6 : a6 = oA (oSl 1 (n : Int) - 1) (oX (Y 482 9) (-1)) := by
        have p6 := rm.2.2.1
        have ar := ant_rng (x := oSl 1 (n : Int) - 1) (y := Y 482 9) (by omega) (by omega) (by omega) (by omega)
        have lb3 := low_b n (by omega)
        refine bit_ext 3 (by omega) (by omega) (by omega) (by omega) (fun j j0 j1 => ?_)
        rw [bit_ant (by omega) (by omega) (by omega) (by omega)]
        obtain ⟨_, m0, m1, m2⟩ := rm.2.2
        have key : (bit a6 j = true ↔ (bit (oSl 1 (n : Int) - 1) j = true ∧ ¬ bit (Y 482 9) j = true)) := by
          have j3 : j = 0 ∨ j = 1 ∨ j = 2 := by omega
          rcases j3 with w | w | w
          · subst w
            rw [m0, r90]
            exact and_congr (lb3.2 0 (by omega)).symm Iff.rfl
          · subst w
            rw [m1, r91]
            exact and_congr (lb3.2 1 (by omega)).symm Iff.rfl
          · subst w
            rw [m2, r92]
            exact and_congr (lb3.2 2 (by omega)).symm Iff.rfl
        cases hb : bit a6 j <;> cases hcc : bit (oSl 1 (n : Int) - 1) j <;> cases hdd : bit (Y 482 9) j <;> simp_all
      rw [e6]
      exact h _ W eW
    · exact absurd (by rw [r7, ← rm.1]; exact z) q7
  · exact absurd (by rw [rm.1, ← r7]; exact q7) z
end OD
