section SV
variable {d : Nat} {I : HI} {KI : Int → HI → Prop} {KL : Int → HI → Prop} {cs : Int → List Int}
theorem MSs_fr {I X : HI} {ms : List Nat} (h : MSs I ms) (e7 : X 477 7 = I 477 7) (e9 : X 479 = I 479) (e5 : X 518 = I 518) : MSs X ms := by
  unfold MSs at h ⊢
  rw [e7, e9, e5]
  exact h
theorem nd_of {ms : List Nat} (h : ms.Pairwise (fun a b => a < b)) : ms.Nodup := List.Pairwise.imp (fun h => by omega) h
theorem DMS_0 {I X : HI} {z : Int} {ms : List Nat} (f : CF I X) (sh : X 489 63 = I 489 63) (hR : RW0 I X cs z ms) (B : Int) : DMS X X cs z 0 ms (dmo X cs z) 0 B := by
  intro t ht
  obtain ⟨h1, h2⟩ := hR t ht
  have rl := rts_len (I := I) (t : Int)
  have ed : ∀ y, dmo X cs z t y ↔ dmo I cs z t y := fun y => by
    unfold dmo
    rw [wy_cf f, WHL_fr sh]
  rw [Nat.zero_mul, Nat.zero_add, rts_fr f sh]
  exact ⟨h1, fun y hy hb => by rw [ed]; exact (h2 y hy).mp hb, fun y y1 ho _ => (h2 y (by omega)).mpr ⟨(ed y).mp ho, y1⟩⟩
theorem CV_d {M : MD} {d d' : Nat} {as : List AV} {I : HI} {K : HI → Prop} (e : d = d') (h : CV M d as I K) : CV M d' as I K := e ▸ h
/-- both looks, and what is kept of them -/
theorem solve_b {bits z : Int} {X : HI} (hk : KNW X cs) (hms : MSs X (mbs bits (X 518 6).toNat)) (e9 : X 477 9 = z) (hR : RW0 X X cs z (mbs bits (X 518 6).toNat)) (h : ∀ (Y : HI) (r : Int), VFr X Y → KNW Y cs → SOL Y cs z (mbs bits (X 518 6).toNat) r (Y 481) → MSs Y (mbs bits (X 518 6).toNat) → (Y 477 11 = if z = 0 then bits else -1) → Y 477 12 = Y 69 11 → Y 477 13 = r → KI r Y) : J none mX6_solve (d + 15) 0 0 50 [(0, vR 477), (1, vI bits), (2, vI z), (3, vI (X 518 6))] [] (mk X) (PI KI) := by
  have n6 := hk.1.1.1.2.2.1
  have c2 : X 2 2 = X 518 6 := hk.1.1.1.1.2.2.1
  generalize hms' : mbs bits (X 518 6).toNat = ms at *
  have l4 := hms.2.2.1
  -- the end
  have fin : ∀ (U : HI) (a3 : Int), VFr X U → KNW U cs → MSs U ms → ((100000 ≤ a3 ∧ LL X cs z ms = []) ∨ (a3 < 100000 ∧ ∃ xs, FMn (LL X cs z ms) (cst (prc X cs z) ms) xs ∧ a3 = cst (prc X cs z) ms xs ∧ ∀ (i t x : Nat), ms[i]? = some t → xs[i]? = some x → U 481 t = x)) → J none mX6_solve (d + 15) 0 0 179 [(0, vR 477), (1, vI bits), (2, vI z), (3, vI a3)] [] (mk U) (PI KI) := by
    intro U a3 vU kU mU hs
    have put : ∀ (b r : Int) (I1 I2 I3 : HI), b = (if z = 0 then bits else -1) → ((r = -1 ∧ 100000 ≤ a3) ∨ (r = a3 ∧ ¬ 100000 ≤ a3)) → I1 = up U 477 11 b → I2 = up I1 477 12 (I1 69 11) → I3 = up I2 477 13 r → KI (I3 477 13) I3 := by
      intro b r I1 I2 I3 eb er e1 e2 e3
      have f3 : ∀ k, k ≠ 477 → I3 k = U k := fun k hk => by rw [e3, up_k hk, e2, up_k hk, e1, up_k hk]
      have i13 : I3 477 13 = r := by rw [e3, up_e]
      have vY : VFr X I3 := VFr_tr vU (VFr_u (fun k hk => f3 k (by omega)))
      rw [i13]
      refine h I3 r vY (KNW_47 kU (fun k h1 _ _ _ _ => f3 k h1)) (SOL_fr (CF_v vY) (sh_v vY).1 (sh_v vY).2 ?_) (MSs_fr mU (by rw [e3, up_j (by decide), e2, up_j (by decide), e1, up_j (by decide)]) (f3 479 (by decide)) (f3 518 (by decide))) (by rw [e3, up_j (by decide), e2, up_j (by decide), e1, up_e, eb]) (by rw [e3, up_j (by decide), e2, up_e, up_k (by decide), up_k (by decide)]) i13
      rw [f3 481 (by decide)]
      rcases hs with ⟨h1, h2⟩ | ⟨h1, xs, h2, h3, h4⟩
      · refine Or.inl ⟨?_, h2⟩
        rcases er with er | er
        · exact er.1
        · exact absurd h1 er.2
      · refine Or.inr ⟨xs, h2, ?_, h4⟩
        rcases er with er | er
        · omega
        · rw [er.1, h3]
    refine bk_X6_solve_179 ⟨fun q I1 e1 I2 e2 => ⟨fun q2 I3 e3 => PI_i ?_, fun q2 I4 e4 => PI_i ?_⟩, fun q I5 e5 I6 e6 => ⟨fun q2 I7 e7 => PI_i ?_, fun q2 I8 e8 => PI_i ?_⟩⟩
    · exact put bits (-1) I1 I2 I3 (by rw [if_pos q]) (Or.inl ⟨rfl, q2⟩) e1 e2 e3
    · exact put bits a3 I1 I2 I4 (by rw [if_pos q]) (Or.inr ⟨rfl, q2⟩) e1 e2 e4
    · exact put (-1) (-1) I5 I6 I7 (by rw [if_neg q]) (Or.inl ⟨rfl, q2⟩) e5 e6 e7
    · exact put (-1) a3 I5 I6 I8 (by rw [if_neg q]) (Or.inr ⟨rfl, q2⟩) e5 e6 e8
  refine bk_X6_solve_50 ?_
  rw [c2]
  refine ⟨fun _ I1 e1 I2 e2 => ?_, fun q => by omega⟩
  have f2 : ∀ k, k ≠ 477 → I2 k = X k := fun k hk => by rw [e2, up_k hk, e1, up_k hk]
  have v2 : VFr X I2 := VFr_u (fun k hk => f2 k (by omega))
  have k2 : KNW I2 cs := KNW_47 hk (fun k h1 _ _ _ _ => f2 k h1)
  have m2 : MSs I2 ms := MSs_fr hms (by rw [e2, up_j (by decide), e1, up_j (by decide)]) (f2 479 (by decide)) (f2 518 (by decide))
  have sh2 := sh_v v2
  have c2' := CF_v v2
  have p2 : prc I2 cs z = prc X cs z := by
    funext s x
    exact prc_fr c2' sh2.1 cs z s x
  have z2 : I2 477 9 = z := by rw [e2, up_j (by decide), e1, up_j (by decide)]; exact e9
  have R2 : RW0 X I2 cs z ms := by
    unfold RW0 at hR ⊢
    rw [f2 478 (by decide)]
    exact hR
  have h0 : ∀ (I' : HI) t y, dmo I' cs z t y → y = 0 → z ≠ 0 := fun I' t y q e => (q e).1
  have hd14 : d + 14 = (d + 6 - ms.length) + ms.length + 8 := by omega
  have totu : ∀ (ys : List Nat), cst (prc X cs z) ms ys ≤ 43996 := fun ys => by
    have := cst_up (prc := prc X cs z) (M := 10999) (fun s x => (prc_rng X cs z s x).2) (by omega) ms ys
    omega
  have totn : ∀ (ys : List Nat), 0 ≤ cst (prc X cs z) ms ys := fun ys => cst_nn (fun s x => (prc_rng X cs z s x).1) ms ys
  -- first look
  refine CV_d hd14.symm (c6_dive (ms := ms) (bn := 0) (st := z) k2 m2 z2 (by rw [e2, up_e]) ms [] [] (dmo I2 cs z) 0 I2 _ rfl rfl (DFr_rfl I2) k2 (fun i x hx => by simp at hx) (DMS_0 c2' sh2.1 R2 _) (h0 I2) (by omega) (by simp) (by rw [e2, up_j (by decide), e1, up_e]; omega) (by rw [e2, up_j (by decide), e1, up_e]; omega) (fun _ => by rw [e2, up_j (by decide), e1, up_e]; omega) (fun Y dY kY rY cY hY => ?_))
  have vY : VFr X Y := VFr_tr v2 (VFr_d dY)
  have mY : MSs Y ms := MSs_fr m2 (dY.2.2 7 (by decide)) (dY.1 479 (by omega) (by omega) (by omega) (by omega) (by omega) (by omega) (by omega)) (dY.1 518 (by omega) (by omega) (by omega) (by omega) (by omega) (by omega) (by omega))
  have i28 : I2 477 8 = 100000 := by rw [e2, up_j (by decide), e1, up_e]
  have fm := fold_min (tot := fun ys => 0 + cst (prc I2 cs z) ms ys) (ms := ms) (P := []) (vis (od I2 0) (LW I2 cs) ms (dmo I2 cs z)) (I2 477 8, I2 481)
  rw [← hY] at fm
  simp only [p2, Int.zero_add, i28] at fm
  have mem : ∀ ys, ys ∈ vis (od I2 0) (LW I2 cs) ms (dmo I2 cs z) ↔ ys ∈ LL X cs z ms := fun ys => by
    rw [← LL_fr c2' sh2.1 sh2.2 cs z ms]
    unfold LL
    refine vis_od ms _ ys (fun s hs x => ?_)
    have s1 := m2.2.2.2.1 s hs
    rw [od_all k2 s1, ← od_1 I2 (bn := 1) (by decide) s, od_all k2 s1]
  simp only [mem] at fm
  have y0 : 0 ≤ Y 477 8 := by
    rcases fm.2.2 with w | ⟨ys, _, w⟩
    · omega
    · have := totn ys
      omega
  refine ⟨fun q => fin Y _ vY kY mY (Or.inl ⟨q, ?_⟩), fun q => ⟨by omega, fun I4 e4 I5 e5 => ?_⟩⟩
  · cases el : LL X cs z ms with
    | nil => rfl
    | cons y l =>
      have := fm.2.1 y (by rw [el]; exact List.mem_cons_self)
      have := totu y
      omega
  · -- second look
    have f5 : ∀ k, k ≠ 477 → I5 k = Y k := fun k hk => by rw [e5, up_k hk, e4, up_k hk]
    have v5 : VFr X I5 := VFr_tr vY (VFr_u (fun k hk => f5 k (by omega)))
    have k5 : KNW I5 cs := KNW_47 kY (fun k h1 _ _ _ _ => f5 k h1)
    have m5 : MSs I5 ms := MSs_fr mY (by rw [e5, up_j (by decide), e4, up_j (by decide)]) (f5 479 (by decide)) (f5 518 (by decide))
    have sh5 := sh_v v5
    have c5 := CF_v v5
    have p5 : prc I5 cs z = prc X cs z := by
      funext s x
      exact prc_fr c5 sh5.1 cs z s x
    have z5 : I5 477 9 = z := by rw [e5, up_j (by decide), e4, up_j (by decide), dY.2.2 9 (by decide)]; exact z2
    have i58 : I5 477 8 = Y 477 8 + 1 := by rw [e5, up_j (by decide), e4, up_e]
    have R5 : RW0 X I5 cs z ms := by
      intro t ht
      have t4 : t < 4 := by
        have := hms.2.2.2.1 t ht
        omega
      rw [f5 478 (by decide), rY t (by simp; omega)]
      exact R2 t ht
    have ex : ∃ ys ∈ LL X cs z ms, cst (prc X cs z) ms ys = Y 477 8 := by
      rcases fm.2.2 with w | w
      · omega
      · exact w
    refine CV_d hd14.symm (c6_dive (ms := ms) (bn := 1) (st := z) k5 m5 z5 (by rw [e5, up_e]) ms [] [] (dmo I5 cs z) 0 I5 _ rfl rfl (DFr_rfl I5) k5 (fun i x hx => by simp at hx) (DMS_0 c5 sh5.1 R5 _) (h0 I5) (by omega) (by simp) (by rw [i58]; omega) (by rw [i58]; omega) (fun _ => by rw [i58]; omega) (fun Z dZ kZ rZ cZ hZ => ?_))
    have vZ : VFr X Z := VFr_tr v5 (VFr_d dZ)
    have mZ : MSs Z ms := MSs_fr m5 (dZ.2.2 7 (by decide)) (dZ.1 479 (by omega) (by omega) (by omega) (by omega) (by omega) (by omega) (by omega)) (dZ.1 518 (by omega) (by omega) (by omega) (by omega) (by omega) (by omega) (by omega))
    have e5o : od I5 1 = odn I5 := by
      funext s
      exact od_1 I5 (by decide) s
    have eL : vis (od I5 1) (LW I5 cs) ms (dmo I5 cs z) = LL X cs z ms := by
      rw [e5o]
      exact LL_fr c5 sh5.1 sh5.2 cs z ms
    have et : (fun ys => 0 + cst (prc I5 cs z) ms ys) = (fun ys => cst (prc X cs z) ms ys) := by
      funext ys
      rw [p5, Int.zero_add]
    rw [eL, et, i58] at hZ
    obtain ⟨xs, g1, g2, g3⟩ := fold_first (tot := fun ys => cst (prc X cs z) ms ys) (ms := ms) (P := []) (B := Y 477 8 + 1) (by omega) (LL X cs z ms) (I5 481) (fun ys _ => totn ys) (fun ys hy => by have := fm.2.1 ys hy; omega) (by
      obtain ⟨ys, w1, w2⟩ := ex
      exact ⟨ys, w1, by omega⟩)
    rw [g3, List.nil_append] at hZ
    injection hZ with hZ1 hZ2
    refine fin Z _ vZ kZ mZ (Or.inr ⟨by omega, xs, g1, by omega, fun i t x ht hx => ?_⟩)
    rw [hZ2]
    exact wrs_get ms xs _ i t x (nd_of hms.2.2.2.2) ht hx
/-- frame of planning as a whole -/
def QFr (I X : HI) : Prop := (∀ k, k ≠ 32 → (k < 57 ∨ 66 < k) → (k < 69 ∨ 481 < k) → X k = I k) ∧ (∀ j, j ≠ 6 → X 62 j = I 62 j) ∧ (∀ j, j ≠ 7 → j ≠ 8 → j ≠ 9 → X 32 j = I 32 j)
theorem QFr_rfl (I : HI) : QFr I I := ⟨fun _ _ _ _ => rfl, fun _ _ => rfl, fun _ _ _ _ => rfl⟩
theorem QFr_tr {I X Y : HI} (h : QFr I X) (g : QFr X Y) : QFr I Y := ⟨fun k h1 h2 h3 => by rw [g.1 k h1 h2 h3, h.1 k h1 h2 h3], fun j hj => by rw [g.2.1 j hj, h.2.1 j hj], fun j h1 h2 h3 => by rw [g.2.2 j h1 h2 h3, h.2.2 j h1 h2 h3]⟩
theorem QFr_p {I X : HI} (h : PFr I X) : QFr I X := ⟨fun k h1 _ h3 => h.1 k h1 (by omega), fun j _ => by rw [h.1 62 (by omega) (by omega)], h.2⟩
theorem QFr_v {I X : HI} (h : VFr I X) : QFr I X := ⟨fun k _ h2 h3 => h.1 k h2 (by omega) (by omega) (by omega), h.2, fun j _ _ _ => by rw [h.1 32 (by omega) (by omega) (by omega) (by omega)]⟩
theorem QFr_j {I X : HI} (h : JFr I X) : QFr I X := ⟨fun k _ h2 h3 => h.1 k h2 (by omega) (by omega), h.2, fun j _ _ _ => by rw [h.1 32 (by omega) (by omega) (by omega)]⟩
theorem CF_q {I X : HI} (h : QFr I X) : CF I X := ⟨fun k hk => h.1 k (by omega) (by omega) (by omega), by rw [h.1 489 (by omega) (by omega) (by omega)]⟩
theorem sh_q {I X : HI} (h : QFr I X) : X 489 = I 489 := h.1 489 (by omega) (by omega) (by omega)
/-- ready: prepared, and nothing new since -/
def RDP (I : HI) (cs : Int → List Int) : Prop := KNW I cs ∧ (I 32 7 = 0 ∧ I 32 8 = 0 ∧ I 32 9 = 0) ∧ I 33 100 = I 489 63 ∧ (0 ≤ I 489 63 ∧ I 489 63 < 65536) ∧ RPl I ∧ (0 ≤ I 69 11 ∧ I 69 11 ≤ 1000001)
def VrC (I Y : HI) : Prop := Y 69 11 = I 69 11 ∨ (Y 69 11 = I 69 11 + 1 ∧ ¬ (I 32 8 = 0 ∧ I 32 9 = 0))
theorem RDP_opt {X : HI} (h : RDP X cs) : ROpt X cs := ⟨fun _ => h.1.2.1, h.1.2.2.1, fun _ _ a b ab b1 x y x1 y1 _ => h.1.2.2.2.1 a b ab b1 x y x1 y1 (fun z => z.elim)⟩
theorem RPl_fr {I X : HI} (h : RPl I) (f : CF I X) (e489 : X 489 = I 489) (e32 : X 32 = I 32) (e69 : X 69 11 = I 69 11) (e : ∀ k, 477 ≤ k → k ≤ 481 → k ≠ 478 → k ≠ 480 → X k = I k) : RPl X := by
  have f518 := f.1 518 (by omega)
  have e477 := e 477 (by omega) (by omega) (by omega) (by omega)
  have e479 := e 479 (by omega) (by omega) (by omega) (by omega)
  have e481 := e 481 (by omega) (by omega) (by omega) (by omega)
  refine ⟨by rw [e477, e69]; exact h.1, fun h1 h2 h3 h4 => ?_⟩
  rw [e477] at h1 h2
  rw [e69] at h2
  rw [e32] at h3 h4
  obtain ⟨g1, g2⟩ := h.2 h1 h2 h3 h4
  rw [e477, f518, e481]
  exact ⟨fun cs => SOL_fr f (by rw [e489]) (by rw [e489]) (g1 cs), MSs_fr g2 (by rw [e477]) e479 f518⟩
theorem c5_prep2 (hp : PLN I cs) {K : HI → Prop} (h : ∀ Y : HI, PFr I Y → RDP Y cs → VrC I Y → K Y) : CV mX5_prepare (d + 14) [vR 69] I K := by
  obtain ⟨hw, e33, hsh, hO, hR, hP, hv⟩ := hp
  refine c5_prepare hw e33 hsh hO hv (fun Y pY rY y7 y8 y9 y69 hvr => ?_)
  have cY := CF_p pY
  have e489 : Y 489 = I 489 := pY.1 489 (by omega) (by omega)
  have e33' : Y 33 = I 33 := pY.1 33 (by omega) (by omega)
  have kY : KNW Y cs := ⟨CWs_fr hw cY (by rw [e489]) e33' (fun k k1 k2 => pY.1 k (by omega) (by omega)), rY.1, rY.2.1, rY.2.2, RCu_fr hR (fun k k1 k2 => pY.1 k (by omega) (by omega)) (cY.1 518 (by omega)) (cY.1 524 (by omega)) (cY.1 526 (by omega)) (cY.1 527 (by omega))⟩
  have vr : VrC I Y := by
    rcases hvr with q | q
    · exact Or.inr q
    · exact Or.inl q.1
  refine h Y pY ⟨kY, ⟨y7, y8, y9⟩, by rw [e33', e489]; exact e33, by rw [e489]; exact hsh, ?_, ?_⟩ vr
  · have e477 := pY.1 477 (by omega) (by omega)
    have e479 := pY.1 479 (by omega) (by omega)
    have e481 := pY.1 481 (by omega) (by omega)
    have f518 := cY.1 518 (by omega)
    rcases hvr with ⟨q, _⟩ | ⟨q1, q2, q3, _⟩
    · refine ⟨by rw [e477, q]; have := hP.1; omega, fun h1 h2 => ?_⟩
      rw [e477, q] at h2
      have := hP.1
      omega
    · refine ⟨by rw [e477, q1]; exact hP.1, fun h1 h2 _ _ => ?_⟩
      rw [e477] at h1 h2
      rw [q1] at h2
      obtain ⟨g1, g2⟩ := hP.2 h1 h2 q2 q3
      rw [e477, f518, e481]
      exact ⟨fun cs => SOL_fr cY (by rw [e489]) (by rw [e489]) (g1 cs), MSs_fr g2 (by rw [e477]) e479 f518⟩
  · rcases hvr with ⟨q, _⟩ | ⟨q1, _⟩ <;> omega
end SV
