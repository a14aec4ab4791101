section LO
variable {d : Nat} {I : HI} {K : HI → Prop} {KI : Int → HI → Prop} {K2 : Int → Int → HI → Prop} {cs : Int → List Int} {H : List Sn}
theorem beside_lp {a n : Nat} {c0 v N code : Int} {ps : List Nat} (h : MDW I cs) (en : (n : Int) = I 518 6) (n4 : n ≤ 4) (hc0 : 0 ≤ c0 ∧ c0 ≤ 256) (lp : ps.length = n) (hps : ∀ j t : Nat, ps[j]? = some t → (t : Int) < I 518 6 ∧ I 552 j = t) (nd : ∀ j j' t : Nat, ps[j]? = some t → ps[j']? = some t → j = j') (hv : LV I cs a v) (k : ∀ (Y : HI) (c : Int), GFl I Y → MDW Y cs → ((c = c0 ∧ ¬ ∃ i, LCK I cs a ps i) ∨ (c = c0 + 1 ∧ ∃ i, LCK I cs a ps i)) → ((-2147483648 ≤ code + 1 ∧ code + 1 ≤ 2147483647) ∧ J none mX11_lots (d + 16) 0 0 51 [(0, vR 489), (1, vI (a : Int)), (2, vI N), (3, vI v), (4, vI c), (5, vI (code + 1))] [] (mk Y) (PI KI))) : ∀ (m j : Nat) (xs : List Nat) (c : Int) (X : HI), j + m = n → GFl I X → MDW X cs → GCh I cs ps j xs → (∀ j' t x : Nat, ps[j']? = some t → xs[j']? = some x → X 553 j' = mgc t x) → ((c = c0 ∧ ∀ i, i < j → ¬ LCK I cs a ps i) ∨ (c = c0 + 1 ∧ ∃ i, i < j ∧ LCK I cs a ps i)) → J none mX11_lots (d + 16) 0 0 72 [(0, vR 489), (1, vI (a : Int)), (2, vI N), (3, vI v), (4, vI c), (5, vI code), (6, vI (j : Int))] [] (mk X) (PI KI)
  | 0, j, xs, c, X, e, fX, hX, hg, hx, hc => by
    have cX := CF_mf (MFl_g fX)
    refine bk_X11_lots_72 (c11_saintMany ?_)
    rw [cX.1 518 (by omega), ← en]
    refine ⟨fun _ => k X c fX hX ?_, fun q => by omega⟩
    rcases hc with ⟨w1, w2⟩ | ⟨w1, i, _, w2⟩
    · exact Or.inl ⟨w1, fun ⟨i, hi⟩ => w2 i (by have := ge_lt hi.1; omega) hi⟩
    · exact Or.inr ⟨w1, i, w2⟩
  | m + 1, j, xs, c, X, e, fX, hX, hg, hx, hc => by
    have ih := fun xs' c' Y => beside_lp h en n4 hc0 lp hps nd hv k m (j + 1) xs' c' Y
    have cX := CF_mf (MFl_g fX)
    have f518 := cX.1 518 (by omega)
    have e63 := fX.2 63 (by decide)
    have e64 := fX.2 64 (by decide)
    have li := GCh_len j xs hg
    have gb := GCh_b j xs hg
    obtain ⟨s, hs⟩ : ∃ s, ps[j]? = some s := ⟨_, List.getElem?_eq_getElem (by omega)⟩
    obtain ⟨s1, s9⟩ := hps j s hs
    have x52 : X 552 = I 552 := fX.1 552 (by decide) (by decide) (by decide) (by decide) (by decide)
    refine bk_X11_lots_72 (c11_saintMany ?_)
    rw [f518, ← en]
    refine ⟨fun q => by omega, fun _ => bk_X11_getsBeside_0 ?_⟩
    rw [Int.toNat_natCast, x52, s9]
    refine ⟨by omega, gets_lp (d := d + 7) (s := s) (i := j) (ps := ps) (xs := xs) hX (by rw [f518]; exact s1) li (by omega) (by omega) (fun j' t _ ht => by rw [f518]; exact (hps j' t ht).1) (fun j' t x ht hx' => ⟨by rw [rts_fr cX e63]; exact gb j' t x ht hx', hx j' t x ht hx'⟩) (fun Y x fY hY hx1 => ?_) (3 * (rts X s).length) 0 (-1) X (by omega) (KFr_rfl X) hX (Or.inl ⟨rfl, fun y y0 y1 => by omega⟩)⟩
    have hx1' : GT1 I cs ps xs s x := (GT1_fr cX e63 e64).mp hx1
    refine ⟨by omega, fun I3 e3 => ⟨by omega, ?_⟩⟩
    have f3 : ∀ k, k ≠ 553 → I3 k = Y k := fun k hk => by rw [e3, up_k hk]
    have s3 : I3 553 j = mgc s x := by rw [e3]; exact up_s
    have h3 : MDW I3 cs := MDW_c hY (fun k _ hk => f3 k hk)
    have g3 : GFl I I3 := ⟨fun k h1 h2 h3 h4 h5 => by rw [f3 k h5, fY.1 k h1 h2 h3 h4, fX.1 k h1 h2 h3 h4 h5], fun j hj => by rw [f3 489 (by decide), fY.2 j hj, fX.2 j hj]⟩
    have i552 : I3 552 j = s := by rw [g3.1 552 (by decide) (by decide) (by decide) (by decide) (by decide)]; exact s9
    have c3 := CF_mf (MFl_g g3)
    have nx : ∀ c', ((c' = c0 ∧ ∀ i, i < j + 1 → ¬ LCK I cs a ps i) ∨ (c' = c0 + 1 ∧ ∃ i, i < j + 1 ∧ LCK I cs a ps i)) → J none mX11_lots (d + 16) 0 0 72 [(0, vR 489), (1, vI (a : Int)), (2, vI N), (3, vI v), (4, vI c'), (5, vI code), (6, vI ((j : Int) + 1))] [] (mk I3) (PI KI) := fun c' hc' => by
      have := ih (xs ++ [x]) c' I3 (by omega) g3 h3 ⟨xs, x, s, hg, hs, hx1', rfl⟩ (fun j' t y ht hy => ?_) hc'
      · exact this
      · rcases Nat.lt_trichotomy j' j with w | w | w
        · rw [List.getElem?_append_left (by omega)] at hy
          rw [e3, up_n (by omega), fY.1 553 (by decide) (by decide) (by decide) (by decide)]
          exact hx j' t y ht hy
        · subst w
          rw [← li, List.getElem?_concat_length] at hy
          rw [hs] at ht
          cases hy
          cases ht
          exact s3
        · rw [List.getElem?_eq_none (by rw [List.length_append, li]; show j + 1 ≤ j'; omega)] at hy
          cases hy
    have no : ¬ LCK I cs a ps j → J none mX11_lots (d + 16) 0 0 72 [(0, vR 489), (1, vI (a : Int)), (2, vI N), (3, vI v), (4, vI c), (5, vI code), (6, vI ((j : Int) + 1))] [] (mk I3) (PI KI) := fun nl => nx c (by
      rcases hc with ⟨w1, w2⟩ | ⟨w1, i, w3, w2⟩
      · refine Or.inl ⟨w1, fun i hi => ?_⟩
        by_cases ei : i = j
        · rw [ei]; exact nl
        · exact w2 i (by omega)
      · exact Or.inr ⟨w1, i, by omega, w2⟩)
    rw [i552, s3]
    refine ⟨fun q => ⟨by omega, no (fun w => ?_)⟩, fun q => ⟨by omega, fun q2 => ⟨by omega, no (fun w => ?_)⟩, fun q2 => ⟨by omega, ?_⟩⟩⟩
    · have := w.1
      rw [hs] at this
      cases this
      exact q rfl
    · have es : s = a := by omega
      subst es
      obtain ⟨_, ys, y, h2, h4, h5, _⟩ := w
      have ey := GCh_u j ys xs h2 hg
      subst ey
      exact h5 (by rw [GT1_u h4 hx1']; exact mgc_0.mp q2)
    · have es : s = a := by omega
      subst es
      have x0 : x ≠ 0 := fun w => q2 (mgc_0.mpr w)
      have xb := GT1_b hx1'
      have rl := rts_len (I := I) (s : Int)
      have gx : mgc s x = (wN s x : Int) := by
        unfold mgc
        rw [if_neg x0]
      have s13 : (s : Int) < I3 518 6 := by rw [c3.1 518 (by omega)]; exact s1
      obtain ⟨v1, v2, v3, v4⟩ := mway h3 (s := s) (x := x) s13 (by rw [rts_fr c3 (g3.2 63 (by decide))]; exact xb)
      have ef : endS 0 (chw I3 cs s x) = eN I cs s x := by
        unfold eN
        rw [chw_fr c3 (g3.2 63 (by decide))]
      rw [gx]
      refine c11_endOf (by omega) (by omega) v1 v2.2.2.2.2 ?_
      rw [ef]
      have lk : LCK I cs s ps j ↔ eN I cs s x = v := by
        constructor
        · rintro ⟨_, ys, y, h2, h4, h5, h6⟩
          have ey := GCh_u j ys xs h2 hg
          subst ey
          have exy := GT1_u h4 hx1'
          subst exy
          rcases hv with w | ⟨⟨u, u1, u2, u3⟩, w⟩
          · omega
          · have b1 := h6 u u1 u2
            have b2 := w y (by omega) xb
            omega
        · intro ev
          rcases hv with w | ⟨⟨u, u1, u2, u3⟩, w⟩
          · omega
          · exact ⟨hs, xs, x, hg, hx1', x0, fun y y0 y1 => by have := w y y0 y1; omega⟩
      refine ⟨fun q3 => ⟨by omega, no (fun w => q3 (lk.mp w))⟩, fun q3 => ?_⟩
      have hc1 : c = c0 := by
        rcases hc with w | ⟨_, i, w3, w2⟩
        · exact w.1
        · have := nd i j s w2.1 hs
          omega
      exact ⟨by omega, by omega, nx (c + 1) (Or.inr ⟨by omega, j, by omega, lk.mpr q3⟩)⟩
theorem codes_lp {a n : Nat} {v : Int} (h : MDW I cs) (en : (n : Int) = I 518 6) (n0 : 1 ≤ n) (n4 : n ≤ 4) (hv : LV I cs a v) (k : ∀ Y : HI, MFl I Y → KI (cntL (fun p => ∃ i, LCK I cs a p i) ((List.range (n ^ n)).filterMap (ordB n))) Y) : ∀ (m c : Nat) (X : HI), c + m = n ^ n → MFl I X → MDW X cs → J none mX11_lots (d + 16) 0 0 51 [(0, vR 489), (1, vI (a : Int)), (2, vI ((n ^ n : Nat) : Int)), (3, vI v), (4, vI (cntL (fun p => ∃ i, LCK I cs a p i) ((List.range c).filterMap (ordB n)))), (5, vI (c : Int))] [] (mk X) (PI KI)
  | 0, c, X, e, fX, hX => by
    refine bk_X11_lots_51 ⟨fun _ => PI_i ?_, fun q => by omega⟩
    rw [show c = n ^ n from by omega]
    exact k X fX
  | m + 1, c, X, e, fX, hX => by
    have ih := fun Y => codes_lp h en n0 n4 hv k m (c + 1) Y
    have nb := (dE n (by omega)).2
    have cb := cntL_b (P := fun p => ∃ i, LCK I cs a p i) (f := ordB n) c
    have cX := CF_mf fX
    have e63 := fX.2 63 (by decide)
    have e64 := fX.2 64 (by decide)
    refine bk_X11_lots_51 ⟨fun q => by omega, fun _ => ?_⟩
    refine c11_isOrder (d := d + 12) (n := n) (by rw [cX.1 518 (by omega)]; exact en) n0 n4 (by omega) (fun Y fY hd ho => ⟨fun _ => ?_, fun q => by omega⟩) (fun Y fY ho => ⟨fun q => absurd rfl q, fun _ => ⟨by omega, ?_⟩⟩)
    · obtain ⟨o1, o2, o3⟩ := ordB_f n0 n4 (by omega) ho
      have mY : MFl I Y := MFl_tr fX ⟨fun k _ _ _ _ h5 _ => fY k h5, fun j _ => by rw [fY 489 (by decide)]⟩
      have hY : MDW Y cs := MDW_c hX (fun k h5 _ => fY k h5)
      have cY := CF_mf mY
      have y63 := mY.2 63 (by decide)
      have y64 := mY.2 64 (by decide)
      have lf : ∀ p i, LCK Y cs a p i ↔ LCK I cs a p i := fun p i => LCK_fr cY y63 y64
      have hvY : LV Y cs a v := by
        unfold LV eN at hv ⊢
        simp only [rts_fr cY y63, chw_fr cY y63]
        exact hv
      have cn := cntL_s (P := fun p => ∃ i, LCK I cs a p i) ho
      have := beside_lp (d := d) (I := Y) (KI := KI) (a := a) (n := n) (c0 := cntL (fun p => ∃ i, LCK I cs a p i) ((List.range c).filterMap (ordB n))) (v := v) (N := ((n ^ n : Nat) : Int)) (code := (c : Int)) (ps := (List.range n).map (digB n c)) hY (by rw [cY.1 518 (by omega)]; exact en) n4 (by omega) o1 (fun j t ht => ⟨by rw [cY.1 518 (by omega)]; have := o2 j t ht; omega, by
        have jl := ge_lt ht
        rw [o1] at jl
        rw [hd j jl, map_dig ht]⟩) o3 hvY (fun Z c' gZ hZ hc' => ⟨by omega, ?_⟩) n 0 [] (cntL (fun p => ∃ i, LCK I cs a p i) ((List.range c).filterMap (ordB n))) Y (by omega) (GFl_rfl Y) hY rfl (fun j t x _ hx => by cases hx) (Or.inl ⟨rfl, fun i hi => by omega⟩)
      · exact this
      · have nx := ih Z (by omega) (MFl_tr mY (MFl_g gZ)) hZ
        simp only [lf] at hc'
        rcases hc' with ⟨w1, w2⟩ | ⟨w1, w2⟩
        · rw [cn.2 w2] at nx
          rw [w1]
          exact nx
        · rw [cn.1 w2] at nx
          rw [w1]
          exact nx
    · have nx := ih Y (by omega) (MFl_tr fX ⟨fun k _ _ _ _ h5 _ => fY k h5, fun j _ => by rw [fY 489 (by decide)]⟩) (MDW_c hX (fun k h5 _ => fY k h5))
      rw [cntL_n ho] at nx
      exact nx
theorem pow_b : ∀ n : Nat, n < 5 → ∀ i : Nat, i < 5 → n ^ i * n ≤ 1024 := by decide +kernel
theorem pow_lp {a n : Nat} (h : MDW I cs) (en : (n : Int) = I 518 6) (n0 : 1 ≤ n) (n4 : n ≤ 4) (a1 : (a : Int) < I 518 6) (k : ∀ Y : HI, MFl I Y → KI (cntL (fun p => ∃ i, LCK I cs a p i) ((List.range (n ^ n)).filterMap (ordB n))) Y) : ∀ (m i : Nat), i + m = n → J none mX11_lots (d + 16) 0 0 18 [(0, vR 489), (1, vI (a : Int)), (2, vI ((n ^ i : Nat) : Int)), (3, vI (i : Int))] [] (mk I) (PI KI)
  | 0, i, e => by
    refine bk_X11_lots_18 (c11_saintMany ?_)
    rw [← en, show i = n from by omega]
    refine ⟨fun _ => bk_X11_leastAlone_0 ?_, fun q => by omega⟩
    refine leastA_lp (d := d + 13) h a1 (fun v hv => ?_) (3 * (rts I a).length) 0 (-1) (by omega) (Or.inl ⟨rfl, rfl⟩)
    exact codes_lp h en n0 n4 hv k (n ^ n) 0 I (by omega) (MFl_rfl I) h
  | m + 1, i, e => by
    have ih := pow_lp h en n0 n4 a1 k m (i + 1) (by omega)
    refine bk_X11_lots_18 (c11_saintMany ?_)
    rw [← en]
    refine ⟨fun q => by omega, fun _ => c11_saintMany ?_⟩
    rw [← en]
    have pb := pow_b n (by omega) i (by omega)
    have pe : ((n ^ i : Nat) : Int) * (n : Int) = ((n ^ (i + 1) : Nat) : Int) := by
      rw [Nat.pow_succ]
      rfl
    have pb2 : ((n ^ (i + 1) : Nat) : Int) ≤ 1024 := by
      rw [Nat.pow_succ]
      exact Int.ofNat_le.mpr pb
    have pb3 : 0 ≤ ((n ^ (i + 1) : Nat) : Int) := Int.natCast_nonneg _
    rw [pe]
    exact ⟨⟨by omega, by omega⟩, by omega, ih⟩
/-- what planning leaves, from what is kept of plans -/
theorem EF_q {X Y : HI} (hw : WRel I cs H) (n4 : I 518 6 ≤ 4) (q : QFr I X) (p : PLN X cs) (v : I 69 11 ≤ X 69 11 ∧ X 69 11 ≤ I 69 11 + 1) (m : HFr X Y) : EFin I Y cs H := by
  have c : CAf X X := ⟨fun _ _ _ _ _ => rfl, fun _ _ _ _ => rfl⟩
  have k := m.1
  have e32 : Y 32 = X 32 := k 32 (by omega) (by omega) (by omega) (by omega) (by omega)
  obtain ⟨g1, g2, g3⟩ := fin_pln p (CF_h m) (m.2.1 63 (by decide) (by decide) (by decide)) (m.2.1 64 (by decide) (by decide) (by decide)) (fun j j1 j2 => k j (by omega) (by omega) (by omega) (by omega) (by omega)) (by rw [e32]) (by rw [e32]) (by rw [e32])
  refine ⟨TFr_of q c (MAf_of m), WRel_h (WRel_q hw n4 q) (by rw [(CF_q q).1 518 (by omega)]; exact n4) m, g1, g2, g3, ?_⟩
  rw [k 69 (by omega) (by omega) (by omega) (by omega) (by omega)]
  exact v
theorem op_lots {a : Int} (lv : I 69 11 ≤ 500000) (hp : PLN I cs) (hw : WRel I cs H) (mw : MWs I cs) (h : ∀ x Y, EFin I Y cs H → K2 x x Y) : CI mX10_lots (d + 17) [vR 0, vI a] I (fun x1 I1 => CI mX11_lots (d + 17) [vR 489, vI a] I1 (K2 x1)) := by
  have hc := mw.1.1
  have n6 := hc.2.2.1
  obtain ⟨n, en⟩ : ∃ n : Nat, (n : Int) = I 518 6 := ⟨(I 518 6).toNat, by omega⟩
  refine bk_X10_lots_0 (c10_isSaint (fun a0 a1 => ⟨fun _ => ?_, fun q => by omega⟩) (fun q => ⟨fun q2 => absurd rfl q2, fun _ => PI_i ?_⟩))
  · rw [hc.1.2.2.1] at a1
    obtain ⟨s, rfl⟩ : ∃ s : Nat, a = s := ⟨a.toNat, by omega⟩
    have n0 : 1 ≤ n := by omega
    have := lots_lp (d := d + 1) (I := I) (cs := cs) (a := s) (n := n) (KI := fun x1 I1 => CI mX11_lots (d + 17) [vR 489, vI (s : Int)] I1 (K2 x1)) lv en n0 (by omega) (fun X qX pX vX => ?_) 256 0 I (by omega) ⟨fun _ _ _ _ => rfl, fun _ _ => rfl, fun _ _ _ _ => rfl⟩ hp (Or.inl ⟨rfl, rfl⟩)
    · exact this
    · have cX := CF_q qX
      have e489 := sh_q qX
      have f518 := cX.1 518 (by omega)
      have mwX := mw_q mw qX
      refine bk_X11_lots_0 (c11_isSaint (by rw [f518]; exact n6) (fun _ _ => ⟨fun _ => ?_, fun q => by omega⟩) (fun q => by rw [f518] at q; omega))
      refine c11_opts mwX pX.2.2.1 (on64 pX.1) (fun Y oY hY => ?_)
      have cY := CF_tr cX (CF_om oY)
      have y489 : Y 489 = I 489 := by rw [oY.1 489 (by omega) (by omega), e489]
      have := pow_lp (d := d + 1) (I := Y) (cs := cs) (a := s) (n := n) (KI := K2 (cntL (fun p => ∃ i, LCK I cs s p i) ((List.range 256).filterMap (ordA n)))) hY (by rw [cY.1 518 (by omega)]; exact en) n0 (by omega) (by rw [cY.1 518 (by omega)]; exact a1) (fun Z mZ => ?_) n 0 (by omega)
      · exact this
      · have lf : ∀ p i, LCK Y cs s p i ↔ LCK I cs s p i := fun p i => LCK_fr cY (by rw [y489]) (by rw [y489])
        simp only [lf]
        rw [ord_eq n (by omega) n0]
        exact h _ Z (EF_q hw n6.2 qX pX vX (HFr_tr (HFr_o oY) (HFr_mf mZ)))
  · rw [hc.1.2.2.1] at q
    refine bk_X11_lots_0 (c11_isSaint n6 (fun a0 a1 => by omega) (fun _ => ⟨fun q2 => absurd rfl q2, fun _ => PI_i ?_⟩))
    exact h _ I (EF_q hw n6.2 ⟨fun _ _ _ _ => rfl, fun _ _ => rfl, fun _ _ _ _ => rfl⟩ hp (by omega) (HFr_rfl I))
end LO
