/-- the saint s has the way w in the model -/
def cmT (I : HI) (s w n : Nat) : HI := cp3 (up I 532 s n) 533 534 535 (24 * w) 533 534 535 (24 * s) n
theorem cmT_f {I : HI} {s w n k : Nat} (h : k < 532 ∨ 535 < k) : cmT I s w n k = I k := by
  unfold cmT
  rw [cp3_f (by omega) (by omega) (by omega), up_k (by omega)]
theorem cmT_532 {I : HI} {s w n j : Nat} (h : j ≠ s) : cmT I s w n 532 j = I 532 j := by
  unfold cmT
  rw [cp3_f (by decide) (by decide) (by decide), up_j h]
theorem cmT_533 {I : HI} {s w n j : Nat} (h : j < 24 * s ∨ 24 * s + n ≤ j) : cmT I s w n 533 j = I 533 j ∧ cmT I s w n 534 j = I 534 j ∧ cmT I s w n 535 j = I 535 j := by
  unfold cmT
  rw [cp3_o h, cp3_o h, cp3_o h, up_k (by decide), up_k (by decide), up_k (by decide)]
  exact ⟨rfl, rfl, rfl⟩
theorem SL_cmT {I : HI} {s w : Int} {W : List Sp} (s0 : 0 ≤ s) (w0 : 0 ≤ w) (h : SL I w 0 W) : SL (cmT I s.toNat w.toNat W.length) s 0 W := by
  have g := (SL_EW w0).mp h
  refine (SL_EW s0).mpr ⟨?_, fun k x hx => ?_⟩
  · unfold cmT
    rw [cp3_f (by decide) (by decide) (by decide), up_e]
  · have hk := ge_lt hx
    have q := g.2 k x hx
    unfold cmT
    rw [cp3_a (by omega) (by omega), cp3_b (by decide) (by omega) (by omega), cp3_c (by decide) (by decide) (by omega) (by omega), up_k (by decide), up_k (by decide), up_k (by decide), Nat.add_sub_cancel_left]
    exact q
section B2
variable {d : Nat} {I : HI} {Q : Option AV → AH → Prop} {K : HI → Prop} {KI : Int → HI → Prop} {K2 : Int → Int → HI → Prop} {cs : Int → List Int} {H : List Sn}
theorem comesTo_lp {s w n : Nat} (hs : s < 4) (w0 : 4 ≤ w) (w1 : w < 244) (hn : I 532 w = n) (h24 : n ≤ 24) : ∀ (m k : Nat), k + m = n → K (cmT I s w n) → J none mX11_comesTo (d + 1) 0 0 14 [(0, vR 489), (1, vI (s : Int)), (2, vI (w : Int)), (3, vI (k : Int))] [] (mk (cp3 (up I 532 s n) 533 534 535 (24 * w) 533 534 535 (24 * s) k)) (PV K)
  | 0, k, e, h => by
    have e2 : k = n := by omega
    subst e2
    refine bk_X11_comesTo_14 ?_
    rw [Int.toNat_natCast, cp3_f (by decide) (by decide) (by decide), up_j (by omega), hn]
    exact ⟨by omega, fun _ => PV_i h, fun q => by omega⟩
  | m + 1, k, e, h => by
    have ih := comesTo_lp hs w0 w1 hn h24 m (k + 1) (by omega) h
    rw [← cp3_s (by decide) (by decide) (by decide), show ((k + 1 : Nat) : Int) = (k : Int) + 1 from by omega] at ih
    have t1 : ((24 * (w : Int)) + k).toNat = 24 * w + k := by omega
    have t2 : ((24 * (s : Int)) + k).toNat = 24 * s + k := by omega
    refine bk_X11_comesTo_14 ?_
    rw [t1, t2, Int.toNat_natCast, cp3_f (a := 532) (by decide) (by decide) (by decide), up_j (by omega), hn]
    refine ⟨by omega, fun q => by omega, fun _ => ⟨by omega, by omega, by omega, by omega, by omega, by omega, fun I1 e1 => ⟨by omega, by omega, by omega, by omega, by omega, by omega, fun I2 e2 => ⟨by omega, by omega, by omega, by omega, by omega, by omega, fun I3 e3 => ⟨by omega, ?_⟩⟩⟩⟩⟩
    subst e1 e2 e3
    rw [up_k (by decide), up_k (by decide), up_k (by decide), cp3_o (by omega), cp3_o (by omega), cp3_o (by omega)]
    exact ih
theorem c11_comesTo {s w : Int} {n : Nat} (s0 : 0 ≤ s) (s1 : s < 4) (w0 : 4 ≤ w) (w1 : w < 244) (hn : I 532 w.toNat = n) (h24 : n ≤ 24) (h : K (cmT I s.toNat w.toNat n)) : CV mX11_comesTo (d + 1) [vR 489, vI s, vI w] I K := by
  have es : ((s.toNat : Nat) : Int) = s := by omega
  have ew : ((w.toNat : Nat) : Int) = w := by omega
  have f := comesTo_lp (d := d) (I := I) (K := K) (s := s.toNat) (w := w.toNat) (by omega) (by omega) (by omega) hn h24 n 0 (by omega) h
  rw [cp3_0, es, ew] at f
  refine bk_X11_comesTo_0 ⟨by omega, by omega, fun I1 e1 => ?_⟩
  subst e1
  rw [hn]
  exact f
theorem c11_wayOf {s o : Int} (s0 : 0 ≤ s) (s1 : s < 4) (o0 : 0 ≤ o) (o1 : o < 60) (h : KI (4 + 60 * s + o) I) : CI mX11_wayOf (d + 1) [vI s, vI o] I KI :=
  bk_X11_wayOf_0 ⟨by omega, by omega, by omega, PI_i h⟩
/-- a step told for the way w of the saint s: its codes grow -/
theorem c11_isStepTold {s w x : Int} {c1 : List Int} (hc : CN I) (hs : CSa I) (hl : CLa I) (s0 : 0 ≤ s) (s1 : s < I 518 6) (w0 : 0 ≤ w) (w1 : w < 244) (hw : sof w = s) (x0 : 0 ≤ x) (x1 : x ≤ 255) (hS : SL I w 0 (wy I s c1)) (hok : OkW I s c1) (k0 : ¬ OkW I s (c1 ++ [x]) → KI 0 I) (k1 : ∀ y : Sp, OkW I s (c1 ++ [x]) → wy I s (c1 ++ [x]) = wy I s c1 ++ [y] → KI 1 (trd I w.toNat (wy I s c1).length y)) : CI mX11_isStepTold (d + 3) [vR 489, vI w, vI x] I KI := by
  have n5 := hc.2.1
  have n6 := hc.2.2.1
  have n7 := hc.2.2.2.1
  have okw := wy_ok hc hs hl s0 s1 hok.1
  have hr := hm_rng hs s0 s1
  have hi := run_in (s := s) c1 _ 0 hr.1 hr.2 hok.1
  have lr : 0 ≤ lastS (hm I s) (wy I s c1) ∧ lastS (hm I s) (wy I s c1) < I 518 5 := lastS_in _ _ hr.1 hr.2 hi
  have ge := end_ge _ _ _ okw
  have ok := hok.2
  have wl := wy_len I s c1
  have ys := wy_snoc I s c1 x
  have okc := okC_app I s [x] c1 (hm I s) 0
  refine bk_X11_isStepTold_0 (c11_saintOf w0 w1 ?_)
  rw [hw]
  refine ⟨fun hx => ?_, fun hx => ⟨fun hx2 => PI_i (k0 (fun z => ?_)), fun hx2 => ⟨by omega, ?_⟩⟩⟩
  · rw [if_neg (by omega)] at ys
    have inv : OkW I s (c1 ++ [x]) → (0 ≤ x ∧ x < I 518 5 ∧ laneM I (lastS (hm I s) (wy I s c1)) x ≠ -1) ∧ c1.length < 24 ∧ endS 0 (wy I s c1) + miM I s (laneM I (lastS (hm I s) (wy I s c1)) x) ≤ 999 := fun z => by
      have q := (okc.mp z.1).2
      unfold okC at q
      rw [if_neg (by omega)] at q
      have q2 := z.2
      rw [ys, endS_app] at q2
      simp only [List.length_append, List.length_cons, List.length_nil, endS] at q2
      exact ⟨q.1, by omega, q2.2⟩
    refine c11_isCorner n5 (fun q0 q1 => ⟨fun q => by omega, fun _ => ?_⟩) (fun q => ⟨fun _ => PI_i (k0 (fun z => by have := (inv z).1; omega)), fun q => by omega⟩)
    refine c11_endsAt w0 w1 hS (by omega) ?_
    rw [hw]
    refine c11_laneOf (by omega) (by omega) ⟨fun q => PI_i (k0 (fun z => (inv z).1.2.2 q)), fun q => ?_⟩
    have ar := laneM_rng (I := I) (by omega) q
    have mr := miM_rng hs hl s0 s1 ar.1 ar.2
    refine c11_longOf s0 (by omega) ar.1 (by omega) (by omega) ?_
    refine c11_canGo w0 w1 hS (by omega) ⟨ge, ok.2⟩ (by omega) (fun q4 q5 => ⟨fun _ => ?_, fun q => by omega⟩) (fun q4 => ⟨fun q => by omega, fun _ => PI_i (k0 (fun z => by have := (inv z).2; omega))⟩)
    refine c11_longOf s0 (by omega) ar.1 (by omega) (by omega) ?_
    refine c11_treads w0 w1 hS (by omega) (by omega) (by omega) (PI_i ?_)
    exact k1 _ (OkW_w hok (by omega) q0 q1 n5.2 q (by omega)) ys
  · have q := (okc.mp z.1).2
    unfold okC at q
    rw [if_pos (by omega)] at q
    omega
  · rw [if_pos (by omega)] at ys
    have inv : OkW I s (c1 ++ [x]) → c1.length < 24 ∧ endS 0 (wy I s c1) + (x - 100) ≤ 999 := fun z => by
      have q2 := z.2
      rw [ys, endS_app] at q2
      simp only [List.length_append, List.length_cons, List.length_nil, endS] at q2
      exact ⟨by omega, q2.2⟩
    refine c11_canGo w0 w1 hS (by omega) ⟨ge, ok.2⟩ (by omega) (fun q4 q5 => ⟨fun _ => ?_, fun q => by omega⟩) (fun q4 => ⟨fun q => by omega, fun _ => PI_i (k0 (fun z => by have := inv z; omega))⟩)
    refine c11_endsAt w0 w1 hS (by omega) ?_
    rw [hw]
    refine ⟨by omega, c11_treads w0 w1 hS (by omega) (by omega) (by omega) (PI_i ?_)⟩
    exact k1 _ (OkW_s hok (by omega) (by omega) (by omega) (by omega)) ys
/-- what isTold leaves as it was: all but options -/
def OFr (I X : HI) : Prop := (∀ k, (k < 532 ∨ 535 < k) → X k = I k) ∧ (∀ j, j < 4 → X 532 j = I 532 j) ∧ (∀ j, j < 96 → X 533 j = I 533 j ∧ X 534 j = I 534 j ∧ X 535 j = I 535 j)
theorem OFr_rfl (I : HI) : OFr I I := ⟨fun _ _ => rfl, fun _ _ => rfl, fun _ _ => ⟨rfl, rfl, rfl⟩⟩
theorem OFr_trd {I X : HI} {w n : Nat} {y : Sp} (h : OFr I X) (hw : 4 ≤ w) : OFr I (trd X w n y) := by
  refine ⟨fun k hk => by rw [trd_f hk, h.1 k hk], fun j hj => by rw [trd_532 (by omega), h.2.1 j hj], fun j hj => ?_⟩
  obtain ⟨a, b, c⟩ := trd_533 (I := X) (w := w) (n := n) (y := y) (j := j) (by omega)
  rw [a, b, c]
  exact h.2.2 j hj
theorem OFr_0 {I X : HI} {w : Nat} {x : Int} (h : OFr I X) (hw : 4 ≤ w) : OFr I (up X 532 w x) := by
  refine ⟨fun k hk => by rw [up_k (by omega), h.1 k hk], fun j hj => by rw [up_j (by omega), h.2.1 j hj], fun j hj => ?_⟩
  rw [up_k (by decide), up_k (by decide), up_k (by decide)]
  exact h.2.2 j hj
/-- the saints' first options hold what was told -/
def FO (I X : HI) (B : Nat → Int) (s : Int) : Prop := ∀ u : Int, 0 ≤ u → u < s → SL X (4 + 60 * u) 0 (wy I u (csT B u)) ∧ OkW I u (csT B u) ∧ B (pls B u.toNat) ≤ 24
theorem isTold_b {s : Int} {p n : Nat} (hc : CN I) (hs : CSa I) (hl : CLa I) (s0 : 0 ≤ s) (s1 : s < I 518 6) (hn : n ≤ 1600) (hpn : p < n) (hp : (p : Int) + I 490 p < n - 4) (hpp : p = pls (I 490) s.toNat) (hB : ∀ j, j < n → 0 ≤ I 490 j ∧ I 490 j ≤ 255) (h24 : I 490 p ≤ 24) (k0 : ∀ X : HI, OFr I X → ¬ OkW I s (tv (I 490) p) → KI 0 X) (k1 : ∀ X : HI, OFr I X → FO I X (I 490) (s + 1) → J none mX11_isTold (d + 4) 0 0 32 [(0, vR 489), (1, vI (n : Int)), (2, vI ((p : Int) + (I 490 p + 1))), (3, vI (s + 1))] [] (mk X) (PI KI)) : ∀ (c2 c1 : List Int) (X : HI), tv (I 490) p = c1 ++ c2 → OFr I X → FO I X (I 490) s → SL X (4 + 60 * s) 0 (wy I s c1) → OkW I s c1 → J none mX11_isTold (d + 4) 0 0 97 [(0, vR 489), (1, vI (n : Int)), (2, vI (p : Int)), (3, vI s), (4, vI (4 + 60 * s)), (5, vI (I 490 p)), (6, vI ((c1.length : Int) + 1))] [] (mk X) (PI KI)
  | [], c1, X, e, ho, hf, hS, hok => by
    rw [List.append_nil] at e
    have b1 := hc.2.2.1
    have B0 := hB p (by omega)
    have el : (tv (I 490) p).length = (I 490 p).toNat := bl_len _ _ _
    rw [e] at el
    refine bk_X11_isTold_97 ⟨fun _ => ⟨by omega, by omega, by omega, k1 X ho (fun u u0 u1 => ?_)⟩, fun q => by omega⟩
    by_cases eu : u = s
    · subst eu
      have ec : csT (I 490) u = c1 := by
        unfold csT
        rw [← hpp, e]
      rw [ec, ← hpp]
      exact ⟨hS, hok, h24⟩
    · exact hf u u0 (by omega)
  | x :: c2, c1, X, e, ho, hf, hS, hok => by
    have b1 := hc.2.2.1
    have B0 := hB p (by omega)
    have el : (tv (I 490) p).length = (I 490 p).toNat := bl_len _ _ _
    have el2 : (I 490 p).toNat = c1.length + (c2.length + 1) := by
      rw [← el, e]
      simp
    have ex : x = I 490 (p + 1 + c1.length) := by
      have := bl_get (I 490) (I 490 p).toNat (p + 1) c1.length (by omega)
      rw [← this]
      show x = (tv (I 490) p).getD c1.length 0
      rw [e]
      simp
    have xr := hB (p + 1 + c1.length) (by omega)
    rw [← ex] at xr
    have et : ((p : Int) + ((c1.length : Int) + 1)).toNat = p + 1 + c1.length := by omega
    have f518 := ho.1 518 (by decide)
    have f521 := ho.1 521 (by decide)
    have f522 := ho.1 522 (by decide)
    have f490 := ho.1 490 (by decide)
    have ih := isTold_b hc hs hl s0 s1 hn hpn hp hpp hB h24 k0 k1 c2 (c1 ++ [x])
    have len1 : (((c1 ++ [x]).length : Nat) : Int) = (c1.length : Int) + 1 := by simp
    rw [len1] at ih
    have ew : ∀ u v, wy X u v = wy I u v := fun u v => wy_fr f518 f521 f522 u v
    have eo : ∀ v, OkW X s v ↔ OkW I s v := fun v => ⟨fun z => OkW_fr f518.symm f521.symm f522.symm z, fun z => OkW_fr f518 f521 f522 z⟩
    have sw : sof (4 + 60 * s) = s := by
      unfold sof
      rw [if_neg (by omega)]
      omega
    refine bk_X11_isTold_97 ⟨fun q => by omega, fun _ => ⟨by omega, by omega, ?_⟩⟩
    rw [f490, et, ← ex]
    refine c11_isStepTold (c1 := c1) (CN_fr hc (ho.1 2 (by decide)) f518) (CSa_fr hs (ho.1 7 (by decide)) f518 f522) (CLa_fr hl (ho.1 6 (by decide)) (ho.1 12 (by decide)) f518 f521) s0 (by rw [f518]; exact s1) (by omega) (by omega) sw xr.1 xr.2 (by rw [ew]; exact hS) ((eo _).mpr hok) (fun z => ⟨fun q => by omega, fun _ => PI_i (k0 X ho (fun w => z ((eo _).mpr ?_)))⟩) (fun y z hy => ⟨fun _ => ⟨by omega, ?_⟩, fun q => by omega⟩)
    · rw [e, show c1 ++ x :: c2 = (c1 ++ [x]) ++ c2 from by simp] at w
      exact OkW_pre hc hs hl s0 s1 w
    · rw [ew, ew] at hy
      have st := SL_trd (y := y) (w := 4 + 60 * s) (by omega) hS
      rw [← hy] at st
      rw [ew]
      refine ih _ (by rw [e]; simp) (OFr_trd ho (by omega)) (fun u u0 u1 => ?_) st ((eo _).mp z)
      obtain ⟨a, b⟩ := hf u u0 u1
      refine ⟨?_, b⟩
      have g := (SL_EW (by omega)).mp a
      refine (SL_EW (by omega)).mpr (EW_cp g ?_ (trd_532 (by omega)) (fun k hk => trd_533 (by omega)))
      rw [wy_len]
      exact b.1.2.1
end B2
