theorem CN_fr {I I1 : HI} (h : CN I) (e2 : I1 2 = I 2) (e518 : I1 518 = I 518) : CN I1 := by
  unfold CN at h ⊢
  rw [e2, e518]
  exact h
theorem CSa_fr {I I1 : HI} (h : CSa I) (e7 : I1 7 = I 7) (e518 : I1 518 = I 518) (e522 : I1 522 = I 522) : CSa I1 := by
  unfold CSa at h ⊢
  rw [e7, e518, e522]
  exact h
theorem CLa_fr {I I1 : HI} (h : CLa I) (e6 : I1 6 = I 6) (e12 : I1 12 = I 12) (e518 : I1 518 = I 518) (e521 : I1 521 = I 521) : CLa I1 := by
  unfold CLa at h ⊢
  simp only [laneM_fr e518 e521]
  rw [e6, e12, e518, e521]
  exact h
/-- whether a saint with the way W can rest -/
def RC (W : List Sp) (m : Int) : Prop := W.length < 24 ∧ endS 0 W + m ≤ 999
theorem OkW_nil (I : HI) (s : Int) : OkW I s [] := ⟨trivial, by simp, by simp [wy, runW, endS]⟩
theorem wy_nil (I : HI) (s : Int) : wy I s [] = [] := rfl
/-- the class when only what is shut or on changes -/
theorem cl_set {I I1 : HI} {cs : Int → List Int} {H : List Sn} (hw : WRel I cs H) (hb : I 518 6 ≤ 4) (hf : ∀ k, k ≠ 32 → k ≠ 33 → I1 k = cmC (kpC I) k) (e33 : ∀ j, j < 100 → I1 33 j = I 33 j) (e5 : I1 32 5 = cmC (kpC I) 32 5) (e6 : I1 32 6 = cmC (kpC I) 32 6) : ClD I I1 cs (I1 33 100) (I1 33 101) (((cs, I 489 63, I 489 64) :: H).take 20) := by
  have hw0 := hw
  obtain ⟨w1, w2, w3, w4, w5, w6, w7⟩ := hw
  have fr : ∀ k, k ≠ 32 → k ≠ 33 → k ≠ 35 → I1 k = I k := fun k k1 k2 k3 => by
    rw [hf k k1 k2, cmC_f k1, kpC_f k3]
  have e518 : I1 518 = I 518 := fr 518 (by decide) (by decide) (by decide)
  have e521 : I1 521 = I 521 := fr 521 (by decide) (by decide) (by decide)
  have e522 : I1 522 = I 522 := fr 522 (by decide) (by decide) (by decide)
  refine ⟨fun k k1 k2 k3 k4 => fr k k1 k2 k3, ?_, cl_push hw0 hb e5 e6 (hf 35 (by decide) (by decide)) e518, rfl, rfl⟩
  intro s s0 s1
  rw [e518] at s1
  obtain ⟨a, b⟩ := w1 s s0 s1
  rw [wy_fr e518 e521 e522, hm_fr e522]
  refine ⟨EC_cp a s0 (by omega) (w3.1 s s0 s1).2.1 (fun j hj => by rw [Nat.zero_add]; exact e33 j hj), TW_fr b (fun k k1 k2 => fr k (by omega) (by omega) (by omega))⟩
theorem mo_set {I I1 I2 : HI} {cs : Int → List Int} {H : List Sn} (hw : WRel I cs H) (hb : I 518 6 ≤ 4) (hf : ∀ k, 57 ≤ k → I1 k = I k) (h2 : ∀ k, k ≠ 489 → I2 k = kas (rmb I1) k) (hj : ∀ j, j ≠ 63 → j ≠ 64 → I2 489 j = kas (rmb I1) 489 j) : MoD I1 I2 cs (I2 489 63) (I2 489 64) (((cs, I 489 63, I 489 64) :: H).take 20) := by
  obtain ⟨a1, a2, a3⟩ := mo_push hw hb hf
  have e518 : I2 518 = kas (rmb I1) 518 := h2 518 (by decide)
  have e521 : I2 521 = kas (rmb I1) 521 := h2 521 (by decide)
  have e522 : I2 522 = kas (rmb I1) 522 := h2 522 (by decide)
  refine ⟨fun k k1 k2 => ?_, fun j j1 j2 j3 j4 => ?_, ?_, ?_, rfl, rfl⟩
  · rw [h2 k k1, kr_f k1 (by omega)]
  · rw [hj j j1 j2, kr_j j4 j3]
  · intro s s0 s1
    rw [e518] at s1
    rw [wy_fr e518 e521 e522]
    exact SL_fr s0 (a3 s s0 s1) (h2 532 (by decide)) (h2 533 (by decide)) (h2 534 (by decide)) (h2 535 (by decide))
  · exact MoH_fr a2 e518 e521 e522 (hj 71 (by decide) (by decide)) (hj 72 (by decide) (by decide)) (fun k k1 k2 => h2 k (by omega))
theorem p2_le {k : Int} (h0 : 0 ≤ k) (h1 : k ≤ 6) : 0 < oSl 1 k ∧ oSl 1 k ≤ 64 := by
  have e : k = 0 ∨ k = 1 ∨ k = 2 ∨ k = 3 ∨ k = 4 ∨ k = 5 ∨ k = 6 := by omega
  rw [oSl_1 h0 (by omega)]
  rcases e with rfl | rfl | rfl | rfl | rfl | rfl | rfl <;> decide
theorem xor_or {x l : Int} (x0 : 0 ≤ x) (x1 : x < 65536) (l0 : 0 ≤ l) (l1 : l < 16) (h : oA (oSr x l) 1 = 0) : oX x (oSl 1 l) = oO x (oSl 1 l) := by
  have p := p2_rng (k := l) 16 (by omega) l0 (by omega)
  have r1 := xor_rng 16 (by omega) (x := x) (y := oSl 1 l) x0 (by omega) (by omega) p.2
  have r2 := or_rng 16 (by omega) (x := x) (y := oSl 1 l) x0 (by omega) (by omega) p.2
  have b := (sb_0 x0 (by omega) l0 (by omega)).mp h
  refine bit_ext 16 r1.1 r1.2 r2.1 r2.2 (fun j j0 j1 => ?_)
  rw [bit_xor x0 (by omega) (by omega) (by have := p.2; omega), bit_or x0 (by omega) (by omega) (by have := p.2; omega), bit_p2 l0 (by omega) j0]
  by_cases e : j = l
  · subst e
    simp [b]
  · simp [e]
theorem xor_ant {x l : Int} (x0 : 0 ≤ x) (x1 : x < 65536) (l0 : 0 ≤ l) (l1 : l < 16) (h : oA (oSr x l) 1 = 1) : oX x (oSl 1 l) = oA x (oX (oSl 1 l) (-1)) := by
  have p := p2_rng (k := l) 16 (by omega) l0 (by omega)
  have r1 := xor_rng 16 (by omega) (x := x) (y := oSl 1 l) x0 (by omega) (by omega) p.2
  have r2 := ant_rng (x := x) (y := oSl 1 l) x0 (by omega) (by omega) (by have := p.2; omega)
  have b := (sb_1 x0 (by omega) l0 (by omega)).mp h
  refine bit_ext 16 r1.1 r1.2 r2.1 (by omega) (fun j j0 j1 => ?_)
  rw [bit_xor x0 (by omega) (by omega) (by have := p.2; omega), bit_ant x0 (by omega) (by omega) (by have := p.2; omega), bit_p2 l0 (by omega) j0]
  by_cases e : j = l
  · subst e
    simp [b]
  · simp [e]
section O3
variable {d : Nat} {I : HI} {K : HI → Prop} {KI : Int → HI → Prop} {K2 : Int → Int → HI → Prop} {cs : Int → List Int} {H : List Sn}
theorem c9_pause {s m : Int} {v : List Int} (s0 : 0 ≤ s) (s1 : s < 4) (m0 : 1 ≤ m) (m1 : m ≤ 30) (hE : EC (I 33) 0 s v) (hT : TW I (37 + 5 * s.toNat) 25 0 (hm I s) (wy I s v)) (we : 0 ≤ endS 0 (wy I s v) ∧ endS 0 (wy I s v) ≤ 999) (h5 : 0 ≤ I 32 5 ∧ I 32 5 < 21) (h6 : 0 ≤ I 32 6 ∧ I 32 6 ≤ 20) (k0 : ¬ RC (wy I s v) m → KI (-1) I) (k1 : RC (wy I s v) m → KI (endS 0 (wy I s v) + m) (sty (ads (cmC (kpC I)) s (100 + m)) (37 + 5 * s.toNat) m)) : CI mX9_pause (d + 3) [vR 32, vI s, vI m] I KI := by
  have en := hE.1
  rw [Nat.zero_add] at en
  have wl := wy_len I s v
  have fin := hT.2.1
  refine bk_X9_pause_0 ⟨by omega, by omega, fun q => PI_i (k0 (fun z => by have := z.1; omega)), fun q => ⟨by omega, fun q2 => ⟨by omega, ?_⟩, fun q2 => PI_i (k0 (fun z => by have := z.2; omega))⟩⟩
  refine c9_addStep h5 h6 s0 (by omega) (by omega) (by omega) ?_
  have ft : ads (cmC (kpC I)) s (100 + m) (37 + 5 * s.toNat) = I (37 + 5 * s.toNat) := by
    rw [ads_f (by omega) (by omega), cmC_f (by omega), kpC_f (by omega)]
  refine c8_stay hT.1.1 (by rw [ft]; omega) (by omega) (PI_i ?_)
  refine K_eq (k1 ⟨by omega, by omega⟩) ?_
  have e5 : sty (ads (cmC (kpC I)) s (100 + m)) (37 + 5 * s.toNat) m (37 + 5 * s.toNat) 5 = ads (cmC (kpC I)) s (100 + m) (37 + 5 * s.toNat) 5 + m := by simp [sty, up]
  rw [e5, ft]
  omega
theorem c11_rest {s m : Int} {W : List Sp} (hc : CN I) (s0 : 0 ≤ s) (s1 : s < I 518 6) (m0 : 1 ≤ m) (m1 : m ≤ 30) (hS : SL I s 0 W) (wl : W.length ≤ 24) (we : 0 ≤ endS 0 W ∧ endS 0 W ≤ 999) (h5 : 0 ≤ I 489 72 ∧ I 489 72 < 20) (h6 : 0 ≤ I 489 71) (k0 : ¬ RC W m → KI (-1) I) (k1 : RC W m → KI (endS 0 W + m) (trd (kas (rmb I)) s.toNat W.length (lastS (hm I s) W, -1, endS 0 W + m))) : CI mX11_rest (d + 4) [vR 489, vI s, vI m] I KI := by
  have n6 := hc.2.2.1
  refine bk_X11_rest_0 (c11_isSaint n6 (fun _ _ => ⟨fun q => by omega, fun _ => c11_isIn (fun _ _ => ⟨fun q => by omega, fun _ => ?_⟩) (fun q => by omega)⟩) (fun q => by omega))
  refine c11_canGo s0 (by omega) hS wl we (by omega) (fun q4 q5 => ⟨fun _ => ?_, fun q => by omega⟩) (fun q4 => ⟨fun q => by omega, fun _ => PI_i (k0 (fun z => by have := z.1; have := z.2; omega))⟩)
  refine c11_keeps h5 h6 ?_
  have e522 : kas (rmb I) 522 = I 522 := kr_f (by decide) (by decide)
  have sl := SL_fr s0 hS (kr_f (I := I) (k := 532) (by decide) (by decide)) (kr_f (k := 533) (by decide) (by decide)) (kr_f (k := 534) (by decide) (by decide)) (kr_f (k := 535) (by decide) (by decide))
  refine c11_endsAt s0 (by omega) sl wl ?_
  rw [sof_s (by omega), hm_fr e522]
  refine c11_treads s0 (by omega) sl (by omega) (by omega) (by omega) ?_
  refine c11_endOf s0 (by omega) (SL_trd s0 sl) (by simp; omega) (PI_i ?_)
  rw [endS_app]
  exact k1 ⟨q4, q5⟩
theorem op_rest {a b : Int} (hc : CN I) (hs : CSa I) (hl : CLa I) (hw : WRel I cs H) (h : ∀ x I' cs' H', WRel I' cs' H' → WFr I I' → WCh I I' cs cs' → K2 x x I') : CI mX10_rest (d + 5) [vR 0, vI a, vI b] I (fun x1 I1 => CI mX11_rest (d + 5) [vR 489, vI a, vI b] I1 (K2 x1)) := by
  have id0 : ∀ x, K2 x x I := fun x => h x I cs H hw (WFr_rfl I) (WCh_rfl I cs)
  have hw0 := hw
  have hc0 := hc
  obtain ⟨⟨c0, c1, c2, c3, c4⟩, b0, b1, b2, b3, b4⟩ := hc
  obtain ⟨w1, w2, w3, w4, w5, w6, w7⟩ := hw
  refine bk_X10_rest_0 (c10_isSaint (fun a0 a1 => ⟨fun q => by omega, fun _ => ⟨fun q => PI_i ?_, fun q0 => ⟨fun q => PI_i ?_, fun q1 => ?_⟩⟩⟩) (fun q => ⟨fun _ => PI_i ?_, fun q => by omega⟩))
  · refine bk_X11_rest_0 ?_
    (repeat' (with_reducible first | refine And.intro ?_ ?_ | intro _ | refine PI_i ?_ | refine PV_i ?_ | refine PL_i ?_ | apply c11_isSaint | apply b1 | apply c11_isIn)) <;> first | omega | exact id0 _
  · refine bk_X11_rest_0 ?_
    (repeat' (with_reducible first | refine And.intro ?_ ?_ | intro _ | refine PI_i ?_ | refine PV_i ?_ | refine PL_i ?_ | apply c11_isSaint | apply b1 | apply c11_isIn)) <;> first | omega | exact id0 _
  · rw [c2] at a1
    obtain ⟨e1, e2⟩ := w1 a a0 a1
    have ok : OkW I a (cs a) := w3.1 a a0 a1
    have okw := wy_ok hc0 hs hl a0 a1 ok.1
    have ge := end_ge _ _ _ okw
    have wl := wy_len I a (cs a)
    have p1 := w5.1
    have p2 := w5.2.1
    have p3 := w6.1
    refine c9_pause a0 (by omega) (by omega) (by omega) e1 e2 ⟨ge, ok.2.2⟩ ⟨w5.2.2.1, w5.2.2.2.1⟩ (by omega) (fun z => PI_i ?_) (fun z => PI_i ?_)
    · exact c11_rest hc0 a0 a1 (by omega) (by omega) (w2 a a0 a1) (by rw [wl]; exact ok.2.1) ⟨ge, ok.2.2⟩ ⟨w6.2.2.1, w6.2.2.2.1⟩ (by omega) (fun _ => id0 _) (fun z2 => absurd z2 z)
    · have n := z.1
      rw [wl] at n
      have ys := wy_snoc I a (cs a) (100 + b)
      rw [if_pos (by omega), show 100 + b - 100 = b from by omega] at ys
      have ft : ∀ k, 37 ≤ k → ads (cmC (kpC I)) a (100 + b) k = I k := fun k hk => by
        rw [ads_f (by omega) (by omega), cmC_f (by omega), kpC_f (by omega)]
      have tw := TW_s (x := lastS (hm I a) (wy I a (cs a))) (m := b) (TW_fr e2 (fun k k1 k2 => ft k (by omega)))
      rw [← ys] at tw
      obtain ⟨D1, D2, D3, D4⟩ := cl_step (x := 100 + b) hw0 b1.2 a0 a1 n (fun k hk => sty_f (by omega)) tw
      have hf57 : ∀ k, 57 ≤ k → sty (ads (cmC (kpC I)) a (100 + b)) (37 + 5 * a.toNat) b k = I k := fun k hk => D1.1 k (by omega) (by omega) (by omega) (by omega)
      revert D1 D2 D3 D4 hf57
      generalize sty (ads (cmC (kpC I)) a (100 + b)) (37 + 5 * a.toNat) b = I1
      intro D1 D2 D3 D4 hf57
      have f518 := hf57 518 (by decide)
      have f522 := hf57 522 (by decide)
      have f489 := hf57 489 (by decide)
      have hcI := CN_fr hc0 (D1.1 2 (by decide) (by decide) (by decide) (by decide)) f518
      have sl := SL_fr a0 (w2 a a0 a1) (hf57 532 (by decide)) (hf57 533 (by decide)) (hf57 534 (by decide)) (hf57 535 (by decide))
      have M := mo_step (x := 100 + b) hw0 b1.2 hf57 a0 a1 n ys
      have V := VSn_upd w3 (OkW_s ok n (x := 100 + b) (by omega) (by omega) (by have := z.2; omega))
      obtain ⟨R1, R2⟩ := WRel_mk b1.2 D1 M V (VSn_take w3 w7)
      refine c11_rest hcI a0 (by rw [f518]; exact a1) (by omega) (by omega) sl (by rw [wl]; exact ok.2.1) ⟨ge, ok.2.2⟩ (by rw [f489]; exact ⟨w6.2.2.1, w6.2.2.2.1⟩) (by rw [f489]; omega) (fun z2 => absurd z z2) (fun z2 => ?_)
      rw [hm_fr f522]
      refine h _ _ _ _ R1 R2 ⟨Or.inl ?_, Or.inr ⟨?_, ?_⟩, Or.inr ⟨?_, ?_⟩⟩
      · rw [M.1 32 (by decide) (by decide)]
        exact D2
      · rw [M.1 32 (by decide) (by decide)]
        exact D3
      · exact M.2.2.2.2.1
      · rw [M.1 32 (by decide) (by decide)]
        exact D4
      · exact M.2.2.2.2.2
  · refine bk_X11_rest_0 ?_
    (repeat' (with_reducible first | refine And.intro ?_ ?_ | intro _ | refine PI_i ?_ | refine PV_i ?_ | refine PL_i ?_ | apply c11_isSaint | apply b1 | apply c11_isIn)) <;> first | omega | exact id0 _
theorem op_clear {a : Int} (hc : CN I) (hs : CSa I) (hl : CLa I) (hw : WRel I cs H) (h : ∀ x I' cs' H', WRel I' cs' H' → WFr I I' → WCh I I' cs cs' → K2 x x I') : CI mX10_clear (d + 5) [vR 0, vI a] I (fun x1 I1 => CI mX11_clear (d + 5) [vR 489, vI a] I1 (K2 x1)) := by
  have id0 : ∀ x, K2 x x I := fun x => h x I cs H hw (WFr_rfl I) (WCh_rfl I cs)
  have hw0 := hw
  have hc0 := hc
  obtain ⟨⟨c0, c1, c2, c3, c4⟩, b0, b1, b2, b3, b4⟩ := hc
  obtain ⟨w1, w2, w3, w4, w5, w6, w7⟩ := hw
  refine bk_X10_clear_0 (c10_isSaint (fun a0 a1 => ⟨fun q => by omega, fun _ => ?_⟩) (fun q => ⟨fun _ => PI_i ?_, fun q => by omega⟩))
  · rw [c2] at a1
    obtain ⟨e1, e2⟩ := w1 a a0 a1
    have ok : OkW I a (cs a) := w3.1 a a0 a1
    have wl := wy_len I a (cs a)
    have en := e1.1
    rw [Nat.zero_add] at en
    have mn := SL_len _ _ (w2 a a0 a1)
    have p1 := w5.1
    have p2 := w5.2.1
    have p3 := w6.1
    refine bk_X9_wipe_0 ⟨by omega, fun q => ?_, fun q => PI_i ⟨fun _ => PI_i ?_, fun q2 => by omega⟩⟩
    · refine c9_keep ⟨w5.2.2.1, w5.2.2.2.1⟩ (by omega) (c9_commit (by rw [kpC_f (by decide)]; exact ⟨w5.2.2.1, w5.2.2.2.1⟩) (by rw [kpC_f (by decide)]; omega) ⟨by omega, fun I3 g3 => ?_⟩)
      have f3 : ∀ k, k ≠ 32 → k ≠ 33 → k ≠ 35 → I3 k = I k := fun k k1 k2 k3 => by
        rw [g3, up_k k2, cmC_f k1, kpC_f k3]
      have f518 := f3 518 (by decide) (by decide) (by decide)
      have f521 := f3 521 (by decide) (by decide) (by decide)
      have f522 := f3 522 (by decide) (by decide) (by decide)
      have o33 : ∀ j, j ≠ a.toNat → I3 33 j = I 33 j := fun j hj => by
        rw [g3, up_j hj, cmC_f (by decide), kpC_f (by decide)]
      have z33 : I3 33 a.toNat = 0 := by rw [g3, up_e]
      have hE3 : EC (I3 33) 0 a [] := ⟨by rw [Nat.zero_add, z33]; rfl, fun k hk => by simp at hk⟩
      refine c9_replay (CN_fr hc0 (f3 2 (by decide) (by decide) (by decide)) f518) (CSa_fr hs (f3 7 (by decide) (by decide) (by decide)) f518 f522) (CLa_fr hl (f3 6 (by decide) (by decide) (by decide)) (f3 12 (by decide) (by decide) (by decide)) f518 f521) a0 (by rw [f518]; exact a1) hE3 (OkW_nil I3 a) (fun I4 g4 tw I5 g5 => PI_i ⟨fun q2 => by omega, fun _ => PI_i ?_⟩)
      rw [wy_nil, hm_fr f522] at tw
      have fr : ∀ k, k ≠ 32 → k ≠ 33 → k ≠ 35 → (k < 37 + 5 * a.toNat ∨ 41 + 5 * a.toNat < k) → I5 k = I k := fun k k1 k2 k3 k4 => by
        rw [g5, up_k k1, g4 k k4, f3 k k1 k2 k3]
      have r32 : ∀ j, j ≠ 7 → I5 32 j = cmC (kpC I) 32 j := fun j hj => by
        rw [g5, up_j hj, g4 32 (by omega), g3, up_k (by decide)]
      have r35 : I5 35 = cmC (kpC I) 35 := by
        rw [g5, up_k (by decide), g4 35 (by omega), g3, up_k (by decide)]
      have r33 : I5 33 = I3 33 := by rw [g5, up_k (by decide), g4 33 (by omega)]
      have D1 : ClD I I5 (uw cs a []) (I 489 63) (I 489 64) (((cs, I 489 63, I 489 64) :: H).take 20) := by
        refine ⟨fun k k1 k2 k3 k4 => fr k k1 k2 k3 (by omega), ?_, ?_, ?_, ?_⟩
        · refine ClW_put w1 (fun u u0 u1 => (w3.1 u u0 u1).2.1) b1.2 (fr 518 (by decide) (by decide) (by decide) (by omega)) (fr 521 (by decide) (by decide) (by decide) (by omega)) (fr 522 (by decide) (by decide) (by decide) (by omega)) (fun u u0 u1 ne => ⟨by rw [r33, o33 _ (by omega)], fun k hk => by rw [r33, o33 _ (by omega)]⟩) a0 (fun k k1 k2 k3 => fr k (by omega) (by omega) (by omega) k3) (by rw [r33]; exact hE3) ?_
          exact TW_fr tw (fun k k1 k2 => by rw [g5, up_k (by omega)])
        · exact cl_push hw0 b1.2 (r32 5 (by decide)) (r32 6 (by decide)) r35 (fr 518 (by decide) (by decide) (by decide) (by omega))
        · rw [r33, o33 _ (by omega)]
          exact w4.1
        · rw [r33, o33 _ (by omega)]
          exact w4.2
      have hf57 : ∀ k, 57 ≤ k → I5 k = I k := fun k hk => fr k (by omega) (by omega) (by omega) (by omega)
      have h7 : I5 32 7 = 1 := by rw [g5, up_e]
      have h8 : I5 32 8 = I 32 8 := by rw [r32 8 (by decide), cmC_j (by decide) (by decide), kpC_f (by decide)]
      have h9 : I5 32 9 = I 32 9 := by rw [r32 9 (by decide), cmC_j (by decide) (by decide), kpC_f (by decide)]
      have m518 := hf57 518 (by decide)
      have m521 := hf57 521 (by decide)
      have m522 := hf57 522 (by decide)
      have m489 := hf57 489 (by decide)
      obtain ⟨A1, A2, A3⟩ := mo_push hw0 b1.2 hf57
      have k518 : kas (rmb I5) 518 = I5 518 := kr_f (by decide) (by decide)
      have k521 : kas (rmb I5) 521 = I5 521 := kr_f (by decide) (by decide)
      have k522 : kas (rmb I5) 522 = I5 522 := kr_f (by decide) (by decide)
      refine bk_X11_clear_0 (c11_isSaint (by rw [m518]; exact b1) (fun _ _ => ⟨fun q => by omega, fun _ => ⟨by omega, fun _ => ?_, fun q2 => ?_⟩⟩) (fun q => by rw [m518] at q; omega))
      · refine c11_keeps (by rw [m489]; exact ⟨w6.2.2.1, w6.2.2.2.1⟩) (by rw [m489]; omega) ⟨by omega, fun I6 g6 => PI_i ?_⟩
        have M : MoD I5 I6 (uw cs a []) (I 489 63) (I 489 64) (((cs, I 489 63, I 489 64) :: H).take 20) := by
          have f6 : ∀ k, k ≠ 532 → I6 k = kas (rmb I5) k := fun k hk => by rw [g6, up_k hk]
          refine ⟨fun k k1 k2 => by rw [f6 k (by omega), kr_f k1 (by omega)], fun j j1 j2 j3 j4 => by rw [f6 489 (by decide), kr_j j4 j3], ?_, ?_, ?_, ?_⟩
          · refine MoW_put A3 (fun u u0 u1 => ?_) (by rw [k518, m518]; exact b1.2) (f6 518 (by decide)) (f6 521 (by decide)) (f6 522 (by decide)) (fun u u1 u2 => ⟨by rw [g6, up_j u2], fun k hk => ⟨by rw [f6 533 (by decide)], by rw [f6 534 (by decide)], by rw [f6 535 (by decide)]⟩⟩) a0 ?_
            · rw [wy_len]
              exact (w3.1 u u0 (by rw [k518, m518] at u1; exact u1)).2.1
            · show (0 : Int) = I6 532 a.toNat
              rw [g6, up_e]
          · exact MoH_fr A2 (f6 518 (by decide)) (f6 521 (by decide)) (f6 522 (by decide)) (by rw [f6 489 (by decide)]) (by rw [f6 489 (by decide)]) (fun k k1 k2 => f6 k (by omega))
          · rw [f6 489 (by decide), kr_j (by decide) (by decide), m489]
          · rw [f6 489 (by decide), kr_j (by decide) (by decide), m489]
        obtain ⟨R1, R2⟩ := WRel_mk b1.2 D1 M (VSn_upd w3 (OkW_nil I a)) (VSn_take w3 w7)
        refine h _ _ _ _ R1 R2 ⟨Or.inl ?_, Or.inr ⟨?_, ?_⟩, Or.inr ⟨?_, ?_⟩⟩
        · rw [M.1 32 (by decide) (by decide)]
          exact h7
        · rw [M.1 32 (by decide) (by decide)]
          exact h8
        · exact M.2.2.2.2.1
        · rw [M.1 32 (by decide) (by decide)]
          exact h9
        · exact M.2.2.2.2.2
      · rw [hf57 532 (by decide)] at q2
        omega
    · refine bk_X11_clear_0 (c11_isSaint b1 (fun _ _ => ⟨fun q => by omega, fun _ => ⟨by omega, fun q2 => by omega, fun _ => PI_i (id0 _)⟩⟩) (fun q => by omega))
  · refine bk_X11_clear_0 (c11_isSaint b1 (fun _ _ => by omega) (fun q => ⟨fun _ => PI_i (id0 _), fun q => by omega⟩))
theorem op_but {a : Int} (hc : CN I) (hw : WRel I cs H) (h : ∀ x I' cs' H', WRel I' cs' H' → WFr I I' → WCh I I' cs cs' → K2 x x I') : CI mX10_but (d + 5) [vR 0, vI a] I (fun x1 I1 => CI mX11_but (d + 5) [vR 489, vI a] I1 (K2 x1)) := by
  have id0 : ∀ x, K2 x x I := fun x => h x I cs H hw (WFr_rfl I) (WCh_rfl I cs)
  have hw0 := hw
  obtain ⟨⟨c0, c1, c2, c3, c4⟩, b0, b1, b2, b3, b4⟩ := hc
  obtain ⟨w1, w2, w3, w4, w5, w6, w7⟩ := hw
  have p := p2_le b4.1 b4.2
  have p1 := w5.1
  have p2 := w5.2.1
  have p3 := w6.1
  have no : (a < 0 ∨ oSl 1 (I 518 9) ≤ a) → CI mX11_but (d + 5) [vR 489, vI a] I (K2 0) := fun q => by
    refine bk_X11_but_0 (c11_exceptions ⟨by omega, c11_isIn (fun _ _ => by omega) (fun _ => ⟨fun _ => PI_i (id0 _), fun q => by omega⟩)⟩)
  refine bk_X10_but_0 ⟨fun q => PI_i (no (Or.inl q)), fun q0 => ⟨fun q => PI_i (no (Or.inr (by rw [← c4]; exact q))), fun q1 => ?_⟩⟩
  rw [c4] at q1
  refine bk_X9_soften_0 ⟨fun q => ?_, fun q => PI_i ⟨fun _ => PI_i ?_, fun q => by omega⟩⟩
  · refine c9_keep ⟨w5.2.2.1, w5.2.2.2.1⟩ (by omega) (c9_commit (by rw [kpC_f (by decide)]; exact ⟨w5.2.2.1, w5.2.2.2.1⟩) (by rw [kpC_f (by decide)]; omega) (fun I3 g3 I4 g4 => PI_i ⟨fun q2 => by omega, fun _ => PI_i ?_⟩))
    have b33 : cmC (kpC I) 33 = I 33 := by rw [cmC_f (by decide), kpC_f (by decide)]
    have o33 : ∀ j, j ≠ 101 → I4 33 j = I 33 j := fun j hj => by
      rw [g4, up_k (by decide), g3, up_j hj, b33]
    have f4 : ∀ k, k ≠ 32 → k ≠ 33 → I4 k = cmC (kpC I) k := fun k k1 k2 => by
      rw [g4, up_k k1, g3, up_k k2]
    have r32 : ∀ j, j ≠ 9 → I4 32 j = cmC (kpC I) 32 j := fun j hj => by
      rw [g4, up_j hj, g3, up_k (by decide)]
    have e101 : I4 33 101 = a := by rw [g4, up_k (by decide), g3, up_e]
    have D1 := cl_set hw0 b1.2 f4 (fun j hj => o33 j (by omega)) (r32 5 (by decide)) (r32 6 (by decide))
    rw [e101, o33 100 (by decide), w4.1] at D1
    have hf57 : ∀ k, 57 ≤ k → I4 k = I k := fun k hk => D1.1 k (by omega) (by omega) (by omega) (by omega)
    have m518 := hf57 518 (by decide)
    have m489 := hf57 489 (by decide)
    refine bk_X11_but_0 (c11_exceptions ?_)
    rw [m518]
    refine ⟨by omega, c11_isIn (fun _ _ => ⟨fun q => by omega, fun _ => ?_⟩) (fun q => by omega)⟩
    rw [m489]
    refine ⟨fun _ => ?_, fun q2 => by omega⟩
    refine c11_keeps (by rw [m489]; exact ⟨w6.2.2.1, w6.2.2.2.1⟩) (by rw [m489]; omega) (fun I6 g6 => PI_i ?_)
    have M := mo_set hw0 b1.2 hf57 (I2 := I6) (fun k hk => by rw [g6, up_k hk]) (fun j j1 j2 => by rw [g6, up_j j2])
    have e64 : I6 489 64 = a := by rw [g6, up_e]
    have e63 : I6 489 63 = I 489 63 := by rw [g6, up_j (by decide), kr_j (by decide) (by decide), m489]
    rw [e63, e64] at M
    obtain ⟨R1, R2⟩ := WRel_mk b1.2 D1 M ⟨w3.1, w3.2.1, by show 0 ≤ a ∧ a < oSl 1 (I 518 9); omega⟩ (VSn_take w3 w7)
    refine h _ _ _ _ R1 R2 ⟨Or.inr ⟨?_, rfl, fun k k1 k2 => ?_⟩, Or.inr ⟨?_, ?_⟩, Or.inl ?_⟩
    · rw [M.1 32 (by decide) (by decide), r32 7 (by decide), cmC_j (by decide) (by decide), kpC_f (by decide)]
    · rw [M.1 k (by omega) (by omega), f4 k (by omega) (by omega), cmC_f (by omega), kpC_f (by omega)]
    · rw [M.1 32 (by decide) (by decide), r32 8 (by decide), cmC_j (by decide) (by decide), kpC_f (by decide)]
    · exact M.2.2.2.2.1
    · rw [M.1 32 (by decide) (by decide), g4, up_e]
  · refine bk_X11_but_0 (c11_exceptions ⟨by omega, c11_isIn (fun _ _ => ⟨fun q => by omega, fun _ => ⟨fun q2 => by omega, fun _ => PI_i (id0 _)⟩⟩) (fun q => by omega)⟩)
theorem op_shut {a z : Int} (hz : z = 0 ∨ z = 1) (hc : CN I) (hw : WRel I cs H) (h : ∀ x I' cs' H', WRel I' cs' H' → WFr I I' → WCh I I' cs cs' → K2 x x I') : CI mX10_shut (d + 5) [vR 0, vI a, vI z] I (fun x1 I1 => CI mX11_shut (d + 5) [vR 489, vI a, vI z] I1 (K2 x1)) := by
  have id0 : ∀ x, K2 x x I := fun x => h x I cs H hw (WFr_rfl I) (WCh_rfl I cs)
  have hw0 := hw
  obtain ⟨⟨c0, c1, c2, c3, c4⟩, b0, b1, b2, b3, b4⟩ := hc
  obtain ⟨w1, w2, w3, w4, w5, w6, w7⟩ := hw
  have p1 := w5.1
  have p2 := w5.2.1
  have p3 := w6.1
  have sr := w3.2.1
  change 0 ≤ I 489 63 ∧ I 489 63 < 65536 at sr
  refine bk_X10_shut_0 (c10_isLane (fun a0 a1 => ⟨fun q => by omega, fun _ => ?_⟩) (fun q => ⟨fun _ => PI_i ?_, fun q => by omega⟩))
  · rw [c1] at a1
    have b01 := sb_01 (x := I 489 63) (k := a) sr.1 (by omega) a0 (by omega)
    have pr := p2_rng (k := a) 16 (by omega) a0 (by omega)
    have xr := xor_rng 16 (by omega) (x := I 489 63) (y := oSl 1 a) sr.1 (by omega) (by omega) pr.2
    have same : oA (oSr (I 489 63) a) 1 = z → CI mX11_shut (d + 5) [vR 489, vI a, vI z] I (K2 0) := fun q => by
      refine bk_X11_shut_0 (c11_isLane b2 (fun _ _ => ⟨fun q => by omega, fun _ => c11_isShut (fun q2 => ⟨fun q3 => by omega, fun _ => PI_i (id0 _)⟩) (fun q2 => ⟨fun q3 => by omega, fun _ => PI_i (id0 _)⟩)⟩) (fun q => by omega))
    have diff : oA (oSr (I 489 63) a) 1 ≠ z → ∀ (I3 : HI), I3 = up (cmC (kpC I)) 33 100 (oX (cmC (kpC I) 33 100) (oSl 1 a)) → ∀ (I4 : HI), I4 = up I3 32 8 1 → CI mX11_shut (d + 5) [vR 489, vI a, vI z] I4 (K2 1) := fun q I3 g3 I4 g4 => by
      have b33 : cmC (kpC I) 33 = I 33 := by rw [cmC_f (by decide), kpC_f (by decide)]
      have o33 : ∀ j, j ≠ 100 → I4 33 j = I 33 j := fun j hj => by
        rw [g4, up_k (by decide), g3, up_j hj, b33]
      have f4 : ∀ k, k ≠ 32 → k ≠ 33 → I4 k = cmC (kpC I) k := fun k k1 k2 => by
        rw [g4, up_k k1, g3, up_k k2]
      have r32 : ∀ j, j ≠ 8 → I4 32 j = cmC (kpC I) 32 j := fun j hj => by
        rw [g4, up_j hj, g3, up_k (by decide)]
      have e100 : I4 33 100 = oX (I 489 63) (oSl 1 a) := by rw [g4, up_k (by decide), g3, up_e, b33, w4.1]
      have D1 := cl_set hw0 b1.2 f4 (fun j hj => o33 j (by omega)) (r32 5 (by decide)) (r32 6 (by decide))
      rw [e100, o33 101 (by decide), w4.2] at D1
      have hf57 : ∀ k, 57 ≤ k → I4 k = I k := fun k hk => D1.1 k (by omega) (by omega) (by omega) (by omega)
      have m518 := hf57 518 (by decide)
      have m489 := hf57 489 (by decide)
      have fin : ∀ I6 : HI, I6 = up (kas (rmb I4)) 489 63 (oX (I 489 63) (oSl 1 a)) → K2 1 1 I6 := fun I6 g6 => by
        have M := mo_set hw0 b1.2 hf57 (I2 := I6) (fun k hk => by rw [g6, up_k hk]) (fun j j1 j2 => by rw [g6, up_j j1])
        have e63 : I6 489 63 = oX (I 489 63) (oSl 1 a) := by rw [g6, up_e]
        have e64 : I6 489 64 = I 489 64 := by rw [g6, up_j (by decide), kr_j (by decide) (by decide), m489]
        rw [e63, e64] at M
        obtain ⟨R1, R2⟩ := WRel_mk b1.2 D1 M ⟨w3.1, ⟨xr.1, by have := xr.2; show oX (I 489 63) (oSl 1 a) < 65536; omega⟩, w3.2.2⟩ (VSn_take w3 w7)
        refine h _ _ _ _ R1 R2 ⟨Or.inr ⟨?_, rfl, fun k k1 k2 => ?_⟩, Or.inl ?_, Or.inr ⟨?_, ?_⟩⟩
        · rw [M.1 32 (by decide) (by decide), r32 7 (by decide), cmC_j (by decide) (by decide), kpC_f (by decide)]
        · rw [M.1 k (by omega) (by omega), f4 k (by omega) (by omega), cmC_f (by omega), kpC_f (by omega)]
        · rw [M.1 32 (by decide) (by decide), g4, up_e]
        · rw [M.1 32 (by decide) (by decide), r32 9 (by decide), cmC_j (by decide) (by decide), kpC_f (by decide)]
        · exact M.2.2.2.2.2
      have e63k : kas (rmb I4) 489 63 = I 489 63 := by rw [kr_j (by decide) (by decide), m489]
      refine bk_X11_shut_0 (c11_isLane (by rw [m518]; exact b2) (fun _ _ => ⟨fun q => by omega, fun _ => c11_isShut (fun q2 => ?_) (fun q2 => ?_)⟩) (fun q => by rw [m518] at q; omega))
      · rw [m489] at q2
        refine ⟨fun q3 => c11_keeps (by rw [m489]; exact ⟨w6.2.2.1, w6.2.2.2.1⟩) (by rw [m489]; omega) ?_, fun q3 => by omega⟩
        rw [e63k]
        refine ⟨fun q4 => by omega, fun _ I6 g6 => PI_i (fin I6 ?_)⟩
        rw [g6, xor_or sr.1 sr.2 a0 (by omega) (by omega)]
      · rw [m489] at q2
        refine ⟨fun q3 => c11_keeps (by rw [m489]; exact ⟨w6.2.2.1, w6.2.2.2.1⟩) (by rw [m489]; omega) ?_, fun q3 => by omega⟩
        rw [e63k]
        refine ⟨fun _ I6 g6 => PI_i (fin I6 ?_), fun q4 => by omega⟩
        rw [g6, xor_ant sr.1 sr.2 a0 (by omega) (by omega)]
    have kc : (∀ (I3 : HI), I3 = up (cmC (kpC I)) 33 100 (oX (cmC (kpC I) 33 100) (oSl 1 a)) → ∀ (I4 : HI), I4 = up I3 32 8 1 → CI mX11_shut (d + 5) [vR 489, vI a, vI z] I4 (K2 1)) → True := fun _ => trivial
    refine bk_X9_bar_0 ?_
    rw [w4.1]
    refine ⟨fun q => ⟨fun q2 => ?_, fun q2 => PI_i ⟨fun _ => PI_i (same (by omega)), fun q3 => by omega⟩⟩, fun q => ⟨fun q2 => ?_, fun q2 => PI_i ⟨fun _ => PI_i (same (by omega)), fun q3 => by omega⟩⟩⟩
    · refine c9_keep ⟨w5.2.2.1, w5.2.2.2.1⟩ (by omega) (c9_commit (by rw [kpC_f (by decide)]; exact ⟨w5.2.2.1, w5.2.2.2.1⟩) (by rw [kpC_f (by decide)]; omega) (fun I3 g3 I4 g4 => PI_i ⟨fun q2 => by omega, fun _ => PI_i (diff (by omega) I3 g3 I4 g4)⟩))
    · refine c9_keep ⟨w5.2.2.1, w5.2.2.2.1⟩ (by omega) (c9_commit (by rw [kpC_f (by decide)]; exact ⟨w5.2.2.1, w5.2.2.2.1⟩) (by rw [kpC_f (by decide)]; omega) (fun I3 g3 I4 g4 => PI_i ⟨fun q2 => by omega, fun _ => PI_i (diff (by omega) I3 g3 I4 g4)⟩))
  · refine bk_X11_shut_0 (c11_isLane b2 (fun _ _ => by omega) (fun q => ⟨fun _ => PI_i (id0 _), fun q => by omega⟩))
theorem op_undo (hc : CN I) (hs : CSa I) (hl : CLa I) (hw : WRel I cs H) (h : ∀ x I' cs' H', WRel I' cs' H' → WFr I I' → WCh I I' cs cs' → K2 x x I') : CI mX10_undo (d + 5) [vR 0] I (fun x1 I1 => CI mX11_undo (d + 5) [vR 489] I1 (K2 x1)) := by
  have id0 : ∀ x, K2 x x I := fun x => h x I cs H hw (WFr_rfl I) (WCh_rfl I cs)
  have hw0 := hw
  have hc0 := hc
  obtain ⟨⟨c0, c1, c2, c3, c4⟩, b0, b1, b2, b3, b4⟩ := hc
  obtain ⟨w1, w2, w3, w4, w5, w6, w7⟩ := hw
  have p1 := w5.1
  have p2 := w5.2.1
  have p4 := w5.2.2
  have p3 := w6.1
  have p5 := w6.2.2
  refine bk_X10_undo_0 (bk_X9_revert_0 ⟨fun q => ⟨by omega, fun I1 g1 => ?_⟩, fun q => PI_i ⟨Or.inl rfl, PI_i (c11_undo ⟨p5.1, p5.2.1⟩ (by omega) (fun _ => id0 _) (fun q2 => by omega))⟩⟩)
  have e5 : I1 32 5 = I 32 5 := by rw [g1, up_j (by decide)]
  have e6 : I1 32 6 = I 32 6 - 1 := by rw [g1, up_e]
  have em : oM (I1 32 5 + I1 32 6) 21 = (I 32 5 + I 32 6 + 20) % 21 := by
    rw [e5, e6, oM_mod (by omega) (by omega) (by omega) (by omega)]
    omega
  rw [em, e5, e6]
  refine ⟨by omega, by omega, by omega, fun I2 g2 => ?_⟩
  have g2' : I2 = rvC I := by
    rw [g2, g1]
    unfold rvC
    congr 1
    omega
  cases H with
  | nil =>
    simp at p1
    omega
  | cons x H =>
    have vx := w7 x List.mem_cons_self
    obtain ⟨P1, P2, P3, P4⟩ := ClH_pop w5 b1.2 (fun s s0 s1 => (vx.1 s s0 s1).2.1)
    obtain ⟨M1, M2, M3, M4⟩ := MoH_pop w6 b1.2 (fun s s0 s1 => by rw [wy_len]; exact (vx.1 s s0 s1).2.1)
    have f : ∀ k, k ≠ 32 → k ≠ 33 → rvC I k = I k := fun k k1 k2 => rvC_f k1 k2
    have f518 := f 518 (by decide) (by decide)
    have f521 := f 521 (by decide) (by decide)
    have f522 := f 522 (by decide) (by decide)
    rw [g2']
    refine c9_replayAll (cs := x.1) (CN_fr hc0 (f 2 (by decide) (by decide)) f518) (CSa_fr hs (f 7 (by decide) (by decide)) f518 f522) (CLa_fr hl (f 6 (by decide) (by decide)) (f 12 (by decide) (by decide)) f518 f521) (fun s s0 s1 => P4 s s0 (by rw [f518] at s1; exact s1)) (fun s s0 s1 => OkW_fr f518 f521 f522 (vx.1 s s0 (by rw [f518] at s1; exact s1))) (fun I3 r1 r2 r3 r4 r5 r6 => PI_i ⟨Or.inr rfl, PI_i ?_⟩)
    have fr : ∀ k, k ≠ 32 → k ≠ 33 → (k < 37 ∨ 56 < k) → I3 k = I k := fun k k1 k2 k3 => by
      rw [r1 k k1 k3, f k k1 k2]
    have m518 := fr 518 (by decide) (by decide) (by decide)
    have m521 := fr 521 (by decide) (by decide) (by decide)
    have m522 := fr 522 (by decide) (by decide) (by decide)
    have m489 := fr 489 (by decide) (by decide) (by decide)
    have n33 : I3 33 = rvC I 33 := r1 33 (by decide) (by decide)
    have D1 : ClD I I3 x.1 x.2.1 x.2.2 H := by
      refine ⟨fun k k1 k2 k3 k4 => fr k k1 k2 k4, fun s s0 s1 => ?_, ?_, ?_, ?_⟩
      · rw [m518] at s1
        have t := r6 s s0 (by rw [f518]; exact s1)
        rw [wy_fr f518 f521 f522, hm_fr f522] at t
        rw [wy_fr m518 m521 m522, hm_fr m522, n33]
        exact ⟨P4 s s0 s1, t⟩
      · exact ClH_fr P1 (by rw [m518, f518]) (r2 5 (by decide) (by decide) (by decide)) (r2 6 (by decide) (by decide) (by decide)) (r1 35 (by decide) (by decide))
      · rw [n33]
        exact P2
      · rw [n33]
        exact P3
    have hf57 : ∀ k, 57 ≤ k → I3 k = I k := fun k hk => fr k (by omega) (by omega) (by omega)
    have w6' : MoH I3 (x :: H) := MoH_fr w6 m518 m521 m522 (by rw [m489]) (by rw [m489]) (fun k k1 k2 => hf57 k (by omega))
    obtain ⟨N1, N2, N3, N4⟩ := MoH_pop w6' (by rw [m518]; exact b1.2) (fun s s0 s1 => by rw [wy_len]; exact (vx.1 s s0 (by rw [m518] at s1; exact s1)).2.1)
    have M : MoD I3 (und I3) x.1 x.2.1 x.2.2 H := ⟨fun k k1 k2 => und_f k1 (by omega), fun j j1 j2 j3 j4 => und_j j1 j2 j3 j4, N4, N1, N2, N3⟩
    obtain ⟨R1, R2⟩ := WRel_mk b1.2 D1 M vx (fun y hy => w7 y (List.mem_cons_of_mem _ hy))
    refine c11_undo (by rw [m489]; exact ⟨p5.1, p5.2.1⟩) (by rw [m489]; omega) (fun q2 => by rw [m489] at q2; omega) (fun _ => ?_)
    refine h _ _ _ _ R1 R2 ⟨Or.inl ?_, Or.inl ?_, Or.inl ?_⟩
    · rw [M.1 32 (by decide) (by decide)]
      exact r3
    · rw [M.1 32 (by decide) (by decide)]
      exact r4
    · rw [M.1 32 (by decide) (by decide)]
      exact r5
end O3
