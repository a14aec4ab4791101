/-- the ways, what is shut and on, and the past, on both sides -/
def WRel (I : HI) (cs : Int → List Int) (H : List Sn) : Prop := ClW I cs ∧ MoW I cs ∧ VSn I (cs, I 489 63, I 489 64) ∧ (I 33 100 = I 489 63 ∧ I 33 101 = I 489 64) ∧ ClH I H ∧ MoH I H ∧ (∀ x ∈ H, VSn I x)
/-- what an act on the ways leaves as it was -/
def WFr (I I' : HI) : Prop := (∀ k, k ≠ 32 → k ≠ 33 → k ≠ 35 → (k < 37 ∨ 56 < k) → k ≠ 489 → (k < 532 ∨ 545 < k) → I' k = I k) ∧ (∀ j, j ≠ 63 → j ≠ 64 → j ≠ 71 → j ≠ 72 → I' 489 j = I 489 j)
/-- what it tells by its flags -/
def WCh (I I' : HI) (cs cs' : Int → List Int) : Prop := (I' 32 7 = 1 ∨ (I' 32 7 = I 32 7 ∧ cs' = cs ∧ ∀ k, 37 ≤ k → k ≤ 56 → I' k = I k)) ∧ (I' 32 8 = 1 ∨ (I' 32 8 = I 32 8 ∧ I' 489 63 = I 489 63)) ∧ (I' 32 9 = 1 ∨ (I' 32 9 = I 32 9 ∧ I' 489 64 = I 489 64))
theorem WFr_rfl (I : HI) : WFr I I := ⟨fun _ _ _ _ _ _ _ => rfl, fun _ _ _ _ _ => rfl⟩
theorem WCh_rfl (I : HI) (cs : Int → List Int) : WCh I I cs cs := ⟨Or.inr ⟨rfl, rfl, fun _ _ _ => rfl⟩, Or.inr ⟨rfl, rfl⟩, Or.inr ⟨rfl, rfl⟩⟩
def ClD (I I1 : HI) (cs : Int → List Int) (sh on : Int) (H : List Sn) : Prop := (∀ k, k ≠ 32 → k ≠ 33 → k ≠ 35 → (k < 37 ∨ 56 < k) → I1 k = I k) ∧ ClW I1 cs ∧ ClH I1 H ∧ I1 33 100 = sh ∧ I1 33 101 = on
def MoD (I1 I2 : HI) (cs : Int → List Int) (sh on : Int) (H : List Sn) : Prop := (∀ k, k ≠ 489 → (k < 532 ∨ 545 < k) → I2 k = I1 k) ∧ (∀ j, j ≠ 63 → j ≠ 64 → j ≠ 71 → j ≠ 72 → I2 489 j = I1 489 j) ∧ MoW I2 cs ∧ MoH I2 H ∧ I2 489 63 = sh ∧ I2 489 64 = on
theorem WRel_mk {I I1 I2 : HI} {cs : Int → List Int} {sh on : Int} {H : List Sn} (hb : I 518 6 ≤ 4) (c : ClD I I1 cs sh on H) (m : MoD I1 I2 cs sh on H) (v : VSn I (cs, sh, on)) (vh : ∀ x ∈ H, VSn I x) : WRel I2 cs H ∧ WFr I I2 := by
  obtain ⟨c1, c2, c3, c4, c5⟩ := c
  obtain ⟨m1, m2, m3, m4, m5, m6⟩ := m
  have f518 : I2 518 = I1 518 := m1 518 (by decide) (by decide)
  have f521 : I2 521 = I1 521 := m1 521 (by decide) (by decide)
  have f522 : I2 522 = I1 522 := m1 522 (by decide) (by decide)
  have g518 : I1 518 = I 518 := c1 518 (by decide) (by decide) (by decide) (by decide)
  have g521 : I1 521 = I 521 := c1 521 (by decide) (by decide) (by decide) (by decide)
  have g522 : I1 522 = I 522 := c1 522 (by decide) (by decide) (by decide) (by decide)
  have f33 : I2 33 = I1 33 := m1 33 (by decide) (by decide)
  have f32 : I2 32 = I1 32 := m1 32 (by decide) (by decide)
  refine ⟨⟨ClW_fr c2 f518 f521 f522 f33 (by rw [g518]; exact hb) (fun k k1 k2 => m1 k (by omega) (by omega)), m3, ?_, ?_, ClH_fr c3 f518 (by rw [f32]) (by rw [f32]) (m1 35 (by decide) (by decide)), m4, ?_⟩, ⟨fun k k1 k2 k3 k4 k5 k6 => ?_, fun j j1 j2 j3 j4 => ?_⟩⟩
  · rw [m5, m6]
    exact VSn_fr (by rw [f518, g518]) (by rw [f521, g521]) (by rw [f522, g522]) v
  · rw [f33, m5, m6]
    exact ⟨c4, c5⟩
  · intro x hx
    exact VSn_fr (by rw [f518, g518]) (by rw [f521, g521]) (by rw [f522, g522]) (vh x hx)
  · rw [m1 k k5 k6, c1 k k1 k2 k3 k4]
  · rw [m2 j j1 j2 j3 j4, c1 489 (by decide) (by decide) (by decide) (by decide)]
theorem wy_len (I : HI) (s : Int) (cs : List Int) : (wy I s cs).length = cs.length := run_len I s cs _ 0
theorem SL_fr {I I' : HI} {w : Int} {W : List Sp} (h0 : 0 ≤ w) (h : SL I w 0 W) (e2 : I' 532 = I 532) (e3 : I' 533 = I 533) (e4 : I' 534 = I 534) (e5 : I' 535 = I 535) : SL I' w 0 W := by
  have g := (SL_EW h0).mp h
  rw [← e2, ← e3, ← e4, ← e5] at g
  exact (SL_EW h0).mpr g
theorem kr_f {I : HI} {k : Nat} (h : k ≠ 489) (h1 : k < 536 ∨ 545 < k) : kas (rmb I) k = I k := by
  rw [kas_f h (by omega), rmb_f (by omega)]
theorem kr_j {I : HI} {j : Nat} (h : j ≠ 72) (h1 : j ≠ 71) : kas (rmb I) 489 j = I 489 j := by
  rw [kas_j h h1, rmb_f (by decide)]
theorem kr_m {I : HI} {k : Nat} (h : k ≠ 489) (h1 : k < 532 ∨ 545 < k) : kas (rmb I) k = I k := kr_f h (by omega)
/-- the class's past with the night more -/
theorem cl_push {I I1 : HI} {cs : Int → List Int} {H : List Sn} (hw : WRel I cs H) (hb : I 518 6 ≤ 4) (e5 : I1 32 5 = cmC (kpC I) 32 5) (e6 : I1 32 6 = cmC (kpC I) 32 6) (e35 : I1 35 = cmC (kpC I) 35) (e518 : I1 518 = I 518) : ClH I1 (((cs, I 489 63, I 489 64) :: H).take 20) := by
  obtain ⟨w1, w2, w3, w4, w5, w6, w7⟩ := hw
  have g := ClH_push (cs := cs) w5 hb (fun s s0 s1 => ⟨(w1 s s0 s1).1, (w3.1 s s0 s1).2.1⟩) (fun x hx s s0 s1 => ((w7 x hx).1 s s0 s1).2.1)
  rw [w4.1, w4.2] at g
  exact ClH_fr g (by rw [e518, cmC_f (by decide), kpC_f (by decide)]) e5 e6 e35
/-- the model's past with the night more, and all the rest as it was -/
theorem mo_push {I I1 : HI} {cs : Int → List Int} {H : List Sn} (hw : WRel I cs H) (hb : I 518 6 ≤ 4) (hf : ∀ k, 57 ≤ k → I1 k = I k) : MoW I1 cs ∧ MoH (kas (rmb I1)) (((cs, I 489 63, I 489 64) :: H).take 20) ∧ MoW (kas (rmb I1)) cs := by
  obtain ⟨w1, w2, w3, w4, w5, w6, w7⟩ := hw
  have f518 := hf 518 (by decide)
  have f521 := hf 521 (by decide)
  have f522 := hf 522 (by decide)
  have f489 := hf 489 (by decide)
  have hl : ∀ s : Int, 0 ≤ s → s < I 518 6 → (wy I s (cs s)).length ≤ 24 := fun s s0 s1 => by
    rw [wy_len]
    exact (w3.1 s s0 s1).2.1
  have a1 : MoW I1 cs := MoW_fr w2 f518 f521 f522 hb hl (fun j hj => by rw [hf 532 (by decide)]) (fun j hj => ⟨by rw [hf 533 (by decide)], by rw [hf 534 (by decide)], by rw [hf 535 (by decide)]⟩)
  have a2 : MoH I1 H := MoH_fr w6 f518 f521 f522 (by rw [f489]) (by rw [f489]) (fun k k1 k2 => hf k (by omega))
  have a3 := MoH_push (cs := cs) a2 (by rw [f518]; exact hb) a1 (fun s s0 s1 => by rw [wy_fr f518 f521 f522]; exact hl s s0 (by rw [← f518]; exact s1)) (fun x hx s s0 s1 => by rw [wy_len]; exact ((w7 x hx).1 s s0 (by rw [← f518]; exact s1)).2.1)
  rw [f489] at a3
  refine ⟨a1, a3, ?_⟩
  intro s s0 s1
  rw [kr_f (by decide) (by decide)] at s1
  have g := SL_fr s0 (a1 s s0 s1) (kr_f (I := I1) (k := 532) (by decide) (by decide)) (kr_f (k := 533) (by decide) (by decide)) (kr_f (k := 534) (by decide) (by decide)) (kr_f (k := 535) (by decide) (by decide))
  rw [wy_fr (kr_f (by decide) (by decide)) (kr_f (by decide) (by decide)) (kr_f (by decide) (by decide))]
  exact g
theorem VSn_take {I : HI} {H : List Sn} {x : Sn} (hx : VSn I x) (h : ∀ y ∈ H, VSn I y) : ∀ y ∈ (x :: H).take 20, VSn I y := by
  intro y hy
  rcases List.mem_cons.mp (List.mem_of_mem_take hy) with e | e
  · rw [e]
    exact hx
  · exact h y e
theorem OkW_w {I : HI} {s x : Int} {cs : List Int} (h : OkW I s cs) (hl : cs.length < 24) (x0 : 0 ≤ x) (x1 : x < I 518 5) (hb : I 518 5 ≤ 10) (hn : laneM I (lastS (hm I s) (wy I s cs)) x ≠ -1) (he : endS 0 (wy I s cs) + miM I s (laneM I (lastS (hm I s) (wy I s cs)) x) ≤ 999) : OkW I s (cs ++ [x]) := by
  refine ⟨(okC_app I s [x] cs (hm I s) 0).mpr ⟨h.1, ?_⟩, by simp; omega, ?_⟩
  · unfold okC
    rw [if_neg (by omega)]
    exact ⟨⟨x0, x1, hn⟩, trivial⟩
  · rw [wy_snoc, endS_app, if_neg (by omega)]
    exact he
theorem OkW_s {I : HI} {s x : Int} {cs : List Int} (h : OkW I s cs) (hl : cs.length < 24) (x0 : 100 < x) (x1 : x ≤ 130) (he : endS 0 (wy I s cs) + (x - 100) ≤ 999) : OkW I s (cs ++ [x]) := by
  refine ⟨(okC_app I s [x] cs (hm I s) 0).mpr ⟨h.1, ?_⟩, by simp; omega, ?_⟩
  · unfold okC
    rw [if_pos (by omega)]
    exact ⟨x1, trivial⟩
  · rw [wy_snoc, endS_app, if_pos (by omega)]
    exact he
theorem VSn_upd {I : HI} {cs : Int → List Int} {s sh on : Int} {v : List Int} (h : VSn I (cs, sh, on)) (hv : OkW I s v) : VSn I (uw cs s v, sh, on) := by
  refine ⟨fun u u0 u1 => ?_, h.2⟩
  by_cases e : u = s
  · subst e
    show OkW I u (uw cs u v u)
    rw [uw_e]
    exact hv
  · show OkW I u (uw cs s v u)
    rw [uw_n cs v e]
    exact h.1 u u0 u1
/-- the class with a code more -/
theorem cl_step {I I1 : HI} {cs : Int → List Int} {H : List Sn} {s x : Int} (hw : WRel I cs H) (hb : I 518 6 ≤ 4) (s0 : 0 ≤ s) (s1 : s < I 518 6) (hl : (cs s).length < 24) (hf : ∀ k, (k < 37 + 5 * s.toNat ∨ 41 + 5 * s.toNat < k) → I1 k = ads (cmC (kpC I)) s x k) (ht : TW I1 (37 + 5 * s.toNat) 25 0 (hm I s) (wy I s (cs s ++ [x]))) : ClD I I1 (uw cs s (cs s ++ [x])) (I 489 63) (I 489 64) (((cs, I 489 63, I 489 64) :: H).take 20) ∧ I1 32 7 = 1 ∧ I1 32 8 = I 32 8 ∧ I1 32 9 = I 32 9 := by
  have hw0 := hw
  obtain ⟨w1, w2, w3, w4, w5, w6, w7⟩ := hw
  have fr : ∀ k, k ≠ 32 → k ≠ 33 → k ≠ 35 → (k < 37 + 5 * s.toNat ∨ 41 + 5 * s.toNat < k) → I1 k = I k := fun k k1 k2 k3 k4 => by
    rw [hf k k4, ads_f k1 k2, cmC_f k1, kpC_f k3]
  have f33 : I1 33 = ads (cmC (kpC I)) s x 33 := hf 33 (by omega)
  have b33 : cmC (kpC I) 33 = I 33 := by rw [cmC_f (by decide), kpC_f (by decide)]
  have f32 : I1 32 = ads (cmC (kpC I)) s x 32 := hf 32 (by omega)
  have ec := (w1 s s0 s1).1
  have en := ec.1
  rw [Nat.zero_add] at en
  have e518 : I1 518 = I 518 := fr 518 (by decide) (by decide) (by decide) (by omega)
  have o33 : ∀ j : Nat, j ≠ s.toNat → j ≠ (4 + s * 24 + (cs s).length).toNat → I1 33 j = I 33 j := fun j j1 j2 => by
    rw [f33, ads_33 j1 (by rw [b33, en]; exact j2), b33]
  refine ⟨⟨fun k k1 k2 k3 k4 => fr k k1 k2 k3 (by omega), ?_, ?_, ?_, ?_⟩, ?_, ?_, ?_⟩
  · refine ClW_put w1 (fun u u0 u1 => (w3.1 u u0 u1).2.1) hb e518 (fr 521 (by decide) (by decide) (by decide) (by omega)) (fr 522 (by decide) (by decide) (by decide) (by omega)) (fun u u0 u1 ne => ⟨o33 _ (by omega) (by omega), fun k hk => o33 _ (by omega) (by omega)⟩) s0 (fun k k1 k2 k3 => fr k (by omega) (by omega) (by omega) k3) ?_ ht
    refine EC_snoc ec s0 ?_ ?_ (fun k hk => o33 _ (by omega) (by omega))
    · rw [f33, ads_n, b33, en]
    · have := ads_x (I := cmC (kpC I)) (s := s) (x := x) s0 (by rw [b33, en]; omega)
      rw [b33, en] at this
      rw [f33]
      exact this
  · refine cl_push hw0 hb ?_ ?_ ?_ e518
    · rw [f32, ads_j (by decide)]
    · rw [f32, ads_j (by decide)]
    · rw [hf 35 (by omega), ads_f (by decide) (by decide)]
  · rw [o33 100 (by omega) (by omega)]
    exact w4.1
  · rw [o33 101 (by omega) (by omega)]
    exact w4.2
  · rw [f32, ads_7]
  · rw [f32, ads_j (by decide), cmC_j (by decide) (by decide), kpC_f (by decide)]
  · rw [f32, ads_j (by decide), cmC_j (by decide) (by decide), kpC_f (by decide)]
/-- the model with a step more -/
theorem mo_step {I I1 : HI} {cs : Int → List Int} {H : List Sn} {s x : Int} {y : Sp} (hw : WRel I cs H) (hb : I 518 6 ≤ 4) (hf : ∀ k, 57 ≤ k → I1 k = I k) (s0 : 0 ≤ s) (s1 : s < I 518 6) (hl : (cs s).length < 24) (hy : wy I s (cs s ++ [x]) = wy I s (cs s) ++ [y]) : MoD I1 (trd (kas (rmb I1)) s.toNat (wy I s (cs s)).length y) (uw cs s (cs s ++ [x])) (I 489 63) (I 489 64) (((cs, I 489 63, I 489 64) :: H).take 20) := by
  obtain ⟨a1, a2, a3⟩ := mo_push hw hb hf
  have f518 := hf 518 (by decide)
  have f521 := hf 521 (by decide)
  have f522 := hf 522 (by decide)
  have f489 := hf 489 (by decide)
  have k518 : kas (rmb I1) 518 = I1 518 := kr_f (by decide) (by decide)
  have k521 : kas (rmb I1) 521 = I1 521 := kr_f (by decide) (by decide)
  have k522 : kas (rmb I1) 522 = I1 522 := kr_f (by decide) (by decide)
  have hlen := wy_len I s (cs s)
  have ew : ∀ u v, wy (kas (rmb I1)) u v = wy I u v := fun u v => by rw [wy_fr k518 k521 k522, wy_fr f518 f521 f522]
  have sb : kas (rmb I1) 518 6 = I 518 6 := by rw [k518, f518]
  have sl := a3 s s0 (by rw [sb]; exact s1)
  rw [ew] at sl
  refine ⟨fun k k1 k2 => ?_, fun j j1 j2 j3 j4 => ?_, ?_, ?_, ?_, ?_⟩
  · rw [trd_f (by omega), kr_f k1 (by omega)]
  · rw [trd_f (by decide), kr_j (by omega) (by omega)]
  · refine MoW_put a3 (fun u u0 u1 => ?_) (by rw [sb]; exact hb) (trd_f (by decide)) (trd_f (by decide)) (trd_f (by decide)) (fun u u1 u2 => ⟨trd_532 (by omega), fun k hk => trd_533 (by omega)⟩) s0 ?_
    · rw [ew, wy_len]
      exact (hw.2.2.1.1 u u0 (by rw [← sb]; exact u1)).2.1
    · rw [ew, hy]
      exact SL_trd s0 sl
  · refine MoH_fr a2 (trd_f (by decide)) (trd_f (by decide)) (trd_f (by decide)) (by rw [trd_f (by decide)]) (by rw [trd_f (by decide)]) (fun k k1 k2 => trd_f (by omega))
  · rw [trd_f (by decide), kr_j (by decide) (by decide), f489]
  · rw [trd_f (by decide), kr_j (by decide) (by decide), f489]
/-- whether a saint with the way W can go to a corner -/
def GC (I : HI) (W : List Sp) (s b : Int) : Prop := W.length < 24 ∧ laneM I (lastS (hm I s) W) b ≠ -1 ∧ oA (oSr (I 489 63) (laneM I (lastS (hm I s) W) b)) 1 = 0 ∧ endS 0 W + miM I s (laneM I (lastS (hm I s) W) b) ≤ 999
theorem GC_fr {I I1 : HI} {W : List Sp} {s b : Int} (h1 : I1 518 = I 518) (h2 : I1 521 = I 521) (h3 : I1 522 = I 522) (h4 : I1 489 = I 489) : GC I1 W s b ↔ GC I W s b := by
  unfold GC
  rw [laneM_fr h1 h2, miM_fr h2 h3, hm_fr h3, h4]
theorem sb_01 {x k : Int} (hx : 0 ≤ x) (hx1 : x ≤ 2147483647) (hk : 0 ≤ k) (hk1 : k < 32) : oA (oSr x k) 1 = 0 ∨ oA (oSr x k) 1 = 1 := by
  rw [bit_01 hx hx1 hk hk1]
  split
  · exact Or.inr rfl
  · exact Or.inl rfl
section O2
variable {d : Nat} {I : HI} {K : HI → Prop} {KI : Int → HI → Prop} {K2 : Int → Int → HI → Prop} {cs : Int → List Int} {H : List Sn}
theorem c9_walk {s b : Int} {v : List Int} (hc : CN I) (hs : CSa I) (hl : CLa I) (s0 : 0 ≤ s) (s1 : s < I 518 6) (b0 : 0 ≤ b) (b1 : b < I 518 5) (hE : EC (I 33) 0 s v) (hT : TW I (37 + 5 * s.toNat) 25 0 (hm I s) (wy I s v)) (hok : OkW I s v) (hsh : I 33 100 = I 489 63) (h5 : 0 ≤ I 32 5 ∧ I 32 5 < 21) (h6 : 0 ≤ I 32 6 ∧ I 32 6 ≤ 20) (k0 : ¬ GC I (wy I s v) s b → KI (-1) I) (k1 : GC I (wy I s v) s b → KI (endS 0 (wy I s v) + miM I s (laneM I (lastS (hm I s) (wy I s v)) b)) (wkb (ads (cmC (kpC I)) s b) (37 + 5 * s.toNat) (laneM I (lastS (hm I s) (wy I s v)) b) b (miM I s (laneM I (lastS (hm I s) (wy I s v)) b)))) : CI mX9_walk (d + 3) [vR 32, vI s, vI b] I KI := by
  have c20 := hc.1.1
  have n5 := hc.2.1
  have n6 := hc.2.2.1
  have n7 := hc.2.2.2.1
  have en := hE.1
  rw [Nat.zero_add] at en
  have ok := wy_ok hc hs hl s0 s1 hok.1
  have hr := hm_rng hs s0 s1
  have hi := run_in (s := s) v _ 0 hr.1 hr.2 hok.1
  have lr := lastS_in _ _ hr.1 hr.2 hi
  have ge := end_ge _ _ _ ok
  have le := hok.2.2
  have wl := wy_len I s v
  have fin := hT.2.1
  have tp := AL_len _ _ hT.1.2.2.1
  have tl := legs_len (wy I s v) 0
  change 0 ≤ lastS (hm I s) (wy I s v) ∧ lastS (hm I s) (wy I s v) < I 518 5 at lr
  refine bk_X9_walk_0 ⟨by omega, c8_lastCorner hT.1 ?_⟩
  rw [← last_eq _ _ _ ok]
  refine c9_laneTo lr.1 (by omega) (by omega) (fun q => by omega) (fun _ _ => ?_)
  rw [hl.2.2 _ _ lr.1 lr.2 b0 b1]
  refine ⟨by omega, fun q => PI_i (k0 (fun z => by have := z.1; omega)), fun q => ⟨fun q2 => PI_i (k0 (fun z => z.2.1 q2)), fun q2 => ⟨fun q3 => ?_, fun q3 => PI_i (k0 (fun z => q3 (by rw [hsh]; exact z.2.2.1)))⟩⟩⟩
  have ar := laneM_rng (I := I) (by omega) q2
  have mr := miM_rng hs hl s0 s1 ar.1 ar.2
  have me : I 6 (laneM I (lastS (hm I s) (wy I s v)) b * 4 + 2).toNat * I 7 (s * 4 + 1).toNat = miM I s (laneM I (lastS (hm I s) (wy I s v)) b) := by
    rw [hl.1 _ 2 ar.1 ar.2 (by omega) (by omega), hs.1 s 1 s0 s1 (by omega) (by omega)]
    exact (miM_e ar.1).symm
  refine c0_minutesOf s0 (by omega) ar.1 (by omega) (by rw [me]; omega) ?_
  rw [me]
  refine ⟨by omega, fun q4 => ?_, fun q4 => PI_i (k0 (fun z => by have := z.2.2.2; omega))⟩
  refine c9_addStep h5 h6 s0 (by omega) (by omega) (by omega) ?_
  have ft : ads (cmC (kpC I)) s b (37 + 5 * s.toNat) = I (37 + 5 * s.toNat) := by
    rw [ads_f (by omega) (by omega), cmC_f (by omega), kpC_f (by omega)]
  refine c8_walkBy hT.1.1 (by omega) (by rw [ft]; omega) (by rw [ft]; omega) (by rw [ft]; omega) (by omega) (PI_i ?_)
  refine K_eq (k1 ⟨by omega, q2, by rw [← hsh]; exact q3, by omega⟩) ?_
  have e5 : wkb (ads (cmC (kpC I)) s b) (37 + 5 * s.toNat) (laneM I (lastS (hm I s) (wy I s v)) b) b (miM I s (laneM I (lastS (hm I s) (wy I s v)) b)) (37 + 5 * s.toNat) 5 = ads (cmC (kpC I)) s b (37 + 5 * s.toNat) 5 + miM I s (laneM I (lastS (hm I s) (wy I s v)) b) := by simp [wkb, up]
  rw [e5, ft]
  omega
theorem c11_go {s b : Int} {W : List Sp} (hc : CN I) (hs : CSa I) (hl : CLa I) (s0 : 0 ≤ s) (s1 : s < I 518 6) (b0 : 0 ≤ b) (b1 : b < I 518 5) (hS : SL I s 0 W) (wl : W.length ≤ 24) (we : 0 ≤ endS 0 W ∧ endS 0 W ≤ 999) (hsh : 0 ≤ I 489 63 ∧ I 489 63 < 65536) (h5 : 0 ≤ I 489 72 ∧ I 489 72 < 20) (h6 : 0 ≤ I 489 71) (k0 : ¬ GC I W s b → KI (-1) I) (k1 : GC I W s b → KI (endS 0 W + miM I s (laneM I (lastS (hm I s) W) b)) (trd (kas (rmb I)) s.toNat W.length (b, laneM I (lastS (hm I s) W) b, endS 0 W + miM I s (laneM I (lastS (hm I s) W) b)))) : CI mX11_go (d + 4) [vR 489, vI s, vI b] I KI := by
  have n5 := hc.2.1
  have n6 := hc.2.2.1
  have n7 := hc.2.2.2.1
  refine bk_X11_go_0 (c11_isSaint n6 (fun _ _ => ⟨fun q => by omega, fun _ => c11_isCorner n5 (fun _ _ => ⟨fun _ => ?_, fun q => by omega⟩) (fun q => by omega)⟩) (fun q => by omega))
  refine c11_endsAt s0 (by omega) hS wl ?_
  rw [sof_s (by omega)]
  refine c11_laneOf (by omega) (by omega) ⟨fun q => PI_i (k0 (fun z => z.2.1 q)), fun q => ?_⟩
  have ar := laneM_rng (I := I) (by omega) q
  have mr := miM_rng hs hl s0 s1 ar.1 ar.2
  have b01 := sb_01 (x := I 489 63) (k := laneM I (lastS (hm I s) W) b) hsh.1 (by omega) ar.1 (by omega)
  refine c11_isShut (fun q2 => ⟨fun q3 => by omega, fun _ => ?_⟩) (fun q2 => ⟨fun _ => PI_i (k0 (fun z => by have := z.2.2.1; omega)), fun q3 => by omega⟩)
  refine c11_longOf s0 (by omega) ar.1 (by omega) (by omega) ?_
  refine c11_canGo s0 (by omega) hS wl we (by omega) (fun q4 q5 => ⟨fun _ => ?_, fun q => by omega⟩) (fun q4 => ⟨fun q => by omega, fun _ => PI_i (k0 (fun z => by have := z.1; have := z.2.2.2; omega))⟩)
  refine c11_keeps h5 h6 ?_
  have e521 : kas (rmb I) 521 = I 521 := kr_f (by decide) (by decide)
  have e522 : kas (rmb I) 522 = I 522 := kr_f (by decide) (by decide)
  have em := miM_fr e521 e522 s (laneM I (lastS (hm I s) W) b)
  refine c11_longOf s0 (by omega) ar.1 (by omega) (by rw [em]; omega) ?_
  rw [em]
  have sl := SL_fr s0 hS (kr_f (I := I) (k := 532) (by decide) (by decide)) (kr_f (k := 533) (by decide) (by decide)) (kr_f (k := 534) (by decide) (by decide)) (kr_f (k := 535) (by decide) (by decide))
  refine c11_treads s0 (by omega) sl (by omega) (by omega) (by omega) ?_
  refine c11_endOf s0 (by omega) (SL_trd s0 sl) (by simp; omega) (PI_i ?_)
  rw [endS_app]
  exact k1 ⟨q4, q, by omega, q5⟩
theorem op_go {a b : Int} (hc : CN I) (hs : CSa I) (hl : CLa I) (hw : WRel I cs H) (h : ∀ x I' cs' H', WRel I' cs' H' → WFr I I' → WCh I I' cs cs' → K2 x x I') : CI mX10_go (d + 5) [vR 0, vI a, vI b] I (fun x1 I1 => CI mX11_go (d + 5) [vR 489, vI a, vI b] I1 (K2 x1)) := by
  have id0 : ∀ x, K2 x x I := fun x => h x I cs H hw (WFr_rfl I) (WCh_rfl I cs)
  have hw0 := hw
  have hc0 := hc
  obtain ⟨⟨c0, c1, c2, c3, c4⟩, b0, b1, b2, b3, b4⟩ := hc
  obtain ⟨w1, w2, w3, w4, w5, w6, w7⟩ := hw
  refine bk_X10_go_0 (c10_isSaint (fun a0 a1 => ⟨fun q => by omega, fun _ => c10_isCorner (fun q0 q1 => ⟨fun q => by omega, fun _ => ?_⟩) (fun q => ⟨fun _ => PI_i ?_, fun q => by omega⟩)⟩) (fun q => ⟨fun _ => PI_i ?_, fun q => by omega⟩))
  · rw [c2] at a1
    rw [c0] at q1
    obtain ⟨e1, e2⟩ := w1 a a0 a1
    have ok := w3.1 a a0 a1
    have okw := wy_ok hc0 hs hl a0 a1 ok.1
    have ge := end_ge _ _ _ okw
    have wl := wy_len I a (cs a)
    have p1 := w5.1
    have p2 := w5.2.1
    have p3 := w6.1
    refine c9_walk hc0 hs hl a0 a1 q0 q1 e1 e2 ok w4.1 ⟨w5.2.2.1, w5.2.2.2.1⟩ (by omega) (fun z => PI_i ?_) (fun z => PI_i ?_)
    · exact c11_go hc0 hs hl a0 a1 q0 q1 (w2 a a0 a1) (by rw [wl]; exact ok.2.1) ⟨ge, ok.2.2⟩ w3.2.1 ⟨w6.2.2.1, w6.2.2.2.1⟩ (by omega) (fun _ => id0 _) (fun z2 => absurd z2 z)
    · have n := z.1
      rw [wl] at n
      have ar := laneM_rng (I := I) (by omega) z.2.1
      have ys := wy_snoc I a (cs a) b
      rw [if_neg (by omega)] at ys
      have f33 : cmC (kpC I) 33 = I 33 := by rw [cmC_f (by decide), kpC_f (by decide)]
      have ft : ∀ k, 37 ≤ k → ads (cmC (kpC I)) a b k = I k := fun k hk => by
        rw [ads_f (by omega) (by omega), cmC_f (by omega), kpC_f (by omega)]
      have tl := legs_len (wy I a (cs a)) 0
      have tw := TW_w (x := b) (m := miM I a (laneM I (lastS (hm I a) (wy I a (cs a))) b)) (TW_fr e2 (fun k k1 k2 => ft k (by omega))) (by omega) ar.1 (by omega)
      rw [← ys] at tw
      obtain ⟨D1, D2, D3, D4⟩ := cl_step (x := b) hw0 b1.2 a0 a1 n (fun k hk => wkb_f (by omega)) tw
      have hf57 : ∀ k, 57 ≤ k → wkb (ads (cmC (kpC I)) a b) (37 + 5 * a.toNat) (laneM I (lastS (hm I a) (wy I a (cs a))) b) b (miM I a (laneM I (lastS (hm I a) (wy I a (cs a))) b)) k = I k := fun k hk => D1.1 k (by omega) (by omega) (by omega) (by omega)
      revert D1 D2 D3 D4 hf57
      generalize wkb (ads (cmC (kpC I)) a b) (37 + 5 * a.toNat) (laneM I (lastS (hm I a) (wy I a (cs a))) b) b (miM I a (laneM I (lastS (hm I a) (wy I a (cs a))) b)) = I1
      intro D1 D2 D3 D4 hf57
      have f518 := hf57 518 (by decide)
      have f521 := hf57 521 (by decide)
      have f522 := hf57 522 (by decide)
      have f489 := hf57 489 (by decide)
      have cf : ∀ k, k ≠ 32 → k ≠ 33 → k ≠ 35 → (k < 37 ∨ 56 < k) → I1 k = I k := D1.1
      have hcI : CN I1 := by
        unfold CN at hc0 ⊢
        rw [cf 2 (by decide) (by decide) (by decide) (by decide), f518]
        exact hc0
      have hsI : CSa I1 := by
        unfold CSa at hs ⊢
        rw [cf 7 (by decide) (by decide) (by decide) (by decide), f518, f522]
        exact hs
      have hlI : CLa I1 := by
        unfold CLa at hl ⊢
        simp only [laneM_fr f518 f521]
        rw [cf 6 (by decide) (by decide) (by decide) (by decide), cf 12 (by decide) (by decide) (by decide) (by decide), f518, f521]
        exact hl
      have sl := SL_fr a0 (w2 a a0 a1) (hf57 532 (by decide)) (hf57 533 (by decide)) (hf57 534 (by decide)) (hf57 535 (by decide))
      have M := mo_step (x := b) hw0 b1.2 hf57 a0 a1 n ys
      have V := VSn_upd w3 (OkW_w ok n q0 q1 b0.2 z.2.1 z.2.2.2)
      obtain ⟨R1, R2⟩ := WRel_mk b1.2 D1 M V (VSn_take w3 w7)
      refine c11_go hcI hsI hlI a0 (by rw [f518]; exact a1) q0 (by rw [f518]; exact q1) sl (by rw [wl]; exact ok.2.1) ⟨ge, ok.2.2⟩ (by rw [f489]; exact w3.2.1) (by rw [f489]; exact ⟨w6.2.2.1, w6.2.2.2.1⟩) (by rw [f489]; omega) (fun z2 => absurd ((GC_fr f518 f521 f522 f489).mpr z) z2) (fun z2 => ?_)
      rw [laneM_fr f518 f521, miM_fr f521 f522, hm_fr f522]
      refine h _ _ _ _ R1 R2 ⟨Or.inl ?_, Or.inr ⟨?_, ?_⟩, Or.inr ⟨?_, ?_⟩⟩
      · rw [M.1 32 (by decide) (by decide)]
        exact D2
      · rw [M.1 32 (by decide) (by decide)]
        exact D3
      · exact M.2.2.2.2.1
      · rw [M.1 32 (by decide) (by decide)]
        exact D4
      · exact M.2.2.2.2.2
  · refine bk_X11_go_0 ?_
    (repeat' (with_reducible first | refine And.intro ?_ ?_ | intro _ | refine PI_i ?_ | refine PV_i ?_ | refine PL_i ?_ | apply c11_isSaint | apply b1 | apply c11_isCorner | apply b0)) <;> first | omega | exact id0 _
  · refine bk_X11_go_0 ?_
    (repeat' (with_reducible first | refine And.intro ?_ ?_ | intro _ | refine PI_i ?_ | refine PV_i ?_ | refine PL_i ?_ | apply c11_isSaint | apply b1 | apply c11_isCorner | apply b0)) <;> first | omega | exact id0 _
end O2
