/-- the class: the night of the past comes back -/
def rvC (I : HI) : HI := cpI (up I 32 6 (I 32 6 - 1)) 35 (((I 32 5 + I 32 6 + 20) % 21).toNat * 102) 33 0 102
theorem rvC_f {I : HI} {k : Nat} (h : k ≠ 32) (h1 : k ≠ 33) : rvC I k = I k := by
  unfold rvC
  rw [cpI_f h1, up_k h]
theorem rvC_j {I : HI} {j : Nat} (h : j ≠ 6) : rvC I 32 j = I 32 j := by
  unfold rvC
  rw [cpI_f (by decide), up_j h]
theorem rvC_6 {I : HI} : rvC I 32 6 = I 32 6 - 1 := by
  unfold rvC
  rw [cpI_f (by decide), up_e]
theorem rvC_33 {I : HI} {j : Nat} (h : j < 102) : rvC I 33 j = I 35 (((I 32 5 + I 32 6 + 20) % 21).toNat * 102 + j) := by
  unfold rvC
  rw [cpI_i (by omega) (by omega), up_k (by decide), Nat.sub_zero]
theorem ClH_pop {I : HI} {H : List Sn} {x : Sn} (h : ClH I (x :: H)) (hb : I 518 6 ≤ 4) (hv : ∀ s : Int, 0 ≤ s → s < I 518 6 → (x.1 s).length ≤ 24) : ClH (rvC I) H ∧ rvC I 33 100 = x.2.1 ∧ rvC I 33 101 = x.2.2 ∧ ∀ s : Int, 0 ≤ s → s < I 518 6 → EC (rvC I 33) 0 s (x.1 s) := by
  obtain ⟨h1, h2, h3, h4, h5⟩ := h
  simp only [List.length_cons] at h1 h2
  have f35 : rvC I 35 = I 35 := rvC_f (by decide) (by decide)
  have f518 : rvC I 518 = I 518 := rvC_f (by decide) (by decide)
  have e5 : rvC I 32 5 = I 32 5 := rvC_j (by decide)
  have e6 := rvC_6 (I := I)
  have g := h5 0 x (by simp)
  rw [show I 32 5 + I 32 6 + 20 - ((0 : Nat) : Int) = I 32 5 + I 32 6 + 20 from by omega] at g
  refine ⟨⟨by rw [e6]; omega, by omega, by rw [e5]; exact h3, by rw [e5]; exact h4, fun i y hy => ?_⟩, ?_, ?_, fun s s0 s1 => ?_⟩
  · have g2 := h5 (i + 1) y (by rw [List.getElem?_cons_succ]; exact hy)
    have hl := ge_lt hy
    unfold SnC at g2 ⊢
    rw [f35, f518, e5, e6, show ((I 32 5 + (I 32 6 - 1) + 20 - (i : Int)) % 21).toNat = ((I 32 5 + I 32 6 + 20 - ((i + 1 : Nat) : Int)) % 21).toNat from by omega]
    exact g2
  · rw [rvC_33 (by omega)]
    exact g.1
  · rw [rvC_33 (by omega)]
    exact g.2.1
  · refine EC_cp (g.2.2 s s0 s1) s0 (by omega) (hv s s0 s1) (fun j hj => ?_)
    rw [Nat.zero_add, rvC_33 (by omega)]
/-- readings of the model's undo -/
theorem und_f {I : HI} {k : Nat} (h : k ≠ 489) (h1 : k < 532 ∨ 535 < k) : und I k = I k := by
  unfold und
  rw [up_k h, up_k h, up_k h, up_k h, cp3_f (by omega) (by omega) (by omega), cpI_f (by omega)]
theorem und_j {I : HI} {j : Nat} (h0 : j ≠ 63) (h1 : j ≠ 64) (h2 : j ≠ 71) (h3 : j ≠ 72) : und I 489 j = I 489 j := by
  unfold und
  rw [up_j h2, up_j h3, up_j h1, up_j h0, cp3_f (by decide) (by decide) (by decide), cpI_f (by decide)]
theorem und_63 {I : HI} : und I 489 63 = I 540 (I 489 72).toNat := by
  unfold und
  rw [up_j (by decide), up_j (by decide), up_j (by decide), up_e]
theorem und_64 {I : HI} : und I 489 64 = I 541 (I 489 72).toNat := by
  unfold und
  rw [up_j (by decide), up_j (by decide), up_e]
theorem und_72 {I : HI} : und I 489 72 = (I 489 72 + 19) % 20 := by
  unfold und
  rw [up_j (by decide), up_e]
theorem und_71 {I : HI} : und I 489 71 = I 489 71 - 1 := by
  unfold und
  rw [up_e]
theorem und_532 {I : HI} {j : Nat} (h : j < 4) : und I 532 j = I 536 (4 * (I 489 72).toNat + j) := by
  unfold und
  rw [up_k (by decide), up_k (by decide), up_k (by decide), up_k (by decide), cp3_f (by decide) (by decide) (by decide), cpI_i (by omega) (by omega), Nat.sub_zero]
theorem und_533 {I : HI} {j : Nat} (h : j < 96) : und I 533 j = I 537 (96 * (I 489 72).toNat + j) ∧ und I 534 j = I 538 (96 * (I 489 72).toNat + j) ∧ und I 535 j = I 539 (96 * (I 489 72).toNat + j) := by
  unfold und
  refine ⟨?_, ?_, ?_⟩
  · rw [up_k (by decide), up_k (by decide), up_k (by decide), up_k (by decide), cp3_a (by omega) (by omega), cpI_f (by decide), Nat.sub_zero]
  · rw [up_k (by decide), up_k (by decide), up_k (by decide), up_k (by decide), cp3_b (by decide) (by omega) (by omega), cpI_f (by decide), Nat.sub_zero]
  · rw [up_k (by decide), up_k (by decide), up_k (by decide), up_k (by decide), cp3_c (by decide) (by decide) (by omega) (by omega), cpI_f (by decide), Nat.sub_zero]
theorem MoH_pop {I : HI} {H : List Sn} {x : Sn} (h : MoH I (x :: H)) (hb : I 518 6 ≤ 4) (hv : ∀ s : Int, 0 ≤ s → s < I 518 6 → (wy I s (x.1 s)).length ≤ 24) : MoH (und I) H ∧ und I 489 63 = x.2.1 ∧ und I 489 64 = x.2.2 ∧ MoW (und I) x.1 := by
  obtain ⟨h1, h2, h3, h4, h5⟩ := h
  simp only [List.length_cons] at h1 h2
  have f518 : und I 518 = I 518 := und_f (by decide) (by decide)
  have f521 : und I 521 = I 521 := und_f (by decide) (by decide)
  have f522 : und I 522 = I 522 := und_f (by decide) (by decide)
  have f536 : und I 536 = I 536 := und_f (by decide) (by decide)
  have f537 : und I 537 = I 537 := und_f (by decide) (by decide)
  have f538 : und I 538 = I 538 := und_f (by decide) (by decide)
  have f539 : und I 539 = I 539 := und_f (by decide) (by decide)
  have f540 : und I 540 = I 540 := und_f (by decide) (by decide)
  have f541 : und I 541 = I 541 := und_f (by decide) (by decide)
  have e72 := und_72 (I := I)
  have e71 := und_71 (I := I)
  have g := h5 0 x (by simp)
  rw [show ((I 489 72 + 20 - ((0 : Nat) : Int)) % 20).toNat = (I 489 72).toNat from by omega] at g
  refine ⟨⟨by rw [e71]; omega, by omega, by rw [e72]; omega, by rw [e72]; omega, fun i y hy => ?_⟩, ?_, ?_, fun s s0 s1 => ?_⟩
  · have g2 := h5 (i + 1) y (by rw [List.getElem?_cons_succ]; exact hy)
    have hl := ge_lt hy
    unfold SnM at g2 ⊢
    simp only [wy_fr f518 f521 f522]
    rw [f518, f536, f537, f538, f539, f540, f541, e72, show (((I 489 72 + 19) % 20 + 20 - (i : Int)) % 20).toNat = ((I 489 72 + 20 - ((i + 1 : Nat) : Int)) % 20).toNat from by omega]
    exact g2
  · rw [und_63]
    exact g.1
  · rw [und_64]
    exact g.2.1
  · rw [f518] at s1
    rw [wy_fr f518 f521 f522]
    refine (SL_EW s0).mpr (EW_cp (g.2.2 s s0 s1) (hv s s0 s1) (und_532 (by omega)) (fun k hk => ?_))
    have q := und_533 (I := I) (j := 24 * s.toNat + k) (by omega)
    rw [show 96 * (I 489 72).toNat + (24 * s.toNat + k) = 24 * (4 * (I 489 72).toNat + s.toNat) + k from by omega] at q
    exact q
/-- one step more in the model -/
def trd (I : HI) (w n : Nat) (y : Sp) : HI := up (up (up (up I 533 (24 * w + n) y.1) 534 (24 * w + n) y.2.1) 535 (24 * w + n) y.2.2) 532 w (n + 1)
theorem trd_f {I : HI} {w n k : Nat} {y : Sp} (h : k < 532 ∨ 535 < k) : trd I w n y k = I k := by
  unfold trd
  rw [up_k (by omega), up_k (by omega), up_k (by omega), up_k (by omega)]
theorem trd_532 {I : HI} {w n j : Nat} {y : Sp} (h : j ≠ w) : trd I w n y 532 j = I 532 j := by
  unfold trd
  rw [up_j h, up_k (by decide), up_k (by decide), up_k (by decide)]
theorem trd_533 {I : HI} {w n j : Nat} {y : Sp} (h : j ≠ 24 * w + n) : trd I w n y 533 j = I 533 j ∧ trd I w n y 534 j = I 534 j ∧ trd I w n y 535 j = I 535 j := by
  unfold trd
  refine ⟨?_, ?_, ?_⟩
  · rw [up_k (by decide), up_k (by decide), up_k (by decide), up_j h]
  · rw [up_k (by decide), up_k (by decide), up_j h, up_k (by decide)]
  · rw [up_k (by decide), up_j h, up_k (by decide), up_k (by decide)]
theorem SL_trd {I : HI} {w : Int} {W : List Sp} {y : Sp} (h0 : 0 ≤ w) (h : SL I w 0 W) : SL (trd I w.toNat W.length y) w 0 (W ++ [y]) := by
  refine (SL_EW h0).mpr (EW_snoc ((SL_EW h0).mp h) ?_ (fun k hk => trd_533 (by omega)) ?_ ?_ ?_)
  · unfold trd
    exact up_e
  · unfold trd
    rw [up_k (by decide), up_k (by decide), up_k (by decide), up_e]
  · unfold trd
    rw [up_k (by decide), up_k (by decide), up_e]
  · unfold trd
    rw [up_k (by decide), up_e]
/-- one code more in the class -/
def ads (I : HI) (s x : Int) : HI := up (up (up I 33 (4 + s * 24 + I 33 s.toNat).toNat x) 33 s.toNat (I 33 s.toNat + 1)) 32 7 1
theorem ads_f {I : HI} {k : Nat} {s x : Int} (h : k ≠ 32) (h1 : k ≠ 33) : ads I s x k = I k := by
  unfold ads
  rw [up_k h, up_k h1, up_k h1]
theorem ads_j {I : HI} {j : Nat} {s x : Int} (h : j ≠ 7) : ads I s x 32 j = I 32 j := by
  unfold ads
  rw [up_j h, up_k (by decide), up_k (by decide)]
theorem ads_7 {I : HI} {s x : Int} : ads I s x 32 7 = 1 := by
  unfold ads
  exact up_e
theorem ads_33 {I : HI} {j : Nat} {s x : Int} (h : j ≠ s.toNat) (h1 : j ≠ (4 + s * 24 + I 33 s.toNat).toNat) : ads I s x 33 j = I 33 j := by
  unfold ads
  rw [up_k (by decide), up_j h, up_j h1]
theorem ads_n {I : HI} {s x : Int} : ads I s x 33 s.toNat = I 33 s.toNat + 1 := by
  unfold ads
  rw [up_k (by decide), up_e]
theorem ads_x {I : HI} {s x : Int} (s0 : 0 ≤ s) (h : 0 ≤ I 33 s.toNat) : ads I s x 33 (4 + s * 24 + I 33 s.toNat).toNat = x := by
  unfold ads
  rw [up_k (by decide), up_j (by omega), up_e]
def uw (cs : Int → List Int) (s : Int) (v : List Int) : Int → List Int := fun u => if u = s then v else cs u
theorem uw_e (cs : Int → List Int) (s : Int) (v : List Int) : uw cs s v s = v := by
  unfold uw
  rw [if_pos rfl]
theorem uw_n (cs : Int → List Int) {s u : Int} (v : List Int) (h : u ≠ s) : uw cs s v u = cs u := by
  unfold uw
  rw [if_neg h]
theorem ClW_put {I I1 : HI} {cs : Int → List Int} {s : Int} {v : List Int} (h : ClW I cs) (hlen : ∀ u : Int, 0 ≤ u → u < I 518 6 → (cs u).length ≤ 24) (hb : I 518 6 ≤ 4) (h1 : I1 518 = I 518) (h2 : I1 521 = I 521) (h3 : I1 522 = I 522) (he : ∀ u : Int, 0 ≤ u → u < 4 → u ≠ s → I1 33 u.toNat = I 33 u.toNat ∧ ∀ k : Nat, k < 24 → I1 33 (4 + u * 24 + k).toNat = I 33 (4 + u * 24 + k).toNat) (s0 : 0 ≤ s) (ht : ∀ k, 37 ≤ k → k ≤ 56 → (k < 37 + 5 * s.toNat ∨ 41 + 5 * s.toNat < k) → I1 k = I k) (g1 : EC (I1 33) 0 s v) (g2 : TW I1 (37 + 5 * s.toNat) 25 0 (hm I s) (wy I s v)) : ClW I1 (uw cs s v) := by
  intro u u0 u1
  rw [h1] at u1
  rw [wy_fr h1 h2 h3, hm_fr h3]
  by_cases e : u = s
  · subst e
    rw [uw_e]
    exact ⟨g1, g2⟩
  · rw [uw_n cs v e]
    obtain ⟨a, b⟩ := h u u0 u1
    obtain ⟨p, q⟩ := he u u0 (by omega) e
    have hl := hlen u u0 u1
    refine ⟨?_, TW_fr b (fun k k1 k2 => ht k (by omega) (by omega) (by omega))⟩
    unfold EC at a ⊢
    simp only [Nat.zero_add] at a ⊢
    exact ⟨by rw [p]; exact a.1, fun k hk => by rw [q k (by omega)]; exact a.2 k hk⟩
theorem MoW_put {I I1 : HI} {cs : Int → List Int} {s : Int} {v : List Int} (h : MoW I cs) (hlen : ∀ u : Int, 0 ≤ u → u < I 518 6 → (wy I u (cs u)).length ≤ 24) (hb : I 518 6 ≤ 4) (h1 : I1 518 = I 518) (h2 : I1 521 = I 521) (h3 : I1 522 = I 522) (he : ∀ u : Nat, u < 4 → u ≠ s.toNat → I1 532 u = I 532 u ∧ ∀ k : Nat, k < 24 → I1 533 (24 * u + k) = I 533 (24 * u + k) ∧ I1 534 (24 * u + k) = I 534 (24 * u + k) ∧ I1 535 (24 * u + k) = I 535 (24 * u + k)) (s0 : 0 ≤ s) (g : SL I1 s 0 (wy I s v)) : MoW I1 (uw cs s v) := by
  intro u u0 u1
  rw [h1] at u1
  rw [wy_fr h1 h2 h3]
  by_cases e : u = s
  · subst e
    rw [uw_e]
    exact g
  · rw [uw_n cs v e]
    obtain ⟨p, q⟩ := he u.toNat (by omega) (by omega)
    exact (SL_EW u0).mpr (EW_cp ((SL_EW u0).mp (h u u0 u1)) (hlen u u0 u1) p q)
section WC
variable {d : Nat} {I : HI} {K : HI → Prop} {KI : Int → HI → Prop}
theorem c9_keep (h0 : 0 ≤ I 32 5 ∧ I 32 5 < 21) (h1 : 0 ≤ I 32 6 ∧ I 32 6 ≤ 20) (h : K (kpC I)) : CV mX9_keep (d + 1) [vR 32] I K := by
  have e : (oM (I 32 5 + I 32 6) 21 * 102).toNat = tpC I * 102 := by
    unfold tpC
    rw [oM_mod (by omega) (by omega) (by omega) (by omega)]
    omega
  have e2 : oM (I 32 5 + I 32 6) 21 = (I 32 5 + I 32 6) % 21 := oM_mod (by omega) (by omega) (by omega) (by omega)
  refine bk_X9_keep_0 ⟨by omega, by rw [e2]; omega, by rw [e2]; omega, fun I1 e1 => PV_i ?_⟩
  subst e1
  rw [e]
  exact h
theorem c9_commit (h0 : 0 ≤ I 32 5 ∧ I 32 5 < 21) (h1 : 0 ≤ I 32 6 ∧ I 32 6 ≤ 20) (h : K (cmC I)) : CV mX9_commit (d + 1) [vR 32] I K := by
  unfold cmC at h
  refine bk_X9_commit_0 ⟨fun g => ⟨by omega, fun I1 e1 => PV_i ?_⟩, fun g => ⟨by omega, fun I2 e2 => PV_i ?_⟩⟩
  · subst e1
    rw [if_pos g] at h
    rw [oM_mod (by omega) (by omega) (by omega) (by omega)]
    exact h
  · subst e2
    rw [if_neg g] at h
    exact h
theorem c9_kc (h0 : 0 ≤ I 32 5 ∧ I 32 5 < 21) (h1 : 0 ≤ I 32 6 ∧ I 32 6 ≤ 20) (h : K (cmC (kpC I))) : CV mX9_keep (d + 1) [vR 32] I (fun I1 => CV mX9_commit (d + 1) [vR 32] I1 K) := by
  have f : kpC I 32 = I 32 := kpC_f (by decide)
  exact c9_keep h0 h1 (c9_commit (by rw [f]; exact h0) (by rw [f]; exact h1) h)
theorem c9_addStep {s x : Int} (h0 : 0 ≤ I 32 5 ∧ I 32 5 < 21) (h1 : 0 ≤ I 32 6 ∧ I 32 6 ≤ 20) (s0 : 0 ≤ s) (s1 : s < 4) (n0 : 0 ≤ I 33 s.toNat) (n1 : I 33 s.toNat < 24) (h : K (ads (cmC (kpC I)) s x)) : CV mX9_addStep (d + 2) [vR 32, vI s, vI x] I K := by
  have f : cmC (kpC I) 33 = I 33 := by rw [cmC_f (by decide), kpC_f (by decide)]
  have f' : kpC I 32 = I 32 := kpC_f (by decide)
  refine bk_X9_addStep_0 (c9_keep h0 h1 (c9_commit (by rw [f']; exact h0) (by rw [f']; exact h1) ?_))
  unfold ads at h
  rw [f] at h ⊢
  refine ⟨by omega, by omega, by omega, by omega, by omega, fun I3 e3 => ?_⟩
  have g3 : I3 33 s.toNat = I 33 s.toNat := by
    rw [e3, up_j (by omega), f]
  rw [g3]
  refine ⟨by omega, by omega, by omega, fun I4 e4 I5 e5 => PV_i ?_⟩
  subst e3 e4 e5
  exact h
theorem c11_treads {w a l m : Int} {W : List Sp} (h0 : 0 ≤ w) (h1 : w < 244) (hs : SL I w 0 W) (hl : W.length < 24) (he : 0 ≤ endS 0 W ∧ endS 0 W ≤ 100000) (hm : 0 ≤ m ∧ m ≤ 100000) (h : K (trd I w.toNat W.length (a, l, endS 0 W + m))) : CV mX11_treads (d + 2) [vR 489, vI w, vI a, vI l, vI m] I K := by
  have e := SL_len _ _ hs
  have e2 : ((24 * w) + (I 532 w.toNat)).toNat = 24 * w.toNat + W.length := by omega
  refine bk_X11_treads_0 ?_
  rw [e2]
  refine ⟨by omega, by omega, by omega, c11_endOf h0 h1 hs (by omega) ⟨by omega, fun I2 g2 => ⟨by omega, fun I3 g3 => ⟨by omega, by omega, fun I4 g4 => ?_⟩⟩⟩⟩
  have q : I4 532 w.toNat = W.length := by
    subst g2 g3 g4
    rw [up_k (by decide), up_k (by decide), up_k (by decide)]
    omega
  rw [q]
  refine ⟨by omega, by omega, by omega, fun I5 g5 => PV_i ?_⟩
  subst g2 g3 g4 g5
  exact h
theorem c11_longOf {s l : Int} (s0 : 0 ≤ s) (s1 : s < 4) (l0 : 0 ≤ l) (l1 : l < 16) (hr : 0 ≤ miM I s l ∧ miM I s l ≤ 100000) (h : KI (miM I s l) I) : CI mX11_longOf (d + 2) [vR 489, vI l, vI s] I KI := by
  rw [miM_e l0] at hr h
  exact bk_X11_longOf_0 ⟨by omega, by omega, by omega, by omega, c11_paceOf s0 s1 ⟨by omega, PI_i h⟩⟩
theorem c11_isShut {l : Int} (k0 : oA (oSr (I 489 63) l) 1 ≠ 1 → KI 0 I) (k1 : oA (oSr (I 489 63) l) 1 = 1 → KI 1 I) : CI mX11_isShut (d + 1) [vR 489, vI l] I KI :=
  bk_X11_isShut_0 ⟨fun g => PI_i (k0 g), fun g => PI_i (k1 g)⟩
end WC
