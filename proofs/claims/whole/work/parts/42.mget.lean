abbrev Sp : Type := Int × Int × Int
/-- the steps of the way w from the k-th on -/
def SL (I : HI) (w : Int) : Int → List Sp → Prop
  | k, [] => k = I 532 w.toNat
  | k, x :: W => k < I 532 w.toNat ∧ I 533 (24 * w + k).toNat = x.1 ∧ I 534 (24 * w + k).toNat = x.2.1 ∧ I 535 (24 * w + k).toNat = x.2.2 ∧ SL I w (k + 1) W
def endS : Int → List Sp → Int
  | t, [] => t
  | _, x :: W => endS x.2.2 W
def lastS : Int → List Sp → Int
  | c, [] => c
  | _, x :: W => lastS x.1 W
def whereS : Int → List Sp → Int → Int
  | c, [], _ => c
  | c, x :: W, m => if x.2.2 ≤ m then whereS x.1 W m else c
def onS : Int → List Sp → Int → Int
  | _, [], _ => -1
  | t, x :: W, m => if t < m ∧ m ≤ x.2.2 then x.2.1 else onS x.2.2 W m
theorem SL_len {I : HI} {w : Int} : ∀ (W : List Sp) (k : Int), SL I w k W → I 532 w.toNat = k + W.length
  | [], k, h => by simp only [SL] at h; simp; omega
  | x :: W, k, h => by
    have := SL_len W (k + 1) h.2.2.2.2
    simp only [List.length_cons]
    omega
theorem SL_end {I : HI} {w : Int} : ∀ (W : List Sp) (k t : Int), SL I w k W → W ≠ [] → I 535 (24 * w + I 532 w.toNat - 1).toNat = endS t W
  | [], k, t, h, hn => absurd rfl hn
  | [x], k, t, h, hn => by
    obtain ⟨h1, h2, h3, h4, h5⟩ := h
    simp only [SL] at h5
    simp only [endS]
    rw [← h4]
    congr 2
    omega
  | x :: y :: W, k, t, h, hn => SL_end (y :: W) (k + 1) x.2.2 h.2.2.2.2 (by simp)
theorem SL_last {I : HI} {w : Int} : ∀ (W : List Sp) (k c : Int), SL I w k W → W ≠ [] → I 533 (24 * w + I 532 w.toNat - 1).toNat = lastS c W
  | [], k, t, h, hn => absurd rfl hn
  | [x], k, t, h, hn => by
    obtain ⟨h1, h2, h3, h4, h5⟩ := h
    simp only [SL] at h5
    simp only [lastS]
    rw [← h2]
    congr 2
    omega
  | x :: y :: W, k, t, h, hn => SL_last (y :: W) (k + 1) x.1 h.2.2.2.2 (by simp)
/-- the saint of a way -/
def sof (w : Int) : Int := if w < 4 then w else (w - 4) / 60
theorem sof_rng {w : Int} (h0 : 0 ≤ w) (h1 : w < 244) : 0 ≤ sof w ∧ sof w < 4 := by
  unfold sof
  split <;> omega
def hm (I : HI) (s : Int) : Int := I 522 (16 + 4 * s).toNat
section MG
variable {d : Nat} {I : HI} {K : Int → HI → Prop}
theorem c11_saintOf {w : Int} (h0 : 0 ≤ w) (h1 : w < 244) (h : K (sof w) I) : CI mX11_saintOf (d + 1) [vI w] I K := by
  refine bk_X11_saintOf_0 ?_
  (repeat' (with_reducible first | refine And.intro ?_ ?_ | intro _ | refine PI_i ?_ | refine PV_i ?_ | refine PL_i ?_))
  · omega
  · omega
  · refine K_eq h ?_
    rw [oD_div (by omega) (by omega) (by omega) (by omega)]
    unfold sof
    rw [if_neg (by omega)]
  · refine K_eq h ?_
    unfold sof
    rw [if_pos (by omega)]
theorem c11_homeOf {s : Int} (h0 : 0 ≤ s) (h1 : s < 4) (h : K (hm I s) I) : CI mX11_homeOf (d + 1) [vR 489, vI s] I K := by
  refine bk_X11_homeOf_0 ?_
  (repeat' (with_reducible first | refine And.intro ?_ ?_ | intro _ | refine PI_i ?_ | refine PV_i ?_ | refine PL_i ?_)) <;> first | omega | exact h
theorem c11_paceOf {s : Int} (h0 : 0 ≤ s) (h1 : s < 4) (h : K (I 522 (16 + 4 * s + 1).toNat) I) : CI mX11_paceOf (d + 1) [vR 489, vI s] I K := by
  refine bk_X11_paceOf_0 ?_
  (repeat' (with_reducible first | refine And.intro ?_ ?_ | intro _ | refine PI_i ?_ | refine PV_i ?_ | refine PL_i ?_)) <;> first | omega | exact h
theorem c11_petalsOf {s : Int} (h0 : 0 ≤ s) (h1 : s < 4) (h : K (I 522 (16 + 4 * s + 3).toNat) I) : CI mX11_petalsOf (d + 1) [vR 489, vI s] I K := by
  refine bk_X11_petalsOf_0 ?_
  (repeat' (with_reducible first | refine And.intro ?_ ?_ | intro _ | refine PI_i ?_ | refine PV_i ?_ | refine PL_i ?_)) <;> first | omega | exact h
theorem c11_endOf {w : Int} {W : List Sp} (h0 : 0 ≤ w) (h1 : w < 244) (hs : SL I w 0 W) (hl : W.length ≤ 24) (h : K (endS 0 W) I) : CI mX11_endOf (d + 1) [vR 489, vI w] I K := by
  have e := SL_len W 0 hs
  refine bk_X11_endOf_0 ?_
  (repeat' (with_reducible first | refine And.intro ?_ ?_ | intro _ | refine PI_i ?_ | refine PV_i ?_ | refine PL_i ?_)) <;> first | omega | skip
  · refine K_eq h ?_
    rw [SL_end W 0 0 hs (by rintro rfl; simp at e; contradiction)]
  · refine K_eq h ?_
    have : W = [] := List.length_eq_zero_iff.mp (by omega)
    subst this
    rfl
theorem c11_endsAt {w : Int} {W : List Sp} (h0 : 0 ≤ w) (h1 : w < 244) (hs : SL I w 0 W) (hl : W.length ≤ 24) (h : K (lastS (hm I (sof w)) W) I) : CI mX11_endsAt (d + 2) [vR 489, vI w] I K := by
  have e := SL_len W 0 hs
  have e2 := sof_rng h0 h1
  refine bk_X11_endsAt_0 ?_
  (repeat' (with_reducible first | refine And.intro ?_ ?_ | intro _ | refine PI_i ?_ | refine PV_i ?_ | refine PL_i ?_ | apply c11_saintOf | apply c11_homeOf)) <;> first | omega | skip
  · refine K_eq h ?_
    rw [SL_last W 0 _ hs (by rintro rfl; simp at e; contradiction)]
  · refine K_eq h ?_
    have : W = [] := List.length_eq_zero_iff.mp (by omega)
    subst this
    rfl
/-- what stands ahead of the k-th step: the corner c, the minute t -/
def Pre (I : HI) (w k c t : Int) : Prop := if k = 0 then c = hm I (sof w) ∧ t = 0 else c = I 533 (24 * w + k - 1).toNat ∧ t = I 535 (24 * w + k - 1).toNat
theorem Pre_0 (I : HI) (w : Int) : Pre I w 0 (hm I (sof w)) 0 := by simp [Pre]
theorem Pre_s {I : HI} {w k : Int} {x : Sp} {W : List Sp} (hk : 0 ≤ k) (h : SL I w k (x :: W)) : Pre I w (k + 1) x.1 x.2.2 := by
  unfold Pre
  rw [if_neg (by omega), show 24 * w + (k + 1) - 1 = 24 * w + k from by omega]
  exact ⟨h.2.1.symm, h.2.2.2.1.symm⟩
theorem c11_fromOf {w k c t : Int} (h0 : 0 ≤ w) (h1 : w < 244) (h2 : 0 ≤ k) (h3 : k ≤ 24) (hp : Pre I w k c t) (h : K c I) : CI mX11_fromOf (d + 2) [vR 489, vI w, vI k] I K := by
  have e2 := sof_rng h0 h1
  unfold Pre at hp
  refine bk_X11_fromOf_0 ?_
  (repeat' (with_reducible first | refine And.intro ?_ ?_ | intro _ | refine PI_i ?_ | refine PV_i ?_ | refine PL_i ?_ | apply c11_saintOf | apply c11_homeOf)) <;> first | omega | skip
  · rw [if_neg (by assumption)] at hp
    exact K_eq h hp.1
  · rw [if_pos (by assumption)] at hp
    exact K_eq h hp.1
theorem c11_leaves {w k c t : Int} (h0 : 0 ≤ w) (h1 : w < 244) (h2 : 0 ≤ k) (h3 : k ≤ 24) (hp : Pre I w k c t) (h : K t I) : CI mX11_leaves (d + 1) [vR 489, vI w, vI k] I K := by
  unfold Pre at hp
  refine bk_X11_leaves_0 ?_
  (repeat' (with_reducible first | refine And.intro ?_ ?_ | intro _ | refine PI_i ?_ | refine PV_i ?_ | refine PL_i ?_)) <;> first | omega | skip
  · rw [if_neg (by assumption)] at hp
    exact K_eq h hp.2
  · rw [if_pos (by assumption)] at hp
    exact K_eq h hp.2
theorem c11_canGo {w a : Int} {W : List Sp} (h0 : 0 ≤ w) (h1 : w < 244) (hs : SL I w 0 W) (hl : W.length ≤ 24) (he : 0 ≤ endS 0 W ∧ endS 0 W ≤ 999) (ha : -10000 ≤ a ∧ a ≤ 10000) (k1 : W.length < 24 → endS 0 W + a ≤ 999 → K 1 I) (k0 : (24 ≤ W.length ∨ 999 < endS 0 W + a) → K 0 I) : CI mX11_canGo (d + 2) [vR 489, vI w, vI a] I K := by
  have e := SL_len W 0 hs
  refine bk_X11_canGo_0 ?_
  (repeat' (with_reducible first | refine And.intro ?_ ?_ | intro _ | refine PI_i ?_ | refine PV_i ?_ | refine PL_i ?_)) <;> first | omega | skip
  · exact k0 (by omega)
  · refine c11_endOf h0 h1 hs hl ?_
    (repeat' (with_reducible first | refine And.intro ?_ ?_ | intro _ | refine PI_i ?_ | refine PV_i ?_ | refine PL_i ?_)) <;> first | omega | skip
    · exact k0 (by omega)
    · exact k1 (by omega) (by omega)
end MG
