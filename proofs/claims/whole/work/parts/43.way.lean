def lnS (L : Nat → Int) (a b : Int) : Nat → Int → Int
  | 0, _ => -1
  | n + 1, l => if (L (64 + 4 * l).toNat = a ∧ L (64 + 4 * l + 1).toNat = b) ∨ (L (64 + 4 * l).toNat = b ∧ L (64 + 4 * l + 1).toNat = a) then l else lnS L a b n (l + 1)
/-- the lane between two corners, -1 without -/
def laneM (I : HI) (a b : Int) : Int := lnS (I 521) a b (I 518 7).toNat 0
theorem lnS_rng (L : Nat → Int) (a b : Int) : ∀ (n : Nat) (l : Int), 0 ≤ l → lnS L a b n l = -1 ∨ (l ≤ lnS L a b n l ∧ lnS L a b n l < l + n ∧ ((L (64 + 4 * lnS L a b n l).toNat = a ∧ L (64 + 4 * lnS L a b n l + 1).toNat = b) ∨ (L (64 + 4 * lnS L a b n l).toNat = b ∧ L (64 + 4 * lnS L a b n l + 1).toNat = a)))
  | 0, l, h => Or.inl rfl
  | n + 1, l, h => by
    unfold lnS
    split
    · rename_i hc
      exact Or.inr ⟨by omega, by omega, hc⟩
    · rcases lnS_rng L a b n (l + 1) (by omega) with e | ⟨e1, e2, e3⟩
      · exact Or.inl e
      · exact Or.inr ⟨by omega, by omega, e3⟩
/-- whether petals of s that came lie in a minute -/
def lies (I : HI) (s come m : Int) : Prop := come ≤ m ∧ m ≤ come + I 522 (16 + 4 * s + 3).toNat - 1 ∧ (I 489 44 = -1 ∨ m < I 489 44 ∨ I 489 44 ≤ come)
def petS (I : HI) (s l m : Int) (W : List Sp) : Prop := ∃ x ∈ W, x.2.1 = l ∧ lies I s x.2.2 m
section WY
variable {d : Nat} {I : HI} {K : Int → HI → Prop}
theorem laneOf_lp {a b : Int} : ∀ (n : Nat) (l : Int), 0 ≤ l → l + n = I 518 7 → I 518 7 ≤ 16 → K (lnS (I 521) a b n l) I → J none mX11_laneOf (d + 2) 0 0 2 [(0, vR 489), (1, vI a), (2, vI b), (3, vI l)] [] (mk I) (PI K)
  | 0, l, h0, h1, h2, h => by
    refine bk_X11_laneOf_2 (c11_laneMany ?_)
    (repeat' (with_reducible first | refine And.intro ?_ ?_ | intro _ | refine PI_i ?_ | refine PV_i ?_ | refine PL_i ?_)) <;> first | omega | exact h
  | n + 1, l, h0, h1, h2, h => by
    unfold lnS at h
    refine bk_X11_laneOf_2 (c11_laneMany ?_)
    have ih := laneOf_lp (a := a) (b := b) n (l + 1) (by omega) (by omega) h2
    (repeat' (with_reducible first | refine And.intro ?_ ?_ | intro _ | refine PI_i ?_ | refine PV_i ?_ | refine PL_i ?_)) <;> first | omega | (refine ih (K_eq h ?_); rw [if_neg (by simp_all)]; done) | (refine K_eq h ?_; rw [if_pos (by simp_all)]; done)
theorem c11_laneOf {a b : Int} (h1 : 0 ≤ I 518 7) (h2 : I 518 7 ≤ 16) (h : K (laneM I a b) I) : CI mX11_laneOf (d + 2) [vR 489, vI a, vI b] I K :=
  bk_X11_laneOf_0 (laneOf_lp (I 518 7).toNat 0 (by omega) (by omega) h2 h)
theorem whereOf_lp {w m : Int} (h0 : 0 ≤ w) (h1 : w < 244) : ∀ (W : List Sp) (k c : Int), SL I w k W → 0 ≤ k → k + W.length ≤ 24 → K (whereS c W m) I → J none mX11_whereOf (d + 1) 0 0 15 [(0, vR 489), (1, vI w), (2, vI m), (3, vI c), (4, vI (24 * w + k))] [] (mk I) (PI K)
  | [], k, c, hs, hk, hl, h => by
    have e := SL_len _ _ hs
    simp at e
    refine bk_X11_whereOf_15 ?_
    (repeat' (with_reducible first | refine And.intro ?_ ?_ | intro _ | refine PI_i ?_ | refine PV_i ?_ | refine PL_i ?_)) <;> first | omega | exact h
  | x :: W, k, c, hs, hk, hl, h => by
    have e := SL_len _ _ hs
    simp only [List.length_cons] at e hl
    obtain ⟨g1, g2, g3, g4, g5⟩ := hs
    unfold whereS at h
    refine bk_X11_whereOf_15 ?_
    rw [g4, g2, show 24 * w + k + 1 = 24 * w + (k + 1) from by omega]
    (repeat' (with_reducible first | refine And.intro ?_ ?_ | intro _ | refine PI_i ?_ | refine PV_i ?_ | refine PL_i ?_)) <;> first | omega | skip
    · rw [if_neg (by omega)] at h
      exact h
    · rw [if_pos (by omega)] at h
      exact whereOf_lp h0 h1 W (k + 1) x.1 g5 (by omega) (by omega) h
theorem c11_whereOf {w m : Int} {W : List Sp} (h0 : 0 ≤ w) (h1 : w < 244) (hs : SL I w 0 W) (hl : W.length ≤ 24) (h : K (whereS (hm I (sof w)) W m) I) : CI mX11_whereOf (d + 2) [vR 489, vI w, vI m] I K := by
  have e2 := sof_rng h0 h1
  refine bk_X11_whereOf_0 (c11_saintOf h0 h1 (c11_homeOf (by omega) (by omega) ⟨by omega, ?_⟩))
  have h5 := whereOf_lp (d := d + 1) (m := m) h0 h1 W 0 (hm I (sof w)) hs (by omega) (by omega) h
  rwa [show 24 * w + 0 = 24 * w from by omega] at h5
theorem onOf_lp {w m : Int} (h0 : 0 ≤ w) (h1 : w < 244) : ∀ (W : List Sp) (k c t : Int), SL I w k W → Pre I w k c t → 0 ≤ k → k + W.length ≤ 24 → K (onS t W m) I → J none mX11_onOf (d + 2) 0 0 2 [(0, vR 489), (1, vI w), (2, vI m), (3, vI k)] [] (mk I) (PI K)
  | [], k, c, t, hs, hp, hk, hl, h => by
    have e := SL_len _ _ hs
    simp at e
    refine bk_X11_onOf_2 ?_
    (repeat' (with_reducible first | refine And.intro ?_ ?_ | intro _ | refine PI_i ?_ | refine PV_i ?_ | refine PL_i ?_)) <;> first | omega | exact h
  | x :: W, k, c, t, hs, hp, hk, hl, h => by
    have e := SL_len _ _ hs
    simp only [List.length_cons] at e hl
    have hp2 := Pre_s hk hs
    obtain ⟨g1, g2, g3, g4, g5⟩ := hs
    unfold onS at h
    refine bk_X11_onOf_2 ⟨by omega, fun _ => by omega, fun _ => c11_leaves h0 h1 hk (by omega) hp ?_⟩
    rw [g4, g3]
    have ih := onOf_lp (m := m) h0 h1 W (k + 1) _ _ g5 hp2 (by omega) (by omega)
    (repeat' (with_reducible first | refine And.intro ?_ ?_ | intro _ | refine PI_i ?_ | refine PV_i ?_ | refine PL_i ?_)) <;> first | omega | skip
    · rw [if_neg (by omega)] at h
      exact ih h
    · rw [if_neg (by omega)] at h
      exact ih h
    · rw [if_pos (by omega)] at h
      exact h
theorem c11_onOf {w m : Int} {W : List Sp} (h0 : 0 ≤ w) (h1 : w < 244) (hs : SL I w 0 W) (hl : W.length ≤ 24) (h : K (onS 0 W m) I) : CI mX11_onOf (d + 2) [vR 489, vI w, vI m] I K :=
  bk_X11_onOf_0 (onOf_lp h0 h1 W 0 _ 0 hs (Pre_0 I w) (by omega) (by omega) h)
theorem c11_doLie {s come m : Int} (h0 : 0 ≤ s) (h1 : s < 4) (hp : 0 ≤ I 522 (16 + 4 * s + 3).toNat ∧ I 522 (16 + 4 * s + 3).toNat ≤ 99) (hc : 0 ≤ come ∧ come ≤ 100000) (k1 : lies I s come m → K 1 I) (k0 : ¬ lies I s come m → K 0 I) : CI mX11_doLie (d + 2) [vR 489, vI s, vI come, vI m] I K := by
  unfold lies at k1 k0
  refine bk_X11_doLie_0 (c11_petalsOf h0 h1 ⟨by omega, by omega, c11_isIn (fun q1 q2 => ?_) (fun q => ?_)⟩)
  · (repeat' (with_reducible first | refine And.intro ?_ ?_ | intro _ | refine PI_i ?_ | refine PV_i ?_ | refine PL_i ?_)) <;> first | omega | exact k1 (by omega) | exact k0 (by omega)
  · (repeat' (with_reducible first | refine And.intro ?_ ?_ | intro _ | refine PI_i ?_ | refine PV_i ?_ | refine PL_i ?_)) <;> first | omega | exact k0 (by omega)
theorem arePetals_lp {w l m : Int} (h0 : 0 ≤ w) (h1 : w < 244) (hp : 0 ≤ I 522 (16 + 4 * sof w + 3).toNat ∧ I 522 (16 + 4 * sof w + 3).toNat ≤ 99) : ∀ (W : List Sp) (k : Int), SL I w k W → 0 ≤ k → k + W.length ≤ 24 → (∀ x ∈ W, 0 ≤ x.2.2 ∧ x.2.2 ≤ 999) → (petS I (sof w) l m W → K 1 I) → (¬ petS I (sof w) l m W → K 0 I) → J none mX11_arePetals (d + 3) 0 0 6 [(0, vR 489), (1, vI w), (2, vI l), (3, vI m), (4, vI (24 * w + k))] [] (mk I) (PI K)
  | [], k, hs, hk, hl, hr, k1, k0 => by
    have e := SL_len _ _ hs
    simp at e
    refine bk_X11_arePetals_6 ?_
    (repeat' (with_reducible first | refine And.intro ?_ ?_ | intro _ | refine PI_i ?_ | refine PV_i ?_ | refine PL_i ?_)) <;> first | omega | exact k0 (by simp [petS])
  | x :: W, k, hs, hk, hl, hr, k1, k0 => by
    have e := SL_len _ _ hs
    simp only [List.length_cons] at e hl
    obtain ⟨g1, g2, g3, g4, g5⟩ := hs
    have e2 := sof_rng h0 h1
    have hx := hr x List.mem_cons_self
    have ih := arePetals_lp (l := l) (m := m) h0 h1 hp W (k + 1) g5 (by omega) (by omega) (fun y hy => hr y (List.mem_cons_of_mem _ hy))
    refine bk_X11_arePetals_6 ?_
    rw [g3, show 24 * w + k + 1 = 24 * w + (k + 1) from by omega]
    (repeat' (with_reducible first | refine And.intro ?_ ?_ | intro _ | refine PI_i ?_ | refine PV_i ?_ | refine PL_i ?_)) <;> first | omega | skip
    · refine ih (fun q => k1 ?_) (fun q => k0 ?_)
      · obtain ⟨y, hy, q1⟩ := q
        exact ⟨y, List.mem_cons_of_mem _ hy, q1⟩
      · rintro ⟨y, hy, q1, q2⟩
        rcases List.mem_cons.mp hy with rfl | hy
        · contradiction
        · exact q ⟨y, hy, q1, q2⟩
    · refine c11_saintOf h0 h1 ⟨by omega, ?_⟩
      rw [g4]
      refine c11_doLie (by omega) (by omega) hp (by omega) (fun q => ?_) (fun q => ?_)
      · (repeat' (with_reducible first | refine And.intro ?_ ?_ | intro _ | refine PI_i ?_ | refine PV_i ?_ | refine PL_i ?_)) <;> first | omega | skip
        exact k1 ⟨x, List.mem_cons_self, by assumption, q⟩
      · (repeat' (with_reducible first | refine And.intro ?_ ?_ | intro _ | refine PI_i ?_ | refine PV_i ?_ | refine PL_i ?_)) <;> first | omega | skip
        refine ih (fun q => k1 ?_) (fun q => k0 ?_)
        · obtain ⟨y, hy, q1⟩ := q
          exact ⟨y, List.mem_cons_of_mem _ hy, q1⟩
        · rintro ⟨y, hy, q1, q2⟩
          rcases List.mem_cons.mp hy with rfl | hy
          · contradiction
          · exact q ⟨y, hy, q1, q2⟩
theorem c11_arePetals {w l m : Int} {W : List Sp} (h0 : 0 ≤ w) (h1 : w < 244) (hp : 0 ≤ I 522 (16 + 4 * sof w + 3).toNat ∧ I 522 (16 + 4 * sof w + 3).toNat ≤ 99) (hs : SL I w 0 W) (hl : W.length ≤ 24) (hr : ∀ x ∈ W, 0 ≤ x.2.2 ∧ x.2.2 ≤ 999) (k1 : petS I (sof w) l m W → K 1 I) (k0 : ¬ petS I (sof w) l m W → K 0 I) : CI mX11_arePetals (d + 3) [vR 489, vI w, vI l, vI m] I K := by
  have h5 := arePetals_lp (d := d) (l := l) (m := m) h0 h1 hp W 0 hs (by omega) (by omega) hr k1 k0
  rw [show 24 * w + 0 = 24 * w from by omega] at h5
  exact bk_X11_arePetals_0 ⟨by omega, h5⟩
end WY
