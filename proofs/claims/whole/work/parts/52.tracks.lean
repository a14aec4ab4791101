theorem up_e {I : HI} {k j : Nat} {x : Int} : up I k j x k j = x := by simp [up]
theorem legs_app (x : Sp) : ∀ (W : List Sp) (t : Int), legs t (W ++ [x]) = legs t W ++ (if x.2.1 = -1 then [] else [(x.1, x.2.1, endS t W, x.2.2)])
  | [], t => by
    simp only [List.nil_append, legs, endS]
  | y :: W, t => by
    have ih := legs_app x W y.2.2
    simp only [List.cons_append, legs, endS]
    rw [ih]
    split
    · rfl
    · rfl
theorem endS_app : ∀ (W V : List Sp) (t : Int), endS t (W ++ V) = endS (endS t W) V
  | [], V, t => rfl
  | y :: W, V, t => by
    simp only [List.cons_append, endS]
    exact endS_app W V y.2.2
theorem lastS_app : ∀ (W V : List Sp) (c : Int), lastS c (W ++ V) = lastS (lastS c W) V
  | [], V, t => rfl
  | y :: W, V, t => by
    simp only [List.cons_append, lastS]
    exact lastS_app W V y.1
theorem run_app (I : HI) (s : Int) (c2 : List Int) : ∀ (c1 : List Int) (c t : Int), runW I s c t (c1 ++ c2) = runW I s c t c1 ++ runW I s (lastS c (runW I s c t c1)) (endS t (runW I s c t c1)) c2
  | [], c, t => rfl
  | x :: c1, c, t => by
    simp only [List.cons_append, runW]
    split
    · rw [run_app I s c2 c1]
      rfl
    · rw [run_app I s c2 c1]
      rfl
theorem okC_app (I : HI) (s : Int) (c2 : List Int) : ∀ (c1 : List Int) (c t : Int), okC I c (c1 ++ c2) ↔ okC I c c1 ∧ okC I (lastS c (runW I s c t c1)) c2
  | [], c, t => by simp [okC, runW, lastS]
  | x :: c1, c, t => by
    simp only [List.cons_append, runW, okC]
    split
    · rw [okC_app I s c2 c1 c (t + (x - 100))]
      exact and_assoc.symm
    · rw [okC_app I s c2 c1 x (t + miM I s (laneM I c x))]
      exact and_assoc.symm
theorem AL_app {I I' : HI} {t : Nat} {late : Int} (y : Lg) : ∀ (L : List Lg) (i : Int), 0 ≤ i → AL I t late i L → (∀ j : Nat, (j : Int) < I t 4 → I' (t + 1) j = I (t + 1) j ∧ I' (t + 2) j = I (t + 2) j ∧ I' (t + 3) j = I (t + 3) j ∧ I' (t + 4) j = I (t + 4) j) → I' t 4 = I t 4 + 1 → I' (t + 1) (I t 4).toNat = y.1 → I' (t + 2) (I t 4).toNat = y.2.1 → I' (t + 3) (I t 4).toNat + late = y.2.2.1 → I' (t + 4) (I t 4).toNat + late = y.2.2.2 → AL I' t late i (L ++ [y])
  | [], i, hi, h, hf, e, y1, y2, y3, y4 => by
    have h' : i = I t 4 := h
    rw [← h'] at y1 y2 y3 y4
    exact ⟨by omega, y1, y2, y3, y4, by show i + 1 = I' t 4; omega⟩
  | x :: L, i, hi, h, hf, e, y1, y2, y3, y4 => by
    obtain ⟨g1, g2, g3, g4, g5, g6⟩ := h
    obtain ⟨q1, q2, q3, q4⟩ := hf i.toNat (by omega)
    exact ⟨by omega, by rw [q1]; exact g2, by rw [q2]; exact g3, by rw [q3]; exact g4, by rw [q4]; exact g5, AL_app y L (i + 1) (by omega) g6 hf e y1 y2 y3 y4⟩
theorem AL_fr {I I' : HI} {t : Nat} {late : Int} (e0 : I' t 4 = I t 4) (e1 : I' (t + 1) = I (t + 1)) (e2 : I' (t + 2) = I (t + 2)) (e3 : I' (t + 3) = I (t + 3)) (e4 : I' (t + 4) = I (t + 4)) : ∀ (L : List Lg) (i : Int), AL I t late i L → AL I' t late i L
  | [], i, h => by
    have h' : i = I t 4 := h
    show i = I' t 4
    omega
  | x :: L, i, h => by
    obtain ⟨g1, g2, g3, g4, g5, g6⟩ := h
    exact ⟨by omega, by rw [e1]; exact g2, by rw [e2]; exact g3, by rw [e3]; exact g4, by rw [e4]; exact g5, AL_fr e0 e1 e2 e3 e4 L (i + 1) g6⟩
theorem TW_fr {I I' : HI} {t n : Nat} {late c : Int} {W : List Sp} (h : TW I t n late c W) (e : ∀ k, t ≤ k → k ≤ t + 4 → I' k = I k) : TW I' t n late c W := by
  obtain ⟨⟨h1, h2, h3, h4, h5⟩, h6, h7, h8, h9⟩ := h
  have e0 := e t (by omega) (by omega)
  refine ⟨⟨h1, by rw [e (t + 1) (by omega) (by omega)]; exact h2, AL_fr (by rw [e0]) (e _ (by omega) (by omega)) (e _ (by omega) (by omega)) (e _ (by omega) (by omega)) (e _ (by omega) (by omega)) _ _ h3, h4, h5⟩, ?_, ?_, ?_, ?_⟩
  · rw [e0]; exact h6
  · rw [e0]; exact h7
  · rw [e0]; exact h8
  · rw [e0]; exact h9
theorem LB_nil : LB 0 [] := ⟨by omega, by omega, fun l h0 h1 => by simp [bit_zero]⟩
theorem LB_app {b l : Int} {L : List Lg} {y : Lg} (h : LB b L) (h0 : 0 ≤ l) (h1 : l < 16) (e : y.2.1 = l) : LB (oO b (oSl 1 l)) (L ++ [y]) := by
  obtain ⟨b0, b1, b2⟩ := h
  have p := p2_rng (k := l) 16 (by omega) h0 (by omega)
  have r := or_rng 16 (by omega) (x := b) (y := oSl 1 l) b0 (by omega) (by omega) p.2
  refine ⟨r.1, by have := r.2; omega, fun k k0 k1 => ?_⟩
  rw [bit_or b0 (by omega) (by omega) (by have := p.2; omega), bit_p2 h0 (by omega) k0, Bool.or_eq_true, b2 k k0 k1, decide_eq_true_iff]
  simp only [List.mem_append, List.mem_singleton]
  constructor
  · rintro (⟨x, hx, g⟩ | g)
    · exact ⟨x, Or.inl hx, g⟩
    · exact ⟨y, Or.inr rfl, by omega⟩
  · rintro ⟨x, hx | hx, g⟩
    · exact Or.inl ⟨x, hx, g⟩
    · subst hx
      exact Or.inr (by omega)
/-- a track begun -/
def st0 (I : HI) (t : Nat) (c : Int) : HI := up (up (up (up (up (up I (t + 1) 0 c) (t + 2) 0 (-1)) t 4 1) t 5 0) t 6 0) t 7 0
/-- a track with a lane more -/
def wkb (I : HI) (t : Nat) (l x m : Int) : HI := up (up (up (up (up (up (up (up I (t + 1) (I t 4).toNat x) (t + 2) (I t 4).toNat l) (t + 3) (I t 4).toNat (I t 5)) t 5 (I t 5 + m)) (t + 4) (I t 4).toNat (I t 5 + m)) t 4 (I t 4 + 1)) t 6 (oO (I t 6) (oSl 1 l))) t 7 1
/-- a track with a rest more -/
def sty (I : HI) (t : Nat) (m : Int) : HI := up (up I t 5 (I t 5 + m)) t 7 1
theorem st0_f {I : HI} {t k : Nat} {c : Int} (h : k < t ∨ t + 4 < k) : st0 I t c k = I k := by
  unfold st0
  repeat rw [up_k (by omega)]
theorem wkb_f {I : HI} {t k : Nat} {l x m : Int} (h : k < t ∨ t + 4 < k) : wkb I t l x m k = I k := by
  unfold wkb
  repeat rw [up_k (by omega)]
theorem sty_f {I : HI} {t k : Nat} {m : Int} (h : k < t ∨ t + 4 < k) : sty I t m k = I k := by
  unfold sty
  repeat rw [up_k (by omega)]
theorem TW_0 {I : HI} {t n : Nat} {c : Int} (ht : TR t n) (h0 : 0 < n) (h1 : n ≤ 25) : TW (st0 I t c) t n 0 c [] := by
  refine ⟨⟨ht, by simp [st0, up], by simp [AL, legs, st0, up], by simpa [legs] using h0, h1⟩, by simp [st0, up, endS], ?_, by simp [st0, up], by simp [st0, up]⟩
  have e : st0 I t c t 6 = 0 := by simp [st0, up]
  rw [e]
  exact LB_nil
theorem TW_w {I : HI} {t n : Nat} {c l x m : Int} {W : List Sp} (h : TW I t n 0 c W) (hl : (legs 0 W).length + 1 < n) (l0 : 0 ≤ l) (l1 : l < 16) : TW (wkb I t l x m) t n 0 c (W ++ [(x, l, endS 0 W + m)]) := by
  obtain ⟨⟨h1, h2, h3, h4, h5⟩, h6, h7, h8, h9⟩ := h
  have e := AL_len _ _ h3
  have el : legs 0 (W ++ [(x, l, endS 0 W + m)]) = legs 0 W ++ [(x, l, endS 0 W, endS 0 W + m)] := by
    rw [legs_app, if_neg (by show ¬ l = -1; omega)]
  have q4 : wkb I t l x m t 4 = I t 4 + 1 := by simp [wkb, up]
  have q5 : wkb I t l x m t 5 = I t 5 + m := by simp [wkb, up]
  have q6 : wkb I t l x m t 6 = oO (I t 6) (oSl 1 l) := by simp [wkb, up]
  have q7 : wkb I t l x m t 7 = 1 := by simp [wkb, up]
  refine ⟨⟨h1, ?_, ?_, by rw [el]; simp; omega, h5⟩, ?_, ?_, ?_, Or.inr q7⟩
  · have : (0 : Nat) ≠ (I t 4).toNat := by omega
    simpa [wkb, up, this] using h2
  · rw [el]
    refine AL_app _ _ _ (by omega) h3 (fun j hj => ?_) q4 ?_ ?_ ?_ ?_
    · have : j ≠ (I t 4).toNat := by omega
      simp [wkb, up, this]
    · simp [wkb, up]
    · simp [wkb, up]
    · have : wkb I t l x m (t + 3) (I t 4).toNat = I t 5 := by simp [wkb, up]
      simp only [this]; omega
    · have : wkb I t l x m (t + 4) (I t 4).toNat = I t 5 + m := by simp [wkb, up]
      simp only [this]; omega
  · rw [q5, endS_app]
    simp only [endS]
    omega
  · rw [q6, el]
    exact LB_app h7 l0 l1 rfl
  · rw [q7]
    simp
theorem TW_s {I : HI} {t n : Nat} {c x m : Int} {W : List Sp} (h : TW I t n 0 c W) : TW (sty I t m) t n 0 c (W ++ [(x, -1, endS 0 W + m)]) := by
  obtain ⟨⟨h1, h2, h3, h4, h5⟩, h6, h7, h8, h9⟩ := h
  have el : legs 0 (W ++ [(x, -1, endS 0 W + m)]) = legs 0 W := by
    rw [legs_app, if_pos rfl, List.append_nil]
  have q4 : sty I t m t 4 = I t 4 := by simp [sty, up]
  have q5 : sty I t m t 5 = I t 5 + m := by simp [sty, up]
  have q6 : sty I t m t 6 = I t 6 := by simp [sty, up]
  have q7 : sty I t m t 7 = 1 := by simp [sty, up]
  have qf : ∀ k, k ≠ t → sty I t m k = I k := fun k hk => by
    unfold sty
    rw [up_k hk, up_k hk]
  refine ⟨⟨h1, by rw [qf _ (by omega)]; exact h2, ?_, by rw [el]; exact h4, h5⟩, ?_, ?_, ?_, Or.inr q7⟩
  · rw [el]
    exact AL_fr q4 (qf _ (by omega)) (qf _ (by omega)) (qf _ (by omega)) (qf _ (by omega)) _ _ h3
  · rw [q5, endS_app]
    simp only [endS]
    omega
  · rw [q6, el]
    exact h7
  · rw [q7]
    simp
section TC
variable {d : Nat} {I : HI} {K : HI → Prop} {KI : Int → HI → Prop}
theorem c8_start {t n : Nat} {c : Int} (ht : TR t n) (h0 : 0 < n) (h1 : n ≤ 25) (h : K (st0 I t c)) : CV mX8_start (d + 1) [vR t, vI c] I K := by
  refine bk_X8_start_0 ht ⟨by omega, fun g => by omega, fun _ => ⟨by omega, fun I4 e4 => ⟨by omega, fun I5 e5 I6 e6 I7 e7 I8 e8 I9 e9 => PV_i ?_⟩⟩⟩
  subst e4 e5 e6 e7 e8 e9
  exact h
theorem c8_walkBy {t n : Nat} {l x m : Int} (ht : TR t n) (h1 : n ≤ 25) (p0 : 0 ≤ I t 4) (p1 : I t 4 < n) (f0 : -1000000 ≤ I t 5 ∧ I t 5 ≤ 1000000) (m0 : -1000000 ≤ m ∧ m ≤ 1000000) (h : K (wkb I t l x m)) : CV mX8_walkBy (d + 1) [vR t, vI l, vI x, vI m] I K := by
  refine bk_X8_walkBy_0 ht ⟨by omega, fun g => by omega, fun _ => ⟨by omega, fun I1 e1 => ?_⟩⟩
  have g1 : I1 t = I t := by rw [e1]; exact up_k (by omega)
  rw [g1]
  refine ⟨by omega, fun I2 e2 => ?_⟩
  have g2 : I2 t = I t := by rw [e2, up_k (by omega), g1]
  rw [g2]
  refine ⟨by omega, fun I3 e3 => ?_⟩
  have g3 : I3 t = I t := by rw [e3, up_k (by omega), g2]
  rw [g3]
  refine ⟨by omega, fun I4 e4 => ?_⟩
  have g4 : I4 t 4 = I t 4 := by rw [e4, up_j (by decide), g3]
  have g4' : I4 t 5 = I t 5 + m := by rw [e4, up_e]
  rw [g4, g4']
  refine ⟨by omega, fun I5 e5 => ?_⟩
  have g5 : I5 t 4 = I t 4 := by rw [e5, up_k (by omega), g4]
  rw [g5]
  refine ⟨by omega, fun I6 e6 I7 e7 I8 e8 => PV_i ?_⟩
  have g6 : I6 t 6 = I t 6 := by rw [e6, up_j (by decide), e5, up_k (by omega), e4, up_j (by decide), g3]
  rw [g6] at e7
  subst e1 e2 e3 e4 e5 e6 e7 e8
  exact h
theorem c8_stay {t n : Nat} {m : Int} (ht : TR t n) (f0 : -1000000 ≤ I t 5 ∧ I t 5 ≤ 1000000) (m0 : -1000000 ≤ m ∧ m ≤ 1000000) (h : K (sty I t m)) : CV mX8_stay (d + 1) [vR t, vI m] I K := by
  refine bk_X8_stay_0 ht ⟨by omega, fun I1 e1 I2 e2 => PV_i ?_⟩
  subst e1 e2
  exact h
theorem c9_laneTo {a b : Int} (a0 : 0 ≤ a) (a1 : a < 10) (hb : I 2 0 ≤ 10) (k0 : (b < 0 ∨ I 2 0 ≤ b) → KI (-1) I) (k1 : 0 ≤ b → b < I 2 0 → KI (I 12 (a * 10 + b).toNat) I) : CI mX9_laneTo (d + 1) [vR 32, vI a, vI b] I KI := by
  refine bk_X9_laneTo_0 ⟨fun g => PI_i (k0 (Or.inl g)), fun g => ⟨fun g2 => ⟨by omega, by omega, by omega, PI_i (k1 (by omega) g2)⟩, fun g2 => PI_i (k0 (by omega))⟩⟩
theorem c0_minutesOf {s l : Int} (s0 : 0 ≤ s) (s1 : s < 4) (l0 : 0 ≤ l) (l1 : l < 16) (hr : 0 ≤ I 6 (l * 4 + 2).toNat * I 7 (s * 4 + 1).toNat ∧ I 6 (l * 4 + 2).toNat * I 7 (s * 4 + 1).toNat ≤ 1000000) (h : KI (I 6 (l * 4 + 2).toNat * I 7 (s * 4 + 1).toNat) I) : CI mX0_minutesOf (d + 1) [vR 1, vI s, vI l] I KI := by
  refine bk_X0_minutesOf_0 ⟨by omega, by omega, by omega, by omega, by omega, by omega, by omega, PI_i h⟩
end TC
