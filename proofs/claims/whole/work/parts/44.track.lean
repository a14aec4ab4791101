abbrev Lg : Type := Int × Int × Int × Int
/-- the legs of a track from the i-th point on -/
def AL (I : HI) (t : Nat) (late : Int) : Int → List Lg → Prop
  | i, [] => i = I t 4
  | i, x :: L => i < I t 4 ∧ I (t + 1) i.toNat = x.1 ∧ I (t + 2) i.toNat = x.2.1 ∧ I (t + 3) i.toNat + late = x.2.2.1 ∧ I (t + 4) i.toNat + late = x.2.2.2 ∧ AL I t late (i + 1) L
theorem AL_len {I : HI} {t : Nat} {late : Int} : ∀ (L : List Lg) (i : Int), AL I t late i L → I t 4 = i + L.length
  | [], k, h => by simp only [AL] at h; simp; omega
  | x :: W, k, h => by
    have := AL_len W (k + 1) h.2.2.2.2.2
    simp only [List.length_cons]
    omega
def legs : Int → List Sp → List Lg
  | _, [] => []
  | t, x :: W => if x.2.1 = -1 then legs x.2.2 W else (x.1, x.2.1, t, x.2.2) :: legs x.2.2 W
def whereL : Int → List Lg → Int → Int
  | c, [], _ => c
  | c, x :: W, m => if x.2.2.2 ≤ m then whereL x.1 W m else c
def onL : List Lg → Int → Int
  | [], _ => -1
  | x :: W, m => if x.2.2.1 < m ∧ m ≤ x.2.2.2 then x.2.1 else onL W m
def lastL : Int → List Lg → Int
  | c, [] => c
  | _, x :: W => lastL x.1 W
/-- a way that can be walked, from the corner c and the minute t on: rests stay, minutes grow -/
def okW : Int → Int → List Sp → Prop
  | _, _, [] => True
  | c, t, x :: W => t < x.2.2 ∧ (x.2.1 = -1 → x.1 = c) ∧ (x.2.1 = -1 ∨ (0 ≤ x.2.1 ∧ x.2.1 < 16)) ∧ okW x.1 x.2.2 W
theorem legs_lo : ∀ (W : List Sp) (c t : Int), okW c t W → ∀ x ∈ legs t W, t ≤ x.2.2.1 ∧ x.2.2.1 < x.2.2.2
  | [], c, t, h, x, hx => by simp [legs] at hx
  | y :: W, c, t, h, x, hx => by
    obtain ⟨h1, h2, h3, h4⟩ := h
    unfold legs at hx
    split at hx
    · have := legs_lo W _ _ h4 x hx
      omega
    · rcases List.mem_cons.mp hx with rfl | hx
      · exact ⟨by simp, h1⟩
      · have := legs_lo W _ _ h4 x hx
        omega
theorem whereL_lo : ∀ (L : List Lg) (c m : Int), (∀ x ∈ L, m < x.2.2.2) → whereL c L m = c
  | [], c, m, h => rfl
  | x :: L, c, m, h => by
    have := h x List.mem_cons_self
    unfold whereL
    rw [if_neg (by omega)]
theorem onL_lo : ∀ (L : List Lg) (m : Int), (∀ x ∈ L, m ≤ x.2.2.1) → onL L m = -1
  | [], m, h => rfl
  | x :: L, m, h => by
    have := h x List.mem_cons_self
    unfold onL
    rw [if_neg (by omega), onL_lo L m (fun y hy => h y (List.mem_cons_of_mem _ hy))]
theorem where_eq : ∀ (W : List Sp) (c t m : Int), okW c t W → whereS c W m = whereL c (legs t W) m
  | [], c, t, m, h => rfl
  | x :: W, c, t, m, h => by
    have hh := h
    obtain ⟨h1, h2, h3, h4⟩ := h
    unfold whereS legs
    by_cases hx : x.2.1 = -1
    · rw [if_pos hx]
      by_cases hm : x.2.2 ≤ m
      · rw [if_pos hm, where_eq W x.1 x.2.2 m h4, h2 hx]
      · rw [if_neg hm, whereL_lo]
        intro y hy
        have := legs_lo W _ _ h4 y hy
        omega
    · rw [if_neg hx]
      unfold whereL
      by_cases hm : x.2.2 ≤ m
      · rw [if_pos hm, if_pos hm, where_eq W x.1 x.2.2 m h4]
      · rw [if_neg hm, if_neg hm]
theorem on_eq : ∀ (W : List Sp) (c t m : Int), okW c t W → onS t W m = onL (legs t W) m
  | [], c, t, m, h => rfl
  | x :: W, c, t, m, h => by
    obtain ⟨h1, h2, h3, h4⟩ := h
    unfold onS legs
    by_cases hx : x.2.1 = -1
    · rw [if_pos hx]
      by_cases hm : t < m ∧ m ≤ x.2.2
      · rw [if_pos hm, hx, onL_lo]
        intro y hy
        have := legs_lo W _ _ h4 y hy
        omega
      · rw [if_neg hm, on_eq W x.1 x.2.2 m h4]
    · rw [if_neg hx]
      unfold onL
      by_cases hm : t < m ∧ m ≤ x.2.2
      · rw [if_pos hm, if_pos hm]
      · rw [if_neg hm, if_neg hm, on_eq W x.1 x.2.2 m h4]
theorem last_eq : ∀ (W : List Sp) (c t : Int), okW c t W → lastS c W = lastL c (legs t W)
  | [], c, t, h => rfl
  | x :: W, c, t, h => by
    obtain ⟨h1, h2, h3, h4⟩ := h
    unfold lastS legs
    by_cases hx : x.2.1 = -1
    · rw [if_pos hx, last_eq W _ _ h4, h2 hx]
    · rw [if_neg hx]
      unfold lastL
      rw [last_eq W _ _ h4]
theorem legs_len : ∀ (W : List Sp) (t : Int), (legs t W).length ≤ W.length
  | [], t => Nat.le_refl _
  | x :: W, t => by
    unfold legs
    split
    · have := legs_len W x.2.2
      simp only [List.length_cons]
      omega
    · have := legs_len W x.2.2
      simp only [List.length_cons]
      omega
theorem okW_lane : ∀ (W : List Sp) (c t : Int), okW c t W → ∀ x ∈ legs t W, 0 ≤ x.2.1 ∧ x.2.1 < 16
  | [], c, t, h, x, hx => by simp [legs] at hx
  | y :: W, c, t, h, x, hx => by
    obtain ⟨h1, h2, h3, h4⟩ := h
    unfold legs at hx
    split at hx
    · exact okW_lane W _ _ h4 x hx
    · rcases List.mem_cons.mp hx with rfl | hx
      · have : ¬ y.2.1 = -1 := by assumption
        simp only
        omega
      · exact okW_lane W _ _ h4 x hx
theorem okW_come : ∀ (W : List Sp) (c t : Int), okW c t W → ∀ x ∈ W, t < x.2.2 ∧ x.2.2 ≤ endS t W
  | [], c, t, h, x, hx => by simp at hx
  | [y], c, t, h, x, hx => by
    rw [List.mem_singleton.mp hx]
    exact ⟨h.1, Int.le_refl _⟩
  | y :: z :: W, c, t, h, x, hx => by
    obtain ⟨h1, h2, h3, h4⟩ := h
    have ih := okW_come (z :: W) _ _ h4
    rcases List.mem_cons.mp hx with rfl | hx
    · have := ih z List.mem_cons_self
      refine ⟨h1, ?_⟩
      show x.2.2 ≤ endS x.2.2 (z :: W)
      omega
    · have := ih x hx
      refine ⟨by omega, this.2⟩
theorem end_ge : ∀ (W : List Sp) (c t : Int), okW c t W → t ≤ endS t W
  | [], c, t, h => Int.le_refl _
  | x :: W, c, t, h => by
    obtain ⟨h1, h2, h3, h4⟩ := h
    have := end_ge W _ _ h4
    unfold endS
    omega
theorem pet_eq (P : Int → Prop) (l : Int) (hl : l ≠ -1) : ∀ (W : List Sp) (t : Int), (∃ x ∈ W, x.2.1 = l ∧ P x.2.2) ↔ (∃ x ∈ legs t W, x.2.1 = l ∧ P x.2.2.2)
  | [], t => by simp [legs]
  | y :: W, t => by
    have ih := pet_eq P l hl W y.2.2
    unfold legs
    split
    · rw [← ih]
      constructor
      · rintro ⟨x, hx, h1, h2⟩
        rcases List.mem_cons.mp hx with rfl | hx
        · omega
        · exact ⟨x, hx, h1, h2⟩
      · rintro ⟨x, hx, h1, h2⟩
        exact ⟨x, List.mem_cons_of_mem _ hx, h1, h2⟩
    · constructor
      · rintro ⟨x, hx, h1, h2⟩
        rcases List.mem_cons.mp hx with rfl | hx
        · exact ⟨_, List.mem_cons_self, h1, h2⟩
        · obtain ⟨z, hz, h3, h4⟩ := ih.mp ⟨x, hx, h1, h2⟩
          exact ⟨z, List.mem_cons_of_mem _ hz, h3, h4⟩
      · rintro ⟨x, hx, h1, h2⟩
        rcases List.mem_cons.mp hx with rfl | hx
        · exact ⟨y, List.mem_cons_self, h1, h2⟩
        · obtain ⟨z, hz, h3, h4⟩ := ih.mpr ⟨x, hx, h1, h2⟩
          exact ⟨z, List.mem_cons_of_mem _ hz, h3, h4⟩
/-- the track t (room n), later by late, has the corner c and the legs L -/
def TK (I : HI) (t n : Nat) (late c : Int) (L : List Lg) : Prop := TR t n ∧ I (t + 1) 0 = c ∧ AL I t late 1 L ∧ L.length < n ∧ n ≤ 25
section TRK
variable {d : Nat} {I : HI} {K : Int → HI → Prop}
theorem cornerAt_lp {t n : Nat} {m : Int} (ht : TR t n) (hn : n ≤ 25) : ∀ (L : List Lg) (i j c : Int), AL I t 0 i L → 0 < i → i + L.length ≤ n → 0 ≤ j → j < i → I (t + 1) j.toNat = c → K (whereL c L m) I → J none mX8_cornerAt (d + 1) 0 0 4 [(0, vR t), (1, vI m), (2, vI j), (3, vI i)] [] (mk I) (PI K)
  | [], i, j, c, ha, hi, hl, hj, hji, hc, h => by
    have e := AL_len _ _ ha
    simp at e hl
    refine bk_X8_cornerAt_4 ht ?_
    rw [hc]
    (repeat' (with_reducible first | refine And.intro ?_ ?_ | intro _ | refine PI_i ?_ | refine PV_i ?_ | refine PL_i ?_)) <;> first | omega | exact h
  | x :: L, i, j, c, ha, hi, hl, hj, hji, hc, h => by
    have e := AL_len _ _ ha
    simp only [List.length_cons] at e hl
    obtain ⟨g1, g2, g3, g4, g5, g6⟩ := ha
    unfold whereL at h
    refine bk_X8_cornerAt_4 ht ?_
    rw [hc]
    have ih := cornerAt_lp (m := m) ht hn L (i + 1) i x.1 g6 (by omega) (by omega) (by omega) (by omega) g2
    (repeat' (with_reducible first | refine And.intro ?_ ?_ | intro _ | refine PI_i ?_ | refine PV_i ?_ | refine PL_i ?_)) <;> first | omega | skip
    · rw [if_neg (by omega)] at h
      exact h
    · rw [if_pos (by omega)] at h
      exact ih h
theorem c8_cornerAt {t n : Nat} {m c : Int} {L : List Lg} (hk : TK I t n 0 c L) (h : K (whereL c L m) I) : CI mX8_cornerAt (d + 1) [vR t, vI m] I K :=
  bk_X8_cornerAt_0 hk.1 (cornerAt_lp hk.1 hk.2.2.2.2 L 1 0 c hk.2.2.1 (by omega) (by have := hk.2.2.2.1; omega) (by omega) (by omega) hk.2.1 h)
theorem laneAt_lp {t n : Nat} {m : Int} (ht : TR t n) (hn : n ≤ 25) : ∀ (L : List Lg) (i : Int), AL I t 0 i L → 0 < i → i + L.length ≤ n → K (onL L m) I → J none mX8_laneAt (d + 1) 0 0 2 [(0, vR t), (1, vI m), (2, vI i)] [] (mk I) (PI K)
  | [], i, ha, hi, hl, h => by
    have e := AL_len _ _ ha
    simp at e hl
    refine bk_X8_laneAt_2 ht ?_
    (repeat' (with_reducible first | refine And.intro ?_ ?_ | intro _ | refine PI_i ?_ | refine PV_i ?_ | refine PL_i ?_)) <;> first | omega | exact h
  | x :: L, i, ha, hi, hl, h => by
    have e := AL_len _ _ ha
    simp only [List.length_cons] at e hl
    obtain ⟨g1, g2, g3, g4, g5, g6⟩ := ha
    unfold onL at h
    refine bk_X8_laneAt_2 ht ?_
    rw [g3]
    have ih := laneAt_lp (m := m) ht hn L (i + 1) g6 (by omega) (by omega)
    (repeat' (with_reducible first | refine And.intro ?_ ?_ | intro _ | refine PI_i ?_ | refine PV_i ?_ | refine PL_i ?_)) <;> first | omega | skip
    · rw [if_neg (by omega)] at h
      exact ih h
    · rw [if_neg (by omega)] at h
      exact ih h
    · rw [if_pos (by omega)] at h
      exact h
theorem c8_laneAt {t n : Nat} {m c : Int} {L : List Lg} (hk : TK I t n 0 c L) (h : K (onL L m) I) : CI mX8_laneAt (d + 1) [vR t, vI m] I K :=
  bk_X8_laneAt_0 hk.1 (laneAt_lp hk.1 hk.2.2.2.2 L 1 hk.2.2.1 (by omega) (by have := hk.2.2.2.1; omega) h)
theorem AL_last {I : HI} {t : Nat} {late : Int} : ∀ (L : List Lg) (i c : Int), 0 < i → AL I t late i L → I (t + 1) (i - 1).toNat = c → I (t + 1) (I t 4 - 1).toNat = lastL c L
  | [], i, c, hi, h, hc => by
    simp only [AL] at h
    rw [← h, hc]
    rfl
  | x :: L, i, c, hi, h, hc => by
    obtain ⟨g1, g2, g3, g4, g5, g6⟩ := h
    unfold lastL
    refine AL_last L (i + 1) x.1 (by omega) g6 ?_
    rw [← g2]
    congr 2
    omega
theorem c8_lastCorner {t n : Nat} {late c : Int} {L : List Lg} (hk : TK I t n late c L) (h : K (lastL c L) I) : CI mX8_lastCorner (d + 1) [vR t] I K := by
  obtain ⟨k1, k2, k3, k4, k5⟩ := hk
  have e := AL_len _ _ k3
  have e2 := AL_last L 1 c (by omega) k3 k2
  refine bk_X8_lastCorner_0 k1 ?_
  rw [e2]
  (repeat' (with_reducible first | refine And.intro ?_ ?_ | intro _ | refine PI_i ?_ | refine PV_i ?_ | refine PL_i ?_)) <;> first | omega | exact h
end TRK
