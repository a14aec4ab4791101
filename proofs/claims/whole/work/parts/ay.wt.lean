/-- codes that leave one value of this kind on what lies there, m deep at most -/
def wtx (c : List Int) (b : Bool) (m : Nat) : Prop := ∀ (r : List Int) (τ : List Bool), τ.length + m ≤ 64 → wt r (b :: τ) → wt (c ++ r) τ
theorem wt_num {v : Int} {r : List Int} {τ : List Bool} (h0 : 0 ≤ v) (h1 : v ≤ 9999) (hl : τ.length < 64) (h : wt r (false :: τ)) : wt ((1000 + v) :: r) τ := by
  unfold wt
  rw [if_pos (by omega)]
  exact ⟨by omega, hl, h⟩
theorem wt_ask {a : Int} {r : List Int} {τ : List Bool} (ha : (7 ≤ a ∧ a ≤ 10) ∨ a = 18) (hl : τ.length < 64) (h : wt r (false :: τ)) : wt (a :: r) τ := by
  unfold wt
  rw [if_neg (by omega), if_neg (by omega), if_pos ha]
  exact ⟨hl, h⟩
theorem wt_all {r : List Int} {τ : List Bool} (hl : τ.length < 64) (h : wt r (true :: τ)) : wt (17 :: r) τ := by
  unfold wt
  rw [if_neg (by omega), if_pos rfl]
  exact ⟨hl, h⟩
theorem wt_not {r : List Int} {τ : List Bool} (h : wt r (true :: τ)) : wt (16 :: r) (true :: τ) := by
  unfold wt
  rw [if_neg (by omega), if_neg (by omega), if_neg (by omega), if_pos rfl]
  exact ⟨τ, rfl, h⟩
theorem wt_op {q : Int} {r : List Int} {τ : List Bool} (hq : 1 ≤ q ∧ q ≤ 6) (h : wt r (false :: τ)) : wt (q :: r) (false :: false :: τ) := by
  unfold wt
  rw [if_neg (by omega), if_neg (by omega), if_neg (by omega), if_neg (by omega), if_pos hq]
  exact ⟨τ, rfl, h⟩
theorem wt_cmp {q : Int} {r : List Int} {τ : List Bool} (hq : 11 ≤ q ∧ q ≤ 13) (h : wt r (true :: τ)) : wt (q :: r) (false :: false :: τ) := by
  unfold wt
  rw [if_neg (by omega), if_neg (by omega), if_neg (by omega), if_neg (by omega), if_neg (by omega), if_pos hq]
  exact ⟨τ, rfl, h⟩
theorem wt_and {q : Int} {r : List Int} {τ : List Bool} (hq : q = 14 ∨ q = 15) (h : wt r (true :: τ)) : wt (q :: r) (true :: true :: τ) := by
  unfold wt
  rw [if_neg (by omega), if_neg (by omega), if_neg (by omega), if_neg (by omega), if_neg (by omega), if_neg (by omega), if_pos hq]
  exact ⟨τ, rfl, h⟩
/-- what waits: one value for each -/
def wop (b : Bool) (x : Int) : Prop := x = 0 ∨ ∀ (r : List Int) (τ : List Bool), wt r (b :: τ) → wt (x :: r) (b :: b :: τ)
theorem wop_0 (b : Bool) : wop b 0 := Or.inl rfl
def plb (b : Bool) (x : Int) : List Bool := if x = 0 then [] else [b]
theorem plb_len (b : Bool) (x : Int) : (plb b x).length ≤ 1 := by unfold plb; split <;> simp
theorem wt_opt {b : Bool} {x : Int} (hx : wop b x) {r : List Int} {τ : List Bool} (h : wt r (b :: τ)) : wt (opt x ++ r) (b :: (plb b x ++ τ)) := by
  by_cases e : x = 0
  · rw [e, opt_0]
    unfold plb
    rw [if_pos rfl]
    exact h
  · rw [opt_n e]
    unfold plb
    rw [if_neg e]
    exact (hx.resolve_left e) r τ h
theorem wt_loop {Pa : Nat → Nat → List Int → Prop} {o1 o2 : Nat → Int → Prop} {b : Bool} {m : Nat} (hP : ∀ i j cs, Pa i j cs → wtx cs b m) (h1 : ∀ j q, o1 j q → wop b q ∧ q ≠ 0) (h2 : ∀ j q, o2 j q → wop b q ∧ q ≠ 0) : ∀ (L : Nat) (p a : Int) (i j : Nat) (cs : List Int), Lps Pa o1 o2 L p a i j cs → wop b p → wop b a → ∀ (r : List Int) (τ : List Bool), τ.length + 2 + m ≤ 64 → wt r (b :: τ) → wt (cs ++ r) (plb b p ++ (plb b a ++ τ))
  | 0, _, _, _, _, _, h, _, _, _, _, _, _ => h.elim
  | L + 1, p, a, i, j, cs, h, wp, wa, r, τ, hl, hr => by
    obtain ⟨j1, c1, g1, g2⟩ := h
    have l1 := plb_len b p
    have l2 := plb_len b a
    have hw := hP _ _ _ g1
    have hlen : (plb b p ++ (plb b a ++ τ)).length + m ≤ 64 := by simp only [List.length_append]; omega
    rcases g2 with ⟨_, _, _, e⟩ | ⟨q, c2, hq, g3, e⟩ | ⟨q, c2, _, hq, g3, e⟩
    · rw [e, List.append_assoc, List.append_assoc]
      exact hw _ _ hlen (wt_opt wp (wt_opt wa hr))
    · have ih := wt_loop hP h1 h2 L q a _ _ _ g3 (h1 _ _ hq).1 wa r τ hl hr
      rw [e, List.append_assoc, List.append_assoc]
      refine hw _ _ hlen (wt_opt wp ?_)
      have e1 : plb b q = [b] := if_neg (h1 _ _ hq).2
      rw [e1] at ih
      exact ih
    · have ih := wt_loop hP h1 h2 L 0 q _ _ _ g3 (wop_0 b) (h2 _ _ hq).1 r τ hl hr
      rw [e, List.append_assoc, List.append_assoc, List.append_assoc]
      refine hw _ _ hlen (wt_opt wp (wt_opt wa ?_))
      have e1 : plb b q = [b] := if_neg (h2 _ _ hq).2
      have e0 : plb b 0 = [] := if_pos rfl
      rw [e1, e0] at ih
      exact ih
theorem wt_lp {Pa : Nat → Nat → List Int → Prop} {o1 o2 : Nat → Int → Prop} {b : Bool} {m L i j : Nat} {cs : List Int} (hP : ∀ i j cs, Pa i j cs → wtx cs b m) (h1 : ∀ j q, o1 j q → wop b q ∧ q ≠ 0) (h2 : ∀ j q, o2 j q → wop b q ∧ q ≠ 0) (h : Lps Pa o1 o2 L 0 0 i j cs) : wtx cs b (m + 2) := fun r τ hl hr => by
  have := wt_loop hP h1 h2 L 0 0 i j cs h (wop_0 b) (wop_0 b) r τ (by omega) hr
  have e0 : plb b 0 = [] := if_pos rfl
  rw [e0] at this
  exact this
section WX
variable {t : Txt}
theorem mop_w (j : Nat) (q : Int) (h : mop t j q) : wop false q ∧ q ≠ 0 := by
  have := (mop_q h).1
  exact ⟨Or.inr (fun r τ hr => wt_op (by omega) hr), by omega⟩
theorem aop_w (j : Nat) (q : Int) (h : aop t j q) : wop false q ∧ q ≠ 0 := by
  have := (aop_q h).1
  exact ⟨Or.inr (fun r τ hr => wt_op (by omega) hr), by omega⟩
theorem anp_w (j : Nat) (q : Int) (h : anp t j q) : wop true q ∧ q ≠ 0 := by
  have := h.2
  exact ⟨Or.inr (fun r τ hr => wt_and (by omega) hr), by omega⟩
theorem orp_w (j : Nat) (q : Int) (h : orp t j q) : wop true q ∧ q ≠ 0 := by
  have := h.2
  exact ⟨Or.inr (fun r τ hr => wt_and (by omega) hr), by omega⟩
theorem wtx_m {c : List Int} {b : Bool} {m m' : Nat} (h : wtx c b m) (l : m ≤ m') : wtx c b m' := fun r τ hl hr => h r τ (by omega) hr
theorem Pts_w : ∀ (D i j : Nat) (cs : List Int), Pts t D i j cs → wtx cs false (1 + 3 * D) := by
  have base : ∀ i j cs, Smp t i j cs → wtx cs false 1 := fun i j cs h r τ hl hr => by
    rcases h.2 with ⟨a, ha, e⟩ | ⟨v, hv, e⟩
    · rw [e]
      refine wt_ask ?_ (by omega) hr
      have := ha.1.1
      rw [ha.2]
      split <;> omega
    · rw [e]
      exact wt_num hv.2.2.2.1 hv.2.2.2.2 (by omega) hr
  intro D
  induction D with
  | zero => exact base
  | succ D ih =>
    intro i j cs h
    rcases h with h | ⟨L, j1, _, h1, _, _⟩ | ⟨q, L1, j1, c1, L2, j2, c2, hq, _, h1, _, h2, _, _, e⟩
    · exact wtx_m (base _ _ _ h) (by omega)
    · exact wtx_m (wt_lp ih mop_w aop_w h1) (by omega)
    · have w1 := wt_lp ih mop_w aop_w h1
      have w2 := wt_lp ih mop_w aop_w h2
      intro r τ hl hr
      rw [e, List.append_assoc, List.append_assoc]
      refine w1 _ _ (by omega) (w2 _ _ (by simp only [List.length_cons]; omega) ?_)
      refine wt_op ?_ hr
      have := hq.1.1
      have := hq.2
      omega
theorem Sms_w {D i j : Nat} {cs : List Int} (h : Sms t D i j cs) : wtx cs false (3 + 3 * D) := by
  obtain ⟨L, h⟩ := h
  exact wtx_m (wt_lp (Pts_w D) mop_w aop_w h) (by omega)
theorem Fts_w : ∀ (D i j : Nat) (cs : List Int), Fts t D i j cs → wtx cs true (4 + 5 * D) := by
  have base : ∀ D i j cs, Fsm t D i j cs → wtx cs true (4 + 3 * D) := fun D i j cs h r τ hl hr => by
    rcases h with ⟨_, _, e⟩ | ⟨_, j1, c1, q, c2, h1, hq, h2, e⟩
    · rw [e]
      exact wt_all (by omega) hr
    · rw [e, List.append_assoc, List.append_assoc]
      refine Sms_w h1 _ _ (by omega) (Sms_w h2 _ _ (by simp only [List.length_cons]; omega) (wt_cmp ?_ hr))
      rcases hq with u | u | u <;> omega
  intro D
  induction D with
  | zero => intro i j cs h; exact base 0 i j cs h
  | succ D ih =>
    intro i j cs h
    rcases h with h | ⟨c1, _, h1, e⟩ | ⟨L, j1, _, h1, _, _⟩
    · exact wtx_m (base _ _ _ _ h) (by omega)
    · intro r τ hl hr
      rw [e, List.append_assoc]
      exact ih _ _ _ h1 _ _ (by omega) (wt_not hr)
    · exact wtx_m (wt_lp ih anp_w orp_w h1) (by omega)
theorem Tss_w {i j : Nat} {cs : List Int} (h : Tss t 6 i j cs) : wt cs [] := by
  obtain ⟨L, h⟩ := h
  have := wt_lp (Fts_w 6) anp_w orp_w h [] [] (by simp) (by unfold wt; rfl)
  rw [List.append_nil] at this
  exact this
/-- no token between is joined -/
def njt (t : Txt) (i j : Nat) : Prop := ∀ u, i ≤ u → u < j → uK t u ≤ 28 → ¬ jnd t u
theorem njt_1 {i : Nat} (h : ¬ jnd t i ∨ uK t i = 29) : njt t i (i + 1) := fun u a b c => by
  have : u = i := by omega
  subst this
  rcases h with w | w
  · exact w
  · omega
theorem njt_c {i j k : Nat} (h : njt t i j) (g : njt t j k) : njt t i k := fun u a b c => by
  by_cases e : u < j
  · exact h u a e c
  · exact g u (by omega) b c
theorem nj_loop {Pa : Nat → Nat → List Int → Prop} {o1 o2 : Nat → Int → Prop} (hP : ∀ i j cs, Pa i j cs → njt t i j) (h1 : ∀ j q, o1 j q → (¬ jnd t j ∨ uK t j = 29)) (h2 : ∀ j q, o2 j q → (¬ jnd t j ∨ uK t j = 29)) : ∀ (L : Nat) (p a : Int) (i j : Nat) (cs : List Int), Lps Pa o1 o2 L p a i j cs → njt t i j
  | 0, _, _, _, _, _, h => h.elim
  | L + 1, p, a, i, j, cs, h => by
    obtain ⟨j1, c1, g1, g2⟩ := h
    have w := hP _ _ _ g1
    rcases g2 with ⟨_, _, e, _⟩ | ⟨q, c2, hq, g3, _⟩ | ⟨q, c2, _, hq, g3, _⟩
    · rw [e]; exact w
    · exact njt_c (njt_c w (njt_1 (h1 _ _ hq))) (nj_loop hP h1 h2 L _ _ _ _ _ g3)
    · exact njt_c (njt_c w (njt_1 (h2 _ _ hq))) (nj_loop hP h1 h2 L _ _ _ _ _ g3)
theorem mop_j (j : Nat) (q : Int) (h : mop t j q) : ¬ jnd t j ∨ uK t j = 29 := Or.inr (mop_q h).2
theorem aop_j (j : Nat) (q : Int) (h : aop t j q) : ¬ jnd t j ∨ uK t j = 29 := Or.inr (aop_q h).2
theorem Pts_j : ∀ (D i j : Nat) (cs : List Int), Pts t D i j cs → njt t i j := by
  have base : ∀ i j cs, Smp t i j cs → njt t i j := fun i j cs h => by
    rw [h.1]
    rcases h.2 with ⟨a, ha, _⟩ | ⟨v, hv, _⟩
    · exact njt_1 (Or.inl ha.1.2)
    · exact njt_1 (Or.inl hv.1.2)
  intro D
  induction D with
  | zero => exact base
  | succ D ih =>
    intro i j cs h
    have lp := fun L p a i j cs => nj_loop (t := t) ih mop_j aop_j L p a i j cs
    rcases h with h | ⟨L, j1, s1, h1, s2, e⟩ | ⟨q, L1, j1, c1, L2, j2, c2, hq, s1, h1, s2, h2, s3, e, _⟩
    · exact base _ _ _ h
    · rw [e]
      exact njt_c (njt_c (njt_1 (Or.inr s1.1)) (lp _ _ _ _ _ _ h1)) (njt_1 (Or.inr s2.1))
    · rw [e]
      exact njt_c (njt_c (njt_c (njt_c (njt_c (njt_1 (Or.inl hq.1.2)) (njt_1 (Or.inr s1.1))) (lp _ _ _ _ _ _ h1)) (njt_1 (Or.inr s2.1))) (lp _ _ _ _ _ _ h2)) (njt_1 (Or.inr s3.1))
theorem Sms_j {D i j : Nat} {cs : List Int} (h : Sms t D i j cs) : njt t i j := by
  obtain ⟨L, h⟩ := h
  exact nj_loop (Pts_j D) mop_j aop_j L _ _ _ _ _ h
theorem Fts_j : ∀ (D i j : Nat) (cs : List Int), Fts t D i j cs → njt t i j := by
  have base : ∀ D i j cs, Fsm t D i j cs → njt t i j := fun D i j cs h => by
    rcases h with ⟨u, e, _⟩ | ⟨_, j1, c1, q, c2, h1, hq, h2, _⟩
    · rw [e]; exact njt_1 (Or.inl u.2)
    · refine njt_c (njt_c (Sms_j h1) (njt_1 (Or.inr ?_))) (Sms_j h2)
      rcases hq with u | u | u <;> exact u.1.1
  intro D
  induction D with
  | zero => intro i j cs h; exact base 0 i j cs h
  | succ D ih =>
    intro i j cs h
    rcases h with h | ⟨c1, u, h1, _⟩ | ⟨L, j1, s1, h1, s2, e⟩
    · exact base _ _ _ _ h
    · exact njt_c (njt_1 (Or.inl u.2)) (ih _ _ _ h1)
    · rw [e]
      exact njt_c (njt_c (njt_1 (Or.inr s1.1)) (nj_loop ih (fun j q h => Or.inl h.1.2) (fun j q h => Or.inl h.1.2) _ _ _ _ _ _ h1)) (njt_1 (Or.inr s2.1))
theorem Tss_j {D i j : Nat} {cs : List Int} (h : Tss t D i j cs) : njt t i j := by
  obtain ⟨L, h⟩ := h
  exact nj_loop (Fts_j D) (fun j q h => Or.inl h.1.2) (fun j q h => Or.inl h.1.2) L _ _ _ _ _ h
end WX
