theorem tr_n {x : Int} (h : 1000 ≤ x) : tr x = x - 1000 := by
  unfold tr
  rw [if_pos h]
theorem tr_17 : tr 17 = 1 := by decide
theorem tr_f {x : Int} (h : 7 ≤ x ∧ x ≤ 10) : tr x = 6 - x := by
  unfold tr
  rw [if_neg (by omega), if_neg (by omega), if_pos h]
theorem tr_18 : tr 18 = -5 := by decide
theorem tr_16 : tr 16 = -15 := by decide
theorem tr_o {x : Int} (h : (1 ≤ x ∧ x ≤ 6) ∨ (11 ≤ x ∧ x ≤ 15)) : tr x < -5 ∧ tr x ≠ -15 := by
  unfold tr
  rw [if_neg (by omega), if_neg (by omega), if_neg (by omega), if_neg (by omega)]
  split
  · omega
  · split
    · omega
    · rw [if_neg (by omega)]
      split <;> omega
theorem st1_n {f : Nat → Int} {x : Int} {st : List Int} (h : 1000 ≤ x) : st1 f x st = (x - 1000) :: st := by
  unfold st1
  rw [if_pos h]
theorem st1_17 {f : Nat → Int} {st : List Int} : st1 f 17 st = 1 :: st := by
  unfold st1
  rw [if_neg (by omega), if_pos rfl]
theorem st1_f {f : Nat → Int} {x : Int} {st : List Int} (h : 7 ≤ x ∧ x ≤ 10) : st1 f x st = f (x - 7).toNat :: st := by
  unfold st1
  rw [if_neg (by omega), if_neg (by omega), if_pos h]
theorem st1_18 {f : Nat → Int} {st : List Int} : st1 f 18 st = f 4 :: st := by
  unfold st1
  rw [if_neg (by omega), if_neg (by omega), if_neg (by omega), if_pos rfl]
theorem st1_16 {f : Nat → Int} {b : Int} {r : List Int} : st1 f 16 (b :: r) = (1 - b) :: r := by
  unfold st1
  rw [if_neg (by omega), if_neg (by omega), if_neg (by omega), if_neg (by omega), if_pos rfl]
theorem st1_o {f : Nat → Int} {x a b : Int} {r : List Int} (h : (1 ≤ x ∧ x ≤ 6) ∨ (11 ≤ x ∧ x ≤ 15)) : st1 f x (b :: a :: r) = opv x a b :: r := by
  unfold st1
  rw [if_neg (by omega), if_neg (by omega), if_neg (by omega), if_neg (by omega), if_neg (by omega)]
/-- a step of codes that can be run, seen from its values -/
theorem wt_step {f : Nat → Int} (hf : ∀ j, -1000000 ≤ f j ∧ f j ≤ 1000000) {x : Int} {c : List Int} {τ : List Bool} {st : List Int} (h : wt (x :: c) τ) (hv : tvs τ st) : ∃ τ', wt c τ' ∧ tvs τ' (st1 f x st) ∧ ((st1 f x st = (if 1000 ≤ x then x - 1000 else if x = 17 then 1 else if x = 18 then f 4 else f (x - 7).toNat) :: st ∧ st.length < 64 ∧ ((1000 ≤ x ∧ x ≤ 10999) ∨ x = 17 ∨ x = 18 ∨ (7 ≤ x ∧ x ≤ 10))) ∨ (x = 16 ∧ ∃ b r, st = b :: r ∧ (b = 0 ∨ b = 1) ∧ st1 f x st = (1 - b) :: r) ∨ (((1 ≤ x ∧ x ≤ 6) ∨ (11 ≤ x ∧ x ≤ 15)) ∧ ∃ b a r, st = b :: a :: r ∧ (-1000000 ≤ a ∧ a ≤ 1000000) ∧ (-1000000 ≤ b ∧ b ≤ 1000000) ∧ (14 ≤ x → (a = 0 ∨ a = 1) ∧ (b = 0 ∨ b = 1)) ∧ st1 f x st = opv x a b :: r)) := by
  have hl := tvs_len _ _ hv
  unfold wt at h
  split at h
  · rename_i g
    refine ⟨_, h.2.2, ?_, Or.inl ⟨by rw [st1_n g, if_pos g], by omega, Or.inl ⟨g, h.1⟩⟩⟩
    rw [st1_n g]
    exact ⟨by simp only [Bool.false_eq_true, if_false]; omega, hv⟩
  · rename_i g0
    split at h
    · rename_i g
      subst g
      refine ⟨_, h.2, ?_, Or.inl ⟨by rw [st1_17]; rfl, by omega, Or.inr (Or.inl rfl)⟩⟩
      rw [st1_17]
      exact ⟨by simp, hv⟩
    · rename_i g1
      split at h
      · rename_i g
        rcases g with g | g
        · refine ⟨_, h.2, ?_, Or.inl ⟨by rw [st1_f g, if_neg g0, if_neg g1, if_neg (by omega)], by omega, Or.inr (Or.inr (Or.inr g))⟩⟩
          rw [st1_f g]
          exact ⟨by simp only [Bool.false_eq_true, if_false]; exact hf _, hv⟩
        · subst g
          refine ⟨_, h.2, ?_, Or.inl ⟨by rw [st1_18]; rfl, by omega, Or.inr (Or.inr (Or.inl rfl))⟩⟩
          rw [st1_18]
          exact ⟨by simp only [Bool.false_eq_true, if_false]; exact hf _, hv⟩
      · rename_i g2
        split at h
        · rename_i g
          subst g
          obtain ⟨τ', e, h⟩ := h
          subst e
          cases st with
          | nil => simp [tvs] at hv
          | cons b r =>
            have hb := hv.1
            simp only [if_true] at hb
            refine ⟨_, h, ?_, Or.inr (Or.inl ⟨rfl, b, r, rfl, hb, st1_16⟩)⟩
            rw [st1_16]
            exact ⟨by simp only [if_true]; omega, hv.2⟩
        · rename_i g3
          split at h
          · rename_i g
            obtain ⟨τ', e, h⟩ := h
            subst e
            match st, hv with
            | b :: a :: r, hv =>
              have hb := hv.1
              have ha := hv.2.1
              simp only [Bool.false_eq_true, if_false] at ha hb
              refine ⟨_, h, ?_, Or.inr (Or.inr ⟨Or.inl g, b, a, r, rfl, ha, hb, fun q => by omega, st1_o (Or.inl g)⟩)⟩
              rw [st1_o (Or.inl g)]
              exact ⟨by simp only [Bool.false_eq_true, if_false]; exact opv_s g ha hb, hv.2.2⟩
            | [], hv => simp [tvs] at hv
            | [b], hv => simp [tvs] at hv
          · rename_i g4
            split at h
            · rename_i g
              obtain ⟨τ', e, h⟩ := h
              subst e
              match st, hv with
              | b :: a :: r, hv =>
                have hb := hv.1
                have ha := hv.2.1
                simp only [Bool.false_eq_true, if_false] at ha hb
                refine ⟨_, h, ?_, Or.inr (Or.inr ⟨Or.inr (by omega), b, a, r, rfl, ha, hb, fun q => by omega, st1_o (Or.inr (by omega))⟩)⟩
                rw [st1_o (Or.inr (by omega))]
                exact ⟨by simp only [if_true]; exact opv_c g, hv.2.2⟩
              | [], hv => simp [tvs] at hv
              | [b], hv => simp [tvs] at hv
            · rename_i g5
              split at h
              · rename_i g
                obtain ⟨τ', e, h⟩ := h
                subst e
                match st, hv with
                | b :: a :: r, hv =>
                  have hb := hv.1
                  have ha := hv.2.1
                  simp only [if_true] at ha hb
                  refine ⟨_, h, ?_, Or.inr (Or.inr ⟨Or.inr (by omega), b, a, r, rfl, by omega, by omega, fun q => ⟨ha, hb⟩, st1_o (Or.inr (by omega))⟩)⟩
                  rw [st1_o (Or.inr (by omega))]
                  exact ⟨by simp only [if_true]; exact opv_b g ha hb, hv.2.2⟩
                | [], hv => simp [tvs] at hv
                | [b], hv => simp [tvs] at hv
              · exact absurd h id
theorem wt_end {st : List Int} {τ : List Bool} (h : wt [] τ) (hv : tvs τ st) : ∃ v, st = [v] ∧ (v = 0 ∨ v = 1) := by
  have e : τ = [true] := h
  subst e
  match st, hv with
  | [v], hv =>
    have := hv.1
    simp only [if_true] at this
    exact ⟨v, rfl, this⟩
  | [], hv => simp [tvs] at hv
  | a :: b :: r, hv => simp [tvs] at hv
section HO
variable {d : Nat} {I : HI} {K : HI → Prop} {KI : Int → HI → Prop}
theorem oO_01 {m : Int} (h : m = 0 ∨ m = 1) : oO m 0 = m ∧ oO m 1 = 1 := by
  rcases h with rfl | rfl <;> decide
theorem holds_lp {e : Int} {f : Nat → Int} (hf : ∀ j, -1000000 ≤ f j ∧ f j ≤ 1000000) : ∀ (c : List Int) (τ : List Bool) (st : List Int) (i : Nat) (X : HI) (m : Int), wt c τ → tvs τ st → st.length ≤ 64 → skA (X 65) st → (∀ j, j < 5 → X 66 j = f j) → bl (X 9) i c.length = c.map tr → i + c.length ≤ 1600 → X 62 6 = m → (m = 0 ∨ m = 1) → (∀ X' : HI, (∀ k, k ≠ 65 → k ≠ 62 → X' k = X k) → (∀ j, j ≠ 6 → X' 62 j = X 62 j) → X' 62 6 = (if (7 : Int) ∈ c then 1 else m) → KI (if evs f c st = [1] then 1 else 0) X') → J none mX1_holds (d + 2) 0 0 36 [(0, vR 62), (1, vI e), (2, vI (st.length : Int)), (3, vI ((i + c.length : Nat) : Int)), (4, vI (i : Int))] [] (mk X) (PI KI)
  | [], τ, st, i, X, m, hw, hv, hl, hs, hx, hc, hi, hm, hm1, h => by
    obtain ⟨v, e, hv1⟩ := wt_end hw hv
    subst e
    have e65 : X 65 0 = v := hs.1
    have g := h X (fun _ _ _ => rfl) (fun _ _ => rfl) (by simpa using hm)
    refine bk_X1_holds_36 ⟨fun _ => ⟨fun q => by simp at q, fun _ => ⟨by simp, by simp, ?_⟩⟩, fun q => by simp at q⟩
    have ez : ((([v] : List Int).length : Int) - 1).toNat = 0 := rfl
    rw [ez, e65]
    refine ⟨fun q => PI_i ?_, fun q => PI_i ?_⟩
    · subst q
      simpa [evs] using g
    · have : v = 1 := by omega
      subst this
      simpa [evs] using g
  | x :: c, τ, st, i, X, m, hw, hv, hl, hs, hx, hc, hi, hm, hm1, h => by
    obtain ⟨τ', hw', hv', cases⟩ := wt_step hf hw hv
    have hl' := tvs_len _ _ hv
    simp only [List.length_cons, List.map_cons, bl, List.cons.injEq] at hc hi
    obtain ⟨hc1, hc2⟩ := hc
    have cast1 : (((i + (x :: c).length : Nat)) : Int) = ((i + 1 + c.length : Nat) : Int) := by
      simp only [List.length_cons]
      omega
    have mo := oO_01 hm1
    have ih := holds_lp (e := e) hf c τ' (st1 f x st) (i + 1)
    rw [show ((i + 1 : Nat) : Int) = (i : Int) + 1 from by omega] at ih
    rw [cast1]
    have lt1 : ¬ (((i + 1 + c.length : Nat)) : Int) ≤ (i : Int) := by omega
    -- what a state one step on gives
    have next : ∀ (X1 : HI) (m1 : Int), (∀ k, k ≠ 65 → k ≠ 62 → X1 k = X k) → (∀ j, j ≠ 6 → X1 62 j = X 62 j) → X1 62 6 = m1 → m1 = (if x = 7 then 1 else m) → skA (X1 65) (st1 f x st) → (st1 f x st).length ≤ 64 → J none mX1_holds (d + 2) 0 0 36 [(0, vR 62), (1, vI e), (2, vI ((st1 f x st).length : Int)), (3, vI ((i + 1 + c.length : Nat) : Int)), (4, vI ((i : Int) + 1))] [] (mk X1) (PI KI) := by
      intro X1 m1 f1 f2 f3 f4 f5 f6
      refine ih X1 m1 hw' hv' f6 f5 (fun j hj => by rw [f1 66 (by decide) (by decide)]; exact hx j hj) (by rw [f1 9 (by decide) (by decide)]; exact hc2) (by omega) f3 (by rw [f4]; split <;> omega) (fun X' r1 r2 r3 => ?_)
      refine h X' (fun k k1 k2 => by rw [r1 k k1 k2, f1 k k1 k2]) (fun j hj => by rw [r2 j hj, f2 j hj]) ?_
      rw [r3, f4]
      by_cases g : (7 : Int) ∈ c
      · rw [if_pos g, if_pos (List.mem_cons_of_mem _ g)]
      · rw [if_neg g]
        by_cases g2 : x = 7
        · rw [if_pos g2, if_pos (by rw [g2]; exact List.mem_cons_self)]
        · rw [if_neg g2, if_neg]
          intro q
          rcases List.mem_cons.mp q with q | q
          · exact g2 q.symm
          · exact g q
    have tn : ((st.length : Int)).toNat = st.length := by omega
    rcases cases with ⟨e1, l64, kinds⟩ | ⟨e16, b, r, es, hb, e1⟩ | ⟨ko, b, a, r, es, ra, rb, bo, e1⟩
    · -- a push
      have l1 : ((st1 f x st).length : Int) = (st.length : Int) + 1 := by rw [e1]; simp
      rw [l1] at next
      have push : ∀ (X1 X2 : HI) (m1 v : Int), X1 = up X 62 6 m1 → X2 = up X1 65 st.length v → m1 = (if x = 7 then 1 else m) → st1 f x st = v :: st → J none mX1_holds (d + 2) 0 0 36 [(0, vR 62), (1, vI e), (2, vI ((st.length : Int) + 1)), (3, vI ((i + 1 + c.length : Nat) : Int)), (4, vI ((i : Int) + 1))] [] (mk X2) (PI KI) := by
        intro X1 X2 m1 v g1 g2 g3 g4
        refine next X2 m1 (fun k k1 k2 => by rw [g2, up_k k1, g1, up_k k2]) (fun j hj => by rw [g2, up_k (by decide), g1, up_j hj]) (by rw [g2, up_k (by decide), g1, up_e]) g3 ?_ (by rw [g4]; simp; omega)
        rw [g4, g2]
        refine skA_up ?_
        rw [g1, up_k (by decide)]
        exact hs
      refine bk_X1_holds_36 ⟨fun q => absurd q lt1, fun _ => ⟨by omega, ?_⟩⟩
      rw [Int.toNat_natCast, hc1, hm, mo.1, mo.2, tn]
      rcases kinds with ⟨k1, k2⟩ | k1 | k1 | k1
      · rw [tr_n k1]
        refine ⟨fun q => by omega, fun _ => ⟨fun q => by omega, fun _ => ⟨fun q => ⟨hm1, fun I3 g3 => ⟨by omega, fun q2 => by omega, fun _ => ⟨by omega, fun I5 g5 => ⟨by omega, push I3 I5 m _ g3 g5 (by rw [if_neg (by omega)]) (st1_n k1)⟩⟩⟩⟩, fun q => by omega⟩⟩⟩
      · subst k1
        rw [tr_17]
        refine ⟨fun q => by omega, fun _ => ⟨fun q => by omega, fun _ => ⟨fun q => ⟨hm1, fun I3 g3 => ⟨by omega, fun q2 => by omega, fun _ => ⟨by omega, fun I5 g5 => ⟨by omega, push I3 I5 m _ g3 g5 (by rw [if_neg (by omega)]) st1_17⟩⟩⟩⟩, fun q => by omega⟩⟩⟩
      · subst k1
        rw [tr_18]
        refine ⟨fun q => by omega, fun _ => ⟨fun q => by omega, fun _ => ⟨fun q => ⟨hm1, fun I3 g3 => ⟨by omega, fun q2 => ⟨by omega, by omega, by omega, fun I4 g4 => ⟨by omega, ?_⟩⟩, fun q2 => by omega⟩⟩, fun q => by omega⟩⟩⟩
        have g66 : I3 66 ((-1 : Int) - -5).toNat = f 4 := by
          rw [g3, up_k (by decide)]
          exact hx 4 (by omega)
        rw [g66] at g4
        exact push I3 I4 m _ g3 g4 (by rw [if_neg (by omega)]) st1_18
      · rw [tr_f k1]
        have gx : ∀ I3 : HI, (∃ z, I3 = up X 62 6 z) → I3 66 ((-1 : Int) - (6 - x)).toNat = f (x - 7).toNat := by
          rintro I3 ⟨z, g3⟩
          rw [g3, up_k (by decide), show ((-1 : Int) - (6 - x)).toNat = (x - 7).toNat from by omega]
          exact hx _ (by omega)
        refine ⟨fun q => by omega, fun _ => ⟨fun q => by omega, fun _ => ⟨fun q => ⟨hm1, fun I3 g3 => ⟨by omega, fun q2 => ⟨by omega, by omega, by omega, fun I4 g4 => ⟨by omega, ?_⟩⟩, fun q2 => by omega⟩⟩, fun q => ⟨Or.inr rfl, fun I3 g3 => ⟨by omega, fun q2 => ⟨by omega, by omega, by omega, fun I4 g4 => ⟨by omega, ?_⟩⟩, fun q2 => by omega⟩⟩⟩⟩⟩
        · rw [gx I3 ⟨_, g3⟩] at g4
          exact push I3 I4 m _ g3 g4 (by rw [if_neg (by omega)]) (st1_f k1)
        · rw [gx I3 ⟨_, g3⟩] at g4
          exact push I3 I4 1 _ g3 g4 (by rw [if_pos (by omega)]) (st1_f k1)
    · -- not
      subst e16
      subst es
      simp only [List.length_cons] at hl tn next ⊢
      rw [e1] at next
      have l2 : (((r.length + 1 : Nat) : Int) - 1).toNat = r.length := by omega
      refine bk_X1_holds_36 ⟨fun q => absurd q lt1, fun _ => ⟨by omega, ?_⟩⟩
      rw [Int.toNat_natCast, hc1, tr_16, l2, hs.1]
      refine ⟨fun _ => ⟨fun q => absurd rfl q, fun _ => ⟨fun q => by omega, fun _ => ⟨by omega, by omega, by omega, by omega, by omega, fun I1 g1 => ⟨by omega, ?_⟩⟩⟩⟩, fun q => by omega⟩
      refine next I1 m (fun k k1 k2 => by rw [g1, up_k k1]) (fun j hj => by rw [g1, up_k (by decide)]) (by rw [g1, up_k (by decide), hm]) (by rw [if_neg (by omega)]) ?_ (by simp; omega)
      rw [g1]
      exact skA_up hs.2
    · -- two values
      subst es
      simp only [List.length_cons] at hl tn next ⊢
      rw [e1] at next
      have to := tr_o ko
      have h2 := h150 (d := d) (I := X) (KI := KI) (e := e) (top := ((r.length + 1 + 1 : Nat) : Int)) (a3 := ((i + 1 + c.length : Nat) : Int)) (i := (i : Int)) (a5 := tr x) (x := x) (a := a) (b := b) ko rfl (by omega) (by omega) (by omega) (by omega) (by
        rw [show ((((r.length + 1 + 1 : Nat)) : Int) - 2).toNat = r.length from by omega]
        exact hs.2.1) (by
        rw [show ((((r.length + 1 + 1 : Nat)) : Int) - 1).toNat = r.length + 1 from by omega]
        exact hs.1) ra rb bo (by
        rw [show ((((r.length + 1 + 1 : Nat)) : Int) - 2).toNat = r.length from by omega]
        have g := next (up X 65 r.length (opv x a b)) m (fun k k1 k2 => up_k k1) (fun j hj => by rw [up_k (by decide)]) (by rw [up_k (by decide), hm]) (by rw [if_neg (by omega)]) (skA_up hs.2.2) (by simp; omega)
        rw [show (((opv x a b :: r).length : Nat) : Int) = ((r.length + 1 + 1 : Nat) : Int) - 1 from by simp] at g
        exact g)
      refine bk_X1_holds_36 ⟨fun q => absurd q lt1, fun _ => ⟨by omega, ?_⟩⟩
      rw [Int.toNat_natCast, hc1]
      exact ⟨fun _ => ⟨fun _ => h2, fun q => absurd q to.2⟩, fun q => absurd to.1 q⟩
end HO
