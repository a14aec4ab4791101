noncomputable def iF (p : Prop) (a b : Int) : Int := @ite Int p (Classical.propDecidable p) a b
theorem iF_pos {p : Prop} {a b : Int} (h : p) : iF p a b = a := by
  unfold iF
  exact if_pos h
theorem iF_neg {p : Prop} {a b : Int} (h : ¬ p) : iF p a b = b := by
  unfold iF
  exact if_neg h
theorem iF_iff {p q : Prop} (h : p ↔ q) (a b : Int) : iF p a b = iF q a b := by
  rw [propext h]
def miM (I : HI) (s l : Int) : Int := if l < 0 then 0 else I 521 (64 + 4 * l + 2).toNat * I 522 (16 + 4 * s + 1).toNat
theorem miM_e {I : HI} {s l : Int} (l0 : 0 ≤ l) : miM I s l = I 521 (64 + 4 * l + 2).toNat * I 522 (16 + 4 * s + 1).toNat := if_neg (by omega)
/-- codes (a corner, or 100 and a rest) walked from the corner c and the minute t -/
def runW (I : HI) (s : Int) : Int → Int → List Int → List Sp
  | _, _, [] => []
  | c, t, x :: cs => if 100 < x then (c, -1, t + (x - 100)) :: runW I s c (t + (x - 100)) cs else (x, laneM I c x, t + miM I s (laneM I c x)) :: runW I s x (t + miM I s (laneM I c x)) cs
def okC (I : HI) : Int → List Int → Prop
  | _, [] => True
  | c, x :: cs => if 100 < x then x ≤ 130 ∧ okC I c cs else (0 ≤ x ∧ x < I 518 5 ∧ laneM I c x ≠ -1) ∧ okC I x cs
def wy (I : HI) (s : Int) (cs : List Int) : List Sp := runW I s (hm I s) 0 cs
theorem run_len (I : HI) (s : Int) : ∀ (cs : List Int) (c t : Int), (runW I s c t cs).length = cs.length
  | [], c, t => rfl
  | x :: cs, c, t => by
    unfold runW
    split <;> simp [run_len I s cs]
theorem laneM_rng {I : HI} {a b : Int} (h1 : 0 ≤ I 518 7) (h : laneM I a b ≠ -1) : 0 ≤ laneM I a b ∧ laneM I a b < I 518 7 := by
  unfold laneM at h ⊢
  rcases lnS_rng (I 521) a b (I 518 7).toNat 0 (by omega) with e | ⟨e1, e2, e3⟩
  · exact absurd e h
  · omega
theorem miM_rng {I : HI} {s l : Int} (hs : CSa I) (hl : CLa I) (s0 : 0 ≤ s) (s1 : s < I 518 6) (l0 : 0 ≤ l) (l1 : l < I 518 7) : 1 ≤ miM I s l ∧ miM I s l ≤ 45 := by
  obtain ⟨g1, g2, g3, g4⟩ := hs.2 s s0 s1
  obtain ⟨q1, q2, q3, q4⟩ := hl.2.1 l l0 l1
  rw [miM_e l0]
  have a1 := Int.mul_le_mul q3.1 g2.1 (by omega) (by omega)
  have a2 := Int.mul_le_mul q3.2 g2.2 (by omega) (by omega)
  omega
theorem run_ok {I : HI} {s : Int} (hc : CN I) (hs : CSa I) (hl : CLa I) (s0 : 0 ≤ s) (s1 : s < I 518 6) : ∀ (cs : List Int) (c t : Int), okC I c cs → okW c t (runW I s c t cs)
  | [], c, t, h => trivial
  | x :: cs, c, t, h => by
    unfold okC at h
    unfold runW
    split
    · rename_i hx
      rw [if_pos hx] at h
      exact ⟨by simp only; omega, fun _ => rfl, Or.inl rfl, run_ok hc hs hl s0 s1 cs _ _ h.2⟩
    · rename_i hx
      rw [if_neg hx] at h
      obtain ⟨⟨h1, h2, h3⟩, h4⟩ := h
      have e := laneM_rng (by have := hc.2.2.2.1; omega) h3
      have e2 := miM_rng hs hl s0 s1 e.1 e.2
      have e3 := hc.2.2.2.1
      exact ⟨by simp only; omega, fun q => absurd q h3, Or.inr ⟨e.1, by simp only; omega⟩, run_ok hc hs hl s0 s1 cs _ _ h4⟩
theorem run_in {I : HI} {s : Int} : ∀ (cs : List Int) (c t : Int), 0 ≤ c → c < I 518 5 → okC I c cs → ∀ x ∈ runW I s c t cs, 0 ≤ x.1 ∧ x.1 < I 518 5
  | [], c, t, c0, c1, h, x, hx => by simp [runW] at hx
  | y :: cs, c, t, c0, c1, h, x, hx => by
    unfold okC at h
    unfold runW at hx
    split at hx
    · rename_i hy
      rw [if_pos hy] at h
      rcases List.mem_cons.mp hx with rfl | hx
      · exact ⟨c0, c1⟩
      · exact run_in cs _ _ c0 c1 h.2 x hx
    · rename_i hy
      rw [if_neg hy] at h
      rcases List.mem_cons.mp hx with rfl | hx
      · exact ⟨h.1.1, h.1.2.1⟩
      · exact run_in cs _ _ h.1.1 h.1.2.1 h.2 x hx
theorem legs_in : ∀ (W : List Sp) (t n : Int), (∀ x ∈ W, 0 ≤ x.1 ∧ x.1 < n) → ∀ x ∈ legs t W, 0 ≤ x.1 ∧ x.1 < n
  | [], t, n, h, x, hx => by simp [legs] at hx
  | y :: W, t, n, h, x, hx => by
    unfold legs at hx
    split at hx
    · exact legs_in W _ n (fun z hz => h z (List.mem_cons_of_mem _ hz)) x hx
    · rcases List.mem_cons.mp hx with rfl | hx
      · exact h y List.mem_cons_self
      · exact legs_in W _ n (fun z hz => h z (List.mem_cons_of_mem _ hz)) x hx
theorem legs_hi : ∀ (W : List Sp) (c t : Int), okW c t W → ∀ x ∈ legs t W, x.2.2.2 ≤ endS t W
  | [], c, t, h, x, hx => by simp [legs] at hx
  | y :: W, c, t, h, x, hx => by
    obtain ⟨h1, h2, h3, h4⟩ := h
    unfold legs at hx
    unfold endS
    split at hx
    · exact legs_hi W _ _ h4 x hx
    · rcases List.mem_cons.mp hx with rfl | hx
      · exact end_ge W _ _ h4
      · exact legs_hi W _ _ h4 x hx
/-- the lanes of legs as bits -/
def LB (b : Int) (L : List Lg) : Prop := 0 ≤ b ∧ b < 65536 ∧ ∀ l : Int, 0 ≤ l → l < 16 → (bit b l = true ↔ ∃ x ∈ L, x.2.1 = l)
/-- the track t, later by late, is the way W from the corner c -/
def TW (I : HI) (t n : Nat) (late c : Int) (W : List Sp) : Prop := TK I t n late c (legs 0 W) ∧ I t 5 + late = endS 0 W ∧ LB (I t 6) (legs 0 W) ∧ ((I t 7 ≠ 0 ∨ late ≠ 0) ↔ W ≠ []) ∧ (I t 7 = 0 ∨ I t 7 = 1)
/-- the way of the saint s is told by the codes cs on both sides -/
def RW (I : HI) (s : Int) (cs : List Int) : Prop := okC I (hm I s) cs ∧ cs.length ≤ 24 ∧ endS 0 (wy I s cs) ≤ 999 ∧ SL I s 0 (wy I s cs) ∧ I 33 s.toNat = cs.length ∧ (∀ k : Nat, k < cs.length → I 33 (4 + s * 24 + k).toNat = cs.getD k 0) ∧ TW I (37 + 5 * s.toNat) 25 0 (hm I s) (wy I s cs)
def RWy (I : HI) (cs : Int → List Int) : Prop := ∀ s : Int, 0 ≤ s → s < I 518 6 → RW I s (cs s)
/-- what a way of codes is, all at once -/
theorem wy_ok {I : HI} {s : Int} {cs : List Int} (hc : CN I) (hs : CSa I) (hl : CLa I) (s0 : 0 ≤ s) (s1 : s < I 518 6) (h : okC I (hm I s) cs) : okW (hm I s) 0 (wy I s cs) := run_ok hc hs hl s0 s1 cs _ _ h
theorem sof_s {s : Int} (h : s < 4) : sof s = s := by
  unfold sof
  rw [if_pos h]
theorem hm_rng {I : HI} {s : Int} (hs : CSa I) (s0 : 0 ≤ s) (s1 : s < I 518 6) : 0 ≤ hm I s ∧ hm I s < I 518 5 := (hs.2 s s0 s1).1
section OB
variable {d : Nat} {I : HI} {K : Int → HI → Prop} {K2 : Int → Int → HI → Prop} {cs : Int → List Int}
theorem c9_steps {s : Int} (s0 : 0 ≤ s) (s1 : s < 4) (h : K (I 33 s.toNat) I) : CI mX9_steps (d + 1) [vR 32, vI s] I K := bk_X9_steps_0 ⟨by omega, PI_i h⟩
theorem op_saint {a b : Int} (hc : CN I) (hs : CSa I) (hl : CLa I) (hw : RWy I cs) (h : ∀ x, K2 x x I) : CI mX10_saint (d + 3) [vR 0, vI a, vI b] I (fun x1 I1 => CI mX11_saint (d + 3) [vR 489, vI a, vI b] I1 (K2 x1)) := by
  have hc0 := hc
  obtain ⟨⟨c0, c1, c2, c3, c4⟩, b0, b1, b2, b3, b4⟩ := hc
  refine bk_X10_saint_0 (c10_isSaint (fun g1 g2 => ?_) (fun g => ?_))
  · obtain ⟨w1, w2, w3, w4, w5, w6, w7⟩ := hw a g1 (by omega)
    have ok := wy_ok hc0 hs hl g1 (by omega) w1
    have ln := run_len I a (cs a) (hm I a) 0
    have ln2 := SL_len _ _ w4
    have key : (∀ x, x = (if b < 0 ∨ 6 < b then -1 else if b ≤ 3 then I 522 (16 + 4 * a + b).toNat else if b = 4 then I 532 a.toNat else if b = 5 then endS 0 (wy I a (cs a)) else lastS (hm I a) (wy I a (cs a))) → CI mX11_saint (d + 3) [vR 489, vI a, vI b] I (K2 x)) := by
      intro x hx
      refine bk_X11_saint_0 (c11_isSaint b1 (fun _ _ => ?_) (fun g => by omega))
      (repeat' (with_reducible first | refine And.intro ?_ ?_ | intro _ | refine PI_i ?_ | refine PV_i ?_ | refine PL_i ?_)) <;> first | omega | skip
      · exact K2_eq h (by rw [hx, if_pos (by omega)])
      · exact K2_eq h (by rw [hx, if_neg (by omega), if_pos (by omega)])
      · exact K2_eq h (by rw [hx, if_neg (by omega), if_neg (by omega), if_pos (by omega)])
      · refine c11_endOf g1 (by omega) w4 (by unfold wy; omega) (PI_i ?_)
        exact K2_eq h (by rw [hx, if_neg (by omega), if_neg (by omega), if_neg (by omega), if_pos (by omega)])
      · refine c11_endsAt g1 (by omega) w4 (by unfold wy; omega) (PI_i ?_)
        rw [sof_s (by omega)]
        exact K2_eq h (by rw [hx, if_neg (by omega), if_neg (by omega), if_neg (by omega), if_neg (by omega)])
    (repeat' (with_reducible first | refine And.intro ?_ ?_ | intro _ | refine PI_i ?_ | refine PV_i ?_ | refine PL_i ?_)) <;> first | omega | skip
    · exact key _ (by rw [if_pos (by omega)])
    · refine key _ ?_
      rw [if_neg (by omega), if_pos (by omega)]
      exact hs.1 a b g1 (by omega) (by omega) (by omega)
    · refine c9_steps g1 (by omega) (PI_i (key _ ?_))
      rw [if_neg (by omega), if_neg (by omega), if_pos (by omega), w5, ln2]
      unfold wy
      omega
    · refine key _ ?_
      rw [if_neg (by omega), if_neg (by omega), if_neg (by omega), if_pos (by omega)]
      have := w7.2.1
      omega
    · refine c8_lastCorner w7.1 (PI_i (key _ ?_))
      rw [if_neg (by omega), if_neg (by omega), if_neg (by omega), if_neg (by omega)]
      exact (last_eq _ _ _ ok).symm
  · (repeat' (with_reducible first | refine And.intro ?_ ?_ | intro _ | refine PI_i ?_ | refine PV_i ?_ | refine PL_i ?_)) <;> first | omega | skip
    refine bk_X11_saint_0 (c11_isSaint b1 (fun _ _ => by omega) (fun g => ?_))
    (repeat' (with_reducible first | refine And.intro ?_ ?_ | intro _ | refine PI_i ?_ | refine PV_i ?_ | refine PL_i ?_)) <;> first | omega | exact h _
theorem op_where {a b : Int} (hc : CN I) (hs : CSa I) (hl : CLa I) (hw : RWy I cs) (h : ∀ x, K2 x x I) : CI mX10_where (d + 3) [vR 0, vI a, vI b] I (fun x1 I1 => CI mX11_where (d + 3) [vR 489, vI a, vI b] I1 (K2 x1)) := by
  have hc0 := hc
  obtain ⟨⟨c0, c1, c2, c3, c4⟩, b0, b1, b2, b3, b4⟩ := hc
  refine bk_X10_where_0 ?_
  (repeat' (with_reducible first | refine And.intro ?_ ?_ | intro _ | refine PI_i ?_ | refine PV_i ?_ | refine PL_i ?_ | apply c10_isSaint | apply c10_isMinute)) <;> first | omega | skip
  case _ =>
    rename_i g1 g2 _ _ _ _
    obtain ⟨w1, w2, w3, w4, w5, w6, w7⟩ := hw a g1 (by omega)
    have ok := wy_ok hc0 hs hl g1 (by omega) w1
    have ln := run_len I a (cs a) (hm I a) 0
    refine c8_cornerAt w7.1 (PI_i ?_)
    refine bk_X11_where_0 ?_
    (repeat' (with_reducible first | refine And.intro ?_ ?_ | intro _ | refine PI_i ?_ | refine PV_i ?_ | refine PL_i ?_ | apply c11_isSaint | apply b1 | apply c11_isIn)) <;> first | omega | skip
    refine c11_whereOf g1 (by omega) w4 (by unfold wy; omega) (PI_i ?_)
    rw [sof_s (by omega), where_eq _ _ _ _ ok]
    exact h _
  all_goals
    refine bk_X11_where_0 ?_
    (repeat' (with_reducible first | refine And.intro ?_ ?_ | intro _ | refine PI_i ?_ | refine PV_i ?_ | refine PL_i ?_ | apply c11_isSaint | apply b1 | apply c11_isIn)) <;> first | omega | exact h _
theorem op_on {a b : Int} (hc : CN I) (hs : CSa I) (hl : CLa I) (hw : RWy I cs) (h : ∀ x, K2 x x I) : CI mX10_on (d + 3) [vR 0, vI a, vI b] I (fun x1 I1 => CI mX11_on (d + 3) [vR 489, vI a, vI b] I1 (K2 x1)) := by
  have hc0 := hc
  obtain ⟨⟨c0, c1, c2, c3, c4⟩, b0, b1, b2, b3, b4⟩ := hc
  refine bk_X10_on_0 ?_
  (repeat' (with_reducible first | refine And.intro ?_ ?_ | intro _ | refine PI_i ?_ | refine PV_i ?_ | refine PL_i ?_ | apply c10_isSaint | apply c10_isMinute)) <;> first | omega | skip
  case _ =>
    rename_i g1 g2 _ _ _ _
    obtain ⟨w1, w2, w3, w4, w5, w6, w7⟩ := hw a g1 (by omega)
    have ok := wy_ok hc0 hs hl g1 (by omega) w1
    have ln := run_len I a (cs a) (hm I a) 0
    refine c8_laneAt w7.1 (PI_i ?_)
    refine bk_X11_on_0 ?_
    (repeat' (with_reducible first | refine And.intro ?_ ?_ | intro _ | refine PI_i ?_ | refine PV_i ?_ | refine PL_i ?_ | apply c11_isSaint | apply b1 | apply c11_isIn)) <;> first | omega | skip
    refine c11_onOf g1 (by omega) w4 (by unfold wy; omega) (PI_i ?_)
    rw [on_eq _ _ _ _ ok]
    exact h _
  all_goals
    refine bk_X11_on_0 ?_
    (repeat' (with_reducible first | refine And.intro ?_ ?_ | intro _ | refine PI_i ?_ | refine PV_i ?_ | refine PL_i ?_ | apply c11_isSaint | apply b1 | apply c11_isIn)) <;> first | omega | exact h _
end OB
