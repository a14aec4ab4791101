/-- counts of both cities -/
def CN (I : HI) : Prop := (I 2 0 = I 518 5 ∧ I 2 1 = I 518 7 ∧ I 2 2 = I 518 6 ∧ I 2 3 = I 518 8 ∧ I 2 4 = I 518 9) ∧ (0 ≤ I 518 5 ∧ I 518 5 ≤ 10) ∧ (0 ≤ I 518 6 ∧ I 518 6 ≤ 4) ∧ (0 ≤ I 518 7 ∧ I 518 7 ≤ 16) ∧ (0 ≤ I 518 8 ∧ I 518 8 ≤ 10) ∧ (0 ≤ I 518 9 ∧ I 518 9 ≤ 6)
/-- saints -/
def CSa (I : HI) : Prop := (∀ s j : Int, 0 ≤ s → s < I 518 6 → 0 ≤ j → j < 4 → I 7 (s * 4 + j).toNat = I 522 (16 + 4 * s + j).toNat) ∧ (∀ s : Int, 0 ≤ s → s < I 518 6 → (0 ≤ I 522 (16 + 4 * s).toNat ∧ I 522 (16 + 4 * s).toNat < I 518 5) ∧ (1 ≤ I 522 (16 + 4 * s + 1).toNat ∧ I 522 (16 + 4 * s + 1).toNat ≤ 5) ∧ (0 ≤ I 522 (16 + 4 * s + 2).toNat ∧ I 522 (16 + 4 * s + 2).toNat ≤ 20) ∧ (0 ≤ I 522 (16 + 4 * s + 3).toNat ∧ I 522 (16 + 4 * s + 3).toNat ≤ 99))
/-- lanes -/
def CLa (I : HI) : Prop := (∀ l j : Int, 0 ≤ l → l < I 518 7 → 0 ≤ j → j < 4 → I 6 (l * 4 + j).toNat = I 521 (64 + 4 * l + j).toNat) ∧ (∀ l : Int, 0 ≤ l → l < I 518 7 → (0 ≤ I 521 (64 + 4 * l).toNat ∧ I 521 (64 + 4 * l).toNat < I 518 5) ∧ (0 ≤ I 521 (64 + 4 * l + 1).toNat ∧ I 521 (64 + 4 * l + 1).toNat < I 518 5) ∧ (1 ≤ I 521 (64 + 4 * l + 2).toNat ∧ I 521 (64 + 4 * l + 2).toNat ≤ 9) ∧ (0 ≤ I 521 (64 + 4 * l + 3).toNat ∧ I 521 (64 + 4 * l + 3).toNat ≤ 9)) ∧ (∀ a b : Int, 0 ≤ a → a < I 518 5 → 0 ≤ b → b < I 518 5 → I 12 (a * 10 + b).toNat = laneM I a b)
/-- sounds -/
def CSo (I : HI) : Prop := ∀ a b : Int, 0 ≤ a → a < I 518 5 → 0 ≤ b → b < I 518 5 → I 13 (a * 10 + b).toNat = I 531 (10 * a + b).toNat ∧ 0 ≤ I 531 (10 * a + b).toNat ∧ I 531 (10 * a + b).toNat ≤ 999 ∧ I 531 (10 * a + b).toNat = I 531 (10 * b + a).toNat
/-- rain -/
def CRa (I : HI) : Prop := I 1 13 = I 489 44 ∧ -1 ≤ I 489 44 ∧ I 489 44 ≤ 999
/-- balconies -/
def CBa (I : HI) : Prop := (∀ b j : Int, 0 ≤ b → b < I 518 8 → 0 ≤ j → j < 4 → I 8 (b * 4 + j).toNat = I 523 (40 + 4 * b + j).toNat) ∧ (∀ b : Int, 0 ≤ b → b < I 518 8 → 1 ≤ I 523 (40 + 4 * b + 3).toNat ∧ I 523 (40 + 4 * b + 3).toNat ≤ 99)
/-- words -/
def CWo (I : HI) : Prop := ∀ e : Int, 0 ≤ e → e < I 518 9 → I 11 e.toNat = I 528 (6 + e).toNat ∧ 0 ≤ I 528 (6 + e).toNat ∧ I 528 (6 + e).toNat ≤ 1600
/-- parishes -/
def CPa (I : HI) : Prop := ∀ c : Int, 0 ≤ c → c < I 518 5 → I 5 c.toNat = I 520 (10 + c).toNat ∧ 1 ≤ I 520 (10 + c).toNat ∧ I 520 (10 + c).toNat ≤ 9
/-- what is shut and what is on -/
def RSh (I : HI) : Prop := I 33 100 = I 489 63 ∧ I 33 101 = I 489 64 ∧ 0 ≤ I 489 63 ∧ I 489 63 < 65536 ∧ 0 ≤ I 489 64 ∧ I 489 64 < 64
def RIm (I : HI) : Prop := I 0 13 = I 489 90 ∧ 0 ≤ I 489 90 ∧ I 489 90 ≤ 104 ∧ ∀ k : Int, 0 ≤ k → k < I 489 90 → I 488 k.toNat = I 556 k.toNat
section CT
variable {d : Nat} {I : HI} {K : Int → HI → Prop} {K2 : Int → Int → HI → Prop}
theorem c9_shutBits (h : K (I 33 100) I) : CI mX9_shutBits (d + 1) [vR 32] I K := bk_X9_shutBits_0 (PI_i h)
theorem c9_onBits (h : K (I 33 101) I) : CI mX9_onBits (d + 1) [vR 32] I K := bk_X9_onBits_0 (PI_i h)
theorem K2_eq {x y : Int} (h : ∀ x, K2 x x I) (e : x = y) : K2 x y I := e ▸ h x
theorem op_sound {a b : Int} (hc : CN I) (hs : CSo I) (h : ∀ x, K2 x x I) : CI mX10_sound (d + 3) [vR 0, vI a, vI b] I (fun x1 I1 => CI mX11_sound (d + 3) [vR 489, vI a, vI b] I1 (K2 x1)) := by
  obtain ⟨⟨c0, c1, c2, c3, c4⟩, b0, b1, b2, b3, b4⟩ := hc
  refine bk_X10_sound_0 ?_
  (repeat' (with_reducible first | refine And.intro ?_ ?_ | intro _ | refine PI_i ?_ | refine PV_i ?_ | refine PL_i ?_ | apply c10_isCorner)) <;> first | omega | skip
  all_goals
    refine bk_X11_sound_0 ?_
    (repeat' (with_reducible first | refine And.intro ?_ ?_ | intro _ | refine PI_i ?_ | refine PV_i ?_ | refine PL_i ?_ | apply c11_isCorner | apply b0)) <;> first | omega | exact h _ | skip
  all_goals
    obtain ⟨e1, e2, e3, e4⟩ := hs a b (by omega) (by omega) (by omega) (by omega)
    exact K2_eq h (by omega)
theorem op_words {a : Int} (hc : CN I) (hs : CWo I) (h : ∀ x, K2 x x I) : CI mX10_words (d + 3) [vR 0, vI a] I (fun x1 I1 => CI mX11_words (d + 3) [vR 489, vI a] I1 (K2 x1)) := by
  obtain ⟨⟨c0, c1, c2, c3, c4⟩, b0, b1, b2, b3, b4⟩ := hc
  refine bk_X10_words_0 ?_
  (repeat' (with_reducible first | refine And.intro ?_ ?_ | intro _ | refine PI_i ?_ | refine PV_i ?_ | refine PL_i ?_)) <;> first | omega | skip
  all_goals
    refine bk_X11_words_0 (c11_exceptions ⟨by omega, ?_⟩)
    (repeat' (with_reducible first | refine And.intro ?_ ?_ | intro _ | refine PI_i ?_ | refine PV_i ?_ | refine PL_i ?_ | apply c11_isIn)) <;> first | omega | exact h _ | skip
  all_goals
    obtain ⟨e1, e2, e3⟩ := hs a (by omega) (by omega)
    exact K2_eq h (by omega)
theorem op_octet {a : Int} (hs : RIm I) (h : ∀ x, K2 x x I) : CI mX10_octet (d + 3) [vR 0, vI a] I (fun x1 I1 => CI mX11_octet (d + 3) [vR 489, vI a] I1 (K2 x1)) := by
  obtain ⟨e1, e2, e3, e4⟩ := hs
  refine bk_X10_octet_0 ?_
  (repeat' (with_reducible first | refine And.intro ?_ ?_ | intro _ | refine PI_i ?_ | refine PV_i ?_ | refine PL_i ?_)) <;> first | omega | skip
  all_goals
    refine bk_X11_octet_0 ?_
    (repeat' (with_reducible first | refine And.intro ?_ ?_ | intro _ | refine PI_i ?_ | refine PV_i ?_ | refine PL_i ?_)) <;> first | omega | exact h _ | skip
  all_goals
    exact K2_eq h (e4 a (by omega) (by omega))
theorem op_lane {a b : Int} (hc : CN I) (hs : CLa I) (hr : RSh I) (h : ∀ x, K2 x x I) : CI mX10_lane (d + 3) [vR 0, vI a, vI b] I (fun x1 I1 => CI mX11_lane (d + 3) [vR 489, vI a, vI b] I1 (K2 x1)) := by
  obtain ⟨⟨c0, c1, c2, c3, c4⟩, b0, b1, b2, b3, b4⟩ := hc
  refine bk_X10_lane_0 ?_
  (repeat' (with_reducible first | refine And.intro ?_ ?_ | intro _ | refine PI_i ?_ | refine PV_i ?_ | refine PL_i ?_ | apply c10_isLane | apply c9_shutBits)) <;> first | omega | skip
  all_goals
    refine bk_X11_lane_0 ?_
    (repeat' (with_reducible first | refine And.intro ?_ ?_ | intro _ | refine PI_i ?_ | refine PV_i ?_ | refine PL_i ?_ | apply c11_isLane | apply b2 | apply c11_isIn)) <;> first | omega | exact h _ | skip
  · rw [hr.1]; exact h _
  · exact K2_eq h (hs.1 a b (by omega) (by omega) (by omega) (by omega))
end CT
