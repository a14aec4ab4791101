def parS (P : Nat → Int) : Nat → Int → Int → Int
  | 0, _, a => a
  | n + 1, c, a => parS P n (c + 1) (oO a (oSl 1 (P (10 + c).toNat)))
/-- the parishes as bits -/
def parM (I : HI) : Int := parS (I 520) (I 518 5).toNat 0 0
def CPb (I : HI) : Prop := I 1 12 = parM I
theorem parS_rng (P : Nat → Int) : ∀ (n : Nat) (c a : Int), 0 ≤ c → 0 ≤ a → a < 1024 → (∀ k : Int, c ≤ k → k < c + n → 1 ≤ P (10 + k).toNat ∧ P (10 + k).toNat ≤ 9) → 0 ≤ parS P n c a ∧ parS P n c a < 1024
  | 0, c, a, hc, h0, h1, h => ⟨h0, h1⟩
  | n + 1, c, a, hc, h0, h1, h => by
    unfold parS
    obtain ⟨q1, q2⟩ := h c (by omega) (by omega)
    have p := p2_rng (k := P (10 + c).toNat) 10 (by omega) (by omega) (by omega)
    have r := or_rng 10 (by omega) (x := a) (y := oSl 1 (P (10 + c).toNat)) h0 (by omega) (by omega) p.2
    exact parS_rng P n (c + 1) _ (by omega) r.1 (by omega) (fun k k1 k2 => h k (by omega) (by omega))
theorem parM_rng {I : HI} (hc : CN I) (hp : CPa I) : 0 ≤ parM I ∧ parM I < 1024 := by
  have := hc.2.1
  exact parS_rng _ _ 0 0 (by omega) (by omega) (by omega) (fun k k1 k2 => (hp k k1 (by omega)).2)
def valR : List Int → Int
  | [] => 0
  | x :: r => 27 * valR r + x
/-- a name: its number, its letters -/
def NM (v : Int) (f : Nat → Int) : Prop := ∃ r : List Int, 0 < r.length ∧ r.length ≤ 6 ∧ (∀ x ∈ r, 1 ≤ x ∧ x ≤ 26) ∧ v = valR r ∧ ∀ k : Nat, k < 6 → f k = r.reverse.getD k 0
def CNa (I : HI) : Prop := (∀ w : Int, 0 ≤ w → w < I 518 5 → NM (I 519 (20 + 10 * 0 + w).toNat) (fun k => I 3 (w * 6 + k).toNat)) ∧ (∀ w : Int, 0 ≤ w → w < I 518 6 → NM (I 519 (20 + 10 * 1 + w).toNat) (fun k => I 4 (w * 6 + k).toNat))
theorem valR_nn : ∀ r : List Int, (∀ x ∈ r, 1 ≤ x ∧ x ≤ 26) → 0 ≤ valR r ∧ (r ≠ [] → 0 < valR r)
  | [], h => by simp [valR]
  | x :: r, h => by
    have h1 := h x List.mem_cons_self
    have h2 := valR_nn r (fun y hy => h y (List.mem_cons_of_mem _ hy))
    unfold valR
    exact ⟨by omega, fun _ => by omega⟩
theorem valR_up : ∀ (r : List Int), (∀ x ∈ r, 1 ≤ x ∧ x ≤ 26) → valR r < 27 ^ r.length
  | [], h => by simp [valR]
  | x :: r, h => by
    have h1 := h x List.mem_cons_self
    have h2 := valR_up r (fun y hy => h y (List.mem_cons_of_mem _ hy))
    unfold valR
    rw [List.length_cons, Int.pow_succ]
    omega
theorem valR_max {r : List Int} (h : ∀ x ∈ r, 1 ≤ x ∧ x ≤ 26) (hl : r.length ≤ 6) : valR r < 387420489 := by
  have h1 := valR_up r h
  have h2 : (27 : Int) ^ r.length ≤ 27 ^ 6 := by
    have := Nat.pow_le_pow_right (n := 27) (by decide) hl
    exact_mod_cast this
  have h3 : (27 : Int) ^ 6 = 387420489 := by decide
  omega
/-- whether the balcony b is pleased -/
def glad (I : HI) (cs : Int → List Int) (b : Int) : Prop := ∃ s : Int, 0 ≤ s ∧ s < I 518 6 ∧ wy I s (cs s) ≠ [] ∧ ((hm I s = I 523 (40 + 4 * b).toNat ∧ I 523 (40 + 4 * b + 1).toNat = 0) ∨ ∃ x ∈ wy I s (cs s), x.2.1 ≠ -1 ∧ x.1 = I 523 (40 + 4 * b).toNat ∧ I 523 (40 + 4 * b + 1).toNat ≤ x.2.2 ∧ x.2.2 ≤ I 523 (40 + 4 * b + 2).toNat)
section OC
variable {d : Nat} {I : HI} {K : Int → HI → Prop} {K2 : Int → Int → HI → Prop} {cs : Int → List Int}
theorem parishes_lp : ∀ (n : Nat) (c a : Int), 0 ≤ c → c + n = I 518 5 → I 518 5 ≤ 10 → K (parS (I 520) n c a) I → J none mX11_parishes (d + 2) 0 0 4 [(0, vR 489), (1, vI a), (2, vI c)] [] (mk I) (PI K)
  | 0, c, a, h0, h1, h2, h => by
    refine bk_X11_parishes_4 (c11_corners ?_)
    (repeat' (with_reducible first | refine And.intro ?_ ?_ | intro _ | refine PI_i ?_ | refine PV_i ?_ | refine PL_i ?_)) <;> first | omega | exact h
  | n + 1, c, a, h0, h1, h2, h => by
    unfold parS at h
    refine bk_X11_parishes_4 (c11_corners ?_)
    have ih := parishes_lp n (c + 1) _ (by omega) (by omega) h2 h
    (repeat' (with_reducible first | refine And.intro ?_ ?_ | intro _ | refine PI_i ?_ | refine PV_i ?_ | refine PL_i ?_)) <;> first | omega | exact ih
theorem c11_parishes (hc : CN I) (h : K (parM I) I) : CI mX11_parishes (d + 2) [vR 489] I K := by
  have := hc.2.1
  exact bk_X11_parishes_0 (parishes_lp (I 518 5).toNat 0 0 (by omega) (by omega) (by omega) h)
theorem op_has {a : Int} (hc : CN I) (hp : CPa I) (hq : CPb I) (hr : CRa I) (hs : RSh I) (hk : I 32 6 = I 489 71) (h : ∀ x, K2 x x I) : CI mX10_has (d + 3) [vR 0, vI a] I (fun x1 I1 => CI mX11_has (d + 3) [vR 489, vI a] I1 (K2 x1)) := by
  have hc0 := hc
  obtain ⟨⟨c0, c1, c2, c3, c4⟩, b0, b1, b2, b3, b4⟩ := hc
  obtain ⟨s1, s2, s3, s4, s5, s6⟩ := hs
  obtain ⟨r1, r2, r3⟩ := hr
  have p := parM_rng hc0 hp
  unfold CPb at hq
  refine bk_X10_has_0 ⟨fun g => PI_i ?_, fun g => ⟨by omega, PI_i ?_⟩, fun g => PI_i ?_, fun g => c_bitCount (by omega) (by omega) (PI_i ?_), fun g => c9_shutBits (c_bitCount (by omega) (by omega) (PI_i ?_)), fun g => c9_onBits (PI_i ?_), fun g => PI_i ?_⟩
  · refine bk_X11_has_0 ?_
    (repeat' (with_reducible first | refine And.intro ?_ ?_ | intro _ | refine PI_i ?_ | refine PV_i ?_ | refine PL_i ?_)) <;> first | omega | exact h _
  · have e : a = 0 ∨ a = 1 ∨ a = 2 ∨ a = 3 ∨ a = 4 := by omega
    rcases e with rfl | rfl | rfl | rfl | rfl
    · rw [show ((0 : Int).toNat) = 0 from rfl, c0]
      refine bk_X11_has_0 ?_
      (repeat' (with_reducible first | refine And.intro ?_ ?_ | intro _ | refine PI_i ?_ | refine PV_i ?_ | refine PL_i ?_ | apply c11_corners)) <;> first | omega | exact h _
    · rw [show ((1 : Int).toNat) = 1 from rfl, c1]
      refine bk_X11_has_0 ?_
      (repeat' (with_reducible first | refine And.intro ?_ ?_ | intro _ | refine PI_i ?_ | refine PV_i ?_ | refine PL_i ?_ | apply c11_laneMany)) <;> first | omega | exact h _
    · rw [show ((2 : Int).toNat) = 2 from rfl, c2]
      refine bk_X11_has_0 ?_
      (repeat' (with_reducible first | refine And.intro ?_ ?_ | intro _ | refine PI_i ?_ | refine PV_i ?_ | refine PL_i ?_ | apply c11_saintMany)) <;> first | omega | exact h _
    · rw [show ((3 : Int).toNat) = 3 from rfl, c3]
      refine bk_X11_has_0 ?_
      (repeat' (with_reducible first | refine And.intro ?_ ?_ | intro _ | refine PI_i ?_ | refine PV_i ?_ | refine PL_i ?_)) <;> first | omega | exact h _
    · rw [show ((4 : Int).toNat) = 4 from rfl, c4]
      refine bk_X11_has_0 ?_
      (repeat' (with_reducible first | refine And.intro ?_ ?_ | intro _ | refine PI_i ?_ | refine PV_i ?_ | refine PL_i ?_ | apply c11_exceptions)) <;> first | omega | exact h _
  · subst g
    rw [r1]
    refine bk_X11_has_0 ?_
    (repeat' (with_reducible first | refine And.intro ?_ ?_ | intro _ | refine PI_i ?_ | refine PV_i ?_ | refine PL_i ?_)) <;> first | omega | exact h _
  · subst g
    rw [hq]
    refine bk_X11_has_0 ?_
    (repeat' (with_reducible first | refine And.intro ?_ ?_ | intro _ | refine PI_i ?_ | refine PV_i ?_ | refine PL_i ?_)) <;> first | omega | skip
    exact c11_parishes hc0 (c11_bits (by omega) (by omega) (PI_i (h _)))
  · subst g
    rw [s1]
    refine bk_X11_has_0 ?_
    (repeat' (with_reducible first | refine And.intro ?_ ?_ | intro _ | refine PI_i ?_ | refine PV_i ?_ | refine PL_i ?_)) <;> first | omega | skip
    exact c11_bits (by omega) (by omega) (PI_i (h _))
  · subst g
    rw [s2]
    refine bk_X11_has_0 ?_
    (repeat' (with_reducible first | refine And.intro ?_ ?_ | intro _ | refine PI_i ?_ | refine PV_i ?_ | refine PL_i ?_)) <;> first | omega | exact h _
  · subst g
    rw [hk]
    refine bk_X11_has_0 ?_
    (repeat' (with_reducible first | refine And.intro ?_ ?_ | intro _ | refine PI_i ?_ | refine PV_i ?_ | refine PL_i ?_)) <;> first | omega | exact h _
theorem letter_b {a1 a2 k n : Int} : ∀ (r : List Int) (q : Int), (∀ x ∈ r, 1 ≤ x ∧ x ≤ 26) → r.length ≤ 6 → 0 ≤ k → k ≤ q → q ≤ 6 → q - k < r.length → K (r.getD (q - k).toNat 0) I → J none mX11_letter (d + 1) 0 0 102 [(0, vR 489), (1, vI a1), (2, vI a2), (3, vI k), (4, vL (valR r)), (6, vI n), (7, vI q)] [] (mk I) (PI K)
  | [], q, hr, hl, hk, hq, hq6, hlt, h => by simp at hlt; omega
  | x :: r, q, hr, hl, hk, hq, hq6, hlt, h => by
    have h1 := hr x List.mem_cons_self
    have hr2 := fun y hy => hr y (List.mem_cons_of_mem x hy)
    have h2 := (valR_nn r hr2).1
    have h3 := valR_max (r := x :: r) hr hl
    have e0 : valR (x :: r) = 27 * valR r + x := rfl
    have e1 : lD (valR (x :: r)) 27 = valR r := by
      rw [lD_div (by omega) (by omega) (by omega) (by omega)]
      omega
    have e2 : l2 (lM (valR (x :: r)) 27) = x := by
      rw [lM_mod (by omega) (by omega) (by omega) (by omega), l2_id (by omega) (by omega)]
      omega
    simp only [List.length_cons] at hl hlt
    refine bk_X11_letter_102 ⟨fun g => PI_i ?_, fun g => ⟨by omega, ?_⟩⟩
    · rw [e2]
      rw [show (q - k).toNat = 0 from by omega] at h
      exact h
    · rw [e1]
      refine letter_b r (q + -1) hr2 (by omega) hk (by omega) (by omega) (by omega) ?_
      rw [show (q - k).toNat = (q + -1 - k).toNat + 1 from by omega] at h
      exact h
theorem letter_a {a1 a2 k v : Int} {r0 : List Int} (hv : v = valR r0) (hr0 : ∀ x ∈ r0, 1 ≤ x ∧ x ≤ 26) (hl0 : r0.length ≤ 6) (hk : 0 ≤ k) (h : K (r0.reverse.getD k.toNat 0) I) : ∀ (r : List Int) (n : Int), (∀ x ∈ r, 1 ≤ x ∧ x ≤ 26) → n + r.length = r0.length → 0 ≤ n → J none mX11_letter (d + 1) 0 0 67 [(0, vR 489), (1, vI a1), (2, vI a2), (3, vI k), (4, vL v), (6, vI n), (7, vL (valR r))] [] (mk I) (PI K)
  | [], n, hr, hn, h0 => by
    simp at hn
    refine bk_X11_letter_67 ⟨fun _ => ⟨fun g => ⟨by omega, ?_⟩, fun g => PI_i ?_⟩, fun g => absurd (by simp [valR]) g⟩
    · rw [hv]
      refine letter_b r0 (n - 1) hr0 hl0 hk (by omega) (by omega) (by omega) ?_
      refine K_eq h ?_
      rw [List.getD_eq_getElem?_getD, List.getD_eq_getElem?_getD, List.getElem?_reverse (by omega)]
      congr 2
      omega
    · refine K_eq h ?_
      rw [List.getD_eq_getElem?_getD, List.getElem?_eq_none (by rw [List.length_reverse]; omega)]
      rfl
  | x :: r, n, hr, hn, h0 => by
    have h1 := hr x List.mem_cons_self
    have hr2 := fun y hy => hr y (List.mem_cons_of_mem x hy)
    have h2 := (valR_nn r hr2).1
    simp only [List.length_cons] at hn
    have h3 := valR_max (r := x :: r) hr (by simp only [List.length_cons]; omega)
    have e0 : valR (x :: r) = 27 * valR r + x := rfl
    have e1 : lD (valR (x :: r)) 27 = valR r := by
      rw [lD_div (by omega) (by omega) (by omega) (by omega)]
      omega
    refine bk_X11_letter_67 ⟨fun g => by omega, fun g => ⟨by omega, ?_⟩⟩
    rw [e1]
    exact letter_a hv hr0 hl0 hk h r (n + 1) hr2 (by omega) (by omega)
theorem op_letter {a b c : Int} (hc : CN I) (hn : CNa I) (h : ∀ x, K2 x x I) : CI mX10_letter (d + 3) [vR 0, vI a, vI b, vI c] I (fun x1 I1 => CI mX11_letter (d + 3) [vR 489, vI a, vI b, vI c] I1 (K2 x1)) := by
  have hc0 := hc
  obtain ⟨⟨c0, c1, c2, c3, c4⟩, b0, b1, b2, b3, b4⟩ := hc
  have key0 : 0 ≤ b → b < I 518 5 → 0 ≤ c → c < 6 → CI mX11_letter (d + 3) [vR 489, vI 0, vI b, vI c] I (K2 (I 3 (b * 6 + c).toNat)) := by
    intro g1 g2 g3 g4
    obtain ⟨r, r1, r2, r3, r4, r5⟩ := hn.1 b g1 g2
    have r6 := r5 c.toNat (by omega)
    simp only at r6
    rw [show ((c.toNat : Nat) : Int) = c from by omega] at r6
    refine bk_X11_letter_0 (c11_isIn (fun _ _ => ⟨fun q => by omega, fun q => ⟨by omega, by omega, by simp only [show (5 + (0 : Int)).toNat = 5 from rfl]; omega, ?_⟩⟩) (fun q => by omega))
    simp only [show (5 + (0 : Int)).toNat = 5 from rfl]
    refine c11_isIn (fun _ _ => ⟨fun q => by omega, fun q => c11_isIn (fun _ _ => ⟨fun q => ⟨by omega, by omega, by omega, by omega, ?_⟩, fun q => by omega⟩) (fun q => by omega)⟩) (fun q => by omega)
    have x := letter_a (d := d + 2) (I := I) (a1 := 0) (a2 := b) (K := K2 (I 3 (b * 6 + c).toNat)) r4 r3 r2 g3 (by rw [← r6]; exact h _) r 0 r3 (by omega) (by omega)
    rw [← r4] at x
    exact x
  have key1 : 0 ≤ b → b < I 518 6 → 0 ≤ c → c < 6 → CI mX11_letter (d + 3) [vR 489, vI 1, vI b, vI c] I (K2 (I 4 (b * 6 + c).toNat)) := by
    intro g1 g2 g3 g4
    obtain ⟨r, r1, r2, r3, r4, r5⟩ := hn.2 b g1 g2
    have r6 := r5 c.toNat (by omega)
    simp only at r6
    rw [show ((c.toNat : Nat) : Int) = c from by omega] at r6
    refine bk_X11_letter_0 (c11_isIn (fun _ _ => ⟨fun q => by omega, fun q => ⟨by omega, by omega, by simp only [show (5 + (1 : Int)).toNat = 6 from rfl]; omega, ?_⟩⟩) (fun q => by omega))
    simp only [show (5 + (1 : Int)).toNat = 6 from rfl]
    refine c11_isIn (fun _ _ => ⟨fun q => by omega, fun q => c11_isIn (fun _ _ => ⟨fun q => ⟨by omega, by omega, by omega, by omega, ?_⟩, fun q => by omega⟩) (fun q => by omega)⟩) (fun q => by omega)
    have x := letter_a (d := d + 2) (I := I) (a1 := 1) (a2 := b) (K := K2 (I 4 (b * 6 + c).toNat)) r4 r3 r2 g3 (by rw [← r6]; exact h _) r 0 r3 (by omega) (by omega)
    rw [← r4] at x
    exact x
  have keyn : ¬ (0 ≤ a ∧ a ≤ 1 ∧ 0 ≤ b ∧ b < I 518 (5 + a).toNat ∧ 0 ≤ c ∧ c ≤ 5) → CI mX11_letter (d + 3) [vR 489, vI a, vI b, vI c] I (K2 (-1)) := by
    intro g
    refine bk_X11_letter_0 (c11_isIn (fun q1 q2 => ⟨fun q => by omega, fun q => ?_⟩) (fun q => ⟨fun _ => PI_i (h _), fun q => by omega⟩))
    have e : a = 0 ∨ a = 1 := by omega
    have hb : 0 ≤ I 518 (5 + a).toNat ∧ I 518 (5 + a).toNat ≤ 10 := by
      rcases e with rfl | rfl
      · simp only [show (5 + (0 : Int)).toNat = 5 from rfl]; omega
      · simp only [show (5 + (1 : Int)).toNat = 6 from rfl]; omega
    refine ⟨by omega, by omega, by omega, c11_isIn (fun q1 q2 => ⟨fun q => by omega, fun q => ?_⟩) (fun q => ⟨fun _ => PI_i (h _), fun q => by omega⟩)⟩
    exact c11_isIn (fun q1 q2 => by omega) (fun q => ⟨fun q => by omega, fun _ => PI_i (h _)⟩)
  refine bk_X10_letter_0 ?_
  (repeat' (with_reducible first | refine And.intro ?_ ?_ | intro _ | refine PI_i ?_ | refine PV_i ?_ | refine PL_i ?_)) <;> first | omega | skip
  all_goals first | (refine keyn ?_; omega) | skip
  · obtain rfl : a = 1 := by omega
    exact key1 (by omega) (by omega) (by omega) (by omega)
  · obtain rfl : a = 1 := by omega
    refine keyn ?_
    simp only [show (5 + (1 : Int)).toNat = 6 from rfl]
    omega
  · obtain rfl : a = 0 := by omega
    exact key0 (by omega) (by omega) (by omega) (by omega)
  · obtain rfl : a = 0 := by omega
    refine keyn ?_
    simp only [show (5 + (0 : Int)).toNat = 5 from rfl]
    omega
theorem op_fault {a : Int} (h1 : I 0 14 = I 489 7) (h2 : I 0 15 = I 489 8) (h : ∀ x, K2 x x I) : CI mX10_fault (d + 3) [vR 0, vI a] I (fun x1 I1 => CI mX11_fault (d + 3) [vR 489, vI a] I1 (K2 x1)) := by
  refine c10_fault (c11_fault ?_)
  rw [h1, h2]
  exact h _
end OC
