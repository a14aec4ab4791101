/-- the price of a choice, staying ahead of all changes if one may -/
def prc (I : HI) (cs : Int → List Int) (st : Int) (s x : Nat) : Int := min 999 (max 0 (endS 0 (chw I cs s x))) + (if st ≠ 0 ∧ x ≠ 0 then 10000 else 0)
theorem prc_rng (I : HI) (cs : Int → List Int) (st : Int) (s x : Nat) : 0 ≤ prc I cs st s x ∧ prc I cs st s x ≤ 10999 := by
  unfold prc
  split <;> omega
theorem prc_fr {I X : HI} (f : CF I X) (sh : X 489 63 = I 489 63) (cs : Int → List Int) (st : Int) (s x : Nat) : prc X cs st s x = prc I cs st s x := by
  unfold prc
  rw [chw_fr f sh]
def rk (I : HI) (s n : Nat) : Nat := (I 73 (61 * s + n)).toNat
section PR
variable {d : Nat} {I : HI} {K : HI → Prop} {KI : Int → HI → Prop} {K2 : Int → Int → HI → Prop} {cs : Int → List Int} {H : List Sn}
theorem ch_end (hk : KNW I cs) {s x : Nat} (s1 : (s : Int) < I 518 6) (x1 : x ≤ 3 * (rts I s).length) : 0 ≤ endS 0 (chw I cs s x) ∧ endS 0 (chw I cs s x) ≤ 999 := by
  obtain ⟨_, sw, ok, _⟩ := ch_ok ⟨hk.1, hk.2.1⟩ s1 x1
  exact ⟨endS_nn sw.1, sw.2.2.2.1⟩
theorem prc_v (hk : KNW I cs) {s x : Nat} {st : Int} (s1 : (s : Int) < I 518 6) (x1 : x ≤ 3 * (rts I s).length) : prc I cs st s x = endS 0 (chw I cs s x) + (if st ≠ 0 ∧ x ≠ 0 then 10000 else 0) := by
  have := ch_end hk s1 x1
  unfold prc
  congr 1
  omega
theorem rk_v (hk : KNW I cs) {s n : Nat} (s1 : (s : Int) < I 518 6) (n1 : n ≤ 3 * (rts I s).length) : I 73 (61 * s + n) = (rk I s n : Int) ∧ rk I s n ≤ 3 * (rts I s).length ∧ (n = 0 → rk I s n = 0) ∧ (n ≠ 0 → rk I s n ≠ 0) := by
  have g := (hk.2.1 s s1).2.2
  unfold rk
  by_cases e : n = 0
  · subst e
    rw [Nat.add_zero, g.1]
    exact ⟨rfl, by simp, fun _ => rfl, fun q => absurd rfl q⟩
  · have := g.2.1 n (by omega) n1
    omega
theorem rk_on (hk : KNW I cs) {s y : Nat} (s1 : (s : Int) < I 518 6) (y1 : y ≤ 3 * (rts I s).length) : ∃ n, n ≤ 3 * (rts I s).length ∧ rk I s n = y := by
  have g := (hk.2.1 s s1).2.2
  unfold rk
  by_cases e : y = 0
  · exact ⟨0, by omega, by rw [Nat.add_zero, g.1, e]; rfl⟩
  · obtain ⟨n, n0, n1, n2⟩ := g.2.2.1 y (by omega) y1
    exact ⟨n, n1, by rw [n2]; rfl⟩
theorem rk_mono (hk : KNW I cs) {s n n' : Nat} {st : Int} (s1 : (s : Int) < I 518 6) (n0 : 1 ≤ n) (nn : n ≤ n') (n1 : n' ≤ 3 * (rts I s).length) : prc I cs st s (rk I s n) ≤ prc I cs st s (rk I s n') := by
  have g := (hk.2.1 s s1).2
  have v1 := rk_v hk s1 (show n ≤ 3 * (rts I s).length from by omega)
  have v2 := rk_v hk s1 n1
  have le := RKs_le g.2 n0 nn n1
  have a1 := v1.2.2.2 (by omega)
  have a2 := v2.2.2.2 (by omega)
  have e1 := g.1 (rk I s n) (by omega) v1.2.1
  have e2 := g.1 (rk I s n') (by omega) v2.2.1
  have c1 : ∀ x, x ≠ 0 → chw I cs (s : Int) x = wy I (s : Int) (opc I (s : Int) (x - 1)) := fun x hx => by
    unfold chw chc
    rw [if_neg hx]
  rw [prc_v hk s1 v1.2.1, prc_v hk s1 v2.2.1, c1 _ a1, c1 _ a2, ← e1, ← e2]
  have le' : I 72 (61 * s + rk I s n) ≤ I 72 (61 * s + rk I s n') := le
  by_cases q : st ≠ 0
  · rw [if_pos ⟨q, a1⟩, if_pos ⟨q, a2⟩]
    omega
  · rw [if_neg (fun z => q z.1), if_neg (fun z => q z.1)]
    omega
theorem prc_0 (hk : KNW I cs) {s x : Nat} {st : Int} (h : st ≠ 0) (s1 : (s : Int) < I 518 6) (x1 : x ≤ 3 * (rts I s).length) : prc I cs st s 0 ≤ prc I cs st s x := by
  by_cases e : x = 0
  · rw [e]; exact Int.le_refl _
  · unfold prc
    rw [if_neg (fun z => z.2 rfl), if_pos ⟨h, e⟩]
    omega
theorem c5_endOf (hk : KNW I cs) {s x : Nat} (s1 : (s : Int) < I 518 6) (x1 : x ≤ 3 * (rts I s).length) (h : KI (endS 0 (chw I cs s x)) I) : CI mX5_endOf (d + 1) [vR 69, vI (s : Int), vI (x : Int)] I KI := by
  have n6 := hk.1.1.1.2.2.1
  have rl := rts_len (I := I) (s : Int)
  refine bk_X5_endOf_0 ⟨fun q => ?_, fun q => ?_⟩
  · have e1 := (hk.2.1 s s1).2.1 x (by omega) x1
    rw [show ((s : Int) * 61 + (x : Int)).toNat = 61 * s + x from by omega, e1]
    refine ⟨by omega, by omega, by omega, PI_i ?_⟩
    unfold chw chc at h
    rw [if_neg (by omega)] at h
    exact h
  · have t5 := ((ch_ok ⟨hk.1, hk.2.1⟩ s1 x1).1).2.1
    obtain rfl : x = 0 := by omega
    rw [Int.toNat_natCast]
    refine ⟨by omega, PI_i ?_⟩
    unfold chT chL at t5
    rw [if_pos rfl, if_pos rfl, Int.add_zero] at t5
    rw [t5]
    exact h
theorem c6_price (hk : KNW I cs) {s x : Nat} (s1 : (s : Int) < I 518 6) (x1 : x ≤ 3 * (rts I s).length) (h : KI (prc I cs (I 477 9) s x) I) : CI mX6_price (d + 2) [vR 477, vI (s : Int), vI (x : Int)] I KI := by
  have e := ch_end hk s1 x1
  rw [prc_v hk s1 x1] at h
  refine bk_X6_price_0 (c5_endOf hk s1 x1 ⟨fun q => ⟨by omega, PI_i ?_⟩, fun q => ⟨fun q2 => ⟨by omega, PI_i ?_⟩, fun q2 => ⟨by omega, PI_i ?_⟩⟩⟩)
  · rw [if_neg (fun z => z.1 q)] at h
    exact h
  · rw [if_neg (fun z => z.2 (by omega))] at h
    exact h
  · rw [if_pos ⟨q, by omega⟩] at h
    exact h
theorem cheap_lp (hk : KNW I cs) {s : Nat} {v : Int} (s1 : (s : Int) < I 518 6) (hv : ∀ y, y < 64 → lb v y = true → y ≤ 3 * (rts I s).length ∧ (y = 0 → I 477 9 ≠ 0)) (h : ∀ r, 0 ≤ r → r ≤ 100000 → (∀ y, y < 64 → lb v y = true → r ≤ prc I cs (I 477 9) s y) → KI r I) : ∀ (k n : Nat), n + k = 3 * (rts I s).length + 1 → (∀ n', n' < n → lb v (rk I s n') = false) → J none mX6_cheapest (d + 3) 0 0 3 [(0, vR 477), (1, vI (s : Int)), (2, vL v), (4, vI (n : Int))] [] (mk I) (PI KI)
  | 0, n, e, hn => by
    have n6 := hk.1.1.1.2.2.1
    have rl := rts_len (I := I) (s : Int)
    have f71 := (hk.2.1 s s1).1.1
    refine bk_X6_cheapest_3 ?_
    rw [Int.toNat_natCast, f71]
    refine ⟨by omega, by omega, fun _ => PI_i (h 100000 (by omega) (by omega) (fun y hy hb => ?_)), fun q => by omega⟩
    obtain ⟨n', n1, n2⟩ := rk_on hk s1 (hv y hy hb).1
    have := hn n' (by omega)
    rw [n2, hb] at this
    cases this
  | k + 1, n, e, hn => by
    have n6 := hk.1.1.1.2.2.1
    have rl := rts_len (I := I) (s : Int)
    have f71 := (hk.2.1 s s1).1.1
    have rv := rk_v hk s1 (show n ≤ 3 * (rts I s).length from by omega)
    refine bk_X6_cheapest_3 ?_
    rw [Int.toNat_natCast, f71, show ((s : Int) * 61 + (n : Int)).toNat = 61 * s + n from by omega, rv.1]
    refine ⟨by omega, by omega, fun q => by omega, fun _ => ⟨fun q => PI_i (h 100000 (by omega) (by omega) (fun y hy hb => ?_)), fun q => ⟨by omega, by omega, by omega, ?_⟩⟩⟩
    · rw [q, lb_0] at hb
      cases hb
    · rw [lu_1 (by omega) (by omega), Int.toNat_natCast]
      by_cases hb : lb v (rk I s n) = true
      · rw [if_pos hb]
        refine ⟨fun q => by omega, fun _ => c6_price hk s1 rv.2.1 (PI_i ?_)⟩
        have pr := prc_rng I cs (I 477 9) s (rk I s n)
        refine h _ pr.1 (by omega) (fun y hy hby => ?_)
        obtain ⟨n', n1, n2⟩ := rk_on hk s1 (hv y hy hby).1
        have nn : n ≤ n' := by
          rcases Nat.lt_or_ge n' n with z | z
          · have := hn n' z
            rw [n2, hby] at this
            cases this
          · exact z
        by_cases en : n = 0
        · have := (hv (rk I s n) (by omega) hb).2 (rv.2.2.1 en)
          rw [rv.2.2.1 en]
          exact prc_0 hk this s1 (hv y hy hby).1
        · rw [← n2]
          exact rk_mono hk s1 (by omega) nn n1
      · rw [if_neg hb]
        refine ⟨fun _ => ⟨by omega, ?_⟩, fun q => absurd rfl q⟩
        have := cheap_lp hk s1 hv h k (n + 1) (by omega) (fun n' hn' => by
          by_cases en : n' = n
          · rw [en]
            simpa using hb
          · exact hn n' (by omega))
        exact this
theorem c6_cheapest (hk : KNW I cs) {s : Nat} {v : Int} (s1 : (s : Int) < I 518 6) (hv : ∀ y, y < 64 → lb v y = true → y ≤ 3 * (rts I s).length ∧ (y = 0 → I 477 9 ≠ 0)) (h : ∀ r, 0 ≤ r → r ≤ 100000 → (∀ y, y < 64 → lb v y = true → r ≤ prc I cs (I 477 9) s y) → KI r I) : CI mX6_cheapest (d + 3) [vR 477, vI (s : Int), vL v] I KI :=
  bk_X6_cheapest_0 (cheap_lp hk s1 hv h (3 * (rts I s).length + 1) 0 (by omega) (fun n' hn' => by omega))
theorem enough_lp (hk : KNW I cs) {s : Nat} {v b : Int} (s1 : (s : Int) < I 518 6) (h : ∀ r, lrg r → (∀ y, y < 64 → lb r y = true → lb v y = true) → (∀ y, y < 64 → y ≤ 3 * (rts I s).length → lb v y = true → prc I cs (I 477 9) s y < b → lb r y = true) → KI r I) : ∀ (k n : Nat) (c : Int), n + k = 3 * (rts I s).length + 1 → 1 ≤ n → lb c 0 = true → (∀ n', 1 ≤ n' → n' < n → lb c (rk I s n') = true) → J none mX6_cheapEnough (d + 3) 0 0 46 [(0, vR 477), (1, vI (s : Int)), (2, vL v), (4, vI b), (5, vI ((3 * (rts I s).length : Nat) : Int)), (6, vL c), (8, vI (n : Int))] [] (mk I) (PL KI)
  | 0, n, c, e, n0, c0, hn => by
    refine bk_X6_cheapEnough_46 ⟨fun _ => PL_i (h _ (lrg_A _ _) (fun y hy hb => ?_) (fun y hy y1 hb hp => ?_)), fun q => by omega⟩
    · rw [lb_A, Bool.and_eq_true] at hb
      exact hb.1
    · rw [lb_A, hb, Bool.true_and]
      by_cases ey : y = 0
      · rw [ey]; exact c0
      · obtain ⟨n', n1, n2⟩ := rk_on hk s1 y1
        have : n' ≠ 0 := fun z => ey (by rw [← n2]; exact (rk_v hk s1 n1).2.2.1 z)
        rw [← n2]
        exact hn n' (by omega) (by omega)
  | k + 1, n, c, e, n0, c0, hn => by
    have n6 := hk.1.1.1.2.2.1
    have rl := rts_len (I := I) (s : Int)
    have rv := rk_v hk s1 (show n ≤ 3 * (rts I s).length from by omega)
    refine bk_X6_cheapEnough_46 ⟨fun q => by omega, fun _ => ?_⟩
    rw [show ((s : Int) * 61 + (n : Int)).toNat = 61 * s + n from by omega, rv.1]
    refine ⟨by omega, by omega, by omega, c6_price hk s1 rv.2.1 ⟨fun q => ⟨by omega, ?_⟩, fun q => PL_i (h _ (lrg_A _ _) (fun y hy hb => ?_) (fun y hy y1 hb hp => ?_))⟩⟩
    · have := enough_lp hk s1 h k (n + 1) (lO c (lSl 1 (rk I s n : Int))) (by omega) (by omega) (by rw [lb_O, c0, Bool.true_or]) (fun n' n0' n1' => by
        have rv' := rk_v hk s1 (show n' ≤ 3 * (rts I s).length from by omega)
        rw [lb_O]
        by_cases en : n' = n
        · rw [en, lb_p2 (by omega) (by omega) (by omega)]
          simp
        · rw [hn n' n0' (by omega), Bool.true_or])
      exact this
    · rw [lb_A, Bool.and_eq_true] at hb
      exact hb.1
    · rw [lb_A, hb, Bool.true_and]
      by_cases ey : y = 0
      · rw [ey]; exact c0
      · obtain ⟨n', n1, n2⟩ := rk_on hk s1 y1
        have nz : n' ≠ 0 := fun z => ey (by rw [← n2]; exact (rk_v hk s1 n1).2.2.1 z)
        rw [← n2]
        rcases Nat.lt_or_ge n' n with z | z
        · exact hn n' (by omega) z
        · have := rk_mono hk (st := I 477 9) s1 n0 z n1
          rw [n2] at this
          omega
theorem c6_cheapEnough (hk : KNW I cs) {s : Nat} {v b : Int} (s1 : (s : Int) < I 518 6) (vl : lrg v) (hv : ∀ y, y < 64 → lb v y = true → y ≤ 3 * (rts I s).length ∧ (y = 0 → I 477 9 ≠ 0)) (h : ∀ r, lrg r → (∀ y, y < 64 → lb r y = true → lb v y = true) → (∀ y, y < 64 → y ≤ 3 * (rts I s).length → lb v y = true → prc I cs (I 477 9) s y < b → lb r y = true) → KI r I) : CL mX6_cheapEnough (d + 3) [vR 477, vI (s : Int), vL v, vI b] I KI := by
  have n6 := hk.1.1.1.2.2.1
  have rl := rts_len (I := I) (s : Int)
  have f71 := (hk.2.1 s s1).1.1
  have rv := rk_v hk s1 (Nat.le_refl (3 * (rts I s).length))
  refine bk_X6_cheapEnough_0 ?_
  rw [Int.toNat_natCast, f71, show ((s : Int) * 61 + 3 * ((rts I s).length : Int)).toNat = 61 * s + 3 * (rts I s).length from by omega, rv.1]
  refine ⟨by omega, by omega, by omega, by omega, by omega, c6_price hk s1 rv.2.1 ⟨fun q => ?_, fun q => PL_i (h v vl (fun y _ hb => hb) (fun y _ _ hb _ => hb))⟩⟩
  have := enough_lp (d := d) (b := b) hk s1 h (3 * (rts I s).length) 1 1 (by omega) (by omega) (by rw [lb_1]; rfl) (fun n' h1 h2 => by omega)
  rw [show ((3 * (rts I s).length : Nat) : Int) = 3 * ((rts I s).length : Int) from by omega] at this
  exact this
end PR
