def pf (f : Nat → Nat) (c x : Nat) : Nat → Nat := fun j => if j = c then x else f j
theorem pf_s {f : Nat → Nat} {c x : Nat} : pf f c x c = x := if_pos rfl
theorem pf_n {f : Nat → Nat} {c x j : Nat} (h : j ≠ c) : pf f c x j = f j := if_neg h
/-- the tokens as the class keeps them -/
def TOA (t : Txt) (Y : HI) : Prop := ∀ i, i ≤ uN t → Y 29 i = uS t i ∧ Y 30 i = uP t i ∧ Y 31 i = uK t i
/-- c tokens are cut, up to the place q -/
def CUT (I : HI) (e : Nat) (S P K : Nat → Nat) (c q : Nat) (X : HI) : Prop := (∀ i, i < c → X 29 i = S i ∧ X 30 i = P i ∧ X 31 i = K i) ∧ (∀ i, i < c → TK1 (I 27) e (S i) (P i) (K i) ∧ GAPt (I 27) S P i) ∧ (pe P c ≤ q ∧ ∀ j, pe P c ≤ j → j < q → blk (I 27 j)) ∧ (c ≤ q ∧ q ≤ e) ∧ (∀ k, k ≠ 29 → k ≠ 30 → k ≠ 31 → X k = I k)
theorem pe_n {P : Nat → Nat} {c x i : Nat} (h : i ≤ c) : pe (pf P c x) i = pe P i := by
  unfold pe
  by_cases e : i = 0
  · rw [if_pos e, if_pos e]
  · rw [if_neg e, if_neg e, pf_n (by omega)]
theorem CUT_s {I X Y : HI} {e c q p k : Nat} {S P K : Nat → Nat} (h : CUT I e S P K c q X) (g : TK1 (I 27) e q p k) (ey : Y = up (up (up X 29 c q) 30 c p) 31 c k) : CUT I e (pf S c q) (pf P c p) (pf K c k) (c + 1) p Y := by
  obtain ⟨h1, h2, h3, h4, h5⟩ := h
  have g1 := g.1
  refine ⟨fun i hi => ?_, fun i hi => ?_, ?_, ⟨by omega, by omega⟩, fun c' a b d => by rw [ey, up_k d, up_k b, up_k a, h5 c' a b d]⟩
  · by_cases ei : i = c
    · subst ei
      rw [pf_s, pf_s, pf_s]
      refine ⟨?_, ?_, ?_⟩
      · rw [ey, up_k (by decide), up_k (by decide), up_s]
      · rw [ey, up_k (by decide), up_s]
      · rw [ey, up_s]
    · rw [pf_n ei, pf_n ei, pf_n ei]
      obtain ⟨a, b, d⟩ := h1 i (by omega)
      refine ⟨?_, ?_, ?_⟩
      · rw [ey, up_k (by decide), up_k (by decide), up_n (by omega)]; exact a
      · rw [ey, up_k (by decide), up_n (by omega), up_k (by decide)]; exact b
      · rw [ey, up_n (by omega), up_k (by decide), up_k (by decide)]; exact d
  · by_cases ei : i = c
    · subst ei
      unfold GAPt
      rw [pf_s, pf_s, pf_s, pe_n (Nat.le_refl _)]
      exact ⟨g, h3⟩
    · obtain ⟨a, b⟩ := h2 i (by omega)
      unfold GAPt at b ⊢
      rw [pf_n ei, pf_n ei, pf_n ei, pe_n (by omega)]
      exact ⟨a, b⟩
  · have : pe (pf P c p) (c + 1) = p := by
      unfold pe
      rw [if_neg (by omega), show c + 1 - 1 = c from by omega, pf_s]
    rw [this]
    exact ⟨Nat.le_refl _, fun j a b => by omega⟩
theorem CUT_b {I X : HI} {e c q : Nat} {S P K : Nat → Nat} (h : CUT I e S P K c q X) (b : blk (I 27 q)) (qe : q < e) : CUT I e S P K c (q + 1) X := by
  obtain ⟨h1, h2, h3, h4, h5⟩ := h
  refine ⟨h1, h2, ⟨by omega, fun j a1 a2 => ?_⟩, ⟨by omega, by omega⟩, h5⟩
  by_cases ej : j = q
  · rw [ej]; exact b
  · exact h3.2 j a1 (by omega)
section CU
variable {d : Nat} {I : HI} {K0 : HI → Prop}
theorem cut_58 {X : HI} {e s c : Nat} {a5 a6 : Int} (e16 : e ≤ 1600) (ce : c < 1600) (x27 : X 27 = I 27) (nx : ∀ p k : Nat, RUN ltr (I 27) e s p → s < p → KND (I 27) s p k → ∀ Y : HI, Y = up (up (up X 29 c s) 30 c p) 31 c k → J none mX7_cut (d + 6) 0 0 4 [(0, vR 28), (1, vI (e : Int)), (2, vI ((c : Int) + 1)), (3, vI (p : Int))] [] (mk Y) (PV K0)) : ∀ (m r : Nat), r + m = e → s < r → (∀ j, s ≤ j → j < r → ltr (I 27 j)) → J none mX7_cut (d + 6) 0 0 58 [(0, vR 28), (1, vI (e : Int)), (2, vI (c : Int)), (3, vI (r : Int)), (4, vI (s : Int)), (5, vI a5), (6, vI a6)] [] (mk X) (PV K0)
  | 0, r, h, sr, hl => by
    have hr : RUN ltr (I 27) e s r := ⟨⟨by omega, by omega⟩, hl, Or.inl (by omega)⟩
    refine bk_X7_cut_58 ⟨fun _ => c7_kindOfWord sr (by omega) (by rw [x27]; exact hl) (fun k hk => ⟨by omega, fun I2 e2 => ⟨by omega, fun I3 e3 => ⟨by omega, by omega, fun I4 e4 => nx r k hr sr (by rw [x27] at hk; exact hk) I4 (by subst e2; subst e3; subst e4; rfl)⟩⟩⟩), fun q => by omega⟩
  | m + 1, r, h, sr, hl => by
    have ih := cut_58 (a5 := a5) (a6 := a6) e16 ce x27 nx m (r + 1) (by omega) (by omega)
    refine bk_X7_cut_58 ?_
    rw [Int.toNat_natCast, Int.toNat_natCast, x27]
    refine ⟨fun q => by omega, fun _ => ⟨by omega, fun q => ?_, fun q => ⟨by omega, fun q2 => ?_, fun q2 => ⟨by omega, ?_⟩⟩⟩⟩
    · have hr : RUN ltr (I 27) e s r := ⟨⟨by omega, by omega⟩, hl, Or.inr (fun u => by unfold ltr at u; omega)⟩
      exact c7_kindOfWord sr (by omega) (by rw [x27]; exact hl) (fun k hk => ⟨by omega, fun I2 e2 => ⟨by omega, fun I3 e3 => ⟨by omega, by omega, fun I4 e4 => nx r k hr sr (by rw [x27] at hk; exact hk) I4 (by subst e2; subst e3; subst e4; rfl)⟩⟩⟩)
    · have hr : RUN ltr (I 27) e s r := ⟨⟨by omega, by omega⟩, hl, Or.inr (fun u => by unfold ltr at u; omega)⟩
      exact c7_kindOfWord sr (by omega) (by rw [x27]; exact hl) (fun k hk => ⟨by omega, fun I2 e2 => ⟨by omega, fun I3 e3 => ⟨by omega, by omega, fun I4 e4 => nx r k hr sr (by rw [x27] at hk; exact hk) I4 (by subst e2; subst e3; subst e4; rfl)⟩⟩⟩)
    · have := ih (fun j a b => by
        by_cases ej : j = r
        · rw [ej]; unfold ltr; omega
        · exact hl j a (by omega))
      exact this
theorem cut_117 {X : HI} {e s c : Nat} {a5 a6 : Int} (e16 : e ≤ 1600) (ce : c < 1600) (x27 : X 27 = I 27) (nx : ∀ p : Nat, RUN dgt (I 27) e s p → s < p → ∀ Y : HI, Y = up (up (up X 29 c s) 30 c p) 31 c (28 : Nat) → J none mX7_cut (d + 6) 0 0 4 [(0, vR 28), (1, vI (e : Int)), (2, vI ((c : Int) + 1)), (3, vI (p : Int))] [] (mk Y) (PV K0)) : ∀ (m r : Nat), r + m = e → s < r → (∀ j, s ≤ j → j < r → dgt (I 27 j)) → J none mX7_cut (d + 6) 0 0 117 [(0, vR 28), (1, vI (e : Int)), (2, vI (c : Int)), (3, vI (r : Int)), (4, vI (s : Int)), (5, vI a5), (6, vI a6)] [] (mk X) (PV K0)
  | 0, r, h, sr, hl => by
    have hr : RUN dgt (I 27) e s r := ⟨⟨by omega, by omega⟩, hl, Or.inl (by omega)⟩
    refine bk_X7_cut_117 ⟨fun _ => ⟨by omega, fun I2 e2 => ⟨by omega, fun I3 e3 => ⟨by omega, by omega, fun I4 e4 => nx r hr sr I4 (by subst e2; subst e3; subst e4; rfl)⟩⟩⟩, fun q => by omega⟩
  | m + 1, r, h, sr, hl => by
    have ih := cut_117 (a5 := a5) (a6 := a6) e16 ce x27 nx m (r + 1) (by omega) (by omega)
    refine bk_X7_cut_117 ?_
    rw [Int.toNat_natCast, Int.toNat_natCast, x27]
    refine ⟨fun q => by omega, fun _ => ⟨by omega, fun q => ?_, fun q => ⟨by omega, fun q2 => ?_, fun q2 => ⟨by omega, ?_⟩⟩⟩⟩
    · have hr : RUN dgt (I 27) e s r := ⟨⟨by omega, by omega⟩, hl, Or.inr (fun u => by unfold dgt at u; omega)⟩
      exact ⟨by omega, fun I2 e2 => ⟨by omega, fun I3 e3 => ⟨by omega, by omega, fun I4 e4 => nx r hr sr I4 (by subst e2; subst e3; subst e4; rfl)⟩⟩⟩
    · have hr : RUN dgt (I 27) e s r := ⟨⟨by omega, by omega⟩, hl, Or.inr (fun u => by unfold dgt at u; omega)⟩
      exact ⟨by omega, fun I2 e2 => ⟨by omega, fun I3 e3 => ⟨by omega, by omega, fun I4 e4 => nx r hr sr I4 (by subst e2; subst e3; subst e4; rfl)⟩⟩⟩
    · have := ih (fun j a b => by
        by_cases ej : j = r
        · rw [ej]; unfold dgt; omega
        · exact hl j a (by omega))
      exact this
theorem cut_4 {e : Nat} {T0 : Int} (e16 : e ≤ 1600) (h0 : 0 ≤ T0 ∧ T0 ≤ 10000000) (h : ∀ (t : Txt) (Y : HI), TKN t → uA t = I 27 → uE t = e → uO t = T0 → (∀ k, k ≠ 29 → k ≠ 30 → k ≠ 31 → Y k = I k) → TOA t Y → K0 Y) : ∀ (m : Nat) (c q : Nat) (S P K : Nat → Nat) (X : HI), e ≤ q + m → CUT I e S P K c q X → J none mX7_cut (d + 6) 0 0 4 [(0, vR 28), (1, vI (e : Int)), (2, vI (c : Int)), (3, vI (q : Int))] [] (mk X) (PV K0) := by
  have base : ∀ (c q : Nat) (S P K : Nat → Nat) (X : HI), q = e → CUT I e S P K c q X → J none mX7_cut (d + 6) 0 0 4 [(0, vR 28), (1, vI (e : Int)), (2, vI (c : Int)), (3, vI (q : Int))] [] (mk X) (PV K0) := by
    intro c q S P K X eq hX
    have hX4 := hX.2.2.2.1
    refine bk_X7_cut_4 ⟨fun _ => ⟨by omega, fun I1 e1 => ⟨by omega, fun I2 e2 => ⟨by omega, fun I3 e3 => PV_i (h (I 27, pf S c e, pf P c e, pf K c 30, e, c, T0) I3 ⟨⟨e16, by show c ≤ 1600; omega⟩, ⟨pf_s, pf_s, pf_s⟩, fun i hi => ?_, fun i hi => ?_, h0⟩ rfl rfl rfl (fun k a b f => ?_) (fun i hi => ?_))⟩⟩⟩, fun w => by omega⟩
    · have hi' : i < c := hi
      show TK1 (I 27) e (pf S c e i) (pf P c e i) (pf K c 30 i)
      rw [pf_n (by omega), pf_n (by omega), pf_n (by omega)]
      exact (hX.2.1 i hi').1
    · have hi' : i ≤ c := hi
      show GAPt (I 27) (pf S c e) (pf P c e) i
      unfold GAPt
      rw [pe_n hi']
      by_cases ei : i = c
      · subst ei
        rw [pf_s]
        have := hX.2.2.1
        rw [eq] at this
        exact this
      · rw [pf_n ei]
        exact (hX.2.1 i (by omega)).2
    · rw [e3, up_k f, e2, up_k b, e1, up_k a, hX.2.2.2.2 k a b f]
    · have hi' : i ≤ c := hi
      show I3 29 i = (pf S c e i : Int) ∧ I3 30 i = (pf P c e i : Int) ∧ I3 31 i = (pf K c 30 i : Int)
      by_cases ei : i = c
      · subst ei
        rw [pf_s, pf_s, pf_s]
        refine ⟨?_, ?_, ?_⟩
        · rw [e3, up_k (by decide), e2, up_k (by decide), e1]; exact up_s
        · rw [e3, up_k (by decide), e2]; exact up_s
        · rw [e3]; exact up_s
      · rw [pf_n ei, pf_n ei, pf_n ei]
        obtain ⟨a, b, f⟩ := hX.1 i (by omega)
        have ne : i ≠ ((c : Nat) : Int).toNat := by omega
        refine ⟨?_, ?_, ?_⟩
        · rw [e3, up_k (by decide), e2, up_k (by decide), e1, up_n (by omega)]; exact a
        · rw [e3, up_k (by decide), e2, up_n (by omega), e1, up_k (by decide)]; exact b
        · rw [e3, up_n (by omega), e2, up_k (by decide), e1, up_k (by decide)]; exact f
  intro m
  induction m with
  | zero =>
    intro c q S P K X hm hX
    exact base c q S P K X (by have := hX.2.2.2.1; omega) hX
  | succ m ih =>
    intro c q S P K X hm hX
    have hX4 := hX.2.2.2.1
    by_cases eq : q = e
    · exact base c q S P K X eq hX
    · have x27 : X 27 = I 27 := hX.2.2.2.2 27 (by decide) (by decide) (by decide)
      have hsig : ¬ ltr (I 27 q) → ¬ dgt (I 27 q) → ¬ blk (I 27 q) → ∀ Y : HI, Y = up (up (up X 29 c q) 30 c ((q + 1 : Nat) : Int)) 31 c ((29 : Nat) : Int) → J none mX7_cut (d + 6) 0 0 4 [(0, vR 28), (1, vI (e : Int)), (2, vI ((c : Int) + 1)), (3, vI ((q : Int) + 1))] [] (mk Y) (PV K0) := fun n1 n2 n3 Y eY => by
        have := ih (c + 1) (q + 1) _ _ _ Y (by omega) (CUT_s hX ⟨⟨by omega, by omega⟩, n3, Or.inr (Or.inr ⟨n1, n2, rfl, rfl⟩)⟩ eY)
        exact this
      refine bk_X7_cut_4 ?_
      rw [Int.toNat_natCast, Int.toNat_natCast, x27]
      have skip : blk (I 27 q) → J none mX7_cut (d + 6) 0 0 4 [(0, vR 28), (1, vI (e : Int)), (2, vI (c : Int)), (3, vI ((q : Int) + 1))] [] (mk X) (PV K0) := fun b => by
        have := ih c (q + 1) S P K X (by omega) (CUT_b hX b (by omega))
        exact this
      have dig : dgt (I 27 q) → J none mX7_cut (d + 6) 0 0 117 [(0, vR 28), (1, vI (e : Int)), (2, vI (c : Int)), (3, vI ((q : Int) + 1)), (4, vI (q : Int)), (5, vI (I 27 q)), (6, vI 29)] [] (mk X) (PV K0) := fun hd => by
        have := cut_117 (d := d) (I := I) (K0 := K0) (X := X) (e := e) (s := q) (c := c) (a5 := I 27 q) (a6 := 29) e16 (by omega) x27 (fun p hr sp Y eY => by
          have nb : ¬ blk (I 27 q) := fun b => by unfold blk at b; unfold dgt at hd; omega
          have := ih (c + 1) p _ _ _ Y (by omega) (CUT_s hX ⟨⟨sp, hr.1.2⟩, nb, Or.inr (Or.inl ⟨hd, hr, rfl⟩)⟩ eY)
          exact this) (e - (q + 1)) (q + 1) (by omega) (by omega) (fun j a b => by rw [show j = q from by omega]; exact hd)
        exact this
      have wrd : ltr (I 27 q) → J none mX7_cut (d + 6) 0 0 58 [(0, vR 28), (1, vI (e : Int)), (2, vI (c : Int)), (3, vI ((q : Int) + 1)), (4, vI (q : Int)), (5, vI (I 27 q)), (6, vI 29)] [] (mk X) (PV K0) := fun hd => by
        have := cut_58 (d := d) (I := I) (K0 := K0) (X := X) (e := e) (s := q) (c := c) (a5 := I 27 q) (a6 := 29) e16 (by omega) x27 (fun p k hr sp hk Y eY => by
          have nb : ¬ blk (I 27 q) := fun b => by unfold blk at b; unfold ltr at hd; omega
          have := ih (c + 1) p _ _ _ Y (by omega) (CUT_s hX ⟨⟨sp, hr.1.2⟩, nb, Or.inl ⟨hd, hr, hk⟩⟩ eY)
          exact this) (e - (q + 1)) (q + 1) (by omega) (by omega) (fun j a b => by rw [show j = q from by omega]; exact hd)
        exact this
      unfold blk at hsig skip
      unfold ltr at hsig wrd
      unfold dgt at hsig dig
      exact ⟨fun w => by omega, fun _ => ⟨by omega, by omega, fun b => skip (Or.inl b), fun b => ⟨fun b2 => ⟨fun u => ⟨fun v => ⟨by omega, fun I4 e4 => ⟨by omega, fun I5 e5 => ⟨by omega, by omega, fun I6 e6 => hsig (by omega) (by omega) (by omega) I6 (by subst e4; subst e5; subst e6; rfl)⟩⟩⟩, fun v => ⟨fun v2 => ⟨by omega, fun I4 e4 => ⟨by omega, fun I5 e5 => ⟨by omega, by omega, fun I6 e6 => hsig (by omega) (by omega) (by omega) I6 (by subst e4; subst e5; subst e6; rfl)⟩⟩⟩, fun v2 => dig (by omega)⟩⟩, fun u => ⟨fun u2 => ⟨fun v => by omega, fun v => ⟨fun v2 => ⟨by omega, fun I4 e4 => ⟨by omega, fun I5 e5 => ⟨by omega, by omega, fun I6 e6 => hsig (by omega) (by omega) (by omega) I6 (by subst e4; subst e5; subst e6; rfl)⟩⟩⟩, fun v2 => dig (by omega)⟩⟩, fun u2 => wrd (by omega)⟩⟩, fun b2 => skip (Or.inr b2)⟩⟩⟩
theorem c7_cut {e : Nat} {T0 : Int} (e16 : e ≤ 1600) (h0 : 0 ≤ T0 ∧ T0 ≤ 10000000) (h : ∀ (t : Txt) (Y : HI), TKN t → uA t = I 27 → uE t = e → uO t = T0 → (∀ k, k ≠ 29 → k ≠ 30 → k ≠ 31 → Y k = I k) → TOA t Y → K0 Y) : CV mX7_cut (d + 6) [vR 28, vI (e : Int)] I K0 := by
  refine bk_X7_cut_0 ?_
  have := cut_4 (d := d) (K0 := K0) e16 h0 h e 0 0 (fun _ => 0) (fun _ => 0) (fun _ => 0) I (by omega) ⟨fun i hi => by omega, fun i hi => by omega, ⟨by unfold pe; rw [if_pos rfl]; omega, fun j a b => by omega⟩, ⟨by omega, by omega⟩, fun _ _ _ _ => rfl⟩
  exact this
end CU
