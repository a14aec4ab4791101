/-- whether the saint s pleases the balcony b -/
def gladS (I : HI) (s b : Int) (W : List Sp) : Prop := W ≠ [] ∧ ((hm I s = I 523 (40 + 4 * b).toNat ∧ I 523 (40 + 4 * b + 1).toNat = 0) ∨ ∃ x ∈ W, x.2.1 ≠ -1 ∧ x.1 = I 523 (40 + 4 * b).toNat ∧ I 523 (40 + 4 * b + 1).toNat ≤ x.2.2 ∧ x.2.2 ≤ I 523 (40 + 4 * b + 2).toNat)
/-- a leg that pleases -/
def glL (c f t : Int) (x : Lg) : Prop := x.1 = c ∧ f ≤ x.2.2.2 ∧ x.2.2.2 ≤ t
theorem gl_eq (c f t : Int) : ∀ (W : List Sp) (u : Int), (∃ x ∈ W, x.2.1 ≠ -1 ∧ x.1 = c ∧ f ≤ x.2.2 ∧ x.2.2 ≤ t) ↔ ∃ x ∈ legs u W, glL c f t x
  | [], u => by simp [legs]
  | y :: W, u => by
    have ih := gl_eq c f t W y.2.2
    unfold legs
    by_cases hy : y.2.1 = -1
    · rw [if_pos hy, ← ih]
      constructor
      · rintro ⟨x, hx, q⟩
        rcases List.mem_cons.mp hx with rfl | hx
        · exact absurd hy q.1
        · exact ⟨x, hx, q⟩
      · rintro ⟨x, hx, q⟩
        exact ⟨x, List.mem_cons_of_mem _ hx, q⟩
    · rw [if_neg hy]
      constructor
      · rintro ⟨x, hx, q⟩
        rcases List.mem_cons.mp hx with rfl | hx
        · exact ⟨_, List.mem_cons_self, q.2⟩
        · obtain ⟨z, hz, q2⟩ := ih.mp ⟨x, hx, q⟩
          exact ⟨z, List.mem_cons_of_mem _ hz, q2⟩
      · rintro ⟨x, hx, q⟩
        rcases List.mem_cons.mp hx with rfl | hx
        · exact ⟨y, List.mem_cons_self, hy, q⟩
        · obtain ⟨z, hz, q2⟩ := ih.mpr ⟨x, hx, q⟩
          exact ⟨z, List.mem_cons_of_mem _ hz, q2⟩
section OF
variable {d : Nat} {I : HI} {K : Int → HI → Prop} {K2 : Int → Int → HI → Prop} {cs : Int → List Int}
theorem isPl_in {s b : Int} (s0 : 0 ≤ s) (s1 : s < 4) (b0 : 0 ≤ b) (b1 : b < 10) : ∀ (W : List Sp) (k : Int), SL I s k W → 0 ≤ k → k + W.length ≤ 24 → ((∃ x ∈ W, x.2.1 ≠ -1 ∧ x.1 = I 523 (40 + 4 * b).toNat ∧ I 523 (40 + 4 * b + 1).toNat ≤ x.2.2 ∧ x.2.2 ≤ I 523 (40 + 4 * b + 2).toNat) → K 1 I) → (¬ (∃ x ∈ W, x.2.1 ≠ -1 ∧ x.1 = I 523 (40 + 4 * b).toNat ∧ I 523 (40 + 4 * b + 1).toNat ≤ x.2.2 ∧ x.2.2 ≤ I 523 (40 + 4 * b + 2).toNat) → J none mX11_isPleased (d + 2) 0 0 9 [(0, vR 489), (1, vI b), (2, vI (40 + 4 * b)), (3, vI (s + 1))] [] (mk I) (PI K)) → J none mX11_isPleased (d + 2) 0 0 59 [(0, vR 489), (1, vI b), (2, vI (40 + 4 * b)), (3, vI s), (4, vI (24 * s + k))] [] (mk I) (PI K)
  | [], k, hs, hk, hl, h1, h0 => by
    have e := SL_len _ _ hs
    simp at e
    refine bk_X11_isPleased_59 ?_
    (repeat' (with_reducible first | refine And.intro ?_ ?_ | intro _ | refine PI_i ?_ | refine PV_i ?_ | refine PL_i ?_)) <;> first | omega | exact h0 (by simp)
  | x :: W, k, hs, hk, hl, h1, h0 => by
    have e := SL_len _ _ hs
    simp only [List.length_cons] at e hl
    obtain ⟨g1, g2, g3, g4, g5⟩ := hs
    have ih : ¬ (x.2.1 ≠ -1 ∧ x.1 = I 523 (40 + 4 * b).toNat ∧ I 523 (40 + 4 * b + 1).toNat ≤ x.2.2 ∧ x.2.2 ≤ I 523 (40 + 4 * b + 2).toNat) → J none mX11_isPleased (d + 2) 0 0 59 [(0, vR 489), (1, vI b), (2, vI (40 + 4 * b)), (3, vI s), (4, vI (24 * s + (k + 1)))] [] (mk I) (PI K) := by
      intro hn
      refine isPl_in s0 s1 b0 b1 W (k + 1) g5 (by omega) (by omega) (fun q => h1 ?_) (fun q => h0 ?_)
      · obtain ⟨y, hy, q⟩ := q
        exact ⟨y, List.mem_cons_of_mem _ hy, q⟩
      · rintro ⟨y, hy, q2⟩
        rcases List.mem_cons.mp hy with rfl | hy
        · exact hn q2
        · exact q ⟨y, hy, q2⟩
    refine bk_X11_isPleased_59 ?_
    rw [g2, g3, g4, show 24 * s + k + 1 = 24 * s + (k + 1) from by omega]
    (repeat' (with_reducible first | refine And.intro ?_ ?_ | intro _ | refine PI_i ?_ | refine PV_i ?_ | refine PL_i ?_)) <;> first | omega | skip
    · exact ih (fun q => q.1 (by assumption))
    · exact ih (fun q => absurd q.2.1 (by assumption))
    · refine c11_isIn (fun q1 q2 => ?_) (fun q => ?_)
      · (repeat' (with_reducible first | refine And.intro ?_ ?_ | intro _ | refine PI_i ?_ | refine PV_i ?_ | refine PL_i ?_)) <;> first | omega | skip
        exact h1 ⟨x, List.mem_cons_self, by assumption, by assumption, q1, q2⟩
      · (repeat' (with_reducible first | refine And.intro ?_ ?_ | intro _ | refine PI_i ?_ | refine PV_i ?_ | refine PL_i ?_)) <;> first | omega | skip
        exact ih (by omega)
theorem isPl_lp {b : Int} (hc : CN I) (hs : CSa I) (hw : RWy I cs) (b0 : 0 ≤ b) (b1 : b < 10) : ∀ (n : Nat) (s : Int), 0 ≤ s → s + n = I 518 6 → ((∃ z : Int, s ≤ z ∧ z < I 518 6 ∧ gladS I z b (wy I z (cs z))) → K 1 I) → (¬ (∃ z : Int, s ≤ z ∧ z < I 518 6 ∧ gladS I z b (wy I z (cs z))) → K 0 I) → J none mX11_isPleased (d + 2) 0 0 9 [(0, vR 489), (1, vI b), (2, vI (40 + 4 * b)), (3, vI s)] [] (mk I) (PI K)
  | 0, s, s0, s1, h1, h0 => by
    refine bk_X11_isPleased_9 (c11_saintMany ?_)
    (repeat' (with_reducible first | refine And.intro ?_ ?_ | intro _ | refine PI_i ?_ | refine PV_i ?_ | refine PL_i ?_)) <;> first | omega | skip
    exact h0 (by rintro ⟨z, z1, z2, z3⟩; omega)
  | n + 1, s, s0, s1, h1, h0 => by
    have b4 := hc.2.2.1
    obtain ⟨w1, w2, w3, w4, w5, w6, w7⟩ := hw s s0 (by omega)
    have ln := run_len I s (cs s) (hm I s) 0
    have ln2 := SL_len _ _ w4
    have nx : ¬ gladS I s b (wy I s (cs s)) → J none mX11_isPleased (d + 2) 0 0 9 [(0, vR 489), (1, vI b), (2, vI (40 + 4 * b)), (3, vI (s + 1))] [] (mk I) (PI K) := by
      intro hn
      refine isPl_lp hc hs hw b0 b1 n (s + 1) (by omega) (by omega) (fun q => h1 ?_) (fun q => h0 ?_)
      · obtain ⟨z, z1, z2, z3⟩ := q
        exact ⟨z, by omega, z2, z3⟩
      · rintro ⟨z, z1, z2, z3⟩
        by_cases e : z = s
        · subst e
          exact hn z3
        · exact q ⟨z, by omega, z2, z3⟩
    have inn : ¬ (wy I s (cs s) ≠ [] ∧ hm I s = I 523 (40 + 4 * b).toNat ∧ I 523 (40 + 4 * b + 1).toNat = 0) → J none mX11_isPleased (d + 2) 0 0 59 [(0, vR 489), (1, vI b), (2, vI (40 + 4 * b)), (3, vI s), (4, vI (24 * s))] [] (mk I) (PI K) := by
      intro hn
      have h5 := isPl_in (d := d) (K := K) s0 (by omega) b0 b1 (wy I s (cs s)) 0 w4 (by omega) (by unfold wy; omega) (fun q => h1 ⟨s, by omega, by omega, ?_, Or.inr q⟩) (fun q => nx ?_)
      · rwa [show 24 * s + 0 = 24 * s from by omega] at h5
      · rintro e
        rw [e] at q
        simp at q
      · rintro ⟨e1, e2 | e2⟩
        · exact hn ⟨e1, e2⟩
        · exact q e2
    refine bk_X11_isPleased_9 (c11_saintMany ⟨fun q => by omega, fun q => ⟨by omega, fun q => ⟨by omega, inn ?_⟩, fun q => ?_⟩⟩)
    · rintro ⟨e, _⟩
      exact e (List.length_eq_zero_iff.mp (by omega))
    · have hE : wy I s (cs s) ≠ [] := by
        intro e
        rw [e] at ln2
        simp at ln2
        omega
      refine c11_homeOf s0 (by omega) ?_
      (repeat' (with_reducible first | refine And.intro ?_ ?_ | intro _ | refine PI_i ?_ | refine PV_i ?_ | refine PL_i ?_)) <;> first | omega | skip
      · exact inn (fun q => absurd q.2.1 (by assumption))
      · exact inn (fun q => absurd q.2.2 (by assumption))
      · exact h1 ⟨s, by omega, by omega, hE, Or.inl ⟨by assumption, by assumption⟩⟩
theorem glad_iff {b : Int} : glad I cs b ↔ ∃ z : Int, 0 ≤ z ∧ z < I 518 6 ∧ gladS I z b (wy I z (cs z)) := Iff.rfl
theorem c11_isPleased {b : Int} (hc : CN I) (hs : CSa I) (hw : RWy I cs) (b0 : 0 ≤ b) (b1 : b < 10) (h1 : glad I cs b → K 1 I) (h0 : ¬ glad I cs b → K 0 I) : CI mX11_isPleased (d + 2) [vR 489, vI b] I K :=
  bk_X11_isPleased_0 ⟨by omega, by omega, isPl_lp hc hs hw b0 b1 (I 518 6).toNat 0 (by omega) (by have := hc.2.2.1; omega) h1 h0⟩
theorem pleased_lp (hc : CN I) (hs : CSa I) (hw : RWy I cs) (hb : CBa I) : ∀ (n : Nat) (b a : Int), 0 ≤ b → b + n = I 518 8 → 0 ≤ a → a ≤ 99 * b → K (joyS I cs n b a) I → J none mX11_pleased (d + 3) 0 0 4 [(0, vR 489), (1, vI a), (2, vI b)] [] (mk I) (PI K)
  | 0, b, a, b0, b1, a0, a1, h => by
    refine bk_X11_pleased_4 ?_
    (repeat' (with_reducible first | refine And.intro ?_ ?_ | intro _ | refine PI_i ?_ | refine PV_i ?_ | refine PL_i ?_)) <;> first | omega | exact h
  | n + 1, b, a, b0, b1, a0, a1, h => by
    have b4 := hc.2.2.2.2.1
    have q1 := hb.2 b b0 (by omega)
    have ih := pleased_lp hc hs hw hb n (b + 1)
    unfold joyS at h
    refine bk_X11_pleased_4 ⟨fun q => by omega, fun q => c11_isPleased hc hs hw b0 (by omega) (fun g => ?_) (fun g => ?_)⟩
    · rw [iF_pos g] at h
      (repeat' (with_reducible first | refine And.intro ?_ ?_ | intro _ | refine PI_i ?_ | refine PV_i ?_ | refine PL_i ?_)) <;> first | omega | skip
      exact ih _ (by omega) (by omega) (by omega) (by omega) h
    · rw [iF_neg g] at h
      (repeat' (with_reducible first | refine And.intro ?_ ?_ | intro _ | refine PI_i ?_ | refine PV_i ?_ | refine PL_i ?_)) <;> first | omega | skip
      exact ih _ (by omega) (by omega) (by omega) (by omega) (by simpa using h)
theorem c11_pleased (hc : CN I) (hs : CSa I) (hw : RWy I cs) (hb : CBa I) (h : K (joyS I cs (I 518 8).toNat 0 0) I) : CI mX11_pleased (d + 3) [vR 489] I K :=
  bk_X11_pleased_0 (pleased_lp hc hs hw hb (I 518 8).toNat 0 0 (by omega) (by have := hc.2.2.2.2.1; omega) (by omega) (by omega) h)
theorem pleases_lp {s b : Int} {t n : Nat} (ht : TR t n) (hn : n ≤ 25) (h7 : I t 7 = 1) (b0 : 0 ≤ b) (b1 : b < 10) : ∀ (L : List Lg) (i : Int), AL I t 0 i L → 0 < i → i + L.length ≤ n → ((∃ x ∈ L, glL (I 8 (b * 4).toNat) (I 8 (b * 4 + 1).toNat) (I 8 (b * 4 + 2).toNat) x) → K 1 I) → (¬ (∃ x ∈ L, glL (I 8 (b * 4).toNat) (I 8 (b * 4 + 1).toNat) (I 8 (b * 4 + 2).toNat) x) → K 0 I) → J none mX4_pleases (d + 1) 0 0 13 [(0, vR 67), (1, vI s), (2, vI (b * 4)), (3, vR t), (4, vI i)] [] (mk I) (PI K)
  | [], i, ha, hi, hl, h1, h0 => by
    have e := AL_len _ _ ha
    simp at e
    refine bk_X4_pleases_13 ht ?_
    (repeat' (with_reducible first | refine And.intro ?_ ?_ | intro _ | refine PI_i ?_ | refine PV_i ?_ | refine PL_i ?_)) <;> first | omega | exact h0 (by simp)
  | x :: L, i, ha, hi, hl, h1, h0 => by
    have e := AL_len _ _ ha
    simp only [List.length_cons] at e hl
    obtain ⟨g1, g2, g3, g4, g5, g6⟩ := ha
    have ih : ¬ glL (I 8 (b * 4).toNat) (I 8 (b * 4 + 1).toNat) (I 8 (b * 4 + 2).toNat) x → J none mX4_pleases (d + 1) 0 0 13 [(0, vR 67), (1, vI s), (2, vI (b * 4)), (3, vR t), (4, vI (i + 1))] [] (mk I) (PI K) := by
      intro hx
      refine pleases_lp ht hn h7 b0 b1 L (i + 1) g6 (by omega) (by omega) (fun q => h1 ?_) (fun q => h0 ?_)
      · obtain ⟨y, hy, q⟩ := q
        exact ⟨y, List.mem_cons_of_mem _ hy, q⟩
      · rintro ⟨y, hy, q2⟩
        rcases List.mem_cons.mp hy with rfl | hy
        · exact hx q2
        · exact q ⟨y, hy, q2⟩
    refine bk_X4_pleases_13 ht ?_
    rw [g2]
    unfold glL at ih
    (repeat' (with_reducible first | refine And.intro ?_ ?_ | intro _ | refine PI_i ?_ | refine PV_i ?_ | refine PL_i ?_)) <;> first | omega | skip
    · exact ih (fun q => absurd q.1 (by assumption))
    · exact ih (by omega)
    · exact ih (by omega)
    · exact h1 ⟨x, List.mem_cons_self, by assumption, by omega, by omega⟩
theorem c4_pleases {s b : Int} (hc : CN I) (hs : CSa I) (hl : CLa I) (hw : RWy I cs) (hb : CBa I) (hm2 : CBm I) (s0 : 0 ≤ s) (s1 : s < I 518 6) (b0 : 0 ≤ b) (b1 : b < I 518 8) (h1 : gladS I s b (wy I s (cs s)) → K 1 I) (h0 : ¬ gladS I s b (wy I s (cs s)) → K 0 I) : CI mX4_pleases (d + 1) [vR 67, vI s, vI (b * 4)] I K := by
  obtain ⟨w1, w2, w3, w4, w5, w6, w7⟩ := hw s s0 s1
  obtain ⟨⟨k1, k2, k3, k4, k5⟩, t2, t3, t4, t5⟩ := w7
  have c4 := hc.2.2.1
  have c5 := hc.2.2.2.2.1
  have m0 := hm2 b b0 b1
  have e0 := hb.1 b 0 b0 b1 (by omega) (by omega)
  have e1 := hb.1 b 1 b0 b1 (by omega) (by omega)
  have e2 := hb.1 b 2 b0 b1 (by omega) (by omega)
  simp only [Int.add_zero] at e0
  have pl := AL_len _ _ k3
  refine bk_X4_pleases_0 ⟨by omega, bk_X4_pleases_13 k1 ?_⟩
  rw [show (0 : Int).toNat = 0 from rfl, k2]
  have lp := pleases_lp (I := I) (d := d) (K := K) (s := s) (b := b) k1 k5
  have key : I (37 + 5 * s.toNat) 7 = 1 → ¬ (hm I s = I 523 (40 + 4 * b).toNat ∧ I 523 (40 + 4 * b + 1).toNat = 0) → J none mX4_pleases (d + 1) 0 0 13 [(0, vR 67), (1, vI s), (2, vI (b * 4)), (3, vR (37 + 5 * s.toNat)), (4, vI (0 + 1))] [] (mk I) (PI K) := by
    intro h7 hn
    have hE : wy I s (cs s) ≠ [] := t4.mp (Or.inl (by omega))
    refine lp h7 b0 (by omega) (legs 0 (wy I s (cs s))) (0 + 1) k3 (by omega) (by omega) (fun q => h1 ⟨hE, Or.inr ?_⟩) (fun q => h0 ?_)
    · rw [e0, e1, e2, ← gl_eq] at q
      exact q
    · rintro ⟨_, q2 | q2⟩
      · exact hn q2
      · rw [e0, e1, e2, ← gl_eq] at q
        exact q q2
  rw [e0, e1, e2]
  refine ⟨fun e => PI_i (h0 ?_), fun e => ⟨fun q => by omega, fun q => ⟨fun q => absurd rfl q, fun _ => ⟨by omega, by omega, fun z => ⟨by omega, key (by omega) (fun y => z y.1)⟩, fun z => ⟨by omega, by omega, fun y => ⟨by omega, key (by omega) (fun y => by omega)⟩, fun y => ⟨by omega, by omega, fun x => by omega, fun x => PI_i (h1 ?_)⟩⟩⟩⟩⟩⟩
  · rintro ⟨q, _⟩
    rcases t4.mpr q with q | q
    · exact q e
    · exact q rfl
  · exact ⟨t4.mp (Or.inl e), Or.inl ⟨z, by omega⟩⟩
theorem joy_in {b a : Int} (hc : CN I) (hs : CSa I) (hl : CLa I) (hw : RWy I cs) (hb : CBa I) (hm2 : CBm I) (b0 : 0 ≤ b) (b1 : b < I 518 8) (a0 : 0 ≤ a) (a1 : a ≤ 990) (Kn : J none mX4_joy (d + 2) 0 0 4 [(0, vR 67), (1, vI (a + iF (glad I cs b) (I 523 (40 + 4 * b + 3).toNat) 0)), (2, vI (b + 1))] [] (mk I) (PI K)) : ∀ (n : Nat) (s g : Int), 0 ≤ s → s + n = I 518 6 → (g ≠ 0 ↔ ∃ z : Int, 0 ≤ z ∧ z < s ∧ gladS I z b (wy I z (cs z))) → J none mX4_joy (d + 2) 0 0 22 [(0, vR 67), (1, vI a), (2, vI b), (3, vI g), (4, vI s)] [] (mk I) (PI K)
  | 0, s, g, s0, s1, hg => by
    have c2 := hc.1.2.2.1
    have c4 := hc.2.2.2.2.1
    have e3 := hb.1 b 3 b0 b1 (by omega) (by omega)
    have q3 := hb.2 b b0 b1
    refine bk_X4_joy_22 ?_
    rw [e3]
    have hs2 : s = I 518 6 := by omega
    (repeat' (with_reducible first | refine And.intro ?_ ?_ | intro _ | refine PI_i ?_ | refine PV_i ?_ | refine PL_i ?_)) <;> first | omega | skip
    · rw [iF_neg (by rintro q; rw [hs2] at hg; exact (hg.mpr q) (by assumption))] at Kn
      exact Kn
    · rw [iF_pos (by rw [hs2] at hg; exact hg.mp (by assumption))] at Kn
      exact Kn
  | n + 1, s, g, s0, s1, hg => by
    have c2 := hc.1.2.2.1
    have c5 := hc.2.2.1
    have c4 := hc.2.2.2.2.1
    have e3 := hb.1 b 3 b0 b1 (by omega) (by omega)
    have q3 := hb.2 b b0 b1
    have ih := joy_in hc hs hl hw hb hm2 b0 b1 a0 a1 Kn n (s + 1)
    refine bk_X4_joy_22 ?_
    rw [e3]
    (repeat' (with_reducible first | refine And.intro ?_ ?_ | intro _ | refine PI_i ?_ | refine PV_i ?_ | refine PL_i ?_)) <;> first | omega | skip
    · rw [iF_pos] at Kn
      · exact Kn
      · obtain ⟨z, z1, z2, z3⟩ := hg.mp (by assumption)
        exact ⟨z, z1, by omega, z3⟩
    · refine c4_pleases hc hs hl hw hb hm2 s0 (by omega) b0 b1 (fun q => ⟨by omega, ih 1 (by omega) (by omega) ?_⟩) (fun q => ⟨by omega, ih 0 (by omega) (by omega) ?_⟩)
      · exact ⟨fun _ => ⟨s, s0, by omega, q⟩, fun _ => by omega⟩
      · constructor
        · intro q; exact absurd rfl q
        · rintro ⟨z, z1, z2, z3⟩
          by_cases e : z = s
          · subst e
            exact absurd z3 q
          · have := hg.mpr ⟨z, z1, by omega, z3⟩
            omega
theorem joy_lp (hc : CN I) (hs : CSa I) (hl : CLa I) (hw : RWy I cs) (hb : CBa I) (hm2 : CBm I) : ∀ (n : Nat) (b a : Int), 0 ≤ b → b + n = I 518 8 → 0 ≤ a → a ≤ 99 * b → K (joyS I cs n b a) I → J none mX4_joy (d + 2) 0 0 4 [(0, vR 67), (1, vI a), (2, vI b)] [] (mk I) (PI K)
  | 0, b, a, b0, b1, a0, a1, h => by
    have c3 := hc.1.2.2.2.1
    refine bk_X4_joy_4 ?_
    (repeat' (with_reducible first | refine And.intro ?_ ?_ | intro _ | refine PI_i ?_ | refine PV_i ?_ | refine PL_i ?_)) <;> first | omega | exact h
  | n + 1, b, a, b0, b1, a0, a1, h => by
    have c3 := hc.1.2.2.2.1
    have b3 := hc.2.2.1
    have b4 := hc.2.2.2.2.1
    have q1 := hb.2 b b0 (by omega)
    unfold joyS at h
    have r : 0 ≤ iF (glad I cs b) (I 523 (40 + 4 * b + 3).toNat) 0 ∧ iF (glad I cs b) (I 523 (40 + 4 * b + 3).toNat) 0 ≤ 99 := by
      by_cases g : glad I cs b
      · rw [iF_pos g]; omega
      · rw [iF_neg g]; omega
    refine bk_X4_joy_4 ⟨fun q => by omega, fun q => joy_in hc hs hl hw hb hm2 b0 (by omega) a0 (by omega) ?_ (I 518 6).toNat 0 0 (by omega) (by omega) ⟨fun q => absurd rfl q, fun ⟨z, z1, z2, z3⟩ => by omega⟩⟩
    exact joy_lp hc hs hl hw hb hm2 n (b + 1) _ (by omega) (by omega) (by omega) (by omega) h
theorem op_pleased (hc : CN I) (hs : CSa I) (hl : CLa I) (hw : RWy I cs) (hb : CBa I) (hm2 : CBm I) (h : ∀ x, K2 x x I) : CI mX10_pleased (d + 4) [vR 0] I (fun x1 I1 => CI mX11_pleased (d + 4) [vR 489] I1 (K2 x1)) := by
  have b4 := hc.2.2.2.2.1
  refine bk_X10_pleased_0 (bk_X4_joy_0 (joy_lp hc hs hl hw hb hm2 (I 518 8).toNat 0 0 (by omega) (by omega) (by omega) (by omega) (PI_i ?_)))
  exact c11_pleased hc hs hw hb (h _)
end OF
