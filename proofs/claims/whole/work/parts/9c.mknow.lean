/-- the model's way of a choice -/
def wN (s x : Nat) : Nat := if x = 0 then s else 4 + 60 * s + (x - 1)
theorem wN_rng {s x : Nat} (s4 : s < 4) (x60 : x ≤ 60) : wN s x < 244 ∧ sof (wN s x : Int) = s := by
  unfold wN sof
  split
  · subst_vars
    refine ⟨by omega, ?_⟩
    rw [if_pos (by omega)]
  · refine ⟨by omega, ?_⟩
    rw [if_neg (by omega)]
    omega
theorem wN_inj {s x s' x' : Nat} (s4 : s < 4) (x60 : x ≤ 60) (s4' : s' < 4) (x60' : x' ≤ 60) (e : wN s x = wN s' x') : s = s' ∧ x = x' := by
  unfold wN at e
  split at e <;> split at e <;> omega
/-- what was weighed is right -/
def MKN (I : HI) (cs : Int → List Int) : Prop := ∀ t s x y : Nat, (t : Int) < I 518 6 → (s : Int) < I 518 6 → x ≤ 3 * (rts I t).length → y ≤ 3 * (rts I s).length → I 549 (244 * wN t x + wN s y) = 0 ∨ (I 549 (244 * wN t x + wN s y) = 1 ∧ LW I cs t x s y) ∨ (I 549 (244 * wN t x + wN s y) = 2 ∧ ¬ LW I cs t x s y)
/-- the model with its options made -/
def MDW (I : HI) (cs : Int → List Int) : Prop := MWs I cs ∧ (∀ s : Nat, (s : Int) < I 518 6 → MOs I I s) ∧ (0 ≤ I 489 64 ∧ I 489 64 < 64) ∧ (0 ≤ I 489 63 ∧ I 489 63 < 65536) ∧ MKN I cs
/-- what weighing changes -/
def KFr (I X : HI) : Prop := (∀ k, k ≠ 489 → k ≠ 529 → k ≠ 530 → k ≠ 549 → X k = I k) ∧ (∀ j, j ≠ 56 → X 489 j = I 489 j)
theorem KFr_rfl (I : HI) : KFr I I := ⟨fun _ _ _ _ _ => rfl, fun _ _ => rfl⟩
theorem KFr_tr {I X Y : HI} (h : KFr I X) (g : KFr X Y) : KFr I Y := ⟨fun k h1 h2 h3 h4 => by rw [g.1 k h1 h2 h3 h4, h.1 k h1 h2 h3 h4], fun j hj => by rw [g.2 j hj, h.2 j hj]⟩
theorem CF_k {I X : HI} (h : KFr I X) : CF I X := ⟨fun k hk => h.1 k (by omega) (by omega) (by omega) (by omega), h.2 44 (by decide)⟩
theorem MOs_fr {I X : HI} {s : Nat} (h : MOs I I s) (f : CF I X) (sh : X 489 63 = I 489 63) (e546 : X 546 = I 546) (ew : ∀ k, 532 ≤ k → k ≤ 535 → X k = I k) : MOs X X s := by
  unfold MOs at h ⊢
  simp only [rts_fr f sh, opc_fr f sh, wy_cf f]
  rw [e546]
  exact ⟨h.1, fun o ho => SL_fr (by omega) (h.2 o ho) (ew 532 (by omega) (by omega)) (ew 533 (by omega) (by omega)) (ew 534 (by omega) (by omega)) (ew 535 (by omega) (by omega))⟩
section MK
variable {d : Nat} {I : HI} {KI : Int → HI → Prop} {K2 : Int → Int → HI → Prop} {cs : Int → List Int}
theorem MDW_w (h : MDW I cs) {X : HI} (f : CF I X) (e63 : X 489 63 = I 489 63) (e64 : X 489 64 = I 489 64) (e546 : X 546 = I 546) (ew : ∀ k, 532 ≤ k → k ≤ 535 → X k = I k) (hK : MKN X cs) : MDW X cs := by
  obtain ⟨h1, h2, h3, h4, _⟩ := h
  refine ⟨MWs_fr h1 f ew, fun s s1 => ?_, by rw [e64]; exact h3, by rw [e63]; exact h4, hK⟩
  rw [f.1 518 (by omega)] at s1
  exact MOs_fr (h2 s s1) f e63 e546 ew
theorem MKN_fr (h : MKN I cs) {X : HI} (f : CF I X) (e63 : X 489 63 = I 489 63) (e64 : X 489 64 = I 489 64) (e549 : X 549 = I 549) : MKN X cs := by
  unfold MKN at h ⊢
  simp only [rts_fr f e63, LW_fr f e63 e64]
  rw [f.1 518 (by omega), e549]
  exact h
theorem mway (h : MDW I cs) {s x : Nat} (s1 : (s : Int) < I 518 6) (x1 : x ≤ 3 * (rts I s).length) : SL I (wN s x : Int) 0 (chw I cs s x) ∧ SW I s (chw I cs s x) ∧ wN s x < 244 ∧ sof (wN s x : Int) = s := by
  have hT := h.1.1
  have n6 := hT.1.2.2.1
  have rl := rts_len (I := I) (s : Int)
  have wr := wN_rng (s := s) (x := x) (by omega) (by omega)
  by_cases e : x = 0
  · subst e
    refine ⟨?_, SW_of hT.1 hT.2.1 hT.2.2.1 (by omega) s1 (h.1.2.2 s (by omega) s1), wr⟩
    exact h.1.2.1 (s : Int) (by omega) s1
  · have ec : chw I cs s x = wy I s (opc I s (x - 1)) := by
      unfold chw chc
      rw [if_neg e]
    have ew : (wN s x : Int) = ((4 + 60 * s + (x - 1) : Nat) : Int) := by
      unfold wN
      rw [if_neg e]
    rw [ec, ew]
    refine ⟨(h.2.1 s s1).2 (x - 1) (by omega), SW_of hT.1 hT.2.1 hT.2.2.1 (by omega) s1 (opc_ok hT (by omega) s1 (by omega)).1, by have := wr.1; omega, by rw [← ew]; exact wr.2⟩
theorem c11_areKnown {t s x y : Nat} (h : MDW I cs) (t1 : (t : Int) < I 518 6) (s1 : (s : Int) < I 518 6) (x1 : x ≤ 3 * (rts I t).length) (y1 : y ≤ 3 * (rts I s).length) (k : ∀ (Y : HI) (l : Int), KFr I Y → MDW Y cs → ((l = 1 ∧ LW I cs t x s y) ∨ (l = 0 ∧ ¬ LW I cs t x s y)) → KI l Y) : CI mX11_areKnown (d + 7) [vR 489, vI (wN t x : Int), vI (wN s y : Int)] I KI := by
  obtain ⟨w1, w2, w3, w4⟩ := mway h t1 x1
  obtain ⟨v1, v2, v3, v4⟩ := mway h s1 y1
  have n6 := h.1.1.1.2.2.1
  have rlt := rts_len (I := I) (t : Int)
  have rls := rts_len (I := I) (s : Int)
  have ei : (244 * (wN t x : Int) + (wN s y : Int)).toNat = 244 * wN t x + wN s y := by omega
  have hK := h.2.2.2.2 t s x y t1 s1 x1 y1
  refine bk_X11_areKnown_0 ?_
  rw [ei]
  refine ⟨by omega, by omega, by omega, fun q => ⟨by omega, fun q2 => PI_i (k I 0 (KFr_rfl I) h (Or.inr ⟨rfl, ?_⟩)), fun q2 => PI_i (k I 1 (KFr_rfl I) h (Or.inl ⟨rfl, ?_⟩))⟩, fun q => ?_⟩
  · rcases hK with z | z | z
    · exact absurd z q
    · exact absurd z.1 q2
    · exact z.2
  · rcases hK with z | z | z
    · exact absurd z q
    · exact z.2
    · omega
  · -- weighed now
    have put : ∀ (X Y : HI) (l v : Int), XFr I X → ((l = 1 ∧ v = 1 ∧ LW I cs t x s y) ∨ (l = 0 ∧ v = 2 ∧ ¬ LW I cs t x s y)) → Y = up X 549 (244 * wN t x + wN s y) v → KI l Y := by
      intro X Y l v xX hl e
      have f : ∀ k, k ≠ 489 → k ≠ 529 → k ≠ 530 → k ≠ 549 → Y k = I k := fun k h1 h2 h3 h4 => by rw [e, up_k h4, xX.1 k h1 h2 h3]
      have fj : ∀ j, j ≠ 56 → Y 489 j = I 489 j := fun j hj => by rw [e, up_k (by decide), xX.2 j hj]
      have kY : KFr I Y := ⟨f, fj⟩
      have cY := CF_k kY
      refine k Y l kY (MDW_w h cY (fj 63 (by decide)) (fj 64 (by decide)) (f 546 (by decide) (by decide) (by decide) (by decide)) (fun k k1 k2 => f k (by omega) (by omega) (by omega) (by omega)) ?_) ?_
      · intro t' s' x' y' t1' s1' x1' y1'
        rw [cY.1 518 (by omega)] at t1' s1'
        rw [rts_fr cY (fj 63 (by decide))] at x1' y1'
        rw [LW_fr cY (fj 63 (by decide)) (fj 64 (by decide))]
        have rlt' := rts_len (I := I) (t' : Int)
        have rls' := rts_len (I := I) (s' : Int)
        have wr' := wN_rng (s := t') (x := x') (by omega) (by omega)
        have vr' := wN_rng (s := s') (x := y') (by omega) (by omega)
        by_cases eq : 244 * wN t' x' + wN s' y' = 244 * wN t x + wN s y
        · have e1 : wN t' x' = wN t x := by omega
          have e2 : wN s' y' = wN s y := by omega
          obtain ⟨a1, a2⟩ := wN_inj (by omega) (by omega) (by omega) (by omega) e1
          obtain ⟨b1, b2⟩ := wN_inj (by omega) (by omega) (by omega) (by omega) e2
          subst a1 a2 b1 b2
          rw [e, up_e]
          rcases hl with ⟨_, g1, g2⟩ | ⟨_, g1, g2⟩
          · exact Or.inr (Or.inl ⟨g1, g2⟩)
          · exact Or.inr (Or.inr ⟨g1, g2⟩)
        · rw [e, up_j eq, xX.1 549 (by decide) (by decide) (by decide)]
          exact h.2.2.2.2 t' s' x' y' t1' s1' x1' y1'
      · rcases hl with ⟨g1, _, g2⟩ | ⟨g1, _, g2⟩
        · exact Or.inl ⟨g1, g2⟩
        · exact Or.inr ⟨g1, g2⟩
    refine c11_areLawful h.1.1 h.2.2.1.1 h.2.2.1.2 (by omega) (by omega) (by omega) (by omega) w4 v4 t1 s1 w1 v1 w2 v2 (fun X xX nl => ⟨fun _ => ⟨by omega, fun I2 e2 => ?_⟩, fun q2 => absurd rfl q2⟩) (fun X xX yl => ⟨fun q2 => by omega, fun _ => ⟨by omega, fun I3 e3 => ?_⟩⟩)
    · rw [show I2 549 (244 * wN t x + wN s y) = 2 from by rw [e2, up_e]]
      exact ⟨by omega, fun _ => PI_i (put X I2 0 2 xX (Or.inr ⟨rfl, rfl, nl⟩) e2), fun q2 => by omega⟩
    · rw [show I3 549 (244 * wN t x + wN s y) = 1 from by rw [e3, up_e]]
      exact ⟨by omega, fun q2 => absurd rfl q2, fun _ => PI_i (put X I3 1 1 xX (Or.inl ⟨rfl, rfl, yl⟩) e3)⟩
theorem c11_wayBy {s x : Nat} (s4 : s < 4) (x60 : x ≤ 60) (ex : I 550 s = (x : Int)) (h : KI (wN s x : Int) I) : CI mX11_wayBy (d + 2) [vR 489, vI (s : Int)] I KI := by
  refine bk_X11_wayBy_0 ?_
  rw [Int.toNat_natCast, ex]
  refine ⟨by omega, fun q => ⟨by omega, by omega, bk_X11_wayOf_0 ⟨by omega, by omega, by omega, PI_i (PI_i (K_eq h ?_))⟩⟩, fun q => PI_i (K_eq h ?_)⟩
  · unfold wN
    rw [if_neg (by omega)]
    omega
  · unfold wN
    rw [if_pos (by omega)]
theorem whole_lp {w : Int} (w0 : 0 ≤ w) (w1 : w < 244) (hsh : 0 ≤ I 489 63 ∧ I 489 63 < 65536) : ∀ (W : List Sp) (k : Int), SL I w k W → 0 ≤ k → k + W.length ≤ 24 → (∀ x ∈ W, x.2.1 = -1 ∨ (0 ≤ x.2.1 ∧ x.2.1 < 16)) → (WHL I W → KI 1 I) → (¬ WHL I W → KI 0 I) → J none mX11_isWhole (d + 2) 0 0 5 [(0, vR 489), (1, vI w), (2, vI (24 * w + k))] [] (mk I) (PI KI)
  | [], k, hs, k0, k1, hr, h1, h0 => by
    have hs' : k = I 532 w.toNat := hs
    simp only [List.length_nil] at k1
    refine bk_X11_isWhole_5 ⟨by omega, by omega, by omega, fun _ => PI_i (h1 (fun x hx => by cases hx)), fun q => by omega⟩
  | x :: W, k, hs, k0, k1, hr, h1, h0 => by
    obtain ⟨g1, g2, g3, g4, g5⟩ := hs
    have sl := SL_len _ _ g5
    simp only [List.length_cons] at k1
    have rx := hr x List.mem_cons_self
    refine bk_X11_isWhole_5 ?_
    rw [g3]
    refine ⟨by omega, by omega, by omega, fun q => by omega, fun _ => ⟨by omega, fun q => ⟨by omega, ?_⟩, fun q => ⟨by omega, ?_⟩⟩⟩
    · rw [Int.add_assoc]
      refine whole_lp w0 w1 hsh W (k + 1) g5 (by omega) (by omega) (fun y hy => hr y (List.mem_cons_of_mem _ hy)) (fun g => h1 (fun y hy hn => ?_)) (fun g => h0 (fun z => g (fun y hy hn => z y (List.mem_cons_of_mem _ hy) hn)))
      rcases List.mem_cons.mp hy with rfl | hy
      · exact absurd q hn
      · exact g y hy hn
    · have b := sb_1 (x := I 489 63) (k := x.2.1) hsh.1 (by omega) (by omega) (by omega)
      refine c11_isShut (fun z => ⟨fun _ => ⟨by omega, ?_⟩, fun q2 => absurd rfl q2⟩) (fun z => ⟨fun q2 => by omega, fun _ => PI_i (h0 (fun g => ?_))⟩)
      · rw [Int.add_assoc]
        refine whole_lp w0 w1 hsh W (k + 1) g5 (by omega) (by omega) (fun y hy => hr y (List.mem_cons_of_mem _ hy)) (fun g => h1 (fun y hy hn => ?_)) (fun g => h0 (fun z => g (fun y hy hn => z y (List.mem_cons_of_mem _ hy) hn)))
        rcases List.mem_cons.mp hy with rfl | hy
        · cases e : bit (I 489 63) y.2.1
          · rfl
          · exact absurd (b.mpr e) z
        · exact g y hy hn
      · have := g x List.mem_cons_self q
        rw [b.mp z] at this
        cases this
theorem c11_isWhole {s : Nat} (h : MDW I cs) (s1 : (s : Int) < I 518 6) (h1 : WHL I (wy I s (cs s)) → KI 1 I) (h0 : ¬ WHL I (wy I s (cs s)) → KI 0 I) : CI mX11_isWhole (d + 2) [vR 489, vI (s : Int)] I KI := by
  have hT := h.1.1
  have n6 := hT.1.2.2.1
  have sw := SW_of hT.1 hT.2.1 hT.2.2.1 (s := (s : Int)) (by omega) s1 (h.1.2.2 s (by omega) s1)
  have lr : ∀ (W : List Sp) (c t : Int), okW c t W → ∀ x ∈ W, x.2.1 = -1 ∨ (0 ≤ x.2.1 ∧ x.2.1 < 16) := by
    intro W
    induction W with
    | nil => intro c t _ x hx; cases hx
    | cons y W ih =>
      intro c t ho x hx
      rcases List.mem_cons.mp hx with rfl | hx
      · exact ho.2.2.1
      · exact ih _ _ ho.2.2.2 x hx
  refine bk_X11_isWhole_0 ⟨by omega, ?_⟩
  have := whole_lp (d := d) (KI := KI) (w := (s : Int)) (by omega) (by omega) h.2.2.2.1 (wy I s (cs s)) 0 (h.1.2.1 s (by omega) s1) (by omega) (by have := sw.2.2.2.2; omega) (lr _ _ _ sw.1) h1 h0
  rw [Int.add_zero] at this
  exact this
end MK
