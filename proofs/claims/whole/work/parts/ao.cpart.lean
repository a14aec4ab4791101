section PA
variable {t : Txt} {i0 : Nat} {I0 : HI}
theorem tr_num {v : Int} (h : 0 ≤ v) : tr (1000 + v) = v := by
  unfold tr
  rw [if_pos (by omega)]
  omega
theorem PAR_of {D : Nat} (ht : TKN t) (hD : D ≤ 6) (hs : ∀ D', D = D' + 1 → SUMc t i0 I0 D') : PARc t i0 I0 D := by
  intro KI h i I C hh cI hl np k1 k0
  obtain ⟨h', rfl⟩ : ∃ h', h = h' + 5 := ⟨h - 5, by omega⟩
  have n16 := ht.1.2
  have hi := cI.1.2.1
  have kk := tK_e ht hi
  have r7 := cI.1.2.2.1.2.2.2
  have r5 := cI.1.2.2.1.2.1
  have numb : ¬ sgn t i 40 → ¬ (20 ≤ uK t i ∧ uK t i ≤ 26) → CI mX7_number (h' + 4) [vR 28, vI 0, vI 9999] I (fun x2 I2 => CV mX7_emit (h' + 4) [vR 28, vI (I2 28 10)] I2 (fun I3 => (x2 = 0 ∨ x2 = 1) ∧ PI KI (some (vI x2)) (mk I3))) := by
    intro ns nk
    refine c7_number ht cI.1 (fun v Y hv fY vY rY eY => ?_) (fun k p hf X Y fX eX fY => c7_emitF (FQ_of ht cI fX eX fY) (fun Z qZ => ⟨Or.inl rfl, PI_i (k0 k p Z (Ptf_b (Or.inl ⟨ns, nk, hf⟩)) qZ)⟩))
    have cY := CSt_nv cI fY rY (by rw [eY]; unfold wk1; rw [if_pos (by have := hv.1.1; omega)])
    rw [vY]
    exact c7_emit (x := 1000 + v) cY (by omega) (tr_num hv.2.2.2.1) (fun Z cZ => ⟨Or.inr rfl, PI_i (k1 (i + 1) [1000 + v] Z (Pts_b ⟨rfl, Or.inr ⟨v, hv, rfl⟩⟩) cZ)⟩)
  have g106 : (uK t i = 25 ∨ uK t i = 26) → J none mX7_part (h' + 5) 0 0 106 [(0, vR 28), (1, vI (6 - (D : Int)))] [] (mk I) (PI KI) := by
    intro hk
    have hiN : i < uN t := by omega
    have nj : ¬ jnd t i := fun u => by have := np u; omega
    refine bk_X7_part_106 ?_
    rw [r7]
    refine ⟨fun q => ?_, fun q => ?_⟩
    · have hmm : mmk t i 6 := ⟨⟨hk, nj⟩, by omega⟩
      exact c7_advance ht cI.1 hiN (fun Y fY rY eY => by
      have cY := CSt_av cI fY rY eY
      have hY6 := rY.2.2.1.2.1
      refine c7_isSign ht rY (fun s => ⟨fun z => by omega, fun _ => ?_⟩) (fun s => ⟨fun _ => ?_, fun z => absurd rfl z⟩)
      · refine c7_roomIn (fun hr => ⟨fun z => by omega, fun _ => ?_⟩) (fun hr Y2 f2 => ⟨fun _ => bk_X7_part_157 (c7_emitF (FQ_of0 ht cY f2) (fun Y3 q3 => PI_i (k0 4 _ Y3 ?_ q3))), fun z => absurd rfl z⟩)
        · obtain ⟨D', rfl⟩ : ∃ D', D = D' + 1 := ⟨D - 1, by omega⟩
          have e1 : 6 - ((D' + 1 : Nat) : Int) + 1 = 6 - (D' : Int) := by omega
          rw [e1]
          refine c7_sign ht rY (fun s' Y2 f2 r2 g2 => ⟨fun z => by omega, fun _ => ⟨by omega, ?_⟩⟩) (fun ns => absurd s ns)
          have c2 := CSt_av cY f2 r2 (by rw [g2]; unfold wk1; rw [if_neg (by have := s.1; omega)]; omega)
          refine hs D' rfl _ (h' + 4) (i + 2) Y2 C (by omega) c2 (by omega) (npt_of ht (sgn_lt ht (by omega) s) (by have := s.1; omega)) (fun j1 c1 Y3 s1 c3 => ⟨fun z => by omega, fun _ => ?_⟩) (fun k p Y3 sf fq => ⟨fun _ => c7_emitF fq (fun Y4 q4 => PI_i (k0 k p Y4 (Or.inr (Or.inr ⟨⟨_, hmm⟩, s, Or.inl sf⟩)) q4)), fun z => absurd rfl z⟩)
          have l1 := Sms_len s1
          have j1n := c3.1.2.1
          refine c7_sign ht c3.1 (fun s44 Y4 f4 r4 g4 => ⟨fun z => by omega, fun _ => ⟨by omega, ?_⟩⟩) (fun ns Y4 f4 => ⟨fun _ => c7_emitF (FQ_of0 ht c3 f4) (fun Y5 q5 => PI_i (k0 1 _ Y5 ?_ q5)), fun z => absurd rfl z⟩)
          · have c4 := CSt_av c3 f4 r4 (by rw [g4]; unfold wk1; rw [if_neg (by have := s44.1; omega)]; omega)
            refine hs D' rfl _ (h' + 4) (j1 + 1) Y4 (C ++ c1) (by omega) c4 (by rw [List.length_append]; omega) (npt_of ht (sgn_lt ht j1n s44) (by have := s44.1; omega)) (fun j2 c2' Y5 s2 c5 => ⟨fun z => by omega, fun _ => ?_⟩) (fun k p Y5 sf fq => ⟨fun _ => c7_emitF fq (fun Y6 q6 => PI_i (k0 k p Y6 ?_ q6)), fun z => absurd rfl z⟩)
            · have l2 := Sms_len s2
              have j2n := c5.1.2.1
              have n16 := ht.1.2
              refine c7_sign ht c5.1 (fun s41 Y6 f6 r6 g6 => ⟨fun z => by omega, fun _ => ?_⟩) (fun ns Y6 f6 => ⟨fun _ => c7_emitF (FQ_of0 ht c5 f6) (fun Y7 q7 => PI_i (k0 1 _ Y7 ?_ q7)), fun z => absurd rfl z⟩)
              · have c6 := CSt_av c5 f6 r6 (by rw [g6]; unfold wk1; rw [if_neg (by have := s41.1; omega)]; omega)
                refine c7_emit (x := 6) c6 (by simp only [List.length_append]; omega) (by decide) (fun Y7 c7 => PI_i (k1 (j2 + 1) (c1 ++ (c2' ++ [6])) Y7 ?_ (by simpa only [List.append_assoc] using c7)))
                obtain ⟨L1, s1⟩ := s1
                obtain ⟨L2, s2⟩ := s2
                exact Or.inr (Or.inr ⟨6, L1, j1, c1, L2, j2, c2', hmm, s, s1, s44, s2, s41, rfl, rfl⟩)
              · obtain ⟨L1, s1⟩ := s1
                obtain ⟨L2, s2⟩ := s2
                exact Or.inr (Or.inr ⟨⟨_, hmm⟩, s, Or.inr ⟨L1, j1, c1, s1, Or.inr ⟨s44, Or.inr ⟨L2, j2, c2', s2, ns, rfl, rfl⟩⟩⟩⟩)
            · obtain ⟨L1, s1⟩ := s1
              exact Or.inr (Or.inr ⟨⟨_, hmm⟩, s, Or.inr ⟨L1, j1, c1, s1, Or.inr ⟨s44, Or.inl sf⟩⟩⟩)
          · obtain ⟨L1, s1⟩ := s1
            exact Or.inr (Or.inr ⟨⟨_, hmm⟩, s, Or.inr ⟨L1, j1, c1, s1, Or.inl ⟨ns, rfl, rfl⟩⟩⟩)
        · rw [hY6]
          have d0 : D = 0 := by omega
          subst d0
          exact Or.inr (Or.inr ⟨⟨_, hmm⟩, s, rfl, rfl⟩)
      · rw [hY6]
        exact c7_fail (fun Y2 f2 => ⟨fun _ => c7_emitF (FQ_of0 ht cY f2) (fun Y3 q3 => PI_i (k0 1 _ Y3 (Ptf_b (Or.inr ⟨⟨_, hmm⟩, s, rfl, rfl⟩)) q3)), fun z => absurd rfl z⟩))
    · have hmm : mmk t i 5 := ⟨⟨hk, nj⟩, by omega⟩
      exact c7_advance ht cI.1 hiN (fun Y fY rY eY => by
      have cY := CSt_av cI fY rY eY
      have hY6 := rY.2.2.1.2.1
      refine c7_isSign ht rY (fun s => ⟨fun z => by omega, fun _ => ?_⟩) (fun s => ⟨fun _ => ?_, fun z => absurd rfl z⟩)
      · refine c7_roomIn (fun hr => ⟨fun z => by omega, fun _ => ?_⟩) (fun hr Y2 f2 => ⟨fun _ => bk_X7_part_157 (c7_emitF (FQ_of0 ht cY f2) (fun Y3 q3 => PI_i (k0 4 _ Y3 ?_ q3))), fun z => absurd rfl z⟩)
        · obtain ⟨D', rfl⟩ : ∃ D', D = D' + 1 := ⟨D - 1, by omega⟩
          have e1 : 6 - ((D' + 1 : Nat) : Int) + 1 = 6 - (D' : Int) := by omega
          rw [e1]
          refine c7_sign ht rY (fun s' Y2 f2 r2 g2 => ⟨fun z => by omega, fun _ => ⟨by omega, ?_⟩⟩) (fun ns => absurd s ns)
          have c2 := CSt_av cY f2 r2 (by rw [g2]; unfold wk1; rw [if_neg (by have := s.1; omega)]; omega)
          refine hs D' rfl _ (h' + 4) (i + 2) Y2 C (by omega) c2 (by omega) (npt_of ht (sgn_lt ht (by omega) s) (by have := s.1; omega)) (fun j1 c1 Y3 s1 c3 => ⟨fun z => by omega, fun _ => ?_⟩) (fun k p Y3 sf fq => ⟨fun _ => c7_emitF fq (fun Y4 q4 => PI_i (k0 k p Y4 (Or.inr (Or.inr ⟨⟨_, hmm⟩, s, Or.inl sf⟩)) q4)), fun z => absurd rfl z⟩)
          have l1 := Sms_len s1
          have j1n := c3.1.2.1
          refine c7_sign ht c3.1 (fun s44 Y4 f4 r4 g4 => ⟨fun z => by omega, fun _ => ⟨by omega, ?_⟩⟩) (fun ns Y4 f4 => ⟨fun _ => c7_emitF (FQ_of0 ht c3 f4) (fun Y5 q5 => PI_i (k0 1 _ Y5 ?_ q5)), fun z => absurd rfl z⟩)
          · have c4 := CSt_av c3 f4 r4 (by rw [g4]; unfold wk1; rw [if_neg (by have := s44.1; omega)]; omega)
            refine hs D' rfl _ (h' + 4) (j1 + 1) Y4 (C ++ c1) (by omega) c4 (by rw [List.length_append]; omega) (npt_of ht (sgn_lt ht j1n s44) (by have := s44.1; omega)) (fun j2 c2' Y5 s2 c5 => ⟨fun z => by omega, fun _ => ?_⟩) (fun k p Y5 sf fq => ⟨fun _ => c7_emitF fq (fun Y6 q6 => PI_i (k0 k p Y6 ?_ q6)), fun z => absurd rfl z⟩)
            · have l2 := Sms_len s2
              have j2n := c5.1.2.1
              have n16 := ht.1.2
              refine c7_sign ht c5.1 (fun s41 Y6 f6 r6 g6 => ⟨fun z => by omega, fun _ => ?_⟩) (fun ns Y6 f6 => ⟨fun _ => c7_emitF (FQ_of0 ht c5 f6) (fun Y7 q7 => PI_i (k0 1 _ Y7 ?_ q7)), fun z => absurd rfl z⟩)
              · have c6 := CSt_av c5 f6 r6 (by rw [g6]; unfold wk1; rw [if_neg (by have := s41.1; omega)]; omega)
                refine c7_emit (x := 5) c6 (by simp only [List.length_append]; omega) (by decide) (fun Y7 c7 => PI_i (k1 (j2 + 1) (c1 ++ (c2' ++ [5])) Y7 ?_ (by simpa only [List.append_assoc] using c7)))
                obtain ⟨L1, s1⟩ := s1
                obtain ⟨L2, s2⟩ := s2
                exact Or.inr (Or.inr ⟨5, L1, j1, c1, L2, j2, c2', hmm, s, s1, s44, s2, s41, rfl, rfl⟩)
              · obtain ⟨L1, s1⟩ := s1
                obtain ⟨L2, s2⟩ := s2
                exact Or.inr (Or.inr ⟨⟨_, hmm⟩, s, Or.inr ⟨L1, j1, c1, s1, Or.inr ⟨s44, Or.inr ⟨L2, j2, c2', s2, ns, rfl, rfl⟩⟩⟩⟩)
            · obtain ⟨L1, s1⟩ := s1
              exact Or.inr (Or.inr ⟨⟨_, hmm⟩, s, Or.inr ⟨L1, j1, c1, s1, Or.inr ⟨s44, Or.inl sf⟩⟩⟩)
          · obtain ⟨L1, s1⟩ := s1
            exact Or.inr (Or.inr ⟨⟨_, hmm⟩, s, Or.inr ⟨L1, j1, c1, s1, Or.inl ⟨ns, rfl, rfl⟩⟩⟩)
        · rw [hY6]
          have d0 : D = 0 := by omega
          subst d0
          exact Or.inr (Or.inr ⟨⟨_, hmm⟩, s, rfl, rfl⟩)
      · rw [hY6]
        exact c7_fail (fun Y2 f2 => ⟨fun _ => c7_emitF (FQ_of0 ht cY f2) (fun Y3 q3 => PI_i (k0 1 _ Y3 (Ptf_b (Or.inr ⟨⟨_, hmm⟩, s, rfl, rfl⟩)) q3)), fun z => absurd rfl z⟩))
  refine bk_X7_part_0 (c7_isSign ht cI.1 (fun s => ⟨fun z => by omega, fun _ => ?_⟩) (fun s => ⟨fun _ => ?_, fun z => absurd rfl z⟩))
  · refine c7_roomIn (fun hr => ⟨fun z => by omega, fun _ => ?_⟩) (fun hr Y2 f2 => ⟨fun _ => PI_i (k0 4 _ Y2 ?_ (FQ_of0 ht cI f2)), fun z => absurd rfl z⟩)
    · obtain ⟨D', rfl⟩ : ∃ D', D = D' + 1 := ⟨D - 1, by omega⟩
      have e1 : 6 - ((D' + 1 : Nat) : Int) + 1 = 6 - (D' : Int) := by omega
      rw [e1]
      refine c7_sign ht cI.1 (fun s' Y2 f2 r2 g2 => ⟨fun z => by omega, fun _ => ⟨by omega, ?_⟩⟩) (fun ns => absurd s ns)
      have c2 := CSt_av cI f2 r2 (by rw [g2]; unfold wk1; rw [if_neg (by have := s.1; omega)]; omega)
      refine hs D' rfl _ (h' + 4) (i + 1) Y2 C (by omega) c2 (by omega) (npt_of ht (sgn_lt ht hi s) (by have := s.1; omega)) (fun j1 c1 Y3 s1 c3 => ⟨fun z => by omega, fun _ => ?_⟩) (fun k p Y3 sf fq => ⟨fun _ => PI_i (k0 k p Y3 (Or.inr (Or.inl ⟨s, Or.inl sf⟩)) fq), fun z => absurd rfl z⟩)
      obtain ⟨L1, s1⟩ := s1
      refine c7_sign ht c3.1 (fun s41 Y4 f4 r4 g4 => ⟨fun z => by omega, fun _ => PI_i (k1 (j1 + 1) c1 Y4 (Or.inr (Or.inl ⟨L1, j1, s, s1, s41, rfl⟩)) (CSt_av c3 f4 r4 (by rw [g4]; unfold wk1; rw [if_neg (by have := s41.1; omega)]; omega)))⟩) (fun ns Y4 f4 => ⟨fun _ => PI_i (k0 1 _ Y4 (Or.inr (Or.inl ⟨s, Or.inr ⟨L1, j1, c1, s1, ns, rfl, rfl⟩⟩)) (FQ_of0 ht c3 f4)), fun z => absurd rfl z⟩)
    · rw [r5]
      have d0 : D = 0 := by omega
      subst d0
      exact Or.inr (Or.inl ⟨s, rfl, rfl⟩)
  · rw [r7]
    refine ⟨fun q => ⟨fun q2 => g106 (by omega), fun q2 => ⟨fun q3 => numb s (by omega), fun q3 => g106 (by omega)⟩⟩, fun q => ⟨fun q1 => ⟨fun q2 => g106 (by omega), fun q2 => ⟨fun q3 => numb s (by omega), fun q3 => g106 (by omega)⟩⟩, fun q1 => ⟨by omega, by omega, ?_⟩⟩⟩
    have nj : ¬ jnd t i := fun u => by have := np u; omega
    have ha : ask t i (if uK t i = 24 then 18 else (uK t i : Int) - 13) := ⟨⟨⟨by omega, by omega⟩, nj⟩, rfl⟩
    refine c7_emit (x := if uK t i = 24 then 18 else (uK t i : Int) - 13) cI (by omega) ?_ (fun Y cY => c7_advance ht cY.1 (by omega) (fun Z fZ rZ eZ => PI_i (k1 (i + 1) [_] Z (Pts_b ⟨rfl, Or.inl ⟨_, ha, rfl⟩⟩) (CSt_av cY fZ rZ eZ))))
    by_cases e4 : uK t i = 24
    · rw [if_pos e4, e4]
      decide
    · rw [if_neg e4]
      unfold tr
      rw [if_neg (by omega), if_neg (by omega), if_pos (by omega)]
      omega
theorem SUM_all (ht : TKN t) : ∀ D, D ≤ 6 → SUMc t i0 I0 D
  | 0, h => SUM_of ht (PAR_of ht h (fun D' e => by omega))
  | D + 1, h => SUM_of ht (PAR_of ht h (fun D' e => by
    have : D' = D := by omega
    subst this
    exact SUM_all ht D' (by omega)))
end PA
