def FACc (t : Txt) (i0 : Nat) (I0 : HI) (D : Nat) : Prop := ∀ (KI : Int → HI → Prop) (h i : Nat) (I : HI) (C : List Int), 2 * D + 7 ≤ h → CSt t i0 I0 I i C → C.length + 1 ≤ i → npt t i → (∀ j cs Y, Fts t D i j cs → CSt t i0 I0 Y j (C ++ cs) → KI 1 Y) → (∀ k p Y, Ftf t D i k p → FQc t I0 Y k p → KI 0 Y) → CI mX7_fact h [vR 28, vI (6 - (D : Int))] I KI
def TESc (t : Txt) (i0 : Nat) (I0 : HI) (D : Nat) : Prop := ∀ (KI : Int → HI → Prop) (h i : Nat) (I : HI) (C : List Int), 2 * D + 8 ≤ h → CSt t i0 I0 I i C → C.length + 1 ≤ i → npt t i → (∀ j cs Y, Tss t D i j cs → CSt t i0 I0 Y j (C ++ cs) → KI 1 Y) → (∀ k p Y, Tsf t D i k p → FQc t I0 Y k p → KI 0 Y) → CI mX7_test h [vR 28, vI (6 - (D : Int))] I KI
def trb (x : Int) : Int := if x = 0 then 0 else 1
theorem Fts_b {t : Txt} {D i j : Nat} {cs : List Int} (h : Fsm t D i j cs) : Fts t D i j cs := by
  cases D with
  | zero => exact h
  | succ D => exact Or.inl h
theorem Ftf_b {t : Txt} {D i : Nat} {k p : Int} (h : Fsf t D i k p) : Ftf t D i k p := by
  cases D with
  | zero => exact Or.inl h
  | succ D => exact Or.inl h
section TE
variable {t : Txt} {i0 : Nat} {I0 : HI}
theorem TES_of {D : Nat} (ht : TKN t) (hp : FACc t i0 I0 D) : TESc t i0 I0 D := by
  intro KI h i I C hh cI hl np k1 k0
  obtain ⟨h', rfl⟩ : ∃ h', h = h' + 8 := ⟨h - 8, by omega⟩
  have n16 := ht.1.2
  have lp : ∀ (m : Nat) (p a : Int) (i pts : Nat) (I : HI) (C : List Int), uN t ≤ i + m → (p = 0 ∨ p = 14) → (a = 0 ∨ a = 15) → 2 * pts ≤ i → CSt t i0 I0 I i C → C.length + (opt p).length + (opt a).length + 1 ≤ i → npt t i → (∀ L j cs Y, Lps (Fts t D) (anp t) (orp t) L p a i j cs → CSt t i0 I0 Y j (C ++ cs) → KI 1 Y) → (∀ L k pl Y, Lpf (Fts t D) (Ftf t D) (anp t) (orp t) L p a i k pl → FQc t I0 Y k pl → KI 0 Y) → J none mX7_test (h' + 8) 0 0 7 [(0, vR 28), (1, vI (6 - (D : Int))), (2, vI (trb p)), (3, vI (trb a)), (4, vI (pts : Int))] [] (mk I) (PI KI) := by
    intro m
    induction m with
    | zero =>
      intro p a i pts I C hm hp' ha' hpts cI hl np k1 k0
      have hi := cI.1.2.1
      refine bk_X7_test_7 ⟨fun q => by omega, fun _ => hp _ (h' + 7) i I C (by omega) cI (by omega) np (fun j cs Y hP cY => ?_) (fun k pl Y hF fY => ⟨fun z => absurd rfl z, fun _ => PI_i (k0 1 k pl Y (Or.inl hF) fY)⟩)⟩
      have := (Fts_len _ _ _ _ hP).1
      have := cY.1.2.1
      omega
    | succ m ih =>
      intro p a i pts I C hm hp' ha' hpts cI hl np k1 k0
      have hi := cI.1.2.1
      refine bk_X7_test_7 ⟨fun q => by omega, fun _ => hp _ (h' + 7) i I C (by omega) cI (by omega) np (fun j cs Y hP cY => ⟨fun _ => ?_, fun z => by omega⟩) (fun k pl Y hF fY => ⟨fun z => absurd rfl z, fun _ => PI_i (k0 1 k pl Y (Or.inl hF) fY)⟩)⟩
      have hj := Fts_len _ _ _ _ hP
      have hjn := cY.1.2.1
      have kk := tK_e ht hjn
      have g35 : ∀ Z : HI, CSt t i0 I0 Z j (C ++ cs ++ opt p) → J none mX7_test (h' + 8) 0 0 35 [(0, vR 28), (1, vI (6 - (D : Int))), (2, vI (trb p)), (3, vI (trb a)), (4, vI (pts : Int))] [] (mk Z) (PI KI) := by
        intro Z cZ
        have ln : (C ++ cs ++ opt p).length + (opt a).length + 1 ≤ j := by
          simp only [List.length_append]
          omega
        have g55 : (∀ q', ¬ anp t j q') → J none mX7_test (h' + 8) 0 0 55 [(0, vR 28), (1, vI (6 - (D : Int))), (2, vI (trb p)), (3, vI (trb a)), (4, vI (pts : Int))] [] (mk Z) (PI KI) := by
          intro nm
          have fin : ∀ W : HI, CSt t i0 I0 W j (C ++ cs ++ opt p ++ opt a) → ((W 28 8 ≠ 16 → PI KI (some (vI 1)) (mk W)) ∧ (W 28 8 = 16 → ((W 28 9 ≠ 0 → PI KI (some (vI 1)) (mk W)) ∧ (W 28 9 = 0 → CV mX7_advance (h' + 7) [vR 28] W (fun I3 => (-2147483648 ≤ (pts : Int) + 1 ∧ (pts : Int) + 1 ≤ 2147483647) ∧ J none mX7_test (h' + 8) 0 0 7 [(0, vR 28), (1, vI (6 - (D : Int))), (2, vI 0), (3, vI 1), (4, vI ((pts : Int) + 1))] [] (mk I3) (PI KI)))))) := by
            intro W cW
            have w8 := cW.1.2.2.1.2.2.2
            have w9 := cW.1.2.2.2.1
            have stop : (∀ q', ¬ orp t j q') → KI 1 W := fun n2 => k1 1 j (cs ++ (opt p ++ opt a)) W ⟨j, cs, hP, Or.inl ⟨nm, n2, rfl, rfl⟩⟩ (by simpa only [List.append_assoc] using cW)
            refine ⟨fun q => PI_i (stop (fun q' u => q (by have := u.1.1; omega))), fun q => ⟨fun q2 => PI_i (stop (fun q' u => q2 (w9.2 u.1.2))), fun q2 => c7_advance ht cW.1 (by omega) (fun Y' fY rY eY => ⟨by omega, ?_⟩)⟩⟩
            have ho : orp t j 15 := ⟨⟨by omega, fun u => by have := w9.1 u; omega⟩, rfl⟩
            have := ih 0 15 (j + 1) (pts + 1) Y' (C ++ cs ++ opt p ++ opt a) (by omega) (Or.inl rfl) (by omega) (by omega) (CSt_av cW fY rY eY) (by rw [opt_len0 (x := 15) (by omega), opt_0, List.length_append]; simp only [List.length_nil]; omega) (npt_of ht (by omega) (by have := ho.1.1; omega)) (fun L j' cs' Y' h1 h2 => k1 (L + 1) j' (cs ++ (opt p ++ (opt a ++ cs'))) Y' ⟨j, cs, hP, Or.inr (Or.inr ⟨15, cs', nm, ho, h1, rfl⟩)⟩ (by simpa only [List.append_assoc] using h2)) (fun L k pl Y' h1 h2 => k0 (L + 1) k pl Y' (Or.inr ⟨j, cs, hP, Or.inr ⟨15, nm, ho, h1⟩⟩) h2)
            exact this
          refine bk_X7_test_55 ?_
          by_cases a0 : a = 0
          · subst a0
            have e0 : C ++ cs ++ opt p ++ opt 0 = C ++ cs ++ opt p := by rw [opt_0, List.append_nil]
            exact ⟨fun _ => fin Z (by rw [e0]; exact cZ), fun z => absurd (if_pos rfl) z⟩
          · have e15 : a = 15 := by omega
            subst e15
            refine ⟨fun z => absurd z (by decide), fun _ => c7_emit (x := 15) cZ (by omega) (by decide) (fun W cW => ?_)⟩
            exact fin W cW
        have z8 := cZ.1.2.2.1.2.2.2
        have z9 := cZ.1.2.2.2.1
        refine bk_X7_test_35 ⟨fun q => g55 (fun q' u => q (by have := u.1.1; omega)), fun q => ⟨fun q2 => g55 (fun q' u => q2 (z9.2 u.1.2)), fun q2 => c7_advance ht cZ.1 (by omega) (fun Y' fY rY eY => ⟨by omega, ?_⟩)⟩⟩
        have ho : anp t j 14 := ⟨⟨by omega, fun u => by have := z9.1 u; omega⟩, rfl⟩
        have := ih 14 a (j + 1) (pts + 1) Y' (C ++ cs ++ opt p) (by omega) (Or.inr rfl) ha' (by omega) (CSt_av cZ fY rY eY) (by rw [opt_len0 (x := 14) (by omega)]; omega) (npt_of ht (by omega) (by have := ho.1.1; omega)) (fun L j' cs' Y' h1 h2 => k1 (L + 1) j' (cs ++ (opt p ++ cs')) Y' ⟨j, cs, hP, Or.inr (Or.inl ⟨14, cs', ho, h1, rfl⟩)⟩ (by simpa only [List.append_assoc] using h2)) (fun L k pl Y' h1 h2 => k0 (L + 1) k pl Y' (Or.inr ⟨j, cs, hP, Or.inl ⟨14, ho, h1⟩⟩) h2)
        exact this
      by_cases p0 : p = 0
      · subst p0
        have e0 : C ++ cs ++ opt 0 = C ++ cs := by rw [opt_0, List.append_nil]
        exact ⟨fun _ => g35 Y (by rw [e0]; exact cY), fun z => absurd (if_pos rfl) z⟩
      · have e14 : p = 14 := by omega
        subst e14
        exact ⟨fun z => absurd z (by decide), fun _ => c7_emit (x := 14) cY (by rw [List.length_append]; omega) (by decide) (fun W cW => g35 W cW)⟩
  refine bk_X7_test_0 ?_
  have := lp (uN t) 0 0 i 0 I C (by omega) (Or.inl rfl) (Or.inl rfl) (by omega) cI (by rw [opt_0]; simp only [List.length_nil]; omega) np (fun L j cs Y h1 h2 => k1 j cs Y ⟨L, h1⟩ h2) (fun L k pl Y h1 h2 => k0 k pl Y ⟨L, h1⟩ h2)
  exact this
theorem FAC_of {D : Nat} (ht : TKN t) (hD : D ≤ 6) (hf : ∀ D', D = D' + 1 → FACc t i0 I0 D') (hs : ∀ D', D = D' + 1 → TESc t i0 I0 D') : FACc t i0 I0 D := by
  intro KI h i I C hh cI hl np k1 k0
  obtain ⟨h', rfl⟩ : ∃ h', h = h' + 7 := ⟨h - 7, by omega⟩
  have n16 := ht.1.2
  have hi := cI.1.2.1
  have kk := tK_e ht hi
  have r7 := cI.1.2.2.1.2.2.2
  have r5 := cI.1.2.2.1.2.1
  have sm : SUMc t i0 I0 D := SUM_all ht D hD
  refine bk_X7_fact_0 ?_
  rw [r7]
  refine ⟨fun q18 => c7_isSign ht cI.1 (fun s => ⟨fun z => by omega, fun _ => ?_⟩) (fun s => ⟨fun _ => ?_, fun z => absurd rfl z⟩), fun q18 => ?_⟩
  · refine c7_roomIn (fun hr => ⟨fun z => by omega, fun _ => ?_⟩) (fun hr Y2 f2 => ⟨fun _ => PI_i (k0 4 _ Y2 ?_ (FQ_of0 ht cI f2)), fun z => absurd rfl z⟩)
    · obtain ⟨D', rfl⟩ : ∃ D', D = D' + 1 := ⟨D - 1, by omega⟩
      have e1 : 6 - ((D' + 1 : Nat) : Int) + 1 = 6 - (D' : Int) := by omega
      rw [e1]
      refine c7_sign ht cI.1 (fun s' Y2 f2 r2 g2 => ⟨fun z => by omega, fun _ => ⟨by omega, ?_⟩⟩) (fun ns => absurd s ns)
      have c2 := CSt_av cI f2 r2 (by rw [g2]; unfold wk1; rw [if_neg (by have := s.1; omega)]; omega)
      refine hs D' rfl _ (h' + 6) (i + 1) Y2 C (by omega) c2 (by omega) (npt_of ht (sgn_lt ht hi s) (by have := s.1; omega)) (fun j1 c1 Y3 s1 c3 => ⟨fun z => by omega, fun _ => ?_⟩) (fun k p Y3 sf fq => ⟨fun _ => PI_i (k0 k p Y3 (Or.inr (Or.inr ⟨s, Or.inl sf⟩)) fq), fun z => absurd rfl z⟩)
      obtain ⟨L1, s1⟩ := s1
      refine c7_sign ht c3.1 (fun s41 Y4 f4 r4 g4 => ⟨fun z => by omega, fun _ => PI_i (k1 (j1 + 1) c1 Y4 (Or.inr (Or.inr ⟨L1, j1, s, s1, s41, rfl⟩)) (CSt_av c3 f4 r4 (by rw [g4]; unfold wk1; rw [if_neg (by have := s41.1; omega)]; omega)))⟩) (fun ns Y4 f4 => ⟨fun _ => PI_i (k0 1 _ Y4 (Or.inr (Or.inr ⟨s, Or.inr ⟨L1, j1, c1, s1, ns, rfl, rfl⟩⟩)) (FQ_of0 ht c3 f4)), fun z => absurd rfl z⟩)
    · rw [r5]
      have d0 : D = 0 := by omega
      subst d0
      exact Or.inr ⟨Or.inr s, rfl, rfl⟩
  · rw [r7]
    refine ⟨fun q19 => ?_, fun q19 => ?_⟩
    · have nc : ncs t i := ⟨by omega, by omega, s⟩
      refine sm _ (h' + 6) i I C (by omega) cI hl np (fun j1 c1 Y s1 cY => ⟨fun _ => ?_, fun z => by omega⟩) (fun k p Y sf fq => ⟨fun z => absurd rfl z, fun _ => PI_i (k0 k p Y (Ftf_b ⟨nc, Or.inl sf⟩) fq)⟩)
      have l1 := Sms_len s1
      have j1n := cY.1.2.1
      have y5 := cY.1.2.2.1.2.1
      have cmpc : ∀ (q cc c0 : Int), cmk t j1 q → sgn t j1 c0 → tr q = cc → CV mX7_advance (h' + 6) [vR 28] Y (fun I7 => CI mX7_sum (h' + 6) [vR 28, vI (6 - (D : Int))] I7 (fun x8 I8 => CV mX7_emit (h' + 6) [vR 28, vI cc] I8 (fun I9 => (x8 = 0 ∨ x8 = 1) ∧ PI KI (some (vI x8)) (mk I9)))) := by
        intro q cc c0 hq hsg htr
        refine c7_advance ht cY.1 (sgn_lt ht j1n hsg) (fun Z fZ rZ eZ => ?_)
        refine sm _ (h' + 6) (j1 + 1) Z (C ++ c1) (by omega) (CSt_av cY fZ rZ eZ) (by rw [List.length_append]; omega) (npt_of ht (sgn_lt ht j1n hsg) (by have := hsg.1; omega)) (fun j2 c2 W s2 cW => ?_) (fun k p W sf fq => c7_emitF fq (fun V qV => ⟨Or.inl rfl, PI_i (k0 k p V (Ftf_b ⟨nc, Or.inr ⟨j1, c1, s1, Or.inr ⟨⟨q, hq⟩, sf⟩⟩⟩) qV)⟩))
        have l2 := Sms_len s2
        have j2n := cW.1.2.1
        exact c7_emit (x := q) cW (by simp only [List.length_append]; omega) htr (fun V cV => ⟨Or.inr rfl, PI_i (k1 j2 (c1 ++ (c2 ++ [q])) V (Fts_b (Or.inr ⟨nc, j1, c1, q, c2, s1, hq, s2, rfl⟩)) (by simpa only [List.append_assoc] using cV))⟩)
      refine c7_isSign ht cY.1 (fun s3 => ⟨fun z => by omega, fun _ => cmpc 11 (-12) 60 (Or.inl ⟨s3, rfl⟩) s3 (by decide)⟩) (fun s3 => ⟨fun _ => c7_isSign ht cY.1 (fun s4 => ⟨fun z => by omega, fun _ => cmpc 12 (-13) 62 (Or.inr (Or.inl ⟨s4, rfl⟩)) s4 (by decide)⟩) (fun s4 => ⟨fun _ => c7_isSign ht cY.1 (fun s5 => ⟨fun z => by omega, fun _ => cmpc 13 (-14) 61 (Or.inr (Or.inr ⟨s5, rfl⟩)) s5 (by decide)⟩) (fun s5 => ⟨fun _ => ?_, fun z => absurd rfl z⟩), fun z => absurd rfl z⟩), fun z => absurd rfl z⟩)
      rw [y5]
      refine c7_fail (fun Z fZ => ⟨Or.inl rfl, PI_i (k0 1 _ Z (Ftf_b ⟨nc, Or.inr ⟨j1, c1, s1, Or.inl ⟨fun q u => ?_, rfl, rfl⟩⟩⟩) (FQ_of0 ht cY fZ))⟩)
      rcases u with u | u | u
      · exact s3 u.1
      · exact s4 u.1
      · exact s5 u.1
    · have nj : ¬ jnd t i := fun u => by have := np u; omega
      exact c7_emit (x := 17) cI (by omega) (by decide) (fun Y cY => c7_advance ht cY.1 (by omega) (fun Z fZ rZ eZ => PI_i (k1 (i + 1) [17] Z (Fts_b (Or.inl ⟨⟨by omega, nj⟩, rfl, rfl⟩)) (CSt_av cY fZ rZ eZ))))
  · have nj : ¬ jnd t i := fun u => by have := np u; omega
    have hk : uK t i = 18 := by omega
    refine c7_roomIn (fun hr => ⟨fun _ => ?_, fun z => by omega⟩) (fun hr Y2 f2 => ⟨fun z => absurd rfl z, fun _ => PI_i (k0 4 _ Y2 ?_ (FQ_of0 ht cI f2))⟩)
    · obtain ⟨D', rfl⟩ : ∃ D', D = D' + 1 := ⟨D - 1, by omega⟩
      have e1 : 6 - ((D' + 1 : Nat) : Int) + 1 = 6 - (D' : Int) := by omega
      rw [e1]
      refine c7_advance ht cI.1 (by omega) (fun Y fY rY eY => ⟨by omega, ?_⟩)
      refine hf D' rfl _ (h' + 6) (i + 1) Y C (by omega) (CSt_av cI fY rY eY) (by omega) (npt_of ht (by omega) (by omega)) (fun j1 c1 Z s1 cZ => ?_) (fun k p Z sf fq => c7_emitF fq (fun V qV => ⟨Or.inl rfl, PI_i (k0 k p V (Or.inr (Or.inl ⟨⟨hk, nj⟩, sf⟩)) qV)⟩))
      have l1 := Fts_len _ _ _ _ s1
      have j1n := cZ.1.2.1
      exact c7_emit (x := 16) cZ (by simp only [List.length_append]; omega) (by decide) (fun V cV => ⟨Or.inr rfl, PI_i (k1 j1 (c1 ++ [16]) V (Or.inr (Or.inl ⟨c1, ⟨hk, nj⟩, s1, rfl⟩)) (by simpa only [List.append_assoc] using cV))⟩)
    · rw [r5]
      have d0 : D = 0 := by omega
      subst d0
      exact Or.inr ⟨Or.inl ⟨hk, nj⟩, rfl, rfl⟩
theorem FAC_all (ht : TKN t) : ∀ D, D ≤ 6 → FACc t i0 I0 D
  | 0, h => FAC_of ht h (fun D' e => by omega) (fun D' e => by omega)
  | D + 1, h => FAC_of ht h (fun D' e => by
    have : D' = D := by omega
    subst this
    exact FAC_all ht D' (by omega)) (fun D' e => by
    have : D' = D := by omega
    subst this
    exact TES_of ht (FAC_all ht D' (by omega)))
theorem c7_test (ht : TKN t) : TESc t i0 I0 6 := TES_of ht (FAC_all ht 6 (Nat.le_refl _))
end TE
