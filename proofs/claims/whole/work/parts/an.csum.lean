theorem gd_l {C x : List Int} {k : Nat} (h : k < C.length) : (C ++ x).getD k 0 = C.getD k 0 := by
  rw [List.getD_eq_getElem?_getD, List.getD_eq_getElem?_getD, List.getElem?_append_left h]
theorem gd_r {C : List Int} {x : Int} : (C ++ [x]).getD C.length 0 = x := by
  rw [List.getD_eq_getElem?_getD, List.getElem?_append_right (Nat.le_refl _)]; simp
/-- words and numbers among the tokens from i0 up to i -/
def wct (t : Txt) (i0 : Nat) : Nat → Int
  | 0 => 0
  | k + 1 => wct t i0 k + (if i0 ≤ k then wk1 t k else 0)
theorem wct_s {t : Txt} {i0 i : Nat} (h : i0 ≤ i) : wct t i0 (i + 1) = wct t i0 i + wk1 t i := by
  show wct t i0 i + (if i0 ≤ i then wk1 t i else 0) = _
  rw [if_pos h]
/-- the codes of the draft -/
def CDt (I : HI) (C : List Int) : Prop := I 28 12 = C.length ∧ ∀ k, k < C.length → I 22 k = tr (C.getD k 0)
/-- the class reads a test -/
def CSt (t : Txt) (i0 : Nat) (I0 I : HI) (i : Nat) (C : List Int) : Prop := RDk t I i ∧ CDt I C ∧ i0 ≤ i ∧ I 28 11 = wct t i0 i ∧ (∀ c, c ≠ 22 → c ≠ 28 → I c = I0 c) ∧ (I 28 13 = I0 28 13 ∧ I 28 14 = I0 28 14)
def FQc (t : Txt) (I0 Y : HI) (k p : Int) : Prop := (∀ c, (c < 14 ∨ 26 < c) → c ≠ 28 → Y c = I0 c) ∧ (Y 28 13 = k ∧ Y 28 14 = p) ∧ (0 ≤ Y 28 11 ∧ Y 28 11 ≤ uO t + 2000) ∧ 0 ≤ Y 28 12
def npt (t : Txt) (i : Nat) : Prop := jnd t i → uK t i = 28
theorem npt_of {t : Txt} (ht : TKN t) {i : Nat} (hi : i < uN t) (h : uK t i ≠ 28) : npt t (i + 1) := by
  intro j
  obtain ⟨_, j1, j2, j3⟩ := j
  rw [show i + 1 - 1 = i from by omega] at j1 j2
  by_cases e : i + 1 = uN t
  · have := ht.2.1
    rw [e] at j3
    omega
  · have a := ht.2.2.1 i hi
    have b := ht.2.2.1 (i + 1) (by omega)
    rcases a.2.2 with a1 | a1 | a1
    · rcases b.2.2 with b1 | b1 | b1
      · have := a1.2.1.2.2
        rw [← j2] at this
        rcases this with q | q
        · have := b.1
          omega
        · exact absurd b1.1 q
      · exact b1.2.2
      · omega
    · omega
    · omega
section CS
variable {d : Nat} {I I0 : HI} {K : HI → Prop} {KI : Int → HI → Prop} {t : Txt} {i i0 : Nat} {C : List Int}
theorem CSt_av {Y : HI} (h : CSt t i0 I0 I i C) (fY : AVf I Y) (rY : RDk t Y (i + 1)) (e : Y 28 11 = I 28 11 + wk1 t i) : CSt t i0 I0 Y (i + 1) C := by
  obtain ⟨h1, h2, h3, h4, h5, h6⟩ := h
  refine ⟨rY, ⟨by rw [fY.2 12 (by omega)]; exact h2.1, fun k hk => by rw [fY.1 22 (by decide)]; exact h2.2 k hk⟩, by omega, by rw [e, h4, wct_s h3], fun c a b => by rw [fY.1 c b, h5 c a b], by rw [fY.2 13 (by omega), fY.2 14 (by omega)]; exact h6⟩
theorem CSt_nv {Y : HI} (h : CSt t i0 I0 I i C) (fY : NVf I Y) (rY : RDk t Y (i + 1)) (e : Y 28 11 = I 28 11 + wk1 t i) : CSt t i0 I0 Y (i + 1) C := by
  obtain ⟨h1, h2, h3, h4, h5, h6⟩ := h
  refine ⟨rY, ⟨by rw [fY.2 12 (by omega)]; exact h2.1, fun k hk => by rw [fY.1 22 (by decide)]; exact h2.2 k hk⟩, by omega, by rw [e, h4, wct_s h3], fun c a b => by rw [fY.1 c b, h5 c a b], by rw [fY.2 13 (by omega), fY.2 14 (by omega)]; exact h6⟩
theorem FQ_of {X Y : HI} {k p : Int} (ht : TKN t) (h : CSt t i0 I0 I i C) (fX : NVf I X) (e : X 28 11 = I 28 11) (fY : FLc X Y k p) : FQc t I0 Y k p := by
  obtain ⟨h1, h2, h3, h4, h5, h6⟩ := h
  have b := h1.2.2.2.2
  have n := h1.2.1
  have n16 := ht.1.2
  refine ⟨fun c a b' => by rw [fY.1 c b', fX.1 c b', h5 c (by omega) b'], fY.2.2, ?_, ?_⟩
  · rw [fY.2.1 11 (by decide) (by decide), e]
    omega
  · rw [fY.2.1 12 (by decide) (by decide), fX.2 12 (by omega), h2.1]
    omega
theorem FQ_of0 {Y : HI} {k p : Int} (ht : TKN t) (h : CSt t i0 I0 I i C) (fY : FLc I Y k p) : FQc t I0 Y k p := FQ_of ht h ⟨fun _ _ => rfl, fun _ _ => rfl⟩ rfl fY
theorem c7_emitF {x k p : Int} (h : FQc t I0 I k p) (g : ∀ Y : HI, FQc t I0 Y k p → K Y) : CV mX7_emit (d + 1) [vR 28, vI x] I K := by
  obtain ⟨h1, h2, h3, h4⟩ := h
  refine bk_X7_emit_0 ⟨fun _ => PV_i (g I ⟨h1, h2, h3, h4⟩), fun q => ⟨by omega, fun I1 e1 => ⟨by omega, fun I2 e2 => PV_i (g I2 ⟨fun c a b => ?_, ?_, ?_, ?_⟩)⟩⟩⟩
  · rw [e2, up_k (by omega), e1, up_k b]; exact h1 c a b
  · rw [e2, up_k (by decide), e1, up_n (by omega), up_n (by omega)]; exact h2
  · rw [e2, up_k (by decide), e1, up_n (by omega)]; exact h3
  · rw [e2, up_k (by decide), e1, up_s]; omega
theorem c7_emit {x y : Int} (h : CSt t i0 I0 I i C) (c16 : C.length < 1600) (e : tr x = y) (g : ∀ Y : HI, CSt t i0 I0 Y i (C ++ [x]) → K Y) : CV mX7_emit (d + 1) [vR 28, vI y] I K := by
  obtain ⟨⟨⟨r1, r2⟩, r3, ⟨r4, r5, r6, r7⟩, r8, r9⟩, h2, h3, h4, h5, h6⟩ := h
  refine bk_X7_emit_0 ?_
  rw [h2.1, Int.toNat_natCast]
  refine ⟨fun q => by omega, fun _ => ⟨by omega, fun I1 e1 => ⟨by omega, fun I2 e2 => PV_i (g I2 ?_)⟩⟩⟩
  have f : ∀ c, c ≠ 22 → c ≠ 28 → I2 c = I c := fun c a b => by rw [e2, up_k a, e1, up_k b]
  have g8 : ∀ j, j ≠ 12 → I2 28 j = I 28 j := fun j hj => by rw [e2, up_k (by decide), e1, up_n (by omega)]
  refine ⟨⟨⟨by rw [f 27 (by decide) (by decide)]; exact r1, fun u hu => by rw [f 29 (by decide) (by decide), f 30 (by decide) (by decide), f 31 (by decide) (by decide)]; exact r2 u hu⟩, r3, ⟨by rw [g8 5 (by decide)]; exact r4, by rw [g8 6 (by decide)]; exact r5, by rw [g8 7 (by decide)]; exact r6, by rw [g8 8 (by decide)]; exact r7⟩, by rw [g8 9 (by decide)]; exact r8, by rw [g8 11 (by decide)]; exact r9⟩, ⟨?_, fun k hk => ?_⟩, h3, by rw [g8 11 (by decide)]; exact h4, fun c a b => by rw [f c a b, h5 c a b], by rw [g8 13 (by decide), g8 14 (by decide)]; exact h6⟩
  · rw [e2, up_k (by decide), e1, up_s, List.length_append]; simp
  · rw [List.length_append, List.length_cons, List.length_nil] at hk
    by_cases ek : k = C.length
    · rw [ek, e2, up_s, gd_r]
      exact e.symm
    · rw [e2, up_n (by omega), e1, up_k (by decide), gd_l (by omega)]
      exact h2.2 k (by omega)
theorem c7_roomIn {a : Int} (k1 : a < 6 → KI 1 I) (k0 : ¬ a < 6 → ∀ Y : HI, FLc I Y 4 (I 28 6) → KI 0 Y) : CI mX7_roomIn (d + 2) [vR 28, vI a] I KI :=
  bk_X7_roomIn_0 ⟨fun q => PI_i (k1 q), fun q => c7_fail (fun Y fY => ⟨fun _ => PI_i (k0 q Y fY), fun z => absurd rfl z⟩)⟩
end CS
/-- the class's sums with D more that may be opened -/
def SUMc (t : Txt) (i0 : Nat) (I0 : HI) (D : Nat) : Prop := ∀ (KI : Int → HI → Prop) (h i : Nat) (I : HI) (C : List Int), 2 * D + 6 ≤ h → CSt t i0 I0 I i C → C.length + 1 ≤ i → npt t i → (∀ j cs Y, Sms t D i j cs → CSt t i0 I0 Y j (C ++ cs) → KI 1 Y) → (∀ k p Y, Smf t D i k p → FQc t I0 Y k p → KI 0 Y) → CI mX7_sum h [vR 28, vI (6 - (D : Int))] I KI
def PARc (t : Txt) (i0 : Nat) (I0 : HI) (D : Nat) : Prop := ∀ (KI : Int → HI → Prop) (h i : Nat) (I : HI) (C : List Int), 2 * D + 5 ≤ h → CSt t i0 I0 I i C → C.length + 1 ≤ i → npt t i → (∀ j cs Y, Pts t D i j cs → CSt t i0 I0 Y j (C ++ cs) → KI 1 Y) → (∀ k p Y, Ptf t D i k p → FQc t I0 Y k p → KI 0 Y) → CI mX7_part h [vR 28, vI (6 - (D : Int))] I KI
theorem tr_op {q : Int} (h : 1 ≤ q) (h2 : q ≤ 6) : tr q = -5 - q := by
  unfold tr
  rw [if_neg (by omega), if_neg (by omega), if_neg (by omega), if_neg (by omega), if_pos (by omega)]
def trz (x : Int) : Int := if x = 0 then 0 else tr x
theorem Pts_b {t : Txt} {D i j : Nat} {cs : List Int} (h : Smp t i j cs) : Pts t D i j cs := by
  cases D with
  | zero => exact h
  | succ D => exact Or.inl h
theorem Ptf_b {t : Txt} {D i : Nat} {k p : Int} (h : Pbf t i k p) : Ptf t D i k p := by
  cases D with
  | zero => exact Or.inl h
  | succ D => exact Or.inl h
section SU
variable {t : Txt} {i0 : Nat} {I0 : HI}
theorem sgn_lt (ht : TKN t) {i : Nat} {c : Int} (hi : i ≤ uN t) (h : sgn t i c) : i < uN t := by
  have := tK_e ht hi
  have := h.1
  omega
theorem SUM_of {D : Nat} (ht : TKN t) (hp : PARc t i0 I0 D) : SUMc t i0 I0 D := by
  intro KI h i I C hh cI hl np k1 k0
  obtain ⟨h', rfl⟩ : ∃ h', h = h' + 6 := ⟨h - 6, by omega⟩
  have n16 := ht.1.2
  have lp : ∀ (m : Nat) (p a : Int) (i pts : Nat) (I : HI) (C : List Int), uN t ≤ i + m → (p = 0 ∨ p = 3 ∨ p = 4) → (a = 0 ∨ a = 1 ∨ a = 2) → 2 * pts ≤ i → CSt t i0 I0 I i C → C.length + (opt p).length + (opt a).length + 1 ≤ i → npt t i → (∀ L j cs Y, Lps (Pts t D) (mop t) (aop t) L p a i j cs → CSt t i0 I0 Y j (C ++ cs) → KI 1 Y) → (∀ L k pl Y, Lpf (Pts t D) (Ptf t D) (mop t) (aop t) L p a i k pl → FQc t I0 Y k pl → KI 0 Y) → J none mX7_sum (h' + 6) 0 0 7 [(0, vR 28), (1, vI (6 - (D : Int))), (2, vI (trz p)), (3, vI (trz a)), (4, vI (pts : Int))] [] (mk I) (PI KI) := by
    intro m
    induction m with
    | zero =>
      intro p a i pts I C hm hp' ha' hpts cI hl np k1 k0
      have hi := cI.1.2.1
      refine bk_X7_sum_7 ⟨fun q => by omega, fun _ => hp _ (h' + 5) i I C (by omega) cI (by omega) np (fun j cs Y hP cY => ?_) (fun k pl Y hF fY => ⟨fun z => absurd rfl z, fun _ => PI_i (k0 1 k pl Y (Or.inl hF) fY)⟩)⟩
      have := (Pts_len _ _ _ _ hP).1
      have := cY.1.2.1
      omega
    | succ m ih =>
      intro p a i pts I C hm hp' ha' hpts cI hl np k1 k0
      have hi := cI.1.2.1
      refine bk_X7_sum_7 ⟨fun q => by omega, fun _ => hp _ (h' + 5) i I C (by omega) cI (by omega) np (fun j cs Y hP cY => ⟨fun _ => ?_, fun z => by omega⟩) (fun k pl Y hF fY => ⟨fun z => absurd rfl z, fun _ => PI_i (k0 1 k pl Y (Or.inl hF) fY)⟩)⟩
      have hj := Pts_len _ _ _ _ hP
      have hjn := cY.1.2.1
      have g34 : ∀ Z : HI, CSt t i0 I0 Z j (C ++ cs ++ opt p) → J none mX7_sum (h' + 6) 0 0 34 [(0, vR 28), (1, vI (6 - (D : Int))), (2, vI (trz p)), (3, vI (trz a)), (4, vI (pts : Int))] [] (mk Z) (PI KI) := by
        intro Z cZ
        have ln : (C ++ cs ++ opt p).length + (opt a).length + 1 ≤ j := by
          simp only [List.length_append]
          omega
        have nextm : ∀ (q : Int), mop t j q → ∀ Y : HI, CSt t i0 I0 Y (j + 1) (C ++ cs ++ opt p) → J none mX7_sum (h' + 6) 0 0 7 [(0, vR 28), (1, vI (6 - (D : Int))), (2, vI (trz q)), (3, vI (trz a)), (4, vI ((pts : Int) + 1))] [] (mk Y) (PI KI) := by
          intro q hq Y cY'
          have q34 : q = 3 ∨ q = 4 := by exact hq.imp (fun u => u.2) (fun u => u.2)
          have qk : uK t j = 29 := by rcases hq with u | u <;> exact u.1.1
          have := ih q a (j + 1) (pts + 1) Y (C ++ cs ++ opt p) (by omega) (by omega) ha' (by omega) cY' (by rw [opt_len0 (by omega)]; omega) (npt_of ht (by have := tK_e ht hjn; omega) (by omega)) (fun L j' cs' Y' h1 h2 => k1 (L + 1) j' (cs ++ (opt p ++ cs')) Y' ⟨j, cs, hP, Or.inr (Or.inl ⟨q, cs', hq, h1, rfl⟩)⟩ (by simpa only [List.append_assoc] using h2)) (fun L k pl Y' h1 h2 => k0 (L + 1) k pl Y' (Or.inr ⟨j, cs, hP, Or.inl ⟨q, hq, h1⟩⟩) h2)
          exact this
        have nexta : ∀ (q : Int), (∀ q', ¬ mop t j q') → aop t j q → ∀ Y : HI, CSt t i0 I0 Y (j + 1) (C ++ cs ++ opt p ++ opt a) → J none mX7_sum (h' + 6) 0 0 7 [(0, vR 28), (1, vI (6 - (D : Int))), (2, vI 0), (3, vI (trz q)), (4, vI ((pts : Int) + 1))] [] (mk Y) (PI KI) := by
          intro q hn hq Y cY'
          have q34 : q = 1 ∨ q = 2 := by exact hq.imp (fun u => u.2) (fun u => u.2)
          have qk : uK t j = 29 := by rcases hq with u | u <;> exact u.1.1
          have := ih 0 q (j + 1) (pts + 1) Y (C ++ cs ++ opt p ++ opt a) (by omega) (Or.inl rfl) (by omega) (by omega) cY' (by rw [opt_len0 (x := q) (by omega), opt_0, List.length_append]; simp only [List.length_nil]; omega) (npt_of ht (by have := tK_e ht hjn; omega) (by omega)) (fun L j' cs' Y' h1 h2 => k1 (L + 1) j' (cs ++ (opt p ++ (opt a ++ cs'))) Y' ⟨j, cs, hP, Or.inr (Or.inr ⟨q, cs', hn, hq, h1, rfl⟩)⟩ (by simpa only [List.append_assoc] using h2)) (fun L k pl Y' h1 h2 => k0 (L + 1) k pl Y' (Or.inr ⟨j, cs, hP, Or.inr ⟨q, hn, hq, h1⟩⟩) h2)
          exact this
        have stop : (∀ q', ¬ mop t j q') → (∀ q', ¬ aop t j q') → ∀ Y : HI, CSt t i0 I0 Y j (C ++ cs ++ opt p ++ opt a) → KI 1 Y := fun n1 n2 Y cY' => k1 1 j (cs ++ (opt p ++ opt a)) Y ⟨j, cs, hP, Or.inl ⟨n1, n2, rfl, rfl⟩⟩ (by simpa only [List.append_assoc] using cY')
        have addp : (∀ q', ¬ mop t j q') → ∀ W : HI, CSt t i0 I0 W j (C ++ cs ++ opt p ++ opt a) → CI mX7_isSign (h' + 5) [vR 28, vI 43] W (fun x3 I3 => ((x3 = 0 → CI mX7_isSign (h' + 5) [vR 28, vI 45] I3 (fun x4 I4 => ((x4 = 0 → PI KI (some (vI 1)) (mk I4)) ∧ (¬ (x4 = 0) → CV mX7_advance (h' + 5) [vR 28] I4 (fun I5 => (-2147483648 ≤ (pts : Int) + 1 ∧ (pts : Int) + 1 ≤ 2147483647) ∧ J none mX7_sum (h' + 6) 0 0 7 [(0, vR 28), (1, vI (6 - (D : Int))), (2, vI 0), (3, vI (-7)), (4, vI ((pts : Int) + 1))] [] (mk I5) (PI KI)))))) ∧ (¬ (x3 = 0) → CV mX7_advance (h' + 5) [vR 28] I3 (fun I6 => (-2147483648 ≤ (pts : Int) + 1 ∧ (pts : Int) + 1 ≤ 2147483647) ∧ J none mX7_sum (h' + 6) 0 0 7 [(0, vR 28), (1, vI (6 - (D : Int))), (2, vI 0), (3, vI (-6)), (4, vI ((pts : Int) + 1))] [] (mk I6) (PI KI))))) := by
          intro n1 W cW
          refine c7_isSign ht cW.1 (fun s => ⟨fun z => by omega, fun _ => c7_advance ht cW.1 (sgn_lt ht hjn s) (fun Y fY rY eY => ⟨by omega, ?_⟩)⟩) (fun s => ⟨fun _ => c7_isSign ht cW.1 (fun s2 => ⟨fun z => by omega, fun _ => c7_advance ht cW.1 (sgn_lt ht hjn s2) (fun Y fY rY eY => ⟨by omega, ?_⟩)⟩) (fun s2 => ⟨fun _ => PI_i (stop n1 (fun q' u => ?_) W cW), fun z => absurd rfl z⟩), fun z => absurd rfl z⟩)
          · exact nexta 1 n1 (Or.inl ⟨s, rfl⟩) Y (CSt_av cW fY rY eY)
          · exact nexta 2 n1 (Or.inr ⟨s2, rfl⟩) Y (CSt_av cW fY rY eY)
          · rcases u with u | u
            · exact s u.1
            · exact s2 u.1
        refine bk_X7_sum_34 (c7_isSign ht cZ.1 (fun s => ⟨fun z => by omega, fun _ => c7_advance ht cZ.1 (sgn_lt ht hjn s) (fun Y fY rY eY => ⟨by omega, nextm 3 (Or.inl ⟨s, rfl⟩) Y (CSt_av cZ fY rY eY)⟩)⟩) (fun s => ⟨fun _ => c7_isSign ht cZ.1 (fun s2 => ⟨fun z => by omega, fun _ => c7_advance ht cZ.1 (sgn_lt ht hjn s2) (fun Y fY rY eY => ⟨by omega, nextm 4 (Or.inr ⟨s2, rfl⟩) Y (CSt_av cZ fY rY eY)⟩)⟩) (fun s2 => ⟨fun _ => ?_, fun z => absurd rfl z⟩), fun z => absurd rfl z⟩))
        have nm : ∀ q', ¬ mop t j q' := fun q' u => by
          rcases u with u | u
          · exact s u.1
          · exact s2 u.1
        by_cases a0 : a = 0
        · subst a0
          have e0 : C ++ cs ++ opt p ++ opt 0 = C ++ cs ++ opt p := by rw [opt_0, List.append_nil]
          exact ⟨fun _ => addp nm Z (by rw [e0]; exact cZ), fun z => absurd (if_pos rfl) z⟩
        · have ta : trz a = tr a := if_neg a0
          have ta2 : tr a = -5 - a := tr_op (by omega) (by omega)
          refine ⟨fun z => by omega, fun _ => c7_emit cZ (by omega) ta.symm (fun W cW => ?_)⟩
          rw [← opt_n a0] at cW
          exact addp nm W cW
      by_cases p0 : p = 0
      · subst p0
        have e0 : C ++ cs ++ opt 0 = C ++ cs := by rw [opt_0, List.append_nil]
        exact ⟨fun _ => g34 Y (by rw [e0]; exact cY), fun z => absurd (if_pos rfl) z⟩
      · have ta : trz p = tr p := if_neg p0
        have ta2 : tr p = -5 - p := tr_op (by omega) (by omega)
        refine ⟨fun z => by omega, fun _ => c7_emit cY (by rw [List.length_append]; omega) ta.symm (fun W cW => ?_)⟩
        rw [← opt_n p0] at cW
        exact g34 W cW
  refine bk_X7_sum_0 ?_
  have := lp (uN t) 0 0 i 0 I C (by omega) (Or.inl rfl) (Or.inl rfl) (by omega) cI (by rw [opt_0]; simp only [List.length_nil]; omega) np (fun L j cs Y h1 h2 => k1 j cs Y ⟨L, h1⟩ h2) (fun L k pl Y h1 h2 => k0 k pl Y ⟨L, h1⟩ h2)
  exact this
end SU
