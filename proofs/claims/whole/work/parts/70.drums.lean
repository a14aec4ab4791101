abbrev Spn : Type := Int × Int × Int × Int
/-- the spans that stand in the meetings -/
def MSp (I : HI) (L : List Spn) : Prop := I 57 5 = L.length ∧ ∀ (i : Nat) (x : Spn), L[i]? = some x → I 58 i = x.1 ∧ I 59 i = x.2.1 ∧ I 60 i = x.2.2.1 ∧ I 61 i = x.2.2.2
def SFr (I X : HI) : Prop := (∀ k, (k < 57 ∨ 61 < k) → X k = I k) ∧ (∀ j, j ≠ 5 → X 57 j = I 57 j)
theorem SFr_rfl (I : HI) : SFr I I := ⟨fun _ _ => rfl, fun _ _ => rfl⟩
theorem SFr_tr {I X Y : HI} (h : SFr I X) (g : SFr X Y) : SFr I Y := ⟨fun k hk => by rw [g.1 k hk, h.1 k hk], fun j hj => by rw [g.2 j hj, h.2 j hj]⟩
def snd (I : HI) (a b : Int) : Int := I 531 (10 * a + b).toNat
/-- legs whose ends grow -/
def srt : Int → List Lg → Prop
  | _, [] => True
  | t, x :: L => t < x.2.2.2 ∧ srt x.2.2.2 L
theorem srt_legs : ∀ (W : List Sp) (c t : Int), okW c t W → ∀ s, s ≤ t → srt s (legs t W)
  | [], c, t, h, s, hs => trivial
  | x :: W, c, t, h, s, hs => by
    obtain ⟨h1, h2, h3, h4⟩ := h
    unfold legs
    split
    · exact srt_legs W _ _ h4 s (by omega)
    · exact ⟨by simp only; omega, srt_legs W _ _ h4 _ (by simp)⟩
theorem whereL_st : ∀ (L : List Lg) (c t m : Int), srt t L → m ≤ t → whereL c L m = c
  | [], c, t, m, h, hm => rfl
  | x :: L, c, t, m, h, hm => by
    unfold whereL
    rw [if_neg (by have := h.1; omega)]
theorem whereL_c {x : Lg} {L : List Lg} {c m : Int} (h : x.2.2.2 ≤ m) : whereL c (x :: L) m = whereL x.1 L m := by
  show (if x.2.2.2 ≤ m then whereL x.1 L m else c) = _
  rw [if_pos h]
def nxA (L : List Lg) (last : Int) : Int := match L with | [] => last + 1 | x :: _ => x.2.2.2
section DR
variable {d : Nat} {I : HI} {K : HI → Prop}
theorem c3_add {L : List Spn} {x : Spn} (hM : MSp I L) (hl : L.length < 1201) (h : ∀ X : HI, SFr I X → MSp X (L ++ [x]) → K X) : CV mX3_add (d + 1) [vR 57, vI x.1, vI x.2.1, vI x.2.2.1, vI x.2.2.2] I K := by
  obtain ⟨m1, m2⟩ := hM
  refine bk_X3_add_0 ⟨fun q => by omega, fun _ => ?_⟩
  have g0 : (I 57 5).toNat = L.length := by omega
  refine ⟨by omega, fun I1 e1 => ?_⟩
  have g1 : I1 57 5 = L.length := by rw [e1, up_k (by decide), m1]
  rw [g1]
  refine ⟨by omega, fun I2 e2 => ?_⟩
  have g2 : I2 57 5 = L.length := by rw [e2, up_k (by decide), g1]
  rw [g2]
  refine ⟨by omega, fun I3 e3 => ?_⟩
  have g3 : I3 57 5 = L.length := by rw [e3, up_k (by decide), g2]
  rw [g3]
  refine ⟨by omega, fun I4 e4 => ?_⟩
  have g4 : I4 57 5 = L.length := by rw [e4, up_k (by decide), g3]
  rw [g4]
  refine ⟨by omega, fun I5 e5 => PV_i ?_⟩
  rw [g0] at e1
  rw [Int.toNat_natCast] at e2 e3 e4
  refine h I5 ⟨fun k hk => ?_, fun j hj => ?_⟩ ⟨?_, fun i y hy => ?_⟩
  · rw [e5, up_k (by omega), e4, up_k (by omega), e3, up_k (by omega), e2, up_k (by omega), e1, up_k (by omega)]
  · rw [e5, up_j hj, e4, up_k (by decide), e3, up_k (by decide), e2, up_k (by decide), e1, up_k (by decide)]
  · rw [e5, up_e]
    simp
  · rw [List.getElem?_append] at hy
    have r58 : I5 58 = up I 58 L.length x.1 58 := by rw [e5, up_k (by decide), e4, up_k (by decide), e3, up_k (by decide), e2, up_k (by decide), e1]
    have r59 : I5 59 = up I 59 L.length x.2.1 59 := by
      rw [e5, up_k (by decide), e4, up_k (by decide), e3, up_k (by decide), e2]
      funext j
      by_cases q : j = L.length
      · rw [q, up_e, up_e]
      · rw [up_j q, up_j q, e1, up_k (by decide)]
    have r60 : I5 60 = up I 60 L.length x.2.2.1 60 := by
      rw [e5, up_k (by decide), e4, up_k (by decide), e3]
      funext j
      by_cases q : j = L.length
      · rw [q, up_e, up_e]
      · rw [up_j q, up_j q, e2, up_k (by decide), e1, up_k (by decide)]
    have r61 : I5 61 = up I 61 L.length x.2.2.2 61 := by
      rw [e5, up_k (by decide), e4]
      funext j
      by_cases q : j = L.length
      · rw [q, up_e, up_e]
      · rw [up_j q, up_j q, e3, up_k (by decide), e2, up_k (by decide), e1, up_k (by decide)]
    rw [r58, r59, r60, r61]
    split at hy
    · rename_i q
      rw [up_j (by omega), up_j (by omega), up_j (by omega), up_j (by omega)]
      exact m2 i y hy
    · rename_i q
      have := ge_lt hy
      simp only [List.length_cons, List.length_nil] at this
      have e : i = L.length := by omega
      subst e
      simp only [Nat.sub_self, List.getElem?_cons_zero, Option.some.injEq] at hy
      subst hy
      rw [up_e, up_e, up_e, up_e]
      exact ⟨rfl, rfl, rfl, rfl⟩
/-- spans of drums: sound, and whole below a minute -/
def DSp (I : HI) (wA wB : Int → Int) (loud last : Int) (L : List Spn) : Prop := ∀ x ∈ L, x.2.2.2 = -1 ∧ 0 ≤ x.1 ∧ x.1 ≤ x.2.1 ∧ x.2.1 ≤ last ∧ 0 ≤ x.2.2.1 ∧ x.2.2.1 ≤ loud ∧ ∀ m, x.1 ≤ m → m ≤ x.2.1 → snd I (wA m) (wB m) = x.2.2.1
def DCp (I : HI) (wA wB : Int → Int) (loud st : Int) (L : List Spn) : Prop := ∀ m, 0 ≤ m → m < st → snd I (wA m) (wB m) ≤ loud → ∃ x ∈ L, x.2.2.1 ≠ 21 ∧ x.1 ≤ m ∧ m ≤ x.2.1
theorem drums_lp {I0 : HI} {t n t' n' : Nat} {la lb loud last most : Int} {wA wB : Int → Int} (hc : CN I0) (hso : CSo I0) (ht : TR t n) (ht' : TR t' n') (hd : t + 4 < 57 ∨ 61 < t) (hd' : t' + 4 < 57 ∨ 61 < t') (hn : n ≤ 25) (hn' : n' ≤ 25) (la1 : last ≤ 2000) (lo : loud ≤ 20) (hmo : I0 57 6 = most) (hmv : most = 1 ∨ most = 1201) (h : ∀ (X : HI) (L : List Spn), SFr I0 X → MSp X L → L.length ≤ 49 → DSp I0 wA wB loud last L → (((L.length : Int) < most ∨ most = 1201) → DCp I0 wA wB loud (last + 1) L) → K X) : ∀ (N : Nat) (LA LB : List Lg) (i j : Nat) (st ca cb : Int) (X : HI) (L : List Spn), LA.length + LB.length < N → i + 1 + LA.length ≤ n → j + 1 + LB.length ≤ n' → SFr I0 X → MSp X L → L.length + (LA.length + LB.length + 1) ≤ 49 → AL I0 t la (i + 1) LA → AL I0 t' lb (j + 1) LB → I0 (t + 1) i = ca → I0 (t' + 1) j = cb → (0 ≤ ca ∧ ca < I0 518 5) → (0 ≤ cb ∧ cb < I0 518 5) → (∀ x ∈ LA, (0 ≤ x.1 ∧ x.1 < I0 518 5) ∧ x.2.2.2 ≤ 2000) → (∀ x ∈ LB, (0 ≤ x.1 ∧ x.1 < I0 518 5) ∧ x.2.2.2 ≤ 2000) → 0 ≤ st → st ≤ last + 1 → srt st LA → srt st LB → (∀ m, st ≤ m → wA m = whereL ca LA m) → (∀ m, st ≤ m → wB m = whereL cb LB m) → DSp I0 wA wB loud last L → (((L.length : Int) < most ∨ most = 1201) → DCp I0 wA wB loud st L) → J none mX3_drums (d + 2) 0 0 28 [(0, vR 57), (1, vI loud), (2, vR t), (3, vI la), (4, vR t'), (5, vI lb), (6, vI last), (7, vI (i : Int)), (8, vI (j : Int)), (9, vI st)] [] (mk X) (PV K)
  | 0, LA, LB, i, j, st, ca, cb, X, L, hN, bi, bj, sX, mX, bud, aA, aB, eca, ecb, rca, rcb, rA, rB, s0, s1, oA, oB, vA, vB, hS, hC => by omega
  | N + 1, LA, LB, i, j, st, ca, cb, X, L, hN, bi, bj, sX, mX, bud, aA, aB, eca, ecb, rca, rcb, rA, rB, s0, s1, oA, oB, vA, vB, hS, hC => by
    have n5 := hc.2.1
    have lenA := AL_len _ _ aA
    have lenB := AL_len _ _ aB
    have ft : ∀ k, t ≤ k → k ≤ t + 4 → X k = I0 k := fun k k1 k2 => sX.1 k (by omega)
    have ft' : ∀ k, t' ≤ k → k ≤ t' + 4 → X k = I0 k := fun k k1 k2 => sX.1 k (by omega)
    have x4 := ft t (by omega) (by omega)
    have x4' := ft' t' (by omega) (by omega)
    have xm : X 57 6 = most := by rw [sX.2 6 (by decide), hmo]
    have xc := mX.1
    have far : X 13 (ca * 10 + cb).toNat = snd I0 ca cb := by
      rw [sX.1 13 (by decide)]
      exact (hso ca cb rca.1 rca.2 rcb.1 rcb.2).1
    have fr0 := (hso ca cb rca.1 rca.2 rcb.1 rcb.2).2
    have fr1 : 0 ≤ snd I0 ca cb ∧ snd I0 ca cb ≤ 999 := ⟨fr0.1, fr0.2.1⟩
    -- the loop's ends
    by_cases hend : last < st
    · refine bk_X3_drums_28 ht ht' ⟨fun _ => PV_i ?_, fun q => absurd hend q⟩
      exact h X L sX mX (by omega) hS (fun q m m0 m1 => hC q m m0 (by omega))
    by_cases hful : most ≤ L.length
    · refine bk_X3_drums_28 ht ht' ⟨fun q => absurd q hend, fun _ => ⟨fun _ => PV_i ?_, fun q => absurd (by rw [xm, xc]; exact hful) q⟩⟩
      exact h X L sX mX (by omega) hS (fun q => by omega)
    -- what one round gives: na, nb the next ends, sp the minute behind
    have key : ∀ (na nb : Int), na = nxA LA last → nb = nxA LB last → ∀ (Y : HI) (L' : List Spn), SFr I0 Y → MSp Y L' → L'.length ≤ L.length + 1 → DSp I0 wA wB loud last L' → (((L'.length : Int) < most ∨ most = 1201) → DCp I0 wA wB loud (min last (min na nb - 1) + 1) L') → ((na ≠ min last (min na nb - 1) + 1 → ((nb ≠ min last (min na nb - 1) + 1 → J none mX3_drums (d + 2) 0 0 28 [(0, vR 57), (1, vI loud), (2, vR t), (3, vI la), (4, vR t'), (5, vI lb), (6, vI last), (7, vI (i : Int)), (8, vI (j : Int)), (9, vI (min last (min na nb - 1) + 1))] [] (mk Y) (PV K)) ∧ (nb = min last (min na nb - 1) + 1 → (-2147483648 ≤ (j : Int) + 1 ∧ (j : Int) + 1 ≤ 2147483647) ∧ J none mX3_drums (d + 2) 0 0 28 [(0, vR 57), (1, vI loud), (2, vR t), (3, vI la), (4, vR t'), (5, vI lb), (6, vI last), (7, vI (i : Int)), (8, vI ((j : Int) + 1)), (9, vI (min last (min na nb - 1) + 1))] [] (mk Y) (PV K)))) ∧ (na = min last (min na nb - 1) + 1 → (-2147483648 ≤ (i : Int) + 1 ∧ (i : Int) + 1 ≤ 2147483647) ∧ ((nb ≠ min last (min na nb - 1) + 1 → J none mX3_drums (d + 2) 0 0 28 [(0, vR 57), (1, vI loud), (2, vR t), (3, vI la), (4, vR t'), (5, vI lb), (6, vI last), (7, vI ((i : Int) + 1)), (8, vI (j : Int)), (9, vI (min last (min na nb - 1) + 1))] [] (mk Y) (PV K)) ∧ (nb = min last (min na nb - 1) + 1 → (-2147483648 ≤ (j : Int) + 1 ∧ (j : Int) + 1 ≤ 2147483647) ∧ J none mX3_drums (d + 2) 0 0 28 [(0, vR 57), (1, vI loud), (2, vR t), (3, vI la), (4, vR t'), (5, vI lb), (6, vI last), (7, vI ((i : Int) + 1)), (8, vI ((j : Int) + 1)), (9, vI (min last (min na nb - 1) + 1))] [] (mk Y) (PV K))))) := by
      intro na nb ena enb Y L' sY mY lY dS dC
      have exit : ∀ a7 a8 : Int, last < min last (min na nb - 1) + 1 → J none mX3_drums (d + 2) 0 0 28 [(0, vR 57), (1, vI loud), (2, vR t), (3, vI la), (4, vR t'), (5, vI lb), (6, vI last), (7, vI a7), (8, vI a8), (9, vI (min last (min na nb - 1) + 1))] [] (mk Y) (PV K) := by
        intro a7 a8 q
        refine bk_X3_drums_28 ht ht' ⟨fun _ => PV_i ?_, fun q2 => absurd q q2⟩
        exact h Y L' sY mY (by omega) dS (fun z m m0 m1 => dC z m m0 (by omega))
      by_cases q : last < min last (min na nb - 1) + 1
      · exact ⟨fun _ => ⟨fun _ => exit _ _ q, fun _ => ⟨by omega, exit _ _ q⟩⟩, fun _ => ⟨by omega, ⟨fun _ => exit _ _ q, fun _ => ⟨by omega, exit _ _ q⟩⟩⟩⟩
      · have ih := fun LA' LB' => drums_lp (la := la) (lb := lb) hc hso ht ht' hd hd' hn hn' la1 lo hmo hmv h N LA' LB'
        have e0 : min last (min na nb - 1) + 1 = min na nb := by omega
        rw [e0] at dC ⊢
        cases LA with
        | nil =>
          simp only [nxA] at ena
          cases LB with
          | nil =>
            simp only [nxA] at enb
            omega
          | cons y LB =>
            simp only [nxA] at enb
            simp only [List.length_nil, List.length_cons] at bud hN bj
            obtain ⟨g1, g2, g3, g4, g5, g6⟩ := aB
            have hy := oB.1
            have ry := rB y List.mem_cons_self
            refine ⟨fun _ => ⟨fun z => by omega, fun _ => ⟨by omega, ?_⟩⟩, fun z => by omega⟩
            rw [show min na nb = y.2.2.2 from by omega, show (j : Int) + 1 = ((j + 1 : Nat) : Int) from by omega]
            refine ih [] LB i (j + 1) y.2.2.2 ca y.1 Y L' (by simp; omega) (by simpa using bi) (by omega) sY mY (by simp; omega) aA (by rw [show (((j + 1 : Nat)) : Int) + 1 = (j : Int) + 1 + 1 from by omega]; exact g6) eca (by rw [show ((j : Int) + 1).toNat = j + 1 from by omega] at g2; exact g2) rca ry.1 rA (fun x hx => rB x (List.mem_cons_of_mem _ hx)) (by omega) (by omega) trivial oB.2 (fun m hm => vA m (by omega)) (fun m hm => ?_) dS (fun z m m0 m1 => dC z m m0 (by omega))
            rw [vB m (by omega)]
            exact whereL_c hm
        | cons x LA =>
          simp only [nxA] at ena
          obtain ⟨f1, f2, f3, f4, f5, f6⟩ := aA
          have hx := oA.1
          have rx := rA x List.mem_cons_self
          simp only [List.length_cons] at bud hN bi
          have nA : (∀ m, x.2.2.2 ≤ m → wA m = whereL x.1 LA m) := fun m hm => by
            rw [vA m (by omega)]
            exact whereL_c hm
          have f2' : I0 (t + 1) (i + 1) = x.1 := by
            rw [show ((i : Int) + 1).toNat = i + 1 from by omega] at f2
            exact f2
          have f6' : AL I0 t la (((i + 1 : Nat) : Int) + 1) LA := by
            rw [show (((i + 1 : Nat)) : Int) + 1 = (i : Int) + 1 + 1 from by omega]
            exact f6
          cases LB with
          | nil =>
            simp only [nxA] at enb
            simp only [List.length_nil] at bud hN bj
            refine ⟨fun z => by omega, fun _ => ⟨by omega, fun _ => ?_, fun z => by omega⟩⟩
            rw [show min na nb = x.2.2.2 from by omega, show (i : Int) + 1 = ((i + 1 : Nat) : Int) from by omega]
            exact ih LA [] (i + 1) j x.2.2.2 x.1 cb Y L' (by simp; omega) (by omega) (by simpa using bj) sY mY (by simp; omega) f6' aB f2' ecb rx.1 rcb (fun z hz => rA z (List.mem_cons_of_mem _ hz)) rB (by omega) (by omega) oA.2 trivial nA (fun m hm => vB m (by omega)) dS (fun z m m0 m1 => dC z m m0 (by omega))
          | cons y LB =>
            simp only [nxA] at enb
            simp only [List.length_cons] at bud hN bj
            obtain ⟨g1, g2, g3, g4, g5, g6⟩ := aB
            have hy := oB.1
            have ry := rB y List.mem_cons_self
            have nB : (∀ m, y.2.2.2 ≤ m → wB m = whereL y.1 LB m) := fun m hm => by
              rw [vB m (by omega)]
              exact whereL_c hm
            have g2' : I0 (t' + 1) (j + 1) = y.1 := by
              rw [show ((j : Int) + 1).toNat = j + 1 from by omega] at g2
              exact g2
            have g6' : AL I0 t' lb (((j + 1 : Nat) : Int) + 1) LB := by
              rw [show (((j + 1 : Nat)) : Int) + 1 = (j : Int) + 1 + 1 from by omega]
              exact g6
            refine ⟨fun z => ⟨fun z2 => by omega, fun z2 => ⟨by omega, ?_⟩⟩, fun z => ⟨by omega, fun z2 => ?_, fun z2 => ⟨by omega, ?_⟩⟩⟩
            · rw [show min na nb = y.2.2.2 from by omega, show (j : Int) + 1 = ((j + 1 : Nat) : Int) from by omega]
              exact ih (x :: LA) LB i (j + 1) y.2.2.2 ca y.1 Y L' (by simp; omega) (by simp; omega) (by omega) sY mY (by simp; omega) ⟨f1, f2, f3, f4, f5, f6⟩ g6' eca g2' rca ry.1 rA (fun z hz => rB z (List.mem_cons_of_mem _ hz)) (by omega) (by omega) ⟨by omega, oA.2⟩ oB.2 (fun m hm => vA m (by omega)) nB dS (fun z m m0 m1 => dC z m m0 (by omega))
            · rw [show min na nb = x.2.2.2 from by omega, show (i : Int) + 1 = ((i + 1 : Nat) : Int) from by omega]
              exact ih LA (y :: LB) (i + 1) j x.2.2.2 x.1 cb Y L' (by simp; omega) (by omega) (by simp; omega) sY mY (by simp; omega) f6' ⟨g1, g2, g3, g4, g5, g6⟩ f2' ecb rx.1 rcb (fun z hz => rA z (List.mem_cons_of_mem _ hz)) rB (by omega) (by omega) oA.2 ⟨by omega, oB.2⟩ nA (fun m hm => vB m (by omega)) dS (fun z m m0 m1 => dC z m m0 (by omega))
            · rw [show min na nb = x.2.2.2 from by omega, show (i : Int) + 1 = ((i + 1 : Nat) : Int) from by omega, show (j : Int) + 1 = ((j + 1 : Nat) : Int) from by omega]
              refine ih LA LB (i + 1) (j + 1) x.2.2.2 x.1 y.1 Y L' (by omega) (by omega) (by omega) sY mY (by omega) f6' g6' f2' g2' rx.1 ry.1 (fun z hz => rA z (List.mem_cons_of_mem _ hz)) (fun z hz => rB z (List.mem_cons_of_mem _ hz)) (by omega) (by omega) oA.2 (by rw [show x.2.2.2 = y.2.2.2 from by omega]; exact oB.2) nA (fun m hm => nB m (by omega)) dS (fun z m m0 m1 => dC z m m0 (by omega))
    -- the round itself
    have nA1 : st < nxA LA last := by
      cases LA with
      | nil => simp only [nxA]; omega
      | cons x LA => exact oA.1
    have nB1 : st < nxA LB last := by
      cases LB with
      | nil => simp only [nxA]; omega
      | cons x LB => exact oB.1
    have cA : ∀ m, st ≤ m → m < nxA LA last → m ≤ last → wA m = ca := fun m m0 m1 m2 => by
      rw [vA m m0]
      cases LA with
      | nil => rfl
      | cons x LA =>
        simp only [nxA] at m1
        unfold whereL
        rw [if_neg (by omega)]
    have cB : ∀ m, st ≤ m → m < nxA LB last → m ≤ last → wB m = cb := fun m m0 m1 m2 => by
      rw [vB m m0]
      cases LB with
      | nil => rfl
      | cons x LB =>
        simp only [nxA] at m1
        unfold whereL
        rw [if_neg (by omega)]
    have nA2 : nxA LA last ≤ 2001 := by
      cases LA with
      | nil => simp only [nxA]; omega
      | cons x LA =>
        have := (rA x List.mem_cons_self).2
        simp only [nxA]
        omega
    have nB2 : nxA LB last ≤ 2001 := by
      cases LB with
      | nil => simp only [nxA]; omega
      | cons x LB =>
        have := (rB x List.mem_cons_self).2
        simp only [nxA]
        omega
    have no : ∀ na nb : Int, na = nxA LA last → nb = nxA LB last → loud < snd I0 ca cb → (((L.length : Int) < most ∨ most = 1201) → DCp I0 wA wB loud (min last (min na nb - 1) + 1) L) := by
      intro na nb ena enb hf z m m0 m1 m2
      by_cases q : m < st
      · exact hC z m m0 q m2
      · rw [cA m (by omega) (by omega) (by omega), cB m (by omega) (by omega) (by omega)] at m2
        omega
    have yes : ∀ na nb : Int, na = nxA LA last → nb = nxA LB last → ¬ loud < snd I0 ca cb → DSp I0 wA wB loud last (L ++ [(st, min last (min na nb - 1), snd I0 ca cb, -1)]) ∧ ((((L ++ [(st, min last (min na nb - 1), snd I0 ca cb, -1)] : List Spn).length : Int) < most ∨ most = 1201) → DCp I0 wA wB loud (min last (min na nb - 1) + 1) (L ++ [(st, min last (min na nb - 1), snd I0 ca cb, -1)])) := by
      intro na nb ena enb hf
      refine ⟨fun x hx => ?_, fun z m m0 m1 m2 => ?_⟩
      · rcases List.mem_append.mp hx with hx | hx
        · exact hS x hx
        · rw [List.mem_singleton.mp hx]
          refine ⟨rfl, s0, by simp only; omega, by simp only; omega, fr1.1, by simp only; omega, fun m m0 m1 => ?_⟩
          simp only at m0 m1 ⊢
          rw [cA m (by omega) (by omega) (by omega), cB m (by omega) (by omega) (by omega)]
      · by_cases q : m < st
        · obtain ⟨x, hx, g⟩ := hC (by simp at z; omega) m m0 q m2
          exact ⟨x, List.mem_append_left _ hx, g⟩
        · exact ⟨_, List.mem_append_right _ List.mem_cons_self, by simp only; omega, by simp only; omega, by simp only; omega⟩
    have body : ∀ na nb : Int, na = nxA LA last → nb = nxA LB last → (loud < snd I0 ca cb → (-2147483648 ≤ min last (min na nb - 1) + 1 ∧ min last (min na nb - 1) + 1 ≤ 2147483647) ∧ _) ∧ (¬ loud < snd I0 ca cb → CV mX3_add (d + 1) [vR 57, vI st, vI (min last (min na nb - 1)), vI (snd I0 ca cb), vI (-1)] X (fun I1 => (-2147483648 ≤ min last (min na nb - 1) + 1 ∧ min last (min na nb - 1) + 1 ≤ 2147483647) ∧ _)) := fun na nb ena enb => ⟨fun hf => ⟨by omega, key na nb ena enb X L sX mX (by omega) hS (no na nb ena enb hf)⟩, fun hf => c3_add (x := (st, min last (min na nb - 1), snd I0 ca cb, -1)) mX (by omega) (fun Y sY mY => ⟨by omega, key na nb ena enb Y _ (SFr_tr sX sY) mY (by simp) (yes na nb ena enb hf).1 (yes na nb ena enb hf).2⟩)⟩
    have i0 : ((i : Int)).toNat = i := by omega
    have j0 : ((j : Int)).toNat = j := by omega
    refine bk_X3_drums_28 ht ht' ⟨fun q => absurd q hend, fun _ => ⟨fun q => absurd (by rw [xm, xc] at q; exact q) hful, fun _ => ?_⟩⟩
    rw [x4, x4', ft (t + 1) (by omega) (by omega), ft' (t' + 1) (by omega) (by omega), ft (t + 4) (by omega) (by omega), ft' (t' + 4) (by omega) (by omega), i0, j0, eca, ecb, far]
    refine ⟨fun q => by omega, fun _ => ⟨fun q => by omega, fun _ => ⟨by omega, ?_⟩⟩⟩
    cases LA with
    | nil =>
      simp only [List.length_nil] at lenA
      refine ⟨fun _ => ⟨by omega, by omega, ?_⟩, fun q => by omega⟩
      cases LB with
      | nil =>
        simp only [List.length_nil] at lenB
        exact ⟨fun _ => ⟨by omega, by omega, by omega, by omega, by omega, by omega, by omega, body _ _ rfl rfl⟩, fun q => by omega⟩
      | cons y LB =>
        simp only [List.length_cons] at lenB
        have ry := rB y List.mem_cons_self
        have hy := oB.1
        have g5 : I0 (t' + 4) ((j : Int) + 1).toNat + lb = y.2.2.2 := aB.2.2.2.2.1
        rw [g5]
        simp only [List.length_cons] at bj
        exact ⟨fun q => by omega, fun _ => ⟨by omega, by omega, by omega, by omega, by omega, by omega, by omega, by omega, by omega, body _ _ rfl rfl⟩⟩
    | cons x LA =>
      simp only [List.length_cons] at lenA bi
      have rx := rA x List.mem_cons_self
      have hx := oA.1
      have f5 : I0 (t + 4) ((i : Int) + 1).toNat + la = x.2.2.2 := aA.2.2.2.2.1
      rw [f5]
      refine ⟨fun q => by omega, fun _ => ⟨by omega, by omega, by omega, by omega, ?_⟩⟩
      cases LB with
      | nil =>
        simp only [List.length_nil] at lenB
        exact ⟨fun _ => ⟨by omega, by omega, by omega, by omega, by omega, by omega, by omega, body _ _ rfl rfl⟩, fun q => by omega⟩
      | cons y LB =>
        simp only [List.length_cons] at lenB bj
        have ry := rB y List.mem_cons_self
        have hy := oB.1
        have g5 : I0 (t' + 4) ((j : Int) + 1).toNat + lb = y.2.2.2 := aB.2.2.2.2.1
        rw [g5]
        exact ⟨fun q => by omega, fun _ => ⟨by omega, by omega, by omega, by omega, by omega, by omega, by omega, by omega, by omega, body _ _ rfl rfl⟩⟩
end DR
