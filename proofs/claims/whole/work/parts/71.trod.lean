theorem CRa_fr {I X : HI} (h : CRa I) (e1 : X 1 = I 1) (e2 : X 489 = I 489) : CRa X := by
  unfold CRa at h ⊢
  rw [e1, e2]
  exact h
theorem lastP_fr {I X : HI} (e1 : X 489 = I 489) (e2 : X 522 = I 522) (s c : Int) : lastP X s c = lastP I s c := by
  unfold lastP
  rw [e1, e2]
theorem lastP_rng {I : HI} {s c : Int} (hs : CSa I) (hr : CRa I) (s0 : 0 ≤ s) (s1 : s < I 518 6) (c0 : 0 ≤ c) (c1 : c ≤ 2000) : -2 ≤ lastP I s c ∧ lastP I s c ≤ 2100 := by
  have g := (hs.2 s s0 s1).2.2.2
  have r := hr.2
  unfold lastP
  split <;> omega
/-- the span of petals of a leg that walks and a leg that strews -/
def tsp (I : HI) (s : Int) (p q : Lg) : Spn := (max (p.2.2.1 + 1) q.2.2.2, min p.2.2.2 (lastP I s q.2.2.2), 21, p.2.1)
section TD
variable {d : Nat} {K : HI → Prop}
theorem trod_b {I0 : HI} {t n t' n' : Nat} {la lb s most i : Int} {P : Spn → Prop} {p : Lg} (hc : CN I0) (hs : CSa I0) (hr : CRa I0) (s0 : 0 ≤ s) (s1 : s < I0 518 6) (ht : TR t n) (ht' : TR t' n') (hd : t + 4 < 57 ∨ 61 < t) (hd' : t' + 4 < 57 ∨ 61 < t') (hn : n ≤ 25) (hn' : n' ≤ 25) (hmo : I0 57 6 = most) (hmv : most = 1 ∨ most = 1201) (i0 : 1 ≤ i) (i1 : i < n) (g2 : I0 (t + 2) i.toNat = p.2.1) (g3 : I0 (t + 3) i.toNat + la = p.2.2.1) (g4 : I0 (t + 4) i.toNat + la = p.2.2.2) (pr : 0 ≤ p.2.2.1 ∧ p.2.2.2 ≤ 2000 ∧ p.2.2.1 < p.2.2.2) (lar : 0 ≤ la ∧ la ≤ 100) (lbr : 0 ≤ lb ∧ lb ≤ 100) : ∀ (M : List Lg) (j : Int) (X : HI) (L : List Spn), 1 ≤ j → j + M.length ≤ n' → AL I0 t' lb j M → (∀ q ∈ M, 0 ≤ q.2.2.2 ∧ q.2.2.2 ≤ 2000) → SFr I0 X → MSp X L → L.length + M.length ≤ 1201 → (∀ x ∈ L, P x) → (∀ q ∈ M, p.2.1 = q.2.1 → (tsp I0 s p q).1 ≤ (tsp I0 s p q).2.1 → P (tsp I0 s p q)) → (∀ (Y : HI) (L' : List Spn), SFr I0 Y → MSp Y L' → (∀ x ∈ L, x ∈ L') → L'.length ≤ L.length + M.length → L.length ≤ L'.length → (∀ x ∈ L', P x) → (((L'.length : Int) < most ∨ most = 1201) → ∀ q ∈ M, p.2.1 = q.2.1 → (tsp I0 s p q).1 ≤ (tsp I0 s p q).2.1 → tsp I0 s p q ∈ L') → J none mX3_trodden (d + 2) 0 0 3 [(0, vR 57), (1, vR t), (2, vI la), (3, vI s), (4, vR t'), (5, vI lb), (6, vI (i + 1))] [] (mk Y) (PV K)) → J none mX3_trodden (d + 2) 0 0 36 [(0, vR 57), (1, vR t), (2, vI la), (3, vI s), (4, vR t'), (5, vI lb), (6, vI i), (7, vI j)] [] (mk X) (PV K)
  | [], j, X, L, j0, j1, aM, rM, sX, mX, bud, hP, hT, h => by
    have e : j = I0 t' 4 := aM
    have x4' : X t' = I0 t' := sX.1 t' (by omega)
    refine bk_X3_trodden_36 ht ht' ?_
    rw [x4']
    exact ⟨fun _ => ⟨by omega, h X L sX mX (fun x hx => hx) (by simp) (by omega) hP (fun _ q hq => by simp at hq)⟩, fun q => by omega⟩
  | q :: M, j, X, L, j0, j1, aM, rM, sX, mX, bud, hP, hT, h => by
    obtain ⟨f1, f2, f3, f4, f5, f6⟩ := aM
    simp only [List.length_cons] at j1 bud
    have rq := rM q List.mem_cons_self
    have ft : ∀ k, t ≤ k → k ≤ t + 4 → X k = I0 k := fun k k1 k2 => sX.1 k (by omega)
    have ft' : ∀ k, t' ≤ k → k ≤ t' + 4 → X k = I0 k := fun k k1 k2 => sX.1 k (by omega)
    have xm : X 57 6 = most := by rw [sX.2 6 (by decide), hmo]
    have xc := mX.1
    have lp := lastP_rng hs hr s0 s1 rq.1 rq.2
    have f518 := sX.1 518 (by decide)
    have f522 := sX.1 522 (by decide)
    have f489 := sX.1 489 (by decide)
    -- the rest behind q
    have rest : ∀ (Y : HI) (L2 : List Spn), SFr I0 Y → MSp Y L2 → (∀ x ∈ L, x ∈ L2) → L2.length ≤ L.length + 1 → L.length ≤ L2.length → (∀ x ∈ L2, P x) → (((L2.length : Int) < most ∨ most = 1201) → p.2.1 = q.2.1 → (tsp I0 s p q).1 ≤ (tsp I0 s p q).2.1 → tsp I0 s p q ∈ L2) → J none mX3_trodden (d + 2) 0 0 36 [(0, vR 57), (1, vR t), (2, vI la), (3, vI s), (4, vR t'), (5, vI lb), (6, vI i), (7, vI (j + 1))] [] (mk Y) (PV K) := by
      intro Y L2 sY mY inc l1 l2 pY cY
      refine trod_b hc hs hr s0 s1 ht ht' hd hd' hn hn' hmo hmv i0 i1 g2 g3 g4 pr lar lbr M (j + 1) Y L2 (by omega) (by omega) f6 (fun z hz => rM z (List.mem_cons_of_mem _ hz)) sY mY (by omega) pY (fun z hz => hT z (List.mem_cons_of_mem _ hz)) (fun Z L3 sZ mZ inc2 l3 l4 pZ cZ => ?_)
      refine h Z L3 sZ mZ (fun x hx => inc2 x (inc x hx)) (by simp only [List.length_cons]; omega) (by omega) pZ (fun z x hx e1 e2 => ?_)
      rcases List.mem_cons.mp hx with rfl | hx
      · exact inc2 _ (cY (by omega) e1 e2)
      · exact cZ z x hx e1 e2
    refine bk_X3_trodden_36 ht ht' ?_
    rw [ft' t' (by omega) (by omega), xm, xc, ft' (t' + 2) (by omega) (by omega), ft (t + 2) (by omega) (by omega), ft' (t' + 4) (by omega) (by omega), ft (t + 3) (by omega) (by omega), ft (t + 4) (by omega) (by omega), f3, f5, g2, g3, g4]
    refine ⟨fun z => by omega, fun _ => ⟨fun z => ⟨by omega, h X L sX mX (fun x hx => hx) (by omega) (by omega) hP (fun z2 => by omega)⟩, fun z => ⟨by omega, by omega, fun e => ⟨by omega, rest X L sX mX (fun x hx => hx) (by omega) (by omega) hP (fun _ e1 => absurd e1.symm e)⟩, fun e => ⟨by omega, by omega, by omega, by omega, by omega, by omega, by omega, ?_⟩⟩⟩⟩
    refine c0_lastPetals (CN_fr hc (sX.1 2 (by decide)) f518) (CSa_fr hs (sX.1 7 (by decide)) f518 f522) (CRa_fr hr (sX.1 1 (by decide)) f489) s0 (by rw [f518]; exact s1) rq.1 rq.2 ?_
    rw [lastP_fr f489 f522, ft (t + 2) (by omega) (by omega), g2]
    refine ⟨fun z2 => ⟨by omega, rest X L sX mX (fun x hx => hx) (by omega) (by omega) hP (fun _ _ e2 => ?_)⟩, fun z2 => ⟨by omega, ?_⟩⟩
    · unfold tsp at e2
      simp only at e2
      omega
    · have hle : (tsp I0 s p q).1 ≤ (tsp I0 s p q).2.1 := by
        unfold tsp
        simp only
        omega
      refine c3_add (x := tsp I0 s p q) mX (by omega) (fun Y sY mY => ⟨by omega, rest Y _ (SFr_tr sX sY) mY (fun x hx => List.mem_append_left _ hx) (by simp) (by simp) (fun x hx => ?_) (fun _ _ _ => List.mem_append_right _ List.mem_cons_self)⟩)
      rcases List.mem_append.mp hx with hx | hx
      · exact hP x hx
      · rw [List.mem_singleton.mp hx]
        exact hT q List.mem_cons_self e.symm hle
theorem trod_a {I0 : HI} {t n t' n' : Nat} {la lb s most : Int} {P : Spn → Prop} {M : List Lg} (hc : CN I0) (hs : CSa I0) (hr : CRa I0) (s0 : 0 ≤ s) (s1 : s < I0 518 6) (ht : TR t n) (ht' : TR t' n') (hd : t + 4 < 57 ∨ 61 < t) (hd' : t' + 4 < 57 ∨ 61 < t') (hn : n ≤ 25) (hn' : n' ≤ 25) (hmo : I0 57 6 = most) (hmv : most = 1 ∨ most = 1201) (lar : 0 ≤ la ∧ la ≤ 100) (lbr : 0 ≤ lb ∧ lb ≤ 100) (aM : AL I0 t' lb 1 M) (lM : 1 + M.length ≤ n') (rM : ∀ q ∈ M, 0 ≤ q.2.2.2 ∧ q.2.2.2 ≤ 2000) (hb : LB (I0 t' 6) M) : ∀ (N : List Lg) (i : Int) (X : HI) (L : List Spn), 1 ≤ i → i + N.length ≤ n → AL I0 t la i N → (∀ p ∈ N, 0 ≤ p.2.2.1 ∧ p.2.2.2 ≤ 2000 ∧ p.2.2.1 < p.2.2.2 ∧ 0 ≤ p.2.1 ∧ p.2.1 < 16) → SFr I0 X → MSp X L → L.length + N.length * M.length ≤ 1201 → (∀ x ∈ L, P x) → (∀ p ∈ N, ∀ q ∈ M, p.2.1 = q.2.1 → (tsp I0 s p q).1 ≤ (tsp I0 s p q).2.1 → P (tsp I0 s p q)) → (∀ (Y : HI) (L' : List Spn), SFr I0 Y → MSp Y L' → (∀ x ∈ L, x ∈ L') → L'.length ≤ L.length + N.length * M.length → L.length ≤ L'.length → (∀ x ∈ L', P x) → (((L'.length : Int) < most ∨ most = 1201) → ∀ p ∈ N, ∀ q ∈ M, p.2.1 = q.2.1 → (tsp I0 s p q).1 ≤ (tsp I0 s p q).2.1 → tsp I0 s p q ∈ L') → K Y) → J none mX3_trodden (d + 2) 0 0 3 [(0, vR 57), (1, vR t), (2, vI la), (3, vI s), (4, vR t'), (5, vI lb), (6, vI i)] [] (mk X) (PV K)
  | [], i, X, L, i0, i1, aN, rN, sX, mX, bud, hP, hT, h => by
    have e : i = I0 t 4 := aN
    have x4 : X t = I0 t := sX.1 t (by omega)
    refine bk_X3_trodden_3 ht ht' ?_
    rw [x4]
    exact ⟨fun _ => PV_i (h X L sX mX (fun x hx => hx) (by simp) (by omega) hP (fun _ p hp => by simp at hp)), fun q => by omega⟩
  | p :: N, i, X, L, i0, i1, aN, rN, sX, mX, bud, hP, hT, h => by
    obtain ⟨f1, f2, f3, f4, f5, f6⟩ := aN
    simp only [List.length_cons] at i1 bud
    have hmul : (N.length + 1) * M.length = N.length * M.length + M.length := by rw [Nat.add_mul, Nat.one_mul]
    have rp := rN p List.mem_cons_self
    have x4 : X t = I0 t := sX.1 t (by omega)
    have x2 : X (t + 2) = I0 (t + 2) := sX.1 (t + 2) (by omega)
    have x6 : X t' = I0 t' := sX.1 t' (by omega)
    have rest : ∀ (Y : HI) (L2 : List Spn), SFr I0 Y → MSp Y L2 → (∀ x ∈ L, x ∈ L2) → L2.length ≤ L.length + M.length → L.length ≤ L2.length → (∀ x ∈ L2, P x) → (((L2.length : Int) < most ∨ most = 1201) → ∀ q ∈ M, p.2.1 = q.2.1 → (tsp I0 s p q).1 ≤ (tsp I0 s p q).2.1 → tsp I0 s p q ∈ L2) → J none mX3_trodden (d + 2) 0 0 3 [(0, vR 57), (1, vR t), (2, vI la), (3, vI s), (4, vR t'), (5, vI lb), (6, vI (i + 1))] [] (mk Y) (PV K) := by
      intro Y L2 sY mY inc l1 l2 pY cY
      refine trod_a hc hs hr s0 s1 ht ht' hd hd' hn hn' hmo hmv lar lbr aM lM rM hb N (i + 1) Y L2 (by omega) (by omega) f6 (fun z hz => rN z (List.mem_cons_of_mem _ hz)) sY mY (by omega) pY (fun z hz => hT z (List.mem_cons_of_mem _ hz)) (fun Z L3 sZ mZ inc2 l3 l4 pZ cZ => ?_)
      refine h Z L3 sZ mZ (fun x hx => inc2 x (inc x hx)) (by simp only [List.length_cons]; omega) (by omega) pZ (fun z x hx q hq e1 e2 => ?_)
      rcases List.mem_cons.mp hx with rfl | hx
      · exact inc2 _ (cY (by omega) q hq e1 e2)
      · exact cZ z x hx q hq e1 e2
    refine bk_X3_trodden_3 ht ht' ?_
    rw [x4, x2, x6, f3]
    refine ⟨fun z => by omega, fun _ => ⟨by omega, fun z => ?_, fun z => ⟨by omega, ?_⟩⟩⟩
    · exact trod_b hc hs hr s0 s1 ht ht' hd hd' hn hn' hmo hmv i0 (by omega) f3 f4 f5 ⟨rp.1, rp.2.1, rp.2.2.1⟩ lar lbr M 1 X L (by omega) (by omega) aM rM sX mX (by omega) hP (hT p List.mem_cons_self) (fun Y L2 sY mY inc l1 l2 pY cY => rest Y L2 sY mY inc l1 l2 pY cY)
    · refine rest X L sX mX (fun x hx => hx) (by omega) (by omega) hP (fun _ q hq e1 => ?_)
      have nb := (sb_0 hb.1 (by have := hb.2.1; omega) rp.2.2.2.1 (by omega)).mp z
      have := (hb.2.2 p.2.1 rp.2.2.2.1 rp.2.2.2.2).mpr ⟨q, hq, e1.symm⟩
      rw [nb] at this
      exact absurd this (by decide)
theorem c3_trodden {I : HI} {t n t' n' : Nat} {la lb s most : Int} {P : Spn → Prop} {N M : List Lg} {L : List Spn} (hc : CN I) (hs : CSa I) (hr : CRa I) (s0 : 0 ≤ s) (s1 : s < I 518 6) (ht : TR t n) (ht' : TR t' n') (hd : t + 4 < 57 ∨ 61 < t) (hd' : t' + 4 < 57 ∨ 61 < t') (hn : n ≤ 25) (hn' : n' ≤ 25) (hmo : I 57 6 = most) (hmv : most = 1 ∨ most = 1201) (lar : 0 ≤ la ∧ la ≤ 100) (lbr : 0 ≤ lb ∧ lb ≤ 100) (aN : AL I t la 1 N) (lN : 1 + N.length ≤ n) (aM : AL I t' lb 1 M) (lM : 1 + M.length ≤ n') (rN : ∀ p ∈ N, 0 ≤ p.2.2.1 ∧ p.2.2.2 ≤ 2000 ∧ p.2.2.1 < p.2.2.2 ∧ 0 ≤ p.2.1 ∧ p.2.1 < 16) (rM : ∀ q ∈ M, 0 ≤ q.2.2.2 ∧ q.2.2.2 ≤ 2000) (hb : LB (I t' 6) M) (mI : MSp I L) (bud : L.length + N.length * M.length ≤ 1201) (hP : ∀ x ∈ L, P x) (hT : ∀ p ∈ N, ∀ q ∈ M, p.2.1 = q.2.1 → (tsp I s p q).1 ≤ (tsp I s p q).2.1 → P (tsp I s p q)) (h : ∀ (Y : HI) (L' : List Spn), SFr I Y → MSp Y L' → (∀ x ∈ L, x ∈ L') → L'.length ≤ L.length + N.length * M.length → L.length ≤ L'.length → (∀ x ∈ L', P x) → (((L'.length : Int) < most ∨ most = 1201) → ∀ p ∈ N, ∀ q ∈ M, p.2.1 = q.2.1 → (tsp I s p q).1 ≤ (tsp I s p q).2.1 → tsp I s p q ∈ L') → K Y) : CV mX3_trodden (d + 2) [vR 57, vR t, vI la, vI s, vR t', vI lb] I K :=
  bk_X3_trodden_0 ht ht' (trod_a hc hs hr s0 s1 ht ht' hd hd' hn hn' hmo hmv lar lbr aM lM rM hb N 1 I L (by omega) (by omega) aN rN (SFr_rfl I) mI bud hP hT h)
end TD
