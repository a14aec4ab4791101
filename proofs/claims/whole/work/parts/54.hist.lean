/-- a way in four rows -/
def EW (A B C D : Nat → Int) (w : Nat) (W : List Sp) : Prop := A w = W.length ∧ ∀ (k : Nat) (x : Sp), W[k]? = some x → B (24 * w + k) = x.1 ∧ C (24 * w + k) = x.2.1 ∧ D (24 * w + k) = x.2.2
theorem ge_lt {α : Type} {W : List α} {k : Nat} {x : α} (h : W[k]? = some x) : k < W.length := (List.getElem?_eq_some_iff.mp h).1
theorem SL_el {I : HI} {w : Int} : ∀ (W : List Sp) (k : Int), SL I w k W ↔ (I 532 w.toNat = k + W.length ∧ ∀ (j : Nat) (x : Sp), W[j]? = some x → I 533 (24 * w + k + j).toNat = x.1 ∧ I 534 (24 * w + k + j).toNat = x.2.1 ∧ I 535 (24 * w + k + j).toNat = x.2.2)
  | [], k => by
    constructor
    · intro h
      have h' : k = I 532 w.toNat := h
      exact ⟨by simp; omega, fun j x hx => by simp at hx⟩
    · rintro ⟨h, _⟩
      show k = I 532 w.toNat
      simp at h
      omega
  | y :: W, k => by
    unfold SL
    rw [SL_el W (k + 1)]
    have e0 : 24 * w + k + ((0 : Nat) : Int) = 24 * w + k := by omega
    have e1 : ∀ j : Nat, 24 * w + (k + 1) + (j : Int) = 24 * w + k + ((j + 1 : Nat) : Int) := fun j => by omega
    constructor
    · rintro ⟨h1, h2, h3, h4, h5, h6⟩
      refine ⟨by simp only [List.length_cons]; omega, fun j x hx => ?_⟩
      cases j with
      | zero =>
        simp only [List.getElem?_cons_zero, Option.some.injEq] at hx
        subst hx
        rw [e0]
        exact ⟨h2, h3, h4⟩
      | succ j =>
        rw [List.getElem?_cons_succ] at hx
        have := h6 j x hx
        rw [e1] at this
        exact this
    · rintro ⟨h1, h2⟩
      simp only [List.length_cons] at h1
      have g := h2 0 y (by simp)
      rw [e0] at g
      refine ⟨by omega, g.1, g.2.1, g.2.2, by omega, fun j x hx => ?_⟩
      have := h2 (j + 1) x (by rw [List.getElem?_cons_succ]; exact hx)
      rw [e1]
      exact this
theorem SL_EW {I : HI} {w : Int} {W : List Sp} (h0 : 0 ≤ w) : SL I w 0 W ↔ EW (I 532) (I 533) (I 534) (I 535) w.toNat W := by
  rw [SL_el]
  have e : ∀ j : Nat, (24 * w + 0 + (j : Int)).toNat = 24 * w.toNat + j := fun j => by omega
  simp only [e, Int.zero_add]
  rfl
theorem EW_cp {A B C D A' B' C' D' : Nat → Int} {w w' : Nat} {W : List Sp} (h : EW A B C D w W) (hl : W.length ≤ 24) (e : A' w' = A w) (eb : ∀ k, k < 24 → B' (24 * w' + k) = B (24 * w + k) ∧ C' (24 * w' + k) = C (24 * w + k) ∧ D' (24 * w' + k) = D (24 * w + k)) : EW A' B' C' D' w' W := by
  refine ⟨by rw [e]; exact h.1, fun k x hx => ?_⟩
  have := ge_lt hx
  obtain ⟨q1, q2, q3⟩ := eb k (by omega)
  rw [q1, q2, q3]
  exact h.2 k x hx
theorem EW_snoc {A B C D A' B' C' D' : Nat → Int} {w : Nat} {W : List Sp} {y : Sp} (h : EW A B C D w W) (e : A' w = W.length + 1) (eb : ∀ k, k < W.length → B' (24 * w + k) = B (24 * w + k) ∧ C' (24 * w + k) = C (24 * w + k) ∧ D' (24 * w + k) = D (24 * w + k)) (y1 : B' (24 * w + W.length) = y.1) (y2 : C' (24 * w + W.length) = y.2.1) (y3 : D' (24 * w + W.length) = y.2.2) : EW A' B' C' D' w (W ++ [y]) := by
  refine ⟨by rw [e]; simp, fun k x hx => ?_⟩
  rw [List.getElem?_append] at hx
  split at hx
  · rename_i hk
    obtain ⟨q1, q2, q3⟩ := eb k hk
    rw [q1, q2, q3]
    exact h.2 k x hx
  · rename_i hk
    have hk2 := ge_lt hx
    simp only [List.length_cons, List.length_nil] at hk2
    have e2 : k = W.length := by omega
    subst e2
    simp only [Nat.sub_self, List.getElem?_cons_zero, Option.some.injEq] at hx
    subst hx
    exact ⟨y1, y2, y3⟩
theorem EC_cp {A A' : Nat → Int} {b b' : Nat} {s : Int} {cs : List Int} (h : EC A b s cs) (s0 : 0 ≤ s) (s1 : s < 4) (hl : cs.length ≤ 24) (e : ∀ j, j < 100 → A' (b' + j) = A (b + j)) : EC A' b' s cs := by
  refine ⟨by rw [e _ (by omega)]; exact h.1, fun k hk => ?_⟩
  rw [e _ (by omega)]
  exact h.2 k hk
theorem EC_snoc {A A' : Nat → Int} {s x : Int} {cs : List Int} (h : EC A 0 s cs) (s0 : 0 ≤ s) (e : A' s.toNat = cs.length + 1) (ex : A' (4 + s * 24 + cs.length).toNat = x) (eb : ∀ k : Nat, k < cs.length → A' (4 + s * 24 + k).toNat = A (4 + s * 24 + k).toNat) : EC A' 0 s (cs ++ [x]) := by
  unfold EC at h ⊢
  simp only [Nat.zero_add] at h ⊢
  refine ⟨by rw [e]; simp, fun k hk => ?_⟩
  simp only [List.length_append, List.length_cons, List.length_nil] at hk
  by_cases hk2 : k < cs.length
  · rw [eb k hk2, h.2 k hk2, List.getD_eq_getElem?_getD, List.getD_eq_getElem?_getD, List.getElem?_append_left hk2]
  · have e2 : k = cs.length := by omega
    subst e2
    rw [ex, List.getD_eq_getElem?_getD]
    simp
abbrev Sn : Type := (Int → List Int) × Int × Int
def SnC (I : HI) (r : Nat) (x : Sn) : Prop := I 35 (r * 102 + 100) = x.2.1 ∧ I 35 (r * 102 + 101) = x.2.2 ∧ ∀ s : Int, 0 ≤ s → s < I 518 6 → EC (I 35) (r * 102) s (x.1 s)
/-- the class's past, the newest first -/
def ClH (I : HI) (H : List Sn) : Prop := (H.length : Int) = I 32 6 ∧ H.length ≤ 20 ∧ 0 ≤ I 32 5 ∧ I 32 5 < 21 ∧ ∀ (i : Nat) (x : Sn), H[i]? = some x → SnC I ((I 32 5 + I 32 6 + 20 - i) % 21).toNat x
def SnM (I : HI) (n : Nat) (x : Sn) : Prop := I 540 n = x.2.1 ∧ I 541 n = x.2.2 ∧ ∀ s : Int, 0 ≤ s → s < I 518 6 → EW (I 536) (I 537) (I 538) (I 539) (4 * n + s.toNat) (wy I s (x.1 s))
/-- the model's past, the newest first -/
def MoH (I : HI) (H : List Sn) : Prop := (H.length : Int) = I 489 71 ∧ H.length ≤ 20 ∧ 0 ≤ I 489 72 ∧ I 489 72 < 20 ∧ ∀ (i : Nat) (x : Sn), H[i]? = some x → SnM I ((I 489 72 + 20 - i) % 20).toNat x
/-- a night that can be -/
def VSn (I : HI) (x : Sn) : Prop := (∀ s : Int, 0 ≤ s → s < I 518 6 → OkW I s (x.1 s)) ∧ (0 ≤ x.2.1 ∧ x.2.1 < 65536) ∧ (0 ≤ x.2.2 ∧ x.2.2 < oSl 1 (I 518 9))
def ClW (I : HI) (cs : Int → List Int) : Prop := ∀ s : Int, 0 ≤ s → s < I 518 6 → EC (I 33) 0 s (cs s) ∧ TW I (37 + 5 * s.toNat) 25 0 (hm I s) (wy I s (cs s))
def MoW (I : HI) (cs : Int → List Int) : Prop := ∀ s : Int, 0 ≤ s → s < I 518 6 → SL I s 0 (wy I s (cs s))
theorem VSn_fr {I I0 : HI} (h1 : I 518 = I0 518) (h2 : I 521 = I0 521) (h3 : I 522 = I0 522) {x : Sn} (h : VSn I0 x) : VSn I x := by
  refine ⟨fun s s0 s1 => OkW_fr h1 h2 h3 (h.1 s s0 (by rw [← h1]; exact s1)), ?_⟩
  rw [h1]
  exact h.2
theorem ClW_fr {I I0 : HI} {cs : Int → List Int} (h : ClW I0 cs) (h1 : I 518 = I0 518) (h2 : I 521 = I0 521) (h3 : I 522 = I0 522) (h4 : I 33 = I0 33) (hb : I0 518 6 ≤ 4) (hf : ∀ k, 37 ≤ k → k ≤ 56 → I k = I0 k) : ClW I cs := by
  intro s s0 s1
  rw [h1] at s1
  obtain ⟨a, b⟩ := h s s0 s1
  rw [h4, wy_fr h1 h2 h3, hm_fr h3]
  exact ⟨a, TW_fr b (fun k k1 k2 => hf k (by omega) (by omega))⟩
theorem MoW_fr {I I0 : HI} {cs : Int → List Int} (h : MoW I0 cs) (h1 : I 518 = I0 518) (h2 : I 521 = I0 521) (h3 : I 522 = I0 522) (hb : I0 518 6 ≤ 4) (hl : ∀ s : Int, 0 ≤ s → s < I0 518 6 → (wy I0 s (cs s)).length ≤ 24) (ha : ∀ j, j < 4 → I 532 j = I0 532 j) (hf : ∀ j, j < 96 → I 533 j = I0 533 j ∧ I 534 j = I0 534 j ∧ I 535 j = I0 535 j) : MoW I cs := by
  intro s s0 s1
  rw [h1] at s1
  have g := (SL_EW s0).mp (h s s0 s1)
  rw [wy_fr h1 h2 h3]
  exact (SL_EW s0).mpr (EW_cp g (hl s s0 s1) (ha _ (by omega)) (fun k hk => hf _ (by omega)))
theorem ClH_fr {I I0 : HI} {H : List Sn} (h : ClH I0 H) (h1 : I 518 = I0 518) (h2 : I 32 5 = I0 32 5) (h3 : I 32 6 = I0 32 6) (h4 : I 35 = I0 35) : ClH I H := by
  unfold ClH SnC at h ⊢
  rw [h1, h2, h3, h4]
  exact h
theorem MoH_fr {I I0 : HI} {H : List Sn} (h : MoH I0 H) (h1 : I 518 = I0 518) (h2 : I 521 = I0 521) (h3 : I 522 = I0 522) (h4 : I 489 71 = I0 489 71) (h5 : I 489 72 = I0 489 72) (hf : ∀ k, 536 ≤ k → k ≤ 541 → I k = I0 k) : MoH I H := by
  unfold MoH SnM at h ⊢
  simp only [wy_fr h1 h2 h3]
  rw [h1, h4, h5, hf 536 (by omega) (by omega), hf 537 (by omega) (by omega), hf 538 (by omega) (by omega), hf 539 (by omega) (by omega), hf 540 (by omega) (by omega), hf 541 (by omega) (by omega)]
  exact h
/-- the class: the night kept -/
def tpC (I : HI) : Nat := ((I 32 5 + I 32 6) % 21).toNat
def kpC (I : HI) : HI := cpI I 33 0 35 (tpC I * 102) 102
def cmC (I : HI) : HI := if 20 ≤ I 32 6 then up I 32 5 ((I 32 5 + 1) % 21) else up I 32 6 (I 32 6 + 1)
theorem cmC_f {I : HI} {k : Nat} (h : k ≠ 32) : cmC I k = I k := by
  unfold cmC
  split
  · exact up_k h
  · exact up_k h
theorem cmC_j {I : HI} {j : Nat} (h5 : j ≠ 5) (h6 : j ≠ 6) : cmC I 32 j = I 32 j := by
  unfold cmC
  split
  · exact up_j h5
  · exact up_j h6
theorem kpC_f {I : HI} {k : Nat} (h : k ≠ 35) : kpC I k = I k := cpI_f h
theorem cmC_5 {I : HI} : cmC I 32 5 = if 20 ≤ I 32 6 then (I 32 5 + 1) % 21 else I 32 5 := by
  unfold cmC
  split
  · exact up_e
  · exact up_j (by decide)
theorem cmC_6 {I : HI} : cmC I 32 6 = if 20 ≤ I 32 6 then I 32 6 else I 32 6 + 1 := by
  unfold cmC
  split
  · exact up_j (by decide)
  · exact up_e
theorem ClH_push {I : HI} {H : List Sn} {cs : Int → List Int} (h : ClH I H) (hb : I 518 6 ≤ 4) (hc : ∀ s : Int, 0 ≤ s → s < I 518 6 → EC (I 33) 0 s (cs s) ∧ (cs s).length ≤ 24) (hv : ∀ x ∈ H, ∀ s : Int, 0 ≤ s → s < I 518 6 → (x.1 s).length ≤ 24) : ClH (cmC (kpC I)) (((cs, I 33 100, I 33 101) :: H).take 20) := by
  obtain ⟨h1, h2, h3, h4, h5⟩ := h
  have f32 : kpC I 32 = I 32 := kpC_f (by decide)
  have e5 := cmC_5 (I := kpC I)
  have e6 := cmC_6 (I := kpC I)
  rw [f32] at e5 e6
  have f35 : cmC (kpC I) 35 = kpC I 35 := cmC_f (by decide)
  have f518 : cmC (kpC I) 518 = I 518 := by rw [cmC_f (by decide), kpC_f (by decide)]
  have et : (tpC I : Int) = (I 32 5 + I 32 6) % 21 := by unfold tpC; omega
  have ri : ∀ j, j < 102 → kpC I 35 (tpC I * 102 + j) = I 33 j := fun j hj => by
    unfold kpC
    rw [cpI_i (by omega) (by omega)]
    congr 1
    omega
  have ro : ∀ r j : Nat, r ≠ tpC I → j < 102 → kpC I 35 (r * 102 + j) = I 35 (r * 102 + j) := fun r j hr hj => by
    unfold kpC
    exact cpI_o (by omega)
  refine ⟨?_, ?_, ?_, ?_, fun i x hx => ?_⟩
  · rw [e6, List.length_take, List.length_cons]
    split <;> omega
  · rw [List.length_take, List.length_cons]
    omega
  · rw [e5]
    split <;> omega
  · rw [e5]
    split <;> omega
  · rw [List.getElem?_take] at hx
    split at hx
    · rename_i hi
      unfold SnC
      rw [f35, f518]
      cases i with
      | zero =>
        simp only [List.getElem?_cons_zero, Option.some.injEq] at hx
        subst hx
        have e : ((cmC (kpC I) 32 5 + cmC (kpC I) 32 6 + 20 - ((0 : Nat) : Int)) % 21).toNat = tpC I := by
          rw [e5, e6]
          split <;> omega
        rw [e, ri 100 (by omega), ri 101 (by omega)]
        refine ⟨rfl, rfl, fun s s0 s1 => ?_⟩
        obtain ⟨a, b⟩ := hc s s0 s1
        exact EC_cp a s0 (by omega) b (fun j hj => by rw [ri j (by omega), Nat.zero_add])
      | succ i =>
        rw [List.getElem?_cons_succ] at hx
        have g := h5 i x hx
        have hl := ge_lt hx
        have e : ((cmC (kpC I) 32 5 + cmC (kpC I) 32 6 + 20 - ((i + 1 : Nat) : Int)) % 21).toNat = ((I 32 5 + I 32 6 + 20 - i) % 21).toNat := by
          rw [e5, e6]
          split <;> omega
        rw [e]
        have hr : ((I 32 5 + I 32 6 + 20 - i) % 21).toNat ≠ tpC I := by omega
        unfold SnC at g
        rw [ro _ 100 hr (by omega), ro _ 101 hr (by omega)]
        refine ⟨g.1, g.2.1, fun s s0 s1 => ?_⟩
        exact EC_cp (g.2.2 s s0 s1) s0 (by omega) (hv x (List.mem_of_getElem? hx) s s0 s1) (fun j hj => ro _ j hr (by omega))
    · simp at hx
/-- readings of what the model keeps -/
theorem rmb_f {I : HI} {k : Nat} (h : k < 542 ∨ 545 < k) : rmb I k = I k := by
  unfold rmb
  rw [cp3_f (by omega) (by omega) (by omega), cpI_f (by omega)]
theorem rmb_0 {I : HI} {j : Nat} (h : j < 4) : rmb I 542 j = I 532 j := by
  unfold rmb
  rw [cp3_f (by decide) (by decide) (by decide), cpI_i (by omega) (by omega)]
  congr 1
  omega
theorem rmb_1 {I : HI} {j : Nat} (h : j < 96) : rmb I 543 j = I 533 j := by
  unfold rmb
  rw [cp3_a (by omega) (by omega), cpI_f (by decide)]
  congr 1
  omega
theorem rmb_2 {I : HI} {j : Nat} (h : j < 96) : rmb I 544 j = I 534 j := by
  unfold rmb
  rw [cp3_b (by decide) (by omega) (by omega), cpI_f (by decide)]
  congr 1
  omega
theorem rmb_3 {I : HI} {j : Nat} (h : j < 96) : rmb I 545 j = I 535 j := by
  unfold rmb
  rw [cp3_c (by decide) (by decide) (by omega) (by omega), cpI_f (by decide)]
  congr 1
  omega
theorem kas_k {I : HI} {k : Nat} (h : k ≠ 489) : kas I k = ka2 I k := by
  unfold kas
  split
  · rfl
  · exact up_k h
theorem kas_f {I : HI} {k : Nat} (h : k ≠ 489) (h1 : k < 536 ∨ 541 < k) : kas I k = I k := by
  rw [kas_k h]
  unfold ka2 ka1
  rw [up_k (by omega), up_k (by omega), cp3_f (by omega) (by omega) (by omega), cpI_f (by omega), up_k h]
theorem ka2_j {I : HI} {j : Nat} (h : j ≠ 72) : ka2 I 489 j = I 489 j := by
  unfold ka2 ka1
  rw [up_k (by decide), up_k (by decide), cp3_f (by decide) (by decide) (by decide), cpI_f (by decide), up_j h]
theorem kas_j {I : HI} {j : Nat} (h : j ≠ 72) (h1 : j ≠ 71) : kas I 489 j = I 489 j := by
  unfold kas
  split
  · exact ka2_j h
  · rw [up_j h1, ka2_j h]
theorem kas_72 {I : HI} : kas I 489 72 = (I 489 72 + 1) % 20 := by
  have e : ka2 I 489 72 = (I 489 72 + 1) % 20 := by
    unfold ka2 ka1
    rw [up_k (by decide), up_k (by decide), cp3_f (by decide) (by decide) (by decide), cpI_f (by decide), up_e]
  unfold kas
  split
  · exact e
  · rw [up_j (by decide), e]
theorem kas_71 {I : HI} : kas I 489 71 = if 20 ≤ I 489 71 then I 489 71 else I 489 71 + 1 := by
  unfold kas
  split
  · exact ka2_j (by decide)
  · exact up_e
theorem kas_536 {I : HI} {j : Nat} : kas I 536 j = if 4 * nxN I ≤ j ∧ j < 4 * nxN I + 4 then I 542 (j - 4 * nxN I) else I 536 j := by
  rw [kas_k (by decide)]
  unfold ka2 ka1
  rw [up_k (by decide), up_k (by decide), cp3_f (by decide) (by decide) (by decide)]
  split
  · rename_i h
    rw [cpI_i h.1 h.2, up_k (by decide), Nat.zero_add]
  · rename_i h
    rw [cpI_o (by omega), up_k (by decide)]
theorem kas_537 {I : HI} {j : Nat} : kas I 537 j = if 96 * nxN I ≤ j ∧ j < 96 * nxN I + 96 then I 543 (j - 96 * nxN I) else I 537 j := by
  rw [kas_k (by decide)]
  unfold ka2 ka1
  rw [up_k (by decide), up_k (by decide)]
  split
  · rename_i h
    rw [cp3_a h.1 h.2, cpI_f (by decide), up_k (by decide), Nat.zero_add]
  · rename_i h
    rw [cp3_o (by omega), cpI_f (by decide), up_k (by decide)]
theorem kas_538 {I : HI} {j : Nat} : kas I 538 j = if 96 * nxN I ≤ j ∧ j < 96 * nxN I + 96 then I 544 (j - 96 * nxN I) else I 538 j := by
  rw [kas_k (by decide)]
  unfold ka2 ka1
  rw [up_k (by decide), up_k (by decide)]
  split
  · rename_i h
    rw [cp3_b (by decide) h.1 h.2, cpI_f (by decide), up_k (by decide), Nat.zero_add]
  · rename_i h
    rw [cp3_o (by omega), cpI_f (by decide), up_k (by decide)]
theorem kas_539 {I : HI} {j : Nat} : kas I 539 j = if 96 * nxN I ≤ j ∧ j < 96 * nxN I + 96 then I 545 (j - 96 * nxN I) else I 539 j := by
  rw [kas_k (by decide)]
  unfold ka2 ka1
  rw [up_k (by decide), up_k (by decide)]
  split
  · rename_i h
    rw [cp3_c (by decide) (by decide) h.1 h.2, cpI_f (by decide), up_k (by decide), Nat.zero_add]
  · rename_i h
    rw [cp3_o (by omega), cpI_f (by decide), up_k (by decide)]
theorem kas_540 {I : HI} {j : Nat} : kas I 540 j = if j = nxN I then I 489 63 else I 540 j := by
  rw [kas_k (by decide)]
  unfold ka2 ka1
  rw [up_k (by decide)]
  split
  · rename_i h
    subst h
    exact up_e
  · rename_i h
    rw [up_j h, cp3_f (by decide) (by decide) (by decide), cpI_f (by decide), up_k (by decide)]
theorem kas_541 {I : HI} {j : Nat} : kas I 541 j = if j = nxN I then I 489 64 else I 541 j := by
  rw [kas_k (by decide)]
  unfold ka2 ka1
  split
  · rename_i h
    subst h
    exact up_e
  · rename_i h
    rw [up_j h, up_k (by decide), cp3_f (by decide) (by decide) (by decide), cpI_f (by decide), up_k (by decide)]
/-- what was set aside goes into the past -/
theorem MoH_kas {I : HI} {H : List Sn} {cs : Int → List Int} (h : MoH I H) (hb : I 518 6 ≤ 4) (hc : ∀ s : Int, 0 ≤ s → s < I 518 6 → EW (I 542) (I 543) (I 544) (I 545) s.toNat (wy I s (cs s)) ∧ (wy I s (cs s)).length ≤ 24) (hv : ∀ x ∈ H, ∀ s : Int, 0 ≤ s → s < I 518 6 → (wy I s (x.1 s)).length ≤ 24) : MoH (kas I) (((cs, I 489 63, I 489 64) :: H).take 20) := by
  obtain ⟨h1, h2, h3, h4, h5⟩ := h
  have e71 := kas_71 (I := I)
  have e72 := kas_72 (I := I)
  have f518 : kas I 518 = I 518 := kas_f (by decide) (by decide)
  have f521 : kas I 521 = I 521 := kas_f (by decide) (by decide)
  have f522 : kas I 522 = I 522 := kas_f (by decide) (by decide)
  have ez : (nxN I : Int) = (I 489 72 + 1) % 20 := by unfold nxN; omega
  refine ⟨?_, ?_, ?_, ?_, fun i x hx => ?_⟩
  · rw [e71, List.length_take, List.length_cons]
    split <;> omega
  · rw [List.length_take, List.length_cons]
    omega
  · rw [e72]
    omega
  · rw [e72]
    omega
  · rw [List.getElem?_take] at hx
    split at hx
    · rename_i hi
      unfold SnM
      simp only [wy_fr f518 f521 f522]
      rw [f518]
      cases i with
      | zero =>
        simp only [List.getElem?_cons_zero, Option.some.injEq] at hx
        subst hx
        have e : ((kas I 489 72 + 20 - ((0 : Nat) : Int)) % 20).toNat = nxN I := by
          rw [e72]
          omega
        rw [e, kas_540, kas_541, if_pos rfl, if_pos rfl]
        refine ⟨rfl, rfl, fun s s0 s1 => ?_⟩
        obtain ⟨a, b⟩ := hc s s0 s1
        refine EW_cp a b ?_ (fun k hk => ?_)
        · rw [kas_536, if_pos (by omega)]
          congr 1
          omega
        · rw [kas_537, kas_538, kas_539, if_pos (by omega), if_pos (by omega), if_pos (by omega), show 24 * (4 * nxN I + s.toNat) + k - 96 * nxN I = 24 * s.toNat + k from by omega]
          exact ⟨rfl, rfl, rfl⟩
      | succ i =>
        rw [List.getElem?_cons_succ] at hx
        have g := h5 i x hx
        have hl := ge_lt hx
        have e : ((kas I 489 72 + 20 - ((i + 1 : Nat) : Int)) % 20).toNat = ((I 489 72 + 20 - i) % 20).toNat := by
          rw [e72]
          omega
        rw [e]
        have hr : ((I 489 72 + 20 - i) % 20).toNat ≠ nxN I := by omega
        unfold SnM at g
        rw [kas_540, kas_541, if_neg hr, if_neg hr]
        refine ⟨g.1, g.2.1, fun s s0 s1 => ?_⟩
        refine EW_cp (g.2.2 s s0 s1) (hv x (List.mem_of_getElem? hx) s s0 s1) ?_ (fun k hk => ?_)
        · rw [kas_536, if_neg (by omega)]
        · rw [kas_537, kas_538, kas_539, if_neg (by omega), if_neg (by omega), if_neg (by omega)]
          exact ⟨rfl, rfl, rfl⟩
    · simp at hx
theorem MoH_push {I : HI} {H : List Sn} {cs : Int → List Int} (h : MoH I H) (hb : I 518 6 ≤ 4) (hc : MoW I cs) (hl : ∀ s : Int, 0 ≤ s → s < I 518 6 → (wy I s (cs s)).length ≤ 24) (hv : ∀ x ∈ H, ∀ s : Int, 0 ≤ s → s < I 518 6 → (wy I s (x.1 s)).length ≤ 24) : MoH (kas (rmb I)) (((cs, I 489 63, I 489 64) :: H).take 20) := by
  have f518 : rmb I 518 = I 518 := rmb_f (by decide)
  have f521 : rmb I 521 = I 521 := rmb_f (by decide)
  have f522 : rmb I 522 = I 522 := rmb_f (by decide)
  have f489 : rmb I 489 = I 489 := rmb_f (by decide)
  have g := MoH_kas (I := rmb I) (H := H) (cs := cs) (MoH_fr h f518 f521 f522 (by rw [f489]) (by rw [f489]) (fun k k1 k2 => rmb_f (by omega))) (by rw [f518]; exact hb) (fun s s0 s1 => ?_) (fun x hx s s0 s1 => ?_)
  · rw [f489] at g
    exact g
  · rw [f518] at s1
    rw [wy_fr f518 f521 f522]
    refine ⟨EW_cp ((SL_EW s0).mp (hc s s0 s1)) (hl s s0 s1) (rmb_0 (by omega)) (fun k hk => ⟨rmb_1 (by omega), rmb_2 (by omega), rmb_3 (by omega)⟩), hl s s0 s1⟩
  · rw [f518] at s1
    rw [wy_fr f518 f521 f522]
    exact hv x hx s s0 s1
