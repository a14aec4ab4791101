/-- how many more may be closed: the nots on top are not more than what is open -/
def nlt (T : List Int) (o : Int) : Prop := ∀ N R, T = N ++ R → a16 N → (N.length : Int) ≤ o
def SQx (S : List Int) : Prop := S = [] ∨ ∃ R, S = 25 :: R
def anx (W : List Int) : Prop := ∀ x ∈ W, x = 14 ∨ x = 15
theorem nlt_c {T : List Int} {o : Int} (h : nlt T o) : nlt (16 :: T) (o + 1) := by
  intro N R e hN
  cases N with
  | nil =>
    have := h [] T rfl (fun x hx => by cases hx)
    simp only [List.length_nil] at *
    omega
  | cons x N =>
    rw [List.cons_append] at e
    cases e
    have := h N R rfl (fun y hy => hN y (List.mem_cons_of_mem _ hy))
    simp only [List.length_cons]
    omega
theorem nlt_0 {T : List Int} {o : Int} (h : tpn T 16) (o0 : 0 ≤ o) : nlt T o := by
  intro N R e hN
  cases N with
  | nil => simp only [List.length_nil]; omega
  | cons x N =>
    rw [List.cons_append] at e
    exact absurd (hN x List.mem_cons_self) (h x _ e)
theorem SQ_t {S : List Int} (h : SQx S) {y : Int} (ne : y ≠ 25) : tpn S y := by
  rcases h with e | ⟨R, e⟩
  · rw [e]; intro x R e'; cases e'
  · rw [e]; intro x R' e'; cases e'; exact fun u => ne u.symm
theorem opt_t {p a y : Int} {S : List Int} (h : tpn S y) (h1 : p ≠ y) (h2 : a ≠ y) : tpn (opt p ++ (opt a ++ S)) y := tpn_opt (tpn_opt h h2) h1
theorem an_opt {p : Int} (h : p = 0 ∨ p = 14 ∨ p = 15) : anx (opt p) := by
  intro x hx
  by_cases e : p = 0
  · rw [e, opt_0] at hx
    cases hx
  · rw [opt_n e] at hx
    simp only [List.mem_singleton] at hx
    omega
theorem an_app {U V : List Int} (h : anx U) (g : anx V) : anx (U ++ V) := fun x hx => by
  rcases List.mem_append.mp hx with w | w
  · exact h x w
  · exact g x w
section MT3
variable {d : Nat} {X0 : HI} {Kt : HI → Prop} {t : Txt}
def FMs (d : Nat) (X0 : HI) (Kt : HI → Prop) (t : Txt) (D : Nat) : Prop := ∀ (i j : Nat) (cs : List Int) (X : HI) (T C : List Int), Fts t D i j cs → MRk t X i → RSc X0 X T 0 (6 - (D : Int)) C → C.length + T.length + 1 ≤ i → tp4 T → nlt T (6 - (D : Int)) → npt t i → (∀ (Y : HI) (N R : List Int), T = N ++ R → a16 N → tpn R 16 → MRk t Y j → RSc X0 Y R 0 (6 - (D : Int) - N.length) (C ++ cs ++ N) → VPx d Kt Y) → TPx d Kt X
def TMs (d : Nat) (X0 : HI) (Kt : HI → Prop) (t : Txt) (D : Nat) : Prop := ∀ (L : Nat) (p a : Int) (i j : Nat) (cs : List Int) (X : HI) (S C : List Int), Lps (Fts t D) (anp t) (orp t) L p a i j cs → MRk t X i → RSc X0 X (opt p ++ (opt a ++ S)) 0 (6 - (D : Int)) C → C.length + (opt p ++ (opt a ++ S)).length + 1 ≤ i → SQx S → (p = 0 ∨ p = 14) → (a = 0 ∨ a = 15) → npt t i → (∀ (Y : HI) (W C' : List Int), MRk t Y j → RSc X0 Y (W ++ S) 0 (6 - (D : Int)) C' → C' ++ W = C ++ cs → anx W → (∀ q, ¬ anp t j q) → (∀ q, ¬ orp t j q) → VPx d Kt Y) → TPx d Kt X
def FMf (d : Nat) (X0 : HI) (Kt : HI → Prop) (t : Txt) (D : Nat) : Prop := ∀ (i : Nat) (k p : Int) (X : HI) (T C : List Int), Ftf t D i k p → MRk t X i → RSc X0 X T 0 (6 - (D : Int)) C → C.length + T.length + 1 ≤ i → tp4 T → npt t i → (∀ Y : HI, FTm X0 Y k p 1600 → Kt Y) → TPx d Kt X
def TMf (d : Nat) (X0 : HI) (Kt : HI → Prop) (t : Txt) (D : Nat) : Prop := ∀ (L : Nat) (p a : Int) (i : Nat) (k pl : Int) (X : HI) (S C : List Int), Lpf (Fts t D) (Ftf t D) (anp t) (orp t) L p a i k pl → MRk t X i → RSc X0 X (opt p ++ (opt a ++ S)) 0 (6 - (D : Int)) C → C.length + (opt p ++ (opt a ++ S)).length + 1 ≤ i → SQx S → (p = 0 ∨ p = 14) → (a = 0 ∨ a = 15) → npt t i → (∀ Y : HI, FTm X0 Y k pl 1600 → Kt Y) → TPx d Kt X
theorem vp_next {D : Nat} (ht : TKN t) (hD : D ≤ 6) {p a : Int} {j1 : Nat} {c1 S C : List Int} {Y : HI} (mY : MRk t Y j1) (rY : RSc X0 Y (opt p ++ (opt a ++ S)) 0 (6 - (D : Int)) (C ++ c1)) (bY : (C ++ c1).length + (opt p ++ (opt a ++ S)).length + 1 ≤ j1) (hS : SQx S) (hp : p = 0 ∨ p = 14) (ha : a = 0 ∨ a = 15) : (∀ x, anp t j1 x → (∀ Z : HI, MRk t Z (j1 + 1) → RSc X0 Z (opt 14 ++ (opt a ++ S)) 0 (6 - (D : Int)) (C ++ c1 ++ opt p) → (C ++ c1 ++ opt p).length + (opt 14 ++ (opt a ++ S)).length + 1 ≤ j1 + 1 → npt t (j1 + 1) → TPx d Kt Z) → VPx d Kt Y) ∧ (∀ x, (∀ y, ¬ anp t j1 y) → orp t j1 x → (∀ Z : HI, MRk t Z (j1 + 1) → RSc X0 Z (opt 0 ++ (opt 15 ++ S)) 0 (6 - (D : Int)) (C ++ c1 ++ (opt p ++ opt a)) → (C ++ c1 ++ (opt p ++ opt a)).length + (opt 0 ++ (opt 15 ++ S)).length + 1 ≤ j1 + 1 → npt t (j1 + 1) → TPx d Kt Z) → VPx d Kt Y) := by
  have n16 := ht.1.2
  have jn := mY.2.1
  have kk := tK_e ht jn
  have o14 : opt 14 = [14] := rfl
  have o15 : opt 15 = [15] := rfl
  refine ⟨fun x hx k => ?_, fun x hn hx k => ?_⟩
  · have hk := hx.1
    refine vp_to ht mY rY (by omega) (Or.inl (fun u => by have := u.1; omega)) (fun _ Z mZ rZ => ?_) (fun u => absurd hk u) (fun u => absurd hk u) (fun u => absurd hk u)
    refine go_87 (tpn_opt (SQ_t hS (by decide)) (by omega)) (fun V mV rV => k V mV (by rw [o14]; exact rV) ?_ (npt_of ht (by omega) (by omega))) (opt p) (C ++ c1) Z rfl (fun y hy => ?_) mZ rZ (by omega)
    · rw [o14]; simp only [List.length_append, List.length_cons, List.length_nil] at bY ⊢; omega
    · by_cases e : p = 0
      · rw [e, opt_0] at hy; cases hy
      · rw [opt_n e] at hy
        simp only [List.mem_singleton] at hy
        omega
  · have hk := hx.1
    have na : ¬ (uK t j1 = 17 ∧ ¬ jnd t j1) := fun u => hn 14 ⟨u, rfl⟩
    rw [← List.append_assoc] at rY
    refine vp_to ht mY rY (by rw [List.append_assoc]; omega) (Or.inl (fun u => by have := u.1; omega)) (fun u => absurd u na) (fun _ _ Z mZ rZ => ?_) (fun _ u => absurd hk u) (fun _ u => absurd hk u)
    refine go_137 (SQ_t hS (by decide)) (SQ_t hS (by decide)) (fun V mV rV => k V mV (by rw [o15, opt_0]; exact rV) ?_ (npt_of ht (by omega) (by omega))) (opt p ++ opt a) (C ++ c1) Z rfl (an_app (an_opt (by omega)) (an_opt (by omega))) mZ rZ (by rw [List.append_assoc]; omega)
    rw [o15, opt_0]; simp only [List.length_append, List.length_cons, List.length_nil, List.nil_append] at bY ⊢; omega
theorem fact_at {D : Nat} (hD : D ≤ 6) (hp : FMs d X0 Kt t D) {p a : Int} {i j1 : Nat} {c1 S C : List Int} {X : HI} (h1 : Fts t D i j1 c1) (mX : MRk t X i) (rX : RSc X0 X (opt p ++ (opt a ++ S)) 0 (6 - (D : Int)) C) (bX : C.length + (opt p ++ (opt a ++ S)).length + 1 ≤ i) (hS : SQx S) (hp' : p = 0 ∨ p = 14) (ha' : a = 0 ∨ a = 15) (np : npt t i) (k : ∀ Y : HI, MRk t Y j1 → RSc X0 Y (opt p ++ (opt a ++ S)) 0 (6 - (D : Int)) (C ++ c1) → VPx d Kt Y) : TPx d Kt X := by
  have t16 : tpn (opt p ++ (opt a ++ S)) 16 := opt_t (SQ_t hS (by decide)) (by omega) (by omega)
  refine hp i j1 c1 X _ C h1 mX rX bX ⟨opt_t (SQ_t hS (by decide)) (by omega) (by omega), opt_t (SQ_t hS (by decide)) (by omega) (by omega), opt_t (SQ_t hS (by decide)) (by omega) (by omega), opt_t (SQ_t hS (by decide)) (by omega) (by omega)⟩ (nlt_0 t16 (by omega)) np (fun Y N R e hN hR mY rY => ?_)
  cases N with
  | nil =>
    rw [List.append_nil, show 6 - (D : Int) - (([] : List Int).length : Int) = 6 - (D : Int) from by simp] at rY
    rw [List.nil_append] at e
    rw [← e] at rY
    exact k Y mY rY
  | cons x N =>
    rw [List.cons_append] at e
    exact absurd (hN x List.mem_cons_self) (t16 x _ e)
theorem TM_of {D : Nat} (ht : TKN t) (hD : D ≤ 6) (hp : FMs d X0 Kt t D) : TMs d X0 Kt t D := by
  intro L
  induction L with
  | zero => intro p a i j cs X S C h; exact h.elim
  | succ L ih =>
    intro p a i j cs X S C h mX rX bX hS hp' ha' np k
    obtain ⟨j1, c1, h1, h2⟩ := h
    have l1 := Fts_len _ _ _ _ h1
    refine fact_at hD hp h1 mX rX bX hS hp' ha' np (fun Y mY rY => ?_)
    have bY : (C ++ c1).length + (opt p ++ (opt a ++ S)).length + 1 ≤ j1 := by rw [List.length_append]; omega
    have nx := vp_next (d := d) (Kt := Kt) ht hD mY rY bY hS hp' ha'
    rcases h2 with ⟨n1, n2, e1, e2⟩ | ⟨x, c2, hx, h3, e2⟩ | ⟨x, c2, hn, hx, h3, e2⟩
    · subst e1
      exact k Y (opt p ++ opt a) (C ++ c1) mY (by rw [List.append_assoc]; exact rY) (by rw [e2, List.append_assoc]) (an_app (an_opt (by omega)) (an_opt (by omega))) n1 n2
    · have e14 : x = 14 := hx.2
      subst e14
      exact nx.1 14 hx (fun Z mZ rZ bZ npZ => ih 14 a (j1 + 1) j c2 Z S (C ++ c1 ++ opt p) h3 mZ rZ bZ hS (Or.inr rfl) ha' npZ (fun V W C' mV rV eV oV n1 n2 => k V W C' mV rV (by rw [eV, e2]; simp only [List.append_assoc]) oV n1 n2))
    · have e15 : x = 15 := hx.2
      subst e15
      exact nx.2 15 hn hx (fun Z mZ rZ bZ npZ => ih 0 15 (j1 + 1) j c2 Z S (C ++ c1 ++ (opt p ++ opt a)) h3 mZ rZ bZ hS (Or.inl rfl) (Or.inr rfl) npZ (fun V W C' mV rV eV oV n1 n2 => k V W C' mV rV (by rw [eV, e2]; simp only [List.append_assoc]) oV n1 n2))
theorem TMf_of {D : Nat} (ht : TKN t) (hD : D ≤ 6) (hp : FMs d X0 Kt t D) (hf : FMf d X0 Kt t D) : TMf d X0 Kt t D := by
  intro L
  induction L with
  | zero => intro p a i k pl X S C h; exact h.elim
  | succ L ih =>
    intro p a i k pl X S C h mX rX bX hS hp' ha' np kf
    rcases h with h | ⟨j1, c1, h1, h2⟩
    · exact hf i k pl X _ C h mX rX bX ⟨opt_t (SQ_t hS (by decide)) (by omega) (by omega), opt_t (SQ_t hS (by decide)) (by omega) (by omega), opt_t (SQ_t hS (by decide)) (by omega) (by omega), opt_t (SQ_t hS (by decide)) (by omega) (by omega)⟩ np kf
    · have l1 := Fts_len _ _ _ _ h1
      refine fact_at hD hp h1 mX rX bX hS hp' ha' np (fun Y mY rY => ?_)
      have bY : (C ++ c1).length + (opt p ++ (opt a ++ S)).length + 1 ≤ j1 := by rw [List.length_append]; omega
      have nx := vp_next (d := d) (Kt := Kt) ht hD mY rY bY hS hp' ha'
      rcases h2 with ⟨x, hx, h3⟩ | ⟨x, hn, hx, h3⟩
      · have e14 : x = 14 := hx.2
        subst e14
        exact nx.1 14 hx (fun Z mZ rZ bZ npZ => ih 14 a (j1 + 1) k pl Z S _ h3 mZ rZ bZ hS (Or.inr rfl) ha' npZ kf)
      · have e15 : x = 15 := hx.2
        subst e15
        exact nx.2 15 hn hx (fun Z mZ rZ bZ npZ => ih 0 15 (j1 + 1) k pl Z S _ h3 mZ rZ bZ hS (Or.inl rfl) (Or.inr rfl) npZ kf)
theorem an_25 {W : List Int} (h : anx W) : ∀ x ∈ W, x ≠ 25 := fun x hx => by
  rcases h x hx with u | u <;> omega
theorem tp4_c {x : Int} {T : List Int} (h : 4 < x) : tp4 (x :: T) := by
  refine ⟨?_, ?_, ?_, ?_⟩ <;> intro y R e <;> cases e <;> omega
theorem FM_of {D : Nat} (ht : TKN t) (hD : D ≤ 6) (hf : ∀ D', D = D' + 1 → FMs d X0 Kt t D') (hl : ∀ D', D = D' + 1 → TMs d X0 Kt t D') : FMs d X0 Kt t D := by
  intro i j cs X T C h mX rX bX hT nl np k
  cases D with
  | zero => exact tp_factS ht hD mX rX bX hT np h nl k
  | succ D =>
    have hi := mX.2.1
    have kk := tK_e ht hi
    have n16 := ht.1.2
    have eo : 6 - ((D + 1 : Nat) : Int) + 1 = 6 - (D : Int) := by omega
    have eo2 : 6 - (D : Int) - 1 = 6 - ((D + 1 : Nat) : Int) := by omega
    rcases h with h | ⟨c1, h18, h1, e⟩ | ⟨L, j1, s, h1, s2, e⟩
    · exact tp_factS ht hD mX rX bX hT np h nl k
    · refine tp_not ht mX rX bX h18 (by omega) (by omega) (fun _ Y mY rY => ?_) (fun u => by omega)
      rw [eo] at rY
      have nl2 := nlt_c nl
      rw [eo] at nl2
      refine hf D rfl (i + 1) j c1 Y (16 :: T) C h1 mY rY (by simp only [List.length_cons]; omega) (tp4_c (by omega)) nl2 (npt_of ht (by omega) (by omega)) (fun Z N R eN hN hR mZ rZ => ?_)
      cases N with
      | nil =>
        rw [List.nil_append] at eN
        exact absurd rfl (hR 16 T eN.symm)
      | cons x N =>
        rw [List.cons_append] at eN
        cases eN
        refine k Z N R rfl (fun y hy => hN y (List.mem_cons_of_mem _ hy)) hR mZ ?_
        rw [e, show 6 - ((D + 1 : Nat) : Int) - (N.length : Int) = 6 - (D : Int) - ((16 :: N).length : Int) from by simp only [List.length_cons]; omega]
        simpa only [List.append_assoc, List.cons_append, List.nil_append] using rZ
    · subst e
      have l1 := Lps_len (Fts_len D) _ _ _ _ _ _ h1
      rw [opt_0] at l1
      simp only [List.length_nil] at l1
      refine tp_sq ht mX rX bX s (by omega) (by omega) (fun _ Y mY rY => ?_) (fun u => by omega)
      rw [eo] at rY
      refine hl D rfl L 0 0 (i + 1) j1 cs Y (25 :: T) C h1 mY (by rw [opt_0]; exact rY) (by rw [opt_0]; simp only [List.nil_append, List.length_cons]; omega) (Or.inr ⟨T, rfl⟩) (Or.inl rfl) (Or.inl rfl) (npt_of ht (sgn_lt ht hi s) (by have := s.1; omega)) (fun Z W C' mZ rZ eZ oZ n1 n2 => ?_)
      have lz : C'.length + W.length = C.length + cs.length := by have := congrArg List.length eZ; simpa only [List.length_append] using this
      refine vp_close ht mZ rZ (by simp only [List.length_append, List.length_cons]; omega) (an_25 oZ) s2 (by omega) (by omega) (fun N R' a b => by rw [eo2]; exact nl N R' a b) (fun V N R' a b c mV rV => k V N R' a b c mV ?_)
      rw [eo2, eZ] at rV
      exact rV
theorem FMf_of {D : Nat} (ht : TKN t) (hD : D ≤ 6) (hf : ∀ D', D = D' + 1 → FMf d X0 Kt t D') (hl : ∀ D', D = D' + 1 → TMs d X0 Kt t D') (hlf : ∀ D', D = D' + 1 → TMf d X0 Kt t D') : FMf d X0 Kt t D := by
  intro i k p X T C h mX rX bX hT np kf
  cases D with
  | zero =>
    rcases h with h | ⟨h, e1, e2⟩
    · exact tp_factF ht hD mX rX bX hT np h kf
    · subst e1; subst e2
      rcases h with h | h
      · exact tp_not ht mX rX bX h (by omega) (by omega) (fun u => absurd rfl u) (fun _ Y fY => kf Y fY)
      · exact tp_sq ht mX rX bX h (by omega) (by omega) (fun u => absurd rfl u) (fun _ Y fY => kf Y fY)
  | succ D =>
    have hi := mX.2.1
    have kk := tK_e ht hi
    have n16 := ht.1.2
    have eo : 6 - ((D + 1 : Nat) : Int) + 1 = 6 - (D : Int) := by omega
    rcases h with h | ⟨h18, h1⟩ | ⟨s, h⟩
    · exact tp_factF ht hD mX rX bX hT np h kf
    · refine tp_not ht mX rX bX h18 (by omega) (by omega) (fun _ Y mY rY => ?_) (fun u => by omega)
      rw [eo] at rY
      exact hf D rfl (i + 1) k p Y (16 :: T) C h1 mY rY (by simp only [List.length_cons]; omega) (tp4_c (by omega)) (npt_of ht (by omega) (by omega)) kf
    · refine tp_sq ht mX rX bX s (by omega) (by omega) (fun _ Y mY rY => ?_) (fun u => by omega)
      rw [eo] at rY
      have npi := npt_of ht (sgn_lt ht hi s) (by have := s.1; omega)
      rcases h with ⟨L, h1⟩ | ⟨L, j1, c1, h1, ns, e1, e2⟩
      · exact hlf D rfl L 0 0 (i + 1) k p Y (25 :: T) C h1 mY (by rw [opt_0]; exact rY) (by rw [opt_0]; simp only [List.nil_append, List.length_cons]; omega) (Or.inr ⟨T, rfl⟩) (Or.inl rfl) (Or.inl rfl) npi kf
      · subst e1; subst e2
        have l1 := Lps_len (Fts_len D) _ _ _ _ _ _ h1
        rw [opt_0] at l1
        simp only [List.length_nil] at l1
        refine hl D rfl L 0 0 (i + 1) j1 c1 Y (25 :: T) C h1 mY (by rw [opt_0]; exact rY) (by rw [opt_0]; simp only [List.nil_append, List.length_cons]; omega) (Or.inr ⟨T, rfl⟩) (Or.inl rfl) (Or.inl rfl) npi (fun Z W C' mZ rZ eZ oZ n1 n2 => ?_)
        have lz : C'.length + W.length = C.length + c1.length := by have := congrArg List.length eZ; simpa only [List.length_append] using this
        have jn := mZ.2.1
        have ln : (W ++ 25 :: T).length = W.length + T.length + 1 := by simp only [List.length_append, List.length_cons]; omega
        refine vp_to ht mZ rZ (by omega) (Or.inl ns) (fun u => absurd ⟨u, rfl⟩ (n1 14)) (fun _ u => absurd ⟨u, rfl⟩ (n2 15)) (fun _ _ u => absurd (List.mem_append.mpr (Or.inr List.mem_cons_self)) u) (fun _ _ _ Z' Y' fZ z2 fY => ?_)
        have ff := FTm_of (cb := 1600) rZ fZ fY (by decide) (by omega) (by rw [z2]; have := tK_e ht jn; omega)
        exact ⟨fun _ => tp_bad (FTm_b ff) (kf Y' ff), fun z => absurd rfl z⟩
theorem TM_all (ht : TKN t) : ∀ D, D ≤ 6 → (FMs d X0 Kt t D ∧ FMf d X0 Kt t D)
  | 0, h => ⟨FM_of ht h (fun D' e => by omega) (fun D' e => by omega), FMf_of ht h (fun D' e => by omega) (fun D' e => by omega) (fun D' e => by omega)⟩
  | D + 1, h => by
    have ih := TM_all ht D (by omega)
    have t1 := TM_of (d := d) ht (by omega) ih.1
    have t2 := TMf_of (d := d) ht (by omega) ih.1 ih.2
    have c1 : ∀ D', D + 1 = D' + 1 → FMs d X0 Kt t D' := fun D' e => by
      have : D' = D := by omega
      subst this; exact ih.1
    have c2 : ∀ D', D + 1 = D' + 1 → FMf d X0 Kt t D' := fun D' e => by
      have : D' = D := by omega
      subst this; exact ih.2
    have c3 : ∀ D', D + 1 = D' + 1 → TMs d X0 Kt t D' := fun D' e => by
      have : D' = D := by omega
      subst this; exact t1
    have c4 : ∀ D', D + 1 = D' + 1 → TMf d X0 Kt t D' := fun D' e => by
      have : D' = D := by omega
      subst this; exact t2
    exact ⟨FM_of ht h c1 c3, FMf_of ht h c2 c3 c4⟩
theorem test_110 {o : Int} {CC : List Int} {j : Nat} (k : ∀ Y : HI, MRk t Y j → RSc X0 Y [] 0 o CC → Kt Y) : ∀ (W C1 : List Int) (Y : HI), C1 ++ W = CC → MRk t Y j → RSc X0 Y W 0 o C1 → C1.length + W.length ≤ 1600 → J none mX11_test (d + 9) 0 0 110 [(0, vR 489), (1, vI 0)] [] (mk Y) (PV Kt)
  | [], C1, Y, e, mY, rY, hl => by
    refine bk_X11_test_110 ?_
    rw [rY.2.1.1]
    rw [List.append_nil] at e
    exact ⟨fun z => absurd mY.2.2.1.2 z, fun _ => ⟨fun _ => PV_i (k Y mY (by rw [← e]; exact rY)), fun z => absurd (by simp) z⟩⟩
  | x :: W, C1, Y, e, mY, rY, hl => by
    have ih := fun Z => test_110 k W (C1 ++ [x]) Z (by rw [← e]; simp)
    have hl' : C1.length + (W.length + 1) ≤ 1600 := hl
    have l : Y 489 49 = (W.length : Int) + 1 := by rw [rY.2.1.1]; simp
    refine bk_X11_test_110 ?_
    rw [l]
    refine ⟨fun z => absurd mY.2.2.1.2 z, fun _ => ⟨fun z => by omega, fun _ => c11_drops (R := W) mY rY (by omega) (by omega) (fun Z mZ rZ => ?_)⟩⟩
    have := ih Z mZ rZ (by simp only [List.length_append, List.length_cons, List.length_nil] at *; omega)
    exact this
theorem c11_test {i : Nat} {X : HI} {C : List Int} (ht : TKN t) (hm : MRk t X i) (r : RSc X0 X [] 0 0 C) (bd : C.length + 1 ≤ i) (np : npt t i) : (∀ j cs, Tss t 6 i j cs → (∀ Y : HI, MRk t Y j → RSc X0 Y [] 0 0 (C ++ cs) → Kt Y) → CV mX11_test (d + 9) [vR 489] X Kt) ∧ (∀ k p, Tsf t 6 i k p → (∀ Y : HI, FTm X0 Y k p 1600 → Kt Y) → CV mX11_test (d + 9) [vR 489] X Kt) := by
  have n16 := ht.1.2
  have al := TM_all (d := d) (X0 := X0) (Kt := Kt) ht 6 (Nat.le_refl _)
  have r' : RSc X0 X (opt 0 ++ (opt 0 ++ [])) 0 (6 - ((6 : Nat) : Int)) C := r
  have bd' : C.length + (opt 0 ++ (opt 0 ++ [])).length + 1 ≤ i := bd
  refine ⟨fun j cs hs k => ?_, fun kk p hs k => ?_⟩
  · obtain ⟨L, hs⟩ := hs
    have ll := Lps_len (Fts_len 6) _ _ _ _ _ _ hs
    rw [opt_0] at ll
    simp only [List.length_nil] at ll
    refine bk_X11_test_0 (TM_of ht (Nat.le_refl _) al.1 L 0 0 i j cs X [] C hs hm r' bd' (Or.inl rfl) (Or.inl rfl) (Or.inl rfl) np (fun Y W C' mY rY eY oY n1 n2 => ?_))
    have lY : C'.length + W.length = C.length + cs.length := by have := congrArg List.length eY; simpa only [List.length_append] using this
    have jn := mY.2.1
    rw [List.append_nil] at rY
    have n25 : ¬ 25 ∈ W := fun u => absurd rfl (an_25 oY 25 u)
    refine vp_to ht mY rY (by omega) (Or.inr n25) (fun u => absurd ⟨u, rfl⟩ (n1 14)) (fun _ u => absurd ⟨u, rfl⟩ (n2 15)) (fun _ _ _ Z mZ rZ => ⟨fun _ => bk_X11_test_2 ⟨fun _ => test_110 k W C' Z eY mZ rZ (by omega), fun z => absurd rfl z⟩, fun z => absurd rfl z⟩) (fun _ _ u => absurd u n25)
  · obtain ⟨L, hs⟩ := hs
    exact bk_X11_test_0 (TMf_of ht (Nat.le_refl _) al.1 al.2 L 0 0 i kk p X [] C hs hm r' bd' (Or.inl rfl) (Or.inl rfl) (Or.inl rfl) np k)
end MT3
