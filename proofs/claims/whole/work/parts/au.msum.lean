def tp4 (S : List Int) : Prop := tpn S 1 ∧ tpn S 2 ∧ tpn S 3 ∧ tpn S 4
def BSx (b : Nat) (S : List Int) : Prop := (∃ (m : Int) (R : List Int), S = m :: R ∧ mkx m ∧ b ≤ R.length) ∨ (S.length = b ∧ tp4 S)
def opx (W : List Int) : Prop := ∀ x ∈ W, 1 ≤ x ∧ x ≤ 4
theorem BSx_t {b : Nat} {S : List Int} (h : BSx b S) : tp4 S := by
  rcases h with ⟨m, R, e, hm, _⟩ | h
  · unfold mkx at hm
    refine ⟨?_, ?_, ?_, ?_⟩ <;> intro x R' e' <;> rw [e] at e' <;> cases e' <;> omega
  · exact h.2
theorem opx_m {W : List Int} (h : opx W) : ∀ x ∈ W, ¬ mkx x := fun x hx => by
  have := h x hx
  unfold mkx
  omega
theorem opx_opt {p : Int} (h : p = 0 ∨ (1 ≤ p ∧ p ≤ 4)) : opx (opt p) := by
  intro x hx
  by_cases e : p = 0
  · rw [e, opt_0] at hx
    cases hx
  · rw [opt_n e] at hx
    simp only [List.mem_singleton] at hx
    omega
theorem opx_app {U V : List Int} (h : opx U) (g : opx V) : opx (U ++ V) := fun x hx => by
  rcases List.mem_append.mp hx with w | w
  · exact h x w
  · exact g x w
theorem tpn_opt {a : Int} {S : List Int} {y : Int} (h : tpn S y) (ne : a ≠ y) : tpn (opt a ++ S) y := by
  by_cases e : a = 0
  · rw [e, opt_0, List.nil_append]
    exact h
  · rw [opt_n e]
    intro x R e'
    cases e'
    exact ne
theorem FTm_mono {X0 Y : HI} {k p cb cb' : Int} (h : FTm X0 Y k p cb) (l : cb ≤ cb') : FTm X0 Y k p cb' := ⟨h.1, h.2.1, ⟨h.2.2.1.1, by have := h.2.2.1.2; omega⟩, h.2.2.2⟩
theorem NU_x {t : Txt} {i : Nat} {lo hi v k p : Int} (h : NUs t i lo hi v) (g : NUf t i lo hi k p) : False := by
  obtain ⟨h1, h2, h3, h4⟩ := h
  rcases g with u | u | u
  · exact u.1 h1
  · omega
  · rw [← h3] at u
    exact u.2.2.1 h4
section MU
variable {d : Nat} {X0 : HI} {Kp : HI → Prop} {Kg : Int → HI → Prop} {t : Txt} {b q : Nat}
theorem MKV_x {S W : List Int} {o : Int} {C : List Int} (h : BSx b S) (hw : ∀ x ∈ W, ¬ mkx x) (l : (W ++ S).length ≤ 1700) : ∃ mv, MKV d X0 (W ++ S) b o C mv := by
  rcases h with ⟨m, R, e, hm, hb⟩ | h
  · rw [e] at l ⊢
    exact ⟨m, MKV_m l hm hb hw⟩
  · exact ⟨-1, MKV_n l h.1.symm hw⟩
def PMs (d : Nat) (X0 : HI) (Kp : HI → Prop) (Kg : Int → HI → Prop) (t : Txt) (b q D : Nat) : Prop := ∀ (i j : Nat) (cs : List Int) (X : HI) (T C : List Int), Pts t D i j cs → MRk t X i → RSc X0 X T b (6 - (D : Int)) C → C.length + T.length + q ≤ i → b ≤ T.length → npt t i → (∀ Y : HI, MRk t Y j → RSc X0 Y T b (6 - (D : Int)) (C ++ cs) → GPx d Kg Y) → PPx d Kp X
def LMs (d : Nat) (X0 : HI) (Kp : HI → Prop) (Kg : Int → HI → Prop) (t : Txt) (b q D : Nat) : Prop := ∀ (L : Nat) (p a : Int) (i j : Nat) (cs : List Int) (X : HI) (S C : List Int), Lps (Pts t D) (mop t) (aop t) L p a i j cs → MRk t X i → RSc X0 X (opt p ++ (opt a ++ S)) b (6 - (D : Int)) C → C.length + (opt p ++ (opt a ++ S)).length + q ≤ i → BSx b S → (p = 0 ∨ p = 3 ∨ p = 4) → (a = 0 ∨ a = 1 ∨ a = 2) → npt t i → (∀ (Y : HI) (W C' : List Int), MRk t Y j → RSc X0 Y (W ++ S) b (6 - (D : Int)) C' → C' ++ W = C ++ cs → opx W → (∀ q, ¬ mop t j q) → (∀ q, ¬ aop t j q) → GPx d Kg Y) → PPx d Kp X
def PMf (d : Nat) (X0 : HI) (Kp : HI → Prop) (Kg : Int → HI → Prop) (t : Txt) (b q D : Nat) : Prop := ∀ (i : Nat) (k p : Int) (X : HI) (T C : List Int), Ptf t D i k p → MRk t X i → RSc X0 X T b (6 - (D : Int)) C → C.length + T.length + q ≤ i → b ≤ T.length → npt t i → (∀ Y : HI, FTm X0 Y k p (1601 - (q : Int)) → Kp Y ∧ Kg 0 Y) → PPx d Kp X
def LMf (d : Nat) (X0 : HI) (Kp : HI → Prop) (Kg : Int → HI → Prop) (t : Txt) (b q D : Nat) : Prop := ∀ (L : Nat) (p a : Int) (i : Nat) (k pl : Int) (X : HI) (S C : List Int), Lpf (Pts t D) (Ptf t D) (mop t) (aop t) L p a i k pl → MRk t X i → RSc X0 X (opt p ++ (opt a ++ S)) b (6 - (D : Int)) C → C.length + (opt p ++ (opt a ++ S)).length + q ≤ i → BSx b S → (p = 0 ∨ p = 3 ∨ p = 4) → (a = 0 ∨ a = 1 ∨ a = 2) → npt t i → (∀ Y : HI, FTm X0 Y k pl (1601 - (q : Int)) → Kp Y ∧ Kg 0 Y) → PPx d Kp X
theorem mop_q {j : Nat} {x : Int} (h : mop t j x) : (x = 3 ∨ x = 4) ∧ uK t j = 29 := by
  rcases h with u | u
  · exact ⟨Or.inl u.2, u.1.1⟩
  · exact ⟨Or.inr u.2, u.1.1⟩
theorem aop_q {j : Nat} {x : Int} (h : aop t j x) : (x = 1 ∨ x = 2) ∧ uK t j = 29 := by
  rcases h with u | u
  · exact ⟨Or.inl u.2, u.1.1⟩
  · exact ⟨Or.inr u.2, u.1.1⟩
theorem BSx_l {S : List Int} (h : BSx b S) : b ≤ S.length := by
  rcases h with ⟨m, R, e, _, hb⟩ | h
  · rw [e, List.length_cons]; omega
  · omega
/-- behind a part: the next one -/
theorem go_next {D : Nat} (ht : TKN t) (hG : ∀ Y : HI, Y 489 5 = 0 → PPx d Kp Y → Kg 1 Y) {p a : Int} {j1 : Nat} {c1 S C : List Int} {Y : HI} (q1 : 1 ≤ q) (mY : MRk t Y j1) (rY : RSc X0 Y (opt p ++ (opt a ++ S)) b (6 - (D : Int)) (C ++ c1)) (bY : (C ++ c1).length + (opt p ++ (opt a ++ S)).length + q ≤ j1) (hS : BSx b S) (hp : p = 0 ∨ p = 3 ∨ p = 4) (ha : a = 0 ∨ a = 1 ∨ a = 2) (x : Int) : (mop t j1 x → (∀ Z : HI, MRk t Z (j1 + 1) → RSc X0 Z (opt x ++ (opt a ++ S)) b (6 - (D : Int)) (C ++ c1 ++ opt p) → (C ++ c1 ++ opt p).length + (opt x ++ (opt a ++ S)).length + q ≤ j1 + 1 → npt t (j1 + 1) → PPx d Kp Z) → GPx d Kg Y) ∧ ((∀ y, ¬ mop t j1 y) → aop t j1 x → (∀ Z : HI, MRk t Z (j1 + 1) → RSc X0 Z (opt 0 ++ (opt x ++ S)) b (6 - (D : Int)) (C ++ c1 ++ (opt p ++ opt a)) → (C ++ c1 ++ (opt p ++ opt a)).length + (opt 0 ++ (opt x ++ S)).length + q ≤ j1 + 1 → npt t (j1 + 1) → PPx d Kp Z) → GPx d Kg Y) := by
  have n16 := ht.1.2
  have jn := mY.2.1
  have kk := tK_e ht jn
  have tS4 := BSx_t hS
  have opp : opx (opt p) := opx_opt (by omega)
  have opa : opx (opt a) := opx_opt (by omega)
  refine ⟨fun hx k => ?_, fun hn hx k => ?_⟩
  · obtain ⟨x34, xk⟩ := mop_q hx
    have o1 : opt x = [x] := opt_n (by omega)
    obtain ⟨mv, hv⟩ := MKV_x (d := d) (X0 := X0) (o := 6 - (D : Int)) (C := C ++ c1) (W := opt p ++ opt a) hS (opx_m (opx_app opp opa)) (by rw [List.append_assoc]; omega)
    rw [List.append_assoc] at hv
    refine gp_m ht mY rY hv (by omega) (fun y hy => ?_) (tpn_opt tS4.2.2.1 (by omega)) (tpn_opt tS4.2.2.2 (by omega)) hx (fun Z mZ rZ => hG Z mZ.2.2.1.2 (k Z mZ (by rw [o1]; exact rZ) ?_ (npt_of ht (by omega) (by omega))))
    · have := opp y hy
      by_cases e : p = 0
      · rw [e, opt_0] at hy; cases hy
      · rw [opt_n e] at hy
        simp only [List.mem_singleton] at hy
        omega
    · rw [o1]; simp only [List.length_append, List.length_cons, List.length_nil] at bY ⊢; omega
  · obtain ⟨x12, xk⟩ := aop_q hx
    have o1 : opt x = [x] := opt_n (by omega)
    rw [← List.append_assoc] at rY
    obtain ⟨mv, hv⟩ := MKV_x (d := d) (X0 := X0) (o := 6 - (D : Int)) (C := C ++ c1) (W := opt p ++ opt a) hS (opx_m (opx_app opp opa)) (by rw [List.append_assoc]; omega)
    refine gp_a ht mY rY hv (by rw [List.append_assoc]; omega) (opx_app opp opa) tS4.1 tS4.2.1 tS4.2.2.1 tS4.2.2.2 hn hx (fun Z mZ rZ => hG Z mZ.2.2.1.2 (k Z mZ (by rw [o1, opt_0]; exact rZ) ?_ (npt_of ht (by omega) (by omega))))
    rw [o1, opt_0]; simp only [List.length_append, List.length_cons, List.length_nil, List.nil_append] at bY ⊢; omega
theorem LM_of {D : Nat} (ht : TKN t) (q1 : 1 ≤ q) (hG : ∀ Y : HI, Y 489 5 = 0 → PPx d Kp Y → Kg 1 Y) (hp : PMs d X0 Kp Kg t b q D) : LMs d X0 Kp Kg t b q D := by
  intro L
  induction L with
  | zero => intro p a i j cs X S C h; exact h.elim
  | succ L ih =>
    intro p a i j cs X S C h mX rX bX hS hp' ha' np k
    obtain ⟨j1, c1, h1, h2⟩ := h
    have l1 := Pts_len _ _ _ _ h1
    refine hp i j1 c1 X _ C h1 mX rX bX (by have := BSx_l hS; simp only [List.length_append]; omega) np (fun Y mY rY => ?_)
    have bY : (C ++ c1).length + (opt p ++ (opt a ++ S)).length + q ≤ j1 := by rw [List.length_append]; omega
    have nx := fun x => go_next ht hG q1 mY rY bY hS hp' ha' x
    rcases h2 with ⟨n1, n2, e1, e2⟩ | ⟨x, c2, hx, h3, e2⟩ | ⟨x, c2, hn, hx, h3, e2⟩
    · subst e1
      refine k Y (opt p ++ opt a) (C ++ c1) mY (by rw [List.append_assoc]; exact rY) (by rw [e2, List.append_assoc]) (opx_app (opx_opt (by omega)) (opx_opt (by omega))) n1 n2
    · refine (nx x).1 hx (fun Z mZ rZ bZ npZ => ih x a (j1 + 1) j c2 Z S (C ++ c1 ++ opt p) h3 mZ rZ bZ hS (by have := (mop_q hx).1; omega) ha' npZ (fun V W C' mV rV eV oV n1 n2 => k V W C' mV rV (by rw [eV, e2]; simp only [List.append_assoc]) oV n1 n2))
    · refine (nx x).2 hn hx (fun Z mZ rZ bZ npZ => ih 0 x (j1 + 1) j c2 Z S (C ++ c1 ++ (opt p ++ opt a)) h3 mZ rZ bZ hS (Or.inl rfl) (by have := (aop_q hx).1; omega) npZ (fun V W C' mV rV eV oV n1 n2 => k V W C' mV rV (by rw [eV, e2]; simp only [List.append_assoc]) oV n1 n2))
theorem LMf_of {D : Nat} (ht : TKN t) (q1 : 1 ≤ q) (hG : ∀ Y : HI, Y 489 5 = 0 → PPx d Kp Y → Kg 1 Y) (hp : PMs d X0 Kp Kg t b q D) (hf : PMf d X0 Kp Kg t b q D) : LMf d X0 Kp Kg t b q D := by
  intro L
  induction L with
  | zero => intro p a i k pl X S C h; exact h.elim
  | succ L ih =>
    intro p a i k pl X S C h mX rX bX hS hp' ha' np kf
    have bl : b ≤ (opt p ++ (opt a ++ S)).length := by have := BSx_l hS; simp only [List.length_append]; omega
    rcases h with h | ⟨j1, c1, h1, h2⟩
    · exact hf i k pl X _ C h mX rX bX bl np kf
    · have l1 := Pts_len _ _ _ _ h1
      refine hp i j1 c1 X _ C h1 mX rX bX bl np (fun Y mY rY => ?_)
      have bY : (C ++ c1).length + (opt p ++ (opt a ++ S)).length + q ≤ j1 := by rw [List.length_append]; omega
      have nx := fun x => go_next ht hG q1 mY rY bY hS hp' ha' x
      rcases h2 with ⟨x, hx, h3⟩ | ⟨x, hn, hx, h3⟩
      · exact (nx x).1 hx (fun Z mZ rZ bZ npZ => ih x a (j1 + 1) k pl Z S _ h3 mZ rZ bZ hS (by have := (mop_q hx).1; omega) ha' npZ kf)
      · exact (nx x).2 hn hx (fun Z mZ rZ bZ npZ => ih 0 x (j1 + 1) k pl Z S _ h3 mZ rZ bZ hS (Or.inl rfl) (by have := (aop_q hx).1; omega) npZ kf)
theorem PM_b {D : Nat} (ht : TKN t) (q1 : 1 ≤ q) (hP : ∀ Y : HI, Y 489 5 = 0 → GPx d Kg Y → Kp Y) {i j : Nat} {cs : List Int} {X : HI} {T C : List Int} (h : Smp t i j cs) (mX : MRk t X i) (rX : RSc X0 X T b (6 - (D : Int)) C) (bX : C.length + T.length + q ≤ i) (np : npt t i) (k : ∀ Y : HI, MRk t Y j → RSc X0 Y T b (6 - (D : Int)) (C ++ cs) → GPx d Kg Y) : PPx d Kp X := by
  obtain ⟨ej, h⟩ := h
  subst ej
  rcases h with ⟨a, ha, e⟩ | ⟨v, hv, e⟩
  · subst e
    have hk := ha.1.1
    refine pp_one ht mX rX bX q1 (fun u => by have := u.1; omega) np (by omega) (by omega) (fun a' Y ha' mY rY => hP Y mY.2.2.1.2 (k Y mY ?_)) (fun v Y hv => by have := hv.1.1; omega) (fun k p Y nk => absurd hk nk)
    rw [ha.2, ← ha'.2]
    exact rY
  · subst e
    have hk := hv.1.1
    refine pp_one ht mX rX bX q1 (fun u => by have := u.1; omega) np (by omega) (by omega) (fun a' Y ha' => by have := ha'.1.1; omega) (fun v' Y hv' mY rY => hP Y mY.2.2.1.2 (k Y mY ?_)) (fun k p Y nk hf => (NU_x hv hf).elim)
    rw [hv.2.2.1, ← hv'.2.2.1]
    exact rY
theorem PM_of {D : Nat} (ht : TKN t) (hD : D ≤ 6) (q1 : 1 ≤ q) (hP : ∀ Y : HI, Y 489 5 = 0 → GPx d Kg Y → Kp Y) (hG : ∀ Y : HI, Y 489 5 = 0 → PPx d Kp Y → Kg 1 Y) (hl : ∀ D', D = D' + 1 → LMs d X0 Kp Kg t b q D') : PMs d X0 Kp Kg t b q D := by
  intro i j cs X T C h mX rX bX bT np k
  cases D with
  | zero => exact PM_b ht q1 hP h mX rX bX np k
  | succ D =>
    have hi := mX.2.1
    have n16 := ht.1.2
    have eo : 6 - ((D + 1 : Nat) : Int) + 1 = 6 - (D : Int) := by omega
    have eo2 : 6 - (D : Int) - 1 = 6 - ((D + 1 : Nat) : Int) := by omega
    have mk20 : ∀ m : Int, 20 ≤ m → m ≤ 24 → BSx b (m :: T) := fun m a1 a2 => Or.inl ⟨m, T, rfl, ⟨a1, a2⟩, bT⟩
    rcases h with h | ⟨L, j1, s, h1, s2, e⟩ | ⟨x, L1, j1, c1, L2, j2, c2, hx, s, h1, s44, h2, s41, e, e2⟩
    · exact PM_b ht q1 hP h mX rX bX np k
    · subst e
      have l1 := Lps_len (Pts_len D) _ _ _ _ _ _ h1
      rw [opt_0] at l1
      simp only [List.length_nil] at l1
      refine pp_open ht mX rX bX s (by omega) (by omega) q1 (fun _ Y mY rY => ?_) (fun u => by omega)
      rw [eo] at rY
      refine hl D rfl L 0 0 (i + 1) j1 cs Y (20 :: T) C h1 mY (by rw [opt_0]; exact rY) (by rw [opt_0]; simp only [List.nil_append, List.length_cons]; omega) (mk20 20 (by omega) (by omega)) (Or.inl rfl) (Or.inl rfl) (npt_of ht (sgn_lt ht hi s) (by have := s.1; omega)) (fun Z W C' mZ rZ eZ oZ n1 n2 => ?_)
      have lz : C'.length + W.length = C.length + cs.length := by have := congrArg List.length eZ; simpa only [List.length_append] using this
      refine gp_close ht mZ rZ (by simp only [List.length_append, List.length_cons]; omega) (Or.inl rfl) bT (opx_m oZ) (by omega) (by omega) s2 (fun V mV rV => k V mV ?_)
      rw [eo2, eZ] at rV
      unfold clc at rV
      rw [if_pos rfl, List.append_nil] at rV
      exact rV
    · subst e
      have l1 := Lps_len (Pts_len D) _ _ _ _ _ _ h1
      have l2 := Lps_len (Pts_len D) _ _ _ _ _ _ h2
      rw [opt_0] at l1 l2
      simp only [List.length_nil] at l1 l2
      have x56 : x = 5 ∨ x = 6 := by have := hx.1.1; have := hx.2; omega
      refine pp_mm ht mX rX bX hx (by omega) (by omega) q1 (fun _ _ Y mY rY => ?_) (fun _ u => by omega) (fun u => absurd s u)
      rw [eo] at rY
      have i1 : i + 1 < uN t := sgn_lt ht (by have := mY.2.1; omega) s
      refine hl D rfl L1 0 0 (i + 2) j1 c1 Y ((x + 16) :: T) C h1 mY (by rw [opt_0]; exact rY) (by rw [opt_0]; simp only [List.nil_append, List.length_cons]; omega) (mk20 _ (by omega) (by omega)) (Or.inl rfl) (Or.inl rfl) (npt_of ht i1 (by have := s.1; omega)) (fun Z W C' mZ rZ eZ oZ n1 n2 => ?_)
      have lz : C'.length + W.length = C.length + c1.length := by have := congrArg List.length eZ; simpa only [List.length_append] using this
      refine gp_comma ht mZ rZ (by simp only [List.length_append, List.length_cons]; omega) (by omega) bT (opx_m oZ) n1 n2 (fun _ V mV rV => hG V mV.2.2.1.2 ?_) (fun u => absurd s44 u)
      rw [eZ] at rV
      refine hl D rfl L2 0 0 (j1 + 1) j2 c2 V ((x + 16 + 2) :: T) (C ++ c1) h2 mV (by rw [opt_0]; exact rV) (by rw [opt_0]; simp only [List.nil_append, List.length_cons, List.length_append]; omega) (mk20 _ (by omega) (by omega)) (Or.inl rfl) (Or.inl rfl) (npt_of ht (sgn_lt ht mZ.2.1 s44) (by have := s44.1; omega)) (fun U W2 C2 mU rU eU oU n1 n2 => ?_)
      have lu : C2.length + W2.length = C.length + c1.length + c2.length := by have := congrArg List.length eU; simpa only [List.length_append] using this
      refine gp_close ht mU rU (by simp only [List.length_append, List.length_cons]; omega) (by omega) bT (opx_m oU) (by omega) (by omega) s41 (fun P mP rP => k P mP ?_)
      have ec : clc (x + 16 + 2) = [x] := by
        unfold clc
        rcases x56 with u | u <;> subst u <;> rfl
      rw [eo2, eU, ec] at rP
      rw [e2]
      simpa only [List.append_assoc] using rP
theorem PMf_b {D : Nat} (ht : TKN t) (hD : D ≤ 6) (q1 : 1 ≤ q) {i : Nat} {k p : Int} {X : HI} {T C : List Int} (h : Pbf t i k p) (mX : MRk t X i) (rX : RSc X0 X T b (6 - (D : Int)) C) (bX : C.length + T.length + q ≤ i) (np : npt t i) (kf : ∀ Y : HI, FTm X0 Y k p (1601 - (q : Int)) → Kp Y ∧ Kg 0 Y) : PPx d Kp X := by
  rcases h with ⟨n40, nk, hf⟩ | ⟨⟨x, hx⟩, ns, e1, e2⟩
  · exact pp_one ht mX rX bX q1 n40 np (by omega) (by omega) (fun a Y ha => by have := ha.1.1; omega) (fun v Y hv => (NU_x hv hf).elim) (fun k' p' Y _ hf' fY => (kf Y (by
      have : k' = k ∧ p' = p := by
        rcases hf with u | u | u
        · rcases hf' with v | v | v
          · omega
          · exact absurd v.1 u.1
          · exact absurd v.1 u.1
        · rcases hf' with v | v | v
          · exact absurd u.1 v.1
          · omega
          · omega
        · rcases hf' with v | v | v
          · exact absurd u.1 v.1
          · omega
          · have := u.2.2.2; have := v.2.2.2; omega
      rw [← this.1, ← this.2]; exact fY)).1)
  · subst e1; subst e2
    exact pp_mm ht mX rX bX hx (by omega) (by omega) q1 (fun u => absurd u ns) (fun u => absurd u ns) (fun _ Y fY => (kf Y fY).1)
theorem PMf_of {D : Nat} (ht : TKN t) (hD : D ≤ 6) (q1 : 1 ≤ q) (hG : ∀ Y : HI, Y 489 5 = 0 → PPx d Kp Y → Kg 1 Y) (hl : ∀ D', D = D' + 1 → LMs d X0 Kp Kg t b q D') (hlf : ∀ D', D = D' + 1 → LMf d X0 Kp Kg t b q D') : PMf d X0 Kp Kg t b q D := by
  intro i k p X T C h mX rX bX bT np kf
  cases D with
  | zero =>
    rcases h with h | ⟨s, e1, e2⟩ | ⟨⟨x, hx⟩, s, e1, e2⟩
    · exact PMf_b ht hD q1 h mX rX bX np kf
    · subst e1; subst e2
      exact pp_open ht mX rX bX s (by omega) (by omega) q1 (fun u => absurd rfl u) (fun _ Y fY => (kf Y fY).1)
    · subst e1; subst e2
      exact pp_mm ht mX rX bX hx (by omega) (by omega) q1 (fun _ u => absurd rfl u) (fun _ _ Y fY => (kf Y fY).1) (fun u => absurd s u)
  | succ D =>
    have hi := mX.2.1
    have n16 := ht.1.2
    have eo : 6 - ((D + 1 : Nat) : Int) + 1 = 6 - (D : Int) := by omega
    have mk20 : ∀ m : Int, 20 ≤ m → m ≤ 24 → BSx b (m :: T) := fun m a1 a2 => Or.inl ⟨m, T, rfl, ⟨a1, a2⟩, bT⟩
    rcases h with h | ⟨s, h⟩ | ⟨⟨x, hx⟩, s, h⟩
    · exact PMf_b ht hD q1 h mX rX bX np kf
    · refine pp_open ht mX rX bX s (by omega) (by omega) q1 (fun _ Y mY rY => ?_) (fun u => by omega)
      rw [eo] at rY
      have npi := npt_of ht (sgn_lt ht hi s) (by have := s.1; omega)
      rcases h with ⟨L, h1⟩ | ⟨L, j1, c1, h1, ns, e1, e2⟩
      · exact hlf D rfl L 0 0 (i + 1) k p Y (20 :: T) C h1 mY (by rw [opt_0]; exact rY) (by rw [opt_0]; simp only [List.nil_append, List.length_cons]; omega) (mk20 20 (by omega) (by omega)) (Or.inl rfl) (Or.inl rfl) npi kf
      · subst e1; subst e2
        have l1 := Lps_len (Pts_len D) _ _ _ _ _ _ h1
        rw [opt_0] at l1
        simp only [List.length_nil] at l1
        refine hl D rfl L 0 0 (i + 1) j1 c1 Y (20 :: T) C h1 mY (by rw [opt_0]; exact rY) (by rw [opt_0]; simp only [List.nil_append, List.length_cons]; omega) (mk20 20 (by omega) (by omega)) (Or.inl rfl) (Or.inl rfl) npi (fun Z W C' mZ rZ eZ oZ n1 n2 => ?_)
        have lz : C'.length + W.length = C.length + c1.length := by have := congrArg List.length eZ; simpa only [List.length_append] using this
        have jn := mZ.2.1
        exact gp_no ht mZ rZ (by simp only [List.length_append, List.length_cons]; omega) (Or.inl rfl) bT (opx_m oZ) n1 n2 ns (fun V fV => (kf V (FTm_mono fV (by omega))).2)
    · have x56 : x = 5 ∨ x = 6 := by have := hx.1.1; have := hx.2; omega
      refine pp_mm ht mX rX bX hx (by omega) (by omega) q1 (fun _ _ Y mY rY => ?_) (fun _ u => by omega) (fun u => absurd s u)
      rw [eo] at rY
      have i1 : i + 1 < uN t := sgn_lt ht (by have := mY.2.1; omega) s
      have npi := npt_of ht i1 (by have := s.1; omega)
      rcases h with ⟨L, h1⟩ | ⟨L, j1, c1, h1, h⟩
      · exact hlf D rfl L 0 0 (i + 2) k p Y ((x + 16) :: T) C h1 mY (by rw [opt_0]; exact rY) (by rw [opt_0]; simp only [List.nil_append, List.length_cons]; omega) (mk20 _ (by omega) (by omega)) (Or.inl rfl) (Or.inl rfl) npi kf
      · have l1 := Lps_len (Pts_len D) _ _ _ _ _ _ h1
        rw [opt_0] at l1
        simp only [List.length_nil] at l1
        refine hl D rfl L 0 0 (i + 2) j1 c1 Y ((x + 16) :: T) C h1 mY (by rw [opt_0]; exact rY) (by rw [opt_0]; simp only [List.nil_append, List.length_cons]; omega) (mk20 _ (by omega) (by omega)) (Or.inl rfl) (Or.inl rfl) npi (fun Z W C' mZ rZ eZ oZ n1 n2 => ?_)
        have lz : C'.length + W.length = C.length + c1.length := by have := congrArg List.length eZ; simpa only [List.length_append] using this
        have jn := mZ.2.1
        refine gp_comma ht mZ rZ (by simp only [List.length_append, List.length_cons]; omega) (by omega) bT (opx_m oZ) n1 n2 (fun s44 V mV rV => hG V mV.2.2.1.2 ?_) (fun u V fV => ?_)
        · rw [eZ] at rV
          have npj := npt_of ht (sgn_lt ht mZ.2.1 s44) (by have := s44.1; omega)
          rcases h with ⟨ns, _, _⟩ | ⟨_, ⟨L2, h2⟩ | ⟨L2, j2, c2, h2, ns, e1, e2⟩⟩
          · exact absurd s44 ns
          · exact hlf D rfl L2 0 0 (j1 + 1) k p V ((x + 16 + 2) :: T) (C ++ c1) h2 mV (by rw [opt_0]; exact rV) (by rw [opt_0]; simp only [List.nil_append, List.length_cons, List.length_append]; omega) (mk20 _ (by omega) (by omega)) (Or.inl rfl) (Or.inl rfl) npj kf
          · subst e1; subst e2
            have l2 := Lps_len (Pts_len D) _ _ _ _ _ _ h2
            rw [opt_0] at l2
            simp only [List.length_nil] at l2
            refine hl D rfl L2 0 0 (j1 + 1) j2 c2 V ((x + 16 + 2) :: T) (C ++ c1) h2 mV (by rw [opt_0]; exact rV) (by rw [opt_0]; simp only [List.nil_append, List.length_cons, List.length_append]; omega) (mk20 _ (by omega) (by omega)) (Or.inl rfl) (Or.inl rfl) npj (fun U W2 C2 mU rU eU oU n1 n2 => ?_)
            have lu : C2.length + W2.length = C.length + c1.length + c2.length := by have := congrArg List.length eU; simpa only [List.length_append] using this
            have j2n := mU.2.1
            exact gp_no ht mU rU (by simp only [List.length_append, List.length_cons]; omega) (by omega) bT (opx_m oU) n1 n2 ns (fun V fV => (kf V (FTm_mono fV (by omega))).2)
        · rcases h with ⟨_, e1, e2⟩ | ⟨s44, _⟩
          · subst e1; subst e2
            exact (kf V (FTm_mono fV (by omega))).2
          · exact absurd s44 u
theorem LM_all (ht : TKN t) (q1 : 1 ≤ q) (hP : ∀ Y : HI, Y 489 5 = 0 → GPx d Kg Y → Kp Y) (hG : ∀ Y : HI, Y 489 5 = 0 → PPx d Kp Y → Kg 1 Y) : ∀ D, D ≤ 6 → LMs d X0 Kp Kg t b q D ∧ LMf d X0 Kp Kg t b q D
  | 0, h => by
    have p := PM_of (D := 0) (X0 := X0) (b := b) ht h q1 hP hG (fun D' e => by omega)
    exact ⟨LM_of ht q1 hG p, LMf_of ht q1 hG p (PMf_of ht h q1 hG (fun D' e => by omega) (fun D' e => by omega))⟩
  | D + 1, h => by
    have ih := LM_all ht q1 hP hG D (by omega)
    have e1 : ∀ D', D + 1 = D' + 1 → LMs d X0 Kp Kg t b q D' := fun D' e => by
      have : D' = D := by omega
      subst this; exact ih.1
    have e2 : ∀ D', D + 1 = D' + 1 → LMf d X0 Kp Kg t b q D' := fun D' e => by
      have : D' = D := by omega
      subst this; exact ih.2
    have p := PM_of (D := D + 1) (X0 := X0) (b := b) ht h q1 hP hG e1
    exact ⟨LM_of ht q1 hG p, LMf_of ht q1 hG p (PMf_of ht h q1 hG e1 e2)⟩
end MU
