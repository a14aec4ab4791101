def clp (v : Int) : Int := if 1000000 < v then 1000000 else if v < -1000000 then -1000000 else v
def fdv (a b : Int) : Int := if b = 0 then 0 else if (a < 0 ↔ b < 0) ∨ a.tdiv b * b = a then a.tdiv b else a.tdiv b - 1
/-- what an operator of the custom makes of two values -/
def opv (x a b : Int) : Int :=
  if x = 1 then clp (a + b) else if x = 2 then clp (a - b) else if x = 3 then clp (a * b) else if x = 4 then fdv a b
  else if x = 5 then (if a < b then a else b) else if x = 6 then (if b < a then a else b)
  else if x = 11 then (if a < b then 1 else 0) else if x = 12 then (if b < a then 1 else 0) else if x = 13 then (if a = b then 1 else 0)
  else if x = 14 then a * b else (if 0 < a + b then 1 else 0)
/-- a code of the model as the class has it -/
def tr (x : Int) : Int :=
  if 1000 ≤ x then x - 1000 else if x = 17 then 1 else if 7 ≤ x ∧ x ≤ 10 then 6 - x else if x = 18 then -5
  else if 1 ≤ x ∧ x ≤ 6 then -5 - x else if 11 ≤ x ∧ x ≤ 13 then -1 - x else if x = 16 then -15 else if x = 14 then -16 else -17
/-- codes that can be run: true stands for a test, false for a sum -/
def wt : List Int → List Bool → Prop
  | [], τ => τ = [true]
  | x :: c, τ =>
    if 1000 ≤ x then x ≤ 10999 ∧ τ.length < 64 ∧ wt c (false :: τ)
    else if x = 17 then τ.length < 64 ∧ wt c (true :: τ)
    else if (7 ≤ x ∧ x ≤ 10) ∨ x = 18 then τ.length < 64 ∧ wt c (false :: τ)
    else if x = 16 then ∃ τ', τ = true :: τ' ∧ wt c (true :: τ')
    else if 1 ≤ x ∧ x ≤ 6 then ∃ τ', τ = false :: false :: τ' ∧ wt c (false :: τ')
    else if 11 ≤ x ∧ x ≤ 13 then ∃ τ', τ = false :: false :: τ' ∧ wt c (true :: τ')
    else if x = 14 ∨ x = 15 then ∃ τ', τ = true :: true :: τ' ∧ wt c (true :: τ')
    else False
def tvs : List Bool → List Int → Prop
  | [], [] => True
  | t :: τ, v :: st => (if t then v = 0 ∨ v = 1 else -1000000 ≤ v ∧ v ≤ 1000000) ∧ tvs τ st
  | _, _ => False
def st1 (f : Nat → Int) (x : Int) (st : List Int) : List Int :=
  if 1000 ≤ x then (x - 1000) :: st else if x = 17 then 1 :: st else if 7 ≤ x ∧ x ≤ 10 then f (x - 7).toNat :: st else if x = 18 then f 4 :: st
  else if x = 16 then (match st with | b :: r => (1 - b) :: r | [] => [])
  else (match st with | b :: a :: r => opv x a b :: r | r => r)
def evs (f : Nat → Int) : List Int → List Int → List Int
  | [], st => st
  | x :: c, st => evs f c (st1 f x st)
def skA (A : Nat → Int) : List Int → Prop
  | [] => True
  | v :: r => A r.length = v ∧ skA A r
theorem tvs_len : ∀ (τ : List Bool) (st : List Int), tvs τ st → st.length = τ.length
  | [], [], h => rfl
  | [], v :: st, h => by simp [tvs] at h
  | t :: τ, [], h => by simp [tvs] at h
  | t :: τ, v :: st, h => by
    have := tvs_len τ st h.2
    simp only [List.length_cons]
    omega
theorem skA_fr {A B : Nat → Int} : ∀ (st : List Int), skA A st → (∀ j, j < st.length → B j = A j) → skA B st
  | [], h, e => trivial
  | v :: r, h, e => ⟨by rw [e r.length (by simp)]; exact h.1, skA_fr r h.2 (fun j hj => e j (by simp; omega))⟩
theorem skA_up {I : HI} {k : Nat} {v : Int} {st : List Int} (h : skA (I k) st) : skA (up I k st.length v k) (v :: st) :=
  ⟨up_e, skA_fr st h (fun j hj => up_j (by omega))⟩
theorem mulb {a b M : Int} (h0 : 0 ≤ M) (ha : -M ≤ a ∧ a ≤ M) (hb : -M ≤ b ∧ b ≤ M) : -(M * M) ≤ a * b ∧ a * b ≤ M * M := by
  have e := Int.natAbs_mul a b
  have h := Nat.mul_le_mul (show a.natAbs ≤ M.natAbs by omega) (show b.natAbs ≤ M.natAbs by omega)
  rw [← e, ← Int.natAbs_mul] at h
  have hm : 0 ≤ M * M := Int.mul_nonneg h0 h0
  omega
theorem clp_rng (v : Int) : -1000000 ≤ clp v ∧ clp v ≤ 1000000 := by
  unfold clp
  split
  · omega
  · split <;> omega
theorem fdv_rng {a b : Int} (ha : -1000000 ≤ a ∧ a ≤ 1000000) : -1000000 ≤ fdv a b ∧ fdv a b ≤ 1000000 := by
  unfold fdv
  split
  · omega
  · rename_i hb
    have e : (a.tdiv b).natAbs = a.natAbs / b.natAbs := Int.natAbs_tdiv ..
    have le : a.natAbs / b.natAbs ≤ a.natAbs := Nat.div_le_self _ _
    split
    · omega
    · rename_i q
      by_cases h1 : b.natAbs = 1
      · exfalso
        refine q (Or.inr ?_)
        have : b = 1 ∨ b = -1 := by omega
        rcases this with rfl | rfl
        · simp
        · simp
      · have h2 : a.natAbs / b.natAbs ≤ a.natAbs / 2 := Nat.div_le_div_left (by omega) (by omega)
        omega
theorem opv_1 (a b : Int) : opv 1 a b = (clp (a + b)) := by simp only [opv, Int.reduceEq, if_true, if_false]
theorem opv_2 (a b : Int) : opv 2 a b = (clp (a - b)) := by simp only [opv, Int.reduceEq, if_true, if_false]
theorem opv_3 (a b : Int) : opv 3 a b = (clp (a * b)) := by simp only [opv, Int.reduceEq, if_true, if_false]
theorem opv_4 (a b : Int) : opv 4 a b = (fdv a b) := by simp only [opv, Int.reduceEq, if_true, if_false]
theorem opv_5 (a b : Int) : opv 5 a b = (if a < b then a else b) := by simp only [opv, Int.reduceEq, if_true, if_false]
theorem opv_6 (a b : Int) : opv 6 a b = (if b < a then a else b) := by simp only [opv, Int.reduceEq, if_true, if_false]
theorem opv_11 (a b : Int) : opv 11 a b = (if a < b then 1 else 0) := by simp only [opv, Int.reduceEq, if_true, if_false]
theorem opv_12 (a b : Int) : opv 12 a b = (if b < a then 1 else 0) := by simp only [opv, Int.reduceEq, if_true, if_false]
theorem opv_13 (a b : Int) : opv 13 a b = (if a = b then 1 else 0) := by simp only [opv, Int.reduceEq, if_true, if_false]
theorem opv_14 (a b : Int) : opv 14 a b = (a * b) := by simp only [opv, Int.reduceEq, if_true, if_false]
theorem opv_15 (a b : Int) : opv 15 a b = (if 0 < a + b then 1 else 0) := by simp only [opv, Int.reduceEq, if_true, if_false]
theorem opv_s {x a b : Int} (hx : 1 ≤ x ∧ x ≤ 6) (ha : -1000000 ≤ a ∧ a ≤ 1000000) (hb : -1000000 ≤ b ∧ b ≤ 1000000) : -1000000 ≤ opv x a b ∧ opv x a b ≤ 1000000 := by
  have h : x = 1 ∨ x = 2 ∨ x = 3 ∨ x = 4 ∨ x = 5 ∨ x = 6 := by omega
  rcases h with rfl | rfl | rfl | rfl | rfl | rfl
  · rw [opv_1]; exact clp_rng _
  · rw [opv_2]; exact clp_rng _
  · rw [opv_3]; exact clp_rng _
  · rw [opv_4]; exact fdv_rng ha
  · rw [opv_5]
    split <;> omega
  · rw [opv_6]
    split <;> omega
theorem opv_c {x a b : Int} (hx : 11 ≤ x ∧ x ≤ 13) : opv x a b = 0 ∨ opv x a b = 1 := by
  unfold opv
  have h : x = 11 ∨ x = 12 ∨ x = 13 := by omega
  rcases h with rfl | rfl | rfl
  all_goals
    simp only [Int.reduceEq, if_false, if_true]
    split
    · exact Or.inr rfl
    · exact Or.inl rfl
theorem opv_b {x a b : Int} (hx : x = 14 ∨ x = 15) (ha : a = 0 ∨ a = 1) (hb : b = 0 ∨ b = 1) : opv x a b = 0 ∨ opv x a b = 1 := by
  rcases hx with rfl | rfl <;> rcases ha with rfl | rfl <;> rcases hb with rfl | rfl <;> decide
theorem lA_b {a b : Int} (ha : a = 0 ∨ a = 1) (hb : b = 0 ∨ b = 1) : lA a b = opv 14 a b := by
  rcases ha with rfl | rfl <;> rcases hb with rfl | rfl <;> decide
theorem lO_b {a b : Int} (ha : a = 0 ∨ a = 1) (hb : b = 0 ∨ b = 1) : lO a b = opv 15 a b := by
  rcases ha with rfl | rfl <;> rcases hb with rfl | rfl <;> decide
theorem tdiv_rng {a b : Int} {M : Int} (ha : -M ≤ a ∧ a ≤ M) : -M ≤ a.tdiv b ∧ a.tdiv b ≤ M := by
  have e : (a.tdiv b).natAbs = a.natAbs / b.natAbs := Int.natAbs_tdiv ..
  have le : a.natAbs / b.natAbs ≤ a.natAbs := Nat.div_le_self _ _
  omega
theorem tmul_rng {a b : Int} {M : Int} (ha : -M ≤ a ∧ a ≤ M) : -M ≤ a.tdiv b * b ∧ a.tdiv b * b ≤ M := by
  have e : (a.tdiv b * b).natAbs = a.natAbs / b.natAbs * b.natAbs := by rw [Int.natAbs_mul, Int.natAbs_tdiv]; rfl
  have le : a.natAbs / b.natAbs * b.natAbs ≤ a.natAbs := Nat.div_mul_le_self _ _
  omega
theorem io_id {x : Int} (h : -2147483648 ≤ x) (h1 : x ≤ 2147483647) : (Int32.ofInt x).toInt = x := Int32.toInt_ofInt_of_le (by omega) (by omega)
theorem oD_t {a b : Int} (ha : -1000000 ≤ a ∧ a ≤ 1000000) (hb : -1000000 ≤ b ∧ b ≤ 1000000) : oD a b = a.tdiv b := by
  have r := tdiv_rng (b := b) ha
  unfold oD
  rw [Int32.toInt_div, io_id (by omega) (by omega), io_id (by omega) (by omega), bm32 (by omega) (by omega)]
theorem lD_t {a b : Int} (ha : -1000000 ≤ a ∧ a ≤ 1000000) (hb : -1000000 ≤ b ∧ b ≤ 1000000) : lD a b = a.tdiv b := by
  have r := tdiv_rng (b := b) ha
  unfold lD
  rw [Int64.toInt_div, lo_id (by omega) (by omega), lo_id (by omega) (by omega), bm64 (by omega) (by omega)]
theorem lM_t {a b : Int} (ha : -1000000 ≤ a ∧ a ≤ 1000000) (hb : -1000000 ≤ b ∧ b ≤ 1000000) : lM a b = a - a.tdiv b * b := by
  have r := tdiv_rng (b := b) ha
  have r2 := tmul_rng (b := b) ha
  unfold lM
  rw [Int64.toInt_sub, Int64.toInt_mul, Int64.toInt_div, lo_id (by omega) (by omega), lo_id (by omega) (by omega), bm64 (x := a.tdiv b) (by omega) (by omega), bm64 (x := a.tdiv b * b) (by omega) (by omega), bm64 (by omega) (by omega)]
theorem oX_sg {a b : Int} (ha : -1000000 ≤ a ∧ a ≤ 1000000) (hb : -1000000 ≤ b ∧ b ≤ 1000000) : 0 ≤ oX a b ↔ (a < 0 ↔ b < 0) := by
  have m : ∀ z : Int32, z.toBitVec.msb = decide (z.toInt < 0) := fun z => by
    rw [BitVec.msb_eq_toInt]
    rfl
  have h := m (Int32.ofInt a ^^^ Int32.ofInt b)
  rw [Int32.toBitVec_xor, BitVec.msb_xor, m, m, io_id (by omega) (by omega), io_id (by omega) (by omega)] at h
  unfold oX
  by_cases g1 : a < 0 <;> by_cases g2 : b < 0 <;> simp [g1, g2] at h ⊢ <;> omega
section EV
variable {d : Nat} {I : HI} {K : HI → Prop} {KI : Int → HI → Prop} {KL : Int → HI → Prop}
theorem c_floorDiv {a b : Int} (ha : -1000000 ≤ a ∧ a ≤ 1000000) (hb : -1000000 ≤ b ∧ b ≤ 1000000) (h0 : b ≠ 0) (h : KI (fdv a b) I) : CI mJ9_floorDiv_7cf53 (d + 1) [vI a, vI b] I KI := by
  have r := tdiv_rng (b := b) ha
  have r2 := tmul_rng (b := b) ha
  have w1 : wr (a.tdiv b * b) = a.tdiv b * b := by unfold wr; rw [if_pos (by omega)]
  have w2 : wr (a.tdiv b - 1) = a.tdiv b - 1 := by unfold wr; rw [if_pos (by omega)]
  unfold fdv at h
  rw [if_neg h0] at h
  refine bk_J9_floorDiv_7cf53_0 ⟨h0, ?_⟩
  rw [oX_sg ha hb, oD_t ha hb, w1, w2]
  refine ⟨fun q => PI_i ?_, fun q => ⟨fun q2 => PI_i ?_, fun q2 => PI_i ?_⟩⟩
  · rw [if_pos (Or.inl q)] at h
    exact h
  · rw [if_pos (Or.inr q2)] at h
    exact h
  · rw [if_neg (fun z => z.elim q q2)] at h
    exact h
theorem c11_floor {a b : Int} (ha : -1000000 ≤ a ∧ a ≤ 1000000) (hb : -1000000 ≤ b ∧ b ≤ 1000000) (h : KL (fdv a b) I) : CL mX11_floor (d + 1) [vL a, vL b] I KL := by
  have r := tdiv_rng (b := b) ha
  unfold fdv at h
  refine bk_X11_floor_0 ?_
  rw [lM_t ha hb, lD_t ha hb]
  refine ⟨fun q => ⟨q, q, fun q2 => PL_i ?_, fun q2 => ⟨fun q3 => ⟨fun q4 => PL_i ?_, fun q4 => ⟨by omega, PL_i ?_⟩⟩, fun q3 => ⟨fun q4 => ⟨by omega, PL_i ?_⟩, fun q4 => PL_i ?_⟩⟩⟩, fun q => PL_i ?_⟩
  · rw [if_neg q, if_pos (Or.inr (by omega))] at h
    exact h
  · rw [if_neg q, if_pos (Or.inl (by omega))] at h
    exact h
  · rw [if_neg q, if_neg (fun z => by omega)] at h
    exact h
  · rw [if_neg q, if_neg (fun z => by omega)] at h
    exact h
  · rw [if_neg q, if_pos (Or.inl (by omega))] at h
    exact h
  · rw [if_pos q] at h
    exact h
theorem c11_clip {v : Int} (h : KL (clp v) I) : CL mX11_clip (d + 1) [vL v] I KL := by
  unfold clp at h
  refine bk_X11_clip_0 ⟨fun q => ⟨fun q2 => PL_i ?_, fun q2 => PL_i ?_⟩, fun q => PL_i ?_⟩
  · rw [if_neg (by omega), if_neg (by omega)] at h
    exact h
  · rw [if_neg (by omega), if_pos (by omega)] at h
    exact h
  · rw [if_pos (by omega)] at h
    exact h
/-- the class: an operator -/
theorem h150 {e top a3 i a5 x a b : Int} (hx : (1 ≤ x ∧ x ≤ 6) ∨ (11 ≤ x ∧ x ≤ 15)) (h5 : a5 = tr x) (t0 : 2 ≤ top) (t1 : top ≤ 64) (i0 : 0 ≤ i) (i1 : i < 1600) (ea : I 65 (top - 2).toNat = a) (eb : I 65 (top - 1).toNat = b) (ra : -1000000 ≤ a ∧ a ≤ 1000000) (rb : -1000000 ≤ b ∧ b ≤ 1000000) (hbo : 14 ≤ x → (a = 0 ∨ a = 1) ∧ (b = 0 ∨ b = 1)) (h : J none mX1_holds (d + 2) 0 0 36 [(0, vR 62), (1, vI e), (2, vI (top - 1)), (3, vI a3), (4, vI (i + 1))] [] (mk (up I 65 (top - 2).toNat (opv x a b))) (PI KI)) : J none mX1_holds (d + 2) 0 0 150 [(0, vR 62), (1, vI e), (2, vI top), (3, vI a3), (4, vI i), (5, vI a5)] [] (mk I) (PI KI) := by
  have ei : top + (-1) - 1 = top - 2 := by omega
  have ej : top + (-1) = top - 1 := by omega
  have hh : ∀ (V : Int) (I1 : HI), I1 = up I 65 (top - 2).toNat (l2 V) → V = opv x a b → -1000000 ≤ V → V ≤ 1000000 → J none mX1_holds (d + 2) 0 0 36 [(0, vR 62), (1, vI e), (2, vI (top - 1)), (3, vI a3), (4, vI (i + 1))] [] (mk I1) (PI KI) := by
    intro V I1 e1 e2 v0 v1
    rw [e1, l2_id (by omega) (by omega), e2]
    exact h
  have mb := mulb (M := 1000000) (by omega) ra rb
  have l2a : l2 a = a := l2_id (by omega) (by omega)
  clear h
  refine bk_X1_holds_150 ?_
  rw [ei, ej, ea, eb]
  have hx2 : x = 1 ∨ x = 2 ∨ x = 3 ∨ x = 4 ∨ x = 5 ∨ x = 6 ∨ x = 11 ∨ x = 12 ∨ x = 13 ∨ x = 14 ∨ x = 15 := by omega
  rcases hx2 with rfl | rfl | rfl | rfl | rfl | rfl | rfl | rfl | rfl | rfl | rfl
  · have e5 : a5 = -6 := h5
    (repeat' (with_reducible first | refine And.intro ?_ ?_ | intro _ | refine PI_i ?_ | refine PV_i ?_ | refine PL_i ?_)) <;> first | omega | (refine hh _ _ (by assumption) ?_ (by omega) (by omega); rw [opv_1]; unfold clp; split <;> first | omega | (split <;> omega))
  · have e5 : a5 = -7 := h5
    (repeat' (with_reducible first | refine And.intro ?_ ?_ | intro _ | refine PI_i ?_ | refine PV_i ?_ | refine PL_i ?_)) <;> first | omega | (refine hh _ _ (by assumption) ?_ (by omega) (by omega); rw [opv_2]; unfold clp; split <;> first | omega | (split <;> omega))
  · have e5 : a5 = -8 := h5
    (repeat' (with_reducible first | refine And.intro ?_ ?_ | intro _ | refine PI_i ?_ | refine PV_i ?_ | refine PL_i ?_)) <;> first | omega | (refine hh _ _ (by assumption) ?_ (by omega) (by omega); rw [opv_3]; unfold clp; split <;> first | omega | (split <;> omega))
  · have e5 : a5 = -9 := h5
    have fr := fdv_rng (b := b) ra
    rw [l2a]
    (repeat' (with_reducible first | refine And.intro ?_ ?_ | intro _ | refine PI_i ?_ | refine PV_i ?_ | refine PL_i ?_)) <;> first | omega | skip
    · refine c_floorDiv ra rb (by assumption) ?_
      (repeat' (with_reducible first | refine And.intro ?_ ?_ | intro _ | refine PI_i ?_ | refine PV_i ?_ | refine PL_i ?_)) <;> first | omega | exact hh (fdv a b) _ (by assumption) (opv_4 a b).symm (by omega) (by omega)
    · refine hh _ _ (by assumption) ?_ (by omega) (by omega)
      rw [opv_4]
      unfold fdv
      rw [if_pos (by assumption)]
  · have e5 : a5 = -10 := h5
    (repeat' (with_reducible first | refine And.intro ?_ ?_ | intro _ | refine PI_i ?_ | refine PV_i ?_ | refine PL_i ?_)) <;> first | omega | (refine hh _ _ (by assumption) ?_ (by omega) (by omega); rw [opv_5]; split <;> omega)
  · have e5 : a5 = -11 := h5
    (repeat' (with_reducible first | refine And.intro ?_ ?_ | intro _ | refine PI_i ?_ | refine PV_i ?_ | refine PL_i ?_)) <;> first | omega | (refine hh _ _ (by assumption) ?_ (by omega) (by omega); rw [opv_6]; split <;> omega)
  · have e5 : a5 = -12 := h5
    (repeat' (with_reducible first | refine And.intro ?_ ?_ | intro _ | refine PI_i ?_ | refine PV_i ?_ | refine PL_i ?_)) <;> first | omega | (refine hh _ _ (by assumption) ?_ (by omega) (by omega); rw [opv_11]; split <;> omega)
  · have e5 : a5 = -13 := h5
    (repeat' (with_reducible first | refine And.intro ?_ ?_ | intro _ | refine PI_i ?_ | refine PV_i ?_ | refine PL_i ?_)) <;> first | omega | (refine hh _ _ (by assumption) ?_ (by omega) (by omega); rw [opv_12]; split <;> omega)
  · have e5 : a5 = -14 := h5
    (repeat' (with_reducible first | refine And.intro ?_ ?_ | intro _ | refine PI_i ?_ | refine PV_i ?_ | refine PL_i ?_)) <;> first | omega | (refine hh _ _ (by assumption) ?_ (by omega) (by omega); rw [opv_13]; split <;> omega)
  · have e5 : a5 = -16 := h5
    obtain ⟨ba, bb⟩ := hbo (by omega)
    have bo := opv_b (x := 14) (Or.inl rfl) ba bb
    rw [lA_b ba bb]
    (repeat' (with_reducible first | refine And.intro ?_ ?_ | intro _ | refine PI_i ?_ | refine PV_i ?_ | refine PL_i ?_)) <;> first | omega | exact hh (opv 14 a b) _ (by assumption) rfl (by omega) (by omega)
  · have e5 : a5 = -17 := h5
    obtain ⟨ba, bb⟩ := hbo (by omega)
    have bo := opv_b (x := 15) (Or.inr rfl) ba bb
    rw [lO_b ba bb]
    (repeat' (with_reducible first | refine And.intro ?_ ?_ | intro _ | refine PI_i ?_ | refine PV_i ?_ | refine PL_i ?_)) <;> first | omega | exact hh (opv 15 a b) _ (by assumption) rfl (by omega) (by omega)
end EV
