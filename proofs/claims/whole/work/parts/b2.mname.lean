/-- a name as a number -/
def nmv (A : Nat → Int) (s : Nat) : Nat → Int
  | 0 => 0
  | k + 1 => 27 * nmv A s k + A (s + k) - 97 + 1
def nml (A : Nat → Int) (s : Nat) : Nat → List Int
  | 0 => []
  | k + 1 => (A (s + k) - 96) :: nml A s k
theorem nml_val {A : Nat → Int} {s : Nat} : ∀ k, valR (nml A s k) = nmv A s k
  | 0 => rfl
  | k + 1 => by
    show 27 * valR (nml A s k) + (A (s + k) - 96) = 27 * nmv A s k + A (s + k) - 97 + 1
    rw [nml_val k]
    omega
theorem nml_len {A : Nat → Int} {s : Nat} : ∀ k, (nml A s k).length = k
  | 0 => rfl
  | k + 1 => by
    show (nml A s k).length + 1 = k + 1
    rw [nml_len k]
theorem nml_rng {A : Nat → Int} {s : Nat} : ∀ k, (∀ j, j < k → ltr (A (s + j))) → ∀ x ∈ nml A s k, 1 ≤ x ∧ x ≤ 26
  | 0, _, x, h => by cases h
  | k + 1, g, x, h => by
    rcases List.mem_cons.mp h with e | e
    · have := g k (by omega)
      unfold ltr at this
      rw [e]
      omega
    · exact nml_rng k (fun j hj => g j (by omega)) x e
theorem nml_get {A : Nat → Int} {s : Nat} : ∀ (n k : Nat), (nml A s n).reverse.getD k 0 = if k < n then A (s + k) - 96 else 0
  | 0, k => by simp [nml]
  | n + 1, k => by
    show ((A (s + n) - 96) :: nml A s n).reverse.getD k 0 = _
    rw [List.reverse_cons]
    by_cases e : k < n
    · rw [gd_l (by rw [List.length_reverse, nml_len]; exact e), nml_get n k, if_pos e, if_pos (by omega)]
    · by_cases e2 : k = n
      · subst e2
        have := gd_r (C := (nml A s k).reverse) (x := A (s + k) - 96)
        rw [List.length_reverse, nml_len] at this
        rw [this, if_pos (by omega)]
      · rw [if_neg (by omega), List.getD_eq_getElem?_getD, List.getElem?_eq_none (by rw [List.length_append, List.length_reverse, nml_len, List.length_cons, List.length_nil]; omega)]
        rfl
theorem nmv_rng {A : Nat → Int} {s : Nat} : ∀ (k : Nat), (∀ j, j < k → ltr (A (s + j))) → 0 ≤ nmv A s k ∧ (k ≤ 0 → nmv A s k ≤ 0) ∧ (k ≤ 1 → nmv A s k ≤ 26) ∧ (k ≤ 2 → nmv A s k ≤ 728) ∧ (k ≤ 3 → nmv A s k ≤ 19682) ∧ (k ≤ 4 → nmv A s k ≤ 531440) ∧ (k ≤ 5 → nmv A s k ≤ 14348906) ∧ (k ≤ 6 → nmv A s k ≤ 387420488)
  | 0, _ => by unfold nmv; omega
  | k + 1, h => by
    have ih := nmv_rng k (fun j hj => h j (by omega))
    have hk := h k (by omega)
    unfold ltr at hk
    unfold nmv
    omega
theorem valR_inj : ∀ (r q : List Int), (∀ x ∈ r, 1 ≤ x ∧ x ≤ 26) → (∀ x ∈ q, 1 ≤ x ∧ x ≤ 26) → valR r = valR q → r = q
  | [], [], _, _, _ => rfl
  | [], y :: q, _, hq, e => by
    have h1 := hq y List.mem_cons_self
    have h2 := (valR_nn q (fun z hz => hq z (List.mem_cons_of_mem _ hz))).1
    unfold valR at e
    omega
  | x :: r, [], hr, _, e => by
    have h1 := hr x List.mem_cons_self
    have h2 := (valR_nn r (fun z hz => hr z (List.mem_cons_of_mem _ hz))).1
    unfold valR at e
    omega
  | x :: r, y :: q, hr, hq, e => by
    have h1 := hr x List.mem_cons_self
    have h2 := hq y List.mem_cons_self
    have e' : 27 * valR r + x = 27 * valR q + y := e
    have e1 : x = y := by omega
    have e2 : valR r = valR q := by omega
    rw [e1, valR_inj r q (fun z hz => hr z (List.mem_cons_of_mem _ hz)) (fun z hz => hq z (List.mem_cons_of_mem _ hz)) e2]
theorem NM_eq {v v' : Int} {f f' : Nat → Int} (h : NM v f) (g : NM v' f') : v = v' ↔ ∀ k, k < 6 → f k = f' k := by
  obtain ⟨r, r1, r2, r3, r4, r5⟩ := h
  obtain ⟨q, q1, q2, q3, q4, q5⟩ := g
  constructor
  · intro e k hk
    have : r = q := valR_inj r q r3 q3 (by rw [← r4, ← q4]; exact e)
    rw [r5 k hk, q5 k hk, this]
  · intro e
    have pos : ∀ (s : List Int), (∀ x ∈ s, 1 ≤ x ∧ x ≤ 26) → ∀ k, (k < s.length ↔ s.reverse.getD k 0 ≠ 0) := fun s hs k => by
      constructor
      · intro l
        rw [List.getD_eq_getElem?_getD, List.getElem?_eq_getElem (by rw [List.length_reverse]; exact l)]
        have := hs (s.reverse[k]'(by rw [List.length_reverse]; exact l)) (by
          have := List.getElem_mem (l := s.reverse) (n := k) (by rw [List.length_reverse]; exact l)
          exact List.mem_reverse.mp this)
        simp only [Option.getD_some]
        omega
      · intro l
        by_cases c : k < s.length
        · exact c
        · exfalso
          apply l
          rw [List.getD_eq_getElem?_getD, List.getElem?_eq_none (by rw [List.length_reverse]; omega)]
          rfl
    have len : r.length = q.length := by
      rcases Nat.lt_trichotomy r.length q.length with a | a | a
      · have := (pos q q3 r.length).mp a
        rw [← q5 _ (by omega), ← e _ (by omega), r5 _ (by omega)] at this
        have := (pos r r3 r.length).mpr this
        omega
      · exact a
      · have := (pos r r3 q.length).mp a
        rw [← r5 _ (by omega), e _ (by omega), q5 _ (by omega)] at this
        have := (pos q q3 q.length).mpr this
        omega
    have rv : r.reverse = q.reverse := by
      refine List.ext_getElem (by rw [List.length_reverse, List.length_reverse]; exact len) (fun k k1 k2 => ?_)
      have k6 : k < 6 := by rw [List.length_reverse] at k1; omega
      have w := e k k6
      rw [r5 k k6, q5 k k6, List.getD_eq_getElem?_getD, List.getD_eq_getElem?_getD, List.getElem?_eq_getElem k1, List.getElem?_eq_getElem k2] at w
      exact w
    have : r = q := by have := congrArg List.reverse rv; rwa [List.reverse_reverse, List.reverse_reverse] at this
    rw [r4, q4, this]
theorem NM_tok {t : Txt} (ht : TKN t) {i : Nat} (hi : i ≤ uN t) (h : NAs t i) : NM (nmv (uA t) (uS t i) (uP t i - uS t i)) (fun k => lt6 t i k) := by
  have kk := tK_e ht hi
  have hk := h.1.1
  have tn := tK_n ht (i := i) (by omega)
  have run := tL_run ht (by omega) hi
  refine ⟨nml (uA t) (uS t i) (uP t i - uS t i), by rw [nml_len]; omega, by rw [nml_len]; have := h.2; omega, nml_rng _ (fun j hj => run.2.1 _ (by omega) (by omega)), (nml_val _).symm, fun k hk' => ?_⟩
  rw [nml_get]
  show lt6 t i k = _
  unfold lt6
  by_cases e : uS t i + k < uP t i
  · rw [if_pos e, if_pos (by omega)]
  · rw [if_neg e, if_neg (by omega)]
/-- a fault in a statement -/
def FNf (X Y : HI) (k p : Int) : Prop := (∀ c, c ≠ 489 → Y c = X c) ∧ (∀ j, j ≠ 2 → j ≠ 4 → j ≠ 5 → j ≠ 6 → j ≠ 36 → Y 489 j = X 489 j) ∧ Y 489 5 = k ∧ Y 489 6 = p ∧ (0 ≤ Y 489 2 ∧ Y 489 2 ≤ 1600)
theorem FN_x {X Y : HI} {k p : Int} (h : FXf X Y k p) : FNf X Y k p := ⟨h.1, fun j a b c e _ => h.2.1 j a b c e, h.2.2⟩
/-- a name is behind us -/
def NTf (X Y : HI) : Prop := (∀ c, c ≠ 489 → Y c = X c) ∧ (∀ j, j ≠ 2 → j ≠ 4 → j ≠ 36 → Y 489 j = X 489 j)
section MNM
variable {d : Nat} {X : HI} {K : HI → Prop} {KI : Int → HI → Prop} {t : Txt} {i : Nat}
theorem lkv_lt (ht : TKN t) (hi : i ≤ uN t) : ltr (lkv t i) ↔ uK t i ≤ 27 := by
  unfold lkv
  by_cases e : i = uN t
  · rw [if_pos e]
    have := ht.2.1.2.2
    rw [← e] at this
    unfold ltr
    omega
  · rw [if_neg e]
    exact (tk_ltr ht (by omega)).1
theorem name_58 {X1 : HI} (ht : TKN t) (hm : MRk t X1 i) (hk : uK t i = 27) (hj : ¬ jnd t i) (e36 : X1 489 36 = uS t i) (k1 : NAs t i → ∀ Y : HI, NTf X1 Y → Y 489 36 = uS t i → MRk t Y (i + 1) → KI (nmv (uA t) (uS t i) (uP t i - uS t i)) Y) (k0 : ∀ k p, NAf t i k p → ∀ Y : HI, FNf X1 Y k p → KI 0 Y) : ∀ (m c : Nat) (Z : HI), uS t i + c + m = uP t i → c ≤ 6 → LKf X1 Z (uS t i + c) → J none mX11_name (d + 2) 0 0 58 [(0, vR 489), (1, vL (nmv (uA t) (uS t i) c))] [] (mk Z) (PL KI) := by
  have hi' := hm.2.1
  have kk := tK_e ht hi'
  have run := tL_run ht (by omega) hi'
  have hin : i < uN t := by omega
  have tn := tK_n ht hin
  have e16 := ht.1.1
  intro m
  induction m with
  | zero =>
    intro c Z ec c6 fZ
    have eP : uP t i = uS t i + c := by omega
    have z3 : Z 489 3 = uE t := by rw [fZ.2.1 3 (by decide)]; exact hm.2.2.1.1
    have ev : nmv (uA t) (uS t i) (uP t i - uS t i) = nmv (uA t) (uS t i) c := by congr 1; omega
    have fin : ∀ I1 : HI, I1 = up Z 489 4 (Z 489 2) → PL KI (some (vL (nmv (uA t) (uS t i) c))) (mk I1) := by
      intro I1 e1
      have tf : TKf X1 I1 (uP t i) := ⟨fun k hk' => by rw [e1, up_k hk', fZ.1 k hk'], fun j j2 j4 => by rw [e1, up_n (by omega), fZ.2.1 j j2], by rw [e1, up_n (by decide), fZ.2.2, eP], by rw [e1, up_s, fZ.2.2, eP]⟩
      refine PL_i ?_
      rw [← ev]
      exact k1 ⟨⟨hk, hj⟩, by omega⟩ I1 ⟨tf.1, fun j a b _ => tf.2.1 j a b⟩ (by rw [tf.2.1 36 (by decide) (by decide)]; exact e36) (MRk_w ht hm hin (by omega) tf)
    refine bk_X11_name_58 ?_
    rw [z3, fZ.2.2, Int.toNat_natCast, fZ.1 490 (by decide)]
    refine ⟨fun _ I1 e1 => fin I1 (by rw [fZ.2.2]; exact e1), fun q => ⟨by omega, c11_isLetter (fun q2 => ?_) (fun q2 => ⟨fun _ I5 e5 => fin I5 e5, fun z => absurd rfl z⟩)⟩⟩
    rw [hm.1.1 _ (by omega)] at q2
    rcases run.2.2 with u | u
    · omega
    · rw [eP] at u
      exact absurd q2 u
  | succ m ih =>
    intro c Z ec c6 fZ
    have rg := nmv_rng (A := uA t) (s := uS t i) c (fun j hj' => run.2.1 (uS t i + j) (by omega) (by omega))
    have z3 : Z 489 3 = uE t := by rw [fZ.2.1 3 (by decide)]; exact hm.2.2.1.1
    have z36 : Z 489 36 = uS t i := by rw [fZ.2.1 36 (by decide)]; exact e36
    have z90 : Z 490 = X1 490 := fZ.1 490 (by decide)
    have hd := run.2.1 (uS t i + c) (by omega) (by omega)
    have hd' := hd
    unfold ltr at hd'
    have ea : X1 490 (uS t i + c) = uA t (uS t i + c) := hm.1.1 _ (by omega)
    refine bk_X11_name_58 ?_
    rw [z3, fZ.2.2, Int.toNat_natCast, z90, ea]
    refine ⟨fun q => by omega, fun _ => ⟨by omega, c11_isLetter (fun _ => ⟨fun z => by omega, fun _ => ?_⟩) (fun q => absurd hd q)⟩⟩
    rw [fZ.2.2, Int.toNat_natCast, z90, ea, z36]
    have b9 := rg.2.2.2.2.2.2.2 c6
    refine ⟨by omega, fun q => ⟨by omega, by omega, by omega, by omega, by omega, by omega, fun I8 e8 => ?_⟩, fun q => ?_⟩
    · have := ih (c + 1) I8 (by omega) (by omega) ⟨fun k hk' => by rw [e8, up_k hk', fZ.1 k hk'], fun j j2 => by rw [e8, up_n (by omega), fZ.2.1 j j2], by rw [e8, up_s]; omega⟩
      exact this
    · exact c11_fail (by rw [fZ.2.1 5 (by decide)]; exact hm.2.2.1.2) (fun Y fY => PL_i (k0 1 _ (Or.inr ⟨⟨hk, hj⟩, by omega, rfl, by omega⟩) Y (FN_x (FXf_m (MFr_l fZ) fY (by rw [fZ.2.2]; omega)))))
theorem c11_nameK (ht : TKN t) (hm : MRk t X i) (k1 : NAs t i → ∀ Y : HI, NTf X Y → Y 489 36 = uS t i → MRk t Y (i + 1) → KI (nmv (uA t) (uS t i) (uP t i - uS t i)) Y) (k0 : ∀ k p, NAf t i k p → ∀ Y : HI, FNf X Y k p → KI 0 Y) : CL mX11_name (d + 5) [vR 489] X KI := by
  have kk := tK_e ht hm.2.1
  have hin := hm.2.1
  refine bk_X11_name_0 ⟨fun _ => c11_lookK ht hm (fun Y fY mY => c11_isLetter (fun q => ⟨fun z => by omega, fun _ => ?_⟩) (fun q => ⟨fun _ => ?_, fun z => absurd rfl z⟩)), fun q => absurd hm.2.2.1.2 q⟩
  · have hk := (lkv_lt ht hm.2.1).mp q
    rw [fY.2.2]
    have en := mY.2.2.2.2
    refine ⟨fun q2 => ?_, fun q2 => ?_⟩
    · have hj : jnd t i := by
        by_cases u : jnx t i
        · exact (jnx_jnd (by omega)).mp u
        · have := en.2 u
          omega
      exact c11_fail mY.2.2.1.2 (fun Z fZ => PL_i (k0 1 _ (Or.inl ⟨fun u => u.2 hj, rfl, rfl⟩) Z (FN_x (FXf_m (MFr_l fY) fZ (by rw [fY.2.2]; omega)))))
    · have hj : ¬ jnd t i := fun u => q2 (en.1 ((jnx_jnd (by omega)).mpr u)).symm
      refine c11_isOwnHere ht mY (fun u Z fZ mZ => ⟨fun z => by omega, fun _ => ?_⟩) (fun u Z fZ mZ => ⟨fun _ I6 e6 => ?_, fun z => absurd rfl z⟩)
      · rw [fZ.2.2]
        exact c11_fail mZ.2.2.1.2 (fun V fV => PL_i (k0 1 _ (Or.inl ⟨fun v => by have := u.1; omega, rfl, rfl⟩) V (FN_x (FXf_m (MFr_l (LKf_tr fY fZ)) fV (by rw [fZ.2.2]; omega)))))
      · have k27 : uK t i = 27 := by
          by_cases c : uK t i ≤ 26
          · exact absurd ⟨c, hj⟩ u
          · omega
        have m6 : MRk t I6 i := MRk_o mZ (fun c a _ _ => by rw [e6, up_k a]) (fun j _ _ => by rw [e6, up_n (by omega)])
        have gZ := LKf_tr fY fZ
        have l6 : LKf I6 I6 (uS t i + 0) := ⟨fun _ _ => rfl, fun _ _ => rfl, by rw [e6, up_n (by decide), fZ.2.2]; rfl⟩
        have f6 : ∀ c, c ≠ 489 → I6 c = X c := fun c hc => by rw [e6, up_k hc, gZ.1 c hc]
        have g6 : ∀ j, j ≠ 2 → j ≠ 36 → I6 489 j = X 489 j := fun j a b => by rw [e6, up_n (by omega), gZ.2.1 j a]
        have tn := tK_n ht (i := i) (by omega)
        have := name_58 (d := d + 3) (KI := KI) ht m6 k27 hj (by rw [e6, up_s, fZ.2.2]) (fun h V fV v36 mV => k1 h V ⟨fun c hc => by rw [fV.1 c hc, f6 c hc], fun j a b c => by rw [fV.2 j a b c, g6 j a c]⟩ v36 mV) (fun k p h V fV => k0 k p h V ⟨fun c hc => by rw [fV.1 c hc, f6 c hc], fun j a b c e f => by rw [fV.2.1 j a b c e f, g6 j a f], fV.2.2⟩) (uP t i - uS t i) 0 I6 (by omega) (by omega) l6
        exact this
  · rw [fY.2.2]
    exact c11_fail mY.2.2.1.2 (fun Z fZ => PL_i (k0 1 _ (Or.inl ⟨fun u => q ((lkv_lt ht hm.2.1).mpr (by have := u.1; omega)), rfl, rfl⟩) Z (FN_x (FXf_m (MFr_l fY) fZ (by rw [fY.2.2]; omega)))))
theorem c11_nameB (hb : X 489 5 ≠ 0) (h : KI 0 X) : CL mX11_name (d + 1) [vR 489] X KI :=
  bk_X11_name_0 ⟨fun z => absurd z hb, fun _ => PL_i h⟩
theorem c11_numberB {lo hi : Int} (hb : X 489 5 ≠ 0) (h : KI 0 X) : CI mX11_number (d + 1) [vR 489, vI lo, vI hi] X KI :=
  bk_X11_number_0 ⟨fun z => absurd z hb, fun _ => PI_i h⟩
theorem nof_3 {kd c : Nat} {v : Int} (kc : kd ≤ 1) (ec : X 518 kd = c) (c10 : c ≤ 10) (h : ∀ x : Int, ((x = -1 ∧ ∀ w : Nat, w < c → X 519 (10 * kd + w) ≠ v) ∨ (∃ w : Nat, w < c ∧ x = (w : Int) ∧ X 519 (10 * kd + w) = v ∧ ∀ w', w' < w → X 519 (10 * kd + w') ≠ v)) → KI x X) : ∀ (m w : Nat), w + m = c → (∀ w', w' < w → X 519 (10 * kd + w') ≠ v) → J none mX11_nameOf (d + 1) 0 0 3 [(0, vR 489), (1, vI (kd : Int)), (2, vL v), (4, vI (w : Int))] [] (mk X) (PI KI)
  | 0, w, e, hw => by
    refine bk_X11_nameOf_3 ?_
    rw [Int.toNat_natCast, ec]
    exact ⟨by omega, fun _ => PI_i (h (-1) (Or.inl ⟨rfl, fun w' h' => hw w' (by omega)⟩)), fun z => by omega⟩
  | m + 1, w, e, hw => by
    have ih := nof_3 kc ec c10 h m (w + 1) (by omega)
    refine bk_X11_nameOf_3 ?_
    rw [Int.toNat_natCast, ec, show (10 * (kd : Int) + (w : Int)).toNat = 10 * kd + w from by omega]
    refine ⟨by omega, fun z => by omega, fun _ => ⟨by omega, by omega, by omega, fun q => ⟨by omega, ?_⟩, fun q => PI_i (h w (Or.inr ⟨w, by omega, rfl, q, hw⟩))⟩⟩
    have := ih (fun w' h' => by
      by_cases ew : w' = w
      · rw [ew]; exact q
      · exact hw w' (by omega))
    exact this
theorem c11_nameOf {kd c : Nat} {v : Int} (kc : kd ≤ 1) (ec : X 518 kd = c) (c10 : c ≤ 10) (h : ∀ x : Int, ((x = -1 ∧ ∀ w : Nat, w < c → X 519 (10 * kd + w) ≠ v) ∨ (∃ w : Nat, w < c ∧ x = (w : Int) ∧ X 519 (10 * kd + w) = v ∧ ∀ w', w' < w → X 519 (10 * kd + w') ≠ v)) → KI x X) : CI mX11_nameOf (d + 1) [vR 489, vI (kd : Int), vL v] X KI := by
  refine bk_X11_nameOf_0 ?_
  have := nof_3 (d := d) kc ec c10 h c 0 (by omega) (fun w' h' => by omega)
  exact this
end MNM
