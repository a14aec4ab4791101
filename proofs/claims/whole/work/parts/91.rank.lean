def sh1 (δ : Int) (x : Sp) : Sp := (x.1, x.2.1, x.2.2 + δ)
def sh2 (δ : Int) (x : Lg) : Lg := (x.1, x.2.1, x.2.2.1 + δ, x.2.2.2 + δ)
theorem run_shift (I : HI) (s δ : Int) : ∀ (q : List Int) (c t : Int), runW I s c (t + δ) q = (runW I s c t q).map (sh1 δ)
  | [], c, t => rfl
  | x :: q, c, t => by
    unfold runW
    split
    · rw [show t + δ + (x - 100) = t + (x - 100) + δ from by omega, run_shift I s δ q]
      rfl
    · rw [show t + δ + miM I s (laneM I c x) = t + miM I s (laneM I c x) + δ from by omega, run_shift I s δ q]
      rfl
theorem legs_shift (δ : Int) : ∀ (W : List Sp) (t : Int), legs (t + δ) (W.map (sh1 δ)) = (legs t W).map (sh2 δ)
  | [], t => rfl
  | x :: W, t => by
    show (if x.2.1 = -1 then legs (x.2.2 + δ) (W.map (sh1 δ)) else (x.1, x.2.1, t + δ, x.2.2 + δ) :: legs (x.2.2 + δ) (W.map (sh1 δ))) = _
    rw [legs_shift δ W]
    show _ = (if x.2.1 = -1 then legs x.2.2 W else (x.1, x.2.1, t, x.2.2) :: legs x.2.2 W).map (sh2 δ)
    split <;> rfl
theorem endS_shift (δ : Int) : ∀ (W : List Sp) (t : Int), endS (t + δ) (W.map (sh1 δ)) = endS t W + δ
  | [], t => rfl
  | x :: W, t => endS_shift δ W x.2.2
theorem AL_shift {I : HI} {t : Nat} {δ : Int} : ∀ (L : List Lg) (i : Int), AL I t 0 i L → AL I t δ i (L.map (sh2 δ))
  | [], i, h => h
  | x :: L, i, h => by
    obtain ⟨h1, h2, h3, h4, h5, h6⟩ := h
    exact ⟨h1, h2, h3, by show _ = x.2.2.1 + δ; omega, by show _ = x.2.2.2 + δ; omega, AL_shift L (i + 1) h6⟩
theorem TW_late {I X : HI} {s : Int} {t n : Nat} {δ : Int} {q : List Int} (d0 : 0 < δ) (h : TW X t n 0 (hm I s) (wy I s q)) : TW X t n δ (hm I s) (wy I s ((100 + δ) :: q)) := by
  obtain ⟨⟨h1, h2, h3, h4, h5⟩, h6, h7, h8, h9⟩ := h
  have ew : wy I s ((100 + δ) :: q) = (hm I s, -1, δ) :: (wy I s q).map (sh1 δ) := by
    unfold wy
    conv => lhs; unfold runW
    rw [if_pos (by omega), show (0 : Int) + (100 + δ - 100) = 0 + δ from by omega, run_shift]
    rw [Int.zero_add]
  have el : legs 0 (wy I s ((100 + δ) :: q)) = (legs 0 (wy I s q)).map (sh2 δ) := by
    rw [ew]
    show (if (-1 : Int) = -1 then legs δ _ else _) = _
    rw [if_pos rfl]
    have := legs_shift δ (wy I s q) 0
    rw [Int.zero_add] at this
    exact this
  refine ⟨⟨h1, h2, by rw [el]; exact AL_shift _ _ h3, by rw [el, List.length_map]; exact h4, h5⟩, ?_, ?_, ?_, h9⟩
  · rw [ew]
    show X t 5 + δ = endS δ ((wy I s q).map (sh1 δ))
    have := endS_shift δ (wy I s q) 0
    rw [Int.zero_add] at this
    rw [this]
    omega
  · rw [el]
    refine ⟨h7.1, h7.2.1, fun l l0 l1 => (h7.2.2 l l0 l1).trans ⟨fun ⟨x, hx, e⟩ => ⟨sh2 δ x, List.mem_map.mpr ⟨x, hx, rfl⟩, e⟩, fun ⟨y, hy, e⟩ => ?_⟩⟩
    obtain ⟨x, hx, rfl⟩ := List.mem_map.mp hy
    exact ⟨x, hx, e⟩
  · rw [ew]
    simp
    omega
/-- a choice: its track, the track's room, how late -/
def chT (s x : Nat) : Nat := if x = 0 then 37 + 5 * s else 77 + 5 * (20 * s + (x - 1) / 3)
def chN (x : Nat) : Nat := if x = 0 then 25 else 10
def chL (x : Nat) : Int := if x = 0 then 0 else 5 * (((x - 1) % 3 : Nat) : Int)
def chc (I : HI) (cs : Int → List Int) (s : Int) (x : Nat) : List Int := if x = 0 then cs s else opc I s (x - 1)
def chw (I : HI) (cs : Int → List Int) (s : Int) (x : Nat) : List Sp := wy I s (chc I cs s x)
/-- ranks: positions behind b, by ends and numbers -/
def lsE (E : Nat → Int) (b : Nat) (u v : Int) : Prop := E (b + u.toNat) < E (b + v.toNat) ∨ (E (b + u.toNat) = E (b + v.toNat) ∧ u < v)
def RKs (A E : Nat → Int) (b N : Nat) : Prop := A b = 0 ∧ (∀ n, 1 ≤ n → n ≤ N → 1 ≤ A (b + n) ∧ A (b + n) ≤ N) ∧ (∀ c : Nat, 1 ≤ c → c ≤ N → ∃ n, 1 ≤ n ∧ n ≤ N ∧ A (b + n) = c) ∧ (∀ n n', 1 ≤ n → n < n' → n' ≤ N → lsE E b (A (b + n)) (A (b + n')))
theorem RKs_le {A E : Nat → Int} {b N n n' : Nat} (h : RKs A E b N) (n0 : 1 ≤ n) (nn : n ≤ n') (n1 : n' ≤ N) : E (b + (A (b + n)).toNat) ≤ E (b + (A (b + n')).toNat) := by
  by_cases e : n = n'
  · rw [e]; exact Int.le_refl _
  · rcases h.2.2.2 n n' n0 (by omega) n1 with z | z <;> omega
theorem RKs_ins {A A' E E' : Nat → Int} {b m p : Nat} (h : RKs A E b m) (p0 : 1 ≤ p) (p1 : p ≤ m + 1) (eE : ∀ c, 1 ≤ c → c ≤ m → E' (b + c) = E (b + c)) (a0 : ∀ n, n < p → A' (b + n) = A (b + n)) (ap : A' (b + p) = ((m + 1 : Nat) : Int)) (a1 : ∀ n, p < n → n ≤ m + 1 → A' (b + n) = A (b + (n - 1))) (g1 : ∀ n, p ≤ n → n ≤ m → E' (b + (m + 1)) < E (b + (A (b + n)).toNat)) (g0 : p = 1 ∨ E (b + (A (b + (p - 1))).toNat) ≤ E' (b + (m + 1))) : RKs A' E' b (m + 1) := by
  obtain ⟨h0, h1, h2, h3⟩ := id h
  have em : (((m + 1 : Nat) : Int)).toNat = m + 1 := by omega
  have eA : ∀ n, 1 ≤ n → n ≤ m → E' (b + (A (b + n)).toNat) = E (b + (A (b + n)).toNat) := fun n n0 n1 => by
    have := h1 n n0 n1
    exact eE _ (by omega) (by omega)
  refine ⟨by have := a0 0 (by omega); rw [Nat.add_zero] at this; rw [this]; exact h0, fun n n0 n1 => ?_, fun c c0 c1 => ?_, fun n n' n0 nn n1 => ?_⟩
  · rcases Nat.lt_trichotomy n p with q | q | q
    · rw [a0 n q]
      have := h1 n n0 (by omega)
      omega
    · rw [q, ap]
      omega
    · rw [a1 n q n1]
      have := h1 (n - 1) (by omega) (by omega)
      omega
  · by_cases ec : c = m + 1
    · exact ⟨p, p0, by omega, by rw [ap, ec]⟩
    · obtain ⟨n, n0, n1, n2⟩ := h2 c c0 (by omega)
      by_cases q : n < p
      · exact ⟨n, n0, by omega, by rw [a0 n q]; exact n2⟩
      · refine ⟨n + 1, by omega, by omega, ?_⟩
        rw [a1 (n + 1) (by omega) (by omega)]
        exact n2
  · unfold lsE
    rcases Nat.lt_trichotomy n' p with q | q | q
    · rw [a0 n (by omega), a0 n' q, eA n n0 (by omega), eA n' (by omega) (by omega)]
      exact h3 n n' n0 nn (by omega)
    · subst q
      rw [a0 n nn, ap, em, eA n n0 (by omega)]
      have l1 := RKs_le h n0 (show n ≤ n' - 1 from by omega) (by omega)
      have l2 := h1 n n0 (by omega)
      rcases g0 with g0 | g0 <;> omega
    · rw [a1 n' q n1]
      have r' := h1 (n' - 1) (by omega) (by omega)
      rw [eA (n' - 1) (by omega) (by omega)]
      rcases Nat.lt_trichotomy n p with z | z | z
      · rw [a0 n z, eA n n0 (by omega)]
        exact h3 n (n' - 1) n0 (by omega) (by omega)
      · rw [z, ap, em]
        exact Or.inl (g1 (n' - 1) (by omega) (by omega))
      · rw [a1 n z (by omega), eA (n - 1) (by omega) (by omega)]
        exact h3 (n - 1) (n' - 1) (by omega) (by omega) (by omega)
section RK
variable {d : Nat} {I : HI} {K : HI → Prop} {KI : Int → HI → Prop} {K2 : Int → Int → HI → Prop} {cs : Int → List Int} {H : List Sn}
theorem c5_trackOf {s x : Nat} {KR : Nat → Nat → HI → Prop} (s4 : s < 4) (x61 : x ≤ 60) (h : KR (chT s x) (chN x) I) : CR mX5_trackOf (d + 1) [vR 69, vI (s : Int), vI (x : Int)] I KR := by
  refine bk_X5_trackOf_0 ⟨fun q => ?_, fun q => ⟨by omega, PR_i (n := 25) ?_ ?_⟩⟩
  · rw [oD_div (by omega) (by omega) (by omega) (by omega)]
    have e : ((s : Int) * 20 + ((x : Int) - 1) / 3).toNat = 20 * s + (x - 1) / 3 := by omega
    rw [e]
    unfold chT chN at h
    rw [if_neg (by omega), if_neg (by omega)] at h
    exact ⟨by omega, by omega, by omega, by omega, PR_i (n := 10) (TRo_n (by omega)) h⟩
  · rw [Int.toNat_natCast]
    exact (TRw_all s s4).1
  · unfold chT chN at h
    rw [if_pos (by omega), if_pos (by omega)] at h
    rw [Int.toNat_natCast]
    exact h
theorem c5_lateOf {x : Nat} (x61 : x ≤ 60) (h : KI (chL x) I) : CI mX5_lateOf (d + 1) [vR 69, vI (x : Int)] I KI := by
  refine bk_X5_lateOf_0 ⟨fun q => ?_, fun q => PI_i (K_eq h ?_)⟩
  · rw [oM_mod (by omega) (by omega) (by omega) (by omega)]
    refine ⟨by omega, by omega, PI_i (K_eq h ?_)⟩
    unfold chL
    rw [if_neg (by omega)]
    omega
  · unfold chL
    rw [if_pos (by omega)]
def RkF (s : Nat) (I X : HI) : Prop := (∀ k, k ≠ 72 → k ≠ 73 → X k = I k) ∧ (∀ j, (j < 61 * s ∨ 61 * s + 61 ≤ j) → X 72 j = I 72 j ∧ X 73 j = I 73 j)
theorem RkF_rfl (s : Nat) (I : HI) : RkF s I I := ⟨fun _ _ _ => rfl, fun _ _ => ⟨rfl, rfl⟩⟩
theorem RkF_tr {s : Nat} {I X Y : HI} (h : RkF s I X) (g : RkF s X Y) : RkF s I Y := ⟨fun k h1 h2 => by rw [g.1 k h1 h2, h.1 k h1 h2], fun j hj => ⟨by rw [(g.2 j hj).1, (h.2 j hj).1], by rw [(g.2 j hj).2, (h.2 j hj).2]⟩⟩
theorem ins_lp {s m : Nat} {en : Int} {X0 : HI} (s4 : s < 4) (m60 : m + 1 ≤ 60) (hk : RKs (X0 73) (X0 72) (61 * s) m) (hE : X0 72 (61 * s + (m + 1)) = en) (h : ∀ Y : HI, (∀ k, k ≠ 73 → Y k = X0 k) → (∀ j, (j < 61 * s ∨ 61 * s + 61 ≤ j) → Y 73 j = X0 73 j) → RKs (Y 73) (Y 72) (61 * s) (m + 1) → J none mX5_rank (d + 2) 0 0 14 [(0, vR 69), (1, vI (s : Int)), (2, vI ((61 * s : Nat) : Int)), (3, vI (((m + 1 : Nat) : Int) + 1))] [] (mk Y) (PV K)) : ∀ (n p : Nat) (X : HI), p = n + 1 → p ≤ m + 1 → (∀ k, k ≠ 73 → X k = X0 k) → (∀ j, (j < 61 * s + p ∨ 61 * s + (m + 1) < j) → X 73 j = X0 73 j) → (∀ n, p < n → n ≤ m + 1 → X 73 (61 * s + n) = X0 73 (61 * s + (n - 1))) → (∀ n, p ≤ n → n ≤ m → en < X0 72 (61 * s + (X0 73 (61 * s + n)).toNat)) → J none mX5_rank (d + 2) 0 0 56 [(0, vR 69), (1, vI (s : Int)), (2, vI ((61 * s : Nat) : Int)), (3, vI ((m + 1 : Nat) : Int)), (4, vI (p : Int)), (5, vI en)] [] (mk X) (PV K) := by
  intro n
  have fin : ∀ (p : Nat) (X Y : HI), 1 ≤ p → p ≤ m + 1 → (∀ k, k ≠ 73 → X k = X0 k) → (∀ j, (j < 61 * s + p ∨ 61 * s + (m + 1) < j) → X 73 j = X0 73 j) → (∀ n, p < n → n ≤ m + 1 → X 73 (61 * s + n) = X0 73 (61 * s + (n - 1))) → (∀ n, p ≤ n → n ≤ m → en < X0 72 (61 * s + (X0 73 (61 * s + n)).toNat)) → (p = 1 ∨ X0 72 (61 * s + (X0 73 (61 * s + (p - 1))).toNat) ≤ en) → Y = up X 73 (61 * s + p) ((m + 1 : Nat) : Int) → J none mX5_rank (d + 2) 0 0 14 [(0, vR 69), (1, vI (s : Int)), (2, vI ((61 * s : Nat) : Int)), (3, vI (((m + 1 : Nat) : Int) + 1))] [] (mk Y) (PV K) := by
    intro p X Y p0 p1 f1 f2 f3 f4 f5 e
    refine h Y (fun k hk => by rw [e, up_k hk, f1 k hk]) (fun j hj => by rw [e, up_j (by omega), f2 j (by omega)]) ?_
    have e72 : Y 72 = X0 72 := by rw [e, up_k (by decide), f1 72 (by decide)]
    refine RKs_ins hk p0 p1 (fun c _ _ => by rw [e72]) (fun n hn => by rw [e, up_j (by omega), f2 _ (by omega)]) (by rw [e, up_e]) (fun n n0 n1 => by rw [e, up_j (by omega), f3 n n0 n1]) (fun n n0 n1 => by rw [e72, hE]; exact f4 n n0 n1) ?_
    rw [e72, hE]
    exact f5
  induction n with
  | zero =>
    intro p X ep p1 f1 f2 f3 f4
    refine bk_X5_rank_56 ⟨fun q => ⟨by omega, by omega, fun I1 e1 => ⟨by omega, ?_⟩⟩, fun q => by omega⟩
    have ei : (((61 * s : Nat) : Int) + (p : Int)).toNat = 61 * s + p := by omega
    rw [ei] at e1
    exact fin p X I1 (by omega) p1 f1 f2 f3 f4 (Or.inl (by omega)) e1
  | succ n ih =>
    intro p X ep p1 f1 f2 f3 f4
    have rA := hk.2.1 (p - 1) (by omega) (by omega)
    have ei : (((61 * s : Nat) : Int) + (p : Int)).toNat = 61 * s + p := by omega
    have ej : (((61 * s : Nat) : Int) + (p : Int) - 1).toNat = 61 * s + (p - 1) := by omega
    have eA : X 73 (61 * s + (p - 1)) = X0 73 (61 * s + (p - 1)) := f2 _ (by omega)
    refine bk_X5_rank_56 ⟨fun q => by omega, fun q => ?_⟩
    rw [ei, ej, eA, f1 72 (by decide)]
    have eu : (((61 * s : Nat) : Int) + X0 73 (61 * s + (p - 1))).toNat = 61 * s + (X0 73 (61 * s + (p - 1))).toNat := by omega
    rw [eu]
    refine ⟨by omega, by omega, by omega, by omega, by omega, fun q2 => ⟨by omega, by omega, fun I2 e2 => ⟨by omega, ?_⟩⟩, fun q2 => ⟨by omega, by omega, by omega, by omega, by omega, fun I3 e3 => ⟨by omega, ?_⟩⟩⟩
    · exact fin p X I2 (by omega) p1 f1 f2 f3 f4 (Or.inr q2) e2
    · have := ih (p - 1) I3 (by omega) (by omega) (fun k hk => by rw [e3, up_k hk, f1 k hk]) (fun j hj => by rw [e3, up_j (by omega), f2 j (by omega)]) (fun n n0 n1 => by
        by_cases en' : n = p
        · rw [en', e3, up_e]
        · rw [e3, up_j (by omega), f3 n (by omega) n1]) (fun n n0 n1 => by
        by_cases en' : n = p - 1
        · rw [en']
          omega
        · exact f4 n (by omega) n1)
      rw [show (p : Int) + (-1) = ((p - 1 : Nat) : Int) from by omega]
      exact this
theorem c5_rank {s : Nat} {X : HI} (hT : CTY I) (s1 : (s : Int) < I 518 6) (cX : CF I X) (hR : CRt I X s (rts I s)) (h : ∀ Y : HI, RkF s X Y → (∀ c : Nat, 1 ≤ c → c ≤ 3 * (rts I s).length → Y 72 (61 * s + c) = endS 0 (wy I s (opc I s (c - 1)))) → RKs (Y 73) (Y 72) (61 * s) (3 * (rts I s).length) → K Y) : CV mX5_rank (d + 2) [vR 69, vI (s : Int)] X K := by
  have n6 := hT.1.2.2.1
  have s4 : s < 4 := by omega
  have rl := rts_len (I := I) (s : Int)
  have lp : ∀ (n m : Nat) (Y : HI), m + n = 3 * (rts I (s : Int)).length → RkF s X Y → (∀ c : Nat, 1 ≤ c → c ≤ m → Y 72 (61 * s + c) = endS 0 (wy I s (opc I s (c - 1)))) → RKs (Y 73) (Y 72) (61 * s) m → J none mX5_rank (d + 2) 0 0 14 [(0, vR 69), (1, vI (s : Int)), (2, vI ((61 * s : Nat) : Int)), (3, vI ((m : Int) + 1))] [] (mk Y) (PV K) := by
    intro n
    induction n with
    | zero =>
      intro m Y e fY hE hk
      refine bk_X5_rank_14 ?_
      rw [Int.toNat_natCast, fY.1 71 (by decide) (by decide), hR.1]
      refine ⟨by omega, by omega, fun _ => PV_i (h Y fY (fun c c0 c1 => hE c c0 (by omega)) ?_), fun q => by omega⟩
      rw [show 3 * (rts I (s : Int)).length = m from by omega]
      exact hk
    | succ n ih =>
      intro m Y e fY hE hk
      have ho : m < 3 * (rts I (s : Int)).length := by omega
      have ok := (opc_ok hT (s := (s : Int)) (by omega) s1 ho).1
      have tw := hR.2 (m / 3) ((rts I (s : Int)).getD (m / 3) []) (by
        rw [List.getD_eq_getElem?_getD, List.getElem?_eq_getElem (show m / 3 < (rts I (s : Int)).length from by omega)]
        rfl)
      have tw2 : TW X (77 + 5 * (20 * s + m / 3)) 10 (5 * ((m % 3 : Nat) : Int)) (hm I (s : Int)) (wy I (s : Int) (opc I (s : Int) m)) := by
        unfold opc
        by_cases q : m % 3 = 0
        · rw [if_pos q, q]
          exact tw
        · rw [if_neg q]
          exact TW_late (by omega) tw
      have t5 := tw2.2.1
      have enn := endS_nn (run_ok hT.1 hT.2.1 hT.2.2.1 (s := (s : Int)) (by omega) s1 _ _ 0 ok.1)
      have e9 := ok.2.2
      unfold wy at t5 e9
      refine bk_X5_rank_14 ?_
      rw [Int.toNat_natCast, fY.1 71 (by decide) (by decide), hR.1]
      refine ⟨by omega, by omega, fun q => by omega, fun _ => ?_⟩
      have ex : ((m : Int) + 1) = ((m + 1 : Nat) : Int) := by omega
      rw [ex]
      refine c5_trackOf s4 (by omega) (c5_lateOf (by omega) ?_)
      have ct : chT s (m + 1) = 77 + 5 * (20 * s + m / 3) := by
        unfold chT
        rw [if_neg (by omega)]
        simp
      have cl : chL (m + 1) = 5 * ((m % 3 : Nat) : Int) := by
        unfold chL
        rw [if_neg (by omega)]
        simp
      rw [ct, cl, fY.1 (77 + 5 * (20 * s + m / 3)) (by omega) (by omega), t5]
      refine ⟨by omega, by omega, by omega, fun I3 e3 => ?_⟩
      have ei : (((61 * s : Nat) : Int) + ((m + 1 : Nat) : Int)).toNat = 61 * s + (m + 1) := by omega
      rw [ei] at e3
      have f3 : ∀ k, k ≠ 72 → I3 k = Y k := fun k hk => by rw [e3, up_k hk]
      refine ins_lp s4 (by omega) ?_ (by rw [e3, up_e]) (fun Z z1 z2 hz => ?_) m (m + 1) I3 rfl (by omega) (fun _ _ => rfl) (fun _ _ => rfl) (fun n n0 n1 => by omega) (fun n n0 n1 => by omega)
      · obtain ⟨k0, k1, k2, k3⟩ := hk
        rw [f3 73 (by decide)]
        refine ⟨k0, k1, k2, fun a b a0 ab b1 => ?_⟩
        have q1 := k1 a a0 (by omega)
        have q2 := k1 b (by omega) b1
        have := k3 a b a0 ab b1
        unfold lsE at this ⊢
        rw [e3, up_j (by omega), up_j (by omega)]
        exact this
      · refine ih (m + 1) Z (by omega) ⟨fun k h1 h2 => by rw [z1 k h2, f3 k h1, fY.1 k h1 h2], fun j hj => ⟨by rw [z1 72 (by decide), e3, up_j (by omega), (fY.2 j hj).1], by rw [z2 j hj, f3 73 (by decide), (fY.2 j hj).2]⟩⟩ (fun c c0 c1 => ?_) hz
        rw [z1 72 (by decide), e3]
        by_cases ec : c = m + 1
        · rw [ec, up_e]
          rfl
        · rw [up_j (by omega)]
          exact hE c c0 (by omega)
  refine bk_X5_rank_0 ⟨by omega, by omega, fun I1 e1 => ?_⟩
  have ei : ((s : Int) * 61).toNat = 61 * s := by omega
  have ei2 : (s : Int) * 61 = ((61 * s : Nat) : Int) := by omega
  rw [ei] at e1
  rw [ei2]
  refine lp (3 * (rts I (s : Int)).length) 0 I1 (by omega) ?_ (fun c c0 c1 => by omega) ?_
  · rw [e1]
    exact ⟨fun k h1 h2 => up_k h2, fun j hj => ⟨by rw [up_k (by decide)], up_j (by omega)⟩⟩
  · exact ⟨by rw [e1, up_e], fun n n0 n1 => by omega, fun c c0 c1 => by omega, fun n n' n0 nn n1 => by omega⟩
end RK
