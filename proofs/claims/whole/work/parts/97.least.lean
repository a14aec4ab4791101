/-- what a dive changes -/
def DFr (I X : HI) : Prop := (∀ k, (k < 57 ∨ 66 < k) → k ≠ 75 → k ≠ 76 → k ≠ 477 → k ≠ 478 → k ≠ 480 → k ≠ 481 → X k = I k) ∧ (∀ j, j ≠ 6 → X 62 j = I 62 j) ∧ (∀ j, j ≠ 8 → X 477 j = I 477 j)
theorem DFr_rfl (I : HI) : DFr I I := ⟨fun _ _ _ _ _ _ _ _ => rfl, fun _ _ => rfl, fun _ _ => rfl⟩
theorem DFr_tr {I X Y : HI} (h : DFr I X) (g : DFr X Y) : DFr I Y := ⟨fun k h1 h2 h3 h4 h5 h6 h7 => by rw [g.1 k h1 h2 h3 h4 h5 h6 h7, h.1 k h1 h2 h3 h4 h5 h6 h7], fun j hj => by rw [g.2.1 j hj, h.2.1 j hj], fun j hj => by rw [g.2.2 j hj, h.2.2 j hj]⟩
theorem DFr_j {I X : HI} (h : JFr I X) : DFr I X := ⟨fun k h1 h2 h3 _ _ _ _ => h.1 k h1 h2 h3, h.2, fun j _ => by rw [h.1 477 (by omega) (by omega) (by omega)]⟩
theorem CF_d {I X : HI} (h : DFr I X) : CF I X := ⟨fun k hk => h.1 k (by omega) (by omega) (by omega) (by omega) (by omega) (by omega) (by omega), by rw [h.1 489 (by omega) (by omega) (by omega) (by omega) (by omega) (by omega) (by omega)]⟩
theorem sh_d {I X : HI} (h : DFr I X) : X 489 63 = I 489 63 ∧ X 489 64 = I 489 64 := by
  rw [h.1 489 (by omega) (by omega) (by omega) (by omega) (by omega) (by omega) (by omega)]
  exact ⟨rfl, rfl⟩
theorem KNW_47 {I X : HI} {cs : Int → List Int} (h : KNW I cs) (f : ∀ k, k ≠ 477 → k ≠ 478 → k ≠ 479 → k ≠ 480 → k ≠ 481 → X k = I k) : KNW X cs := by
  obtain ⟨h1, h2, h3, h4, h5⟩ := h
  have c : CF I X := ⟨fun k hk => f k (by omega) (by omega) (by omega) (by omega) (by omega), by rw [f 489 (by omega) (by omega) (by omega) (by omega) (by omega)]⟩
  have e489 := f 489 (by omega) (by omega) (by omega) (by omega) (by omega)
  have e75 := f 75 (by omega) (by omega) (by omega) (by omega) (by omega)
  have e76 := f 76 (by omega) (by omega) (by omega) (by omega) (by omega)
  refine ⟨CWs_fr h1 c (by rw [e489]) (f 33 (by omega) (by omega) (by omega) (by omega) (by omega)) (fun k k1 k2 => f k (by omega) (by omega) (by omega) (by omega) (by omega)), RTs_fr c (by rw [e489]) h1.1.1.2.2.1.2 (fun k k1 k2 => f k (by omega) (by omega) (by omega) (by omega) (by omega)) h2, ?_, FIT_fr c (by rw [e489]) (by rw [e489]) e75 e76 h4, RCu_fr h5 (fun k k1 k2 => f k (by omega) (by omega) (by omega) (by omega) (by omega)) (f 518 (by omega) (by omega) (by omega) (by omega) (by omega)) (f 524 (by omega) (by omega) (by omega) (by omega) (by omega)) (f 526 (by omega) (by omega) (by omega) (by omega) (by omega)) (f 527 (by omega) (by omega) (by omega) (by omega) (by omega))⟩
  unfold SUB at h3 ⊢
  rw [e75, e76]
  exact h3
/-- the members at work -/
def MSs (I : HI) (ms : List Nat) : Prop := I 477 7 = ms.length ∧ (∀ (i t : Nat), ms[i]? = some t → I 479 i = t) ∧ ms.length ≤ 4 ∧ (∀ t ∈ ms, (t : Int) < I 518 6) ∧ ms.Pairwise (fun a b => a < b)
/-- the order of choices -/
def od (I : HI) (bn : Int) (s : Nat) : List Nat := (List.range' 0 (3 * (rts I s).length + 1)).map (fun n => if bn = 0 then rk I s n else n)
section DV
variable {d : Nat} {I : HI} {KI : Int → HI → Prop} {cs : Int → List Int}
theorem od_le (hk : KNW I cs) {bn : Int} {s y : Nat} (s1 : (s : Int) < I 518 6) (h : y ∈ od I bn s) : y ≤ 3 * (rts I s).length := by
  unfold od at h
  obtain ⟨n, hn, e⟩ := List.mem_map.mp h
  rw [List.mem_range'_1] at hn
  rw [← e]
  split
  · exact (rk_v hk s1 (by omega)).2.1
  · omega
theorem od_all (hk : KNW I cs) {bn : Int} {s y : Nat} (s1 : (s : Int) < I 518 6) : y ∈ od I bn s ↔ y ≤ 3 * (rts I s).length := by
  refine ⟨od_le hk s1, fun h => ?_⟩
  unfold od
  by_cases e : bn = 0
  · obtain ⟨n, n1, n2⟩ := rk_on hk s1 h
    exact List.mem_map.mpr ⟨n, List.mem_range'_1.mpr ⟨by omega, by omega⟩, by rw [if_pos e]; exact n2⟩
  · exact List.mem_map.mpr ⟨y, List.mem_range'_1.mpr ⟨by omega, by omega⟩, by rw [if_neg e]⟩
theorem least_lp {ms : List Nat} {r : Nat} {l0 : Int} (hk : KNW I cs) (hms : MSs I ms) (r4 : r ≤ 4) : ∀ (q2 q1 : List Nat) (a : Int), ms = q1 ++ q2 → 0 ≤ a → a ≤ 100000 * q1.length → (∀ t ∈ q2, ∀ y, y < 64 → lb (I 478 (r * 4 + t)) y = true → y ≤ 3 * (rts I t).length ∧ (y = 0 → I 477 9 ≠ 0)) → (∀ v, 0 ≤ v → (∀ ys : List Nat, ys.length = q2.length → (∀ (i t y : Nat), q2[i]? = some t → ys[i]? = some y → y < 64 ∧ lb (I 478 (r * 4 + t)) y = true) → v ≤ cst (prc I cs (I 477 9)) q2 ys) → KI (min (a + v) 100000) I) → J none mX6_leastBehind (d + 4) 0 0 7 [(0, vR 477), (1, vI l0), (2, vI (r : Int)), (3, vI a), (4, vI (q1.length : Int))] [] (mk I) (PI KI)
  | [], q1, a, e, a0, a1, hv, h => by
    rw [List.append_nil] at e
    refine bk_X6_leastBehind_7 ?_
    rw [hms.1, e]
    refine ⟨fun _ => PI_i ?_, fun q => by omega⟩
    have := h 0 (Int.le_refl _) (fun ys hl _ => by cases ys <;> exact Int.le_refl _)
    rw [Int.add_zero] at this
    exact this
  | t :: q2, q1, a, e, a0, a1, hv, h => by
    have n6 := hk.1.1.1.2.2.1
    have lm : ms.length = q1.length + (q2.length + 1) := by rw [e]; simp
    have l4 := hms.2.2.1
    have ht : ms[q1.length]? = some t := by rw [e]; simp
    have t1 := hms.2.2.2.1 t (List.mem_of_getElem? ht)
    refine bk_X6_leastBehind_7 ?_
    rw [hms.1, Int.toNat_natCast, hms.2.1 _ _ ht, show ((r : Int) * 4 + (t : Int)).toNat = r * 4 + t from by omega]
    refine ⟨fun q => by omega, fun _ => ⟨by omega, by omega, by omega, by omega, by omega, ?_⟩⟩
    refine c6_cheapest hk t1 (hv t List.mem_cons_self) (fun c c0 c1 cb => ⟨by omega, by omega, ?_⟩)
    have := least_lp (l0 := l0) hk hms r4 q2 (q1 ++ [t]) (a + c) (by rw [e]; simp) (by omega) (by rw [List.length_append, List.length_singleton]; omega) (fun u hu => hv u (List.mem_cons_of_mem _ hu)) (fun v v0 vb => by
      have := h (c + v) (by omega) (fun ys hl hy => by
        cases ys with
        | nil => simp at hl
        | cons y ys =>
          have y1 := hy 0 t y rfl rfl
          have b1 := cb y y1.1 y1.2
          have b2 := vb ys (by simpa using hl) (fun i u z h1 h2 => hy (i + 1) u z (by simpa using h1) (by simpa using h2))
          show c + v ≤ prc I cs (I 477 9) t y + cst (prc I cs (I 477 9)) q2 ys
          omega)
      rw [← Int.add_assoc] at this
      exact this)
    rw [List.length_append, List.length_singleton] at this
    exact this
theorem c6_leastBehind {ms ms1 ms2 : List Nat} {s r : Nat} (hk : KNW I cs) (hms : MSs I ms) (e : ms = ms1 ++ s :: ms2) (r4 : r ≤ 4) (hv : ∀ t ∈ ms2, ∀ y, y < 64 → lb (I 478 (r * 4 + t)) y = true → y ≤ 3 * (rts I t).length ∧ (y = 0 → I 477 9 ≠ 0)) (h : ∀ v, 0 ≤ v → v ≤ 100000 → (∀ ys : List Nat, ys.length = ms2.length → (∀ (i t y : Nat), ms2[i]? = some t → ys[i]? = some y → y < 64 ∧ lb (I 478 (r * 4 + t)) y = true) → v ≤ cst (prc I cs (I 477 9)) ms2 ys) → KI v I) : CI mX6_leastBehind (d + 4) [vR 477, vI (ms1.length : Int), vI (r : Int)] I KI := by
  have l4 := hms.2.2.1
  have lm : ms.length = ms1.length + (ms2.length + 1) := by rw [e]; simp
  refine bk_X6_leastBehind_0 ⟨by omega, ?_⟩
  have := least_lp (d := d) (KI := KI) (l0 := (ms1.length : Int)) hk hms r4 ms2 (ms1 ++ [s]) 0 (by rw [e]; simp) (by omega) (by rw [List.length_append, List.length_singleton]; omega) hv (fun v v0 vb => by
    rw [Int.zero_add]
    refine h _ (by omega) (by omega) (fun ys hl hy => ?_)
    have := vb ys hl hy
    omega)
  rw [List.length_append, List.length_singleton] at this
  exact this
theorem best_lp {ms xs : List Nat} {a2 l0 : Int} {X0 : HI} {K : HI → Prop} (m4 : ms.length ≤ 4) (e7 : X0 477 7 = ms.length) (e9 : ∀ (i t : Nat), ms[i]? = some t → X0 479 i = t) (t4 : ∀ t ∈ ms, t < 4) (e0 : ∀ (i x : Nat), xs[i]? = some x → X0 480 i = x) (hl : xs.length = ms.length) (h : ∀ Y : HI, (∀ k, k ≠ 481 → Y k = X0 k) → Y 481 = wrs (X0 481) ms xs → K Y) : ∀ (m2 m1 x2 x1 : List Nat) (Z : HI), ms = m1 ++ m2 → xs = x1 ++ x2 → x1.length = m1.length → (∀ k, k ≠ 481 → Z k = X0 k) → wrs (Z 481) m2 x2 = wrs (X0 481) ms xs → J none mX6_dive (d + 1) 0 0 26 [(0, vR 477), (1, vI l0), (2, vI a2), (3, vI (m1.length : Int))] [] (mk Z) (PV K)
  | [], m1, x2, x1, Z, em, ex, el, fZ, hw => by
    rw [List.append_nil] at em
    refine bk_X6_dive_26 ?_
    rw [fZ 477 (by decide), e7, em]
    refine ⟨fun _ => PV_i (h Z fZ ?_), fun q => by omega⟩
    rw [← hw]
    cases x2 <;> rfl
  | t :: m2, m1, x2, x1, Z, em, ex, el, fZ, hw => by
    have lm : ms.length = m1.length + (m2.length + 1) := by rw [em]; simp
    cases x2 with
    | nil =>
      rw [List.append_nil] at ex
      rw [ex] at hl
      omega
    | cons x x2 =>
      have ht : ms[m1.length]? = some t := by rw [em]; simp
      have hx : xs[m1.length]? = some x := by rw [ex, ← el]; simp
      have tt := t4 t (List.mem_of_getElem? ht)
      refine bk_X6_dive_26 ?_
      rw [fZ 477 (by decide), e7, Int.toNat_natCast, fZ 479 (by decide), fZ 480 (by decide), e9 _ _ ht, e0 _ _ hx, Int.toNat_natCast]
      refine ⟨fun q => by omega, fun _ => ⟨by omega, by omega, by omega, fun I1 e1 => ⟨by omega, ?_⟩⟩⟩
      have e481 : I1 481 = fun j => if j = t then (x : Int) else Z 481 j := by
        funext j
        rw [e1]
        by_cases ej : j = t
        · rw [ej, up_e, if_pos rfl]
        · rw [up_j ej, if_neg ej]
      have := best_lp (a2 := a2) (l0 := l0) m4 e7 e9 t4 e0 hl h m2 (m1 ++ [t]) x2 (x1 ++ [x]) I1 (by rw [em]; simp) (by rw [ex]; simp) (by simp [el]) (fun k hk => by rw [e1, up_k hk, fZ k hk]) (by rw [e481]; exact hw)
      rw [List.length_append, List.length_singleton] at this
      exact this
end DV
