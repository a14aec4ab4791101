/-- what the model's search for routes of s changes -/
def RFr (s : Nat) (I X : HI) : Prop := (∀ k, k ≠ 546 → k ≠ 547 → k ≠ 548 → X k = I k) ∧ (∀ j, j ≠ s → X 546 j = I 546 j) ∧ (∀ j, (j < 200 * s ∨ 200 * s + 200 ≤ j) → X 547 j = I 547 j)
theorem RFr_rfl (s : Nat) (I : HI) : RFr s I I := ⟨fun _ _ _ _ => rfl, fun _ _ => rfl, fun _ _ => rfl⟩
theorem RFr_tr {s : Nat} {I X Y : HI} (h : RFr s I X) (g : RFr s X Y) : RFr s I Y := ⟨fun k h1 h2 h3 => by rw [g.1 k h1 h2 h3, h.1 k h1 h2 h3], fun j hj => by rw [g.2.1 j hj, h.2.1 j hj], fun j hj => by rw [g.2.2 j hj, h.2.2 j hj]⟩
theorem CF_r {s : Nat} {I X : HI} (h : RFr s I X) : CF I X := ⟨fun k hk => h.1 k (by omega) (by omega) (by omega), by rw [h.1 489 (by omega) (by omega) (by omega)]⟩
def RowIs (X : HI) (p : List Int) : Prop := ∀ (i : Nat) (x : Int), p[i]? = some x → X 548 i = x
/-- the routes that the model has found -/
def MRt (X : HI) (s : Nat) (R : List (List Int)) : Prop := X 546 s = R.length ∧ ∀ (r : Nat) (q : List Int), R[r]? = some q → ∀ (i : Nat) (x : Int), q[i]? = some x → X 547 (200 * s + 10 * r + i) = x
theorem MRt_fr {X Y : HI} {s : Nat} {R : List (List Int)} (h : MRt X s R) (e6 : Y 546 s = X 546 s) (e7 : Y 547 = X 547) : MRt Y s R := by
  unfold MRt at h ⊢
  rw [e6, e7]
  exact h
theorem MRt_snoc {X Y : HI} {s : Nat} {R : List (List Int)} {p : List Int} (h : MRt X s R) (hq : ∀ q ∈ R, q.length ≤ 10) (e6 : Y 546 s = X 546 s + 1) (e7 : ∀ j, j < 200 * s + 10 * R.length → Y 547 j = X 547 j) (ep : ∀ (i : Nat) (x : Int), p[i]? = some x → Y 547 (200 * s + 10 * R.length + i) = x) : MRt Y s (R ++ [p]) := by
  refine ⟨by rw [e6, h.1, List.length_append, List.length_singleton]; omega, fun r q hr i x hx => ?_⟩
  by_cases e : r < R.length
  · rw [List.getElem?_append_left e] at hr
    have := hq q (List.mem_of_getElem? hr)
    have := ge_lt hx
    rw [e7 _ (by omega)]
    exact h.2 r q hr i x hx
  · have := ge_lt hr
    rw [List.length_append, List.length_singleton] at this
    obtain rfl : r = R.length := by omega
    rw [List.getElem?_concat_length] at hr
    cases hr
    exact ep i x hx
theorem tk_full {α : Type} {R A : List α} (h : R.length = 20) : (R ++ A).take 20 = R := by
  rw [List.take_append_of_le_length (by omega), List.take_of_length_le (by omega)]
section MR
variable {d : Nat} {I : HI} {K : HI → Prop} {KI : Int → HI → Prop} {K2 : Int → Int → HI → Prop} {cs : Int → List Int} {H : List Sn}
theorem used_lp {p : List Int} (hr : RowIs I p) (hp : ∀ x ∈ p, 0 ≤ x ∧ x < 10) (lp : p.length ≤ 10) (h : KI (sn I 0 p) I) : ∀ (q2 q1 : List Int) (s : Int), p = q1 ++ q2 → sn I s q2 = sn I 0 p → J none mX11_usedBy (d + 1) 0 0 4 [(0, vR 489), (1, vI (p.length : Int)), (2, vI s), (3, vI (q1.length : Int))] [] (mk I) (PI KI)
  | [], q1, s, e, hs => by
    refine bk_X11_usedBy_4 ⟨fun _ => PI_i (K_eq h hs.symm), fun q => ?_⟩
    rw [e, List.append_nil] at q
    omega
  | x :: q2, q1, s, e, hs => by
    have hl : p.length = q1.length + (q2.length + 1) := by rw [e]; simp
    have hx : p[q1.length]? = some x := by rw [e]; simp
    have rx := hp x (List.mem_of_getElem? hx)
    have ex := hr _ _ hx
    refine bk_X11_usedBy_4 ⟨fun q => by omega, fun _ => ?_⟩
    rw [Int.toNat_natCast, ex]
    refine ⟨by omega, by omega, by omega, by omega, ?_⟩
    have := used_lp hr hp lp h q2 (q1 ++ [x]) (oO s (pb I x)) (by rw [e]; simp) hs
    rw [List.length_append, List.length_singleton] at this
    exact this
theorem c11_usedBy {p : List Int} {n : Int} (en : n = p.length) (hr : RowIs I p) (hp : ∀ x ∈ p, 0 ≤ x ∧ x < 10) (lp : p.length ≤ 10) (h : KI (sn I 0 p) I) : CI mX11_usedBy (d + 1) [vR 489, vI n] I KI := by
  subst en
  exact bk_X11_usedBy_0 (used_lp hr hp lp h p [] 0 rfl rfl)
theorem c11_canCome {n c s x : Int} (hT : CTY I) (hsh : 0 ≤ I 489 63 ∧ I 489 63 < 65536) (n0 : 1 ≤ n) (n1 : n ≤ 10) (ec : I 548 (n - 1).toNat = c) (s0 : 0 ≤ s) (s1 : s < 1024) (x0 : 0 ≤ x) (x1 : x < I 518 5) (k1 : opn I c s x = true → KI 1 I) (k0 : opn I c s x = false → KI 0 I) : CI mX11_canCome (d + 3) [vR 489, vI n, vI x, vI s] I KI := by
  have n5 := hT.1.2.1
  have n7 := hT.1.2.2.2.1
  have pr := pb_rng hT.2.2.2.2.2.2.1 x0 x1
  refine bk_X11_canCome_0 ⟨by omega, by omega, ?_⟩
  rw [ec]
  refine c11_laneOf n7.1 n7.2 ⟨fun q => PI_i (k0 ?_), fun q => ?_⟩
  · unfold opn
    simp [q]
  · have lr := laneM_rng n7.1 q
    have b3 := sb_1 (x := I 489 63) (k := laneM I c x) hsh.1 (by omega) lr.1 (by omega)
    have b4 := sb_0 (x := s) (k := par I x) s0 (by omega) (by omega) (by omega)
    refine c11_isShut (fun z => ⟨fun q2 => absurd rfl q2, fun _ => ⟨by omega, by omega, fun q3 => PI_i (k0 ?_), fun q3 => PI_i (k1 ?_)⟩⟩) (fun z => ⟨fun _ => PI_i (k0 ?_), fun q2 => by omega⟩)
    · cases e : opn I c s x
      · rfl
      · exact absurd (b4.mpr (opn_spec.mp e).2.2) q3
    · refine opn_spec.mpr ⟨q, ?_, b4.mp q3⟩
      cases e : bit (I 489 63) (laneM I c x)
      · rfl
      · exact absurd (b3.mpr e) z
    · cases e : opn I c s x
      · rfl
      · have := (opn_spec.mp e).2.1
        rw [b3.mp z] at this
        cases this
theorem cpy_lp {s m al : Nat} {c n : Int} (s4 : s < 4) (m20 : m < 20) (a10 : al ≤ 10) (em : I 546 s = (m : Int)) (h : J none mX11_routesOf (d + 4) 0 0 54 [(0, vR 489), (1, vI (s : Int)), (2, vI (al : Int)), (3, vI n), (4, vI c), (5, vI (al : Int))] [] (mk (cpI I 548 0 547 (200 * s + 10 * m) al)) (PV K)) : ∀ (j k : Nat), k + j = al → J none mX11_routesOf (d + 4) 0 0 54 [(0, vR 489), (1, vI (s : Int)), (2, vI (al : Int)), (3, vI n), (4, vI c), (5, vI (k : Int))] [] (mk (cpI I 548 0 547 (200 * s + 10 * m) k)) (PV K)
  | 0, k, e => by
    obtain rfl : k = al := by omega
    exact h
  | j + 1, k, e => by
    have e6 : cpI I 548 0 547 (200 * s + 10 * m) k 546 = I 546 := cpI_f (by decide)
    have e8 : cpI I 548 0 547 (200 * s + 10 * m) k 548 = I 548 := cpI_f (by decide)
    refine bk_X11_routesOf_54 ⟨fun q => by omega, fun _ => ?_⟩
    rw [Int.toNat_natCast, Int.toNat_natCast, e6, e8, em]
    refine ⟨by omega, by omega, by omega, by omega, by omega, by omega, by omega, fun I3 e3 => ⟨by omega, ?_⟩⟩
    have en : (200 * (s : Int) + 10 * (m : Int) + (k : Int)).toNat = 200 * s + 10 * m + k := by omega
    rw [en] at e3
    have cs := cp1_s (I := I) (k0 := 548) (so := 0) (k1 := 547) (o := 200 * s + 10 * m) (k := k)
    rw [Nat.zero_add] at cs
    rw [cs] at e3
    rw [e3]
    have := cpy_lp s4 m20 a10 em h j (k + 1) (by omega)
    exact this
end MR
