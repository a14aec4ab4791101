theorem lb_m2 : ∀ i : Nat, i < 64 → lb (-2) i = decide (i ≠ 0) := by decide +kernel
/-- what the class keeps of a saint's routes -/
def RT1 (I X : HI) (s : Nat) : Prop := CRt I X s (rts I s) ∧ (∀ c : Nat, 1 ≤ c → c ≤ 3 * (rts I s).length → X 72 (61 * s + c) = endS 0 (wy I s (opc I s (c - 1)))) ∧ RKs (X 73) (X 72) (61 * s) (3 * (rts I s).length)
def RTs (I : HI) : Prop := ∀ s : Nat, (s : Int) < I 518 6 → RT1 I I s
def SUB (I : HI) : Prop := ∀ j, j < 366 → ∀ i, i < 64 → lb (I 76 j) i = true → lb (I 75 j) i = true
def prN (a b : Nat) : Nat := (prW a b).toNat
def FIT (I : HI) (cs : Int → List Int) (z : Prop) : Prop := ∀ a b : Nat, a < b → (b : Int) < I 518 6 → ∀ x y : Nat, x ≤ 3 * (rts I a).length → y ≤ 3 * (rts I b).length → (z → x ≠ 0 ∧ y ≠ 0) → lb (I 75 (prN a b * 61 + x)) y = true → (lb (I 76 (prN a b * 61 + x)) y = true ↔ LAW I a b (chw I cs a x) (chw I cs b y))
def ROpt (I : HI) (cs : Int → List Int) : Prop := (I 32 8 = 0 → RTs I) ∧ SUB I ∧ (I 32 8 = 0 → I 32 9 = 0 → FIT I cs (I 32 7 ≠ 0))
theorem prN_rng {a b : Nat} (ab : a < b) (b4 : b < 4) : prN a b < 6 ∧ ((prN a b : Nat) : Int) = prW a b := by
  have := prW_rng (a := (a : Int)) (b := (b : Int)) (by omega) (by omega) (by omega)
  unfold prN
  omega
theorem RT1_b {I J X : HI} (f : CF I J) (sh : J 489 63 = I 489 63) {s : Nat} (h : RT1 I X s) : RT1 J X s := by
  unfold RT1 CRt at h ⊢
  simp only [rts_fr f sh, opc_fr f sh, wy_cf f, hm_cf f]
  exact h
theorem RT1_t {I X Y : HI} {s : Nat} (h : RT1 I X s) (e71 : Y 71 s = X 71 s) (er : ∀ j, 61 * s ≤ j → j < 61 * s + 61 → Y 72 j = X 72 j ∧ Y 73 j = X 73 j) (et : ∀ k, 77 + 100 * s ≤ k → k < 77 + 100 * s + 100 → Y k = X k) : RT1 I Y s := by
  have rl := rts_len (I := I) (s : Int)
  obtain ⟨h1, h2, h3⟩ := h
  refine ⟨⟨by rw [e71]; exact h1.1, fun r q hr => ?_⟩, fun c c0 c1 => by rw [(er _ (by omega) (by omega)).1]; exact h2 c c0 c1, ?_⟩
  · have := ge_lt hr
    exact TW_fr (h1.2 r q hr) (fun k k1 k2 => et k (by omega) (by omega))
  · obtain ⟨k0, k1, k2, k3⟩ := h3
    refine ⟨by rw [(er _ (by omega) (by omega)).2]; exact k0, fun n n0 n1 => by rw [(er _ (by omega) (by omega)).2]; exact k1 n n0 n1, fun c c0 c1 => ?_, fun n n' n0 nn n1 => ?_⟩
    · obtain ⟨n, n0, n1, n2⟩ := k2 c c0 c1
      exact ⟨n, n0, n1, by rw [(er _ (by omega) (by omega)).2]; exact n2⟩
    · have q1 := k1 n n0 (by omega)
      have q2 := k1 n' (by omega) n1
      have := k3 n n' n0 nn n1
      unfold lsE at this ⊢
      rw [(er (61 * s + n) (by omega) (by omega)).2, (er (61 * s + n') (by omega) (by omega)).2, (er _ (by omega) (by omega)).1, (er _ (by omega) (by omega)).1]
      exact this
theorem RTs_fr {I X : HI} (f : CF I X) (sh : X 489 63 = I 489 63) (n6 : I 518 6 ≤ 4) (e : ∀ k, 69 ≤ k → k ≤ 476 → X k = I k) (h : RTs I) : RTs X := by
  intro s s1
  rw [f.1 518 (by omega)] at s1
  exact RT1_b f sh (RT1_t (h s s1) (by rw [e 71 (by omega) (by omega)]) (fun j _ _ => ⟨by rw [e 72 (by omega) (by omega)], by rw [e 73 (by omega) (by omega)]⟩) (fun k k1 k2 => e k (by omega) (by omega)))
theorem chw_fr {I X : HI} (f : CF I X) (sh : X 489 63 = I 489 63) (cs : Int → List Int) (s : Int) (x : Nat) : chw X cs s x = chw I cs s x := by
  unfold chw chc
  rw [wy_cf f, opc_fr f sh]
theorem FIT_fr {I X : HI} {cs : Int → List Int} {z : Prop} (f : CF I X) (sh : X 489 63 = I 489 63) (on : X 489 64 = I 489 64) (e75 : X 75 = I 75) (e76 : X 76 = I 76) (h : FIT I cs z) : FIT X cs z := by
  intro a b ab b1 x y
  rw [f.1 518 (by omega)] at b1
  rw [rts_fr f sh, rts_fr f sh, chw_fr f sh, chw_fr f sh, e75, e76, LAW_fr (CF_A f on)]
  exact h a b ab b1 x y
theorem FIT_cs {I : HI} {cs cs' : Int → List Int} {z : Prop} (h : FIT I cs z) : FIT I cs' True := by
  intro a b ab b1 x y x1 y1 hz
  have e : ∀ s : Nat, ∀ x : Nat, x ≠ 0 → chw I cs' s x = chw I cs s x := fun s x hx => by
    unfold chw chc
    rw [if_neg hx, if_neg hx]
  rw [e a x (hz trivial).1, e b y (hz trivial).2]
  exact h a b ab b1 x y x1 y1 (fun _ => hz trivial)
/-- what prepare() changes -/
def PFr (I X : HI) : Prop := (∀ k, k ≠ 32 → (k < 69 ∨ 476 < k) → X k = I k) ∧ (∀ j, j ≠ 7 → j ≠ 8 → j ≠ 9 → X 32 j = I 32 j)
theorem PFr_rfl (I : HI) : PFr I I := ⟨fun _ _ _ => rfl, fun _ _ _ _ => rfl⟩
theorem PFr_tr {I X Y : HI} (h : PFr I X) (g : PFr X Y) : PFr I Y := ⟨fun k h1 h2 => by rw [g.1 k h1 h2, h.1 k h1 h2], fun j h1 h2 h3 => by rw [g.2 j h1 h2 h3, h.2 j h1 h2 h3]⟩
theorem CF_p {I X : HI} (h : PFr I X) : CF I X := ⟨fun k hk => h.1 k (by omega) (by omega), by rw [h.1 489 (by omega) (by omega)]⟩
/-- all is made good -/
def RDY (I : HI) (cs : Int → List Int) : Prop := RTs I ∧ SUB I ∧ FIT I cs False
section PP
variable {d : Nat} {I : HI} {K : HI → Prop} {KI : Int → HI → Prop} {K2 : Int → Int → HI → Prop} {cs : Int → List Int} {H : List Sn}
theorem lfill_lp {a n0 : Nat} {x : Int} (ha : SH0[a]? = some (.inr (1, n0))) (hn : n0 ≤ 100000) (h : K (flI I a n0 x)) : ∀ (n k : Nat), k + n = n0 → J none mJ7_fill_d0a16 (d + 1) 0 0 6 [(0, vR a), (1, vL x), (3, vI (k : Int)), (4, vI (n0 : Int))] [] (mk (flI I a k x)) (PV K)
  | 0, k, e => by
    obtain rfl : k = n0 := by omega
    exact bk_J7_fill_d0a16_6 ha ⟨fun _ => PV_i h, fun q => by omega⟩
  | n + 1, k, e => by
    have ih := lfill_lp ha hn h n (k + 1) (by omega)
    refine bk_J7_fill_d0a16_6 ha ⟨fun q => by omega, fun _ => ⟨by omega, fun I1 e1 => ⟨by omega, ?_⟩⟩⟩
    rw [Int.toNat_natCast, flI_s] at e1
    rw [e1]
    exact ih
theorem c_lfill {a n0 : Nat} {x : Int} (ha : SH0[a]? = some (.inr (1, n0))) (hn : n0 ≤ 100000) (h : K (flI I a n0 x)) : CV mJ7_fill_d0a16 (d + 1) [vR a, vL x] I K := by
  refine bk_J7_fill_d0a16_0 ha ⟨by omega, ?_⟩
  have := lfill_lp (d := d) ha hn h n0 0 (by omega)
  rw [flI_0] at this
  exact this
def FG (I X : HI) (k : Nat) : Prop := (∀ c, c ≠ 75 → c ≠ 76 → X c = I c) ∧ (∀ j, j < k → ∀ i, i < 64 → lb (X 75 j) i = (lb (I 75 j) i && decide (j % 61 ≠ 0) && decide (i ≠ 0)) ∧ lb (X 76 j) i = (lb (I 76 j) i && decide (j % 61 ≠ 0) && decide (i ≠ 0))) ∧ (∀ j, k ≤ j → X 75 j = I 75 j ∧ X 76 j = I 76 j)
theorem FG_s {X Y : HI} {k : Nat} {u v : Int} (h : FG I X k) (e : Y = up (up X 75 k u) 76 k v) (hu : ∀ i, i < 64 → lb u i = (lb (I 75 k) i && decide (k % 61 ≠ 0) && decide (i ≠ 0)) ∧ lb v i = (lb (I 76 k) i && decide (k % 61 ≠ 0) && decide (i ≠ 0))) : FG I Y (k + 1) := by
  have e5 : ∀ j, j ≠ k → Y 75 j = X 75 j := fun j hj => by rw [e, up_k (by decide), up_j hj]
  have e6 : ∀ j, j ≠ k → Y 76 j = X 76 j := fun j hj => by rw [e, up_j hj, up_k (by decide)]
  refine ⟨fun c h1 h2 => by rw [e, up_k h2, up_k h1, h.1 c h1 h2], fun j hj i hi => ?_, fun j hj => ?_⟩
  · by_cases ej : j = k
    · subst ej
      have y5 : Y 75 j = u := by rw [e, up_k (by decide), up_e]
      have y6 : Y 76 j = v := by rw [e, up_e]
      rw [y5, y6]
      exact hu i hi
    · rw [e5 j ej, e6 j ej]
      exact h.2.1 j (by omega) i hi
  · rw [e5 j (by omega), e6 j (by omega)]
    exact h.2.2 j (by omega)
theorem forget_b {p : Nat} (p6 : p < 6) (h : ∀ Y : HI, FG I Y (p * 61 + 61) → J none mX5_forgetWays (d + 1) 0 0 2 [(0, vR 69), (1, vI ((p : Int) + 1))] [] (mk Y) (PV K)) : ∀ (n c : Nat) (X : HI), c + n = 61 → 1 ≤ c → FG I X (p * 61 + c) → J none mX5_forgetWays (d + 1) 0 0 30 [(0, vR 69), (1, vI (p : Int)), (2, vI (c : Int))] [] (mk X) (PV K)
  | 0, c, X, e, c0, hX => by
    obtain rfl : c = 61 := by omega
    exact bk_X5_forgetWays_30 ⟨fun _ => ⟨by omega, h X hX⟩, fun q => by omega⟩
  | n + 1, c, X, e, c0, hX => by
    have ei : ((p : Int) * 61 + (c : Int)).toNat = p * 61 + c := by omega
    have hm' : (p * 61 + c) % 61 ≠ 0 := by omega
    refine bk_X5_forgetWays_30 ⟨fun q => by omega, fun _ => ?_⟩
    rw [ei]
    refine ⟨by omega, by omega, by omega, by omega, fun I1 e1 => ⟨by omega, by omega, by omega, by omega, fun I2 e2 => ⟨by omega, ?_⟩⟩⟩
    have x6 : I1 76 (p * 61 + c) = I 76 (p * 61 + c) := by rw [e1, up_k (by decide), (hX.2.2 _ (Nat.le_refl _)).2]
    rw [x6, e1, (hX.2.2 _ (Nat.le_refl _)).1] at e2
    have := forget_b p6 h n (c + 1) I2 (by omega) (by omega) (by
      have := FG_s hX e2 (fun i hi => by
        rw [lb_A, lb_A, lb_m2 i hi]
        simp only [decide_eq_true hm', Bool.and_true]
        exact ⟨trivial, trivial⟩)
      exact this)
    exact this
theorem c5_forgetWays (h : ∀ Y : HI, FG I Y 366 → K Y) : CV mX5_forgetWays (d + 1) [vR 69] I K := by
  have lp : ∀ (n p : Nat) (X : HI), p + n = 6 → FG I X (p * 61) → J none mX5_forgetWays (d + 1) 0 0 2 [(0, vR 69), (1, vI (p : Int))] [] (mk X) (PV K) := by
    intro n
    induction n with
    | zero =>
      intro p X e hX
      obtain rfl : p = 6 := by omega
      exact bk_X5_forgetWays_2 ⟨fun _ => PV_i (h X hX), fun q => by omega⟩
    | succ n ih =>
      intro p X e hX
      have ei : ((p : Int) * 61).toNat = p * 61 := by omega
      refine bk_X5_forgetWays_2 ⟨fun q => by omega, fun _ => ?_⟩
      rw [ei]
      refine ⟨by omega, by omega, fun I1 e1 => ⟨by omega, by omega, fun I2 e2 => ?_⟩⟩
      rw [e1] at e2
      refine forget_b (I := I) (by omega) (fun Y hY => ?_) 60 1 I2 (by omega) (by omega) (FG_s hX e2 (fun i hi => ?_))
      · have := ih (p + 1) Y (by omega) (by rw [show (p + 1) * 61 = p * 61 + 61 from by omega]; exact hY)
        exact this
      · rw [lb_0]
        simp
  exact bk_X5_forgetWays_0 (lp 6 0 I rfl ⟨fun _ _ _ => rfl, fun j hj => by omega, fun j _ => ⟨rfl, rfl⟩⟩)
/-- routes and ranks of all saints -/
theorem prep_s (hw : CWs I cs) (e33 : I 33 100 = I 489 63) (hsh : 0 ≤ I 489 63 ∧ I 489 63 < 65536) (h : ∀ Y : HI, (∀ k, (k < 71 ∨ 476 < k ∨ k = 75 ∨ k = 76) → Y k = I k) → (∀ s : Nat, (s : Int) < I 518 6 → RT1 I Y s) → J none mX5_prepare (d + 14) 0 0 82 [(0, vR 69)] [] (mk Y) (PV K)) : ∀ (n s : Nat) (X : HI), (s : Int) + n = I 518 6 → (∀ k, (k < 71 ∨ 476 < k ∨ k = 75 ∨ k = 76) → X k = I k) → (∀ s' : Nat, s' < s → RT1 I X s') → J none mX5_prepare (d + 14) 0 0 12 [(0, vR 69), (1, vI (s : Int))] [] (mk X) (PV K)
  | 0, s, X, e, fX, hX => by
    refine bk_X5_prepare_12 ?_
    rw [fX 2 (by omega), hw.1.1.1.2.2.1]
    exact ⟨fun _ => h X fX (fun s' hs' => hX s' (by omega)), fun q => by omega⟩
  | n + 1, s, X, e, fX, hX => by
    have hT := hw.1
    have n6 := hT.1.2.2.1
    have s4 : s < 4 := by omega
    have s1 : (s : Int) < I 518 6 := by omega
    have hp := hT.2.2.2.2.2.2.1
    have hr := hm_rng hT.2.1 (s := (s : Int)) (by omega) s1
    have pr := pb_rng hp hr.1 hr.2
    refine bk_X5_prepare_12 ?_
    rw [fX 2 (by omega), hT.1.1.2.2.1]
    refine ⟨fun q => by omega, fun _ => ⟨by omega, fun I1 e1 => ⟨by omega, by omega, fun I2 e2 => ?_⟩⟩⟩
    rw [Int.toNat_natCast] at e1
    have ehm : I1 7 ((s : Int) * 4).toNat = hm I (s : Int) := by
      rw [e1, up_k (by decide), fX 7 (by omega)]
      have := hT.2.1.1 (s : Int) 0 (by omega) s1 (by omega) (by omega)
      rw [Int.add_zero, Int.add_zero] at this
      exact this
    rw [ehm] at e2
    have c2 : CF I I2 := ⟨fun k hk => by rw [e2, up_k (by omega), e1, up_k (by omega), fX k (by omega)], by rw [e2, up_k (by decide), e1, up_k (by decide), fX 489 (by omega)]⟩
    have e74 : I2 74 0 = hm I (s : Int) := by rw [e2, up_e]
    have e5 : I2 5 (hm I (s : Int)).toNat = par I (hm I (s : Int)) := by
      rw [c2.1 5 (by omega)]
      exact (hp _ hr.1 hr.2).1
    have hT2 := CTY_fr hT c2
    have sh2 : I2 489 63 = I 489 63 := by rw [e2, up_k (by decide), e1, up_k (by decide), fX 489 (by omega)]
    have h33 : I2 33 = I 33 := by rw [e2, up_k (by decide), e1, up_k (by decide), fX 33 (by omega)]
    have n518 := c2.1 518 (by omega)
    rw [e74, e5]
    refine ⟨by have := hT.1.2.1; omega, ?_⟩
    have := c5_explore (d := d + 1) (s := s) hT2 (by rw [n518]; exact s1) (by rw [h33, sh2]; exact e33) (by rw [sh2]; exact hsh) 9 [] (hm I (s : Int)) (pb I (hm I (s : Int))) [] I2 (fun I3 => CV mX5_rank (d + 13) [vR 69, vI (s : Int)] I3 (fun I4 => (-2147483648 ≤ (s : Int) + 1 ∧ (s : Int) + 1 ≤ 2147483647) ∧ J none mX5_prepare (d + 14) 0 0 12 [(0, vR 69), (1, vI ((s : Int) + 1))] [] (mk I4) (PV K))) rfl trivial (hm_cf c2 _) (fun y hy => by cases hy) (by rw [n518]; exact hr) (by omega) (by omega) (EFr_rfl s I2) (fun i x hx => ?_) ⟨by rw [e2, up_k (by decide), e1, up_e]; rfl, fun r q hr => by simp at hr⟩ (by simp) (fun Y eY pY hY => ?_)
    · exact this
    · have := ge_lt hx
      simp only [List.length_singleton] at this
      obtain rfl : i = 0 := by omega
      simp only [List.getElem?_cons_zero, Option.some.injEq] at hx
      rw [← hx, e74, hm_cf c2]
    · have cY : CF I Y := CF_tr c2 (CF_e s4 eY)
      have shY : Y 489 63 = I 489 63 := by rw [eY.1 489 (by omega) (by omega) (by omega), sh2]
      have hYR : CRt I Y s (rts I s) := by
        have e0 : ((fun t : List Int => ([] : List Int) ++ t)) = id := by
          funext t
          rfl
        rw [List.nil_append, e0, List.map_id] at hY
        have er : (exD I2 (9 + 1) (hm I (s : Int)) (pb I (hm I (s : Int)))).take 20 = rts I s := by
          rw [exD_fr c2 sh2]
          rfl
        rw [er] at hY
        unfold CRt at hY ⊢
        simp only [wy_cf c2, hm_cf c2] at hY
        exact hY
      refine c5_rank hT s1 cY hYR (fun Z fZ hE hk => ⟨by omega, ?_⟩)
      have fYk : ∀ k, (k < 71 ∨ 476 < k ∨ k = 75 ∨ k = 76) → Y k = I k := fun k hk => by rw [eY.1 k (by omega) (by omega) (by omega), e2, up_k (by omega), e1, up_k (by omega), fX k hk]
      have := prep_s hw e33 hsh h n (s + 1) Z (by omega) (fun k hk => by rw [fZ.1 k (by omega) (by omega), fYk k hk]) (fun s' hs' => by
        by_cases es : s' = s
        · subst es
          refine ⟨⟨by rw [fZ.1 71 (by decide) (by decide)]; exact hYR.1, fun r q hr => ?_⟩, hE, hk⟩
          have := ge_lt hr
          have rl := rts_len (I := I) (s' : Int)
          exact TW_fr (hYR.2 r q hr) (fun k k1 k2 => fZ.1 k (by omega) (by omega))
        · refine RT1_t (hX s' (by omega)) ?_ (fun j j0 j1 => ?_) (fun k k1 k2 => ?_)
          · rw [fZ.1 71 (by decide) (by decide), eY.2 s' es, e2, up_k (by decide), e1, up_j es]
          · have := fZ.2 j (by omega)
            rw [this.1, this.2, eY.1 72 (by omega) (by omega) (by omega), eY.1 73 (by omega) (by omega) (by omega), e2, up_k (by decide), up_k (by decide), e1, up_k (by decide), up_k (by decide)]
            exact ⟨rfl, rfl⟩
          · rw [fZ.1 k (by omega) (by omega), eY.1 k (by omega) (by omega) (by omega), e2, up_k (by omega), e1, up_k (by omega)])
      exact this
theorem c5_prepare (hw : CWs I cs) (e33 : I 33 100 = I 489 63) (hsh : 0 ≤ I 489 63 ∧ I 489 63 < 65536) (hO : ROpt I cs) (vr : 0 ≤ I 69 11 ∧ I 69 11 ≤ 1000000) (h : ∀ Y : HI, PFr I Y → RDY Y cs → Y 32 7 = 0 → Y 32 8 = 0 → Y 32 9 = 0 → (∀ j, j ≠ 11 → Y 69 j = I 69 j) → ((Y 69 11 = I 69 11 + 1 ∧ ¬ (I 32 8 = 0 ∧ I 32 9 = 0)) ∨ (Y 69 11 = I 69 11 ∧ I 32 8 = 0 ∧ I 32 9 = 0 ∧ ∀ k, (70 ≤ k ∧ k ≤ 73) ∨ (77 ≤ k ∧ k ≤ 476) → Y k = I k)) → K Y) : CV mX5_prepare (d + 14) [vR 69] I K := by
  have hT := hw.1
  have n6 := hT.1.2.2.1
  -- the end, with the memory wiped
  have wipe : ∀ X X1 X2 Y : HI, ¬ (I 32 8 = 0 ∧ I 32 9 = 0) → (∀ k, (k < 71 ∨ 476 < k ∨ k = 75 ∨ k = 76) → X k = I k) → (∀ s : Nat, (s : Int) < I 518 6 → RT1 I X s) → X1 = flI X 75 366 0 → X2 = flI X1 76 366 0 → Y = up (up (up (up X2 69 11 (X2 69 11 + 1)) 32 8 0) 32 9 0) 32 7 0 → K Y := by
    intro X X1 X2 Y nf fX hX e1 e2 e
    have g : ∀ k, k ≠ 32 → k ≠ 69 → k ≠ 75 → k ≠ 76 → Y k = X k := fun k k1 k2 k3 k4 => by rw [e, up_k k1, up_k k1, up_k k1, up_k k2, e2, flI_f k4, e1, flI_f k3]
    have y75 : ∀ j, j < 366 → Y 75 j = 0 := fun j hj => by rw [e, up_k (by decide), up_k (by decide), up_k (by decide), up_k (by decide), e2, flI_f (by decide), e1, flI_i hj]
    have y76 : ∀ j, j < 366 → Y 76 j = 0 := fun j hj => by rw [e, up_k (by decide), up_k (by decide), up_k (by decide), up_k (by decide), e2, flI_i hj]
    have pY : PFr I Y := ⟨fun k k1 k2 => by rw [g k k1 (by omega) (by omega) (by omega), fX k (by omega)], fun j j1 j2 j3 => by rw [e, up_j j1, up_j j3, up_j j2, up_k (by decide), e2, flI_f (by decide), e1, flI_f (by decide), fX 32 (by omega)]⟩
    have x11 : X2 69 = I 69 := by rw [e2, flI_f (by decide), e1, flI_f (by decide), fX 69 (by omega)]
    refine h Y pY ⟨fun s s1 => ?_, fun j hj i hi hb => ?_, fun a b ab b1 x y x1 y1 _ hb => ?_⟩ (by rw [e, up_e]) (by rw [e, up_j (by decide), up_j (by decide), up_e]) (by rw [e, up_j (by decide), up_e]) (fun j hj => by rw [e, up_k (by decide), up_k (by decide), up_k (by decide), up_j hj, x11]) (Or.inl ⟨?_, nf⟩)
    · rw [(CF_p pY).1 518 (by omega)] at s1
      refine RT1_b (CF_p pY) (by rw [pY.1 489 (by omega) (by omega)]) (RT1_t (hX s s1) (by rw [g 71 (by decide) (by decide) (by decide) (by decide)]) (fun j _ _ => ⟨by rw [g 72 (by decide) (by decide) (by decide) (by decide)], by rw [g 73 (by decide) (by decide) (by decide) (by decide)]⟩) (fun k k1 k2 => g k (by omega) (by omega) (by omega) (by omega)))
    · rw [y76 j hj, lb_0] at hb
      cases hb
    · rw [(CF_p pY).1 518 (by omega)] at b1
      have pn := prN_rng ab (by omega)
      have rl := rts_len (I := Y) (a : Int)
      rw [y75 _ (by omega), lb_0] at hb
      cases hb
    · rw [e, up_k (by decide), up_k (by decide), up_k (by decide), up_e, x11]
  have at82 : ∀ X : HI, (∀ k, (k < 71 ∨ 476 < k ∨ k = 75 ∨ k = 76) → X k = I k) → (∀ s : Nat, (s : Int) < I 518 6 → RT1 I X s) → (I 32 8 = 0 → ∀ k, X k = I k) → J none mX5_prepare (d + 14) 0 0 82 [(0, vR 69)] [] (mk X) (PV K) := by
    intro X fX hX same
    have x32 : X 32 = I 32 := fX 32 (by omega)
    refine bk_X5_prepare_82 ?_
    rw [x32]
    refine ⟨fun q => ?_, fun q => ⟨fun q2 => ⟨fun q3 I7 e7 I8 e8 I9 e9 => PV_i ?_, fun q3 => ?_⟩, fun q2 => ?_⟩⟩
    · refine c_lfill sh_75 (by omega) (c_lfill sh_76 (by omega) ⟨?_, fun I3 e3 I4 e4 I5 e5 I6 e6 => PV_i (wipe X _ _ I6 (fun z => q z.1) fX hX rfl rfl ?_)⟩)
      · rw [flI_f (by decide), flI_f (by decide), fX 69 (by omega)]
        omega
      · rw [e6, e5, e4, e3]
    · -- nothing has changed
      have sm := same q
      have g : ∀ k, k ≠ 32 → I9 k = I k := fun k hk => by rw [e9, up_k hk, e8, up_k hk, e7, up_k hk, sm k]
      have pY : PFr I I9 := ⟨fun k k1 k2 => g k k1, fun j j1 j2 j3 => by rw [e9, up_j j1, e8, up_j j3, e7, up_j j2, sm 32]⟩
      have F := hO.2.2 q q2
      refine h I9 pY ⟨RTs_fr (CF_p pY) (by rw [g 489 (by decide)]) n6.2 (fun k k1 k2 => g k (by omega)) (hO.1 q), fun j hj i hi hb => ?_, FIT_fr (CF_p pY) (by rw [g 489 (by decide)]) (by rw [g 489 (by decide)]) (g 75 (by decide)) (g 76 (by decide)) (fun a b ab b1 x y x1 y1 _ => F a b ab b1 x y x1 y1 (fun z => absurd q3 z))⟩ (by rw [e9, up_e]) (by rw [e9, up_j (by decide), e8, up_j (by decide), e7, up_e]) (by rw [e9, up_j (by decide), e8, up_e]) (fun j hj => by rw [g 69 (by decide)]) (Or.inr ⟨by rw [g 69 (by decide)], q, q2, fun k hk => g k (by omega)⟩)
      rw [g 75 (by decide)]
      rw [g 76 (by decide)] at hb
      exact hO.2.1 j hj i hi hb
    · -- the ways alone
      have sm := same q
      refine c5_forgetWays (fun X1 f1 I11 e11 I12 e12 I13 e13 => PV_i ?_)
      have g : ∀ k, k ≠ 32 → k ≠ 75 → k ≠ 76 → I13 k = I k := fun k hk h5 h6 => by rw [e13, up_k hk, e12, up_k hk, e11, up_k hk, f1.1 k h5 h6, sm k]
      have y75 : ∀ j, j < 366 → ∀ i, i < 64 → lb (I13 75 j) i = (lb (I 75 j) i && decide (j % 61 ≠ 0) && decide (i ≠ 0)) := fun j hj i hi => by
        rw [e13, up_k (by decide), e12, up_k (by decide), e11, up_k (by decide), (f1.2.1 j hj i hi).1, sm 75]
      have y76 : ∀ j, j < 366 → ∀ i, i < 64 → lb (I13 76 j) i = (lb (I 76 j) i && decide (j % 61 ≠ 0) && decide (i ≠ 0)) := fun j hj i hi => by
        rw [e13, up_k (by decide), e12, up_k (by decide), e11, up_k (by decide), (f1.2.1 j hj i hi).2, sm 76]
      have pY : PFr I I13 := ⟨fun k k1 k2 => g k k1 (by omega) (by omega), fun j j1 j2 j3 => by rw [e13, up_j j1, e12, up_j j3, e11, up_j j2, f1.1 32 (by decide) (by decide), sm 32]⟩
      have cY := CF_p pY
      have sh : I13 489 63 = I 489 63 := by rw [g 489 (by decide) (by decide) (by decide)]
      have on : I13 489 64 = I 489 64 := by rw [g 489 (by decide) (by decide) (by decide)]
      refine h I13 pY ⟨fun s s1 => ?_, fun j hj i hi hb => ?_, fun a b ab b1 x y x1 y1 _ hb => ?_⟩ (by rw [e13, up_e]) (by rw [e13, up_j (by decide), e12, up_j (by decide), e11, up_e]) (by rw [e13, up_j (by decide), e12, up_e]) (fun j hj => by rw [g 69 (by decide) (by decide) (by decide)]) (Or.inr ⟨by rw [g 69 (by decide) (by decide) (by decide)], q, q2, fun k hk => g k (by omega) (by omega) (by omega)⟩)
      · rw [cY.1 518 (by omega)] at s1
        exact RT1_b cY sh (RT1_t (hO.1 q s s1) (by rw [g 71 (by decide) (by decide) (by decide)]) (fun j _ _ => ⟨by rw [g 72 (by decide) (by decide) (by decide)], by rw [g 73 (by decide) (by decide) (by decide)]⟩) (fun k k1 k2 => g k (by omega) (by omega) (by omega)))
      · rw [y76 j hj i hi] at hb
        rw [y75 j hj i hi]
        simp only [Bool.and_eq_true] at hb ⊢
        exact ⟨⟨hO.2.1 j hj i hi hb.1.1, hb.1.2⟩, hb.2⟩
      · rw [cY.1 518 (by omega)] at b1
        rw [rts_fr cY sh] at x1 y1
        have pn := prN_rng ab (by omega)
        have rl := rts_len (I := I) (a : Int)
        have rl2 := rts_len (I := I) (b : Int)
        rw [y75 _ (by omega) y (by omega)] at hb
        simp only [Bool.and_eq_true, decide_eq_true_eq] at hb
        rw [y76 _ (by omega) y (by omega), chw_fr cY sh, chw_fr cY sh, LAW_fr (CF_A cY on), ← hO.2.2 q q2 a b ab b1 x y x1 y1 (fun _ => ⟨by omega, hb.2⟩) hb.1.1]
        simp only [decide_eq_true hb.1.2, decide_eq_true hb.2, Bool.and_true]
    · refine c_lfill sh_75 (by omega) (c_lfill sh_76 (by omega) ⟨?_, fun I3 e3 I4 e4 I5 e5 I6 e6 => PV_i (wipe X _ _ I6 (fun z => q2 z.2) fX hX rfl rfl ?_)⟩)
      · rw [flI_f (by decide), flI_f (by decide), fX 69 (by omega)]
        omega
      · rw [e6, e5, e4, e3]
  refine bk_X5_prepare_0 ⟨fun q => at82 I (fun _ _ => rfl) (hO.1 q) (fun _ _ => rfl), fun q => ?_⟩
  exact prep_s hw e33 hsh (fun Y fY hY => at82 Y fY hY (fun z => absurd z q)) (I 518 6).toNat 0 I (by omega) (fun _ _ => rfl) (fun s' hs' => by omega)
end PP
