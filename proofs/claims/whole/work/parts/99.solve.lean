theorem obs_r : ∀ k : Nat, k < 21 → -9223372036854775808 ≤ lSl 1 (3 * (k : Int)) - 1 ∧ lSl 1 (3 * (k : Int)) - 1 ≤ 9223372036854775807 := by decide +kernel
theorem obs_b : ∀ k : Nat, k < 21 → ∀ y : Nat, y < 64 → lb (lSl (lSl 1 (3 * (k : Int)) - 1) 1) y = decide (1 ≤ y ∧ y ≤ 3 * k) := by decide +kernel
/-- none of its lanes is shut -/
def WHL (I : HI) (W : List Sp) : Prop := ∀ x ∈ W, x.2.1 ≠ -1 → bit (I 489 63) x.2.1 = false
/-- which choices there are -/
def dmo (I : HI) (cs : Int → List Int) (st : Int) (t y : Nat) : Prop := y = 0 → st ≠ 0 ∧ WHL I (wy I t (cs t))
def odn (I : HI) (s : Nat) : List Nat := List.range' 0 (3 * (rts I s).length + 1)
noncomputable def LL (I : HI) (cs : Int → List Int) (st : Int) (ms : List Nat) : List (List Nat) := vis (odn I) (LW I cs) ms (dmo I cs st)
/-- the saints of a set -/
def mbs (bits : Int) (n : Nat) : List Nat := (List.range n).filter (fun t => bit bits t)
/-- what is solved -/
def SOL (I : HI) (cs : Int → List Int) (st : Int) (ms : List Nat) (r : Int) (A : Nat → Int) : Prop := (r = -1 ∧ LL I cs st ms = []) ∨ ∃ xs, FMn (LL I cs st ms) (cst (prc I cs st) ms) xs ∧ r = cst (prc I cs st) ms xs ∧ ∀ (i t x : Nat), ms[i]? = some t → xs[i]? = some x → A t = x
theorem od_1 (I : HI) {bn : Int} (h : bn ≠ 0) (s : Nat) : od I bn s = odn I s := by
  unfold od odn
  have : (fun n => if bn = 0 then rk I s n else n) = id := by
    funext n
    rw [if_neg h]
    rfl
  rw [this, List.map_id]
theorem WHL_fr {I X : HI} (sh : X 489 63 = I 489 63) (W : List Sp) : WHL X W ↔ WHL I W := by
  unfold WHL
  rw [sh]
theorem LL_fr {I X : HI} (f : CF I X) (sh : X 489 63 = I 489 63) (on : X 489 64 = I 489 64) (cs : Int → List Int) (st : Int) (ms : List Nat) : LL X cs st ms = LL I cs st ms := by
  unfold LL
  have e : odn X = odn I := by
    funext s
    unfold odn
    rw [rts_fr f sh]
  rw [e]
  refine vis_congr ms _ _ (fun s x => ?_) (fun s x t y _ _ _ _ _ _ => LW_fr f sh on cs s x t y)
  unfold dmo
  rw [wy_cf f, WHL_fr sh]
theorem SOL_fr {I X : HI} (f : CF I X) (sh : X 489 63 = I 489 63) (on : X 489 64 = I 489 64) {cs : Int → List Int} {st r : Int} {ms : List Nat} {A : Nat → Int} (h : SOL I cs st ms r A) : SOL X cs st ms r A := by
  have e : prc X cs st = prc I cs st := by
    funext s x
    exact prc_fr f sh cs st s x
  unfold SOL at h ⊢
  rw [LL_fr f sh on, e]
  exact h
theorem chw_cs (I : HI) (cs cs' : Int → List Int) (s : Int) {x : Nat} (h : x ≠ 0) : chw I cs s x = chw I cs' s x := by
  unfold chw chc
  rw [if_neg h, if_neg h]
theorem LL_cs (I : HI) (cs cs' : Int → List Int) (ms : List Nat) : LL I cs 0 ms = LL I cs' 0 ms := by
  unfold LL
  refine vis_congr ms _ _ (fun s x => ?_) (fun s x t y _ _ _ _ h1 h2 => ?_)
  · unfold dmo
    exact ⟨fun h z => absurd rfl (h z).1, fun h z => absurd rfl (h z).1⟩
  · have x0 : x ≠ 0 := fun z => absurd rfl (h1 z).1
    have y0 : y ≠ 0 := fun z => absurd rfl (h2 z).1
    unfold LW
    rw [chw_cs I cs cs' s x0, chw_cs I cs cs' t y0]
theorem cst_cs (I : HI) (cs cs' : Int → List Int) : ∀ (ms xs : List Nat), (∀ x ∈ xs, x ≠ 0) → cst (prc I cs 0) ms xs = cst (prc I cs' 0) ms xs
  | [], xs, h => by cases xs <;> rfl
  | s :: ms, [], h => rfl
  | s :: ms, x :: xs, h => by
    show prc I cs 0 s x + cst (prc I cs 0) ms xs = prc I cs' 0 s x + cst (prc I cs' 0) ms xs
    rw [cst_cs I cs cs' ms xs (fun y hy => h y (List.mem_cons_of_mem _ hy))]
    unfold prc
    rw [chw_cs I cs cs' s (h x List.mem_cons_self)]
theorem LL_nz {I : HI} {cs : Int → List Int} {ms ys : List Nat} (h : ys ∈ LL I cs 0 ms) : ∀ x ∈ ys, x ≠ 0 := by
  intro x hx
  obtain ⟨i, hi⟩ := List.getElem?_of_mem hx
  have g := vis_ok ms _ ys h
  have il := ge_lt hi
  obtain ⟨t, ht⟩ : ∃ t, ms[i]? = some t := ⟨_, List.getElem?_eq_getElem (by omega)⟩
  have := (g.2 i t x ht hi).1
  exact fun z => absurd rfl (this z).1
theorem SOL_cs {I : HI} {cs : Int → List Int} (cs' : Int → List Int) {r : Int} {ms : List Nat} {A : Nat → Int} (h : SOL I cs 0 ms r A) : SOL I cs' 0 ms r A := by
  unfold SOL at h ⊢
  rw [LL_cs I cs' cs ms]
  rcases h with h | ⟨xs, h1, h2, h3⟩
  · exact Or.inl h
  · refine Or.inr ⟨xs, FMn_tot h1 (fun ys hy => cst_cs I cs cs' ms ys (LL_nz hy)), ?_, h3⟩
    rw [h2]
    exact cst_cs I cs cs' ms xs (LL_nz (FMn_mem h1).1)
/-- what the planner keeps -/
def RPl (I : HI) : Prop := I 477 12 ≤ I 69 11 ∧ (I 477 11 ≠ -1 → I 477 12 = I 69 11 → I 32 8 = 0 → I 32 9 = 0 → (∀ cs, SOL I cs 0 (mbs (I 477 11) (I 518 6).toNat) (I 477 13) (I 481)) ∧ MSs I (mbs (I 477 11) (I 518 6).toNat))
/-- all that planning needs -/
def PLN (I : HI) (cs : Int → List Int) : Prop := CWs I cs ∧ I 33 100 = I 489 63 ∧ (0 ≤ I 489 63 ∧ I 489 63 < 65536) ∧ ROpt I cs ∧ RCu I ∧ RPl I ∧ (0 ≤ I 69 11 ∧ I 69 11 ≤ 1000000)
/-- what a solve changes -/
def VFr (I X : HI) : Prop := (∀ k, (k < 57 ∨ 66 < k) → k ≠ 75 → k ≠ 76 → (k < 477 ∨ 481 < k) → X k = I k) ∧ (∀ j, j ≠ 6 → X 62 j = I 62 j)
theorem VFr_rfl (I : HI) : VFr I I := ⟨fun _ _ _ _ _ => rfl, fun _ _ => rfl⟩
theorem VFr_tr {I X Y : HI} (h : VFr I X) (g : VFr X Y) : VFr I Y := ⟨fun k h1 h2 h3 h4 => by rw [g.1 k h1 h2 h3 h4, h.1 k h1 h2 h3 h4], fun j hj => by rw [g.2 j hj, h.2 j hj]⟩
theorem VFr_d {I X : HI} (h : DFr I X) : VFr I X := ⟨fun k h1 h2 h3 h4 => h.1 k h1 h2 h3 (by omega) (by omega) (by omega) (by omega), h.2.1⟩
theorem VFr_u {I X : HI} (h : ∀ k, (k < 477 ∨ 481 < k) → X k = I k) : VFr I X := ⟨fun k _ _ _ h4 => h k h4, fun j _ => by rw [h 62 (by omega)]⟩
theorem CF_v {I X : HI} (h : VFr I X) : CF I X := ⟨fun k hk => h.1 k (by omega) (by omega) (by omega) (by omega), by rw [h.1 489 (by omega) (by omega) (by omega) (by omega)]⟩
theorem sh_v {I X : HI} (h : VFr I X) : X 489 63 = I 489 63 ∧ X 489 64 = I 489 64 := by
  rw [h.1 489 (by omega) (by omega) (by omega) (by omega)]
  exact ⟨rfl, rfl⟩
section SV
variable {d : Nat} {I : HI} {KI : Int → HI → Prop} {KL : Int → HI → Prop} {cs : Int → List Int}
theorem c9_blocked {t : Nat} (hw : CWs I cs) (e33 : I 33 100 = I 489 63) (hsh : 0 ≤ I 489 63 ∧ I 489 63 < 65536) (t1 : (t : Int) < I 518 6) (k0 : WHL I (wy I t (cs t)) → KI 0 I) (k1 : ¬ WHL I (wy I t (cs t)) → KI 1 I) : CI mX9_blocked (d + 1) [vR 32, vI (t : Int)] I KI := by
  have n6 := hw.1.1.2.2.1
  have ok := hw.2.2.1 (t : Int) (by omega) t1
  have tw := (hw.2.1 (t : Int) (by omega) t1).2
  rw [Int.toNat_natCast] at tw
  obtain ⟨b0, b1, bb⟩ := tw.2.2.1
  have sw := SW_of hw.1.1 hw.1.2.1 hw.1.2.2.1 (by omega) t1 ok
  have r := and_rng (x := I (37 + 5 * t) 6) (y := I 489 63) b0 (by omega) hsh.1 (by omega)
  have iff : oA (I (37 + 5 * t) 6) (I 489 63) = 0 ↔ WHL I (wy I t (cs t)) := by
    constructor
    · intro h x hx hn
      have lr := okW_lane (wy I t (cs t)) _ 0 sw.1
      cases eb : bit (I 489 63) x.2.1
      · rfl
      · obtain ⟨y, hy, y1, _⟩ := (pet_eq (fun _ => True) x.2.1 hn (wy I t (cs t)) 0).mp ⟨x, hx, rfl, trivial⟩
        have yr := lr y hy
        rw [y1] at yr
        have : bit (oA (I (37 + 5 * t) 6) (I 489 63)) x.2.1 = true := by
          rw [bit_and b0 (by omega) hsh.1 (by omega), eb, (bb x.2.1 yr.1 yr.2).mpr ⟨y, hy, y1⟩]
          rfl
        rw [h, bit_zero] at this
        cases this
    · intro h
      refine bit_ext 16 r.1 (by omega) (by omega) (by omega) (fun j j0 j1 => ?_)
      rw [bit_and b0 (by omega) hsh.1 (by omega), bit_zero]
      cases eb : bit (I (37 + 5 * t) 6) j
      · rfl
      · obtain ⟨y, hy, y1⟩ := (bb j j0 (by omega)).mp eb
        obtain ⟨x, hx, x1, _⟩ := (pet_eq (fun _ => True) j (by omega) (wy I t (cs t)) 0).mpr ⟨y, hy, y1, trivial⟩
        have := h x hx (by omega)
        rw [x1] at this
        rw [this]
        rfl
  refine bk_X9_blocked_0 ?_
  rw [Int.toNat_natCast, e33]
  exact ⟨by omega, fun q => PI_i (k0 (iff.mp q)), fun q => PI_i (k1 (fun z => q (iff.mpr z)))⟩
theorem c5_optionBits {t : Nat} (hk : KNW I cs) (t1 : (t : Int) < I 518 6) (h : ∀ v, lrg v → (∀ y, y < 64 → lb v y = decide (1 ≤ y ∧ y ≤ 3 * (rts I t).length)) → KL v I) : CL mX5_optionBits (d + 1) [vR 69, vI (t : Int)] I KL := by
  have n6 := hk.1.1.1.2.2.1
  have rl := rts_len (I := I) (t : Int)
  have f71 := (hk.2.1 t t1).1.1
  refine bk_X5_optionBits_0 ?_
  rw [Int.toNat_natCast, f71]
  exact ⟨by omega, by omega, obs_r _ (by omega), PL_i (h _ (lrg_Sl _ _) (fun y hy => obs_b _ (by omega) y hy))⟩
theorem mbs_s (bits : Int) (k : Nat) : mbs bits (k + 1) = if bit bits (k : Int) = true then mbs bits k ++ [k] else mbs bits k := by
  unfold mbs
  rw [List.range_succ, List.filter_append]
  by_cases h : bit bits (k : Int) = true
  · rw [if_pos h]
    simp [h]
  · rw [if_neg h]
    simp [h]
theorem mbs_mem {bits : Int} {n t : Nat} : t ∈ mbs bits n ↔ t < n ∧ bit bits (t : Int) = true := by
  unfold mbs
  rw [List.mem_filter, List.mem_range]
theorem mbs_pw (bits : Int) (n : Nat) : (mbs bits n).Pairwise (fun a b => a < b) := by
  unfold mbs
  exact List.Pairwise.filter _ List.pairwise_lt_range
theorem mbs_len (bits : Int) (n : Nat) : (mbs bits n).length ≤ n := by
  unfold mbs
  have := List.length_filter_le (fun t : Nat => bit bits t) (List.range n)
  rw [List.length_range] at this
  exact this
/-- the rows of choices at the start -/
def RW0 (I X : HI) (cs : Int → List Int) (z : Int) (ms : List Nat) : Prop := ∀ t ∈ ms, lrg (X 478 t) ∧ ∀ y, y < 64 → (lb (X 478 t) y = true ↔ dmo I cs z t y ∧ y ≤ 3 * (rts I t).length)
theorem fill_lp2 {bits z : Int} {K : HI → Prop} (hk : KNW I cs) (e33 : I 33 100 = I 489 63) (hsh : 0 ≤ I 489 63 ∧ I 489 63 < 65536) (b0 : 0 ≤ bits) (b1 : bits < 16) (hz : z = 0 ∨ z = 1) (h : ∀ X : HI, (∀ k, k ≠ 477 → k ≠ 478 → k ≠ 479 → X k = I k) → (∀ j, j ≠ 7 → X 477 j = I 477 j) → MSs X (mbs bits (I 518 6).toNat) → RW0 I X cs z (mbs bits (I 518 6).toNat) → J none mX6_solve (d + 15) 0 0 50 [(0, vR 477), (1, vI bits), (2, vI z), (3, vI (I 518 6))] [] (mk X) (PI KI)) : ∀ (n k : Nat) (X : HI), (k : Int) + n = I 518 6 → (∀ c, c ≠ 477 → c ≠ 478 → c ≠ 479 → X c = I c) → (∀ j, j ≠ 7 → X 477 j = I 477 j) → X 477 7 = (mbs bits k).length → (∀ (i t : Nat), (mbs bits k)[i]? = some t → X 479 i = t) → RW0 I X cs z (mbs bits k) → J none mX6_solve (d + 15) 0 0 50 [(0, vR 477), (1, vI bits), (2, vI z), (3, vI (k : Int))] [] (mk X) (PI KI) := by
  have n6 := hk.1.1.1.2.2.1
  intro n
  induction n with
  | zero =>
    intro k X e fX gX x7 x9 hR
    have ek : (I 518 6).toNat = k := by omega
    rw [ek] at h
    have := h X fX gX ⟨x7, x9, by have := mbs_len bits k; omega, fun t ht => by rw [fX 518 (by decide) (by decide) (by decide)]; have := (mbs_mem.mp ht).1; omega, mbs_pw bits k⟩ hR
    rw [show I 518 6 = (k : Int) from by omega] at this
    exact this
  | succ n ih =>
    intro k X e fX gX x7 x9 hR
    have lm := mbs_len bits k
    have ms := mbs_s bits k
    have k1 : (k : Int) < I 518 6 := by omega
    have c2 : X 2 2 = I 518 6 := by rw [fX 2 (by decide) (by decide) (by decide)]; exact hk.1.1.1.1.2.2.1
    have kX : KNW X cs := KNW_47 hk (fun c h1 h2 h3 _ _ => fX c h1 h2 h3)
    have f518 : X 518 = I 518 := fX 518 (by decide) (by decide) (by decide)
    have e489 : X 489 = I 489 := fX 489 (by decide) (by decide) (by decide)
    have cX : CF I X := ⟨fun k hk => fX k (by omega) (by omega) (by omega), by rw [e489]⟩
    have rX : rts X (k : Int) = rts I (k : Int) := rts_fr cX (by rw [e489]) _
    refine bk_X6_solve_50 ?_
    rw [c2, bit_01 b0 (by omega) (by omega) (by omega)]
    refine ⟨fun q => by omega, fun _ => ?_⟩
    by_cases hb : bit bits (k : Int) = true
    · rw [if_pos hb]
      rw [if_pos hb] at ms
      refine ⟨fun q => by omega, fun _ => ?_⟩
      -- the saint is one of them
      have put : ∀ (v w : Int) (I8 I9 I10 : HI), lrg v → (∀ y, y < 64 → lb v y = decide (1 ≤ y ∧ y ≤ 3 * (rts I k).length)) → (w = 0 ∨ w = 1) → (w = 1 ↔ (z ≠ 0 ∧ WHL I (wy I k (cs k)))) → I8 = up X 478 k (lO v w) → I9 = up I8 477 7 (I8 477 7 + 1) → I10 = up I9 479 (I8 477 7).toNat (k : Int) → J none mX6_solve (d + 15) 0 0 50 [(0, vR 477), (1, vI bits), (2, vI z), (3, vI ((k : Int) + 1))] [] (mk I10) (PI KI) := by
        intro v w I8 I9 I10 vl hv hw hww e8 e9 e10
        have x8 : I8 477 7 = (mbs bits k).length := by rw [e8, up_k (by decide)]; exact x7
        rw [x8] at e9 e10
        rw [Int.toNat_natCast] at e10
        have := ih (k + 1) I10 (by omega) (fun c h1 h2 h3 => by rw [e10, up_k h3, e9, up_k h1, e8, up_k h2, fX c h1 h2 h3]) (fun j hj => by rw [e10, up_k (by decide), e9, up_j hj, e8, up_k (by decide), gX j hj]) (by rw [e10, up_k (by decide), e9, up_e, ms, List.length_append, List.length_singleton]; omega) (fun i t ht => ?_) (fun t ht => ?_)
        · exact this
        · rw [ms] at ht
          by_cases ei : i < (mbs bits k).length
          · rw [List.getElem?_append_left ei] at ht
            rw [e10, up_j (by omega), e9, up_k (by decide), e8, up_k (by decide)]
            exact x9 i t ht
          · have := ge_lt ht
            rw [List.length_append, List.length_singleton] at this
            obtain rfl : i = (mbs bits k).length := by omega
            rw [List.getElem?_concat_length] at ht
            cases ht
            rw [e10, up_e]
        · rw [ms] at ht
          have e478 : I10 478 = I8 478 := by rw [e10, up_k (by decide), e9, up_k (by decide)]
          rw [e478]
          rcases List.mem_append.mp ht with ht | ht
          · have := (mbs_mem.mp ht).1
            rw [e8, up_j (by omega)]
            exact hR t ht
          · rw [List.mem_singleton.mp ht, e8, up_e]
            refine ⟨lrg_O _ _, fun y hy => ?_⟩
            have hw' : lb w y = (decide (w = 1) && decide (y = 0)) := by
              rcases hw with rfl | rfl
              · rw [lb_0]; rfl
              · rw [lb_1]; simp
            rw [lb_O, hv y hy, hw', Bool.or_eq_true]
            unfold dmo
            simp only [Bool.and_eq_true, decide_eq_true_eq]
            by_cases ey : y = 0
            · subst ey
              constructor
              · rintro (q | q)
                · omega
                · exact ⟨fun _ => hww.mp q.1, by omega⟩
              · intro q
                exact Or.inr ⟨hww.mpr (q.1 rfl), rfl⟩
            · constructor
              · rintro (q | q)
                · exact ⟨fun z => absurd z ey, q.2⟩
                · exact absurd q.2 ey
              · intro q
                exact Or.inl ⟨by omega, q.2⟩
      have l0 : X 477 7 = (mbs bits k).length := x7
      have ob : ∀ (w : Int), (w = 0 ∨ w = 1) → (w = 1 ↔ (z ≠ 0 ∧ WHL I (wy I k (cs k)))) → CL mX5_optionBits (d + 14) [vR 69, vI (k : Int)] X (fun x3 I7 => ((0 : Int) ≤ (k : Int) ∧ (k : Int) < 20) ∧ (∀ I8 : HI, I8 = up I7 478 (k : Int).toNat (lO x3 w) → (-2147483648 ≤ (I8 477 7) + 1 ∧ (I8 477 7) + 1 ≤ 2147483647) ∧ (∀ I9 : HI, I9 = up I8 477 7 ((I8 477 7) + 1) → ((0 : Int) ≤ (I8 477 7) ∧ (I8 477 7 : Int) < 4) ∧ (∀ I10 : HI, I10 = up I9 479 (I8 477 7).toNat (k : Int) → (-2147483648 ≤ (k : Int) + 1 ∧ (k : Int) + 1 ≤ 2147483647) ∧ J none mX6_solve (d + 15) 0 0 50 [(0, vR 477), (1, vI bits), (2, vI z), (3, vI ((k : Int) + 1))] [] (mk I10) (PI KI))))) := fun w hw hww => by
        refine c5_optionBits kX (by rw [f518]; exact k1) (fun v vl hv => ⟨by omega, fun I8 e8 => ?_⟩)
        rw [Int.toNat_natCast] at e8
        rw [rX] at hv
        have x8 : I8 477 7 = (mbs bits k).length := by rw [e8, up_k (by decide)]; exact x7
        exact ⟨by rw [x8]; omega, fun I9 e9 => ⟨by rw [x8]; omega, fun I10 e10 => ⟨by omega, put v w I8 I9 I10 vl hv hw hww e8 e9 e10⟩⟩⟩
      refine ⟨fun q => ob 0 (Or.inl rfl) ⟨fun z => by omega, fun z => absurd q z.1⟩, fun q => ?_⟩
      refine c9_blocked kX.1 (by rw [fX 33 (by decide) (by decide) (by decide), e489]; exact e33) (by rw [e489]; exact hsh) (by rw [f518]; exact k1) (fun wh => ⟨fun q2 => absurd rfl q2, fun _ => ob 1 (Or.inr rfl) ⟨fun _ => ⟨q, ?_⟩, fun _ => rfl⟩⟩) (fun nw => ⟨fun _ => ob 0 (Or.inl rfl) ⟨fun z => by omega, fun z => absurd ?_ nw⟩, fun q2 => by omega⟩)
      · rw [WHL_fr (by rw [e489]), wy_cf cX] at wh
        exact wh
      · rw [WHL_fr (by rw [e489]), wy_cf cX]
        exact z.2
    · rw [if_neg hb]
      rw [if_neg hb] at ms
      refine ⟨fun _ => ⟨by omega, ?_⟩, fun q => absurd rfl q⟩
      have := ih (k + 1) X (by omega) fX gX (by rw [ms]; exact x7) (by rw [ms]; exact x9) (by rw [ms]; exact hR)
      exact this
end SV
