/-- the number of a pair -/
def prW (a b : Int) : Int := if a = 0 then b - 1 else if a = 1 then b + 1 else 5
def plc (a b sl w : Int) : Int := (prW a b * 22 + sl) * 16 + w
def soS (sl : Int) : Int := if sl = 21 then 1 else 0
def faS (sl : Int) : Int := if sl = 21 then 0 else sl
theorem prW_rng {a b : Int} (a0 : 0 ≤ a) (ab : a < b) (b4 : b < 4) : 0 ≤ prW a b ∧ prW a b < 6 := by
  unfold prW
  split
  · omega
  · split <;> omega
theorem plc_rng {a b sl w : Int} (a0 : 0 ≤ a) (ab : a < b) (b4 : b < 4) (s0 : 0 ≤ sl) (s1 : sl ≤ 21) (w0 : 0 ≤ w) (w1 : w < 16) : 0 ≤ plc a b sl w ∧ plc a b sl w < 2112 := by
  have := prW_rng a0 ab b4
  unfold plc
  omega
theorem plc_inj {a b sl w a' b' sl' w' : Int} (a0 : 0 ≤ a) (ab : a < b) (b4 : b < 4) (s0 : 0 ≤ sl) (s1 : sl ≤ 21) (w0 : 0 ≤ w) (w1 : w < 16) (a0' : 0 ≤ a') (ab' : a' < b') (b4' : b' < 4) (s0' : 0 ≤ sl') (s1' : sl' ≤ 21) (w0' : 0 ≤ w') (w1' : w' < 16) (e : plc a b sl w = plc a' b' sl' w') : a = a' ∧ b = b' ∧ sl = sl' ∧ w = w' := by
  have h1 := prW_rng a0 ab b4
  have h2 := prW_rng a0' ab' b4'
  unfold plc at e
  have e1 : prW a b = prW a' b' := by omega
  have e2 : sl = sl' := by omega
  have e3 : w = w' := by omega
  have ca : a = 0 ∨ a = 1 ∨ a = 2 := by omega
  have ca' : a' = 0 ∨ a' = 1 ∨ a' = 2 := by omega
  unfold prW at e1
  rcases ca with rfl | rfl | rfl <;> rcases ca' with rfl | rfl | rfl <;> simp at e1 <;> omega
/-- what the class keeps of the custom is right -/
def RCu (I : HI) : Prop := (∀ j : Nat, j < 2112 → I 64 j ≤ I 62 5) ∧ ∀ a b sl w : Int, 0 ≤ a → a < b → b < 4 → 0 ≤ sl → sl ≤ 21 → 0 ≤ w → w < 16 → I 64 (plc a b sl w).toNat = I 62 5 → ∀ e : Int, 0 ≤ e → e < I 518 9 → ∀ i : Nat, i < 64 → (lb (I 63 (plc a b sl w * 6 + e).toNat) i = true ↔ Hld I e (w * 64 + i) (soS sl) (faS sl) a b)
/-- what a look into the custom changes -/
def UFr (I X : HI) : Prop := (∀ k, (k < 62 ∨ 66 < k) → X k = I k) ∧ (∀ j, j ≠ 6 → X 62 j = I 62 j)
theorem UFr_rfl (I : HI) : UFr I I := ⟨fun _ _ => rfl, fun _ _ => rfl⟩
theorem UFr_tr {I X Y : HI} (h : UFr I X) (g : UFr X Y) : UFr I Y := ⟨fun k hk => by rw [g.1 k hk, h.1 k hk], fun j hj => by rw [g.2 j hj, h.2 j hj]⟩
theorem evs_ind {f g : Nat → Int} (hfg : ∀ j, j ≠ 0 → f j = g j) : ∀ (c st : List Int), (7 : Int) ∉ c → evs f c st = evs g c st
  | [], st, h => rfl
  | x :: c, st, h => by
    have hx : x ≠ 7 := fun e => h (by rw [e]; exact List.mem_cons_self)
    have hc : (7 : Int) ∉ c := fun e => h (List.mem_cons_of_mem _ e)
    have e : st1 f x st = st1 g x st := by
      unfold st1
      by_cases q : 7 ≤ x ∧ x ≤ 10
      · rw [hfg (x - 7).toNat (by omega), hfg 4 (by omega)]
      · rw [if_neg q, if_neg q, hfg 4 (by omega)]
    show evs f c (st1 f x st) = evs g c (st1 g x st)
    rw [e]
    exact evs_ind hfg c _ hc
theorem Hld_ind {I : HI} {k m m' so fa a b : Int} (h : (7 : Int) ∉ mcode I k) : Hld I k m so fa a b ↔ Hld I k m' so fa a b := by
  unfold Hld
  rw [evs_ind (f := fct m so fa a b) (g := fct m' so fa a b) (fun j hj => ?_) _ _ h]
  unfold fct
  rw [if_neg hj, if_neg hj]
section ME
variable {d : Nat} {I : HI} {K : HI → Prop} {KI : Int → HI → Prop}
theorem c10_pairOf {a b : Int} (a0 : 0 ≤ a) (ab : a < b) (b4 : b < 4) (h : KI (prW a b) I) : CI mX10_pairOf (d + 1) [vI a, vI b] I KI := by
  have ca : a = 0 ∨ a = 1 ∨ a = 2 := by omega
  have hv : oD (a * (7 - a)) 2 + b - a - 1 = prW a b ∧ 0 ≤ oD (a * (7 - a)) 2 ∧ oD (a * (7 - a)) 2 ≤ 10 := by
    rcases ca with rfl | rfl | rfl
    · have : oD (0 * (7 - 0)) 2 = 0 := by decide
      rw [this]
      refine ⟨?_, by omega, by omega⟩
      unfold prW
      rw [if_pos rfl]
      omega
    · have : oD (1 * (7 - 1)) 2 = 3 := by decide
      rw [this]
      refine ⟨?_, by omega, by omega⟩
      unfold prW
      rw [if_neg (by omega), if_pos rfl]
      omega
    · have : oD (2 * (7 - 2)) 2 = 5 := by decide
      rw [this]
      refine ⟨?_, by omega, by omega⟩
      unfold prW
      rw [if_neg (by omega), if_neg (by omega)]
      omega
  have hr : 0 ≤ a * (7 - a) ∧ a * (7 - a) ≤ 10 := by
    rcases ca with rfl | rfl | rfl <;> omega
  rw [← hv.1] at h
  exact bk_X10_pairOf_0 ⟨by omega, by omega, by omega, by omega, by omega, PI_i h⟩
/-- the inner loop while the minute is asked -/
theorem words_c {a b sl w e pl : Int} (hC : CCo I) (e0 : 0 ≤ e) (e1 : e < I 518 9) (e6 : I 518 9 ≤ 6) (a0 : 0 ≤ a) (ab : a < b) (b4 : b < 4) (s0 : 0 ≤ sl) (s1 : sl ≤ 21) (w0 : 0 ≤ w) (w1 : w < 16) (pl0 : 0 ≤ pl) (pl1 : pl < 2112) (hasked : (7 : Int) ∈ mcode I e) (h : ∀ (X : HI) (v : Int), (∀ k, (k < 62 ∨ 66 < k) → X k = I k) → X 63 = I 63 → X 64 = I 64 → (∀ j, j ≠ 6 → X 62 j = I 62 j) → (∀ j, 1 ≤ j → j < 5 → X 66 j = I 66 j) → X 62 6 = 1 → (∀ j, j < 64 → (lb v j = true ↔ Hld I e (w * 64 + j) (soS sl) (faS sl) a b)) → J none mX1_wordsOf (d + 3) 0 0 100 [(0, vR 62), (1, vI a), (2, vI b), (3, vI sl), (4, vI w), (5, vI pl), (6, vI (e + 1))] [] (mk (up X 63 (pl * 6 + e).toNat v)) (PI KI)) : ∀ (n : Nat) (i : Nat) (X : HI) (v : Int), i + n = 64 → (∀ k, (k < 62 ∨ 66 < k) → X k = I k) → X 63 = I 63 → X 64 = I 64 → (∀ j, j ≠ 6 → X 62 j = I 62 j) → (∀ j, 1 ≤ j → j < 5 → X 66 j = I 66 j) → X 62 6 = 1 → I 66 1 = soS sl → I 66 2 = faS sl → I 66 3 = a → I 66 4 = b → (∀ j, j < 64 → (lb v j = true ↔ j < i ∧ Hld I e (w * 64 + j) (soS sl) (faS sl) a b)) → J none mX1_wordsOf (d + 3) 0 0 125 [(0, vR 62), (1, vI a), (2, vI b), (3, vI sl), (4, vI w), (5, vI pl), (6, vI e), (7, vL v), (9, vI (i : Int))] [] (mk X) (PI KI)
  | 0, i, X, v, hi, f1, f63, f64, f62, f66, fm, g1, g2, g3, g4, hv => by
    refine bk_X1_wordsOf_125 ⟨fun _ => ⟨by omega, by omega, by omega, fun I1 k1 => ⟨by omega, ?_⟩⟩, fun q => by omega⟩
    rw [k1]
    exact h X v f1 f63 f64 f62 f66 fm (fun j hj => by rw [hv j hj]; exact ⟨fun z => z.2, fun z => ⟨by omega, z⟩⟩)
  | n + 1, i, X, v, hi, f1, f63, f64, f62, f66, fm, g1, g2, g3, g4, hv => by
    obtain ⟨c1, c2, c3, c4⟩ := hC e e0 e1
    have so01 : 0 ≤ soS sl ∧ soS sl ≤ 1 := by unfold soS; split <;> omega
    have fa01 : 0 ≤ faS sl ∧ faS sl ≤ 21 := by unfold faS; split <;> omega
    refine bk_X1_wordsOf_125 ⟨fun q => by omega, fun _ => ⟨fun q => by omega, fun _ => ⟨by omega, by omega, fun I3 k3 I4 k4 => ?_⟩⟩⟩
    have h4 : ∀ k, k ≠ 62 → k ≠ 66 → I4 k = X k := fun k p q => by rw [k4, up_k p, k3, up_k q]
    have h410 : I4 10 = I 10 := by rw [h4 10 (by decide) (by decide), f1 10 (by decide)]
    have h49 : I4 9 = I 9 := by rw [h4 9 (by decide) (by decide), f1 9 (by decide)]
    have fx : ∀ j, j < 5 → I4 66 j = fct (w * 64 + i) (soS sl) (faS sl) a b j := fun j hj => by
      rw [k4, up_k (by decide), k3]
      have hj2 : j = 0 ∨ j = 1 ∨ j = 2 ∨ j = 3 ∨ j = 4 := by omega
      rcases hj2 with rfl | rfl | rfl | rfl | rfl
      · rw [up_e]; rfl
      · rw [up_j (by decide), f66 1 (by omega) (by omega), g1]; rfl
      · rw [up_j (by decide), f66 2 (by omega) (by omega), g2]; rfl
      · rw [up_j (by decide), f66 3 (by omega) (by omega), g3]; rfl
      · rw [up_j (by decide), f66 4 (by omega) (by omega), g4]; rfl
    refine c1_holds (c := mcode I e) (fct_rng (m := w * 64 + i) (so := soS sl) (fa := faS sl) (a := a) (b := b) (by omega) (by omega) (by omega) (by omega) (by omega)) e0 (by omega) (by rw [h410]; exact c2.1) (by rw [h410]; exact c2.2.1) (by rw [h410]; exact c2.2.2) (by rw [h49, h410]; exact c3) c4 fx (by rw [k4, up_e]; exact Or.inl rfl) (fun Y r1 r2 r3 => ?_)
    rw [if_pos hasked] at r3
    have ih := fun v' => words_c hC e0 e1 e6 a0 ab b4 s0 s1 w0 w1 pl0 pl1 hasked h n (i + 1) Y v' (by omega) (fun k hk => by rw [r1 k (by omega) (by omega), h4 k (by omega) (by omega), f1 k hk]) (by rw [r1 63 (by decide) (by decide), h4 63 (by decide) (by decide), f63]) (by rw [r1 64 (by decide) (by decide), h4 64 (by decide) (by decide), f64]) (fun j hj => by rw [r2 j hj, k4, up_j hj, k3, up_k (by decide), f62 j hj]) (fun j j1 j2 => by rw [r1 66 (by decide) (by decide), k4, up_k (by decide), k3, up_j (by omega), f66 j j1 j2]) r3 g1 g2 g3 g4
    rw [show ((i + 1 : Nat) : Int) = (i : Int) + 1 from by omega] at ih
    by_cases hh : evs (fct (w * 64 + i) (soS sl) (faS sl) a b) (mcode I e) [] = [1]
    · rw [if_pos hh]
      refine ⟨fun q => by omega, fun _ => ⟨fun q => by rw [r3] at q; omega, fun _ => ⟨by omega, ih _ (fun j hj => ?_)⟩⟩⟩
      rw [lb_O, Bool.or_eq_true, hv j hj, lb_p2 (by omega) (by omega) hj, decide_eq_true_iff, Int.toNat_natCast]
      constructor
      · rintro (z | z)
        · exact ⟨by omega, z.2⟩
        · subst z
          exact ⟨by omega, hh⟩
      · rintro ⟨z1, z2⟩
        by_cases ej : j = i
        · exact Or.inr ej
        · exact Or.inl ⟨by omega, z2⟩
    · rw [if_neg hh]
      refine ⟨fun _ => ⟨by omega, ih _ (fun j hj => ?_)⟩, fun q => absurd rfl q⟩
      rw [hv j hj]
      constructor
      · rintro ⟨z1, z2⟩
        exact ⟨by omega, z2⟩
      · rintro ⟨z1, z2⟩
        by_cases ej : j = i
        · subst ej
          exact absurd z2 hh
        · exact ⟨by omega, z2⟩
/-- the loop over the exceptions -/
theorem words_b {a b sl w : Int} (hC : CCo I) (e6 : I 518 9 ≤ 6) (c24 : I 2 4 = I 518 9) (a0 : 0 ≤ a) (ab : a < b) (b4 : b < 4) (s0 : 0 ≤ sl) (s1 : sl ≤ 21) (w0 : 0 ≤ w) (w1 : w < 16) (h : ∀ X : HI, (∀ k, (k < 62 ∨ 66 < k) → X k = I k) → X 64 = I 64 → (∀ j, j ≠ 6 → X 62 j = I 62 j) → (∀ j : Nat, ((j : Int) < plc a b sl w * 6 ∨ plc a b sl w * 6 + 6 ≤ j) → X 63 j = I 63 j) → (∀ u : Int, 0 ≤ u → u < I 518 9 → ∀ j : Nat, j < 64 → (lb (X 63 (plc a b sl w * 6 + u).toNat) j = true ↔ Hld I u (w * 64 + j) (soS sl) (faS sl) a b)) → KI (plc a b sl w * 6) X) : ∀ (n : Nat) (e : Int) (X : HI), 0 ≤ e → e + n = I 518 9 → (∀ k, (k < 62 ∨ 66 < k) → X k = I k) → X 64 = I 64 → (∀ j, j ≠ 6 → X 62 j = I 62 j) → X 66 1 = soS sl → X 66 2 = faS sl → X 66 3 = a → X 66 4 = b → (∀ j : Nat, ((j : Int) < plc a b sl w * 6 ∨ plc a b sl w * 6 + 6 ≤ j) → X 63 j = I 63 j) → (∀ u : Int, 0 ≤ u → u < e → ∀ j : Nat, j < 64 → (lb (X 63 (plc a b sl w * 6 + u).toNat) j = true ↔ Hld I u (w * 64 + j) (soS sl) (faS sl) a b)) → J none mX1_wordsOf (d + 3) 0 0 100 [(0, vR 62), (1, vI a), (2, vI b), (3, vI sl), (4, vI w), (5, vI (plc a b sl w)), (6, vI e)] [] (mk X) (PI KI)
  | 0, e, X, e0, he, f1, f64, f62, g1, g2, g3, g4, fo, hu => by
    have pr := plc_rng a0 ab b4 s0 s1 w0 w1
    refine bk_X1_wordsOf_100 ⟨fun _ => ⟨by omega, PI_i (h X f1 f64 f62 fo (fun u u0 u1 => hu u u0 (by omega)))⟩, fun q => ?_⟩
    rw [f1 2 (by decide), c24] at q
    omega
  | n + 1, e, X, e0, he, f1, f64, f62, g1, g2, g3, g4, fo, hu => by
    have pr := plc_rng a0 ab b4 s0 s1 w0 w1
    have so01 : 0 ≤ soS sl ∧ soS sl ≤ 1 := by unfold soS; split <;> omega
    have fa01 : 0 ≤ faS sl ∧ faS sl ≤ 21 := by unfold faS; split <;> omega
    have f524 := f1 524 (by decide)
    have f526 := f1 526 (by decide)
    have f527 := f1 527 (by decide)
    have ih := words_b hC e6 c24 a0 ab b4 s0 s1 w0 w1 h n (e + 1)
    -- what is behind the word of e
    have done : ∀ (Y : HI) (v : Int), (∀ k, (k < 62 ∨ 66 < k) → Y k = I k) → Y 63 = X 63 → Y 64 = I 64 → (∀ j, j ≠ 6 → Y 62 j = I 62 j) → (∀ j, 1 ≤ j → j < 5 → Y 66 j = X 66 j) → (∀ j, j < 64 → (lb v j = true ↔ Hld I e (w * 64 + j) (soS sl) (faS sl) a b)) → J none mX1_wordsOf (d + 3) 0 0 100 [(0, vR 62), (1, vI a), (2, vI b), (3, vI sl), (4, vI w), (5, vI (plc a b sl w)), (6, vI (e + 1))] [] (mk (up Y 63 (plc a b sl w * 6 + e).toNat v)) (PI KI) := by
      intro Y v y1 y63 y64 y62 y66 hv
      refine ih _ (by omega) (by omega) (fun k hk => by rw [up_k (by omega), y1 k hk]) (by rw [up_k (by decide), y64]) (fun j hj => by rw [up_k (by decide), y62 j hj]) (by rw [up_k (by decide), y66 1 (by omega) (by omega), g1]) (by rw [up_k (by decide), y66 2 (by omega) (by omega), g2]) (by rw [up_k (by decide), y66 3 (by omega) (by omega), g3]) (by rw [up_k (by decide), y66 4 (by omega) (by omega), g4]) (fun j hj => by rw [up_j (by omega), y63, fo j hj]) (fun u u0 u1 j hj => ?_)
      by_cases eu : u = e
      · subst eu
        rw [up_e]
        exact hv j hj
      · rw [up_j (by omega), y63]
        exact hu u u0 (by omega) j hj
    refine bk_X1_wordsOf_100 ⟨fun q => ?_, fun _ I1 k1 => ?_⟩
    · rw [f1 2 (by decide), c24] at q
      omega
    have y1 : ∀ k, k ≠ 62 → I1 k = X k := fun k hk => by rw [k1, up_k hk]
    have fI1 : ∀ k, (k < 62 ∨ 66 < k) → I1 k = I k := fun k hk => by rw [y1 k (by omega), f1 k hk]
    have m62 : ∀ j, j ≠ 6 → I1 62 j = I 62 j := fun j hj => by rw [k1, up_j hj, f62 j hj]
    have i524 := fI1 524 (by decide)
    have i526 := fI1 526 (by decide)
    have i527 := fI1 527 (by decide)
    have hC1 : CCo I1 := by
      unfold CCo at hC ⊢
      simp only [mcode_fr i524 i526 i527]
      rw [fI1 518 (by decide), i526, i527, fI1 10 (by decide), fI1 9 (by decide)]
      exact hC
    by_cases asked : (7 : Int) ∈ mcode I e
    · have l := words_c (d := d) (I := I1) (KI := KI) (a := a) (b := b) (sl := sl) (w := w) (e := e) (pl := plc a b sl w) hC1 e0 (by rw [fI1 518 (by decide)]; omega) (by rw [fI1 518 (by decide)]; exact e6) a0 ab b4 s0 s1 w0 w1 pr.1 pr.2 (by rw [mcode_fr i524 i526 i527]; exact asked) (fun Y v r1 r2 r3 r4 r5 r6 r7 => ?_) 64 0 I1 0 (by omega) (fun _ _ => rfl) rfl rfl (fun _ _ => rfl) (fun _ _ _ => rfl) (by rw [k1, up_e]) (by rw [y1 66 (by decide), g1]) (by rw [y1 66 (by decide), g2]) (by rw [y1 66 (by decide), g3]) (by rw [y1 66 (by decide), g4]) (fun j hj => by rw [lb_0]; constructor <;> intro z <;> simp at z)
      · exact l
      · refine done Y v (fun k hk => by rw [r1 k hk, fI1 k hk]) (by rw [r2, y1 63 (by decide)]) (by rw [r3, y1 64 (by decide), f64]) (fun j hj => by rw [r4 j hj, m62 j hj]) (fun j j1 j2 => by rw [r5 j j1 j2, y1 66 (by decide)]) (fun j hj => ?_)
        rw [r7 j hj]
        exact Hld_fr i524 i526 i527 _ _ _ _ _ _
    · obtain ⟨c1, c2, c3, c4⟩ := hC e e0 (by omega)
      refine bk_X1_wordsOf_125 ⟨fun q => by omega, fun _ => ⟨fun q => by rw [k1, up_e] at q; omega, fun _ => ⟨by omega, by omega, fun I3 k3 I4 k4 => ?_⟩⟩⟩
      have h4 : ∀ k, k ≠ 62 → k ≠ 66 → I4 k = X k := fun k p q => by rw [k4, up_k p, k3, up_k q, y1 k p]
      have h410 : I4 10 = I 10 := by rw [h4 10 (by decide) (by decide), f1 10 (by decide)]
      have h49 : I4 9 = I 9 := by rw [h4 9 (by decide) (by decide), f1 9 (by decide)]
      have fx : ∀ j, j < 5 → I4 66 j = fct (w * 64 + 0) (soS sl) (faS sl) a b j := fun j hj => by
        rw [k4, up_k (by decide), k3]
        have hj2 : j = 0 ∨ j = 1 ∨ j = 2 ∨ j = 3 ∨ j = 4 := by omega
        rcases hj2 with rfl | rfl | rfl | rfl | rfl
        · rw [up_e]; rfl
        · rw [up_j (by decide), y1 66 (by decide), g1]; rfl
        · rw [up_j (by decide), y1 66 (by decide), g2]; rfl
        · rw [up_j (by decide), y1 66 (by decide), g3]; rfl
        · rw [up_j (by decide), y1 66 (by decide), g4]; rfl
      refine c1_holds (c := mcode I e) (fct_rng (m := w * 64 + 0) (so := soS sl) (fa := faS sl) (a := a) (b := b) (by omega) (by omega) (by omega) (by omega) (by omega)) e0 (by omega) (by rw [h410]; exact c2.1) (by rw [h410]; exact c2.2.1) (by rw [h410]; exact c2.2.2) (by rw [h49, h410]; exact c3) c4 fx (by rw [k4, up_e]; exact Or.inl rfl) (fun Y r1 r2 r3 => ?_)
      rw [if_neg asked, k4, up_e] at r3
      have end1 : ∀ v, (∀ j, j < 64 → (lb v j = true ↔ Hld I e (w * 64 + j) (soS sl) (faS sl) a b)) → J none mX1_wordsOf (d + 3) 0 0 125 [(0, vR 62), (1, vI a), (2, vI b), (3, vI sl), (4, vI w), (5, vI (plc a b sl w)), (6, vI e), (7, vL v), (9, vI (0 + 1))] [] (mk Y) (PI KI) := by
        intro v hv
        refine bk_X1_wordsOf_125 ⟨fun q => by omega, fun _ => ⟨fun _ => ⟨by omega, by omega, by omega, fun I2 k2 => ⟨by omega, ?_⟩⟩, fun q => absurd r3 q⟩⟩
        rw [k2]
        exact done Y v (fun k hk => by rw [r1 k (by omega) (by omega), h4 k (by omega) (by omega), f1 k hk]) (by rw [r1 63 (by decide) (by decide), h4 63 (by decide) (by decide)]) (by rw [r1 64 (by decide) (by decide), h4 64 (by decide) (by decide), f64]) (fun j hj => by rw [r2 j hj, k4, up_j hj, k3, up_k (by decide), m62 j hj]) (fun j j1 j2 => by rw [r1 66 (by decide) (by decide), k4, up_k (by decide), k3, up_j (by omega), y1 66 (by decide)]) hv
      by_cases hh : evs (fct (w * 64 + 0) (soS sl) (faS sl) a b) (mcode I e) [] = [1]
      · rw [if_pos hh]
        refine ⟨fun q => by omega, fun _ => ⟨fun _ => ⟨by omega, end1 _ (fun j hj => ?_)⟩, fun q => absurd r3 q⟩⟩
        rw [lb_O, lb_m1 hj, Bool.or_true]
        exact ⟨fun _ => (Hld_ind asked).mp hh, fun _ => rfl⟩
      · rw [if_neg hh]
        refine ⟨fun _ => ⟨by omega, end1 _ (fun j hj => ?_)⟩, fun q => absurd rfl q⟩
        rw [lb_0]
        exact ⟨fun z => absurd z (by decide), fun z => absurd ((Hld_ind asked).mp z) hh⟩
theorem c1_wordsOf {a b sl w : Int} (hc : CN I) (hC : CCo I) (hR : RCu I) (a0 : 0 ≤ a) (ab : a < b) (b4 : b < 4) (s0 : 0 ≤ sl) (s1 : sl ≤ 21) (w0 : 0 ≤ w) (w1 : w < 16) (h : ∀ X : HI, UFr I X → RCu X → (∀ u : Int, 0 ≤ u → u < I 518 9 → ∀ j : Nat, j < 64 → (lb (X 63 (plc a b sl w * 6 + u).toNat) j = true ↔ Hld I u (w * 64 + j) (soS sl) (faS sl) a b)) → KI (plc a b sl w * 6) X) : CI mX1_wordsOf (d + 3) [vR 62, vI a, vI b, vI sl, vI w] I KI := by
  have c24 := hc.1.2.2.2.2
  have e6 := hc.2.2.2.2.2
  have pr := plc_rng a0 ab b4 s0 s1 w0 w1
  have pw := prW_rng a0 ab b4
  have ep : ((prW a b) * 22 + sl) * 16 + w = plc a b sl w := rfl
  refine bk_X1_wordsOf_0 (c10_pairOf a0 ab b4 ?_)
  rw [ep]
  refine ⟨by omega, by omega, by omega, by omega, by omega, fun q => ⟨by omega, fun I2 k2 => ?_⟩, fun q => ⟨by omega, PI_i (h I (UFr_rfl I) hR (hR.2 a b sl w a0 ab b4 s0 s1 w0 w1 q))⟩⟩
  have fin : ∀ (X : HI) (z1 z2 : Int), z1 = soS sl → z2 = faS sl → X = up (up (up (up I2 66 1 z1) 66 2 z2) 66 3 a) 66 4 b → J none mX1_wordsOf (d + 3) 0 0 100 [(0, vR 62), (1, vI a), (2, vI b), (3, vI sl), (4, vI w), (5, vI (plc a b sl w)), (6, vI 0)] [] (mk X) (PI KI) := by
    intro X z1 z2 e1 e2 eX
    have fX : ∀ k, k ≠ 66 → X k = I2 k := fun k hk => by rw [eX, up_k hk, up_k hk, up_k hk, up_k hk]
    have f2 : ∀ k, k ≠ 64 → I2 k = I k := fun k hk => by rw [k2, up_k hk]
    refine words_b (I := X) (by
      unfold CCo at hC ⊢
      simp only [mcode_fr (show X 524 = I 524 by rw [fX 524 (by decide), f2 524 (by decide)]) (show X 526 = I 526 by rw [fX 526 (by decide), f2 526 (by decide)]) (show X 527 = I 527 by rw [fX 527 (by decide), f2 527 (by decide)])]
      rw [fX 518 (by decide), fX 526 (by decide), fX 527 (by decide), fX 10 (by decide), fX 9 (by decide), f2 518 (by decide), f2 526 (by decide), f2 527 (by decide), f2 10 (by decide), f2 9 (by decide)]
      exact hC) (by rw [fX 518 (by decide), f2 518 (by decide)]; exact e6.2) (by rw [fX 518 (by decide), f2 518 (by decide), fX 2 (by decide), f2 2 (by decide)]; exact c24) a0 ab b4 s0 s1 w0 w1 (fun Y y1 y64 y62 yo yu => ?_) (X 518 9).toNat 0 X (by omega) (by rw [fX 518 (by decide), f2 518 (by decide)]; omega) (fun _ _ => rfl) rfl (fun _ _ => rfl) ?_ ?_ ?_ ?_ (fun _ _ => rfl) (fun u u0 u1 => by omega)
    · have yI : ∀ k, (k < 62 ∨ 66 < k) → Y k = I k := fun k hk => by rw [y1 k hk, fX k (by omega), f2 k (by omega)]
      have h518 : X 518 = I 518 := by rw [fX 518 (by decide), f2 518 (by decide)]
      have y62' : ∀ j, j ≠ 6 → Y 62 j = I 62 j := fun j hj => by rw [y62 j hj, fX 62 (by decide), f2 62 (by decide)]
      have hX : ∀ u m, Hld X u m (soS sl) (faS sl) a b ↔ Hld I u m (soS sl) (faS sl) a b := fun u m => Hld_fr (by rw [fX 524 (by decide), f2 524 (by decide)]) (by rw [fX 526 (by decide), f2 526 (by decide)]) (by rw [fX 527 (by decide), f2 527 (by decide)]) _ _ _ _ _ _
      have yu' : ∀ u : Int, 0 ≤ u → u < I 518 9 → ∀ j : Nat, j < 64 → (lb (Y 63 (plc a b sl w * 6 + u).toNat) j = true ↔ Hld I u (w * 64 + j) (soS sl) (faS sl) a b) := fun u u0 u1 j hj => by
        rw [yu u u0 (by rw [h518]; exact u1) j hj]
        exact hX _ _
      refine h Y ⟨yI, y62'⟩ ⟨fun j hj => ?_, fun a' b' sl' w' a0' ab' b4' s0' s1' w0' w1' hv t t0 t1 i hi => ?_⟩ yu'
      · rw [y64, y62' 5 (by decide), fX 64 (by decide), k2]
        by_cases ej : j = (plc a b sl w).toNat
        · subst ej
          rw [up_e]
          exact Int.le_refl _
        · rw [up_j ej]
          exact hR.1 j hj
      rw [yI 518 (by decide)] at t1
      rw [Hld_fr (yI 524 (by decide)) (yI 526 (by decide)) (yI 527 (by decide))]
      have pr' := plc_rng a0' ab' b4' s0' s1' w0' w1'
      by_cases eq : plc a' b' sl' w' = plc a b sl w
      · obtain ⟨q1, q2, q3, q4⟩ := plc_inj a0' ab' b4' s0' s1' w0' w1' a0 ab b4 s0 s1 w0 w1 eq
        subst q1 q2 q3 q4
        exact yu' t t0 t1 i hi
      · rw [yo _ (by omega), fX 63 (by decide), f2 63 (by decide)]
        refine hR.2 a' b' sl' w' a0' ab' b4' s0' s1' w0' w1' ?_ t t0 t1 i hi
        rw [y64, y62' 5 (by decide), fX 64 (by decide), k2, up_j (by omega)] at hv
        exact hv
    · rw [eX, up_j (by decide), up_j (by decide), up_j (by decide), up_e, e1]
    · rw [eX, up_j (by decide), up_j (by decide), up_e, e2]
    · rw [eX, up_j (by decide), up_e]
    · rw [eX, up_e]
  refine ⟨fun q2 I3 k3 => ⟨fun q3 I4 k4 I5 k5 I6 k6 => ?_, fun q3 => absurd q3 q2⟩, fun q2 I3 k3 => ⟨fun q3 => absurd q2 q3, fun q3 I4 k4 I5 k5 I6 k6 => ?_⟩⟩
  · subst k3 k4 k5
    exact fin I6 0 sl (by unfold soS; rw [if_neg q2]) (by unfold faS; rw [if_neg q2]) k6
  · subst k3 k4 k5
    exact fin I6 1 0 (by unfold soS; rw [if_pos q2]) (by unfold faS; rw [if_pos q2]) k6
end ME
