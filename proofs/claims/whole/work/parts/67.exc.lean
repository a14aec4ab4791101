/-- the codes of an exception, as the model has them -/
def mcode (I : HI) (k : Int) : List Int := bl (I 524) (1600 + (I 526 (6 + k).toNat).toNat) ((I 527 (6 + k).toNat).toNat - (I 526 (6 + k).toNat).toNat)
/-- the exceptions' codes on both sides -/
def CCo (I : HI) : Prop := ∀ k : Int, 0 ≤ k → k < I 518 9 → (0 ≤ I 526 (6 + k).toNat ∧ I 526 (6 + k).toNat ≤ I 527 (6 + k).toNat ∧ I 527 (6 + k).toNat ≤ 1600) ∧ (0 ≤ I 10 k.toNat ∧ I 10 (k + 1).toNat ≤ 1600 ∧ I 10 (k + 1).toNat = I 10 k.toNat + (mcode I k).length) ∧ bl (I 9) (I 10 k.toNat).toNat (mcode I k).length = (mcode I k).map tr ∧ wt (mcode I k) []
/-- what an exception is asked about -/
def fct (m so fa a b : Int) : Nat → Int := fun j => if j = 0 then m else if j = 1 then so else if j = 2 then fa else if j = 3 then a else b
theorem fct_rng {m so fa a b : Int} (h0 : -1000000 ≤ m ∧ m ≤ 1000000) (h1 : -1000000 ≤ so ∧ so ≤ 1000000) (h2 : -1000000 ≤ fa ∧ fa ≤ 1000000) (h3 : -1000000 ≤ a ∧ a ≤ 1000000) (h4 : -1000000 ≤ b ∧ b ≤ 1000000) (j : Nat) : -1000000 ≤ fct m so fa a b j ∧ fct m so fa a b j ≤ 1000000 := by
  unfold fct
  split
  · exact h0
  · split
    · exact h1
    · split
      · exact h2
      · split
        · exact h3
        · exact h4
/-- whether an exception holds -/
def Hld (I : HI) (k m so fa a b : Int) : Prop := evs (fct m so fa a b) (mcode I k) [] = [1]
theorem mcode_fr {I I' : HI} (h1 : I' 524 = I 524) (h2 : I' 526 = I 526) (h3 : I' 527 = I 527) (k : Int) : mcode I' k = mcode I k := by
  unfold mcode
  rw [h1, h2, h3]
theorem Hld_fr {I I' : HI} (h1 : I' 524 = I 524) (h2 : I' 526 = I 526) (h3 : I' 527 = I 527) (k m so fa a b : Int) : Hld I' k m so fa a b ↔ Hld I k m so fa a b := by
  unfold Hld
  rw [mcode_fr h1 h2 h3]
section EX
variable {d : Nat} {I : HI} {K : HI → Prop} {KI : Int → HI → Prop}
theorem c1_holds {k : Int} {c : List Int} {f : Nat → Int} (hf : ∀ j, -1000000 ≤ f j ∧ f j ≤ 1000000) (k0 : 0 ≤ k) (k1 : k < 6) (g0 : 0 ≤ I 10 k.toNat) (g1 : I 10 (k + 1).toNat ≤ 1600) (g2 : I 10 (k + 1).toNat = I 10 k.toNat + c.length) (g3 : bl (I 9) (I 10 k.toNat).toNat c.length = c.map tr) (hw : wt c []) (hx : ∀ j, j < 5 → I 66 j = f j) (hm : I 62 6 = 0 ∨ I 62 6 = 1) (h : ∀ X' : HI, (∀ k, k ≠ 65 → k ≠ 62 → X' k = I k) → (∀ j, j ≠ 6 → X' 62 j = I 62 j) → X' 62 6 = (if (7 : Int) ∈ c then 1 else I 62 6) → KI (if evs f c [] = [1] then 1 else 0) X') : CI mX1_holds (d + 2) [vR 62, vI k] I KI := by
  have l := holds_lp (d := d) (e := k) hf c [] [] (I 10 k.toNat).toNat I (I 62 6) hw trivial (by simp) trivial hx g3 (by omega) rfl hm h
  rw [show (((I 10 k.toNat).toNat + c.length : Nat) : Int) = I 10 k.toNat + c.length from by omega, show (((I 10 k.toNat).toNat : Nat) : Int) = I 10 k.toNat from by omega] at l
  refine bk_X1_holds_0 ⟨by omega, by omega, by omega, ?_⟩
  rw [show min (I 10 (k + 1).toNat) 1600 = I 10 k.toNat + c.length from by omega]
  exact l
theorem c11_puts {v : Int} {n : Nat} (hn : I 489 56 = n) (h7 : n < 1700) (h : K (up (up I 529 n v) 489 56 ((n : Int) + 1))) : CV mX11_puts (d + 1) [vR 489, vL v] I K := by
  refine bk_X11_puts_0 ?_
  rw [hn]
  refine ⟨by omega, fun I1 e1 => ?_⟩
  have g : I1 489 56 = n := by rw [e1, up_k (by decide), hn]
  rw [g]
  refine ⟨by omega, fun I2 e2 => PV_i ?_⟩
  subst e1 e2
  rw [Int.toNat_natCast]
  exact h
theorem c11_joins {x a b : Int} {r : List Int} (hx : (1 ≤ x ∧ x ≤ 6) ∨ (11 ≤ x ∧ x ≤ 15)) (hn : I 489 56 = ((r.length + 2 : Nat) : Int)) (h7 : r.length + 2 ≤ 1700) (hs : skA (I 529) (b :: a :: r)) (ra : -1000000 ≤ a ∧ a ≤ 1000000) (rb : -1000000 ≤ b ∧ b ≤ 1000000) (h : ∀ Y : HI, (∀ k, k ≠ 489 → k ≠ 529 → Y k = I k) → (∀ j, j ≠ 56 → Y 489 j = I 489 j) → Y 489 56 = ((r.length + 1 : Nat) : Int) → skA (Y 529) (opv x a b :: r) → K Y) : CV mX11_joins (d + 2) [vR 489, vI x] I K := by
  have mb := mulb (M := 1000000) (by omega) ra rb
  have ea : I 529 (I 489 56 - 2).toNat = a := by
    rw [hn, show ((((r.length + 2 : Nat)) : Int) - 2).toNat = r.length from by omega]
    exact hs.2.1
  have eb : I 529 (I 489 56 - 1).toNat = b := by
    rw [hn, show ((((r.length + 2 : Nat)) : Int) - 1).toNat = r.length + 1 from by omega]
    exact hs.1
  refine bk_X11_joins_0 ?_
  rw [ea, eb]
  refine ⟨by omega, by omega, by omega, by omega, by omega, fun I1 e1 => ?_⟩
  have hp : ∀ v, v = opv x a b → CV mX11_puts (d + 1) [vR 489, vL v] I1 (fun I2 => PV K none (mk I2)) := fun v ev => by
    have n1 : I1 489 56 = ((r.length : Nat) : Int) := by
      rw [e1, up_e, hn]
      omega
    refine c11_puts n1 (by omega) (PV_i (h _ (fun k k1 k2 => ?_) (fun j hj => ?_) ?_ ?_))
    · rw [up_k k1, up_k k2, e1, up_k k1]
    · rw [up_j hj, up_k (by decide), e1, up_j hj]
    · rw [up_e]
      omega
    · rw [up_k (by decide), ← ev]
      refine skA_up ?_
      rw [e1, up_k (by decide)]
      exact hs.2.2
  clear h
  have hx2 : x = 1 ∨ x = 2 ∨ x = 3 ∨ x = 4 ∨ x = 5 ∨ x = 6 ∨ x = 11 ∨ x = 12 ∨ x = 13 ∨ x = 14 ∨ x = 15 := by omega
  rcases hx2 with rfl | rfl | rfl | rfl | rfl | rfl | rfl | rfl | rfl | rfl | rfl
  · (repeat' (with_reducible first | refine And.intro ?_ ?_ | intro _ | refine PI_i ?_ | refine PV_i ?_ | refine PL_i ?_)) <;> first | omega | exact c11_clip (hp _ (opv_1 a b).symm)
  · (repeat' (with_reducible first | refine And.intro ?_ ?_ | intro _ | refine PI_i ?_ | refine PV_i ?_ | refine PL_i ?_)) <;> first | omega | exact c11_clip (hp _ (opv_2 a b).symm)
  · (repeat' (with_reducible first | refine And.intro ?_ ?_ | intro _ | refine PI_i ?_ | refine PV_i ?_ | refine PL_i ?_)) <;> first | omega | exact c11_clip (hp _ (opv_3 a b).symm)
  · (repeat' (with_reducible first | refine And.intro ?_ ?_ | intro _ | refine PI_i ?_ | refine PV_i ?_ | refine PL_i ?_)) <;> first | omega | exact c11_floor ra rb (hp _ (opv_4 a b).symm)
  · (repeat' (with_reducible first | refine And.intro ?_ ?_ | intro _ | refine PI_i ?_ | refine PV_i ?_ | refine PL_i ?_)) <;> first | omega | (refine hp _ ?_; rw [opv_5]; split <;> omega)
  · (repeat' (with_reducible first | refine And.intro ?_ ?_ | intro _ | refine PI_i ?_ | refine PV_i ?_ | refine PL_i ?_)) <;> first | omega | (refine hp _ ?_; rw [opv_6]; split <;> omega)
  · (repeat' (with_reducible first | refine And.intro ?_ ?_ | intro _ | refine PI_i ?_ | refine PV_i ?_ | refine PL_i ?_)) <;> first | omega | (refine hp _ ?_; rw [opv_11]; split <;> omega)
  · (repeat' (with_reducible first | refine And.intro ?_ ?_ | intro _ | refine PI_i ?_ | refine PV_i ?_ | refine PL_i ?_)) <;> first | omega | (refine hp _ ?_; rw [opv_12]; split <;> omega)
  · (repeat' (with_reducible first | refine And.intro ?_ ?_ | intro _ | refine PI_i ?_ | refine PV_i ?_ | refine PL_i ?_)) <;> first | omega | (refine hp _ ?_; rw [opv_13]; split <;> omega)
  · (repeat' (with_reducible first | refine And.intro ?_ ?_ | intro _ | refine PI_i ?_ | refine PV_i ?_ | refine PL_i ?_)) <;> first | omega | exact hp _ (opv_14 a b).symm
  · (repeat' (with_reducible first | refine And.intro ?_ ?_ | intro _ | refine PI_i ?_ | refine PV_i ?_ | refine PL_i ?_)) <;> first | omega | (refine hp _ ?_; rw [opv_15]; split <;> omega)
theorem mholds_lp {e : Int} {f : Nat → Int} (e0 : 0 ≤ e) (e1 : e < 6) (hf : ∀ j, -1000000 ≤ f j ∧ f j ≤ 1000000) : ∀ (c : List Int) (τ : List Bool) (st : List Int) (i : Nat) (X : HI), wt c τ → tvs τ st → st.length ≤ 64 → skA (X 529) st → X 489 56 = (st.length : Int) → (∀ j, j < 5 → X 530 j = f j) → bl (X 524) (1600 + i) c.length = c → i + c.length ≤ 1600 → X 527 (6 + e).toNat = ((i + c.length : Nat) : Int) → (∀ X' : HI, (∀ k, k ≠ 489 → k ≠ 529 → X' k = X k) → (∀ j, j ≠ 56 → X' 489 j = X 489 j) → KI (if evs f c st = [1] then 1 else 0) X') → J none mX11_holds (d + 3) 0 0 15 [(0, vR 489), (1, vI e), (2, vI (i : Int))] [] (mk X) (PI KI)
  | [], τ, st, i, X, hw, hv, hl, hs, hn, hx, hc, hi, hend, h => by
    obtain ⟨v, e, hv1⟩ := wt_end hw hv
    subst e
    have e65 : X 529 0 = v := hs.1
    have g := h X (fun _ _ _ => rfl) (fun _ _ => rfl)
    refine bk_X11_holds_15 ?_
    rw [hend]
    refine ⟨by omega, by omega, fun _ => ?_, fun q => by simp at q⟩
    rw [e65]
    refine ⟨fun q => PI_i ?_, fun q => PI_i ?_⟩
    · have : v = 0 := by omega
      subst this
      simpa [evs] using g
    · subst q
      simpa [evs] using g
  | x :: c, τ, st, i, X, hw, hv, hl, hs, hn, hx, hc, hi, hend, h => by
    obtain ⟨τ', hw', hv', cases⟩ := wt_step hf hw hv
    simp only [List.length_cons, bl, List.cons.injEq] at hc hi hend
    obtain ⟨hc1, hc2⟩ := hc
    have ih := mholds_lp e0 e1 hf c τ' (st1 f x st) (i + 1)
    rw [show ((i + 1 : Nat) : Int) = (i : Int) + 1 from by omega] at ih
    have next : ∀ (X1 : HI), (∀ k, k ≠ 489 → k ≠ 529 → X1 k = X k) → (∀ j, j ≠ 56 → X1 489 j = X 489 j) → X1 489 56 = ((st1 f x st).length : Int) → skA (X1 529) (st1 f x st) → (st1 f x st).length ≤ 64 → J none mX11_holds (d + 3) 0 0 15 [(0, vR 489), (1, vI e), (2, vI ((i : Int) + 1))] [] (mk X1) (PI KI) := by
      intro X1 f1 f2 f3 f5 f6
      refine ih X1 hw' hv' f6 f5 f3 (fun j hj => by rw [f1 530 (by decide) (by decide)]; exact hx j hj) (by rw [f1 524 (by decide) (by decide)]; exact hc2) (by omega) (by rw [f1 527 (by decide) (by decide), hend]; omega) (fun X' r1 r2 => ?_)
      exact h X' (fun k k1 k2 => by rw [r1 k k1 k2, f1 k k1 k2]) (fun j hj => by rw [r2 j hj, f2 j hj])
    have t16 : (1600 + (i : Int)).toNat = 1600 + i := by omega
    refine bk_X11_holds_15 ?_
    rw [hend, t16, hc1]
    refine ⟨by omega, by omega, fun q => by omega, fun _ => ⟨by omega, by omega, ?_⟩⟩
    rcases cases with ⟨e1', l64, kinds⟩ | ⟨e16, b, r, es, hb, e1'⟩ | ⟨ko, b, a, r, es, ra, rb, bo, e1'⟩
    · have push : ∀ v, st1 f x st = v :: st → CV mX11_puts (d + 2) [vR 489, vL v] X (fun I9 => (-2147483648 ≤ (i : Int) + 1 ∧ (i : Int) + 1 ≤ 2147483647) ∧ J none mX11_holds (d + 3) 0 0 15 [(0, vR 489), (1, vI e), (2, vI ((i : Int) + 1))] [] (mk I9) (PI KI)) := by
        intro v g4
        refine c11_puts hn (by omega) ⟨by omega, next _ (fun k k1 k2 => by rw [up_k k1, up_k k2]) (fun j hj => by rw [up_j hj, up_k (by decide)]) (by rw [up_e, g4]; simp) ?_ (by rw [g4]; simp; omega)⟩
        rw [g4, up_k (by decide)]
        exact skA_up hs
      rcases kinds with ⟨k1, k2⟩ | k1 | k1 | k1
      · exact ⟨fun q => by omega, fun _ => ⟨by omega, push _ (st1_n k1)⟩⟩
      · subst k1
        exact ⟨fun _ => ⟨fun q => absurd rfl q, fun _ => push _ st1_17⟩, fun q => by omega⟩
      · subst k1
        refine ⟨fun _ => ⟨fun _ => ⟨fun _ => c11_isIn (fun q1 q2 => by omega) (fun _ => ⟨fun q => by omega, fun _ => ⟨fun q => absurd rfl q, fun _ => ⟨fun q => absurd rfl q, fun _ => ?_⟩⟩⟩), fun q => by omega⟩, fun q => by omega⟩, fun q => by omega⟩
        rw [hx 4 (by omega)]
        exact push _ st1_18
      · refine ⟨fun _ => ⟨fun _ => ⟨fun _ => c11_isIn (fun q1 q2 => ⟨fun _ => ⟨fun _ => ⟨by omega, by omega, ?_⟩, fun q => by omega⟩, fun q => by omega⟩) (fun q => by omega), fun q => by omega⟩, fun q => by omega⟩, fun q => by omega⟩
        rw [hx (x - 7).toNat (by omega)]
        exact push _ (st1_f k1)
    · subst e16
      subst es
      simp only [List.length_cons] at hl hn
      refine ⟨fun _ => ⟨fun _ => ⟨fun q => absurd rfl q, fun _ => ?_⟩, fun q => by omega⟩, fun q => by omega⟩
      rw [hn, show ((((r.length + 1 : Nat)) : Int) - 1).toNat = r.length from by omega, hs.1]
      refine ⟨by omega, by omega, by omega, by omega, by omega, fun I7 g7 => ⟨by omega, next I7 (fun k k1 k2 => by rw [g7, up_k k2]) (fun j hj => by rw [g7, up_k (by decide)]) (by rw [g7, up_k (by decide), hn, e1']; simp) ?_ (by rw [e1']; simp; omega)⟩⟩
      rw [e1', g7]
      exact skA_up hs.2
    · subst es
      simp only [List.length_cons] at hl hn
      refine ⟨fun _ => ⟨fun _ => ⟨fun _ => c11_isIn (fun q1 q2 => by omega) (fun _ => ⟨fun q => by omega, fun _ => ⟨fun _ => ?_, fun q => by omega⟩⟩), fun q => by omega⟩, fun q => by omega⟩, fun q => by omega⟩
      refine c11_joins ko hn (by omega) hs ra rb (fun Y y1 y2 y3 y4 => ⟨by omega, next Y y1 y2 (by rw [y3, e1']; simp) (by rw [e1']; exact y4) (by rw [e1']; simp; omega)⟩)
theorem c11_holds {k : Int} {f : Nat → Int} (hf : ∀ j, -1000000 ≤ f j ∧ f j ≤ 1000000) (hC : CCo I) (k0 : 0 ≤ k) (k1 : k < I 518 9) (k6 : I 518 9 ≤ 6) (hx : ∀ j, j < 5 → I 530 j = f j) (h : ∀ X' : HI, (∀ k, k ≠ 489 → k ≠ 529 → X' k = I k) → (∀ j, j ≠ 56 → X' 489 j = I 489 j) → KI (if evs f (mcode I k) [] = [1] then 1 else 0) X') : CI mX11_holds (d + 3) [vR 489, vI k] I KI := by
  obtain ⟨⟨a1, a2, a3⟩, b, c1, c2⟩ := hC k k0 k1
  refine bk_X11_holds_0 (fun I1 e1 => ?_)
  have f1 : ∀ k, k ≠ 489 → I1 k = I k := fun k hk => by rw [e1, up_k hk]
  have ml : (mcode I k).length = (I 527 (6 + k).toNat).toNat - (I 526 (6 + k).toNat).toNat := bl_len _ _ _
  have l := mholds_lp (d := d) (KI := KI) k0 (by omega) hf (mcode I k) [] [] (I 526 (6 + k).toNat).toNat I1 c2 trivial (by simp) trivial (by rw [e1, up_e]; rfl) (fun j hj => by rw [f1 530 (by decide)]; exact hx j hj) (by rw [f1 524 (by decide), ml]; rfl) (by omega) (by rw [f1 527 (by decide)]; omega) (fun X' r1 r2 => h X' (fun k k1 k2 => by rw [r1 k k1 k2, f1 k k1]) (fun j hj => by rw [r2 j hj, e1, up_j hj]))
  rw [f1 526 (by decide)]
  rw [show (((I 526 (6 + k).toNat).toNat : Nat) : Int) = I 526 (6 + k).toNat from by omega] at l
  exact ⟨by omega, by omega, l⟩
/-- what isExcepted changes -/
def XFr (I X : HI) : Prop := (∀ k, k ≠ 489 → k ≠ 529 → k ≠ 530 → X k = I k) ∧ (∀ j, j ≠ 56 → X 489 j = I 489 j)
theorem XFr_rfl (I : HI) : XFr I I := ⟨fun _ _ _ _ => rfl, fun _ _ => rfl⟩
theorem XFr_tr {I X Y : HI} (h : XFr I X) (g : XFr X Y) : XFr I Y := ⟨fun k k1 k2 k3 => by rw [g.1 k k1 k2 k3, h.1 k k1 k2 k3], fun j hj => by rw [g.2 j hj, h.2 j hj]⟩
/-- a clash that is excepted by what is on -/
def Exc (I : HI) (m so fa a b : Int) : Prop := ∃ k : Int, 0 ≤ k ∧ k < I 518 9 ∧ bit (I 489 64) k = true ∧ Hld I k m so fa a b
theorem exc_lp {m so fa a b lo hi : Int} (hC : CCo I) (k6 : I 518 9 ≤ 6) (on0 : 0 ≤ I 489 64) (on1 : I 489 64 < 64) (hf : ∀ j, -1000000 ≤ fct m so fa lo hi j ∧ fct m so fa lo hi j ≤ 1000000) (k0 : ∀ X : HI, XFr I X → ¬ Exc I m so fa lo hi → KI 0 X) (k1 : ∀ X : HI, XFr I X → Exc I m so fa lo hi → KI 1 X) : ∀ (n : Nat) (k : Int) (X : HI), 0 ≤ k → k + n = I 518 9 → XFr I X → (∀ j, j < 5 → X 530 j = fct m so fa lo hi j) → (∀ u : Int, 0 ≤ u → u < k → ¬ (bit (I 489 64) u = true ∧ Hld I u m so fa lo hi)) → J none mX11_isExcepted (d + 4) 0 0 73 [(0, vR 489), (1, vI m), (2, vI so), (3, vI fa), (4, vI a), (5, vI b), (6, vI k)] [] (mk X) (PI KI)
  | 0, k, X, h0, e, hx, h5, hu => by
    have f518 := hx.1 518 (by decide) (by decide) (by decide)
    refine bk_X11_isExcepted_73 (c11_exceptions ?_)
    rw [f518]
    refine ⟨fun _ => PI_i (k0 X hx ?_), fun q => by omega⟩
    rintro ⟨u, u0, u1, u2, u3⟩
    exact hu u u0 (by omega) ⟨u2, u3⟩
  | n + 1, k, X, h0, e, hx, h5, hu => by
    have f518 := hx.1 518 (by decide) (by decide) (by decide)
    have f524 := hx.1 524 (by decide) (by decide) (by decide)
    have f526 := hx.1 526 (by decide) (by decide) (by decide)
    have f527 := hx.1 527 (by decide) (by decide) (by decide)
    have b64 : X 489 64 = I 489 64 := hx.2 64 (by decide)
    have ih := exc_lp (a := a) (b := b) hC k6 on0 on1 hf k0 k1 n (k + 1)
    refine bk_X11_isExcepted_73 (c11_exceptions ?_)
    rw [f518, b64]
    refine ⟨fun q => by omega, fun _ => ⟨fun q => ⟨by omega, ?_⟩, fun q => ?_⟩⟩
    · refine ih X (by omega) (by omega) hx h5 (fun u u0 u1 => ?_)
      by_cases eu : u = k
      · subst eu
        exact fun z => q ((sb_1 on0 (by omega) h0 (by omega)).mpr z.1)
      · exact hu u u0 (by omega)
    · have bk := (sb_1 on0 (by omega) h0 (by omega)).mp q
      have hCX : CCo X := by
        unfold CCo at hC ⊢
        simp only [mcode_fr f524 f526 f527]
        rw [f518, f526, f527, hx.1 10 (by decide) (by decide) (by decide), hx.1 9 (by decide) (by decide) (by decide)]
        exact hC
      refine c11_holds hf hCX h0 (by rw [f518]; omega) (by rw [f518]; exact k6) h5 (fun Y r1 r2 => ?_)
      have xy : XFr I Y := XFr_tr hx ⟨fun k k1 k2 k3 => r1 k k1 k2, r2⟩
      rw [mcode_fr f524 f526 f527]
      by_cases g : evs (fct m so fa lo hi) (mcode I k) [] = [1]
      · rw [if_pos g]
        exact ⟨fun q => by omega, fun _ => PI_i (k1 Y xy ⟨k, h0, by omega, bk, g⟩)⟩
      · rw [if_neg g]
        refine ⟨fun _ => ⟨by omega, ih Y (by omega) (by omega) xy (fun j hj => by rw [r1 530 (by decide) (by decide)]; exact h5 j hj) (fun u u0 u1 => ?_)⟩, fun q => absurd rfl q⟩
        by_cases eu : u = k
        · subst eu
          exact fun z => g z.2
        · exact hu u u0 (by omega)
theorem c11_isExcepted {m so fa a b : Int} (hC : CCo I) (hc : CN I) (on0 : 0 ≤ I 489 64) (on1 : I 489 64 < 64) (hm : 0 ≤ m ∧ m ≤ 100000) (hs : 0 ≤ so ∧ so ≤ 1) (hfa : 0 ≤ fa ∧ fa ≤ 100000) (ha : 0 ≤ a ∧ a ≤ 100) (hb : 0 ≤ b ∧ b ≤ 100) (k0 : ∀ X : HI, XFr I X → ¬ Exc I m so fa (if a < b then a else b) (if a < b then b else a) → KI 0 X) (k1 : ∀ X : HI, XFr I X → Exc I m so fa (if a < b then a else b) (if a < b then b else a) → KI 1 X) : CI mX11_isExcepted (d + 4) [vR 489, vI m, vI so, vI fa, vI a, vI b] I KI := by
  have k6 := hc.2.2.2.2.2
  refine bk_X11_isExcepted_0 ⟨fun q => ?_, fun q => PI_i (k0 I (XFr_rfl I) ?_)⟩
  · have fin : ∀ (X : HI) (lo hi : Int), lo = (if a < b then a else b) → hi = (if a < b then b else a) → X = up (up (up (up (up I 530 0 m) 530 1 so) 530 2 fa) 530 3 lo) 530 4 hi → J none mX11_isExcepted (d + 4) 0 0 73 [(0, vR 489), (1, vI m), (2, vI so), (3, vI fa), (4, vI a), (5, vI b), (6, vI 0)] [] (mk X) (PI KI) := by
      intro X lo hi e1 e2 eX
      have hlo : 0 ≤ lo ∧ lo ≤ 100 := by rw [e1]; split <;> omega
      have hhi : 0 ≤ hi ∧ hi ≤ 100 := by rw [e2]; split <;> omega
      rw [← e1, ← e2] at k0 k1
      refine exc_lp hC k6.2 on0 on1 (fct_rng (by omega) (by omega) (by omega) (by omega) (by omega)) k0 k1 (I 518 9).toNat 0 X (by omega) (by omega) ⟨fun k k1 k2 k3 => ?_, fun j hj => ?_⟩ (fun j hj => ?_) (fun u u0 u1 => by omega)
      · rw [eX, up_k k3, up_k k3, up_k k3, up_k k3, up_k k3]
      · rw [eX, up_k (by decide), up_k (by decide), up_k (by decide), up_k (by decide), up_k (by decide)]
      · have hj2 : j = 0 ∨ j = 1 ∨ j = 2 ∨ j = 3 ∨ j = 4 := by omega
        rw [eX]
        rcases hj2 with rfl | rfl | rfl | rfl | rfl <;> simp [up, fct]
    intro I1 g1 I2 g2 I3 g3
    refine ⟨fun q2 I4 g4 => ⟨fun q3 I5 g5 => ?_, fun q3 => absurd q2 q3⟩, fun q2 I4 g4 => ⟨fun q3 => absurd q3 q2, fun q3 I5 g5 => ?_⟩⟩
    · subst g1 g2 g3 g4
      exact fin I5 b a (by rw [if_neg (by omega)]) (by rw [if_neg (by omega)]) g5
    · subst g1 g2 g3 g4
      exact fin I5 a b (by rw [if_pos (by omega)]) (by rw [if_pos (by omega)]) g5
  · rintro ⟨k, _, _, h, _⟩
    rw [q, bit_zero] at h
    exact absurd h (by decide)
end EX
