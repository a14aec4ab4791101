/-- what lanes alone let hear -/
def lnk (F G W : Nat → Int) : Nat → Nat → Nat → Int
  | 0 => fun a b => if a = b then 0 else 999
  | l + 1 => fun a b => if ((a : Int) = F l ∧ (b : Int) = G l) ∨ ((a : Int) = G l ∧ (b : Int) = F l) then W l else lnk F G W l a b
def LNo (n nl : Nat) (F G W : Nat → Int) : Prop := ∀ l, l < nl → (0 ≤ F l ∧ F l < n) ∧ (0 ≤ G l ∧ G l < n) ∧ F l ≠ G l ∧ (0 ≤ W l ∧ W l ≤ 9)
theorem lnk_ok {n nl : Nat} {F G W : Nat → Int} (h : LNo n nl F G W) : ∀ (N l : Nat), l ≤ nl → FWo N (lnk F G W l)
  | N, 0, _ => fun a b ha hb => by
    unfold lnk
    refine ⟨by rw [if_pos rfl], ?_, ?_⟩
    · split <;> omega
    · split <;> split <;> omega
  | N, l + 1, hl => fun a b ha hb => by
    obtain ⟨h1, h2, h3, h4⟩ := h l (by omega)
    obtain ⟨g1, g2, g3⟩ := lnk_ok h N l (by omega) a b ha hb
    unfold lnk
    refine ⟨by rw [if_neg (by omega)]; exact g1, ?_, ?_⟩
    · split <;> omega
    · split <;> split <;> omega
theorem lnk_far {n nl : Nat} {F G W : Nat → Int} (h : LNo n nl F G W) : ∀ (l : Nat), l ≤ nl → ∀ a b, a < n → n ≤ b → lnk F G W l a b = 999
  | 0, _, a, b, ha, hb => by
    unfold lnk
    rw [if_neg (by omega)]
  | l + 1, hl, a, b, ha, hb => by
    obtain ⟨h1, h2, h3, h4⟩ := h l (by omega)
    unfold lnk
    rw [if_neg (by omega)]
    exact lnk_far h l (by omega) a b ha hb
theorem lnk_congr {F G W F' G' W' : Nat → Int} : ∀ (l : Nat), (∀ i, i < l → F' i = F i ∧ G' i = G i ∧ W' i = W i) → lnk F' G' W' l = lnk F G W l
  | 0, _ => rfl
  | l + 1, h => by
    obtain ⟨h1, h2, h3⟩ := h l (by omega)
    funext a b
    unfold lnk
    rw [h1, h2, h3, lnk_congr l (fun i hi => h i (by omega))]
section SO
variable {d : Nat} {I : HI} {K : HI → Prop}
def STf (I X : HI) : Prop := (∀ k, k ≠ 26 → k ≠ 14 → X k = I k) ∧ (∀ j, j ≠ 12 → X 14 j = I 14 j)
theorem set_h {n : Nat} {S : Nat → Nat → Int} (en : I 15 0 = n) (n10 : n ≤ 10) (hS : FWo n S) (h : ∀ Y : HI, (∀ k, k ≠ 26 → Y k = I k) → MX (Y 26) n (fwn S n) → K Y) : ∀ (m c : Nat) (X : HI), c + m = n → (∀ k, k ≠ 26 → X k = I k) → MX (X 26) n (fwn S c) → J none mX0_settle (d + 2) 0 0 139 [(0, vR 14), (1, vI (c : Int))] [] (mk X) (PV K)
  | 0, c, X, e, fX, mX => by
    refine bk_X0_settle_139 ?_
    rw [fX 15 (by decide), en]
    refine ⟨fun _ => PV_i (h X fX ?_), fun q => by omega⟩
    rw [show n = c from by omega] at mX ⊢
    exact mX
  | m + 1, c, X, e, fX, mX => by
    have ih := fun Y => set_h en n10 hS h m (c + 1) Y
    refine bk_X0_settle_139 ?_
    rw [fX 15 (by decide), en]
    refine ⟨fun q => by omega, fun _ => c0_hearThrough (n := n) (S := fwn S c) (by rw [fX 15 (by decide)]; exact en) n10 (fwn_ok hS c (by omega)) (by omega) mX (fun Y fY mY => ⟨by omega, ?_⟩)⟩
    have := ih Y (by omega) (fun k hk => by rw [fY k hk, fX k hk]) mY
    exact this
theorem set_l {n nl : Nat} (en : I 15 0 = n) (n10 : n ≤ 10) (enl : I 15 1 = nl) (nl16 : nl ≤ 16) (hL : LNo n nl (fun l => I 19 (4 * l)) (fun l => I 19 (4 * l + 1)) (fun l => I 19 (4 * l + 3))) (h : ∀ Y : HI, (∀ k, k ≠ 26 → Y k = I k) → MX (Y 26) n (fwn (lnk (fun l => I 19 (4 * l)) (fun l => I 19 (4 * l + 1)) (fun l => I 19 (4 * l + 3)) nl) n) → K Y) : ∀ (m l : Nat) (X : HI), l + m = nl → (∀ k, k ≠ 26 → X k = I k) → MX (X 26) n (lnk (fun l => I 19 (4 * l)) (fun l => I 19 (4 * l + 1)) (fun l => I 19 (4 * l + 3)) l) → J none mX0_settle (d + 2) 0 0 59 [(0, vR 14), (1, vI (l : Int))] [] (mk X) (PV K)
  | 0, l, X, e, fX, mX => by
    refine bk_X0_settle_59 ?_
    rw [fX 15 (by decide), enl]
    refine ⟨fun _ => ?_, fun q => by omega⟩
    rw [show l = nl from by omega] at mX
    have := set_h (d := d) (K := K) (I := X) (n := n) (by rw [fX 15 (by decide)]; exact en) n10 (lnk_ok hL n nl (Nat.le_refl _)) (fun Y fY mY => h Y (fun k hk => by rw [fY k hk, fX k hk]) mY) n 0 X (by omega) (fun _ _ => rfl) mX
    exact this
  | m + 1, l, X, e, fX, mX => by
    have ih := fun Y => set_l en n10 enl nl16 hL h m (l + 1) Y
    obtain ⟨h1, h2, h3, h4⟩ := hL l (by omega)
    dsimp only at h1 h2 h3 h4
    obtain ⟨f, hf⟩ : ∃ f : Nat, I 19 (4 * l) = f := ⟨(I 19 (4 * l)).toNat, by omega⟩
    obtain ⟨g, hg⟩ : ∃ g : Nat, I 19 (4 * l + 1) = g := ⟨(I 19 (4 * l + 1)).toNat, by omega⟩
    have e1 : ((l : Int) * 4).toNat = 4 * l := by omega
    have e2 : ((l : Int) * 4 + 1).toNat = 4 * l + 1 := by omega
    have e3 : ((l : Int) * 4 + 3).toNat = 4 * l + 3 := by omega
    refine bk_X0_settle_59 ?_
    rw [fX 15 (by decide), enl, e1, e2, e3, fX 19 (by decide), hf, hg]
    rw [hf] at h1
    rw [hg] at h2
    rw [hf, hg] at h3
    refine ⟨fun q => by omega, fun _ => ⟨by omega, by omega, by omega, by omega, by omega, by omega, by omega, by omega, by omega, by omega, by omega, fun I1 E1 => ⟨by omega, by omega, by omega, by omega, by omega, by omega, fun I2 E2 => ⟨by omega, ?_⟩⟩⟩⟩
    rw [show ((f : Int) * 10 + (g : Int)).toNat = 10 * f + g from by omega] at E1
    have i19 : I1 19 = I 19 := by rw [E1, up_k (by decide), fX 19 (by decide)]
    rw [show ((g : Int) * 10 + (f : Int)).toNat = 10 * g + f from by omega, i19] at E2
    have := ih I2 (by omega) (fun k hk => by rw [E2, up_k hk, E1, up_k hk, fX k hk]) (fun a b ha hb => ?_)
    · exact this
    · show I2 26 (10 * a + b) = if ((a : Int) = I 19 (4 * l) ∧ (b : Int) = I 19 (4 * l + 1)) ∨ ((a : Int) = I 19 (4 * l + 1) ∧ (b : Int) = I 19 (4 * l)) then I 19 (4 * l + 3) else lnk (fun l => I 19 (4 * l)) (fun l => I 19 (4 * l + 1)) (fun l => I 19 (4 * l + 3)) l a b
      rw [hf, hg]
      by_cases q1 : a = g ∧ b = f
      · rw [if_pos (by omega), q1.1, q1.2, E2, up_s]
      · by_cases q2 : a = f ∧ b = g
        · rw [if_pos (by omega), q2.1, q2.2, E2, up_n (by omega), E1, up_s]
        · rw [if_neg (by omega), E2, up_n (by omega), E1, up_n (by omega)]
          exact mX a b ha hb
theorem set_c {n nl : Nat} {P : Nat → Int} {T : Int} (en : I 15 0 = n) (n10 : n ≤ 10) (enl : I 15 1 = nl) (nl16 : nl ≤ 16) (hL : LNo n nl (fun l => I 19 (4 * l)) (fun l => I 19 (4 * l + 1)) (fun l => I 19 (4 * l + 3))) (hP : ∀ c, c < n → P (10 + c) = I 18 c) (h : ∀ Y : HI, STf I Y → Y 14 12 = T → MX (Y 26) n (fwn (lnk (fun l => I 19 (4 * l)) (fun l => I 19 (4 * l + 1)) (fun l => I 19 (4 * l + 3)) nl) n) → K Y) : ∀ (m c : Nat) (X : HI), c + m = n → STf I X → parS P m (c : Int) (X 14 12) = T → (∀ a b, a < n → b < n → X 26 (10 * a + b) = if a = b ∧ a < c then 0 else 999) → J none mX0_settle (d + 2) 0 0 12 [(0, vR 14), (1, vI (c : Int))] [] (mk X) (PV K)
  | 0, c, X, e, fX, pX, mX => by
    refine bk_X0_settle_12 ?_
    rw [fX.1 15 (by decide) (by decide), en]
    refine ⟨fun _ => ?_, fun q => by omega⟩
    have f19 := fX.1 19 (by decide) (by decide)
    have := set_l (d := d) (K := K) (I := X) (n := n) (nl := nl) (by rw [fX.1 15 (by decide) (by decide)]; exact en) n10 (by rw [fX.1 15 (by decide) (by decide)]; exact enl) nl16 (by rw [f19]; exact hL) (fun Y fY mY => h Y ⟨fun k k1 k2 => by rw [fY k k1, fX.1 k k1 k2], fun j hj => by rw [fY 14 (by decide), fX.2 j hj]⟩ (by rw [fY 14 (by decide)]; exact pX) (by rw [f19] at mY; exact mY)) nl 0 X (by omega) (fun _ _ => rfl) (fun a b ha hb => ?_)
    · exact this
    · rw [mX a b ha hb]
      show _ = if a = b then (0 : Int) else 999
      by_cases q : a = b
      · rw [if_pos (by omega), if_pos q]
      · rw [if_neg (by omega), if_neg q]
  | m + 1, c, X, e, fX, pX, mX => by
    have ih := fun Y => set_c en n10 enl nl16 hL hP h m (c + 1) Y
    refine bk_X0_settle_12 ?_
    rw [fX.1 15 (by decide) (by decide), en]
    refine ⟨fun q => by omega, fun _ => ⟨by omega, by omega, by omega, fun I1 E1 => ⟨by omega, fun I2 E2 => ⟨by omega, ?_⟩⟩⟩⟩
    rw [show ((c : Int) * 10 + (c : Int)).toNat = 10 * c + c from by omega] at E1
    have i18 : I1 18 = I 18 := by rw [E1, up_k (by decide), fX.1 18 (by decide) (by decide)]
    have i12 : I1 14 12 = X 14 12 := by rw [E1, up_k (by decide)]
    rw [Int.toNat_natCast, i18, i12] at E2
    have := ih I2 (by omega) ⟨fun k k1 k2 => by rw [E2, up_k k2, E1, up_k k1, fX.1 k k1 k2], fun j hj => by rw [E2, up_n (by omega), E1, up_k (by decide), fX.2 j hj]⟩ ?_ (fun a b ha hb => ?_)
    · exact this
    · rw [E2, up_s, ← pX]
      show _ = parS P m ((c : Int) + 1) (oO (X 14 12) (oSl 1 (P (10 + (c : Int)).toNat)))
      rw [show (10 + (c : Int)).toNat = 10 + c from by omega, hP c (by omega)]
      rfl
    · rw [E2, up_k (by decide)]
      by_cases q : a = c ∧ b = c
      · rw [if_pos (by omega), q.1, q.2, E1, up_s]
      · rw [E1, up_n (by omega), mX a b ha hb]
        by_cases q2 : a = b ∧ a < c
        · rw [if_pos q2, if_pos (by omega)]
        · rw [if_neg q2, if_neg (by omega)]
theorem c0_settle {n nl : Nat} {P : Nat → Int} (en : I 15 0 = n) (n10 : n ≤ 10) (enl : I 15 1 = nl) (nl16 : nl ≤ 16) (hL : LNo n nl (fun l => I 19 (4 * l)) (fun l => I 19 (4 * l + 1)) (fun l => I 19 (4 * l + 3))) (hP : ∀ c, c < n → P (10 + c) = I 18 c) (e12 : I 14 12 = 0) (h : ∀ Y : HI, STf I Y → Y 14 12 = parS P n 0 0 → MX (Y 26) n (fwn (lnk (fun l => I 19 (4 * l)) (fun l => I 19 (4 * l + 1)) (fun l => I 19 (4 * l + 3)) nl) n) → K Y) : CV mX0_settle (d + 2) [vR 14] I K := by
  refine bk_X0_settle_0 (c_fill (n0 := 100) rfl (by omega) ?_)
  have f : ∀ k, k ≠ 26 → flI I 26 100 999 k = I k := fun k hk => flI_f hk
  have f19 := f 19 (by decide)
  have := set_c (d := d) (K := K) (I := flI I 26 100 999) (n := n) (nl := nl) (P := P) (T := parS P n 0 0) (by rw [f 15 (by decide)]; exact en) n10 (by rw [f 15 (by decide)]; exact enl) nl16 (by rw [f19]; exact hL) (fun c hc => by rw [f 18 (by decide)]; exact hP c hc) (fun Y fY pY mY => h Y ⟨fun k k1 k2 => by rw [fY.1 k k1 k2, f k k1], fun j hj => by rw [fY.2 j hj, f 14 (by decide)]⟩ pY (by rw [f19] at mY; exact mY)) n 0 (flI I 26 100 999) (by omega) ⟨fun _ _ _ => rfl, fun _ _ => rfl⟩ (by rw [f 14 (by decide), e12]; rfl) (fun a b ha hb => by rw [flI_i (by omega), if_neg (by omega)])
  exact this
end SO
