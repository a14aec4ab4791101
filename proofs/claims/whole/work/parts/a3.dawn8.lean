def AFm (s : Nat) (I Y : HI) : Prop := (∀ k, k ≠ 554 → k ≠ 555 → Y k = I k) ∧ (∀ j, (j < 61 * s ∨ 61 * s + 61 ≤ j) → Y 554 j = I 554 j ∧ Y 555 j = I 555 j)
theorem AFm_rfl (s : Nat) (I : HI) : AFm s I I := ⟨fun _ _ _ => rfl, fun _ _ => ⟨rfl, rfl⟩⟩
section DW
variable {d : Nat} {I : HI} {K : HI → Prop} {m : Int} {cs : Int → List Int}
theorem LnB_0 : LnB [] 0 := ⟨pin_0, fun l _ _ => ⟨fun w => (by rw [bit_zero] at w; cases w), fun ⟨x, hx, _⟩ => (by cases hx)⟩⟩
theorem PB_0 {s : Int} : PB I s m [] 0 := ⟨pin_0, fun l _ _ => ⟨fun w => (by rw [bit_zero] at w; cases w), fun ⟨x, hx, _⟩ => (by cases hx)⟩⟩
theorem p2_pin : ∀ l : Nat, l < 16 → 0 ≤ oSl 1 (l : Int) ∧ oSl 1 (l : Int) < 65536 := by decide +kernel
theorem LnB_a {V : List Sp} {x : Sp} {g : Int} (h : LnB V g) (hx : 0 ≤ x.2.1 ∧ x.2.1 < 16) : LnB (V ++ [x]) (oO g (oSl 1 x.2.1)) := by
  have p := p2_pin x.2.1.toNat (by omega)
  rw [Int.toNat_of_nonneg hx.1] at p
  refine ⟨oO_pin h.1 p, fun l l0 l1 => ?_⟩
  have hg := h.1
  unfold pin at hg
  rw [bit_or (by omega) (by omega) (by omega) (by omega), Bool.or_eq_true, h.2 l l0 l1, bit_p2 (by omega) (by omega) l0, decide_eq_true_eq]
  simp only [List.mem_append, List.mem_singleton]
  constructor
  · rintro (⟨y, hy, e⟩ | e)
    · exact ⟨y, Or.inl hy, e⟩
    · exact ⟨x, Or.inr rfl, e.symm⟩
  · rintro ⟨y, hy | hy, e⟩
    · exact Or.inl ⟨y, hy, e⟩
    · subst hy
      exact Or.inr e.symm
theorem LnB_r {V : List Sp} {x : Sp} {g : Int} (h : LnB V g) (hx : x.2.1 = -1) : LnB (V ++ [x]) g := by
  refine ⟨h.1, fun l l0 l1 => ?_⟩
  rw [h.2 l l0 l1]
  simp only [List.mem_append, List.mem_singleton]
  exact ⟨fun ⟨y, hy, e⟩ => ⟨y, Or.inl hy, e⟩, fun ⟨y, hy, e⟩ => hy.elim (fun u => ⟨y, u, e⟩) (fun u => by subst u; omega)⟩
theorem PB_a {s : Int} {V : List Sp} {x : Sp} {g : Int} (h : PB I s m V g) (hx : 0 ≤ x.2.1 ∧ x.2.1 < 16) (hl : lies I s x.2.2 m) : PB I s m (V ++ [x]) (oO g (oSl 1 x.2.1)) := by
  have p := p2_pin x.2.1.toNat (by omega)
  rw [Int.toNat_of_nonneg hx.1] at p
  refine ⟨oO_pin h.1 p, fun l l0 l1 => ?_⟩
  have hg := h.1
  unfold pin at hg
  rw [bit_or (by omega) (by omega) (by omega) (by omega), Bool.or_eq_true, h.2 l l0 l1, bit_p2 (by omega) (by omega) l0, decide_eq_true_eq]
  unfold petS
  simp only [List.mem_append, List.mem_singleton]
  constructor
  · rintro (⟨y, hy, e⟩ | e)
    · exact ⟨y, Or.inl hy, e⟩
    · exact ⟨x, Or.inr rfl, e.symm, hl⟩
  · rintro ⟨y, hy | hy, e⟩
    · exact Or.inl ⟨y, hy, e⟩
    · subst hy
      exact Or.inr e.1.symm
theorem PB_r {s : Int} {V : List Sp} {x : Sp} {g : Int} (h : PB I s m V g) (hx : x.2.1 = -1 ∨ ¬ lies I s x.2.2 m) : PB I s m (V ++ [x]) g := by
  refine ⟨h.1, fun l l0 l1 => ?_⟩
  rw [h.2 l l0 l1]
  unfold petS
  simp only [List.mem_append, List.mem_singleton]
  refine ⟨fun ⟨y, hy, e⟩ => ⟨y, Or.inl hy, e⟩, fun ⟨y, hy, e⟩ => hy.elim (fun u => ⟨y, u, e⟩) (fun u => ?_)⟩
  subst u
  rcases hx with w | w
  · omega
  · exact absurd e.2 w
theorem dws_lp {s ix w : Nat} {o : Int} (hT : CTY I) (s1 : (s : Int) < I 518 6) (ixr : ix < 183) (w1 : w < 244) (hm0 : 0 ≤ m ∧ m ≤ 999) (or_ : 0 ≤ o ∧ o ≤ 60) {U : List Sp} (k : ∀ Y : HI, (∀ k, k ≠ 554 → k ≠ 555 → Y k = I k) → (∀ j, j ≠ ix → Y 554 j = I 554 j ∧ Y 555 j = I 555 j) → PB I s m U (Y 554 ix) → LnB U (Y 555 ix) → J none mX11_dawns (d + 3) 0 0 22 [(0, vR 489), (1, vI (s : Int)), (2, vI m), (3, vI (o + 1))] [] (mk Y) (PV K)) : ∀ (W V : List Sp) (q : Nat) (X : HI), V ++ W = U → q + W.length ≤ 24 → SL I (w : Int) (q : Int) W → (∀ y ∈ W, (y.2.1 = -1 ∨ (0 ≤ y.2.1 ∧ y.2.1 < 16)) ∧ 0 ≤ y.2.2 ∧ y.2.2 ≤ 999) → (∀ k, k ≠ 554 → k ≠ 555 → X k = I k) → (∀ j, j ≠ ix → X 554 j = I 554 j ∧ X 555 j = I 555 j) → PB I s m V (X 554 ix) → LnB V (X 555 ix) → J none mX11_dawns (d + 3) 0 0 71 [(0, vR 489), (1, vI (s : Int)), (2, vI m), (3, vI o), (4, vI (ix : Int)), (5, vI (w : Int)), (6, vI (24 * (w : Int) + (q : Int)))] [] (mk X) (PV K)
  | [], V, q, X, e, ql, hs, hr, fX, gX, pX, lX => by
    have el := SL_len _ _ hs
    rw [Int.toNat_natCast] at el
    rw [List.append_nil] at e
    subst e
    have l0 : (([] : List Sp).length : Int) = 0 := rfl
    refine bk_X11_dawns_71 ?_
    rw [Int.toNat_natCast, fX 532 (by decide) (by decide), el]
    have ql' : q ≤ 24 := ql
    exact ⟨by omega, by omega, by omega, fun _ => ⟨by omega, k X fX gX pX lX⟩, fun z => by omega⟩
  | x :: W, V, q, X, e, ql, hs, hr, fX, gX, pX, lX => by
    have el := SL_len _ _ hs
    rw [Int.toNat_natCast] at el
    have ih := fun Y => dws_lp hT s1 ixr w1 hm0 or_ k W (V ++ [x]) (q + 1) Y
    have n6 := hT.1.2.2.1
    have sp := (hT.2.1.2 s (by omega) s1).2.2.2
    simp only [List.length_cons] at el ql
    obtain ⟨g1, g2, g3, g4, g5⟩ := hs
    obtain ⟨xl, x0, x1⟩ := hr x List.mem_cons_self
    have ev : V ++ [x] ++ W = U := by rw [List.append_assoc]; exact e
    have ei : (24 * (w : Int) + (q : Int)).toNat < 5856 := by omega
    have nx : ∀ Y : HI, (∀ k, k ≠ 554 → k ≠ 555 → Y k = I k) → (∀ j, j ≠ ix → Y 554 j = I 554 j ∧ Y 555 j = I 555 j) → PB I s m (V ++ [x]) (Y 554 ix) → LnB (V ++ [x]) (Y 555 ix) → J none mX11_dawns (d + 3) 0 0 71 [(0, vR 489), (1, vI (s : Int)), (2, vI m), (3, vI o), (4, vI (ix : Int)), (5, vI (w : Int)), (6, vI (24 * (w : Int) + (q : Int) + 1))] [] (mk Y) (PV K) := fun Y fY gY pY lY => by
      have := ih Y ev (by omega) g5 (fun y hy => hr y (List.mem_cons_of_mem _ hy)) fY gY pY lY
      rw [show 24 * (w : Int) + ((q + 1 : Nat) : Int) = 24 * (w : Int) + (q : Int) + 1 from by omega] at this
      exact this
    refine bk_X11_dawns_71 ?_
    rw [Int.toNat_natCast, Int.toNat_natCast, fX 532 (by decide) (by decide), fX 534 (by decide) (by decide), el, g3]
    refine ⟨by omega, by omega, by omega, fun z => by omega, fun _ => ⟨by omega, fun z => ?_, fun z => ⟨by omega, nx X fX gX (PB_r pX (Or.inl z)) (LnB_r lX z)⟩⟩⟩
    have xr : 0 ≤ x.2.1 ∧ x.2.1 < 16 := xl.resolve_left z
    refine ⟨by omega, by omega, by omega, fun I1 e1 => ⟨by omega, ?_⟩⟩
    have f1 : ∀ k, k ≠ 554 → k ≠ 555 → I1 k = I k := fun k h4 h5 => by rw [e1, up_k h5, fX k h4 h5]
    have s15 : I1 555 ix = oO (X 555 ix) (oSl 1 x.2.1) := by rw [e1]; exact up_s
    have s14 : I1 554 ix = X 554 ix := by rw [e1, up_k (by decide)]
    have h1 : ∀ j, j ≠ ix → I1 554 j = I 554 j ∧ I1 555 j = I 555 j := fun j hj => ⟨by rw [e1, up_k (by decide)]; exact (gX j hj).1, by rw [e1, up_n (by omega)]; exact (gX j hj).2⟩
    have c1 : CF I I1 := ⟨fun k hk => f1 k (by omega) (by omega), by rw [f1 489 (by decide) (by decide)]⟩
    have l1 : LnB (V ++ [x]) (I1 555 ix) := by rw [s15]; exact LnB_a lX xr
    rw [f1 535 (by decide) (by decide), g4]
    refine c11_doLie (by omega) (by omega) (by rw [c1.1 522 (by omega)]; exact sp) (by omega) (fun ly => ⟨fun z2 => by omega, fun _ => ⟨by omega, by omega, by omega, fun I3 e3 => ⟨by omega, ?_⟩⟩⟩) (fun nl => ⟨fun _ => ⟨by omega, nx I1 f1 h1 ?_ l1⟩, fun z2 => absurd rfl z2⟩)
    · rw [lies_cf c1] at ly
      rw [f1 534 (by decide) (by decide), g3] at e3
      have s34 : I3 554 ix = oO (X 554 ix) (oSl 1 x.2.1) := by rw [e3, up_s, s14]
      refine nx I3 (fun k h4 h5 => by rw [e3, up_k h4, f1 k h4 h5]) (fun j hj => ⟨by rw [e3, up_n (by omega)]; exact (h1 j hj).1, by rw [e3, up_k (by decide)]; exact (h1 j hj).2⟩) ?_ ?_
      · rw [s34]
        exact PB_a pX xr ly
      · rw [e3, up_k (by decide)]
        exact l1
    · rw [s14]
      rw [lies_cf c1] at nl
      exact PB_r pX (Or.inr nl)
end DW
