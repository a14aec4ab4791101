theorem DRw_fr {I X : HI} (e1 : X 531 = I 531) (e2 : X 522 = I 522) (a b ca cb : Int) (W V : List Sp) (m f : Int) : DRw X a b ca cb W V m f ↔ DRw I a b ca cb W V m f := by
  unfold DRw snd loudM
  rw [e1, e2]
theorem UPw_fr {I X : HI} (e2 : X 522 = I 522) (e3 : X 489 44 = I 489 44) (b : Int) (W V : List Sp) (m l : Int) : UPw X b W V m l ↔ UPw I b W V m l := by
  unfold UPw petS lies
  rw [e2, e3]
theorem Exc_fr {I X : HI} (e1 : X 518 = I 518) (e2 : X 489 64 = I 489 64) (h1 : X 524 = I 524) (h2 : X 526 = I 526) (h3 : X 527 = I 527) (m so fa a b : Int) : Exc X m so fa a b ↔ Exc I m so fa a b := by
  unfold Exc
  simp only [Hld_fr h1 h2 h3]
  rw [e1, e2]
/-- a clash that isn't excepted, by twice its minute and its sort -/
def UK (I : HI) (cs : Int → List Int) (a b κ : Int) : Prop := 0 ≤ κ ∧ κ < 2000 ∧ (if κ % 2 = 0 then ∃ f, DRw I a b (hm I a) (hm I b) (wy I a (cs a)) (wy I b (cs b)) (κ / 2) f ∧ ¬ Exc I (κ / 2) 0 f a b else (∃ l, UPw I b (wy I a (cs a)) (wy I b (cs b)) (κ / 2) l ∨ UPw I a (wy I b (cs b)) (wy I a (cs a)) (κ / 2) l) ∧ ¬ Exc I (κ / 2) 1 0 a b)
/-- frames of what is asked about clashes -/
def AFr (I X : HI) : Prop := X 518 = I 518 ∧ X 521 = I 521 ∧ X 522 = I 522 ∧ X 531 = I 531 ∧ X 489 44 = I 489 44 ∧ X 489 64 = I 489 64 ∧ X 524 = I 524 ∧ X 526 = I 526 ∧ X 527 = I 527
theorem UK_fr {I X : HI} (h : AFr I X) (cs : Int → List Int) (a b κ : Int) : UK X cs a b κ ↔ UK I cs a b κ := by
  obtain ⟨h1, h2, h3, h4, h5, h6, h7, h8, h9⟩ := h
  unfold UK
  simp only [DRw_fr h4 h3, UPw_fr h3 h5, Exc_fr h1 h6 h7 h8 h9, wy_fr h1 h2 h3, hm_fr h3]
/-- the first one of all pairs -/
def FND (I : HI) (cs : Int → List Int) (κ a b : Int) : Prop := UK I cs a b κ ∧ (0 ≤ a ∧ a < b ∧ b < I 518 6) ∧ (∀ κ', κ' < κ → ∀ a' b', 0 ≤ a' → a' < b' → b' < I 518 6 → ¬ UK I cs a' b' κ') ∧ (∀ a' b', 0 ≤ a' → a' < b' → b' < I 518 6 → (a' < a ∨ (a' = a ∧ b' < b)) → ¬ UK I cs a' b' κ)
theorem FND_u {I : HI} {cs : Int → List Int} {κ a b κ' a' b' : Int} (h : FND I cs κ a b) (g : FND I cs κ' a' b') : κ = κ' ∧ a = a' ∧ b = b' := by
  obtain ⟨h1, h2, h3, h4⟩ := h
  obtain ⟨g1, g2, g3, g4⟩ := g
  have e : κ = κ' := by
    rcases Int.lt_trichotomy κ κ' with q | q | q
    · exact absurd h1 (g3 κ q a b h2.1 h2.2.1 h2.2.2)
    · exact q
    · exact absurd g1 (h3 κ' q a' b' g2.1 g2.2.1 g2.2.2)
  subst e
  refine ⟨rfl, ?_⟩
  rcases Int.lt_trichotomy a a' with q | q | q
  · exact absurd h1 (g4 a b h2.1 h2.2.1 h2.2.2 (Or.inl q))
  · subst q
    refine ⟨rfl, ?_⟩
    rcases Int.lt_trichotomy b b' with q | q | q
    · exact absurd h1 (g4 a b h2.1 h2.2.1 h2.2.2 (Or.inr ⟨rfl, q⟩))
    · exact q
    · exact absurd g1 (h4 a b' g2.1 g2.2.1 g2.2.2 (Or.inr ⟨rfl, q⟩))
  · exact absurd g1 (h4 a' b' g2.1 g2.2.1 g2.2.2 (Or.inl q))
/-- what the class's looks at clashes change -/
def LFr (I X : HI) : Prop := (∀ k, (k < 57 ∨ 66 < k) → X k = I k) ∧ (∀ j, j ≠ 6 → X 62 j = I 62 j)
theorem LFr_rfl (I : HI) : LFr I I := ⟨fun _ _ => rfl, fun _ _ => rfl⟩
theorem LFr_tr {I X Y : HI} (h : LFr I X) (g : LFr X Y) : LFr I Y := ⟨fun k hk => by rw [g.1 k hk, h.1 k hk], fun j hj => by rw [g.2 j hj, h.2 j hj]⟩
theorem LFr_A {I X : HI} (h : LFr I X) : AFr I X := ⟨h.1 518 (by decide), h.1 521 (by decide), h.1 522 (by decide), h.1 531 (by decide), by rw [h.1 489 (by decide)], by rw [h.1 489 (by decide)], h.1 524 (by decide), h.1 526 (by decide), h.1 527 (by decide)⟩
theorem LFr_u {I X : HI} (h : UFr I X) : LFr I X := ⟨fun k hk => h.1 k (by omega), h.2⟩
theorem RCu_fr {I X : HI} (h : RCu I) (e : ∀ k, 62 ≤ k → k ≤ 66 → X k = I k) (e1 : X 518 = I 518) (h1 : X 524 = I 524) (h2 : X 526 = I 526) (h3 : X 527 = I 527) : RCu X := by
  unfold RCu at h ⊢
  simp only [Hld_fr h1 h2 h3]
  rw [e 64 (by decide) (by decide), e 62 (by decide) (by decide), e 63 (by decide) (by decide), e1]
  exact h
theorem CCo_fr {I X : HI} (h : CCo I) (e1 : X 518 = I 518) (e9 : X 9 = I 9) (e10 : X 10 = I 10) (h1 : X 524 = I 524) (h2 : X 526 = I 526) (h3 : X 527 = I 527) : CCo X := by
  unfold CCo at h ⊢
  simp only [mcode_fr h1 h2 h3]
  rw [e1, e9, e10, h2, h3]
  exact h
section UN
variable {d : Nat} {I : HI} {K : HI → Prop} {KI : Int → HI → Prop} {cs : Int → List Int}
/-- the first unexcused minute of a span, as a clash of its pair -/
theorem span_first {X0 : HI} {a b : Int} {W V : List Sp} {x : Spn} {i : Nat} {L : List Spn} (hc : CN I) (hC : CCo I) (on0 : 0 ≤ I 489 64) (on1 : I 489 64 < oSl 1 (I 518 9)) (a0 : 0 ≤ a) (ab : a < b) (b4 : b < 4) (f0 : LFr I X0) (r0 : RCu X0) (x7 : X0 57 7 = a) (x8 : X0 57 8 = b) (mX : MSp X0 L) (hi : L[i]? = some x) (len : L.length ≤ 1201) (sx : SpS I a b (hm I a) (hm I b) W V x) (on33 : I 33 101 = I 489 64) (h : ∀ (Y : HI) (r : Int), UFr X0 Y → RCu Y → x.1 ≤ r → r ≤ x.2.1 + 1 → (∀ m, x.1 ≤ m → m < r → Exc I m (soS x.2.2.1) (faS x.2.2.1) a b) → (r ≤ x.2.1 → ¬ Exc I r (soS x.2.2.1) (faS x.2.2.1) a b) → KI r Y) : CI mX9_onBits (d + 5) [vR 32] X0 (fun x1 I1 => CI mX1_firstUnexcused (d + 5) [vR 62, vR 57, vI (i : Int), vI x1] I1 KI) := by
  have hl := ge_lt hi
  obtain ⟨g1, g2, g3, g4⟩ := mX.2 i x hi
  obtain ⟨s1, s2⟩ := sx
  have A := LFr_A f0
  have f518 := A.1
  have ti : ((i : Int)).toNat = i := by omega
  have sl : 0 ≤ x.2.2.1 ∧ x.2.2.1 ≤ 21 := by
    rcases s2 with ⟨q1, q2, _⟩ | ⟨q1, _⟩
    · exact ⟨q1, by omega⟩
    · omega
  have e33 : X0 33 101 = X0 489 64 := by
    rw [f0.1 33 (by decide), f0.1 489 (by decide)]
    exact on33
  refine c9_onBits ?_
  rw [e33]
  refine c1_firstUnexcused (CN_fr hc (f0.1 2 (by decide)) f518) (CCo_fr hC f518 (f0.1 9 (by decide)) (f0.1 10 (by decide)) (f0.1 524 (by decide)) (f0.1 526 (by decide)) (f0.1 527 (by decide))) r0 (by omega) (by omega) (by rw [f0.1 489 (by decide)]; exact on0) (by rw [f0.1 489 (by decide), f518]; exact on1) (by rw [x7]; exact a0) (by rw [x7, x8]; exact ab) (by rw [x8]; exact b4) (by rw [ti, g3]; exact sl.1) (by rw [ti, g3]; exact sl.2) (by rw [ti, g1]; exact s1.1) (by rw [ti, g1, g2]; exact s1.2.1) (by rw [ti, g2]; exact s1.2.2) (fun Y r u1 u2 u3 u4 u5 u6 => ?_)
  rw [ti, g1] at u3
  rw [ti, g2] at u4
  rw [ti, g1, g3, x7, x8] at u5
  rw [ti, g2, g3, x7, x8] at u6
  have ef := fun m => Exc_fr f518 A.2.2.2.2.2.1 A.2.2.2.2.2.2.1 A.2.2.2.2.2.2.2.1 A.2.2.2.2.2.2.2.2 m (soS x.2.2.1) (faS x.2.2.1) a b
  exact h Y r u1 u2 u3 u4 (fun m m0 m1 => (ef m).mp (u5 m m0 m1)) (fun q z => u6 q ((ef r).mpr z))
theorem SpS_k {a b : Int} {x : Spn} (sx : SpS I a b (hm I a) (hm I b) (wy I a (cs a)) (wy I b (cs b)) x) {m : Int} (m0 : x.1 ≤ m) (m1 : m ≤ x.2.1) (ne : ¬ Exc I m (soS x.2.2.1) (faS x.2.2.1) a b) : UK I cs a b (2 * m + soS x.2.2.1) := by
  obtain ⟨s1, s2⟩ := sx
  rcases s2 with ⟨q1, q2, q3⟩ | ⟨q1, q2, q3⟩
  · have e : soS x.2.2.1 = 0 := by unfold soS; rw [if_neg (by omega)]
    have e2 : faS x.2.2.1 = x.2.2.1 := by unfold faS; rw [if_neg (by omega)]
    rw [e, e2] at ne
    rw [e]
    refine ⟨by omega, by omega, ?_⟩
    rw [if_pos (by omega), show (2 * m + 0) / 2 = m from by omega]
    exact ⟨_, q3 m m0 m1, ne⟩
  · have e : soS x.2.2.1 = 1 := by unfold soS; rw [if_pos q1]
    have e2 : faS x.2.2.1 = 0 := by unfold faS; rw [if_pos q1]
    rw [e, e2] at ne
    rw [e]
    refine ⟨by omega, by omega, ?_⟩
    rw [if_neg (by omega), show (2 * m + 1) / 2 = m from by omega]
    exact ⟨⟨_, q3 m m0 m1⟩, ne⟩
/-- a clash that isn't excepted lies in a span -/
theorem UK_sp {a b κ : Int} {L : List Spn} (lou : loudM I a b ≤ 20) (cp : CpS I a b (hm I a) (hm I b) (wy I a (cs a)) (wy I b (cs b)) L) (h : UK I cs a b κ) : ∃ x ∈ L, x.1 ≤ κ / 2 ∧ κ / 2 ≤ x.2.1 ∧ κ = 2 * (κ / 2) + soS x.2.2.1 ∧ ¬ Exc I (κ / 2) (soS x.2.2.1) (faS x.2.2.1) a b := by
  obtain ⟨k0, k1, k2⟩ := h
  split at k2
  · rename_i q
    obtain ⟨f, g, ne⟩ := k2
    have lg := g.2.2.2.2.2.2
    obtain ⟨x, hx, g1, g2, g3⟩ := cp.1 _ f g
    have e : soS x.2.2.1 = 0 := by unfold soS; rw [if_neg (by omega)]
    have e2 : faS x.2.2.1 = f := by unfold faS; rw [if_neg (by omega), g1]
    exact ⟨x, hx, g2, g3, by rw [e]; omega, by rw [e, e2]; exact ne⟩
  · rename_i q
    obtain ⟨⟨l, g⟩, ne⟩ := k2
    obtain ⟨x, hx, g1, g0, g2, g3⟩ := cp.2 _ l g
    have e : soS x.2.2.1 = 1 := by unfold soS; rw [if_pos g1]
    have e2 : faS x.2.2.1 = 0 := by unfold faS; rw [if_pos g1]
    exact ⟨x, hx, g2, g3, by rw [e]; omega, by rw [e, e2]; exact ne⟩
theorem unex_lp {X0 : HI} {a b : Int} {L : List Spn} (hc : CN I) (hC : CCo I) (on0 : 0 ≤ I 489 64) (on1 : I 489 64 < oSl 1 (I 518 9)) (on33 : I 33 101 = I 489 64) (lou : loudM I a b ≤ 20) (a0 : 0 ≤ a) (ab : a < b) (b4 : b < 4) (f0 : LFr I X0) (x7 : X0 57 7 = a) (x8 : X0 57 8 = b) (mX : MSp X0 L) (len : L.length ≤ 1201) (sL : ∀ x ∈ L, SpS I a b (hm I a) (hm I b) (wy I a (cs a)) (wy I b (cs b)) x) (cp : CpS I a b (hm I a) (hm I b) (wy I a (cs a)) (wy I b (cs b)) L) (h : ∀ (Y : HI) (v : Int), LFr I Y → RCu Y → (v = 2000 ∨ UK I cs a b v) → (∀ κ, UK I cs a b κ → v ≤ κ) → KI v Y) : ∀ (n i : Nat) (v : Int) (X : HI), i + n = L.length → UFr X0 X → RCu X → (v = 2000 ∨ UK I cs a b v) → (∀ (j : Nat) (x : Spn), j < i → L[j]? = some x → ∀ m, x.1 ≤ m → m ≤ x.2.1 → ¬ Exc I m (soS x.2.2.1) (faS x.2.2.1) a b → v ≤ 2 * m + soS x.2.2.1) → J none mX4_unexcusedOf (d + 6) 0 0 23 [(0, vR 67), (1, vI a), (2, vI b), (3, vI v), (4, vI (i : Int))] [] (mk X) (PI KI)
  | 0, i, v, X, e, uX, rX, hv, hj => by
    refine bk_X4_unexcusedOf_23 ⟨fun _ => PI_i (h X v (LFr_tr f0 (LFr_u uX)) rX hv (fun κ z => ?_)), fun q => by rw [uX.1 57 (by decide), mX.1] at q; omega⟩
    obtain ⟨x, hx, g1, g2, g3, g4⟩ := UK_sp lou cp z
    obtain ⟨j, hj2, e2⟩ := List.mem_iff_getElem.mp hx
    have := hj j x (by omega) (by rw [List.getElem?_eq_getElem hj2, e2]) _ g1 g2 g4
    omega
  | n + 1, i, v, X, e, uX, rX, hv, hj => by
    have hi : i < L.length := by omega
    have gi' := List.getElem?_eq_getElem hi
    have gi := mX.2 i L[i] gi'
    have sx := sL _ (List.getElem_mem hi)
    have ih := unex_lp hc hC on0 on1 on33 lou a0 ab b4 f0 x7 x8 mX len sL cp h n (i + 1)
    rw [show ((i + 1 : Nat) : Int) = (i : Int) + 1 from by omega] at ih
    have f57 := uX.1 57 (by decide)
    have v2 : v ≤ 2000 := by
      rcases hv with hv | hv
      · omega
      · have := hv.2.1
        omega
    have so01 : soS (L[i]).2.2.1 = 0 ∨ soS (L[i]).2.2.1 = 1 := by
      unfold soS
      split
      · exact Or.inr rfl
      · exact Or.inl rfl
    have skip : v ≤ (L[i]).1 * 2 + soS (L[i]).2.2.1 → J none mX4_unexcusedOf (d + 6) 0 0 23 [(0, vR 67), (1, vI a), (2, vI b), (3, vI v), (4, vI ((i : Int) + 1))] [] (mk X) (PI KI) := fun q => by
      refine ih v X (by omega) uX rX hv (fun j x j1 j2 m m0 m1 ne => ?_)
      by_cases ej : j = i
      · subst ej
        rw [gi'] at j2
        simp only [Option.some.injEq] at j2
        subst j2
        omega
      · exact hj j x (by omega) j2 m m0 m1 ne
    have look : ∀ (so : Int), so = soS (L[i]).2.2.1 → CI mX9_onBits (d + 5) [vR 32] X (fun x1 I1 => CI mX1_firstUnexcused (d + 5) [vR 62, vR 57, vI (i : Int), vI x1] I1 (fun x2 I2 => ((0 : Int) ≤ (i : Int) ∧ ((i : Int) : Int) < 1201) ∧ (((I2 59 ((i : Int)).toNat) < x2 → (-2147483648 ≤ (i : Int) + 1 ∧ (i : Int) + 1 ≤ 2147483647) ∧ J none mX4_unexcusedOf (d + 6) 0 0 23 [(0, vR 67), (1, vI a), (2, vI b), (3, vI v), (4, vI ((i : Int) + 1))] [] (mk I2) (PI KI)) ∧ (¬ ((I2 59 ((i : Int)).toNat) < x2) → (-2147483648 ≤ x2 * 2 ∧ x2 * 2 ≤ 2147483647) ∧ (-2147483648 ≤ (x2 * 2) + so ∧ (x2 * 2) + so ≤ 2147483647) ∧ (-2147483648 ≤ (i : Int) + 1 ∧ (i : Int) + 1 ≤ 2147483647) ∧ J none mX4_unexcusedOf (d + 6) 0 0 23 [(0, vR 67), (1, vI a), (2, vI b), (3, vI (min v ((x2 * 2) + so))), (4, vI ((i : Int) + 1))] [] (mk I2) (PI KI))))) := fun so es => by
      refine span_first hc hC on0 on1 a0 ab b4 (LFr_tr f0 (LFr_u uX)) rX (by rw [f57]; exact x7) (by rw [f57]; exact x8) (L := L) ⟨by rw [f57]; exact mX.1, fun j y hy => by rw [uX.1 58 (by decide), uX.1 59 (by decide), uX.1 60 (by decide), uX.1 61 (by decide)]; exact mX.2 j y hy⟩ gi' len sx on33 (fun Y r u1 u2 u3 u4 u5 u6 => ?_)
      have uY := UFr_tr uX u1
      rw [Int.toNat_natCast, uY.1 59 (by decide), gi.2.1]
      have s1 := sx.1
      refine ⟨by omega, fun q => ⟨by omega, ih v Y (by omega) uY u2 hv (fun j x j1 j2 m m0 m1 ne => ?_)⟩, fun q => ⟨by omega, by omega, by omega, ih _ Y (by omega) uY u2 ?_ (fun j x j1 j2 m m0 m1 ne => ?_)⟩⟩
      · by_cases ej : j = i
        · subst ej
          rw [gi'] at j2
          simp only [Option.some.injEq] at j2
          subst j2
          exact absurd (u5 m m0 (by omega)) ne
        · exact hj j x (by omega) j2 m m0 m1 ne
      · rcases Int.le_total v (r * 2 + so) with z | z
        · rw [Int.min_eq_left z]
          exact hv
        · rw [Int.min_eq_right z, es, show r * 2 + soS (L[i]).2.2.1 = 2 * r + soS (L[i]).2.2.1 from by omega]
          exact Or.inr (SpS_k sx u3 (by omega) (u6 (by omega)))
      · by_cases ej : j = i
        · subst ej
          rw [gi'] at j2
          simp only [Option.some.injEq] at j2
          subst j2
          rcases Int.lt_or_le m r with z | z
          · exact absurd (u5 m m0 z) ne
          · omega
        · have := hj j x (by omega) j2 m m0 m1 ne
          omega
    have s1 := sx.1
    refine bk_X4_unexcusedOf_23 ?_
    rw [f57, mX.1, uX.1 60 (by decide), uX.1 58 (by decide), Int.toNat_natCast, gi.2.2.1, gi.1]
    refine ⟨fun q => by omega, fun _ => ⟨by omega, fun q => ⟨by omega, by omega, by omega, fun q2 => ⟨by omega, skip ?_⟩, fun q2 => look 0 ?_⟩, fun q => ⟨by omega, by omega, by omega, fun q2 => ⟨by omega, skip ?_⟩, fun q2 => look 1 ?_⟩⟩⟩
    · unfold soS
      rw [if_neg q]
      exact q2
    · unfold soS
      rw [if_neg q]
    · unfold soS
      rw [if_pos q]
      exact q2
    · unfold soS
      rw [if_pos q]
theorem c4_unexcusedOf {a b : Int} (hc : CN I) (hs : CSa I) (hl : CLa I) (hcs : CSo I) (hr : CRa I) (hC : CCo I) (hR : RCu I) (on0 : 0 ≤ I 489 64) (on1 : I 489 64 < oSl 1 (I 518 9)) (on33 : I 33 101 = I 489 64) (w1 : ClW I cs) (ok : ∀ s : Int, 0 ≤ s → s < I 518 6 → OkW I s (cs s)) (a0 : 0 ≤ a) (ab : a < b) (b1 : b < I 518 6) (h : ∀ (Y : HI) (v : Int), LFr I Y → RCu Y → (v = 2000 ∨ UK I cs a b v) → (∀ κ, UK I cs a b κ → v ≤ κ) → KI v Y) : CI mX4_unexcusedOf (d + 6) [vR 67, vI a, vI b] I KI := by
  have n6 := hc.2.2.1
  have sA := SW_of hc hs hl a0 (by omega) (ok a a0 (by omega))
  have sB := SW_of hc hs hl (by omega) b1 (ok b (by omega) b1)
  have la := (hs.2 a a0 (by omega)).2.2.1
  have lb' := (hs.2 b (by omega) b1).2.2.1
  refine bk_X4_unexcusedOf_0 (c3_scanAll hc hs hcs hr a0 (by omega) (by omega) b1 (w1 a a0 (by omega)).2 (w1 b (by omega) b1).2 sA sB (fun X L x1 x2 x3 x4 x5 x6 x7 => ?_))
  exact unex_lp (cs := cs) hc hC on0 on1 on33 (by unfold loudM; omega) a0 ab (by omega) ⟨fun k hk => x1 k (by omega), fun j hj => by rw [x1 62 (by decide)]⟩ x2 x3 x4 x5 x6 x7 h L.length 0 2000 X (by omega) (UFr_rfl X) (RCu_fr hR (fun k k1 k2 => x1 k (by omega)) (x1 518 (by decide)) (x1 524 (by decide)) (x1 526 (by decide)) (x1 527 (by decide))) (Or.inl rfl) (fun j x hj => by omega)
end UN
