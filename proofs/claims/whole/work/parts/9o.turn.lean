/-- a choice clashes with nobody's way as it is told -/
def ALN (I : HI) (cs : Int → List Int) (s x : Nat) : Prop := ∀ t : Nat, (t : Int) < I 518 6 → t ≠ s → LW I cs s x t 0
def eN (I : HI) (cs : Int → List Int) (s x : Nat) : Int := endS 0 (chw I cs s x)
/-- the best option up to a number -/
def BOP (I : HI) (cs : Int → List Int) (s m w : Nat) : Prop := (1 ≤ w ∧ w ≤ m) ∧ ALN I cs s w ∧ ∀ y, 1 ≤ y → y ≤ m → ALN I cs s y → (eN I cs s w < eN I cs s y ∨ (eN I cs s w = eN I cs s y ∧ w ≤ y))
def NOB (I : HI) (cs : Int → List Int) (s m : Nat) : Prop := ∀ y, 1 ≤ y → y ≤ m → ¬ ALN I cs s y
def TKC (I : HI) (cs : Int → List Int) (s w : Nat) : Prop := eN I cs s w < eN I cs s 0 ∨ chw I cs s 0 = [] ∨ ¬ WHL I (wy I s (cs s)) ∨ ¬ ALN I cs s 0
def T1 (I : HI) (cs : Int → List Int) (s : Nat) (cs' : Int → List Int) (c : Int) : Prop := (c = 1 ∧ ∃ w, BOP I cs s (3 * (rts I s).length) w ∧ TKC I cs s w ∧ cs' = uw cs s (opc I s (w - 1))) ∨ (c = 0 ∧ cs' = cs ∧ (NOB I cs s (3 * (rts I s).length) ∨ ∃ w, BOP I cs s (3 * (rts I s).length) w ∧ ¬ TKC I cs s w))
theorem BOP_u {I : HI} {cs : Int → List Int} {s m w w' : Nat} (h : BOP I cs s m w) (g : BOP I cs s m w') : w = w' := by
  have a := h.2.2 w' g.1.1 g.1.2 g.2.1
  have b := g.2.2 w h.1.1 h.1.2 h.2.1
  omega
theorem T1_u {I : HI} {cs cs1 cs2 : Int → List Int} {s : Nat} {c1 c2 : Int} (h : T1 I cs s cs1 c1) (g : T1 I cs s cs2 c2) : cs1 = cs2 ∧ c1 = c2 := by
  rcases h with ⟨h1, w, h2, h3, h4⟩ | ⟨h1, h2, h3⟩ <;> rcases g with ⟨g1, v, g2, g3, g4⟩ | ⟨g1, g2, g3⟩
  · rw [h4, g4, BOP_u h2 g2]
    exact ⟨rfl, by omega⟩
  · rcases g3 with g3 | ⟨v, g3, g4⟩
    · exact absurd h2.2.1 (g3 w h2.1.1 h2.1.2)
    · rw [BOP_u h2 g3] at h3
      exact absurd h3 g4
  · rcases h3 with h3 | ⟨w, h3, h4⟩
    · exact absurd g2.2.1 (h3 v g2.1.1 g2.1.2)
    · rw [BOP_u g2 h3] at g3
      exact absurd g3 h4
  · rw [h2, g2]
    exact ⟨rfl, by omega⟩
def TCh (I : HI) (cs0 : Int → List Int) : Nat → (Int → List Int) → Int → Prop
  | 0, cs, c => cs = cs0 ∧ c = 0
  | i + 1, cs', c' => ∃ cs c k, TCh I cs0 i cs c ∧ T1 I cs i cs' k ∧ c' = c + k
theorem TCh_u {I : HI} {cs0 : Int → List Int} : ∀ (i : Nat) (cs1 cs2 : Int → List Int) (c1 c2 : Int), TCh I cs0 i cs1 c1 → TCh I cs0 i cs2 c2 → cs1 = cs2 ∧ c1 = c2
  | 0, cs1, cs2, c1, c2, h, g => ⟨by rw [h.1, g.1], by rw [h.2, g.2]⟩
  | i + 1, cs1, cs2, c1, c2, h, g => by
    obtain ⟨a, b, k, h1, h2, h3⟩ := h
    obtain ⟨a', b', k', g1, g2, g3⟩ := g
    obtain ⟨e1, e2⟩ := TCh_u i a a' b b' h1 g1
    subst e1 e2
    obtain ⟨e3, e4⟩ := T1_u h2 g2
    exact ⟨e3, by omega⟩
theorem TCh_r {I : HI} {cs0 : Int → List Int} : ∀ (i : Nat) (cs : Int → List Int) (c : Int), TCh I cs0 i cs c → 0 ≤ c ∧ c ≤ i ∧ (c = 0 → cs = cs0)
  | 0, cs, c, h => ⟨by rw [h.2]; omega, by rw [h.2]; omega, fun _ => h.1⟩
  | i + 1, cs, c, h => by
    obtain ⟨a, b, k, h1, h2, h3⟩ := h
    obtain ⟨g1, g2, g3⟩ := TCh_r i a b h1
    rcases h2 with ⟨q, w, _⟩ | ⟨q, q2, _⟩
    · exact ⟨by omega, by omega, fun z => by omega⟩
    · exact ⟨by omega, by omega, fun z => by rw [q2]; exact g3 (by omega)⟩
section TU
variable {d : Nat} {I : HI} {K : HI → Prop} {KI : Int → HI → Prop} {K2 : Int → Int → HI → Prop} {cs : Int → List Int} {H : List Sn}
theorem ALN_fr {X : HI} (f : CF I X) (e63 : X 489 63 = I 489 63) (e64 : X 489 64 = I 489 64) (s x : Nat) : ALN X cs s x ↔ ALN I cs s x := by
  unfold ALN
  rw [f.1 518 (by omega)]
  simp only [LW_fr f e63 e64]
theorem T1_fr {X : HI} {cs' : Int → List Int} {c : Int} (f : CF I X) (e63 : X 489 63 = I 489 63) (e64 : X 489 64 = I 489 64) (s : Nat) : T1 X cs s cs' c ↔ T1 I cs s cs' c := by
  unfold T1 BOP NOB TKC eN
  simp only [ALN_fr f e63 e64, rts_fr f e63, chw_fr f e63, opc_fr f e63, wy_cf f, WHL_fr e63]
theorem TCh_fr {X : HI} (f : CF I X) (e63 : X 489 63 = I 489 63) (e64 : X 489 64 = I 489 64) : ∀ (i : Nat) (cs' : Int → List Int) (c : Int), TCh X cs i cs' c ↔ TCh I cs i cs' c
  | 0, cs', c => Iff.rfl
  | i + 1, cs', c => by
    unfold TCh
    simp only [TCh_fr f e63 e64 i, T1_fr f e63 e64]
theorem fitsW_lp {s x : Nat} (hk : KNW I cs) (s1 : (s : Int) < I 518 6) (x1 : x ≤ 3 * (rts I s).length) (k1 : ∀ Y : HI, JFr I Y → KNW Y cs → ALN I cs s x → KI 1 Y) (k0 : ∀ Y : HI, JFr I Y → KNW Y cs → ¬ ALN I cs s x → KI 0 Y) : ∀ (m t : Nat) (X : HI), (t : Int) + m = I 518 6 → JFr I X → KNW X cs → (∀ u : Nat, u < t → u ≠ s → LW I cs s x u 0) → J none mX6_fitsWays (d + 8) 0 0 2 [(0, vR 477), (1, vI (s : Int)), (2, vI (x : Int)), (3, vI (t : Int))] [] (mk X) (PI KI)
  | 0, t, X, e, jX, kX, hd => by
    refine bk_X6_fitsWays_2 ?_
    rw [jX.1 2 (by omega) (by omega) (by omega), hk.1.1.1.1.2.2.1]
    exact ⟨fun _ => PI_i (k1 X jX kX (fun u u1 un => hd u (by omega) un)), fun q => by omega⟩
  | m + 1, t, X, e, jX, kX, hd => by
    have n6 := hk.1.1.1.2.2.1
    have ih := fun Y => fitsW_lp hk s1 x1 k1 k0 m (t + 1) Y
    have f518 := (CF_j jX).1 518 (by omega)
    refine bk_X6_fitsWays_2 ?_
    rw [jX.1 2 (by omega) (by omega) (by omega), hk.1.1.1.1.2.2.1]
    refine ⟨fun q => by omega, fun _ => ⟨fun q => ⟨by omega, ?_⟩, fun q => ?_⟩⟩
    · have := ih X (by omega) jX kX (fun u hu un => by
        by_cases eu : u = t
        · omega
        · exact hd u (by omega) un)
      exact this
    · refine c5_fitting kX (by omega) (by rw [f518]; exact s1) (by rw [f518]; omega) (by rw [rts_j jX]; exact x1) ⟨by omega, by omega⟩ (fun y hy hb => by
        rw [lb_1, decide_eq_true_eq] at hb
        omega) (fun Y v jY kY vl hv => ?_)
      have v0 : v = 0 ↔ ¬ LW I cs s x t 0 := by
        have h0 := hv 0 (by omega)
        rw [lb_1] at h0
        rw [LW_j jX] at h0
        constructor
        · intro z w
          rw [z, lb_0] at h0
          have := h0.mpr ⟨rfl, w⟩
          cases this
        · intro w
          refine lext vl ⟨by omega, by omega⟩ (fun i hi => ?_)
          rw [lb_0]
          cases eb : lb v i
          · rfl
          · have := (hv i hi).mp eb
            rw [lb_1, decide_eq_true_eq] at this
            rw [this.1] at this
            exact absurd ((LW_j jX cs s x t 0).mp this.2) w
      refine ⟨fun z => ⟨by omega, ?_⟩, fun z => PI_i (k0 Y (JFr_tr jX jY) kY (fun w => v0.mp z (w t (by omega) (by omega))))⟩
      have := ih Y (by omega) (JFr_tr jX jY) kY (fun u hu un => by
        by_cases eu : u = t
        · subst eu
          exact Classical.byContradiction fun w => z (v0.mpr w)
        · exact hd u (by omega) un)
      exact this
theorem c6_fitsWays {s x : Nat} (hk : KNW I cs) (s1 : (s : Int) < I 518 6) (x1 : x ≤ 3 * (rts I s).length) (k1 : ∀ Y : HI, JFr I Y → KNW Y cs → ALN I cs s x → KI 1 Y) (k0 : ∀ Y : HI, JFr I Y → KNW Y cs → ¬ ALN I cs s x → KI 0 Y) : CI mX6_fitsWays (d + 8) [vR 477, vI (s : Int), vI (x : Int)] I KI := by
  have n6 := hk.1.1.1.2.2.1
  exact bk_X6_fitsWays_0 (fitsW_lp hk s1 x1 k1 k0 (I 518 6).toNat 0 I (by omega) (JFr_rfl I) hk (fun u hu => by omega))
/-- the first option in the order of ends that clashes with nobody -/
theorem want_lp {s : Nat} (hk : KNW I cs) (s1 : (s : Int) < I 518 6) (h : ∀ (Y : HI) (a3 a4 : Int), JFr I Y → KNW Y cs → ((a3 = -1 ∧ NOB I cs s (3 * (rts I s).length)) ∨ ∃ w : Nat, a3 = w ∧ BOP I cs s (3 * (rts I s).length) w) → J none mX6_takeTurn (d + 15) 0 0 79 [(0, vR 477), (1, vI (s : Int)), (2, vR (37 + 5 * s)), (3, vI a3), (4, vI a4)] [] (mk Y) (PI KI)) : ∀ (m n : Nat) (X : HI), n + m = 3 * (rts I s).length + 1 → 1 ≤ n → JFr I X → KNW X cs → (∀ n', 1 ≤ n' → n' < n → ¬ ALN I cs s (rk I s n')) → J none mX6_takeTurn (d + 15) 0 0 22 [(0, vR 477), (1, vI (s : Int)), (2, vR (37 + 5 * s)), (3, vI (-1)), (4, vI (n : Int))] [] (mk X) (PI KI)
  | 0, n, X, e, n0, jX, kX, hd => by
    have n6 := hk.1.1.1.2.2.1
    have rl := rts_len (I := I) (s : Int)
    have ht : TR (37 + 5 * s) 25 := (TRw_all s (by omega)).1
    have f71 : X 71 s = (rts I s).length := by rw [jX.1 71 (by omega) (by omega) (by omega)]; exact (hk.2.1 s s1).1.1
    refine bk_X6_takeTurn_22 ht ?_
    rw [Int.toNat_natCast, f71]
    refine ⟨by omega, by omega, fun _ => h X _ _ jX kX (Or.inl ⟨rfl, fun y y0 y1 => ?_⟩), fun q => by omega⟩
    obtain ⟨n', n1, n2⟩ := rk_on hk s1 y1
    have : n' ≠ 0 := fun z => by
      have := (rk_v hk s1 n1).2.2.1 z
      omega
    rw [← n2]
    exact hd n' (by omega) (by omega)
  | m + 1, n, X, e, n0, jX, kX, hd => by
    have n6 := hk.1.1.1.2.2.1
    have rl := rts_len (I := I) (s : Int)
    have ht : TR (37 + 5 * s) 25 := (TRw_all s (by omega)).1
    have f71 : X 71 s = (rts I s).length := by rw [jX.1 71 (by omega) (by omega) (by omega)]; exact (hk.2.1 s s1).1.1
    have rv := rk_v hk s1 (show n ≤ 3 * (rts I s).length from by omega)
    have r1 := rv.2.2.2 (by omega)
    have f518 := (CF_j jX).1 518 (by omega)
    have e489 : X 489 = I 489 := jX.1 489 (by omega) (by omega) (by omega)
    have af : ∀ x, ALN X cs s x ↔ ALN I cs s x := fun x => ALN_fr (CF_j jX) (by rw [e489]) (by rw [e489]) s x
    refine bk_X6_takeTurn_22 ht ?_
    rw [Int.toNat_natCast, f71, show ((s : Int) * 61 + (n : Int)).toNat = 61 * s + n from by omega, jX.1 73 (by omega) (by omega) (by omega), rv.1]
    refine ⟨by omega, by omega, fun q => by omega, fun _ => ⟨fun q => absurd rfl q, fun _ => ⟨by omega, by omega, by omega, ?_⟩⟩⟩
    refine c6_fitsWays kX (by rw [f518]; exact s1) (by rw [rts_j jX]; exact rv.2.1) (fun Y jY kY yes => ⟨fun q => by omega, fun _ => ⟨by omega, ?_⟩⟩) (fun Y jY kY no => ⟨fun _ => ⟨by omega, ?_⟩, fun q => absurd rfl q⟩)
    · rw [af] at yes
      have jIY := JFr_tr jX jY
      have f71' : Y 71 s = (rts I s).length := by rw [jIY.1 71 (by omega) (by omega) (by omega)]; exact (hk.2.1 s s1).1.1
      have bop : BOP I cs s (3 * (rts I s).length) (rk I s n) := by
        refine ⟨⟨by omega, rv.2.1⟩, yes, fun y y0 y1 ay => ?_⟩
        obtain ⟨n', n1, n2⟩ := rk_on hk s1 y1
        have nz : n' ≠ 0 := fun z => by
          have := (rk_v hk s1 n1).2.2.1 z
          omega
        have nn : n ≤ n' := by
          rcases Nat.lt_or_ge n' n with z | z
          · rw [← n2] at ay
            exact absurd ay (hd n' (by omega) z)
          · exact z
        by_cases en : n = n'
        · subst en
          rw [n2]
          exact Or.inr ⟨rfl, Nat.le_refl _⟩
        · have g := (hk.2.1 s s1).2
          have ls := g.2.2.2.2 n n' n0 (by omega) n1
          have rv' := rk_v hk s1 n1
          have e1 := g.1 (rk I s n) (by omega) rv.2.1
          have e2 := g.1 (rk I s n') (by have := rv'.2.2.2 nz; omega) rv'.2.1
          have c1 : ∀ x, x ≠ 0 → eN I cs s x = endS 0 (wy I (s : Int) (opc I (s : Int) (x - 1))) := fun x hx => by
            unfold eN chw chc
            rw [if_neg hx]
          rw [c1 _ r1, ← n2, c1 _ (rv'.2.2.2 nz), ← e1, ← e2]
          unfold lsE at ls
          rw [rv.1, rv'.1, Int.toNat_natCast, Int.toNat_natCast] at ls
          rcases ls with z | z
          · exact Or.inl z
          · exact Or.inr ⟨z.1, by omega⟩
      have fin := fun a4 => h Y (rk I s n : Int) a4 jIY kY (Or.inr ⟨rk I s n, rfl, bop⟩)
      refine bk_X6_takeTurn_22 ht ?_
      rw [Int.toNat_natCast, f71']
      exact ⟨by omega, by omega, fun _ => fin _, fun _ => ⟨fun _ => fin _, fun q => by omega⟩⟩
    · rw [af] at no
      have := want_lp hk s1 h m (n + 1) Y (by omega) (by omega) (JFr_tr jX jY) kY (fun n' h1 h2 => by
        by_cases en : n' = n
        · rw [en]; exact no
        · exact hd n' h1 (by omega))
      exact this
/-- what a turn changes in the class -/
def UFt (I X : HI) : Prop := (∀ k, k ≠ 32 → k ≠ 33 → (k < 37 ∨ 66 < k) → (k < 69 ∨ 481 < k) → X k = I k) ∧ (∀ j, j ≠ 6 → X 62 j = I 62 j) ∧ (∀ j, j ≠ 7 → j ≠ 8 → j ≠ 9 → X 32 j = I 32 j) ∧ (X 33 100 = I 33 100 ∧ X 33 101 = I 33 101)
theorem UFt_rfl (I : HI) : UFt I I := ⟨fun _ _ _ _ _ => rfl, fun _ _ => rfl, fun _ _ _ _ => rfl, rfl, rfl⟩
theorem UFt_tr {X Y : HI} (h : UFt I X) (g : UFt X Y) : UFt I Y := ⟨fun k h1 h2 h3 h4 => by rw [g.1 k h1 h2 h3 h4, h.1 k h1 h2 h3 h4], fun j hj => by rw [g.2.1 j hj, h.2.1 j hj], fun j h1 h2 h3 => by rw [g.2.2.1 j h1 h2 h3, h.2.2.1 j h1 h2 h3], g.2.2.2.1.trans h.2.2.2.1, g.2.2.2.2.trans h.2.2.2.2⟩
theorem UFt_q {X : HI} (h : QFr I X) : UFt I X := ⟨fun k h1 _ h3 h4 => h.1 k h1 (by omega) h4, h.2.1, h.2.2, by rw [h.1 33 (by omega) (by omega) (by omega)], by rw [h.1 33 (by omega) (by omega) (by omega)]⟩
theorem UFt_z {X : HI} (h : ZFr I X) : UFt I X := ⟨fun k h1 h2 h3 _ => h.1 k h1 h2 (by omega), fun j _ => by rw [h.1 62 (by omega) (by omega) (by omega)], fun j h1 _ _ => h.2.1 j h1, h.2.2⟩
theorem CF_uf {X : HI} (h : UFt I X) : CF I X := ⟨fun k hk => h.1 k (by omega) (by omega) (by omega) (by omega), by rw [h.1 489 (by omega) (by omega) (by omega) (by omega)]⟩
theorem c6_takeTurn {s : Nat} (hp : PLN I cs) (s1 : (s : Int) < I 518 6) (h : ∀ (Y : HI) (c : Int) (cs' : Int → List Int), UFt I Y → PLN Y cs' ∨ ¬ I 69 11 ≤ 900000 → Y 32 8 = 0 → Y 32 9 = 0 → VrC I Y → T1 I cs s cs' c → KI c Y) : CI mX6_takeTurn (d + 15) [vR 477, vI (s : Int)] I KI := by
  refine bk_X6_takeTurn_0 (c5_prep2 hp (fun X pX rX vX => ⟨?_, ?_⟩))
  · have := hp.1.1.1.2.2.1
    omega
  have qX := QFr_p pX
  have hT := rX.1.1.1
  have n6 := hT.1.2.2.1
  have f518 : X 518 = I 518 := (CF_p pX).1 518 (by omega)
  have s1X : (s : Int) < X 518 6 := by rw [f518]; exact s1
  have e489X := sh_q qX
  have ht : TR (37 + 5 * s) 25 := (TRw_all s (by omega)).1
  have t1 : ∀ cs' c, T1 X cs s cs' c → T1 I cs s cs' c := fun cs' c w => (T1_fr (CF_q qX) (by rw [e489X]) (by rw [e489X]) s).mp w
  rw [Int.toNat_natCast]
  refine want_lp rX.1 s1X (fun Y a3 a4 jY kY hw => ?_) (3 * (rts X s).length) 1 X (by omega) (by omega) (JFr_rfl X) rX.1 (fun n' h1 h2 => by omega)
  -- with no change
  have stay : ∀ Z : HI, JFr X Z → KNW Z cs → T1 X cs s cs 0 → KI 0 Z := fun Z jZ kZ ht1 => by
    have e32 : Z 32 = X 32 := jZ.1 32 (by omega) (by omega) (by omega)
    have e33 : Z 33 = X 33 := jZ.1 33 (by omega) (by omega) (by omega)
    have e489 : Z 489 = X 489 := jZ.1 489 (by omega) (by omega) (by omega)
    have e69 : Z 69 = X 69 := jZ.1 69 (by omega) (by omega) (by omega)
    have rZ : RDP Z cs := ⟨kZ, by rw [e32]; exact rX.2.1, by rw [e33, e489]; exact rX.2.2.1, by rw [e489]; exact rX.2.2.2.1, RPl_fr rX.2.2.2.2.1 (CF_j jZ) e489 e32 (by rw [e69]) (fun k k1 k2 k3 k4 => jZ.1 k (by omega) (by omega) (by omega)), by rw [e69]; exact rX.2.2.2.2.2⟩
    have vZ : VrC I Z := by
      unfold VrC at vX ⊢
      rw [e69]
      exact vX
    refine h Z 0 cs (UFt_q (QFr_tr qX (QFr_j jZ))) ?_ rZ.2.1.2.1 rZ.2.1.2.2 vZ (t1 _ _ ht1)
    by_cases lv : I 69 11 ≤ 900000
    · exact Or.inl (PLN_of rZ (by have := VrC_b vZ; omega))
    · exact Or.inr lv
  -- with a change
  have move : ∀ (Z : HI) (w : Nat), JFr X Z → KNW Z cs → BOP X cs s (3 * (rts X s).length) w → TKC X cs s w → CV mX6_adopt (d + 14) [vR 477, vI (s : Int), vI (w : Int)] Z (fun I2 => PI KI (some (vI 1)) (mk I2)) := fun Z w jZ kZ bw tk => by
    have cZ := CF_j jZ
    have e32 : Z 32 = X 32 := jZ.1 32 (by omega) (by omega) (by omega)
    have e33 : Z 33 = X 33 := jZ.1 33 (by omega) (by omega) (by omega)
    have e489 : Z 489 = X 489 := jZ.1 489 (by omega) (by omega) (by omega)
    have e69 : Z 69 = X 69 := jZ.1 69 (by omega) (by omega) (by omega)
    have s1Z : (s : Int) < Z 518 6 := by rw [cZ.1 518 (by omega)]; exact s1X
    have hTZ := kZ.1.1
    refine c6_adopt hTZ s1Z (kZ.2.1 s s1Z) bw.1.1 (by rw [rts_j jZ]; exact bw.1.2) (fun V aV v7 eV tV => PI_i ?_)
    have zV := ZFr_a (by omega) aV
    have cV := CF_z zV
    rw [opc_fr cZ (by rw [e489])] at eV tV
    have okw := (opc_ok hT (s := (s : Int)) (by omega) s1X (o := w - 1) (by have := bw.1; omega)).1
    have cZV := CF_tr cZ cV
    have v489 : V 489 = X 489 := by rw [zV.1 489 (by omega) (by omega) (by omega), e489]
    have clw : ClW V (uw cs s (opc X s (w - 1))) := by
      refine ClW_put kZ.1.2.1 (fun u u0 u1 => (kZ.1.2.2.1 u u0 u1).2.1) (by rw [cZ.1 518 (by omega)]; exact n6.2) (aV.1 518 (by omega) (by omega) (by omega)) (aV.1 521 (by omega) (by omega) (by omega)) (aV.1 522 (by omega) (by omega) (by omega)) (fun u u0 u1 un => ⟨aV.2.2 _ (by omega) (by omega), fun k hk => aV.2.2 _ (by omega) (by omega)⟩) (by omega) (fun k k1 k2 k3 => aV.1 k (by omega) (by omega) (by omega)) eV ?_
      rw [Int.toNat_natCast]
      exact tV
    have e8 : V 32 8 = 0 := by rw [zV.2.1 8 (by decide), e32]; exact rX.2.1.2.1
    have e9 : V 32 9 = 0 := by rw [zV.2.1 9 (by decide), e32]; exact rX.2.1.2.2
    have e69V : V 69 = X 69 := by rw [zV.1 69 (by omega) (by omega) (by omega), e69]
    have vk : ∀ k, 57 ≤ k → V k = Z k := fun k hk => zV.1 k (by omega) (by omega) (by omega)
    have vV : VrC I V := by
      unfold VrC at vX ⊢
      rw [e69V]
      exact vX
    refine h V 1 (uw cs s (opc X s (w - 1))) (UFt_tr (UFt_q (QFr_tr qX (QFr_j jZ))) (UFt_z zV)) ?_ e8 e9 vV (t1 _ _ (Or.inl ⟨rfl, w, bw, tk, rfl⟩))
    by_cases lv : I 69 11 ≤ 900000
    · refine Or.inl ⟨⟨CTY_fr hTZ cV, clw, fun u u0 u1 => ?_, ?_, ?_⟩, ?_, ?_, ⟨fun _ => RTs_fr cV (by rw [zV.1 489 (by omega) (by omega) (by omega)]) (by rw [cZ.1 518 (by omega)]; exact n6.2) (fun k k1 k2 => vk k (by omega)) kZ.2.1, ?_, fun _ _ => ?_⟩, RCu_fr kZ.2.2.2.2 (fun k k1 k2 => vk k (by omega)) (vk 518 (by omega)) (vk 524 (by omega)) (vk 526 (by omega)) (vk 527 (by omega)), ?_, ?_⟩
      · unfold uw
        have u1' : u < X 518 6 := by rw [cZV.1 518 (by omega)] at u1; exact u1
        refine OkW_fr (cZV.1 518 (by omega)) (cZV.1 521 (by omega)) (cZV.1 522 (by omega)) ?_
        split
        · rename_i eu
          rw [eu]
          exact okw
        · exact rX.1.1.2.2.1 u u0 u1'
      · rw [v489, cZV.1 518 (by omega)]
        exact rX.1.1.2.2.2.1
      · rw [zV.2.2.2, e33, v489]
        exact rX.1.1.2.2.2.2
      · rw [zV.2.2.1, e33, v489]
        exact rX.2.2.1
      · rw [v489]
        exact rX.2.2.2.1
      · have := kZ.2.2.1
        unfold SUB at this ⊢
        rw [vk 75 (by omega), vk 76 (by omega)]
        exact this
      · have F : FIT V cs False := FIT_fr cV (by rw [zV.1 489 (by omega) (by omega) (by omega)]) (by rw [zV.1 489 (by omega) (by omega) (by omega)]) (vk 75 (by omega)) (vk 76 (by omega)) kZ.2.2.2.1
        intro a b ab b1 x y x1 y1 hz
        exact FIT_cs (cs' := uw cs s (opc X s (w - 1))) F a b ab b1 x y x1 y1 (fun _ => hz (by omega))
      · have rp : RPl Z := RPl_fr rX.2.2.2.2.1 cZ e489 e32 (by rw [e69]) (fun k k1 k2 k3 k4 => jZ.1 k (by omega) (by omega) (by omega))
        refine ⟨by rw [vk 477 (by omega), vk 69 (by omega)]; exact rp.1, fun h1 h2 _ _ => ?_⟩
        rw [vk 477 (by omega)] at h1 h2
        rw [vk 69 (by omega)] at h2
        obtain ⟨g1, g2⟩ := rp.2 h1 h2 (by rw [e32]; exact rX.2.1.2.1) (by rw [e32]; exact rX.2.1.2.2)
        rw [vk 477 (by omega), vk 518 (by omega), vk 481 (by omega)]
        exact ⟨fun cs => SOL_fr cV (by rw [zV.1 489 (by omega) (by omega) (by omega)]) (by rw [zV.1 489 (by omega) (by omega) (by omega)]) (g1 cs), MSs_fr g2 (by rw [vk 477 (by omega)]) (vk 479 (by omega)) (vk 518 (by omega))⟩
      · have := VrC_b vV
        have := hp.2.2.2.2.2.2
        omega
    · exact Or.inr lv
  have cY := CF_j jY
  have s1Y : (s : Int) < Y 518 6 := by rw [cY.1 518 (by omega)]; exact s1X
  have e489Y : Y 489 = X 489 := jY.1 489 (by omega) (by omega) (by omega)
  rcases hw with ⟨e3, nb⟩ | ⟨w, e3, bw⟩
  · refine bk_X6_takeTurn_79 ht ⟨fun _ => PI_i (stay Y jY kY (Or.inr ⟨rfl, rfl, Or.inl nb⟩)), fun q => absurd e3 q⟩
  · subst e3
    have rl := rts_len (I := X) (s : Int)
    refine bk_X6_takeTurn_79 ht ⟨fun q => by omega, fun _ => ?_⟩
    refine c5_endOf kY s1Y (by rw [rts_j jY]; exact bw.1.2) ?_
    have ew : endS 0 (chw Y cs s w) = eN X cs s w := by
      unfold eN
      rw [chw_fr cY (by rw [e489Y])]
    have tw0 := (ch_ok ⟨kY.1, kY.2.1⟩ s1Y (Nat.zero_le _)).1
    have e0 : Y (37 + 5 * s) 5 = eN X cs s 0 := by
      have := tw0.2.1
      unfold chT chL at this
      rw [if_pos rfl, if_pos rfl, Int.add_zero, chw_fr cY (by rw [e489Y])] at this
      exact this
    have st0' : Y (37 + 5 * s) 7 = 0 ↔ chw X cs s 0 = [] := by
      have := tw0.2.2.2.1
      unfold chT chL at this
      rw [if_pos rfl, if_pos rfl, chw_fr cY (by rw [e489Y])] at this
      constructor
      · intro z
        exact Classical.byContradiction fun w => (this.mpr w).elim (fun u => u z) (fun u => u rfl)
      · intro z
        exact Classical.byContradiction fun w => this.mp (Or.inl w) z
    rw [ew, e0]
    refine ⟨fun q => move Y w jY kY bw (Or.inl q), fun q => ⟨fun q2 => move Y w jY kY bw (Or.inr (Or.inl (st0'.mp q2))), fun q2 => ?_⟩⟩
    refine c9_blocked kY.1 (by rw [jY.1 33 (by omega) (by omega) (by omega), e489Y]; exact rX.2.2.1) (by rw [e489Y]; exact rX.2.2.2.1) s1Y (fun wh => ⟨fun q3 => absurd rfl q3, fun _ => ?_⟩) (fun nw => ⟨fun _ => move Y w jY kY bw (Or.inr (Or.inr (Or.inl (fun z => nw ?_)))), fun q3 => by omega⟩)
    · have wh' : WHL X (wy X s (cs s)) := by
        rw [WHL_fr (by rw [e489Y]), wy_cf cY] at wh
        exact wh
      have af : ∀ x, ALN Y cs s x ↔ ALN X cs s x := fun x => ALN_fr cY (by rw [e489Y]) (by rw [e489Y]) s x
      refine c6_fitsWays (x := 0) kY s1Y (Nat.zero_le _) (fun Z jZ kZ yes => ⟨fun _ => PI_i (stay Z (JFr_tr jY jZ) kZ (Or.inr ⟨rfl, rfl, Or.inr ⟨w, bw, fun tk => ?_⟩⟩)), fun q3 => by omega⟩) (fun Z jZ kZ no => ⟨fun q3 => absurd rfl q3, fun _ => move Z w (JFr_tr jY jZ) kZ bw (Or.inr (Or.inr (Or.inr (fun z => no ((af 0).mpr z)))))⟩)
      rcases tk with tk | tk | tk | tk
      · omega
      · exact q2 (st0'.mpr tk)
      · exact tk wh'
      · exact tk ((af 0).mp yes)
    · rw [WHL_fr (by rw [e489Y]), wy_cf cY]
      exact z
end TU
