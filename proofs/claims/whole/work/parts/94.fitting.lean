theorem and_pred {n k : Nat} (hk : n.testBit k = true) (hl : ∀ i, i < k → n.testBit i = false) (i : Nat) : (n &&& (n - 1)).testBit i = (n.testBit i && decide (i ≠ k)) := by
  have n0 : 0 < n := by
    rcases Nat.eq_zero_or_pos n with e | e
    · rw [e] at hk
      simp at hk
    · exact e
  obtain ⟨k', m, e⟩ := odd_part n n0
  have ek : k' = k := by
    have b1 : n.testBit k' = true := by
      rw [e, low_bits]
      simp
    rcases Nat.lt_trichotomy k' k with q | q | q
    · rw [hl k' q] at b1
      cases b1
    · exact q
    · rw [e, low_bits] at hk
      simp only [Bool.and_eq_true, decide_eq_true_eq] at hk
      omega
  subst ek
  rw [Nat.testBit_and, e, low_bits, pred_bits]
  rcases Nat.lt_trichotomy i k' with q | q | q
  · have : ¬ k' ≤ i := by omega
    simp [this]
  · subst q
    simp
  · rw [if_neg (by omega), odd_bits, if_neg (by omega), show i - k' - 1 = i - (k' + 1) from by omega]
    have h1 : k' ≤ i := by omega
    have h2 : i ≠ k' := by omega
    simp [h1, h2]
theorem lb_nat {x : Int} (h0 : 0 ≤ x) (h1 : x ≤ 9223372036854775807) {i : Nat} (hi : i < 64) : lb x i = x.toNat.testBit i := by
  unfold lb
  have : (Int64.ofInt x).toBitVec = BitVec.ofInt 64 x := rfl
  rw [this]
  obtain ⟨n, rfl⟩ : ∃ n : Nat, x = n := ⟨x.toNat, by omega⟩
  rw [BitVec.ofInt_natCast, BitVec.getLsbD_ofNat, Int.toNat_natCast]
  simp [hi]
theorem lb_63 {x : Int} (hx : lrg x) (h : lb x 63 = false) : 0 ≤ x := by
  unfold lb at h
  have e : (Int64.ofInt x).toBitVec.toInt = x := by
    have := lo_id hx.1 hx.2
    exact this
  rw [← e]
  have m : (Int64.ofInt x).toBitVec.msb = false := by
    rw [BitVec.msb_eq_getLsbD_last]
    exact h
  rw [BitVec.toInt_eq_msb_cond, m]
  simp only [Bool.false_eq_true, if_false]
  exact Int.natCast_nonneg _
theorem land_lb {x : Int} (h0 : 0 < x) (h1 : x ≤ 9223372036854775807) {k : Nat} (k1 : k < 64) (hk : lb x k = true) (hl : ∀ i, i < k → lb x i = false) {i : Nat} (hi : i < 64) : lb (lA x (x - 1)) i = (lb x i && decide (i ≠ k)) := by
  rw [lb_A, lb_nat (by omega) h1 hi, lb_nat (by omega) (by omega) hi]
  rw [lb_nat (by omega) h1 k1] at hk
  have := and_pred (n := x.toNat) hk (fun i hi => by rw [← lb_nat (by omega) h1 (by omega)]; exact hl i hi) i
  rw [Nat.testBit_and] at this
  rw [show (x - 1).toNat = x.toNat - 1 from by omega]
  exact this
theorem ExS_sym {I : HI} {a b m so fa : Int} (ne : a ≠ b) : ExS I a b m so fa ↔ ExS I b a m so fa := by
  unfold ExS
  rcases Int.lt_or_le a b with q | q
  · rw [if_pos q, if_pos q, if_neg (by omega), if_neg (by omega)]
  · rw [if_neg (by omega), if_neg (by omega), if_pos (by omega), if_pos (by omega)]
theorem LAW_sym {I : HI} {a b : Int} {W V : List Sp} (hso : CSo I) (sA : SW I a W) (sB : SW I b V) (ne : a ≠ b) : LAW I a b W V ↔ LAW I b a V W := by
  unfold LAW QTs
  constructor
  · rintro ⟨h1, h2, h3⟩
    exact ⟨fun m f g => (ExS_sym ne).mp (h1 m f ((DRw_sym hso sA sB m f).mpr g)), h3, h2⟩
  · rintro ⟨h1, h2, h3⟩
    exact ⟨fun m f g => (ExS_sym ne).mpr (h1 m f ((DRw_sym hso sA sB m f).mp g)), h3, h2⟩
/-- two choices fit -/
def LW (I : HI) (cs : Int → List Int) (s x o y : Nat) : Prop := LAW I s o (chw I cs s x) (chw I cs o y)
theorem LW_fr {I X : HI} (f : CF I X) (sh : X 489 63 = I 489 63) (on : X 489 64 = I 489 64) (cs : Int → List Int) (s x o y : Nat) : LW X cs s x o y ↔ LW I cs s x o y := by
  unfold LW
  rw [LAW_fr (CF_A f on), chw_fr f sh, chw_fr f sh]
theorem LW_j {I X : HI} (f : JFr I X) (cs : Int → List Int) (s x o y : Nat) : LW X cs s x o y ↔ LW I cs s x o y := LW_fr (CF_j f) (by rw [f.1 489 (by omega) (by omega) (by omega)]) (by rw [f.1 489 (by omega) (by omega) (by omega)]) cs s x o y
theorem rts_j {I X : HI} (f : JFr I X) (s : Int) : rts X s = rts I s := rts_fr (CF_j f) (by rw [f.1 489 (by omega) (by omega) (by omega)]) s
section FT
variable {d : Nat} {I : HI} {K : HI → Prop} {KI : Int → HI → Prop} {K2 : Int → Int → HI → Prop} {cs : Int → List Int} {H : List Sn}
theorem LW_sym (hk : KNW I cs) {s x o y : Nat} (ne : s ≠ o) (s1 : (s : Int) < I 518 6) (o1 : (o : Int) < I 518 6) (x1 : x ≤ 3 * (rts I s).length) (y1 : y ≤ 3 * (rts I o).length) : LW I cs s x o y ↔ LW I cs o y s x := by
  have g1 := (ch_ok ⟨hk.1, hk.2.1⟩ s1 x1).2.1
  have g2 := (ch_ok ⟨hk.1, hk.2.1⟩ o1 y1).2.1
  exact LAW_sym hk.1.1.2.2.2.1 g1 g2 (by omega)
theorem fit_lp {s x o : Nat} {ch p8 p7 a6 : Int} (hk : KNW I cs) (ne : s ≠ o) (s1 : (s : Int) < I 518 6) (o1 : (o : Int) < I 518 6) (x1 : x ≤ 3 * (rts I s).length) (chr : ∀ y, y < 64 → lb ch y = true → y ≤ 3 * (rts I o).length) (h6 : (a6 = 0 ∧ o < s) ∨ (a6 = 1 ∧ s < o)) (h : ∀ (Y : HI) (v : Int), JFr I Y → KNW Y cs → lrg v → (∀ y, y < 64 → (lb v y = true ↔ lb ch y = true ∧ LW I cs s x o y)) → KI v Y) : ∀ (n i : Nat) (left good : Int) (X : HI), i + n = 61 → JFr I X → KNW X cs → lrg left → lrg good → (∀ y, y < 64 → lb left y = true → i ≤ y ∧ lb ch y = true) → (∀ y, y < 64 → (lb good y = true ↔ lb ch y = true ∧ lb left y = false ∧ LW I cs s x o y)) → J none mX5_fitting (d + 7) 0 0 86 [(0, vR 69), (1, vI (s : Int)), (2, vI (x : Int)), (3, vI (o : Int)), (4, vL ch), (6, vI a6), (7, vI p7), (8, vI p8), (9, vL left), (11, vL good), (13, vI (i : Int))] [] (mk X) (PL KI)
  | 0, i, left, good, X, e, jX, kX, rl, rg, hl, hg => by
    have rlo := rts_len (I := I) (o : Int)
    refine bk_X5_fitting_86 ⟨fun _ => PL_i (h X good jX kX rg (fun y hy => ?_)), fun q => by omega⟩
    rw [hg y hy]
    refine ⟨fun z => ⟨z.1, z.2.2⟩, fun z => ⟨z.1, ?_, z.2⟩⟩
    cases eb : lb left y
    · rfl
    · have := hl y hy eb
      have := chr y hy this.2
      omega
  | n + 1, i, left, good, X, e, jX, kX, rl, rg, hl, hg => by
    have rlo := rts_len (I := I) (o : Int)
    have n6 := hk.1.1.1.2.2.1
    have sat : (left = 0 ∨ 61 ≤ i) → ∀ y, y < 64 → (lb good y = true ↔ lb ch y = true ∧ LW I cs s x o y) := fun hz y hy => by
      rw [hg y hy]
      refine ⟨fun z => ⟨z.1, z.2.2⟩, fun z => ⟨z.1, ?_, z.2⟩⟩
      rcases hz with hz | hz
      · rw [hz, lb_0]
      · omega
    refine bk_X5_fitting_86 ⟨fun q => by omega, fun _ => ⟨fun q => PL_i (h X good jX kX rg (sat (Or.inl q))), fun q => ?_⟩⟩
    obtain ⟨k, k1, kb, kl⟩ := lb_least rl q
    have kr := hl k k1 kb
    have kc := chr k k1 kr.2
    have l63 : lb left 63 = false := by
      cases eb : lb left 63
      · rfl
      · have := chr 63 (by omega) (hl 63 (by omega) eb).2
        omega
    have l0 := lb_63 rl l63
    have ll := rl.2
    have land : ∀ y, y < 64 → lb (lA left (left - 1)) y = (lb left y && decide (y ≠ k)) := fun y hy => land_lb (by omega) ll k1 kb kl hy
    -- the next round
    have next : ∀ (Y : HI) (g' : Int), JFr I Y → KNW Y cs → lrg g' → (∀ y, y < 64 → (lb g' y = true ↔ lb good y = true ∨ (y = k ∧ LW I cs s x o y))) → J none mX5_fitting (d + 7) 0 0 86 [(0, vR 69), (1, vI (s : Int)), (2, vI (x : Int)), (3, vI (o : Int)), (4, vL ch), (6, vI a6), (7, vI p7), (8, vI p8), (9, vL (lA left (left - 1))), (11, vL g'), (13, vI ((i : Int) + 1))] [] (mk Y) (PL KI) := by
      intro Y g' jY kY rg' hg'
      have := fit_lp (p7 := p7) (p8 := p8) hk ne s1 o1 x1 chr h6 h n (i + 1) (lA left (left - 1)) g' Y (by omega) jY kY (lrg_A _ _) rg' (fun y hy hb => ?_) (fun y hy => ?_)
      · exact this
      · rw [land y hy, Bool.and_eq_true, decide_eq_true_eq] at hb
        have g := hl y hy hb.1
        refine ⟨?_, g.2⟩
        rcases Nat.lt_trichotomy y k with z | z | z
        · rw [kl y z] at hb
          cases hb.1
        · exact absurd z hb.2
        · omega
      · rw [hg' y hy, hg y hy, land y hy]
        by_cases ek : y = k
        · subst ek
          rw [kb]
          simp [kr.2]
        · simp [ek]
    refine c_ntz64 k1 kb kl ⟨by omega, fun q6 => ?_, fun q6 => ?_⟩
    · have os : o < s := by omega
      refine c5_judged kX os (by rw [(CF_j jX).1 518 (by omega)]; exact s1) (by rw [rts_j jX]; exact kc) (by rw [rts_j jX]; exact x1) (fun Y l jY kY hl' => ?_)
      have jXY := JFr_tr jX jY
      have lw : LAW X o s (chw X cs o k) (chw X cs s x) ↔ LW I cs s x o k := by
        rw [LW_sym hk ne s1 o1 x1 kc]
        exact LW_j jX cs o k s x
      rw [lw] at hl'
      refine ⟨fun q0 => ⟨by omega, ?_⟩, fun q0 => ⟨by omega, ?_⟩⟩
      · rw [lb_id good rg]
        refine next Y good jXY kY rg (fun y hy => ⟨Or.inl, fun z => z.elim id (fun w => ?_)⟩)
        rcases hl' with ⟨_, _⟩ | ⟨_, hl'⟩
        · omega
        · rw [w.1] at w
          exact absurd w.2 hl'
      · refine next Y _ jXY kY (lrg_O _ _) (fun y hy => ?_)
        rw [lb_O, lb_p2 (by omega) (by omega) hy, Int.toNat_natCast, Bool.or_eq_true, decide_eq_true_eq]
        rcases hl' with ⟨_, hl'⟩ | ⟨q9, _⟩
        · refine or_congr Iff.rfl ⟨fun z => ⟨z, by rw [z]; exact hl'⟩, fun z => z.1⟩
        · exact absurd q9 q0
    · have os : s < o := by omega
      refine c5_judged kX os (by rw [(CF_j jX).1 518 (by omega)]; exact o1) (by rw [rts_j jX]; exact x1) (by rw [rts_j jX]; exact kc) (fun Y l jY kY hl' => ?_)
      have jXY := JFr_tr jX jY
      have lw : LAW X s o (chw X cs s x) (chw X cs o k) ↔ LW I cs s x o k := LW_j jX cs s x o k
      rw [lw] at hl'
      refine ⟨fun q0 => ⟨by omega, ?_⟩, fun q0 => ⟨by omega, ?_⟩⟩
      · rw [lb_id good rg]
        refine next Y good jXY kY rg (fun y hy => ⟨Or.inl, fun z => z.elim id (fun w => ?_)⟩)
        rcases hl' with ⟨_, _⟩ | ⟨_, hl'⟩
        · omega
        · rw [w.1] at w
          exact absurd w.2 hl'
      · refine next Y _ jXY kY (lrg_O _ _) (fun y hy => ?_)
        rw [lb_O, lb_p2 (by omega) (by omega) hy, Int.toNat_natCast, Bool.or_eq_true, decide_eq_true_eq]
        rcases hl' with ⟨_, hl'⟩ | ⟨q9, _⟩
        · refine or_congr Iff.rfl ⟨fun z => ⟨z, by rw [z]; exact hl'⟩, fun z => z.1⟩
        · exact absurd q9 q0
theorem c5_fitting {s x o : Nat} {ch : Int} (hk : KNW I cs) (ne : s ≠ o) (s1 : (s : Int) < I 518 6) (o1 : (o : Int) < I 518 6) (x1 : x ≤ 3 * (rts I s).length) (chl : lrg ch) (chr : ∀ y, y < 64 → lb ch y = true → y ≤ 3 * (rts I o).length) (h : ∀ (Y : HI) (v : Int), JFr I Y → KNW Y cs → lrg v → (∀ y, y < 64 → (lb v y = true ↔ lb ch y = true ∧ LW I cs s x o y)) → KI v Y) : CL mX5_fitting (d + 7) [vR 69, vI (s : Int), vI (x : Int), vI (o : Int), vL ch] I KI := by
  have n6 := hk.1.1.1.2.2.1
  have rls := rts_len (I := I) (s : Int)
  have base : ∀ (a6 p7 p8 : Int), ((a6 = 0 ∧ o < s) ∨ (a6 = 1 ∧ s < o)) → J none mX5_fitting (d + 7) 0 0 86 [(0, vR 69), (1, vI (s : Int)), (2, vI (x : Int)), (3, vI (o : Int)), (4, vL ch), (6, vI a6), (7, vI p7), (8, vI p8), (9, vL ch), (11, vL 0), (13, vI 0)] [] (mk I) (PL KI) := fun a6 p7 p8 h6 => by
    refine fit_lp (p7 := p7) (p8 := p8) hk ne s1 o1 x1 chr h6 h 61 0 ch 0 I rfl (JFr_rfl I) hk chl ⟨by omega, by omega⟩ (fun y hy hb => ⟨by omega, hb⟩) (fun y hy => ?_)
    rw [lb_0]
    refine ⟨fun z => (by cases z), fun z => ?_⟩
    have := z.1.symm.trans z.2.1
    cases this
  refine bk_X5_fitting_0 ⟨fun q => ?_, fun q => ?_⟩
  · have pn := prN_rng (a := o) (b := s) (by omega) (by omega)
    exact c10_pairOf (by omega) (by omega) (by omega) ⟨by omega, by omega, base _ _ _ (Or.inl ⟨rfl, by omega⟩)⟩
  · have so : s < o := by omega
    have pn := prN_rng so (by omega)
    have ep : (prW (s : Int) (o : Int) * 61 + (x : Int)).toNat = prN s o * 61 + x := by omega
    refine c10_pairOf (by omega) (by omega) (by omega) ?_
    rw [ep]
    refine ⟨by omega, by omega, by omega, fun q2 => base _ _ _ (Or.inr ⟨rfl, so⟩), fun q2 => ⟨by omega, PL_i (h I _ (JFr_rfl I) hk (lrg_A _ _) (fun y hy => ?_))⟩⟩
    rw [lb_A, Bool.and_eq_true]
    refine and_congr_right (fun hb => ?_)
    have kn : lb (I 75 (prN s o * 61 + x)) y = true := by
      have z : lb (lA ch (lX (I 75 (prN s o * 61 + x)) (-1))) y = false := by rw [q2, lb_0]
      rw [lb_A, hb, lb_N _ hy, Bool.true_and] at z
      simpa using z
    exact hk.2.2.2.1 s o so o1 x y x1 (chr y hy hb) (fun z => z.elim) kn
end FT
