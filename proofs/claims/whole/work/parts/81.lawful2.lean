section LW
variable {d : Nat} {I : HI} {K : HI → Prop} {KI : Int → HI → Prop} {K2 : Int → Int → HI → Prop} {cs : Int → List Int} {H : List Sn}
theorem off_m {w v a b l i j come x2 : Int} (hT : CTY I) (on0 : 0 ≤ I 489 64) (on1 : I 489 64 < 64) (ar : 0 ≤ a ∧ a < 4) (br : 0 ≤ b ∧ b < 4) (b1 : b < I 518 6) (w0 : 0 ≤ w) (w1 : w < 244) (ir : 0 ≤ i ∧ i < 24) (jr : 0 ≤ j ∧ j < 24) (cr : 0 ≤ come ∧ come ≤ 1000) (hx : I 535 (24 * w + i).toNat = x2) (x2r : x2 ≤ 2000) (m00 : Int) (k0 : ∀ (Y : HI) (m : Int), XFr I Y → m00 ≤ m → m ≤ x2 → lies I b come m → ¬ ExS I a b m 1 0 → KI 0 Y) (h : ∀ Y : HI, XFr I Y → (∀ m, m00 ≤ m → m ≤ x2 → lies I b come m → ExS I a b m 1 0) → J none mX11_isOff (d + 5) 0 0 42 [(0, vR 489), (1, vI w), (2, vI v), (3, vI a), (4, vI b), (5, vI i), (6, vI l), (7, vI (j + 1))] [] (mk Y) (PI KI)) : ∀ (n : Nat) (m : Int) (X : HI), 0 ≤ m → m00 ≤ m → x2 + 1 - m ≤ n → XFr I X → (∀ u, m00 ≤ u → u < m → lies I b come u → ExS I a b u 1 0) → J none mX11_isOff (d + 5) 0 0 109 [(0, vR 489), (1, vI w), (2, vI v), (3, vI a), (4, vI b), (5, vI i), (6, vI l), (7, vI j), (8, vI come), (9, vI m)] [] (mk X) (PI KI)
  | 0, m, X, m0, m1, e, xX, hu => by
    have f535 := xX.1 535 (by decide) (by decide) (by decide)
    refine bk_X11_isOff_109 ?_
    rw [f535, hx]
    exact ⟨by omega, by omega, by omega, fun _ => ⟨by omega, h X xX (fun u u0 u1 => hu u u0 (by omega))⟩, fun q => by omega⟩
  | n + 1, m, X, m0, m1, e, xX, hu => by
    have A := XFr_A xX
    have hX := CTY_fr hT (CF_x xX)
    have f535 := xX.1 535 (by decide) (by decide) (by decide)
    have lf : ∀ u, lies X b come u ↔ lies I b come u := fun u => by
      unfold lies
      rw [A.2.2.1, A.2.2.2.2.1]
    have ih := off_m hT on0 on1 ar br b1 w0 w1 ir jr cr hx x2r m00 k0 h n (m + 1)
    refine bk_X11_isOff_109 ?_
    rw [f535, hx]
    refine ⟨by omega, by omega, by omega, fun q => ⟨by omega, h X xX (fun u u0 u1 => hu u u0 (by omega))⟩, fun q => ?_⟩
    refine c11_doLie br.1 br.2 (by rw [A.2.2.1]; exact (hT.2.1.2 b br.1 b1).2.2.2) (by omega) (fun ly => ⟨fun q2 => by omega, fun _ => ?_⟩) (fun nl => ⟨fun _ => ⟨by omega, ih X (by omega) (by omega) (by omega) xX (fun u u0 u1 lu => ?_)⟩, fun q2 => absurd rfl q2⟩)
    · rw [lf] at ly
      refine c11_isExcepted hX.2.2.2.2.2.1 hX.1 (by rw [xX.2 64 (by decide)]; exact on0) (by rw [xX.2 64 (by decide)]; exact on1) (by omega) (by omega) (by omega) (by omega) (by omega) (fun Y xY ne => ⟨fun q2 => absurd rfl q2, fun _ => PI_i (k0 Y m (XFr_tr xX xY) m1 (by omega) ly (fun z => ne ((ExS_fr A a b m 1 0).mpr z)))⟩) (fun Y xY ex => ⟨fun _ => ⟨by omega, ?_⟩, fun q2 => by omega⟩)
      refine ih Y (by omega) (by omega) (by omega) (XFr_tr xX xY) (fun u u0 u1 lu => ?_)
      by_cases eu : u = m
      · subst eu
        exact (ExS_fr A a b u 1 0).mp ex
      · exact hu u u0 (by omega) lu
    · by_cases eu : u = m
      · subst eu
        exact absurd ((lf u).mpr lu) nl
      · exact hu u u0 (by omega) lu
theorem off_j {w v a b : Int} {i : Nat} {x : Sp} {s : Sg3} {W V : List Sp} (hT : CTY I) (on0 : 0 ≤ I 489 64) (on1 : I 489 64 < 64) (w0 : 0 ≤ w) (w1 : w < 244) (v0 : 0 ≤ v) (v1 : v < 244) (ew : sof w = a) (ev : sof v = b) (a1 : a < I 518 6) (b1 : b < I 518 6) (hW : SL I w 0 W) (hV : SL I v 0 V) (sA : SW I a W) (sB : SW I b V) (hx : W[i]? = some x) (hs : (sg (hm I a) 0 W)[i]? = some s) (k0 : ∀ (Y : HI), XFr I Y → ∀ y ∈ V, ¬ PO I a b x y s → KI 0 Y) (h : ∀ Y : HI, XFr I Y → (∀ y ∈ V, PO I a b x y s) → J none mX11_isOff (d + 5) 0 0 14 [(0, vR 489), (1, vI w), (2, vI v), (3, vI a), (4, vI b), (5, vI ((i : Int) + 1))] [] (mk Y) (PI KI)) : ∀ (n j : Nat) (X : HI), j + n = V.length → XFr I X → (∀ (j' : Nat) (y : Sp), j' < j → V[j']? = some y → PO I a b x y s) → J none mX11_isOff (d + 5) 0 0 42 [(0, vR 489), (1, vI w), (2, vI v), (3, vI a), (4, vI b), (5, vI (i : Int)), (6, vI x.2.1), (7, vI (j : Int))] [] (mk X) (PI KI) := by
  have hi := ge_lt hx
  have lA := sA.2.2.2.2
  have lB := sB.2.2.2.2
  have lV := SL_len _ _ hV
  have rs := sg_rng W _ _ sA.1 s (List.mem_of_getElem? hs)
  have eA := sA.2.2.2.1
  have eB := sB.2.2.2.1
  have rw' := sof_rng w0 w1
  have rv' := sof_rng v0 v1
  have xl := okW_come _ _ _ sA.1 x (List.mem_of_getElem? hx)
  have x35 := (((SL_el W 0).mp hW).2 i x hx).2.2
  rw [Int.add_zero] at x35
  intro n
  induction n with
  | zero =>
    intro j X e xX hd
    have f532 := xX.1 532 (by decide) (by decide) (by decide)
    refine bk_X11_isOff_42 ?_
    rw [f532]
    refine ⟨by omega, fun _ => ⟨by omega, h X xX (fun y hy => ?_)⟩, fun q => by omega⟩
    obtain ⟨j', hj'⟩ := List.getElem?_of_mem hy
    have := ge_lt hj'
    exact hd j' y (by omega) hj'
  | succ n ih =>
    intro j X e xX hd
    have f := xX.1
    have f522 := f 522 (by decide) (by decide) (by decide)
    have f532 := f 532 (by decide) (by decide) (by decide)
    have f533 := f 533 (by decide) (by decide) (by decide)
    have f534 := f 534 (by decide) (by decide) (by decide)
    have f535 := f 535 (by decide) (by decide) (by decide)
    have A := XFr_A xX
    obtain ⟨y, hy⟩ : ∃ y, V[j]? = some y := ⟨_, List.getElem?_eq_getElem (by omega)⟩
    have yl := okW_come _ _ _ sB.1 y (List.mem_of_getElem? hy)
    obtain ⟨y33, y34, y35⟩ := ((SL_el V 0).mp hV).2 j y hy
    rw [Int.add_zero] at y33 y34 y35
    have hWX := SL_fr w0 hW f532 f533 f534 f535
    have pW := (sg_pre W 0 _ _ hWX (Pre_0 X w) (by omega) i s (by rw [ew, hm_fr f522]; exact hs)).1
    rw [Int.zero_add] at pW
    have stp : ∀ Y : HI, XFr I Y → PO I a b x y s → J none mX11_isOff (d + 5) 0 0 42 [(0, vR 489), (1, vI w), (2, vI v), (3, vI a), (4, vI b), (5, vI (i : Int)), (6, vI x.2.1), (7, vI ((j : Int) + 1))] [] (mk Y) (PI KI) := fun Y xY po => by
      have := ih (j + 1) Y (by omega) xY (fun j' u hj' hu => by
        by_cases ej : j' = j
        · subst ej
          rw [hy] at hu
          cases hu
          exact po
        · exact hd j' u (by omega) hu)
      exact this
    refine bk_X11_isOff_42 ?_
    rw [f532, f534, f535, y34, y35]
    refine ⟨by omega, fun q => by omega, fun _ => ⟨fun q => ⟨by omega, ?_⟩, fun q => ⟨by omega, by omega, by omega, by omega, by omega, by omega, fun q2 => ?_, fun q2 => ⟨by omega, stp X xX (fun _ q3 => absurd q3 q2)⟩⟩⟩⟩
    · refine h X xX (fun y' hy' q1 => absurd q q1)
    · refine c11_leaves w0 w1 (by omega) (by omega) pW ⟨by omega, c11_greater ?_⟩
      refine off_m (I := X) (x2 := x.2.2) (CTY_fr hT (CF_x xX)) (by rw [xX.2 64 (by decide)]; exact on0) (by rw [xX.2 64 (by decide)]; exact on1) (by omega) (by omega) (by rw [A.1]; exact b1) w0 w1 (by omega) (by omega) (by omega) (by rw [f535]; exact x35) (by omega) (max (s.2.1 + 1) y.2.2) (fun Y m xY m0 m1 ly ne => ?_) (fun Y xY hq => stp Y (XFr_tr xX xY) (fun _ _ m m0 m1 m2 m3 => (ExS_fr A a b m 1 0).mp (hq m (by omega) m2 (by unfold lies at m3 ⊢; rw [A.2.2.1, A.2.2.2.2.1]; exact m3)))) 1001 (max (s.2.1 + 1) y.2.2) X (by omega) (Int.le_refl _) (by omega) (XFr_rfl X) (fun u u0 u1 => by omega)
      rw [ExS_fr A] at ne
      unfold lies at ly
      rw [A.2.2.1, A.2.2.2.2.1] at ly
      exact k0 Y (XFr_tr xX xY) y (List.mem_of_getElem? hy) (fun po => ne (po q q2 m (by omega) (by omega) m1 ly))
theorem c11_isOff {w v a b : Int} {W V : List Sp} (hT : CTY I) (on0 : 0 ≤ I 489 64) (on1 : I 489 64 < 64) (w0 : 0 ≤ w) (w1 : w < 244) (v0 : 0 ≤ v) (v1 : v < 244) (ew : sof w = a) (ev : sof v = b) (a1 : a < I 518 6) (b1 : b < I 518 6) (hW : SL I w 0 W) (hV : SL I v 0 V) (sA : SW I a W) (sB : SW I b V) (k0 : ∀ (Y : HI), XFr I Y → ¬ OFs I a b W V → KI 0 Y) (k1 : ∀ (Y : HI), XFr I Y → OFs I a b W V → KI 1 Y) : CI mX11_isOff (d + 5) [vR 489, vI w, vI v] I KI := by
  have lA := sA.2.2.2.2
  have lW := SL_len _ _ hW
  have rw' := sof_rng w0 w1
  have rv' := sof_rng v0 v1
  rw [OFs_iff sA.1] at k0 k1
  have lp : ∀ (n i : Nat) (X : HI), i + n = W.length → XFr I X → (∀ (i' : Nat) (x : Sp) (s : Sg3), i' < i → W[i']? = some x → (sg (hm I a) 0 W)[i']? = some s → ∀ y ∈ V, PO I a b x y s) → J none mX11_isOff (d + 5) 0 0 14 [(0, vR 489), (1, vI w), (2, vI v), (3, vI a), (4, vI b), (5, vI (i : Int))] [] (mk X) (PI KI) := by
    intro n
    induction n with
    | zero =>
      intro i X e xX hd
      refine bk_X11_isOff_14 ?_
      rw [xX.1 532 (by decide) (by decide) (by decide)]
      refine ⟨by omega, fun _ => PI_i (k1 X xX (fun i' x s hx hs => ?_)), fun q => by omega⟩
      have := ge_lt hx
      exact hd i' x s (by omega) hx hs
    | succ n ih =>
      intro i X e xX hd
      have f := xX.1
      have f522 := f 522 (by decide) (by decide) (by decide)
      have f532 := f 532 (by decide) (by decide) (by decide)
      have f533 := f 533 (by decide) (by decide) (by decide)
      have f534 := f 534 (by decide) (by decide) (by decide)
      have f535 := f 535 (by decide) (by decide) (by decide)
      have A := XFr_A xX
      obtain ⟨x, hx⟩ : ∃ x, W[i]? = some x := ⟨_, List.getElem?_eq_getElem (by omega)⟩
      obtain ⟨s, hs⟩ : ∃ s, (sg (hm I a) 0 W)[i]? = some s := ⟨_, List.getElem?_eq_getElem (by rw [sg_len]; omega)⟩
      have x34 := (((SL_el W 0).mp hW).2 i x hx).2.1
      rw [Int.add_zero] at x34
      have pof : ∀ y, PO X a b x y s ↔ PO I a b x y s := fun y => by
        unfold PO lies
        rw [A.2.2.1, A.2.2.2.2.1]
        simp only [ExS_fr A]
      refine bk_X11_isOff_14 ?_
      rw [f532, f534, x34]
      refine ⟨by omega, fun q => by omega, fun _ => ⟨by omega, by omega, by omega, ?_⟩⟩
      exact off_j (I := X) (i := i) (x := x) (s := s) (KI := KI) (d := d) (CTY_fr hT (CF_x xX)) (by rw [xX.2 64 (by decide)]; exact on0) (by rw [xX.2 64 (by decide)]; exact on1) w0 w1 v0 v1 ew ev (by rw [A.1]; exact a1) (by rw [A.1]; exact b1) (SL_fr w0 hW f532 f533 f534 f535) (SL_fr v0 hV f532 f533 f534 f535) (SW_fr (CF_x xX) sA) (SW_fr (CF_x xX) sB) hx (by rw [hm_fr f522]; exact hs) (fun Y xY y hy np => k0 Y (XFr_tr xX xY) (fun z => np ((pof y).mpr (z i x s hx hs y hy)))) (fun Y xY hq => by
        refine ih (i + 1) Y (by omega) (XFr_tr xX xY) (fun i' u u2 hi' hu hu2 => ?_)
        by_cases ei : i' = i
        · subst ei
          rw [hx] at hu
          rw [hs] at hu2
          cases hu
          cases hu2
          exact fun y hy => (pof y).mp (hq y hy)
        · exact hd i' u u2 (by omega) hu hu2) V.length 0 X (by omega) (XFr_rfl X) (fun j' y hj' => by omega)
  refine bk_X11_isOff_0 (c11_saintOf w0 w1 (c11_saintOf v0 v1 ?_))
  rw [ew, ev]
  exact lp W.length 0 I (by omega) (XFr_rfl I) (fun i' x s hi' => by omega)
theorem LAW_nil {a b : Int} {W V : List Sp} (h : W = [] ∨ V = []) : LAW I a b W V := by
  refine ⟨fun m f g => ?_, fun m l g => ?_, fun m l g => ?_⟩
  · rcases h with h | h
    · exact absurd h g.1
    · exact absurd h g.2.1
  · have := UPw_ne g
    rcases h with h | h
    · exact absurd h this.1
    · exact absurd h this.2
  · have := UPw_ne g
    rcases h with h | h
    · exact absurd h this.2
    · exact absurd h this.1
theorem c11_areLawful {w v a b : Int} {W V : List Sp} (hT : CTY I) (on0 : 0 ≤ I 489 64) (on1 : I 489 64 < 64) (w0 : 0 ≤ w) (w1 : w < 244) (v0 : 0 ≤ v) (v1 : v < 244) (ew : sof w = a) (ev : sof v = b) (a1 : a < I 518 6) (b1 : b < I 518 6) (hW : SL I w 0 W) (hV : SL I v 0 V) (sA : SW I a W) (sB : SW I b V) (k0 : ∀ (Y : HI), XFr I Y → ¬ LAW I a b W V → KI 0 Y) (k1 : ∀ (Y : HI), XFr I Y → LAW I a b W V → KI 1 Y) : CI mX11_areLawful (d + 6) [vR 489, vI w, vI v] I KI := by
  refine bk_X11_areLawful_0 ⟨by omega, fun q => PI_i (k1 I (XFr_rfl I) (LAW_nil (Or.inl ((SL_ne hW).mp q)))), fun q => ⟨by omega, fun q2 => ?_, fun q2 => PI_i (k1 I (XFr_rfl I) (LAW_nil (Or.inr ((SL_ne hV).mp q2))))⟩⟩
  have nW : W ≠ [] := fun z => q ((SL_ne hW).mpr z)
  have nV : V ≠ [] := fun z => q2 ((SL_ne hV).mpr z)
  have of' : ∀ {X : HI} (h : XFr I X) (a b : Int) (W V : List Sp), OFs X a b W V ↔ OFs I a b W V := fun {X} h a b W V => by
    unfold OFs
    simp only [UPw_fr (XFr_A h).2.2.1 (XFr_A h).2.2.2.2.1, ExS_fr (XFr_A h)]
  have slf : ∀ {X : HI} (h : XFr I X) {w : Int} {W : List Sp}, 0 ≤ w → SL I w 0 W → SL X w 0 W := fun {X} h {w W} w0 g => SL_fr w0 g (h.1 532 (by decide) (by decide) (by decide)) (h.1 533 (by decide) (by decide) (by decide)) (h.1 534 (by decide) (by decide) (by decide)) (h.1 535 (by decide) (by decide) (by decide))
  refine c11_areQuiet hT on0 on1 w0 w1 v0 v1 ew ev a1 b1 hW hV sA sB nW nV (fun Y xY n => ⟨fun _ => PI_i (k0 Y xY (fun z => n z.1)), fun q => absurd rfl q⟩) (fun Y xY g1 => ⟨fun q => by omega, fun _ => ?_⟩)
  refine c11_isOff (CTY_fr hT (CF_x xY)) (by rw [xY.2 64 (by decide)]; exact on0) (by rw [xY.2 64 (by decide)]; exact on1) w0 w1 v0 v1 ew ev (by rw [(XFr_A xY).1]; exact a1) (by rw [(XFr_A xY).1]; exact b1) (slf xY w0 hW) (slf xY v0 hV) (SW_fr (CF_x xY) sA) (SW_fr (CF_x xY) sB) (fun Z xZ n => ⟨fun _ => PI_i (k0 Z (XFr_tr xY xZ) (fun z => n ((of' xY a b W V).mpr z.2.1))), fun q => absurd rfl q⟩) (fun Z xZ g2 => ⟨fun q => by omega, fun _ => ?_⟩)
  have xZ' := XFr_tr xY xZ
  refine c11_isOff (CTY_fr hT (CF_x xZ')) (by rw [xZ'.2 64 (by decide)]; exact on0) (by rw [xZ'.2 64 (by decide)]; exact on1) v0 v1 w0 w1 ev ew (by rw [(XFr_A xZ').1]; exact b1) (by rw [(XFr_A xZ').1]; exact a1) (slf xZ' v0 hV) (slf xZ' w0 hW) (SW_fr (CF_x xZ') sB) (SW_fr (CF_x xZ') sA) (fun U xU n => ⟨fun _ => PI_i (k0 U (XFr_tr xZ' xU) (fun z => n ((of' xZ' b a V W).mpr z.2.2))), fun q => absurd rfl q⟩) (fun U xU g3 => ⟨fun q => by omega, fun _ => PI_i (k1 U (XFr_tr xZ' xU) ⟨g1, (of' xY a b W V).mp g2, (of' xZ' b a V W).mp g3⟩)⟩)
end LW
