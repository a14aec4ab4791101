/-- rows of open choices: sound, and whole for what is cheap enough -/
def DMS (I X : HI) (cs : Int → List Int) (st : Int) (r : Nat) (ms : List Nat) (ok : Nat → Nat → Prop) (c B : Int) : Prop := ∀ t ∈ ms, lrg (X 478 (r * 4 + t)) ∧ (∀ y, y < 64 → lb (X 478 (r * 4 + t)) y = true → ok t y ∧ y ≤ 3 * (rts I t).length) ∧ (∀ y, y ≤ 3 * (rts I t).length → ok t y → c + prc I cs st t y < B → lb (X 478 (r * 4 + t)) y = true)
section DV
variable {d : Nat} {I : HI} {cs : Int → List Int}
/-- through a row of nothing nothing cheap enough goes -/
theorem dead {X : HI} {st c B : Int} {r : Nat} {ms : List Nat} {ok : Nat → Nat → Prop} {bn : Int} {lw : Nat → Nat → Nat → Nat → Prop} {ys : List Nat} (hk : KNW I cs) (m1 : ∀ t ∈ ms, (t : Int) < I 518 6) (hD : DMS I X cs st r ms ok c B) (hy : ys ∈ vis (od I bn) lw ms ok) (hB : c + cst (prc I cs st) ms ys < B) : ∀ (i t y : Nat), ms[i]? = some t → ys[i]? = some y → y < 64 ∧ lb (X 478 (r * 4 + t)) y = true := by
  intro i t y ht hy'
  have g := (vis_ok ms ok ys hy).2 i t y ht hy'
  have t1 := m1 t (List.mem_of_getElem? ht)
  have y1 := od_le hk t1 g.2
  have rl := rts_len (I := I) (t : Int)
  have le := cst_el (fun s x => (prc_rng I cs st s x).1) ms ys i t y ht hy'
  exact ⟨by omega, (hD t (List.mem_of_getElem? ht)).2.2 y y1 g.1 (by omega)⟩
theorem c6_dive {ms : List Nat} {bn st : Int} (hk : KNW I cs) (hms : MSs I ms) (e9 : I 477 9 = st) (e10 : I 477 10 = bn) : ∀ (ms2 ms1 P : List Nat) (ok : Nat → Nat → Prop) (c : Int) (X : HI) (K : HI → Prop), ms = ms1 ++ ms2 → P.length = ms1.length → DFr I X → KNW X cs → (∀ (i x : Nat), P[i]? = some x → X 480 i = x) → DMS I X cs st ms1.length ms2 ok c (X 477 8) → (∀ t y, ok t y → y = 0 → st ≠ 0) → 0 ≤ c → c ≤ 11000 * ms1.length → 0 ≤ X 477 8 → X 477 8 ≤ 100000 → (ms2 = [] → c < X 477 8) → (∀ Y : HI, DFr I Y → KNW Y cs → (∀ j, j < 4 * (ms1.length + 1) → Y 478 j = X 478 j) → (∀ i, i < ms1.length → Y 480 i = X 480 i) → (Y 477 8, Y 481) = (vis (od I bn) (LW I cs) ms2 ok).foldl (bup bn (fun ys => c + cst (prc I cs st) ms2 ys) ms P) (X 477 8, X 481) → K Y) → CV mX6_dive (d + ms2.length + 8) [vR 477, vI (ms1.length : Int), vI c] X K := by
  intro ms2
  have n6 := hk.1.1.1.2.2.1
  have l4 := hms.2.2.1
  induction ms2 with
  | nil =>
    intro ms1 P ok c X K em eP dX kX hP hD h0 c0 c1 b0 b1 hB h
    rw [List.append_nil] at em
    have e7 : X 477 7 = ms.length := by rw [dX.2.2 7 (by decide)]; exact hms.1
    have x10 : X 477 10 = bn := by rw [dX.2.2 10 (by decide)]; exact e10
    have lt := hB rfl
    have fin : ∀ (v : Int) (I2 : HI), v = (if bn = 0 then c else 0) → I2 = up X 477 8 v → J none mX6_dive (d + 8) 0 0 26 [(0, vR 477), (1, vI (ms1.length : Int)), (2, vI c), (3, vI 0)] [] (mk I2) (PV K) := by
      intro v I2 ev e2
      have f2 : ∀ k, k ≠ 477 → I2 k = X k := fun k hk => by rw [e2, up_k hk]
      have := best_lp (d := d + 7) (ms := ms) (xs := P) (a2 := c) (l0 := (ms1.length : Int)) (X0 := I2) (K := K) l4 (by rw [e2, up_j (by decide)]; exact e7) (fun i t ht => by rw [f2 479 (by decide), dX.1 479 (by omega) (by omega) (by omega) (by omega) (by omega) (by omega) (by omega)]; exact hms.2.1 i t ht) (fun t ht => by have := hms.2.2.2.1 t ht; omega) (fun i x hx => by rw [f2 480 (by decide)]; exact hP i x hx) (by rw [eP, em]) (fun Y fY yw => ?_) ms [] P [] I2 rfl rfl rfl (fun _ _ => rfl) rfl
      · exact this
      · have gY : ∀ k, k ≠ 477 → k ≠ 481 → Y k = X k := fun k h1 h2 => by rw [fY k h2, f2 k h1]
        refine h Y (DFr_tr dX ⟨fun k _ _ _ h4 _ _ h7 => gY k h4 h7, fun j _ => by rw [gY 62 (by decide) (by decide)], fun j hj => by rw [fY 477 (by decide), e2, up_j hj]⟩) (KNW_47 kX (fun k h1 _ _ _ h5 => gY k h1 h5)) (fun j _ => by rw [gY 478 (by decide) (by decide)]) (fun i _ => by rw [gY 480 (by decide) (by decide)]) ?_
        show _ = bup bn (fun ys => c + cst (prc I cs st) [] ys) ms P (X 477 8, X 481) []
        have e0 : c + cst (prc I cs st) [] [] = c := Int.add_zero c
        have eb : bup bn (fun ys => c + cst (prc I cs st) [] ys) ms P (X 477 8, X 481) [] = ((if bn = 0 then c else 0), wrs (X 481) ms P) := by
          unfold bup
          simp only [e0, if_pos lt, List.append_nil]
        rw [eb, fY 477 (by decide), yw, f2 481 (by decide), e2, up_e, ev]
    refine bk_X6_dive_0 ?_
    rw [e7, x10]
    refine ⟨fun q => by rw [em] at q; omega, fun _ => ⟨fun q I2 e2 => fin c I2 (by rw [if_pos q]) e2, fun q I3 e3 => fin 0 I3 (by rw [if_neg q]) e3⟩⟩
  | cons s ms2 ih =>
    intro ms1 P ok c X K em eP dX kX hP hD h0 c0 c1 b0 b1 hB h
    have lm : ms.length = ms1.length + (ms2.length + 1) := by rw [em]; simp
    have e7 : X 477 7 = ms.length := by rw [dX.2.2 7 (by decide)]; exact hms.1
    have x479 : X 479 = I 479 := dX.1 479 (by omega) (by omega) (by omega) (by omega) (by omega) (by omega) (by omega)
    have hs : ms[ms1.length]? = some s := by rw [em]; simp
    have es : X 479 ms1.length = s := by rw [x479]; exact hms.2.1 _ _ hs
    have sm : s ∈ ms := List.mem_of_getElem? hs
    have s1 := hms.2.2.2.1 s sm
    have rl := rts_len (I := I) (s : Int)
    have m2 : ∀ t ∈ ms2, t ∈ ms := fun t ht => by rw [em]; simp [ht]
    have mn : ∀ t ∈ ms2, (t : Int) < I 518 6 := fun t ht => hms.2.2.2.1 t (m2 t ht)
    have nd : (s :: ms2).Pairwise (fun a b => a < b) := by
      have := hms.2.2.2.2
      rw [em, List.pairwise_append] at this
      exact this.2.1
    have slt : ∀ t ∈ ms2, s < t := fun t ht => (List.pairwise_cons.mp nd).1 t ht
    -- facts carried to a later state
    have tr : ∀ Z : HI, DFr I Z → MSs Z ms ∧ (∀ s, rts Z s = rts I s) ∧ (∀ s x, prc Z cs (Z 477 9) s x = prc I cs st s x) ∧ Z 518 = I 518 := fun Z dZ => by
      have c := CF_d dZ
      have sh := sh_d dZ
      have f518 := c.1 518 (by omega)
      refine ⟨⟨by rw [dZ.2.2 7 (by decide)]; exact hms.1, fun i t ht => by rw [dZ.1 479 (by omega) (by omega) (by omega) (by omega) (by omega) (by omega) (by omega)]; exact hms.2.1 i t ht, l4, by rw [f518]; exact hms.2.2.2.1, hms.2.2.2.2⟩, fun s => rts_fr c sh.1 s, fun s x => ?_, f518⟩
      rw [dZ.2.2 9 (by decide), e9]
      exact prc_fr c sh.1 cs st s x
    have lvs : ∀ (Z : HI) (r : Nat) (q : List Nat) (ok' : Nat → Nat → Prop) (c' B' : Int), DFr I Z → (∀ t y, ok' t y → ok t y) → DMS I Z cs st r q ok' c' B' → ∀ t ∈ q, ∀ y, y < 64 → lb (Z 478 (r * 4 + t)) y = true → y ≤ 3 * (rts Z t).length ∧ (y = 0 → Z 477 9 ≠ 0) := fun Z r q ok' c' B' dZ hok hDm t ht y hy hb => by
      have g := (hDm t ht).2.1 y hy hb
      rw [(tr Z dZ).2.1, dZ.2.2 9 (by decide), e9]
      exact ⟨g.2, fun z => h0 t y (hok t y g.1) z⟩
    have hDs := hD s List.mem_cons_self
    have hD2 : DMS I X cs st ms1.length ms2 ok c (X 477 8) := fun t ht => hD t (List.mem_cons_of_mem _ ht)
    refine bk_X6_dive_0 ?_
    rw [e7, Int.toNat_natCast, es, show ((ms1.length : Int) * 4 + (s : Int)).toNat = ms1.length * 4 + s from by omega]
    refine ⟨fun _ => ⟨by omega, by omega, by omega, by omega, ?_⟩, fun q => by omega⟩
    refine c6_leastBehind (s := s) (ms1 := ms1) (ms2 := ms2) (r := ms1.length) kX (tr X dX).1 em (by omega) (lvs X ms1.length ms2 ok c (X 477 8) dX (fun _ _ z => z) hD2) (fun rest r0 r1 hrest => ?_)
    have pe : ∀ q ys, cst (prc X cs (X 477 9)) q ys = cst (prc I cs st) q ys := fun q ys => by
      have : prc X cs (X 477 9) = prc I cs st := by
        funext s x
        exact (tr X dX).2.2.1 s x
      rw [this]
    -- the choices one after the other
    have lp : ∀ (k n : Nat) (Z : HI), n + k = 3 * (rts I s).length + 1 → DFr I Z → KNW Z cs → (∀ j, j < 4 * (ms1.length + 1) → Z 478 j = X 478 j) → (∀ i, i < ms1.length → Z 480 i = X 480 i) → 0 ≤ Z 477 8 → Z 477 8 ≤ X 477 8 → (∀ Y : HI, DFr I Y → KNW Y cs → (∀ j, j < 4 * (ms1.length + 1) → Y 478 j = X 478 j) → (∀ i, i < ms1.length → Y 480 i = X 480 i) → (Y 477 8, Y 481) = ((List.range' n k).flatMap (fun n => iL (ok s (if bn = 0 then rk I s n else n)) ((vis (od I bn) (LW I cs) ms2 (fun t y => ok t y ∧ LW I cs s (if bn = 0 then rk I s n else n) t y)).map (fun ys => (if bn = 0 then rk I s n else n) :: ys)))).foldl (bup bn (fun ys => c + cst (prc I cs st) (s :: ms2) ys) ms P) (Z 477 8, Z 481) → K Y) → J none mX6_dive (d + ms2.length + 9) 0 0 88 [(0, vR 477), (1, vI (ms1.length : Int)), (2, vI c), (3, vI (s : Int)), (4, vL (X 478 (ms1.length * 4 + s))), (6, vI rest), (7, vI (n : Int))] [] (mk Z) (PV K) := by
      intro k
      induction k with
      | zero =>
        intro n Z en dZ kZ rZ cZ z0 z1 hK
        have f71 : Z 71 s = (rts I s).length := by
          have := (kZ.2.1 s (by rw [(tr Z dZ).2.2.2]; exact s1)).1.1
          rw [(tr Z dZ).2.1] at this
          exact this
        refine bk_X6_dive_88 ?_
        rw [Int.toNat_natCast, f71]
        exact ⟨by omega, by omega, fun _ => PV_i (hK Z dZ kZ rZ cZ rfl), fun q => by omega⟩
      | succ k ihk =>
        intro n Z en dZ kZ rZ cZ z0 z1 hK
        have tz := tr Z dZ
        have s1Z : (s : Int) < Z 518 6 := by rw [tz.2.2.2]; exact s1
        have f71 : Z 71 s = (rts I s).length := by
          have := (kZ.2.1 s s1Z).1.1
          rw [tz.2.1] at this
          exact this
        have rkZ : rk Z s n = rk I s n := by
          unfold rk
          rw [dZ.1 73 (by omega) (by omega) (by omega) (by omega) (by omega) (by omega) (by omega)]
        have rv := rk_v kZ s1Z (show n ≤ 3 * (rts Z s).length from by rw [tz.2.1]; omega)
        have split : List.range' n (k + 1) = n :: List.range' (n + 1) k := rfl
        -- one choice
        have body : ∀ x : Nat, x ≤ 3 * (rts I s).length → (if bn = 0 then rk I s n else n) = x → (((lA (lUr (X 478 (ms1.length * 4 + s)) (x : Int)) 1) = 0 → (-2147483648 ≤ (n : Int) + 1 ∧ (n : Int) + 1 ≤ 2147483647) ∧ J none mX6_dive (d + ms2.length + 9) 0 0 88 [(0, vR 477), (1, vI (ms1.length : Int)), (2, vI c), (3, vI (s : Int)), (4, vL (X 478 (ms1.length * 4 + s))), (6, vI rest), (7, vI ((n : Int) + 1))] [] (mk Z) (PV K)) ∧ (¬ ((lA (lUr (X 478 (ms1.length * 4 + s)) (x : Int)) 1) = 0) → (-2147483648 ≤ (c + prc I cs st s x) + rest ∧ (c + prc I cs st s x) + rest ≤ 2147483647) ∧ ((((c + prc I cs st s x) + rest) < (Z 477 8) → ((0 : Int) ≤ (ms1.length : Int) ∧ (ms1.length : Int) < 4) ∧ (∀ I2 : HI, I2 = up Z 480 (ms1.length : Int).toNat (x : Int) → (-2147483648 ≤ (ms1.length : Int) + 1 ∧ (ms1.length : Int) + 1 ≤ 2147483647) ∧ J none mX6_dive (d + ms2.length + 9) 0 0 187 [(0, vR 477), (1, vI (ms1.length : Int)), (2, vI c), (3, vI (s : Int)), (4, vL (X 478 (ms1.length * 4 + s))), (6, vI rest), (7, vI (n : Int)), (8, vI (x : Int)), (9, vI (c + prc I cs st s x)), (10, vL 1), (12, vI ((ms1.length : Int) + 1))] [] (mk I2) (PV K))) ∧ (¬ (((c + prc I cs st s x) + rest) < (Z 477 8)) → (-2147483648 ≤ (n : Int) + 1 ∧ (n : Int) + 1 ≤ 2147483647) ∧ J none mX6_dive (d + ms2.length + 9) 0 0 88 [(0, vR 477), (1, vI (ms1.length : Int)), (2, vI c), (3, vI (s : Int)), (4, vL (X 478 (ms1.length * 4 + s))), (6, vI rest), (7, vI ((n : Int) + 1))] [] (mk Z) (PV K))))) := by
          intro x x1 gx
          have pr := prc_rng I cs st s x
          -- goes on with nothing found
          have skip : ∀ U : HI, DFr I U → KNW U cs → (∀ j, j < 4 * (ms1.length + 1) → U 478 j = X 478 j) → (∀ i, i < ms1.length → U 480 i = X 480 i) → U 477 8 = Z 477 8 → U 481 = Z 481 → (∀ ys, ok s x → ys ∈ vis (od I bn) (LW I cs) ms2 (fun t y => ok t y ∧ LW I cs s x t y) → Z 477 8 ≤ (c + prc I cs st s x) + cst (prc I cs st) ms2 ys) → J none mX6_dive (d + ms2.length + 9) 0 0 88 [(0, vR 477), (1, vI (ms1.length : Int)), (2, vI c), (3, vI (s : Int)), (4, vL (X 478 (ms1.length * 4 + s))), (6, vI rest), (7, vI ((n : Int) + 1))] [] (mk U) (PV K) := by
            intro U dU kU rU cU u8 u481 hs
            have sk : ∀ zs ∈ iL (ok s x) ((vis (od I bn) (LW I cs) ms2 (fun t y => ok t y ∧ LW I cs s x t y)).map (fun ys => x :: ys)), (Z 477 8, Z 481).1 ≤ (fun ys => c + cst (prc I cs st) (s :: ms2) ys) zs := fun zs hz => by
              rw [mem_iL] at hz
              obtain ⟨ys, hy, rfl⟩ := List.mem_map.mp hz.2
              have := hs ys hz.1 hy
              show Z 477 8 ≤ c + (prc I cs st s x + cst (prc I cs st) ms2 ys)
              omega
            have := ihk (n + 1) U (by omega) dU kU rU cU (by rw [u8]; exact z0) (by rw [u8]; exact z1) (fun Y dY kY rY cY hY => hK Y dY kY rY cY (by
              rw [split, List.flatMap_cons, List.foldl_append, gx, bup_skip _ _ sk, hY, u8, u481]))
            exact this
          refine ⟨fun q => ⟨by omega, skip Z dZ kZ rZ cZ rfl rfl (fun ys ho hy => ?_)⟩, fun q => ⟨by omega, fun q2 => ⟨by omega, fun I2 e2 => ⟨by omega, ?_⟩⟩, fun q2 => ⟨by omega, skip Z dZ kZ rZ cZ rfl rfl (fun ys ho hy => ?_)⟩⟩⟩
          · -- not open
            rw [lu_1 (by omega) (by omega), Int.toNat_natCast] at q
            have nb : ¬ lb (X 478 (ms1.length * 4 + s)) x = true := fun z => by
              rw [if_pos z] at q
              omega
            have := cst_nn (fun s x => (prc_rng I cs st s x).1) ms2 ys
            rcases Int.lt_or_le (c + prc I cs st s x) (X 477 8) with z | z
            · exact absurd (hDs.2.2 x x1 ho z) nb
            · omega
          · -- open, and cheap enough
            rw [Int.toNat_natCast] at e2
            rw [lu_1 (by omega) (by omega), Int.toNat_natCast] at q
            have opx : lb (X 478 (ms1.length * 4 + s)) x = true := by
              cases eb : lb (X 478 (ms1.length * 4 + s)) x
              · rw [eb] at q
                exact absurd rfl q
              · rfl
            have okx := (hDs.2.1 x (by omega) opx).1
            have f2 : ∀ k, k ≠ 480 → I2 k = Z k := fun k hk => by rw [e2, up_k hk]
            have d2 : DFr I I2 := DFr_tr dZ ⟨fun k _ _ _ _ _ h6 _ => f2 k h6, fun j _ => by rw [f2 62 (by decide)], fun j _ => by rw [f2 477 (by decide)]⟩
            have k2 : KNW I2 cs := KNW_47 kZ (fun k _ _ _ h4 _ => f2 k h4)
            have oth : ∀ (q2 q1 : List Nat) (left : Int) (U : HI), ms2 = q1 ++ q2 → DFr I U → KNW U cs → (∀ j, j < 4 * (ms1.length + 1) → U 478 j = X 478 j) → (∀ i, i < ms1.length → U 480 i = X 480 i) → U 480 ms1.length = x → U 477 8 = Z 477 8 → U 481 = Z 481 → DMS I U cs st (ms1.length + 1) q1 (fun t y => ok t y ∧ LW I cs s x t y) (c + prc I cs st s x) (Z 477 8) → (left = 0 → ∃ t ∈ q1, U 478 ((ms1.length + 1) * 4 + t) = 0) → J none mX6_dive (d + ms2.length + 9) 0 0 187 [(0, vR 477), (1, vI (ms1.length : Int)), (2, vI c), (3, vI (s : Int)), (4, vL (X 478 (ms1.length * 4 + s))), (6, vI rest), (7, vI (n : Int)), (8, vI (x : Int)), (9, vI (c + prc I cs st s x)), (10, vL left), (12, vI ((ms1.length : Int) + 1 + q1.length))] [] (mk U) (PV K) := by
              intro q2
              induction q2 with
              | nil =>
                intro q1 left U eq dU kU rU cU ux u8 u481 hDU hl
                rw [List.append_nil] at eq
                subst eq
                have tu := tr U dU
                have skU : (left = 0) → J none mX6_dive (d + ms2.length + 9) 0 0 88 [(0, vR 477), (1, vI (ms1.length : Int)), (2, vI c), (3, vI (s : Int)), (4, vL (X 478 (ms1.length * 4 + s))), (6, vI rest), (7, vI ((n : Int) + 1))] [] (mk U) (PV K) := fun z => by
                  obtain ⟨t, ht, t0⟩ := hl z
                  refine skip U dU kU rU cU u8 u481 (fun ys ho hy => ?_)
                  rcases Int.lt_or_le ((c + prc I cs st s x) + cst (prc I cs st) ms2 ys) (Z 477 8) with w | w
                  · obtain ⟨i, hi⟩ := List.getElem?_of_mem ht
                    have il := ge_lt hi
                    have yl := (vis_ok ms2 _ ys hy).1
                    obtain ⟨y, hyi⟩ : ∃ y, ys[i]? = some y := ⟨_, List.getElem?_eq_getElem (by omega)⟩
                    have := (dead hk mn hDU hy w i t y hi hyi).2
                    rw [t0, lb_0] at this
                    cases this
                  · exact w
                refine bk_X6_dive_187 ?_
                rw [dU.2.2 7 (by decide), hms.1]
                refine ⟨fun _ => ⟨fun z => ⟨by omega, skU z⟩, fun z => ⟨by omega, ?_⟩⟩, fun q => by omega⟩
                refine c6_leastBehind (s := s) (ms1 := ms1) (ms2 := ms2) (r := ms1.length + 1) kU tu.1 em (by omega) (lvs U (ms1.length + 1) ms2 _ _ _ dU (fun t y z => z.1) hDU) (fun w w0 w1 hw => ⟨by omega, fun z2 => ⟨by omega, skip U dU kU rU cU u8 u481 (fun ys ho hy => ?_)⟩, fun z2 => ⟨by omega, ?_⟩⟩)
                · rcases Int.lt_or_le ((c + prc I cs st s x) + cst (prc I cs st) ms2 ys) (Z 477 8) with v | v
                  · have := hw ys (vis_ok ms2 _ ys hy).1 (dead hk mn hDU hy v)
                    have pe2 : prc U cs (U 477 9) = prc I cs st := by
                      funext s x
                      exact tu.2.2.1 s x
                    rw [pe2] at this
                    rw [u8] at z2
                    omega
                  · exact v
                · rw [u8] at z2
                  have := ih (ms1 ++ [s]) (P ++ [x]) (fun t y => ok t y ∧ LW I cs s x t y) (c + prc I cs st s x) U (fun I2 => (-2147483648 ≤ (n : Int) + 1 ∧ (n : Int) + 1 ≤ 2147483647) ∧ J none mX6_dive (d + ms2.length + 9) 0 0 88 [(0, vR 477), (1, vI (ms1.length : Int)), (2, vI c), (3, vI (s : Int)), (4, vL (X 478 (ms1.length * 4 + s))), (6, vI rest), (7, vI ((n : Int) + 1))] [] (mk I2) (PV K)) (by rw [em]; simp) (by simp [eP]) dU kU (fun i z hz => ?_) (by rw [List.length_append, List.length_singleton, u8]; exact hDU) (fun t y z => h0 t y z.1) (by omega) (by rw [List.length_append, List.length_singleton]; omega) (by rw [u8]; exact z0) (by rw [u8]; omega) (fun _ => by rw [u8]; omega) (fun Y dY kY rY cY hY => ⟨by omega, ?_⟩)
                  · rw [List.length_append, List.length_singleton] at this
                    exact this
                  · by_cases ei : i < P.length
                    · rw [List.getElem?_append_left ei] at hz
                      rw [cU i (by omega)]
                      exact hP i z hz
                    · have := ge_lt hz
                      rw [List.length_append, List.length_singleton] at this
                      obtain rfl : i = P.length := by omega
                      rw [List.getElem?_concat_length] at hz
                      cases hz
                      rw [eP]
                      exact ux
                  · rw [List.length_append, List.length_singleton] at rY cY
                    have nn : ∀ ys ∈ vis (od I bn) (LW I cs) ms2 (fun t y => ok t y ∧ LW I cs s x t y), 0 ≤ (c + prc I cs st s x) + cst (prc I cs st) ms2 ys := fun ys _ => by
                      have := cst_nn (fun s x => (prc_rng I cs st s x).1) ms2 ys
                      omega
                    have mono := bup_le (bn := bn) (ms := ms) (P := P ++ [x]) _ (U 477 8, U 481) nn
                    have y8 : Y 477 8 = ((vis (od I bn) (LW I cs) ms2 (fun t y => ok t y ∧ LW I cs s x t y)).foldl (bup bn (fun ys => (c + prc I cs st s x) + cst (prc I cs st) ms2 ys) ms (P ++ [x])) (U 477 8, U 481)).1 := by rw [← hY]
                    simp only [u8] at mono y8
                    have := ihk (n + 1) Y (by omega) dY kY (fun j hj => by rw [rY j (by omega), rU j hj]) (fun i hi => by rw [cY i (by omega), cU i hi]) (by rw [y8]; exact mono.2 z0) (by rw [y8]; omega) (fun V dV kV rV cV hV => hK V dV kV rV cV ?_)
                    · exact this
                    · rw [hV, hY, u8, u481, split, List.flatMap_cons, List.foldl_append, gx, iL_pos okx, List.foldl_map]
                      have ef : (fun (st' : Bst) (ys : List Nat) => bup bn (fun ys => c + cst (prc I cs st) (s :: ms2) ys) ms P st' (x :: ys)) = bup bn (fun ys => (c + prc I cs st s x) + cst (prc I cs st) ms2 ys) ms (P ++ [x]) := by
                        funext st' ys
                        have e1 : c + cst (prc I cs st) (s :: ms2) (x :: ys) = (c + prc I cs st s x) + cst (prc I cs st) ms2 ys := by
                          show c + (prc I cs st s x + cst (prc I cs st) ms2 ys) = _
                          omega
                        unfold bup
                        simp only [e1, List.append_assoc, List.singleton_append]
                      rw [ef]
              | cons t q2 ihq =>
                intro q1 left U eq dU kU rU cU ux u8 u481 hDU hl
                have tu := tr U dU
                have lq : ms2.length = q1.length + (q2.length + 1) := by rw [eq]; simp
                have tm : t ∈ ms2 := by rw [eq]; simp
                have t1 := mn t tm
                have st' := slt t tm
                have rlt := rts_len (I := I) (t : Int)
                have ht : ms[ms1.length + 1 + q1.length]? = some t := by
                  rw [em, eq]
                  have : (ms1 ++ s :: (q1 ++ t :: q2)) = (ms1 ++ [s] ++ q1) ++ t :: q2 := by simp
                  have li : (ms1 ++ [s] ++ q1).length = ms1.length + 1 + q1.length := by simp; omega
                  rw [this, ← li, List.getElem?_append_right (Nat.le_refl _), Nat.sub_self]
                  rfl
                have e12 : ((ms1.length : Int) + 1 + q1.length).toNat = ms1.length + 1 + q1.length := by omega
                have eT : U 479 (ms1.length + 1 + q1.length) = t := by
                  rw [dU.1 479 (by omega) (by omega) (by omega) (by omega) (by omega) (by omega) (by omega)]
                  exact hms.2.1 _ _ ht
                have tq : t ∉ q1 := fun z => by
                  have := (List.pairwise_cons.mp nd).2
                  rw [eq, List.pairwise_append] at this
                  have := this.2.2 t z t List.mem_cons_self
                  omega
                have q1m : ∀ u ∈ q1, (u : Int) < I 518 6 := fun u hu => mn u (by rw [eq]; simp [hu])
                refine bk_X6_dive_187 ?_
                rw [dU.2.2 7 (by decide), hms.1, e12, eT, u8, show ((ms1.length : Int) * 4 + (t : Int)).toNat = ms1.length * 4 + t from by omega, show (((ms1.length : Int) + 1) * 4 + (t : Int)).toNat = (ms1.length + 1) * 4 + t from by omega]
                refine ⟨fun q => by omega, fun _ => ⟨fun z => ⟨fun _ => ⟨by omega, ?_⟩, fun z2 => absurd z z2⟩, fun z => ⟨by omega, by omega, by omega, by omega, by omega, ?_⟩⟩⟩
                · -- a row is empty
                  obtain ⟨u, hu, u0⟩ := hl z
                  refine skip U dU kU rU cU u8 u481 (fun ys ho hy => ?_)
                  rcases Int.lt_or_le ((c + prc I cs st s x) + cst (prc I cs st) ms2 ys) (Z 477 8) with w | w
                  · obtain ⟨i, hi⟩ := List.getElem?_of_mem hu
                    have il := ge_lt hi
                    have hi2 : ms2[i]? = some u := by rw [eq, List.getElem?_append_left il]; exact hi
                    have yo := vis_ok ms2 _ ys hy
                    obtain ⟨y, hyi⟩ : ∃ y, ys[i]? = some y := ⟨_, List.getElem?_eq_getElem (by omega)⟩
                    have g := yo.2 i u y hi2 hyi
                    have le := cst_el (fun s x => (prc_rng I cs st s x).1) ms2 ys i u y hi2 hyi
                    have := (hDU u hu).2.2 y (od_le hk (q1m u hu) g.2) g.1 (by omega)
                    rw [u0, lb_0] at this
                    cases this
                  · exact w
                · have hDt := hD t (List.mem_cons_of_mem _ tm)
                  have xr : U 478 (ms1.length * 4 + t) = X 478 (ms1.length * 4 + t) := rU _ (by omega)
                  rw [xr]
                  have t1U : (t : Int) < U 518 6 := by rw [tu.2.2.2]; exact t1
                  refine c6_cheapEnough kU t1U hDt.1 (fun y hy hb => ?_) (fun r rlr rs rc => ?_)
                  · have := (hDt.2.1 y hy hb)
                    rw [tu.2.1, dU.2.2 9 (by decide), e9]
                    exact ⟨this.2, fun z => h0 t y this.1 z⟩
                  · rw [tu.2.1] at rc
                    refine c5_fitting kU (by omega) (by rw [tu.2.2.2]; exact s1) t1U (by rw [tu.2.1]; exact x1) rlr (fun y hy hb => by rw [tu.2.1]; exact (hDt.2.1 y hy (rs y hy hb)).2) (fun V v jV kV vl hv => ⟨by omega, by omega, by omega, by omega, fun I7 e7' => ⟨by omega, ?_⟩⟩)
                    have f7 : ∀ k, k ≠ 478 → I7 k = V k := fun k hk => by rw [e7', up_k hk]
                    have dV : DFr I V := DFr_tr dU (DFr_j jV)
                    have d7 : DFr I I7 := DFr_tr dV ⟨fun k _ _ _ _ h5 _ _ => f7 k h5, fun j _ => by rw [f7 62 (by decide)], fun j _ => by rw [f7 477 (by decide)]⟩
                    have v478 : V 478 = U 478 := jV.1 478 (by omega) (by omega) (by omega)
                    have r7 : ∀ j, j ≠ (ms1.length + 1) * 4 + t → I7 478 j = U 478 j := fun j hj => by rw [e7', up_j hj, v478]
                    have lwU : ∀ y, LW U cs s x t y ↔ LW I cs s x t y := fun y => LW_fr (CF_d dU) (sh_d dU).1 (sh_d dU).2 cs s x t y
                    have := ihq (q1 ++ [t]) v I7 (by rw [eq]; simp) d7 (KNW_47 kV (fun k _ h2 _ _ _ => f7 k h2)) (fun j hj => by rw [r7 j (by omega), rU j hj]) (fun i hi => by rw [f7 480 (by decide), jV.1 480 (by omega) (by omega) (by omega), cU i hi]) (by rw [f7 480 (by decide), jV.1 480 (by omega) (by omega) (by omega), ux]) (by rw [f7 477 (by decide), jV.1 477 (by omega) (by omega) (by omega), u8]) (by rw [f7 481 (by decide), jV.1 481 (by omega) (by omega) (by omega), u481]) (fun u hu => ?_) (fun z3 => ⟨t, by simp, by rw [e7', up_e, z3]⟩)
                    · rw [List.length_append, List.length_singleton] at this
                      rw [show (ms1.length : Int) + 1 + (q1.length : Int) + 1 = (ms1.length : Int) + 1 + ((q1.length + 1 : Nat) : Int) from by omega]
                      exact this
                    · rcases List.mem_append.mp hu with hu | hu
                      · have ne : u ≠ t := fun z => tq (z ▸ hu)
                        rw [r7 _ (by omega)]
                        exact hDU u hu
                      · rw [List.mem_singleton.mp hu, e7', up_e]
                        refine ⟨vl, fun y hy hb => ?_, fun y y1 ho hc => ?_⟩
                        · have g := (hv y hy).mp hb
                          have g2 := hDt.2.1 y hy (rs y hy g.1)
                          exact ⟨⟨g2.1, (lwU y).mp g.2⟩, g2.2⟩
                        · have hd' := hDt.2.2 y y1 ho.1 (by omega)
                          refine (hv y (by omega)).mpr ⟨rc y (by omega) y1 hd' ?_, (lwU y).mpr ho.2⟩
                          rw [tu.2.2.1]
                          omega
            have := oth ms2 [] 1 I2 rfl d2 k2 (fun j hj => by rw [f2 478 (by decide), rZ j hj]) (fun i hi => by rw [e2, up_j (by omega), cZ i hi]) (by rw [e2, up_e]) (by rw [f2 477 (by decide)]) (by rw [f2 481 (by decide)]) (fun t ht => by cases ht) (fun z => by omega)
            rw [show (ms1.length : Int) + 1 + (([] : List Nat).length : Int) = (ms1.length : Int) + 1 from by simp] at this
            exact this
          · -- too dear with the rest
            rcases Int.lt_or_le ((c + prc I cs st s x) + cst (prc I cs st) ms2 ys) (Z 477 8) with w | w
            · have yo := vis_ok ms2 _ ys hy
              have := hrest ys yo.1 (fun i t y ht hyi => by
                have g := yo.2 i t y ht hyi
                have t1 := mn t (List.mem_of_getElem? ht)
                have y1 := od_le hk t1 g.2
                have rlt := rts_len (I := I) (t : Int)
                have le := cst_el (fun s x => (prc_rng I cs st s x).1) ms2 ys i t y ht hyi
                exact ⟨by omega, (hD t (List.mem_cons_of_mem _ (List.mem_of_getElem? ht))).2.2 y y1 g.1.1 (by omega)⟩)
              rw [pe] at this
              omega
            · exact w
        have prx : ∀ x, prc I cs st s x ≤ 10999 ∧ 0 ≤ prc I cs st s x := fun x => ⟨(prc_rng I cs st s x).2, (prc_rng I cs st s x).1⟩
        refine bk_X6_dive_88 ?_
        rw [Int.toNat_natCast, f71, dZ.2.2 10 (by decide), e10, show ((s : Int) * 61 + (n : Int)).toNat = 61 * s + n from by omega, rv.1, rkZ]
        refine ⟨by omega, by omega, fun q => by omega, fun _ => ⟨fun q => ⟨by omega, by omega, by omega, ?_⟩, fun q => ?_⟩⟩
        · refine c6_price kZ s1Z (by rw [← rkZ]; exact rv.2.1) ?_
          rw [tz.2.2.1]
          have := prx (rk I s n)
          rw [rkZ, tz.2.1] at rv
          exact ⟨by omega, body (rk I s n) rv.2.1 (by rw [if_pos q])⟩
        · refine c6_price kZ s1Z (by rw [tz.2.1]; omega) ?_
          rw [tz.2.2.1]
          have := prx n
          exact ⟨by omega, body n (by omega) (by rw [if_neg q])⟩
    have := lp (3 * (rts I s).length + 1) 0 X (by omega) dX kX (fun _ _ => rfl) (fun _ _ => rfl) b0 (Int.le_refl _) (fun Y dY kY rY cY hY => h Y dY kY rY cY (by
      rw [hY]
      congr 1
      show _ = (od I bn s).flatMap _
      unfold od
      rw [List.flatMap_map]))
    rw [List.length_cons]
    exact this
end DV
