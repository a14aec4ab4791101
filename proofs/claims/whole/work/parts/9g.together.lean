/-- what the model's planning changes -/
def HFr (I X : HI) : Prop := (∀ k, k ≠ 489 → k ≠ 529 → k ≠ 530 → (k < 532 ∨ 535 < k) → (k < 546 ∨ 555 < k) → X k = I k) ∧ (∀ j, j ≠ 56 → j ≠ 83 → j ≠ 84 → X 489 j = I 489 j) ∧ (∀ j, j < 4 → X 532 j = I 532 j) ∧ (∀ j, j < 96 → X 533 j = I 533 j ∧ X 534 j = I 534 j ∧ X 535 j = I 535 j)
theorem HFr_rfl (I : HI) : HFr I I := ⟨fun _ _ _ _ _ _ => rfl, fun _ _ _ _ => rfl, fun _ _ => rfl, fun _ _ => ⟨rfl, rfl, rfl⟩⟩
theorem HFr_tr {I X Y : HI} (h : HFr I X) (g : HFr X Y) : HFr I Y := by
  refine ⟨fun k h1 h2 h3 h4 h5 => by rw [g.1 k h1 h2 h3 h4 h5, h.1 k h1 h2 h3 h4 h5], fun j h1 h2 h3 => by rw [g.2.1 j h1 h2 h3, h.2.1 j h1 h2 h3], fun j hj => by rw [g.2.2.1 j hj, h.2.2.1 j hj], fun j hj => ?_⟩
  obtain ⟨a1, a2, a3⟩ := g.2.2.2 j hj
  obtain ⟨b1, b2, b3⟩ := h.2.2.2 j hj
  exact ⟨a1.trans b1, a2.trans b2, a3.trans b3⟩
theorem HFr_o {I X : HI} (h : OFm I X) : HFr I X := ⟨fun k _ _ _ h4 h5 => h.1 k h4 (by omega), fun j _ _ _ => by rw [h.1 489 (by omega) (by omega)], h.2.1, h.2.2⟩
theorem HFr_w {I X : HI} (h : ∀ k, k ≠ 489 → k ≠ 529 → k ≠ 530 → (k < 546 ∨ 555 < k) → X k = I k) (g : ∀ j, j ≠ 56 → j ≠ 83 → j ≠ 84 → X 489 j = I 489 j) : HFr I X := ⟨fun k h1 h2 h3 _ h5 => h k h1 h2 h3 h5, g, fun j _ => by rw [h 532 (by omega) (by omega) (by omega) (by omega)], fun j _ => ⟨by rw [h 533 (by omega) (by omega) (by omega) (by omega)], by rw [h 534 (by omega) (by omega) (by omega) (by omega)], by rw [h 535 (by omega) (by omega) (by omega) (by omega)]⟩⟩
theorem HFr_g {I X : HI} (h : GFr I X) : HFr I X := HFr_w (fun k h1 h2 h3 h4 => h.1 k h1 h2 h3 (by omega) (by omega) (by omega)) h.2
theorem HFr_r {s : Nat} {I X : HI} (h : RFr s I X) : HFr I X := HFr_w (fun k _ _ _ h4 => h.1 k (by omega) (by omega) (by omega)) (fun j _ _ _ => by rw [h.1 489 (by omega) (by omega) (by omega)])
theorem CF_h {I X : HI} (h : HFr I X) : CF I X := ⟨fun k hk => h.1 k (by omega) (by omega) (by omega) (by omega) (by omega), h.2.1 44 (by decide) (by decide) (by decide)⟩
theorem all_b : ∀ n : Nat, n < 5 → (0 ≤ oSl 1 (n : Int) - 1 ∧ oSl 1 (n : Int) - 1 < 16) ∧ ∀ t : Nat, t < n → bit (oSl 1 (n : Int) - 1) (t : Int) = true := by decide +kernel
theorem gD {l : List Int} {n : Nat} (h : n < l.length) : l[n]? = some (l.getD n 0) := by
  rw [List.getD_eq_getElem?_getD, List.getElem?_eq_getElem h]
  rfl
def hm_ (I : HI) (s : Nat) : Int := hm I s
section TG
variable {d : Nat} {I : HI} {K : HI → Prop} {KI : Int → HI → Prop} {K2 : Int → Int → HI → Prop} {cs : Int → List Int} {H : List Sn}
theorem c11_opts (hm : MWs I cs) (hsh : 0 ≤ I 489 63 ∧ I 489 63 < 65536) (hon : 0 ≤ I 489 64 ∧ I 489 64 < 64) (h : ∀ Y : HI, OFm I Y → MDW Y cs → K Y) : CV mX11_options (d + 6) [vR 489] I K := by
  refine c11_options hm.1 hsh (fun Y oY mY wY => h Y oY ?_)
  have c := CF_om oY
  have e489 : Y 489 = I 489 := oY.1 489 (by omega) (by omega)
  have f518 := c.1 518 (by omega)
  have n6 := hm.1.1.2.2.1
  refine ⟨⟨CTY_fr hm.1 c, MoW_fr hm.2.1 f518 (c.1 521 (by omega)) (c.1 522 (by omega)) n6.2 (fun s s0 s1 => by rw [wy_len]; exact (hm.2.2 s s0 s1).2.1) oY.2.1 oY.2.2, fun s s0 s1 => OkW_fr f518 (c.1 521 (by omega)) (c.1 522 (by omega)) (hm.2.2 s s0 (by rw [f518] at s1; exact s1))⟩, fun s s1 => ?_, by rw [e489]; exact hon, by rw [e489]; exact hsh, fun t s x y t1 s1 x1 y1 => Or.inl ?_⟩
  · rw [f518] at s1
    have := mY s s1
    unfold MOs at this ⊢
    simp only [rts_fr c (by rw [e489]), opc_fr c (by rw [e489]), wy_cf c]
    exact this
  · rw [f518] at t1 s1
    have rl1 := rts_len (I := Y) (t : Int)
    have rl2 := rts_len (I := Y) (s : Int)
    have w1 := wN_rng (s := t) (x := x) (by omega) (by omega)
    have w2 := wN_rng (s := s) (x := y) (by omega) (by omega)
    exact wY _ (by omega)
theorem c11_everybody {n : Nat} (en : (n : Int) = I 518 6) (n4 : n ≤ 4) (h : KI (oSl 1 (n : Int) - 1) I) : CI mX11_everybody (d + 2) [vR 489] I KI := by
  have := (all_b n (by omega)).1
  refine bk_X11_everybody_0 (c11_saintMany ?_)
  rw [← en]
  exact ⟨by omega, PI_i h⟩
theorem c10_allSaints {n : Nat} (hc : CN I) (en : (n : Int) = I 518 6) (n4 : n ≤ 4) (h : KI (oSl 1 (n : Int) - 1) I) : CI mX10_allSaints (d + 1) [vR 0] I KI := by
  have := (all_b n (by omega)).1
  refine bk_X10_allSaints_0 ?_
  rw [hc.1.2.2.1, ← en]
  exact ⟨by omega, PI_i h⟩
theorem op_routes {a : Int} (hp : PLN I cs) (mw : MWs I cs) (h : ∀ x X Y, QFr I X → RDP X cs → VrC I X → HFr X Y → K2 x x Y) (h0 : ∀ x, K2 x x I) : CI mX10_routes (d + 16) [vR 0, vI a] I (fun x1 I1 => CI mX11_routes (d + 16) [vR 489, vI a] I1 (K2 x1)) := by
  have hc := mw.1.1
  have n6 := hc.2.2.1
  refine bk_X10_routes_0 (c10_isSaint (fun a0 a1 => ⟨fun q => by omega, fun _ => ?_⟩) (fun q => ⟨fun _ => PI_i ?_, fun q2 => absurd rfl q2⟩))
  · rw [hc.1.2.2.1] at a1
    obtain ⟨s, rfl⟩ : ∃ s : Nat, a = s := ⟨a.toNat, by omega⟩
    refine bk_X5_routesOf_0 (c5_prep2 hp (fun X pX rX vX => ⟨by omega, PI_i (PI_i ?_)⟩))
    have f518 : X 518 = I 518 := (CF_p pX).1 518 (by omega)
    rw [Int.toNat_natCast, (rX.1.2.1 s (by rw [f518]; exact a1)).1.1]
    refine bk_X11_routes_0 (c11_isSaint (by rw [f518]; exact n6) (fun _ _ => ⟨fun _ => ?_, fun q => by omega⟩) (fun q => by rw [f518] at q; omega))
    refine c11_routesOf rX.1.1.1 rX.2.2.2.1 (by rw [f518]; exact a1) (fun Y fY mY => ⟨by omega, PI_i ?_⟩)
    rw [Int.toNat_natCast, mY.1]
    unfold rtM
    rw [List.length_map]
    exact h _ X Y (QFr_p pX) rX vX (HFr_r fY)
  · rw [hc.1.2.2.1] at q
    refine bk_X11_routes_0 (c11_isSaint n6 (fun _ _ => by omega) (fun _ => ⟨fun q2 => absurd rfl q2, fun _ => PI_i (h0 _)⟩))
theorem AL_corner {X : HI} {t : Nat} {late : Int} : ∀ (L : List Lg) (i : Int) (j : Nat) (y : Lg), AL X t late i L → 0 ≤ i → L[j]? = some y → X (t + 1) (i + j).toNat = y.1
  | [], i, j, y, h, i0, hy => by simp at hy
  | x :: L, i, j, y, h, i0, hy => by
    obtain ⟨h1, h2, h3, h4, h5, h6⟩ := h
    cases j with
    | zero =>
      simp only [List.getElem?_cons_zero, Option.some.injEq] at hy
      rw [← hy]
      simpa using h2
    | succ j =>
      rw [List.getElem?_cons_succ] at hy
      have := AL_corner L (i + 1) j y h6 (by omega) hy
      rw [← this]
      congr 2
      omega
theorem legs_all {s : Int} : ∀ (q : List Int) (c t : Int), okC I c q → (∀ x ∈ q, x ≤ 100) → 0 ≤ I 518 7 → (legs t (runW I s c t q)).length = q.length ∧ ∀ (j : Nat) (x : Int), q[j]? = some x → ∃ y, (legs t (runW I s c t q))[j]? = some y ∧ y.1 = x
  | [], c, t, ho, hx, n7 => ⟨rfl, fun j x hj => by simp at hj⟩
  | z :: q, c, t, ho, hx, n7 => by
    have z100 := hx z List.mem_cons_self
    unfold okC at ho
    rw [if_neg (by omega)] at ho
    have lr := laneM_rng n7 ho.1.2.2
    have ih := legs_all (s := s) q z (t + miM I s (laneM I c z)) ho.2 (fun x hx' => hx x (List.mem_cons_of_mem _ hx')) n7
    have e : legs t (runW I s c t (z :: q)) = (z, laneM I c z, t, t + miM I s (laneM I c z)) :: legs (t + miM I s (laneM I c z)) (runW I s z (t + miM I s (laneM I c z)) q) := by
      have e1 : runW I s c t (z :: q) = (z, laneM I c z, t + miM I s (laneM I c z)) :: runW I s z (t + miM I s (laneM I c z)) q := by
        conv => lhs; unfold runW
        rw [if_neg (by omega)]
      rw [e1]
      show (if laneM I c z = -1 then _ else _) = _
      rw [if_neg ho.1.2.2]
    rw [e]
    refine ⟨by rw [List.length_cons, List.length_cons, ih.1], fun j x hj => ?_⟩
    cases j with
    | zero =>
      simp only [List.getElem?_cons_zero, Option.some.injEq] at hj
      exact ⟨_, rfl, hj⟩
    | succ j =>
      rw [List.getElem?_cons_succ] at hj
      obtain ⟨y, hy, e2⟩ := ih.2 j x hj
      exact ⟨y, by rw [List.getElem?_cons_succ]; exact hy, e2⟩
theorem op_route {a b c : Int} (hp : PLN I cs) (mw : MWs I cs) (h : ∀ x X Y, QFr I X → RDP X cs → VrC I X → HFr X Y → K2 x x Y) (h0 : ∀ x X Y, X = I → HFr X Y → K2 x x Y) : CI mX10_route (d + 16) [vR 0, vI a, vI b, vI c] I (fun x1 I1 => CI mX11_route (d + 16) [vR 489, vI a, vI b, vI c] I1 (K2 x1)) := by
  have hc := mw.1.1
  have n6 := hc.2.2.1
  obtain ⟨hw, e33, hsh, hO, hR, hP, hv⟩ := id hp
  -- the model, at any state
  have mod : ∀ (X : HI) (s : Nat) (r : Int), a = s → (s : Int) < X 518 6 → CTY X → (0 ≤ X 489 63 ∧ X 489 63 < 65536) → ((0 ≤ b ∧ b < (rts X s).length ∧ 0 ≤ c ∧ c < pop 16 (parM X).toNat) → r = (hm_ X s :: (rts X s).getD b.toNat []).getD c.toNat 0) → (¬ (0 ≤ b ∧ b < (rts X s).length ∧ 0 ≤ c ∧ c < pop 16 (parM X).toNat) → r = -1) → (∀ Y, HFr X Y → K2 r r Y) → CI mX11_route (d + 16) [vR 489, vI a, vI b, vI c] X (K2 r) := by
    intro X s r ea s1 hT hsh' hr1 hr0 hk
    subst ea
    have n6' := hT.1.2.2.1
    have rl := rts_len (I := X) (s : Int)
    have rlm : (rtM X (s : Int)).length = (rts X (s : Int)).length := by unfold rtM; rw [List.length_map]
    refine bk_X11_route_0 (c11_isSaint n6' (fun _ _ => ⟨fun _ => ?_, fun q => by omega⟩) (fun q => by omega))
    refine c11_routesOf hT hsh' s1 (fun Y fY mY => ?_)
    have hTY := CTY_fr hT (CF_r fY)
    have pme : parM Y = parM X := by
      unfold parM
      rw [(CF_r fY).1 518 (by omega), (CF_r fY).1 520 (by omega)]
    have rp := parM_rng hT.1 hT.2.2.2.2.2.2.1
    have p9 := parM_pop hT.1 hT.2.2.2.2.2.2.1
    rw [Int.toNat_natCast, mY.1, rlm]
    have hkY := hk Y (HFr_r fY)
    refine ⟨by omega, by omega, c11_isIn (fun g1 g2 => ⟨fun q => by omega, fun _ => ?_⟩) (fun g => ⟨fun _ => PI_i ?_, fun q => absurd rfl q⟩)⟩
    · refine c11_parishes hTY.1 ?_
      rw [pme]
      refine c11_bits rp.1 (by omega) ⟨by omega, c11_isIn (fun g3 g4 => ⟨fun q => by omega, fun _ => ⟨by omega, by omega, by omega, by omega, by omega, PI_i ?_⟩⟩) (fun g => ⟨fun _ => PI_i ?_, fun q => absurd rfl q⟩)⟩
      · have hb : b.toNat < (rts X (s : Int)).length := by omega
        have tm := rts_mem hT (s := (s : Int)) (by omega) s1 (rts_get hb)
        have el : (hm_ X s :: (rts X (s : Int)).getD b.toNat []).length = pop 16 (parM X).toNat := by
          rw [List.length_cons]
          exact tm.2.2.2
        have := mY.2 b.toNat (hm_ X s :: (rts X (s : Int)).getD b.toNat []) (by
          unfold rtM hm_
          rw [List.getElem?_map, List.getD_eq_getElem?_getD, List.getElem?_eq_getElem hb]
          rfl) c.toNat ((hm_ X s :: (rts X (s : Int)).getD b.toNat []).getD c.toNat 0) (gD (by rw [el]; omega))
        rw [show (200 * (s : Int) + 10 * b + c).toNat = 200 * s + 10 * b.toNat + c.toNat from by omega, this, ← hr1 ⟨g1, by omega, g3, by omega⟩]
        exact hkY
      · rw [hr0 (fun w => by omega)] at hkY ⊢
        exact hkY
    · rw [hr0 (fun w => by omega)] at hkY ⊢
      exact hkY
  have modN : (a < 0 ∨ I 518 6 ≤ a) → CI mX11_route (d + 16) [vR 489, vI a, vI b, vI c] I (K2 (-1)) := fun q => bk_X11_route_0 (c11_isSaint n6 (fun _ _ => by omega) (fun _ => ⟨fun q2 => absurd rfl q2, fun _ => PI_i (h0 _ I I rfl (HFr_rfl I))⟩))
  refine bk_X10_route_0 (c10_isSaint (fun a0 a1 => ⟨fun q => by omega, fun _ => ?_⟩) (fun q => ⟨fun _ => PI_i (modN (by rw [hc.1.2.2.1] at q; exact q)), fun q2 => absurd rfl q2⟩))
  rw [hc.1.2.2.1] at a1
  obtain ⟨s, rfl⟩ : ∃ s : Nat, a = s := ⟨a.toNat, by omega⟩
  refine ⟨fun q => PI_i (mod I s (-1) rfl a1 mw.1 hsh (fun w => by omega) (fun _ => rfl) (fun Y hY => h0 _ I Y rfl hY)), fun q => ?_⟩
  refine bk_X5_routesOf_0 (c5_prep2 hp (fun X pX rX vX => ⟨by omega, PI_i ?_⟩))
  have f518 : X 518 = I 518 := (CF_p pX).1 518 (by omega)
  have hTX := rX.1.1.1
  have s1X : (s : Int) < X 518 6 := by rw [f518]; exact a1
  have rl := rts_len (I := X) (s : Int)
  have crt := (rX.1.2.1 s s1X).1
  have hk : ∀ r Y, HFr X Y → K2 r r Y := fun r Y hY => h r X Y (QFr_p pX) rX vX hY
  have md := fun r => mod X s r rfl s1X hTX rX.2.2.2.1
  rw [Int.toNat_natCast, crt.1]
  refine ⟨fun q2 => ?_, fun q2 => PI_i (md (-1) (fun w => by omega) (fun _ => rfl) (hk (-1)))⟩
  have hb : b.toNat < (rts X (s : Int)).length := by omega
  have tm := rts_mem hTX (s := (s : Int)) (by omega) s1X (rts_get hb)
  have tw := crt.2 b.toNat ((rts X (s : Int)).getD b.toNat []) (by
    rw [List.getD_eq_getElem?_getD, List.getElem?_eq_getElem hb]
    rfl)
  have n5 := hTX.1.2.1
  have n7 := hTX.1.2.2.2.1
  obtain ⟨⟨t1, t2, t3, t4, t5⟩, _⟩ := tw
  have la := legs_all (I := X) (s := (s : Int)) ((rts X (s : Int)).getD b.toNat []) (hm X s) 0 tm.1 (fun x hx => by have := tm.2.2.1 x hx; omega) n7.1
  have al := AL_len _ _ t3
  unfold wy at al t3
  rw [la.1] at al
  rw [show ((s : Int) * 20 + b).toNat = 20 * s + b.toNat from by omega]
  refine ⟨by omega, by omega, by omega, fun q3 => PI_i (md (-1) (fun w => by omega) (fun _ => rfl) (hk (-1))), fun q3 => ⟨fun q4 => ⟨by omega, PI_i (md _ (fun w => ?_) (fun w => absurd ⟨by omega, by omega, by omega, by omega⟩ w) (hk _))⟩, fun q4 => PI_i (md (-1) (fun w => by omega) (fun _ => rfl) (hk (-1)))⟩⟩
  by_cases c0 : c = 0
  · subst c0
    show X (77 + 5 * (20 * s + b.toNat) + 1) 0 = _
    rw [t2]
    rfl
  · obtain ⟨j, hj⟩ : ∃ j : Nat, c = (j : Int) + 1 := ⟨(c - 1).toNat, by omega⟩
    have jl : j < ((rts X (s : Int)).getD b.toNat []).length := by omega
    obtain ⟨y, hy, ey⟩ := la.2 j (((rts X (s : Int)).getD b.toNat []).getD j 0) (gD jl)
    have := AL_corner _ 1 j y t3 (by omega) hy
    rw [show c.toNat = (1 + (j : Int)).toNat from by omega, this, ey, show (1 + (j : Int)).toNat = j + 1 from by omega]
    rfl
end TG
