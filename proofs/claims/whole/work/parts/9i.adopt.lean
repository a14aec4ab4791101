/-- what taking a choice changes in the class -/
def AdF (s : Nat) (I Y : HI) : Prop := (∀ k, k ≠ 32 → k ≠ 33 → (k < 37 + 5 * s ∨ 41 + 5 * s < k) → Y k = I k) ∧ (∀ j, j ≠ 7 → Y 32 j = I 32 j) ∧ (∀ j, j ≠ s → (j < 4 + 24 * s ∨ 4 + 24 * s + 24 ≤ j) → Y 33 j = I 33 j)
section AD
variable {d : Nat} {I : HI} {K : HI → Prop} {KI : Int → HI → Prop} {K2 : Int → Int → HI → Prop} {cs : Int → List Int} {H : List Sn}
theorem adopt_lp {s t : Nat} {pre q : List Int} {la : Int} {X0 : HI} (hT : CTY I) (s1 : (s : Int) < I 518 6) (ht : TR t 10) (t77 : 77 ≤ t) (fX : ∀ k, k ≠ 33 → X0 k = I k) (e4 : I t 4 = q.length + 1) (hq : ∀ (j : Nat) (x : Int), q[j]? = some x → I (t + 1) (j + 1) = x) (lq : q.length ≤ 9) (lp : pre.length ≤ 1) (ok : OkW I s (pre ++ q)) (o33 : ∀ j, j ≠ s → (j < 4 + 24 * s ∨ 4 + 24 * s + 24 ≤ j) → X0 33 j = I 33 j) (h : ∀ Y : HI, AdF s I Y → Y 32 7 = 1 → EC (Y 33) 0 s (pre ++ q) → TW Y (37 + 5 * s) 25 0 (hm I s) (wy I s (pre ++ q)) → K Y) : ∀ (q2 q1 : List Int) (X : HI), q = q1 ++ q2 → (∀ k, k ≠ 33 → X k = I k) → (∀ j, j ≠ s → (j < 4 + 24 * s ∨ 4 + 24 * s + 24 ≤ j) → X 33 j = I 33 j) → (∀ (k : Nat) (x : Int), (pre ++ q1)[k]? = some x → X 33 (4 + 24 * s + k) = x) → J none mX9_adopt (d + 3) 0 0 35 [(0, vR 32), (1, vI (s : Int)), (2, vR t), (3, vI la), (4, vI (4 + (s : Int) * 24)), (5, vI ((pre.length + q1.length : Nat) : Int)), (6, vI ((q1.length : Int) + 1))] [] (mk X) (PV K)
  | [], q1, X, e, gX, oX, hX => by
    rw [List.append_nil] at e
    subst e
    have n6 := hT.1.2.2.1
    have ev : X t 4 = q.length + 1 := by rw [gX t (by omega)]; exact e4
    refine bk_X9_adopt_35 ht ?_
    rw [ev, Int.toNat_natCast]
    refine ⟨fun _ => ⟨by omega, fun I1 e1 => ?_⟩, fun z => by omega⟩
    have f1 : ∀ k, k ≠ 33 → I1 k = I k := fun k hk => by rw [e1, up_k hk, gX k hk]
    have c1 : CF I I1 := ⟨fun k hk => f1 k (by omega), by rw [f1 489 (by decide)]⟩
    have h1 := CTY_fr hT c1
    have ec : EC (I1 33) 0 s (pre ++ q) := by
      refine ⟨by rw [Nat.zero_add, Int.toNat_natCast, e1, up_e, List.length_append], fun k hk => ?_⟩
      rw [show 0 + (4 + (s : Int) * 24 + (k : Int)).toNat = 4 + 24 * s + k from by omega, e1, up_j (by rw [List.length_append] at hk; omega)]
      refine hX k _ ?_
      rw [List.getD_eq_getElem?_getD, List.getElem?_eq_getElem hk]
      rfl
    refine c9_replay (cs := pre ++ q) h1.1 h1.2.1 h1.2.2.1 (by omega) (by rw [c1.1 518 (by omega)]; exact s1) ec (OkW_fr (c1.1 518 (by omega)) (c1.1 521 (by omega)) (c1.1 522 (by omega)) ok) (fun I2 f2 t2 I3 e3 => PV_i ?_)
    rw [Int.toNat_natCast] at f2 t2
    rw [hm_cf c1, wy_cf c1] at t2
    refine h I3 ⟨fun k h1 h2 h3 => by rw [e3, up_k h1, f2 k h3, f1 k h2], fun j hj => by rw [e3, up_j hj, f2 32 (by omega), f1 32 (by decide)], fun j hj hj2 => by rw [e3, up_k (by decide), f2 33 (by omega), e1, up_j hj, oX j hj hj2]⟩ (by rw [e3, up_e]) ?_ (TW_fr t2 (fun k k1 k2 => by rw [e3, up_k (by omega)]))
    rw [e3, up_k (by decide), f2 33 (by omega)]
    exact ec
  | x :: q2, q1, X, e, gX, oX, hX => by
    have n6 := hT.1.2.2.1
    have hl : q.length = q1.length + (q2.length + 1) := by rw [e]; simp
    have hx : q[q1.length]? = some x := by rw [e]; simp
    have ev : X t 4 = q.length + 1 := by rw [gX t (by omega)]; exact e4
    refine bk_X9_adopt_35 ht ?_
    rw [ev, show ((q1.length : Int) + 1).toNat = q1.length + 1 from by omega, gX (t + 1) (by omega), hq _ _ hx, show (4 + (s : Int) * 24 + ((pre.length + q1.length : Nat) : Int)).toNat = 4 + 24 * s + (pre.length + q1.length) from by omega]
    refine ⟨fun z => by omega, fun _ => ⟨by omega, by omega, by omega, by omega, fun I4 e4' => ⟨by omega, ?_⟩⟩⟩
    have := adopt_lp (la := la) hT s1 ht t77 fX e4 hq lq lp ok o33 h q2 (q1 ++ [x]) I4 (by rw [e]; simp) (fun k hk => by rw [e4', up_k hk, gX k hk]) (fun j hj hj2 => by rw [e4', up_j (by omega), oX j hj hj2]) (fun k y hy => ?_)
    · rw [List.length_append, List.length_singleton] at this
      exact this
    · by_cases ek : k < (pre ++ q1).length
      · rw [← List.append_assoc, List.getElem?_append_left ek] at hy
        rw [List.length_append] at ek
        rw [e4', up_j (by omega)]
        exact hX k y hy
      · have := ge_lt hy
        rw [← List.append_assoc, List.length_append, List.length_singleton] at this
        obtain rfl : k = (pre ++ q1).length := by omega
        rw [← List.append_assoc, List.getElem?_concat_length] at hy
        cases hy
        rw [List.length_append, e4', up_e]
theorem c6_adopt {s x : Nat} (hT : CTY I) (s1 : (s : Int) < I 518 6) (hr : RT1 I I s) (x0 : 1 ≤ x) (x1 : x ≤ 3 * (rts I s).length) (h : ∀ Y : HI, AdF s I Y → Y 32 7 = 1 → EC (Y 33) 0 s (opc I s (x - 1)) → TW Y (37 + 5 * s) 25 0 (hm I s) (wy I s (opc I s (x - 1))) → K Y) : CV mX6_adopt (d + 4) [vR 477, vI (s : Int), vI (x : Int)] I K := by
  have n6 := hT.1.2.2.1
  have n5 := hT.1.2.1
  have n7 := hT.1.2.2.2.1
  have rl := rts_len (I := I) (s : Int)
  have hb : (x - 1) / 3 < (rts I (s : Int)).length := by omega
  have tm := rts_mem hT (s := (s : Int)) (by omega) s1 (rts_get hb)
  have tw := hr.1.2 ((x - 1) / 3) ((rts I (s : Int)).getD ((x - 1) / 3) []) (by
    rw [List.getD_eq_getElem?_getD, List.getElem?_eq_getElem hb]
    rfl)
  have ok := (opc_ok hT (s := (s : Int)) (by omega) s1 (o := x - 1) (by omega)).1
  obtain ⟨⟨t1, t2, t3, t4, t5⟩, _⟩ := tw
  have la := legs_all (I := I) (s := (s : Int)) ((rts I (s : Int)).getD ((x - 1) / 3) []) (hm I s) 0 tm.1 (fun y hy => by have := tm.2.2.1 y hy; omega) n7.1
  have al := AL_len _ _ t3
  unfold wy at al t3
  rw [la.1] at al
  have hq : ∀ (j : Nat) (y : Int), ((rts I (s : Int)).getD ((x - 1) / 3) [])[j]? = some y → I (77 + 5 * (20 * s + (x - 1) / 3) + 1) (j + 1) = y := fun j y hy => by
    obtain ⟨z, hz, ez⟩ := la.2 j y hy
    have := AL_corner _ 1 j z t3 (by omega) hz
    rw [show (1 + (j : Int)).toNat = j + 1 from by omega] at this
    rw [this, ez]
  have ct : chT s x = 77 + 5 * (20 * s + (x - 1) / 3) := by
    unfold chT
    rw [if_neg (by omega)]
  have cl : chL x = 5 * (((x - 1) % 3 : Nat) : Int) := by
    unfold chL
    rw [if_neg (by omega)]
  have cn : chN x = 10 := by
    unfold chN
    rw [if_neg (by omega)]
  refine bk_X6_adopt_0 (c5_trackOf (by omega) (by omega) (c5_lateOf (by omega) ?_))
  rw [ct, cl]
  have op : opc I (s : Int) (x - 1) = (if (x - 1) % 3 = 0 then [] else [100 + 5 * (((x - 1) % 3 : Nat) : Int)]) ++ (rts I (s : Int)).getD ((x - 1) / 3) [] := rfl
  refine bk_X9_adopt_0 t1 ⟨by omega, by omega, fun q => ?_, fun q => ⟨by omega, by omega, by omega, fun I1 e1 => ?_⟩⟩
  · rw [if_pos (by omega)] at op
    have := adopt_lp (d := d) (la := 5 * (((x - 1) % 3 : Nat) : Int)) (pre := []) (X0 := I) (K := K) hT s1 t1 (by omega) (fun _ _ => rfl) (by omega) hq tm.2.1 (by simp) (by rw [← op]; exact ok) (fun _ _ _ => rfl) (fun Y aY y7 eY tY => h Y aY y7 (by rw [op]; exact eY) (by rw [op]; exact tY)) ((rts I (s : Int)).getD ((x - 1) / 3) []) [] I rfl (fun _ _ => rfl) (fun _ _ _ => rfl) (fun k y hy => by simp at hy)
    refine J_mono (fun r σ' hh => ?_) this
    obtain ⟨I', r1, r2, r3⟩ := hh
    exact ⟨I', r1, r2, PV_i r3⟩
  · rw [if_neg (by omega)] at op
    rw [show (4 + (s : Int) * 24 + 0).toNat = 4 + 24 * s from by omega] at e1
    have := adopt_lp (d := d) (la := 5 * (((x - 1) % 3 : Nat) : Int)) (pre := [100 + 5 * (((x - 1) % 3 : Nat) : Int)]) (X0 := I1) (K := K) hT s1 t1 (by omega) (fun k hk => by rw [e1, up_k hk]) (by omega) hq tm.2.1 (by simp) (by rw [← op]; exact ok) (fun j _ hj => by rw [e1, up_j (by omega)]) (fun Y aY y7 eY tY => h Y aY y7 (by rw [op]; exact eY) (by rw [op]; exact tY)) ((rts I (s : Int)).getD ((x - 1) / 3) []) [] I1 rfl (fun k hk => by rw [e1, up_k hk]) (fun j _ hj => by rw [e1, up_j (by omega)]) (fun k y hy => by
      have := ge_lt hy
      simp only [List.append_nil, List.length_singleton] at this
      obtain rfl : k = 0 := by omega
      simp only [List.append_nil, List.getElem?_cons_zero, Option.some.injEq] at hy
      rw [← hy, Nat.add_zero, e1, up_e])
    refine J_mono (fun r σ' hh => ?_) this
    obtain ⟨I', r1, r2, r3⟩ := hh
    exact ⟨I', r1, r2, PV_i r3⟩
/-- the model's way comes to be another one -/
theorem comes_lp {s w : Nat} {W : List Sp} (s4 : s < 4) (w4 : 4 ≤ w) (w1 : w < 244) (hW : SL I w 0 W) (lW : W.length ≤ 24) (h : ∀ Y : HI, WF s I Y → SL Y s 0 W → K Y) : ∀ (n k : Nat) (X : HI), k + n = W.length → WF s I X → X 532 s = W.length → (∀ (j : Nat) (x : Sp), j < k → W[j]? = some x → X 533 (24 * s + j) = x.1 ∧ X 534 (24 * s + j) = x.2.1 ∧ X 535 (24 * s + j) = x.2.2) → J none mX11_comesTo (d + 1) 0 0 14 [(0, vR 489), (1, vI (s : Int)), (2, vI (w : Int)), (3, vI (k : Int))] [] (mk X) (PV K)
  | 0, k, X, e, fX, x2, hX => by
    have hl := SL_len _ _ hW
    rw [Int.toNat_natCast] at hl
    refine bk_X11_comesTo_14 ?_
    rw [Int.toNat_natCast, fX.2.1 w (by omega), hl]
    refine ⟨by omega, fun _ => PV_i (h X fX ?_), fun q => by omega⟩
    rw [SL_EW (by omega), Int.toNat_natCast]
    exact ⟨x2, fun j x hj => hX j x (by have := ge_lt hj; omega) hj⟩
  | n + 1, k, X, e, fX, x2, hX => by
    have hl := SL_len _ _ hW
    rw [Int.toNat_natCast] at hl
    obtain ⟨x, hx⟩ : ∃ x, W[k]? = some x := ⟨_, List.getElem?_eq_getElem (by omega)⟩
    have ew := (SL_EW (by omega)).mp hW
    rw [Int.toNat_natCast] at ew
    obtain ⟨g1, g2, g3⟩ := ew.2 k x hx
    obtain ⟨f1, f2, f3⟩ := fX.2.2 (24 * w + k) (by omega)
    refine bk_X11_comesTo_14 ?_
    rw [Int.toNat_natCast, fX.2.1 w (by omega), hl, show (24 * (s : Int) + (k : Int)).toNat = 24 * s + k from by omega, show (24 * (w : Int) + (k : Int)).toNat = 24 * w + k from by omega, f1, g1]
    refine ⟨by omega, fun q => by omega, fun _ => ⟨by omega, by omega, by omega, by omega, by omega, by omega, fun I1 e1 => ?_⟩⟩
    rw [show I1 534 (24 * w + k) = x.2.1 from by rw [e1, up_k (by decide), f2, g2]]
    refine ⟨by omega, by omega, by omega, by omega, by omega, by omega, fun I2 e2 => ?_⟩
    rw [show I2 535 (24 * w + k) = x.2.2 from by rw [e2, up_k (by decide), e1, up_k (by decide), f3, g3]]
    refine ⟨by omega, by omega, by omega, by omega, by omega, by omega, fun I3 e3 => ⟨by omega, ?_⟩⟩
    have y3 : ∀ j, j ≠ 24 * s + k → I3 533 j = X 533 j := fun j hj => by rw [e3, up_k (by decide), e2, up_k (by decide), e1, up_j hj]
    have y4 : ∀ j, j ≠ 24 * s + k → I3 534 j = X 534 j := fun j hj => by rw [e3, up_k (by decide), e2, up_j hj, e1, up_k (by decide)]
    have y5 : ∀ j, j ≠ 24 * s + k → I3 535 j = X 535 j := fun j hj => by rw [e3, up_j hj, e2, up_k (by decide), e1, up_k (by decide)]
    have yk : ∀ c, c ≠ 533 → c ≠ 534 → c ≠ 535 → I3 c = X c := fun c h1 h2 h3 => by rw [e3, up_k h3, e2, up_k h2, e1, up_k h1]
    have := comes_lp s4 w4 w1 hW lW h n (k + 1) I3 (by omega) (WF_tr fX ⟨fun c hc => yk c (by omega) (by omega) (by omega), fun j _ => by rw [yk 532 (by decide) (by decide) (by decide)], fun j hj => ⟨y3 j (by omega), y4 j (by omega), y5 j (by omega)⟩⟩) (by rw [yk 532 (by decide) (by decide) (by decide)]; exact x2) (fun j z hj hz => by
      by_cases ej : j = k
      · subst ej
        rw [hx] at hz
        cases hz
        exact ⟨by rw [e3, up_k (by decide), e2, up_k (by decide), e1, up_e], by rw [e3, up_k (by decide), e2, up_e], by rw [e3, up_e]⟩
      · rw [y3 _ (by omega), y4 _ (by omega), y5 _ (by omega)]
        exact hX j z (by omega) hz)
    exact this
theorem c11_comes2 {s w : Nat} {W : List Sp} (s4 : s < 4) (w4 : 4 ≤ w) (w1 : w < 244) (hW : SL I w 0 W) (lW : W.length ≤ 24) (h : ∀ Y : HI, WF s I Y → SL Y s 0 W → K Y) : CV mX11_comesTo (d + 1) [vR 489, vI (s : Int), vI (w : Int)] I K := by
  have hl := SL_len _ _ hW
  rw [Int.toNat_natCast] at hl
  refine bk_X11_comesTo_0 ⟨by omega, by omega, fun I1 e1 => ?_⟩
  rw [Int.toNat_natCast, Int.toNat_natCast, hl] at e1
  have f1 : WF s I I1 := by
    rw [e1]
    exact ⟨fun k hk => up_k (by omega), fun j hj => up_j hj, fun j hj => ⟨by rw [up_k (by decide)], by rw [up_k (by decide)], by rw [up_k (by decide)]⟩⟩
  exact comes_lp s4 w4 w1 hW lW h W.length 0 I1 (by omega) f1 (by rw [e1, up_e]; omega) (fun j x hj => by omega)
end AD
