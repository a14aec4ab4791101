def MRW (I : HI) (cs : Int → List Int) (m : Int) (Y : HI) (s N : Nat) : Prop := (Y 554 (61 * s) = 0 ∧ Y 555 (61 * s) = 0) ∧ ∀ x, 1 ≤ x → x ≤ N → PB I s m (chw I cs s x) (Y 554 (61 * s + x)) ∧ LnB (chw I cs s x) (Y 555 (61 * s + x))
section DW
variable {d : Nat} {I : HI} {K : HI → Prop} {KI : Int → HI → Prop} {m : Int} {cs : Int → List Int}
theorem PB_fr {X : HI} {s : Int} {W : List Sp} {p : Int} (f : CF I X) : PB X s m W p ↔ PB I s m W p := by
  unfold PB petS
  simp only [lies_cf f]
theorem MDW_d {X : HI} (h : MDW I cs) (f : ∀ k, k ≠ 554 → k ≠ 555 → X k = I k) : MDW X cs := by
  have e489 := f 489 (by decide) (by decide)
  have c : CF I X := ⟨fun k hk => f k (by omega) (by omega), by rw [e489]⟩
  exact MDW_w h c (by rw [e489]) (by rw [e489]) (f 546 (by decide) (by decide)) (fun k k1 k2 => f k (by omega) (by omega)) (MKN_fr h.2.2.2.2 c (by rw [e489]) (by rw [e489]) (f 549 (by decide) (by decide)))
theorem dwo_lp {s : Nat} (h : MDW I cs) (s1 : (s : Int) < I 518 6) (s3 : s < 3) (hm0 : 0 ≤ m ∧ m ≤ 999) (k : ∀ Y : HI, AFm s I Y → MRW I cs m Y s (3 * (rts I s).length) → K Y) : ∀ (n o : Nat) (X : HI), o + n = 3 * (rts I s).length → AFm s I X → MRW I cs m X s o → J none mX11_dawns (d + 3) 0 0 22 [(0, vR 489), (1, vI (s : Int)), (2, vI m), (3, vI (o : Int))] [] (mk X) (PV K)
  | 0, o, X, e, aX, mX => by
    have rl := rts_len (I := I) (s : Int)
    have o46 : X 546 s = (rts I s).length := by rw [aX.1 546 (by decide) (by decide)]; exact (h.2.1 s s1).1
    refine bk_X11_dawns_22 (bk_X11_optionMany_0 ?_)
    rw [Int.toNat_natCast, o46]
    refine ⟨by omega, by omega, PI_i ⟨fun _ => PV_i (k X aX ?_), fun q => by omega⟩⟩
    rw [show 3 * (rts I s).length = o from by omega]
    exact mX
  | n + 1, o, X, e, aX, mX => by
    have ih := fun Y => dwo_lp h s1 s3 hm0 k n (o + 1) Y
    have rl := rts_len (I := I) (s : Int)
    have o46 : X 546 s = (rts I s).length := by rw [aX.1 546 (by decide) (by decide)]; exact (h.2.1 s s1).1
    have wv : (4 + 60 * (s : Int) + (o : Int)) = (wN s (o + 1) : Int) := by
      unfold wN
      rw [if_neg (by omega)]
      omega
    obtain ⟨g1, g2, g3, g4⟩ := mway h (s := s) (x := o + 1) s1 (by omega)
    refine bk_X11_dawns_22 (bk_X11_optionMany_0 ?_)
    rw [Int.toNat_natCast, o46]
    refine ⟨by omega, by omega, PI_i ⟨fun q => by omega, fun _ => ⟨by omega, by omega, by omega, bk_X11_wayOf_0 ⟨by omega, by omega, by omega, PI_i ?_⟩⟩⟩⟩
    rw [wv, show (61 * (s : Int) + (o : Int) + 1) = ((61 * s + (o + 1) : Nat) : Int) from by omega]
    refine ⟨by omega, fun I3 e3 => ⟨by omega, fun I4 e4 => ⟨by omega, ?_⟩⟩⟩
    rw [Int.toNat_natCast] at e3 e4
    have f4 : ∀ k, k ≠ 554 → k ≠ 555 → I4 k = I k := fun k h4 h5 => by rw [e4, up_k h5, e3, up_k h4, aX.1 k h4 h5]
    have z4 : I4 554 (61 * s + (o + 1)) = 0 := by rw [e4, up_k (by decide), e3, up_s]
    have z5 : I4 555 (61 * s + (o + 1)) = 0 := by rw [e4, up_s]
    have n4 : ∀ j, j ≠ 61 * s + (o + 1) → I4 554 j = X 554 j ∧ I4 555 j = X 555 j := fun j hj => ⟨by rw [e4, up_k (by decide), e3, up_n (by omega)], by rw [e4, up_n (by omega), e3, up_k (by decide)]⟩
    have c4 : CF I I4 := ⟨fun k hk => f4 k (by omega) (by omega), by rw [f4 489 (by decide) (by decide)]⟩
    have sl : SL I4 (wN s (o + 1) : Int) 0 (chw I cs s (o + 1)) := SL_fr (by omega) g1 (f4 532 (by decide) (by decide)) (f4 533 (by decide) (by decide)) (f4 534 (by decide) (by decide)) (f4 535 (by decide) (by decide))
    have rr : ∀ (W : List Sp) (c t : Int), okW c t W → 0 ≤ t → endS t W ≤ 999 → ∀ y ∈ W, (y.2.1 = -1 ∨ (0 ≤ y.2.1 ∧ y.2.1 < 16)) ∧ 0 ≤ y.2.2 ∧ y.2.2 ≤ 999 := by
      intro W
      induction W with
      | nil => intro c t _ _ _ y hy; cases hy
      | cons z W ihW =>
        intro c t ho t0 te y hy
        have ge := end_ge _ _ _ ho.2.2.2
        have te' : endS z.2.2 W ≤ 999 := te
        have := ho.1
        rcases List.mem_cons.mp hy with rfl | hy
        · exact ⟨ho.2.2.1, by omega, by omega⟩
        · exact ihW _ _ ho.2.2.2 (by omega) te' y hy
    have := dws_lp (d := d) (I := I4) (K := K) (m := m) (s := s) (ix := 61 * s + (o + 1)) (w := wN s (o + 1)) (o := (o : Int)) (CTY_fr h.1.1 c4) (by rw [c4.1 518 (by omega)]; exact s1) (by omega) g3 hm0 (by omega) (U := chw I cs s (o + 1)) (fun Y fY gY pY lY => ?_) (chw I cs s (o + 1)) [] 0 I4 rfl (by have := g2.2.2.2.2; omega) sl (rr _ _ _ g2.1 (by omega) g2.2.2.2.1) (fun _ _ _ => rfl) (fun _ _ => ⟨rfl, rfl⟩) (by rw [z4]; exact PB_0) (by rw [z5]; exact LnB_0)
    · rw [show 24 * (wN s (o + 1) : Int) + ((0 : Nat) : Int) = 24 * (wN s (o + 1) : Int) from by omega] at this
      exact this
    · have nx := ih Y (by omega) ⟨fun k h4 h5 => by rw [fY k h4 h5, f4 k h4 h5], fun j hj => ?_⟩ ⟨⟨?_, ?_⟩, fun x x1 x2 => ?_⟩
      · exact nx
      · obtain ⟨u1, u2⟩ := gY j (by omega)
        obtain ⟨v1, v2⟩ := n4 j (by omega)
        obtain ⟨w1, w2⟩ := aX.2 j hj
        exact ⟨by rw [u1, v1, w1], by rw [u2, v2, w2]⟩
      · rw [(gY (61 * s) (by omega)).1, (n4 (61 * s) (by omega)).1]
        exact mX.1.1
      · rw [(gY (61 * s) (by omega)).2, (n4 (61 * s) (by omega)).2]
        exact mX.1.2
      · by_cases ex : x = o + 1
        · subst ex
          exact ⟨(PB_fr c4).mp pY, lY⟩
        · rw [(gY (61 * s + x) (by omega)).1, (n4 (61 * s + x) (by omega)).1, (gY (61 * s + x) (by omega)).2, (n4 (61 * s + x) (by omega)).2]
          exact mX.2 x x1 (by omega)
theorem c11_dawns {s : Nat} (h : MDW I cs) (s1 : (s : Int) < I 518 6) (s3 : s < 3) (hm0 : 0 ≤ m ∧ m ≤ 999) (k : ∀ Y : HI, AFm s I Y → MRW I cs m Y s (3 * (rts I s).length) → K Y) : CV mX11_dawns (d + 3) [vR 489, vI (s : Int), vI m] I K := by
  refine bk_X11_dawns_0 ⟨by omega, by omega, fun I1 e1 => ⟨by omega, by omega, fun I2 e2 => ?_⟩⟩
  rw [show (61 * (s : Int)).toNat = 61 * s from by omega] at e1 e2
  exact dwo_lp h s1 s3 hm0 k (3 * (rts I s).length) 0 I2 (by omega) ⟨fun k h4 h5 => by rw [e2, up_k h5, e1, up_k h4], fun j hj => ⟨by rw [e2, up_k (by decide), e1, up_n (by omega)], by rw [e2, up_n (by omega), e1, up_k (by decide)]⟩⟩ ⟨⟨by rw [e2, up_k (by decide), e1, up_s], by rw [e2, up_s]⟩, fun x x1 x2 => by omega⟩
theorem c11_choicesOf {s : Nat} (h : MDW I cs) (s3 : s < 3) (k : KI ((Nc I s + 1 : Nat) : Int) I) : CI mX11_choicesOf (d + 2) [vR 489, vI (s : Int)] I KI := by
  have rl := rts_len (I := I) (s : Int)
  refine bk_X11_choicesOf_0 (c11_saintMany ⟨fun q => PI_i ?_, fun q => bk_X11_optionMany_0 ?_⟩)
  · have : Nc I s = 0 := by
      unfold Nc
      rw [if_neg (by omega)]
    rw [this] at k
    exact k
  · have nc : Nc I s = 3 * (rts I s).length := by
      unfold Nc
      rw [if_pos (by omega)]
    rw [Int.toNat_natCast, (h.2.1 s (by omega)).1]
    refine ⟨by omega, by omega, PI_i ⟨by omega, PI_i ?_⟩⟩
    rw [nc] at k
    rw [show (1 : Int) + 3 * ((rts I s).length : Int) = ((3 * (rts I s).length + 1 : Nat) : Int) from by omega]
    exact k
theorem mdz_lp {n : Nat} {lim a3 : Int} (n3 : n ≤ 3) (k : ∀ Y : HI, (∀ c, c ≠ 554 → c ≠ 555 → Y c = I c) → (∀ j, j < 61 * n → Y 554 j = I 554 j ∧ Y 555 j = I 555 j) → (∀ s, n ≤ s → s < 3 → Y 554 (61 * s) = 0 ∧ Y 555 (61 * s) = 0) → J none mX11_dawn (d + 16) 0 0 87 [(0, vR 489), (1, vI lim), (2, vI m), (3, vI a3), (4, vI 3)] [] (mk Y) (PI KI)) : ∀ (q s : Nat) (X : HI), s + q = 3 → n ≤ s → (∀ c, c ≠ 554 → c ≠ 555 → X c = I c) → (∀ j, j < 61 * n → X 554 j = I 554 j ∧ X 555 j = I 555 j) → (∀ s', n ≤ s' → s' < s → X 554 (61 * s') = 0 ∧ X 555 (61 * s') = 0) → J none mX11_dawn (d + 16) 0 0 87 [(0, vR 489), (1, vI lim), (2, vI m), (3, vI a3), (4, vI (s : Int))] [] (mk X) (PI KI)
  | 0, s, X, e, ns, fX, gX, zX => by
    have es : s = 3 := by omega
    subst es
    exact k X fX gX zX
  | q + 1, s, X, e, ns, fX, gX, zX => by
    have ih := fun Y => mdz_lp n3 k q (s + 1) Y
    refine bk_X11_dawn_87 ⟨fun w => by omega, fun _ => ⟨by omega, by omega, fun I3 e3 => ⟨by omega, by omega, fun I4 e4 => ⟨by omega, ?_⟩⟩⟩⟩
    rw [show (61 * (s : Int)).toNat = 61 * s from by omega] at e3 e4
    have nx := ih I4 (by omega) (by omega) (fun c h4 h5 => by rw [e4, up_k h5, e3, up_k h4, fX c h4 h5]) (fun j hj => ⟨by rw [e4, up_k (by decide), e3, up_n (by omega)]; exact (gX j hj).1, by rw [e4, up_n (by omega), e3, up_k (by decide)]; exact (gX j hj).2⟩) (fun s' h1 h2 => ?_)
    · exact nx
    · by_cases es : s' = s
      · subst es
        exact ⟨by rw [e4, up_k (by decide), e3, up_s], by rw [e4, up_s]⟩
      · exact ⟨by rw [e4, up_k (by decide), e3, up_n (by omega)]; exact (zX s' h1 (by omega)).1, by rw [e4, up_n (by omega), e3, up_k (by decide)]; exact (zX s' h1 (by omega)).2⟩
theorem mdw_lp {n : Nat} {lim a3 : Int} (h : MDW I cs) (en : (n : Int) = I 518 6) (n3 : n ≤ 3) (hm0 : 0 ≤ m ∧ m ≤ 999) (k : ∀ Y : HI, (∀ c, c ≠ 554 → c ≠ 555 → Y c = I c) → (∀ s, s < 3 → MRW I cs m Y s (Nc I s)) → J none mX11_dawn (d + 16) 0 0 87 [(0, vR 489), (1, vI lim), (2, vI m), (3, vI a3), (4, vI 3)] [] (mk Y) (PI KI)) : ∀ (q s : Nat) (X : HI), s + q = n → (∀ c, c ≠ 554 → c ≠ 555 → X c = I c) → (∀ s', s' < s → MRW I cs m X s' (3 * (rts I s').length)) → J none mX11_dawn (d + 16) 0 0 59 [(0, vR 489), (1, vI lim), (2, vI m), (3, vI a3), (4, vI (s : Int))] [] (mk X) (PI KI)
  | 0, s, X, e, fX, hX => by
    refine bk_X11_dawn_59 (c11_saintMany ?_)
    rw [fX 518 (by decide) (by decide), ← en]
    refine ⟨fun _ => c11_saintMany ?_, fun q => by omega⟩
    rw [fX 518 (by decide) (by decide), ← en]
    refine mdz_lp (I := X) n3 (fun Y fY gY zY => k Y (fun c h4 h5 => by rw [fY c h4 h5, fX c h4 h5]) (fun s' s3 => ?_)) (3 - n) n X (by omega) (Nat.le_refl _) (fun _ _ _ => rfl) (fun _ _ => ⟨rfl, rfl⟩) (fun s' h1 h2 => by omega)
    by_cases ns : s' < n
    · have nc : Nc I s' = 3 * (rts I s').length := by
        unfold Nc
        rw [if_pos (by omega)]
      have rl := rts_len (I := I) (s' : Int)
      rw [nc]
      obtain ⟨⟨u1, u2⟩, u3⟩ := hX s' (by omega)
      refine ⟨⟨by rw [(gY (61 * s') (by omega)).1]; exact u1, by rw [(gY (61 * s') (by omega)).2]; exact u2⟩, fun x x1 x2 => ?_⟩
      rw [(gY (61 * s' + x) (by omega)).1, (gY (61 * s' + x) (by omega)).2]
      exact u3 x x1 x2
    · have nc : Nc I s' = 0 := by
        unfold Nc
        rw [if_neg (by omega)]
      rw [nc]
      exact ⟨zY s' (by omega) s3, fun x x1 x2 => by omega⟩
  | q + 1, s, X, e, fX, hX => by
    have ih := fun Y => mdw_lp h en n3 hm0 k q (s + 1) Y
    have hXm := MDW_d h fX
    have cX : CF I X := ⟨fun k hk => fX k (by omega) (by omega), by rw [fX 489 (by decide) (by decide)]⟩
    refine bk_X11_dawn_59 (c11_saintMany ?_)
    rw [fX 518 (by decide) (by decide), ← en]
    refine ⟨fun q => by omega, fun _ => c11_dawns (d := d + 12) hXm (by rw [fX 518 (by decide) (by decide)]; omega) (by omega) hm0 (fun Y aY mY => ⟨by omega, ?_⟩)⟩
    have rX : ∀ u : Int, rts X u = rts I u := fun u => rts_fr cX (by rw [fX 489 (by decide) (by decide)]) u
    have nx := ih Y (by omega) (fun c h4 h5 => by rw [aY.1 c h4 h5, fX c h4 h5]) (fun s' hs' => ?_)
    · exact nx
    · by_cases es : s' = s
      · subst es
        rw [rX] at mY
        refine ⟨mY.1, fun x x1 x2 => ?_⟩
        have := mY.2 x x1 x2
        rw [chw_fr cX (by rw [fX 489 (by decide) (by decide)])] at this
        exact ⟨(PB_fr cX).mp this.1, this.2⟩
      · obtain ⟨⟨u1, u2⟩, u3⟩ := hX s' (by omega)
        have rl := rts_len (I := I) (s' : Int)
        refine ⟨⟨by rw [(aY.2 (61 * s') (by omega)).1]; exact u1, by rw [(aY.2 (61 * s') (by omega)).2]; exact u2⟩, fun x x1 x2 => ?_⟩
        rw [(aY.2 (61 * s' + x) (by omega)).1, (aY.2 (61 * s' + x) (by omega)).2]
        exact u3 x x1 x2
end DW
