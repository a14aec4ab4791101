section TV
variable {d : Nat} {I : HI} {K : HI → Prop} {KI : Int → HI → Prop} {K2 : Int → Int → HI → Prop} {cs : Int → List Int} {H : List Sn}
theorem fin_pln {X Y : HI} (p : PLN X cs) (f : CF X Y) (e63 : Y 489 63 = X 489 63) (e64 : Y 489 64 = X 489 64) (kk : ∀ k, 57 ≤ k → k ≤ 481 → Y k = X k) (e7 : Y 32 7 = X 32 7) (e8 : Y 32 8 = X 32 8) (e9 : Y 32 9 = X 32 9) : RCu Y ∧ ROpt Y cs ∧ RPl Y := by
  obtain ⟨hw, _, _, hO, hR, hP, _⟩ := p
  have f518 := f.1 518 (by omega)
  refine ⟨RCu_fr hR (fun j j1 j2 => kk j (by omega) (by omega)) f518 (f.1 524 (by omega)) (f.1 526 (by omega)) (f.1 527 (by omega)), ⟨fun h8 => RTs_fr f e63 hw.1.1.2.2.1.2 (fun j j1 j2 => kk j (by omega) (by omega)) (hO.1 (by rw [← e8]; exact h8)), ?_, fun h8 h9 => ?_⟩, ⟨?_, fun h1 h2 h8 h9 => ?_⟩⟩
  · have := hO.2.1
    unfold SUB at this ⊢
    rw [kk 75 (by omega) (by omega), kk 76 (by omega) (by omega)]
    exact this
  · rw [e7]
    exact FIT_fr f e63 e64 (kk 75 (by omega) (by omega)) (kk 76 (by omega) (by omega)) (hO.2.2 (by rw [← e8]; exact h8) (by rw [← e9]; exact h9))
  · rw [kk 477 (by omega) (by omega), kk 69 (by omega) (by omega)]
    exact hP.1
  · rw [kk 477 (by omega) (by omega)] at h1 h2
    rw [kk 69 (by omega) (by omega)] at h2
    obtain ⟨g1, g2⟩ := hP.2 h1 h2 (by rw [← e8]; exact h8) (by rw [← e9]; exact h9)
    rw [kk 477 (by omega) (by omega), f518, kk 481 (by omega) (by omega)]
    exact ⟨fun cs => SOL_fr f e63 e64 (g1 cs), MSs_fr g2 (by rw [kk 477 (by omega) (by omega)]) (kk 479 (by omega) (by omega)) f518⟩
theorem PLN_kp (p : PLN I cs) : PLN (kpC I) cs := by
  have f0 : ∀ k, k ≠ 35 → kpC I k = I k := fun k h => kpC_f h
  have e489 := f0 489 (by decide)
  have c0 : CF I (kpC I) := ⟨fun k hk => f0 k (by omega), by rw [e489]⟩
  have e32 := f0 32 (by decide)
  obtain ⟨g1, g2, g3⟩ := fin_pln p c0 (by rw [e489]) (by rw [e489]) (fun k k1 k2 => f0 k (by omega)) (by rw [e32]) (by rw [e32]) (by rw [e32])
  exact ⟨CWs_fr p.1 c0 (by rw [e489]) (f0 33 (by decide)) (fun k k1 k2 => f0 k (by omega)), by rw [f0 33 (by decide), e489]; exact p.2.1, by rw [e489]; exact p.2.2.1, g2, g1, g3, by rw [f0 69 (by decide)]; exact p.2.2.2.2.2.2⟩
theorem turn_lp {n : Nat} (en : (n : Int) = I 518 6) (n4 : n ≤ 4) (lv : I 69 11 ≤ 500000) (k : ∀ (X : HI) (c : Int) (cs' : Int → List Int), UFt I X → PLN X cs' → (I 69 11 ≤ X 69 11 ∧ X 69 11 ≤ I 69 11 + 1) → TCh I cs n cs' c → ((c ≤ 0 → PI KI (some (vI c)) (mk X)) ∧ (¬ (c ≤ 0) → CV mX9_commit (d + 15) [vR 32] X (fun I1 => PI KI (some (vI c)) (mk I1))))) : ∀ (m i : Nat) (c : Int) (cs' : Int → List Int) (X : HI), i + m = n → UFt I X → PLN X cs' → (X = I ∨ ((I 69 11 ≤ X 69 11 ∧ X 69 11 ≤ I 69 11 + 1) ∧ X 32 8 = 0 ∧ X 32 9 = 0)) → TCh I cs i cs' c → J none mX10_turn (d + 16) 0 0 11 [(0, vR 0), (1, vI c), (2, vI (i : Int))] [] (mk X) (PI KI)
  | 0, i, c, cs', X, e, uX, pX, vX, hc => by
    refine bk_X10_turn_11 ?_
    rw [pX.1.1.1.1.2.2.1, (CF_uf uX).1 518 (by omega)]
    rw [show i = n from by omega] at hc
    refine ⟨fun _ => k X c cs' uX pX ?_ hc, fun q => by omega⟩
    rcases vX with w | w
    · rw [w]; omega
    · exact w.1
  | m + 1, i, c, cs', X, e, uX, pX, vX, hc => by
    have cX := CF_uf uX
    have tr := TCh_r i cs' c hc
    have e489 : X 489 = I 489 := uX.1 489 (by omega) (by omega) (by omega) (by omega)
    have vb : I 69 11 ≤ X 69 11 ∧ X 69 11 ≤ I 69 11 + 1 := by
      rcases vX with w | w
      · rw [w]; omega
      · exact w.1
    refine bk_X10_turn_11 ?_
    rw [pX.1.1.1.1.2.2.1, cX.1 518 (by omega)]
    refine ⟨fun q => by omega, fun _ => ?_⟩
    refine c6_takeTurn (s := i) pX (by rw [cX.1 518 (by omega)]; omega) (fun Y c' cs'' uY pY y8 y9 vY ht => ?_)
    have pY' : PLN Y cs'' := by
      rcases pY with w | w
      · exact w
      · omega
    have ht' : T1 I cs' i cs'' c' := (T1_fr cX (by rw [e489]) (by rw [e489]) i).mp ht
    have vIY : I 69 11 ≤ Y 69 11 ∧ Y 69 11 ≤ I 69 11 + 1 := by
      rcases vX with w | w
      · rw [w] at vY
        exact VrC_b vY
      · rcases vY with u | u
        · omega
        · exact absurd ⟨w.2.1, w.2.2⟩ u.2
    have c01 : c' = 1 ∨ c' = 0 := by
      rcases ht with w | w
      · exact Or.inl w.1
      · exact Or.inr w.1
    have nx := turn_lp en n4 lv k m (i + 1) (c + c') cs'' Y (by omega) (UFt_tr uX uY) pY' (Or.inr ⟨vIY, y8, y9⟩) ⟨cs', c, c', hc, ht', rfl⟩
    refine ⟨fun q => ⟨by omega, ?_⟩, fun q => ⟨by omega, by omega, ?_⟩⟩
    · rw [q, Int.add_zero] at nx
      exact nx
    · rw [show c' = 1 from by omega] at nx
      exact nx
/-- from the class's end to the end -/
def GTr (X Y : HI) : Prop := (∀ k, k ≠ 32 → k ≠ 489 → k ≠ 529 → k ≠ 530 → (k < 532 ∨ 555 < k) → Y k = X k) ∧ (∀ j, j ≠ 5 → j ≠ 6 → Y 32 j = X 32 j) ∧ (∀ j, j ≠ 56 → j ≠ 71 → j ≠ 72 → j ≠ 83 → j ≠ 84 → Y 489 j = X 489 j)
theorem CF_gt {X Y : HI} (h : GTr X Y) : CF X Y := ⟨fun k hk => h.1 k (by omega) (by omega) (by omega) (by omega) (by omega), h.2.2 44 (by decide) (by decide) (by decide) (by decide) (by decide)⟩
theorem EF_t {X Y : HI} {cs' : Int → List Int} {H' : List Sn} (uX : UFt (kpC I) X) (pX : PLN X cs') (vX : I 69 11 ≤ X 69 11 ∧ X 69 11 ≤ I 69 11 + 1) (g : GTr X Y) (w3 : VSn I (cs, I 489 63, I 489 64)) (my : MoW Y cs') (ch : ClH Y H') (mh : MoH Y H') (hH : ∀ x ∈ H', VSn I x) : EFin I Y cs' H' := by
  have f0 : ∀ k, k ≠ 35 → kpC I k = I k := fun k h => kpC_f h
  have c0 : CF I (kpC I) := ⟨fun k hk => f0 k (by omega), by rw [f0 489 (by decide)]⟩
  have cX := CF_tr c0 (CF_uf uX)
  have cg := CF_gt g
  have c := CF_tr cX cg
  have n6 := pX.1.1.1.2.2.1
  have e489 : X 489 = I 489 := by rw [uX.1 489 (by omega) (by omega) (by omega) (by omega), f0 489 (by decide)]
  have g63 : Y 489 63 = X 489 63 := g.2.2 63 (by decide) (by decide) (by decide) (by decide) (by decide)
  have g64 : Y 489 64 = X 489 64 := g.2.2 64 (by decide) (by decide) (by decide) (by decide) (by decide)
  have kk : ∀ k, k ≠ 32 → k < 489 → Y k = X k := fun k h1 h2 => g.1 k h1 (by omega) (by omega) (by omega) (by omega)
  obtain ⟨p1, p2, p3⟩ := fin_pln pX cg g63 g64 (fun k k1 k2 => kk k (by omega) (by omega)) (g.2.1 7 (by decide) (by decide)) (g.2.1 8 (by decide) (by decide)) (g.2.1 9 (by decide) (by decide))
  refine ⟨⟨fun k hk => ?_, fun j hj => ?_, fun j h1 h2 h3 h4 h5 => ?_⟩, ⟨ClW_fr pX.1.2.1 (cg.1 518 (by omega)) (cg.1 521 (by omega)) (cg.1 522 (by omega)) (kk 33 (by omega) (by omega)) n6.2 (fun k k1 k2 => kk k (by omega) (by omega)), my, ⟨fun s s0 s1 => ?_, ?_, ?_⟩, ?_, ch, mh, fun x hx => VSn_fr (c.1 518 (by omega)) (c.1 521 (by omega)) (c.1 522 (by omega)) (hH x hx)⟩, p1, p2, p3, by rw [kk 69 (by omega) (by omega)]; exact vX⟩
  · rw [g.1 k (by omega) (by omega) (by omega) (by omega) (by omega), uX.1 k (by omega) (by omega) (by omega) (by omega), f0 k (by omega)]
  · rw [kk 62 (by omega) (by omega), uX.2.1 j hj, f0 62 (by decide)]
  · rw [g.2.2 j h1 h2 h3 h4 h5, e489]
  · rw [cg.1 518 (by omega)] at s1
    exact OkW_fr (cg.1 518 (by omega)) (cg.1 521 (by omega)) (cg.1 522 (by omega)) (pX.1.2.2.1 s s0 s1)
  · show 0 ≤ Y 489 63 ∧ Y 489 63 < 65536
    rw [g63]
    exact pX.2.2.1
  · show 0 ≤ Y 489 64 ∧ Y 489 64 < oSl 1 (Y 518 9)
    rw [g64, cg.1 518 (by omega)]
    exact pX.1.2.2.2.1
  · rw [kk 33 (by omega) (by omega), g63, g64]
    exact ⟨pX.2.1, pX.1.2.2.2.2⟩
theorem op_turn (lv : I 69 11 ≤ 500000) (hp : PLN I cs) (hw : WRel I cs H) (mw : MWs I cs) (h : ∀ x Y cs' H', EFin I Y cs' H' → K2 x x Y) : CI mX10_turn (d + 16) [vR 0] I (fun x1 I1 => CI mX11_turn (d + 16) [vR 489] I1 (K2 x1)) := by
  have hc := mw.1.1
  have n6 := hc.2.2.1
  obtain ⟨n, en⟩ : ∃ n : Nat, (n : Int) = I 518 6 := ⟨(I 518 6).toNat, by omega⟩
  obtain ⟨w1, w2, w3, w4, w5, w6, w7⟩ := id hw
  have r5 : 0 ≤ I 32 5 ∧ I 32 5 < 21 := ⟨w5.2.2.1, w5.2.2.2.1⟩
  have r6 : 0 ≤ I 32 6 ∧ I 32 6 ≤ 20 := by
    have := w5.1
    have := w5.2.1
    omega
  refine bk_X10_turn_0 (c9_keep r5 r6 ?_)
  have f0 : ∀ k, k ≠ 35 → kpC I k = I k := fun k h => kpC_f h
  have c0 : CF I (kpC I) := ⟨fun k hk => f0 k (by omega), by rw [f0 489 (by decide)]⟩
  refine turn_lp (I := kpC I) (cs := cs) (n := n) (by rw [f0 518 (by decide)]; exact en) (by omega) (by rw [f0 69 (by decide)]; exact lv) (fun X c cs' uX pX vX hX => ?_) n 0 0 cs (kpC I) (by omega) (UFt_rfl _) (PLN_kp hp) (Or.inl rfl) ⟨rfl, rfl⟩
  have cX := CF_tr c0 (CF_uf uX)
  have x489 : X 489 = I 489 := by rw [uX.1 489 (by omega) (by omega) (by omega) (by omega), f0 489 (by decide)]
  have vX' : I 69 11 ≤ X 69 11 ∧ X 69 11 ≤ I 69 11 + 1 := by
    rw [f0 69 (by decide)] at vX
    exact vX
  have hXI : TCh I cs n cs' c := (TCh_fr c0 (by rw [f0 489 (by decide)]) (by rw [f0 489 (by decide)]) n cs' c).mp hX
  have xk : ∀ k, 482 ≤ k → X k = I k := fun k hk => by rw [uX.1 k (by omega) (by omega) (by omega) (by omega), f0 k (by omega)]
  -- the model's turn, from any state of the class
  have mod : ∀ X2 : HI, (∀ k, k ≠ 32 → X2 k = X k) → (∀ Y Z : HI, OFm X2 Y → TFm (rmb Y) Z → MoW Y cs → MoW Z cs' → ((c ≤ 0 → PI (K2 c) (some (vI c)) (mk Z)) ∧ (¬ (c ≤ 0) → CV mX11_keepsAside (d + 15) [vR 489] Z (fun I2 => PI (K2 c) (some (vI c)) (mk I2))))) → CI mX11_turn (d + 16) [vR 489] X2 (K2 c) := by
    intro X2 x2 k1
    have c2 : CF I X2 := CF_tr cX ⟨fun k hk => x2 k (by omega), by rw [x2 489 (by decide)]⟩
    have e489 : X2 489 = I 489 := by rw [x2 489 (by decide), x489]
    have mw2 : MWs X2 cs := MWs_fr mw c2 (fun k k1 k2' => by rw [x2 k (by omega), xk k (by omega)])
    refine bk_X11_turn_0 (c11_opts (cs := cs) mw2 (by rw [e489]; exact hp.2.2.1) (by rw [e489]; exact on64 hp.1) (fun Y oY hY => c11_remembers ?_))
    have cY := CF_tr c2 (CF_om oY)
    have b0 : ∀ k, (k < 542 ∨ 545 < k) → rmb Y k = Y k := fun k hk => rmb_f hk
    have cB : CF Y (rmb Y) := ⟨fun k hk => b0 k (by omega), by rw [b0 489 (by omega)]⟩
    have cIB := CF_tr cY cB
    have b489 : rmb Y 489 = I 489 := by rw [b0 489 (by omega), oY.1 489 (by omega) (by omega), e489]
    have y489 : rmb Y 489 = Y 489 := b0 489 (by omega)
    have hB : MD2 (rmb Y) cs := by
      refine ⟨MWs_fr hY.1 cB (fun k k1 k2 => b0 k (by omega)), fun s s1 => ?_, by rw [y489]; exact hY.2.2.1, by rw [y489]; exact hY.2.2.2.1⟩
      rw [cB.1 518 (by omega)] at s1
      exact MOs_fr (hY.2.1 s s1) cB (by rw [y489]) (b0 546 (by omega)) (fun k k1 k2 => b0 k (by omega))
    refine mturn_s (d := d + 8) (I := rmb Y) (cs := cs) (n := n) (by rw [cIB.1 518 (by omega)]; exact en) (by omega) hB (fun Z c' cs'' tZ hZ hcZ => ?_) n 0 0 cs (rmb Y) (by omega) (TFm_rfl _) hB ⟨rfl, rfl⟩
    obtain ⟨e1, e2⟩ := TCh_u n cs'' cs' c' c ((TCh_fr cIB (by rw [b489]) (by rw [b489]) n cs'' c').mp hcZ) hXI
    subst e1 e2
    exact k1 Y Z oY tZ hY.1.2.1 hZ.1.2.1
  -- what the model keeps
  have mfr : ∀ X2 Y Z : HI, (∀ k, k ≠ 32 → X2 k = X k) → OFm X2 Y → TFm (rmb Y) Z → (∀ k, k ≠ 32 → k ≠ 489 → k ≠ 529 → k ≠ 530 → (k < 532 ∨ (535 < k ∧ k < 542) ∨ 549 < k) → Z k = X k) ∧ Z 32 = X2 32 ∧ (∀ j, j ≠ 56 → Z 489 j = I 489 j) ∧ CF I Z ∧ MoH Z H := by
    intro X2 Y Z x2 oY tZ
    have z0 : ∀ k, k ≠ 489 → k ≠ 529 → k ≠ 530 → (k < 532 ∨ (535 < k ∧ k < 542) ∨ 549 < k) → Z k = X2 k := fun k h1 h2 h3 h4 => by rw [tZ.1 k h1 h2 h3 (by omega), rmb_f (by omega), oY.1 k (by omega) (by omega)]
    have z1 : ∀ k, k ≠ 32 → k ≠ 489 → k ≠ 529 → k ≠ 530 → (k < 532 ∨ (535 < k ∧ k < 542) ∨ 549 < k) → Z k = X k := fun k h0 h1 h2 h3 h4 => by rw [z0 k h1 h2 h3 h4, x2 k h0]
    have zj : ∀ j, j ≠ 56 → Z 489 j = I 489 j := fun j hj => by rw [tZ.2 j hj, rmb_f (by omega), oY.1 489 (by omega) (by omega), x2 489 (by decide), x489]
    have cZ : CF I Z := CF_tr cX ⟨fun k hk => z1 k (by omega) (by omega) (by omega) (by omega) (by omega), by rw [zj 44 (by decide), x489]⟩
    refine ⟨z1, z0 32 (by omega) (by omega) (by omega) (by omega), zj, cZ, ?_⟩
    exact MoH_fr w6 (cZ.1 518 (by omega)) (cZ.1 521 (by omega)) (cZ.1 522 (by omega)) (zj 71 (by decide)) (zj 72 (by decide)) (fun k k1 k2 => by rw [z1 k (by omega) (by omega) (by omega) (by omega) (by omega), xk k (by omega)])
  refine ⟨fun q => PI_i ?_, fun q => ?_⟩
  · -- nobody changes
    have tr := TCh_r n cs' c hXI
    have e0 : cs' = cs := tr.2.2 (by omega)
    refine mod X (fun _ _ => rfl) (fun Y Z oY tZ mY mZ => ⟨fun _ => PI_i ?_, fun w => absurd q w⟩)
    obtain ⟨z1, z32, zj, cZ, mhZ⟩ := mfr X Y Z (fun _ _ => rfl) oY tZ
    refine h c Z cs' H (EF_t (cs := cs) uX pX vX' ⟨fun k h1 h2 h3 h4 h5 => z1 k h1 h2 h3 h4 (by omega), fun j _ _ => by rw [z32], fun j h1 _ _ _ _ => by rw [zj j h1, x489]⟩ w3 mZ ?_ mhZ w7)
    refine ClH_fr (kp_f w5 (fun x hx' s s0 s1 => ((w7 x hx').1 s s0 s1).2.1) n6.2) ?_ ?_ ?_ ?_
    · rw [cZ.1 518 (by omega), f0 518 (by decide)]
    · rw [z32, uX.2.2.1 5 (by decide) (by decide) (by decide)]
    · rw [z32, uX.2.2.1 6 (by decide) (by decide) (by decide)]
    · rw [z1 35 (by omega) (by omega) (by omega) (by omega) (by omega), uX.1 35 (by omega) (by omega) (by omega) (by omega)]
  · have x5 : X 32 5 = kpC I 32 5 := uX.2.2.1 5 (by decide) (by decide) (by decide)
    have x6 : X 32 6 = kpC I 32 6 := uX.2.2.1 6 (by decide) (by decide) (by decide)
    have e32 : kpC I 32 = I 32 := f0 32 (by decide)
    refine c9_commit (by rw [x5, e32]; exact r5) (by rw [x6, e32]; exact r6) (PI_i ?_)
    refine mod (cmC X) (fun k hk => cmC_f hk) (fun Y Z oY tZ mY mZ => ⟨fun w => absurd w q, fun _ => ?_⟩)
    obtain ⟨z1, z32, zj, cZ, mhZ⟩ := mfr (cmC X) Y Z (fun k hk => cmC_f hk) oY tZ
    refine c11_keepsAside (by rw [zj 72 (by decide)]; exact ⟨w6.2.2.1, w6.2.2.2.1⟩) (by rw [zj 71 (by decide)]; have := w6.1; omega) (PI_i ?_)
    have cY : CF I Y := CF_tr (CF_tr cX ⟨fun k hk => cmC_f (by omega), by rw [cmC_f (by decide)]⟩) (CF_om oY)
    have okl : ∀ x : Sn, VSn I x → ∀ s : Int, 0 ≤ s → s < Z 518 6 → (wy Z s (x.1 s)).length ≤ 24 := fun x hx s s0 s1 => by
      rw [wy_len]
      rw [cZ.1 518 (by omega)] at s1
      exact (hx.1 s s0 s1).2.1
    have mk1 : MoH (kas Z) (((cs, I 489 63, I 489 64) :: H).take 20) := by
      have := MoH_kas (I := Z) (H := H) (cs := cs) mhZ (by rw [cZ.1 518 (by omega)]; exact n6.2) (fun s s0 s1 => ⟨?_, okl (cs, I 489 63, I 489 64) w3 s s0 s1⟩) (fun x hx s s0 s1 => okl x (w7 x hx) s s0 s1)
      · rw [zj 63 (by decide), zj 64 (by decide)] at this
        exact this
      · have s1' := s1
        rw [cZ.1 518 (by omega)] at s1'
        have g := (SL_EW s0).mp (mY s s0 (by rw [cY.1 518 (by omega)]; exact s1'))
        have ew : wy Z s (cs s) = wy Y s (cs s) := by rw [wy_cf cZ, wy_cf cY]
        rw [ew]
        refine EW_cp g (by rw [wy_len]; exact (w3.1 s s0 s1').2.1) ?_ (fun k hk => ⟨?_, ?_, ?_⟩)
        · rw [tZ.1 542 (by decide) (by decide) (by decide) (by omega)]
          exact rmb_0 (by omega)
        · rw [tZ.1 543 (by decide) (by decide) (by decide) (by omega)]
          exact rmb_1 (by omega)
        · rw [tZ.1 544 (by decide) (by decide) (by decide) (by omega)]
          exact rmb_2 (by omega)
        · rw [tZ.1 545 (by decide) (by decide) (by decide) (by omega)]
          exact rmb_3 (by omega)
    have k0 : ∀ k, k ≠ 489 → (k < 536 ∨ 541 < k) → kas Z k = Z k := fun k h1 h2 => kas_f h1 h2
    have mwK : MoW (kas Z) cs' := MoW_fr mZ (k0 518 (by decide) (by omega)) (k0 521 (by decide) (by omega)) (k0 522 (by decide) (by omega)) (by rw [cZ.1 518 (by omega)]; exact n6.2) (fun s s0 s1 => by
      rw [wy_len]
      have := pX.1.2.2.1 s s0 (by rw [cX.1 518 (by omega)]; rw [cZ.1 518 (by omega)] at s1; exact s1)
      exact this.2.1) (fun j _ => by rw [k0 532 (by decide) (by omega)]) (fun j _ => ⟨by rw [k0 533 (by decide) (by omega)], by rw [k0 534 (by decide) (by omega)], by rw [k0 535 (by decide) (by omega)]⟩)
    refine h c (kas Z) cs' _ (EF_t (cs := cs) uX pX vX' ⟨fun k h1 h2 h3 h4 h5 => by rw [k0 k h2 (by omega), z1 k h1 h2 h3 h4 (by omega)], fun j j5 j6 => by rw [k0 32 (by decide) (by omega), z32, cmC_j j5 j6], fun j h1 h2 h3 _ _ => by rw [kas_j h3 h2, zj j h1, x489]⟩ w3 mwK ?_ mk1 (VSn_take w3 w7))
    refine cl_push hw n6.2 ?_ ?_ ?_ ?_
    · rw [k0 32 (by decide) (by omega), z32, cmC_5, cmC_5, x6, x5]
    · rw [k0 32 (by decide) (by omega), z32, cmC_6, cmC_6, x6]
    · rw [k0 35 (by decide) (by omega), z1 35 (by omega) (by omega) (by omega) (by omega) (by omega), uX.1 35 (by omega) (by omega) (by omega) (by omega), cmC_f (by decide)]
    · rw [k0 518 (by decide) (by omega), cZ.1 518 (by omega)]
end TV
