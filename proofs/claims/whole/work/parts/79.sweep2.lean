/-- a lane on which a treads upon petals of b -/
def FM (I : HI) (cs : Int → List Int) (a b l : Int) : Prop := ∃ m, UPw I b (wy I a (cs a)) (wy I b (cs b)) m l ∧ ¬ Exc I m 1 0 (if a < b then a else b) (if a < b then b else a)
theorem FM_fl {I : HI} {cs : Int → List Int} (l : Int) : FLn I cs l ↔ ∃ a b, 0 ≤ a ∧ a < I 518 6 ∧ 0 ≤ b ∧ b < I 518 6 ∧ a ≠ b ∧ FM I cs a b l := by
  constructor
  · rintro ⟨a, b, h1, h2, h3, m, g | g, ne⟩
    · exact ⟨a, b, h1, by omega, by omega, h3, by omega, m, g, by rw [if_pos h2, if_pos h2]; exact ne⟩
    · exact ⟨b, a, by omega, h3, h1, by omega, by omega, m, g, by rw [if_neg (by omega), if_neg (by omega)]; exact ne⟩
  · rintro ⟨a, b, h1, h2, h3, h4, h5, m, g, ne⟩
    rcases Int.lt_or_le a b with q | q
    · rw [if_pos q, if_pos q] at ne
      exact ⟨a, b, h1, q, h4, m, Or.inl g, ne⟩
    · rw [if_neg (by omega), if_neg (by omega)] at ne
      exact ⟨b, a, h3, by omega, h2, m, Or.inr g, ne⟩
theorem onS_rng {m : Int} : ∀ (W : List Sp) (c t : Int), okW c t W → onS t W m ≠ -1 → t < m ∧ m ≤ endS t W ∧ 0 ≤ onS t W m ∧ onS t W m < 16
  | [], c, t, h, hn => absurd rfl hn
  | x :: W, c, t, h, hn => by
    obtain ⟨h1, h2, h3, h4⟩ := h
    have ge := end_ge W _ _ h4
    have hn' : (if t < m ∧ m ≤ x.2.2 then x.2.1 else onS x.2.2 W m) ≠ -1 := hn
    show t < m ∧ m ≤ endS x.2.2 W ∧ 0 ≤ (if t < m ∧ m ≤ x.2.2 then x.2.1 else onS x.2.2 W m) ∧ (if t < m ∧ m ≤ x.2.2 then x.2.1 else onS x.2.2 W m) < 16
    by_cases q : t < m ∧ m ≤ x.2.2
    · rw [if_pos q] at hn' ⊢
      omega
    · rw [if_neg q] at hn' ⊢
      have ih := onS_rng W _ _ h4 hn'
      omega
section SW2
variable {d : Nat} {I : HI} {K : HI → Prop} {KI : Int → HI → Prop} {K2 : Int → Int → HI → Prop} {cs : Int → List Int} {H : List Sn}
theorem mtr_m {a b : Int} {S : Int → Prop} (hc : CN I) (hs : CSa I) (hl : CLa I) (hC : CCo I) (on0 : 0 ≤ I 489 64) (on1 : I 489 64 < oSl 1 (I 518 9)) (w2 : MoW I cs) (ok : ∀ s : Int, 0 ≤ s → s < I 518 6 → OkW I s (cs s)) (a0 : 0 ≤ a) (a1 : a < I 518 6) (b0 : 0 ≤ b) (b1 : b < I 518 6) (h : ∀ (Y : HI) (y : Int), XFr I Y → GB (fun l => S l ∨ FM I cs a b l) y → J none mX11_trodden (d + 6) 0 0 14 [(0, vR 489), (1, vI y), (2, vI a), (3, vI (b + 1))] [] (mk Y) (PI KI)) : ∀ (n : Nat) (m y : Int) (X : HI), 1 ≤ m → m + n = 1001 → XFr I X → GB (fun l => S l ∨ ∃ u, u < m ∧ UPw I b (wy I a (cs a)) (wy I b (cs b)) u l ∧ ¬ Exc I u 1 0 (if a < b then a else b) (if a < b then b else a)) y → J none mX11_trodden (d + 6) 0 0 42 [(0, vR 489), (1, vI y), (2, vI a), (3, vI b), (4, vI m)] [] (mk X) (PI KI)
  | 0, m, y, X, m0, e, xX, hy => by
    have n6 := hc.2.2.1
    have A := XFr_A xX
    have fx := xX.1
    have sA := SW_of hc hs hl a0 a1 (ok a a0 a1)
    have lA := SL_fr a0 (w2 a a0 a1) (fx 532 (by decide) (by decide) (by decide)) (fx 533 (by decide) (by decide) (by decide)) (fx 534 (by decide) (by decide) (by decide)) (fx 535 (by decide) (by decide) (by decide))
    have eA := sA.2.2.2.1
    refine bk_X11_trodden_42 (c11_endOf a0 (by omega) lA sA.2.2.2.2 ⟨fun q => ⟨by omega, h X y xX (GB_iff hy (fun l l0 l1 => ?_))⟩, fun q => by omega⟩)
    constructor
    · rintro (z | ⟨u, _, g1, g2⟩)
      · exact Or.inl z
      · exact Or.inr ⟨u, g1, g2⟩
    · rintro (z | ⟨u, g1, g2⟩)
      · exact Or.inl z
      · have r := onS_rng _ _ _ sA.1 (by rw [g1.1]; exact g1.2.1)
        exact Or.inr ⟨u, by omega, g1, g2⟩
  | n + 1, m, y, X, m0, e, xX, hy => by
    have n6 := hc.2.2.1
    have n9 := hc.2.2.2.2.2
    have p2 := p2_le n9.1 n9.2
    have A := XFr_A xX
    have f518 := A.1
    have f522 := A.2.2.1
    have fx := xX.1
    have sA := SW_of hc hs hl a0 a1 (ok a a0 a1)
    have sB := SW_of hc hs hl b0 b1 (ok b b0 b1)
    have slf : ∀ (Y : HI), XFr I Y → ∀ s : Int, 0 ≤ s → s < I 518 6 → SL Y s 0 (wy I s (cs s)) := fun Y xY s s0 s1 => SL_fr s0 (w2 s s0 s1) (xY.1 532 (by decide) (by decide) (by decide)) (xY.1 533 (by decide) (by decide) (by decide)) (xY.1 534 (by decide) (by decide) (by decide)) (xY.1 535 (by decide) (by decide) (by decide))
    have hsX := CSa_fr hs (fx 7 (by decide) (by decide) (by decide)) f518 f522
    have ih := mtr_m (S := S) hc hs hl hC on0 on1 w2 ok a0 a1 b0 b1 h n (m + 1)
    have no : ∀ Y : HI, XFr I Y → (∀ l, UPw I b (wy I a (cs a)) (wy I b (cs b)) m l → Exc I m 1 0 (if a < b then a else b) (if a < b then b else a)) → J none mX11_trodden (d + 6) 0 0 42 [(0, vR 489), (1, vI y), (2, vI a), (3, vI b), (4, vI (m + 1))] [] (mk Y) (PI KI) := fun Y xY al => by
      refine ih y Y (by omega) (by omega) xY (GB_iff hy (fun l l0 l1 => ?_))
      constructor
      · rintro (z | ⟨u, u1, g⟩)
        · exact Or.inl z
        · exact Or.inr ⟨u, by omega, g⟩
      · rintro (z | ⟨u, u1, g1, g2⟩)
        · exact Or.inl z
        · by_cases eu : u = m
          · subst eu
            exact absurd (al l g1) g2
          · exact Or.inr ⟨u, by omega, g1, g2⟩
    refine bk_X11_trodden_42 (c11_endOf a0 (by omega) (slf X xX a a0 a1) sA.2.2.2.2 ⟨fun q => ⟨by omega, h X y xX (GB_iff hy (fun l l0 l1 => ?_))⟩, fun q => ?_⟩)
    · constructor
      · rintro (z | ⟨u, _, g1, g2⟩)
        · exact Or.inl z
        · exact Or.inr ⟨u, g1, g2⟩
      · rintro (z | ⟨u, g1, g2⟩)
        · exact Or.inl z
        · have r := onS_rng _ _ _ sA.1 (by rw [g1.1]; exact g1.2.1)
          exact Or.inr ⟨u, by omega, g1, g2⟩
    · refine c11_isUpon hsX a0 (by omega) b0 (by omega) (sof_s (by omega)) (by rw [f518]; exact b1) (slf X xX a a0 a1) (slf X xX b b0 b1) sA.2.2.2.2 sB.1 sB.2.2.2.1 sB.2.2.2.2 (fun l g => ⟨fun q2 => by omega, fun _ => ?_⟩) (fun g => ⟨fun _ => ⟨by omega, no X xX (fun l z => absurd ((UPw_fr f522 A.2.2.2.2.1 _ _ _ _ _).mpr z) (g l))⟩, fun q2 => absurd rfl q2⟩)
      have g' := (UPw_fr f522 A.2.2.2.2.1 _ _ _ _ _).mp g
      have eA := sA.2.2.2.1
      refine c11_isExcepted (CCo_fr hC f518 (fx 9 (by decide) (by decide) (by decide)) (fx 10 (by decide) (by decide) (by decide)) (fx 524 (by decide) (by decide) (by decide)) (fx 526 (by decide) (by decide) (by decide)) (fx 527 (by decide) (by decide) (by decide))) (CN_fr hc (fx 2 (by decide) (by decide) (by decide)) f518) (by rw [xX.2 64 (by decide)]; exact on0) (by rw [xX.2 64 (by decide)]; omega) (by omega) (by omega) (by omega) (by omega) (by omega) (fun Y xY ne => ⟨fun q2 => absurd rfl q2, fun _ => ?_⟩) (fun Y xY ex => ⟨fun _ => ⟨by omega, ?_⟩, fun q2 => by omega⟩)
      · rw [Exc_fr f518 A.2.2.2.2.2.1 A.2.2.2.2.2.2.1 A.2.2.2.2.2.2.2.1 A.2.2.2.2.2.2.2.2] at ne
        have xIY := XFr_tr xX xY
        have r := onS_rng _ _ _ sA.1 (by rw [g'.1]; exact g'.2.1)
        rw [g'.1] at r
        refine c11_onOf a0 (by omega) (slf Y xIY a a0 a1) sA.2.2.2.2 ⟨by omega, ?_⟩
        rw [g'.1]
        refine ih _ Y (by omega) (by omega) xIY (GB_iff (GB_or hy r.2.2.1 r.2.2.2) (fun l' l0 l1 => ?_))
        constructor
        · rintro ((z | ⟨u, u1, z⟩) | z)
          · exact Or.inl z
          · exact Or.inr ⟨u, by omega, z⟩
          · rw [z]
            exact Or.inr ⟨m, by omega, g', ne⟩
        · rintro (z | ⟨u, u1, z1, z2⟩)
          · exact Or.inl (Or.inl z)
          · by_cases eu : u = m
            · subst eu
              exact Or.inr (by rw [← z1.1, g'.1])
            · exact Or.inl (Or.inr ⟨u, by omega, z1, z2⟩)
      · rw [Exc_fr f518 A.2.2.2.2.2.1 A.2.2.2.2.2.2.1 A.2.2.2.2.2.2.2.1 A.2.2.2.2.2.2.2.2] at ex
        exact no Y (XFr_tr xX xY) (fun _ _ => ex)
/-- lanes of what the model has looked at -/
def FBm (I : HI) (cs : Int → List Int) (a b l : Int) : Prop := ∃ a' b', 0 ≤ a' ∧ a' < I 518 6 ∧ 0 ≤ b' ∧ b' < I 518 6 ∧ a' ≠ b' ∧ (a' < a ∨ (a' = a ∧ b' < b)) ∧ FM I cs a' b' l
theorem mtr_b {a : Int} (hc : CN I) (hs : CSa I) (hl : CLa I) (hC : CCo I) (on0 : 0 ≤ I 489 64) (on1 : I 489 64 < oSl 1 (I 518 9)) (w2 : MoW I cs) (ok : ∀ s : Int, 0 ≤ s → s < I 518 6 → OkW I s (cs s)) (a0 : 0 ≤ a) (a1 : a < I 518 6) (h : ∀ (Y : HI) (y : Int), XFr I Y → GB (FBm I cs (a + 1) 0) y → J none mX11_trodden (d + 6) 0 0 4 [(0, vR 489), (1, vI y), (2, vI (a + 1))] [] (mk Y) (PI KI)) : ∀ (k : Nat) (b y : Int) (X : HI), 0 ≤ b → b + k = I 518 6 → XFr I X → GB (FBm I cs a b) y → J none mX11_trodden (d + 6) 0 0 14 [(0, vR 489), (1, vI y), (2, vI a), (3, vI b)] [] (mk X) (PI KI)
  | 0, b, y, X, b0, e, xX, hy => by
    have n6 := hc.2.2.1
    have f518 := (XFr_A xX).1
    refine bk_X11_trodden_14 (c11_saintMany ?_)
    rw [f518]
    refine ⟨fun _ => ⟨by omega, h X y xX (GB_iff hy (fun l l0 l1 => ?_))⟩, fun q => by omega⟩
    constructor
    · rintro ⟨a', b', g1, g2, g3, g4, g5, g6, g⟩
      exact ⟨a', b', g1, g2, g3, g4, g5, by omega, g⟩
    · rintro ⟨a', b', g1, g2, g3, g4, g5, g6, g⟩
      exact ⟨a', b', g1, g2, g3, g4, g5, by omega, g⟩
  | k + 1, b, y, X, b0, e, xX, hy => by
    have n6 := hc.2.2.1
    have f518 := (XFr_A xX).1
    have sA := SW_of hc hs hl a0 a1 (ok a a0 a1)
    have lA := SL_fr a0 (w2 a a0 a1) (xX.1 532 (by decide) (by decide) (by decide)) (xX.1 533 (by decide) (by decide) (by decide)) (xX.1 534 (by decide) (by decide) (by decide)) (xX.1 535 (by decide) (by decide) (by decide))
    have neA := SL_ne lA
    have ih := mtr_b hc hs hl hC on0 on1 w2 ok a0 a1 h k (b + 1)
    have skip : (a = b ∨ wy I a (cs a) = []) → J none mX11_trodden (d + 6) 0 0 14 [(0, vR 489), (1, vI y), (2, vI a), (3, vI (b + 1))] [] (mk X) (PI KI) := fun q => by
      refine ih y X (by omega) (by omega) xX (GB_iff hy (fun l l0 l1 => ?_))
      constructor
      · rintro ⟨a', b', g1, g2, g3, g4, g5, g6, g⟩
        exact ⟨a', b', g1, g2, g3, g4, g5, by omega, g⟩
      · rintro ⟨a', b', g1, g2, g3, g4, g5, g6, g⟩
        by_cases eq : a' = a ∧ b' = b
        · exfalso
          rw [eq.1, eq.2] at g
          rcases q with q | q
          · omega
          · obtain ⟨m, z, _⟩ := g
            exact (UPw_ne z).1 q
        · exact ⟨a', b', g1, g2, g3, g4, g5, by omega, g⟩
    refine bk_X11_trodden_14 (c11_saintMany ?_)
    rw [f518]
    refine ⟨fun q => by omega, fun _ => ⟨fun q => ⟨by omega, skip (Or.inl q)⟩, fun q => ⟨by omega, fun q2 => ?_, fun q2 => ⟨by omega, skip (Or.inr (neA.mp q2))⟩⟩⟩⟩
    refine mtr_m (cs := cs) (S := FBm I cs a b) hc hs hl hC on0 on1 w2 ok a0 a1 b0 (by omega) (fun Y y' xY gY => ?_) 1000 1 y X (by omega) (by omega) xX (GB_iff hy (fun l l0 l1 => ⟨fun z => Or.inl z, fun z => ?_⟩))
    · refine ih y' Y (by omega) (by omega) xY (GB_iff gY (fun l l0 l1 => ?_))
      constructor
      · rintro (⟨a', b', g1, g2, g3, g4, g5, g6, g⟩ | z)
        · exact ⟨a', b', g1, g2, g3, g4, g5, by omega, g⟩
        · exact ⟨a, b, a0, a1, b0, by omega, q, by omega, z⟩
      · rintro ⟨a', b', g1, g2, g3, g4, g5, g6, g⟩
        by_cases eq : a' = a ∧ b' = b
        · rw [eq.1, eq.2] at g
          exact Or.inr g
        · exact Or.inl ⟨a', b', g1, g2, g3, g4, g5, by omega, g⟩
    · rcases z with z | ⟨u, u1, z1, z2⟩
      · exact z
      · have r := onS_rng _ _ _ sA.1 (by rw [z1.1]; exact z1.2.1)
        omega
theorem mtr_a (hc : CN I) (hs : CSa I) (hl : CLa I) (hC : CCo I) (on0 : 0 ≤ I 489 64) (on1 : I 489 64 < oSl 1 (I 518 9)) (w2 : MoW I cs) (ok : ∀ s : Int, 0 ≤ s → s < I 518 6 → OkW I s (cs s)) (h : ∀ (Y : HI) (y : Int), XFr I Y → GB (FLn I cs) y → KI y Y) : ∀ (k : Nat) (a y : Int) (X : HI), 0 ≤ a → a + k = I 518 6 → XFr I X → GB (FBm I cs a 0) y → J none mX11_trodden (d + 6) 0 0 4 [(0, vR 489), (1, vI y), (2, vI a)] [] (mk X) (PI KI)
  | 0, a, y, X, a0, e, xX, hy => by
    have f518 := (XFr_A xX).1
    refine bk_X11_trodden_4 (c11_saintMany ?_)
    rw [f518]
    refine ⟨fun _ => PI_i (h X y xX (GB_iff hy (fun l l0 l1 => ?_))), fun z => by omega⟩
    rw [FM_fl]
    constructor
    · rintro ⟨a', b', g1, g2, g3, g4, g5, g6, g⟩
      exact ⟨a', b', g1, g2, g3, g4, g5, g⟩
    · rintro ⟨a', b', g1, g2, g3, g4, g5, g⟩
      exact ⟨a', b', g1, g2, g3, g4, g5, by omega, g⟩
  | k + 1, a, y, X, a0, e, xX, hy => by
    have n6 := hc.2.2.1
    have f518 := (XFr_A xX).1
    refine bk_X11_trodden_4 (c11_saintMany ?_)
    rw [f518]
    refine ⟨fun z => by omega, fun _ => ?_⟩
    refine mtr_b (cs := cs) hc hs hl hC on0 on1 w2 ok a0 (by omega) (fun Y y' xY gY => ?_) (I 518 6).toNat 0 y X (by omega) (by omega) xX hy
    exact mtr_a hc hs hl hC on0 on1 w2 ok h k (a + 1) y' Y (by omega) (by omega) xY gY
theorem sweep_lp {y k : Int} : ∀ (n : Nat) (i c : Int), 0 ≤ i → i + n = 16 → 0 ≤ c → c ≤ i → KI (kb y k n i c) I → J none mX10_sweep (d + 1) 0 0 23 [(0, vR 0), (1, vI k), (2, vI y), (3, vI c), (4, vI i)] [] (mk I) (PI KI)
  | 0, i, c, i0, e, c0, c1, h => bk_X10_sweep_23 ⟨fun _ => PI_i h, fun q => by omega⟩
  | n + 1, i, c, i0, e, c0, c1, h => by
    unfold kb at h
    refine bk_X10_sweep_23 ⟨fun q => by omega, fun _ => ⟨fun q => ⟨by omega, ?_⟩, fun q => ⟨by omega, fun q2 => ⟨by omega, ?_⟩, fun q2 => PI_i ?_⟩⟩⟩
    · rw [if_pos q] at h
      exact sweep_lp n (i + 1) c (by omega) (by omega) c0 (by omega) h
    · rw [if_neg q, if_neg q2] at h
      exact sweep_lp n (i + 1) (c + 1) (by omega) (by omega) (by omega) (by omega) h
    · rw [if_neg q, if_pos q2] at h
      exact h
theorem bitAt_lp {y k : Int} : ∀ (n : Nat) (i c : Int), 0 ≤ i → i + n = 16 → 0 ≤ c → c ≤ i → KI (kb y k n i c) I → J none mX11_bitAt (d + 1) 0 0 4 [(0, vI y), (1, vI k), (2, vI c), (3, vI i)] [] (mk I) (PI KI)
  | 0, i, c, i0, e, c0, c1, h => bk_X11_bitAt_4 ⟨fun _ => PI_i h, fun q => by omega⟩
  | n + 1, i, c, i0, e, c0, c1, h => by
    unfold kb at h
    refine bk_X11_bitAt_4 ⟨fun q => by omega, fun _ => ⟨fun q => ⟨fun q2 => ⟨by omega, by omega, ?_⟩, fun q2 => PI_i ?_⟩, fun q => ⟨by omega, ?_⟩⟩⟩
    · rw [if_neg q, if_neg q2] at h
      exact bitAt_lp n (i + 1) (c + 1) (by omega) (by omega) (by omega) (by omega) h
    · rw [if_neg q, if_pos q2] at h
      exact h
    · rw [if_pos q] at h
      exact bitAt_lp n (i + 1) c (by omega) (by omega) c0 (by omega) h
theorem op_sweep {a : Int} (hc : CN I) (hs : CSa I) (hl : CLa I) (hcs : CSo I) (hr : CRa I) (hC : CCo I) (hR : RCu I) (hw : WRel I cs H) (h : ∀ x X Y, LFr I X → RCu X → XFr X Y → K2 x x Y) : CI mX10_sweep (d + 8) [vR 0, vI a] I (fun x1 I1 => CI mX11_sweep (d + 8) [vR 489, vI a] I1 (K2 x1)) := by
  have n6 := hc.2.2.1
  obtain ⟨w1, w2, w3, w4, w5, w6, w7⟩ := hw
  have on : 0 ≤ I 489 64 ∧ I 489 64 < oSl 1 (I 518 9) := w3.2.2
  refine bk_X10_sweep_0 (bk_X4_foul_0 (foul_t (cs := cs) hc hs hl hcs hr hC on.1 on.2 w4.2 w1 w3.1 (fun X y lX rX gy => ?_) (I 518 6).toNat 0 0 I (by omega) (by omega) (LFr_rfl I) hR (GB_0 (fun l => by rintro ⟨a', b', g1, g2, g3, g4, g⟩; omega))))
  have A := LFr_A lX
  have f518 := A.1
  have f521 := A.2.1
  have f522 := A.2.2.1
  have mod : ∀ (KI : Int → HI → Prop), (∀ Y, XFr X Y → KI y Y) → CI mX11_trodden (d + 7) [vR 489] X KI := fun KI k => by
    refine bk_X11_trodden_0 (mtr_a (cs := cs) (CN_fr hc (lX.1 2 (by decide)) f518) (CSa_fr hs (lX.1 7 (by decide)) f518 f522) (CLa_fr hl (lX.1 6 (by decide)) (lX.1 12 (by decide)) f518 f521) (CCo_fr hC f518 (lX.1 9 (by decide)) (lX.1 10 (by decide)) (lX.1 524 (by decide)) (lX.1 526 (by decide)) (lX.1 527 (by decide))) (by rw [lX.1 489 (by decide)]; exact on.1) (by rw [lX.1 489 (by decide), f518]; exact on.2) (fun s s0 s1 => ?_) (fun s s0 s1 => OkW_fr f518 f521 f522 (w3.1 s s0 (by rw [f518] at s1; exact s1))) (fun Y y' xY gY => ?_) (X 518 6).toNat 0 0 X (by omega) (by rw [f518]; omega) (XFr_rfl X) (GB_0 (fun l => by rintro ⟨a', b', g1, g2, g3, g4, g5, g6, g⟩; omega)))
    · rw [f518] at s1
      rw [wy_fr f518 f521 f522]
      exact SL_fr s0 (w2 s s0 s1) (lX.1 532 (by decide)) (lX.1 533 (by decide)) (lX.1 534 (by decide)) (lX.1 535 (by decide))
    · have e : y' = y := GB_u (GB_iff gY (fun l l0 l1 => by
        unfold FLn
        simp only [FP_fr A, f518])) gy
      rw [e]
      exact k Y xY
  refine ⟨fun q => ?_, fun q => ?_⟩
  · refine sweep_lp 16 0 0 (by omega) (by omega) (by omega) (by omega) ?_
    refine bk_X11_sweep_0 (mod _ (fun Y xY => ⟨fun _ => bk_X11_bitAt_0 (bitAt_lp 16 0 0 (by omega) (by omega) (by omega) (by omega) (PI_i (h _ X Y lX rX xY))), fun q2 => absurd q2 q⟩))
  · refine c_bitCount gy.1 gy.2.1 (PI_i ?_)
    refine bk_X11_sweep_0 (mod _ (fun Y xY => ⟨fun q2 => absurd q q2, fun _ => c11_bits gy.1 gy.2.1 (PI_i (h _ X Y lX rX xY))⟩))
end SW2
