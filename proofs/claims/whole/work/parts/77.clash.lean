theorem XFr_A {I X : HI} (h : XFr I X) : AFr I X := ⟨h.1 518 (by decide) (by decide) (by decide), h.1 521 (by decide) (by decide) (by decide), h.1 522 (by decide) (by decide) (by decide), h.1 531 (by decide) (by decide) (by decide), h.2 44 (by decide), h.2 64 (by decide), h.1 524 (by decide) (by decide) (by decide), h.1 526 (by decide) (by decide) (by decide), h.1 527 (by decide) (by decide) (by decide)⟩
theorem AFr_tr {I X Y : HI} (h : AFr I X) (g : AFr X Y) : AFr I Y := by
  obtain ⟨h1, h2, h3, h4, h5, h6, h7, h8, h9⟩ := h
  obtain ⟨g1, g2, g3, g4, g5, g6, g7, g8, g9⟩ := g
  exact ⟨g1.trans h1, g2.trans h2, g3.trans h3, g4.trans h4, g5.trans h5, g6.trans h6, g7.trans h7, g8.trans h8, g9.trans h9⟩
/-- the best clash of the pairs looked at so far: those ahead of (a, b) -/
def BST (I : HI) (cs : Int → List Int) (a b v p q : Int) : Prop := ((v = 2000 ∧ p = -1) ∨ (UK I cs p q v ∧ (0 ≤ p ∧ p < q ∧ q < I 518 6) ∧ (p < a ∨ (p = a ∧ q < b)) ∧ ∀ a' b', 0 ≤ a' → a' < b' → b' < I 518 6 → (a' < p ∨ (a' = p ∧ b' < q)) → ¬ UK I cs a' b' v)) ∧ (∀ a' b', 0 ≤ a' → a' < b' → b' < I 518 6 → (a' < a ∨ (a' = a ∧ b' < b)) → ∀ κ, κ < v → ¬ UK I cs a' b' κ)
section CX
variable {d : Nat} {I : HI} {K : HI → Prop} {KI : Int → HI → Prop} {K2 : Int → Int → HI → Prop} {cs : Int → List Int} {H : List Sn}
theorem first_r {wh a : Int} (hc : CN I) (hs : CSa I) (hl : CLa I) (hcs : CSo I) (hr : CRa I) (hC : CCo I) (on0 : 0 ≤ I 489 64) (on1 : I 489 64 < oSl 1 (I 518 9)) (on33 : I 33 101 = I 489 64) (w1 : ClW I cs) (ok : ∀ s : Int, 0 ≤ s → s < I 518 6 → OkW I s (cs s)) (a0 : 0 ≤ a) (a1 : a < I 518 6) (h : ∀ (Y : HI) (v p q : Int), LFr I Y → RCu Y → BST I cs (a + 1) (a + 2) v p q → J none mX4_firstClash (d + 7) 0 0 12 [(0, vR 67), (1, vI wh), (2, vI v), (3, vI p), (4, vI q), (5, vI (a + 1))] [] (mk Y) (PI KI)) : ∀ (k : Nat) (b v p q : Int) (X : HI), a < b → b + k = I 518 6 → LFr I X → RCu X → BST I cs a b v p q → J none mX4_firstClash (d + 7) 0 0 32 [(0, vR 67), (1, vI wh), (2, vI v), (3, vI p), (4, vI q), (5, vI a), (6, vI b)] [] (mk X) (PI KI)
  | 0, b, v, p, q, X, ab, e, lX, rX, hB => by
    have n6 := hc.2.2.1
    have c2 := hc.1.2.2.1
    refine bk_X4_firstClash_32 ?_
    rw [lX.1 2 (by decide), c2]
    refine ⟨fun _ => ⟨by omega, h X v p q lX rX ⟨?_, fun a' b' g1 g2 g3 g4 => hB.2 a' b' g1 g2 g3 (by omega)⟩⟩, fun q => by omega⟩
    rcases hB.1 with z | ⟨z1, z2, z3, z4⟩
    · exact Or.inl z
    · exact Or.inr ⟨z1, z2, by omega, z4⟩
  | k + 1, b, v, p, q, X, ab, e, lX, rX, hB => by
    have n6 := hc.2.2.1
    have c2 := hc.1.2.2.1
    have A := LFr_A lX
    have f518 := A.1
    have f521 := A.2.1
    have f522 := A.2.2.1
    have ih := first_r (wh := wh) hc hs hl hcs hr hC on0 on1 on33 w1 ok a0 a1 h k (b + 1)
    refine bk_X4_firstClash_32 ?_
    rw [lX.1 2 (by decide), c2]
    refine ⟨fun q => by omega, fun _ => ?_⟩
    refine c4_unexcusedOf (cs := cs) (CN_fr hc (lX.1 2 (by decide)) f518) (CSa_fr hs (lX.1 7 (by decide)) f518 f522) (CLa_fr hl (lX.1 6 (by decide)) (lX.1 12 (by decide)) f518 f521) (CSo_fr hcs (lX.1 13 (by decide)) f518 A.2.2.2.1) (CRa_fr hr (lX.1 1 (by decide)) (lX.1 489 (by decide))) (CCo_fr hC f518 (lX.1 9 (by decide)) (lX.1 10 (by decide)) (lX.1 524 (by decide)) (lX.1 526 (by decide)) (lX.1 527 (by decide))) rX (by rw [lX.1 489 (by decide)]; exact on0) (by rw [lX.1 489 (by decide), f518]; exact on1) (by rw [lX.1 33 (by decide), lX.1 489 (by decide)]; exact on33) (ClW_fr w1 f518 f521 f522 (lX.1 33 (by decide)) n6.2 (fun k k1 k2 => lX.1 k (by omega))) (fun s s0 s1 => OkW_fr f518 f521 f522 (ok s s0 (by rw [f518] at s1; exact s1))) a0 ab (by rw [f518]; omega) (fun Y v1 lY rY y1 y2 => ?_)
    simp only [UK_fr A] at y1 y2
    refine ⟨fun z => ⟨by omega, ih v p q Y (by omega) (by omega) (LFr_tr lX lY) rY ⟨?_, fun a' b' g1 g2 g3 g4 κ hκ g => ?_⟩⟩, fun z => ⟨by omega, ih v1 a b Y (by omega) (by omega) (LFr_tr lX lY) rY ⟨Or.inr ⟨?_, by omega, by omega, fun a' b' g1 g2 g3 g4 => ?_⟩, fun a' b' g1 g2 g3 g4 κ hκ g => ?_⟩⟩⟩
    · rcases hB.1 with y | ⟨z1, z2, z3, z4⟩
      · exact Or.inl y
      · exact Or.inr ⟨z1, z2, by omega, z4⟩
    · by_cases eq : a' = a ∧ b' = b
      · rw [eq.1, eq.2] at g
        have := y2 κ g
        omega
      · exact hB.2 a' b' g1 g2 g3 (by omega) κ hκ g
    · rcases y1 with y1 | y1
      · have := hB.1
        rcases this with ⟨y, _⟩ | ⟨y, _⟩
        · omega
        · have := y.2.1
          omega
      · exact y1
    · exact hB.2 a' b' g1 g2 g3 g4 v1 (by omega)
    · by_cases eq : a' = a ∧ b' = b
      · rw [eq.1, eq.2] at g
        have := y2 κ g
        omega
      · exact hB.2 a' b' g1 g2 g3 (by omega) κ (by omega) g
/-- what a clash tells -/
def tell (wh κ a b : Int) : Int := if wh = 0 then κ / 2 else if wh = 1 then κ % 2 else if wh = 2 then a else b
theorem first_t {wh : Int} (hw : 0 ≤ wh ∧ wh ≤ 3) (hc : CN I) (hs : CSa I) (hl : CLa I) (hcs : CSo I) (hr : CRa I) (hC : CCo I) (on0 : 0 ≤ I 489 64) (on1 : I 489 64 < oSl 1 (I 518 9)) (on33 : I 33 101 = I 489 64) (w1 : ClW I cs) (ok : ∀ s : Int, 0 ≤ s → s < I 518 6 → OkW I s (cs s)) (k1 : ∀ (Y : HI) (κ a b : Int), LFr I Y → RCu Y → FND I cs κ a b → KI (tell wh κ a b) Y) (k0 : ∀ (Y : HI), LFr I Y → RCu Y → (∀ κ a b, 0 ≤ a → a < b → b < I 518 6 → ¬ UK I cs a b κ) → KI (-1) Y) : ∀ (k : Nat) (a v p q : Int) (X : HI), 0 ≤ a → a + k = I 518 6 → LFr I X → RCu X → BST I cs a (a + 1) v p q → J none mX4_firstClash (d + 7) 0 0 12 [(0, vR 67), (1, vI wh), (2, vI v), (3, vI p), (4, vI q), (5, vI a)] [] (mk X) (PI KI)
  | 0, a, v, p, q, X, a0, e, lX, rX, hB => by
    have c2 := hc.1.2.2.1
    refine bk_X4_firstClash_12 ?_
    rw [lX.1 2 (by decide), c2]
    refine ⟨fun _ => ⟨fun z => ?_, fun z => PI_i (k0 X lX rX (fun κ a' b' g1 g2 g3 g => ?_))⟩, fun z => by omega⟩
    · rcases hB.1 with y | ⟨z1, z2, z3, z4⟩
      · exact absurd y.2 z
      · have vr := z1.1
        have vr2 := z1.2.1
        have fnd : FND I cs v p q := ⟨z1, z2, fun κ' hκ a' b' g1 g2 g3 => hB.2 a' b' g1 g2 g3 (by omega) κ' hκ, z4⟩
        have g := k1 X v p q lX rX fnd
        unfold tell at g
        rw [oM_mod vr (by omega) (by omega) (by omega), oD_div vr (by omega) (by omega) (by omega)]
        refine ⟨fun w0 => ⟨fun w1 => ⟨fun w2 => PI_i ?_, fun w2 => PI_i ?_⟩, fun w1 => PI_i ?_⟩, fun w0 => PI_i ?_⟩
        · rw [if_neg w0, if_neg w1, if_neg w2] at g
          exact g
        · rw [if_neg w0, if_neg w1, if_pos w2] at g
          exact g
        · rw [if_neg w0, if_pos w1] at g
          exact g
        · rw [if_pos w0] at g
          exact g
    · rcases hB.1 with y | ⟨z1, z2, z3, z4⟩
      · have := g.2.1
        exact hB.2 a' b' g1 g2 g3 (by omega) κ (by omega) g
      · omega
  | k + 1, a, v, p, q, X, a0, e, lX, rX, hB => by
    have c2 := hc.1.2.2.1
    have n6 := hc.2.2.1
    refine bk_X4_firstClash_12 ?_
    rw [lX.1 2 (by decide), c2]
    refine ⟨fun z => by omega, fun _ => ⟨by omega, ?_⟩⟩
    refine first_r (cs := cs) hc hs hl hcs hr hC on0 on1 on33 w1 ok a0 (by omega) (fun Y v' p' q' lY rY bY => ?_) (I 518 6 - (a + 1)).toNat (a + 1) v p q X (by omega) (by omega) lX rX hB
    exact first_t hw hc hs hl hcs hr hC on0 on1 on33 w1 ok k1 k0 k (a + 1) v' p' q' Y (by omega) (by omega) lY rY (by rw [show a + 1 + 1 = a + 2 from by omega]; exact bY)
/-- nothing ahead of (m, so, a, b) in the model's order -/
def NON (I : HI) (cs : Int → List Int) (κ a b : Int) : Prop := (∀ κ', κ' < κ → ∀ a' b', 0 ≤ a' → a' < b' → b' < I 518 6 → ¬ UK I cs a' b' κ') ∧ (∀ a' b', 0 ≤ a' → a' < b' → b' < I 518 6 → (a' < a ∨ (a' = a ∧ b' < b)) → ¬ UK I cs a' b' κ)
theorem mcl_r {wh m so a : Int} (hw : 0 ≤ wh ∧ wh ≤ 3) (hc : CN I) (hs : CSa I) (hl : CLa I) (hcs : CSo I) (hC : CCo I) (on0 : 0 ≤ I 489 64) (on1 : I 489 64 < oSl 1 (I 518 9)) (w2 : MoW I cs) (ok : ∀ s : Int, 0 ≤ s → s < I 518 6 → OkW I s (cs s)) (m0 : 0 ≤ m) (m1 : m ≤ 999) (hso : so = 0 ∨ so = 1) (a0 : 0 ≤ a) (a1 : a < I 518 6) (k1 : ∀ (Y : HI) (κ a b : Int), XFr I Y → FND I cs κ a b → KI (tell wh κ a b) Y) (h : ∀ (Y : HI), XFr I Y → NON I cs (2 * m + so) (a + 1) (a + 2) → J none mX11_clash (d + 7) 0 0 33 [(0, vR 489), (1, vI wh), (2, vI m), (3, vI so), (4, vI (a + 1))] [] (mk Y) (PI KI)) : ∀ (k : Nat) (b : Int) (X : HI), a < b → b + k = I 518 6 → XFr I X → NON I cs (2 * m + so) a b → J none mX11_clash (d + 7) 0 0 48 [(0, vR 489), (1, vI wh), (2, vI m), (3, vI so), (4, vI a), (5, vI b)] [] (mk X) (PI KI)
  | 0, b, X, ab, e, xX, hB => by
    have n6 := hc.2.2.1
    have f518 := (XFr_A xX).1
    refine bk_X11_clash_48 (c11_saintMany ?_)
    rw [f518]
    exact ⟨fun _ => ⟨by omega, h X xX ⟨hB.1, fun a' b' g1 g2 g3 g4 => hB.2 a' b' g1 g2 g3 (by omega)⟩⟩, fun q => by omega⟩
  | k + 1, b, X, ab, e, xX, hB => by
    have n6 := hc.2.2.1
    have n9 := hc.2.2.2.2.2
    have p2 := p2_le n9.1 n9.2
    have A := XFr_A xX
    have f518 := A.1
    have f521 := A.2.1
    have f522 := A.2.2.1
    have fx := xX.1
    have hcX := CN_fr hc (fx 2 (by decide) (by decide) (by decide)) f518
    have hsX := CSa_fr hs (fx 7 (by decide) (by decide) (by decide)) f518 f522
    have hcsX := CSo_fr hcs (fx 13 (by decide) (by decide) (by decide)) f518 A.2.2.2.1
    have hCX := CCo_fr hC f518 (fx 9 (by decide) (by decide) (by decide)) (fx 10 (by decide) (by decide) (by decide)) (fx 524 (by decide) (by decide) (by decide)) (fx 526 (by decide) (by decide) (by decide)) (fx 527 (by decide) (by decide) (by decide))
    have swf : ∀ s W, SW I s W → SW X s W := fun s W g => by
      unfold SW at g ⊢
      rw [hm_fr f522, f518]
      exact g
    have sA := swf a _ (SW_of hc hs hl a0 a1 (ok a a0 a1))
    have sB := swf b _ (SW_of hc hs hl (by omega) (by omega) (ok b (by omega) (by omega)))
    have slf : ∀ s : Int, 0 ≤ s → s < I 518 6 → SL X s 0 (wy I s (cs s)) := fun s s0 s1 => SL_fr s0 (w2 s s0 s1) (fx 532 (by decide) (by decide) (by decide)) (fx 533 (by decide) (by decide) (by decide)) (fx 534 (by decide) (by decide) (by decide)) (fx 535 (by decide) (by decide) (by decide))
    have ih := mcl_r hw hc hs hl hcs hC on0 on1 w2 ok m0 m1 hso a0 a1 k1 h k (b + 1)
    -- the pair isn't one
    have no : ∀ Y : HI, XFr I Y → ¬ UK I cs a b (2 * m + so) → J none mX11_clash (d + 7) 0 0 48 [(0, vR 489), (1, vI wh), (2, vI m), (3, vI so), (4, vI a), (5, vI (b + 1))] [] (mk Y) (PI KI) := fun Y xY nu => by
      refine ih Y (by omega) (by omega) xY ⟨hB.1, fun a' b' g1 g2 g3 g4 => ?_⟩
      by_cases eq : a' = a ∧ b' = b
      · rw [eq.1, eq.2]
        exact nu
      · exact hB.2 a' b' g1 g2 g3 (by omega)
    have yes : ∀ Y : HI, XFr I Y → UK I cs a b (2 * m + so) → ((wh ≠ 0 → ((wh ≠ 1 → ((wh ≠ 2 → PI KI (some (vI b)) (mk Y)) ∧ (wh = 2 → PI KI (some (vI a)) (mk Y)))) ∧ (wh = 1 → PI KI (some (vI so)) (mk Y)))) ∧ (wh = 0 → PI KI (some (vI m)) (mk Y))) := fun Y xY u => by
      have g := k1 Y (2 * m + so) a b xY ⟨u, ⟨a0, ab, by omega⟩, hB.1, hB.2⟩
      unfold tell at g
      refine ⟨fun w0 => ⟨fun w1 => ⟨fun w2 => PI_i ?_, fun w2 => PI_i ?_⟩, fun w1 => PI_i ?_⟩, fun w0 => PI_i ?_⟩
      · rw [if_neg w0, if_neg w1, if_neg w2] at g
        exact g
      · rw [if_neg w0, if_neg w1, if_pos w2] at g
        exact g
      · rw [if_neg w0, if_pos w1] at g
        exact K_eq g (by omega)
      · rw [if_pos w0] at g
        exact K_eq g (by omega)
    have ef := fun so fa => Exc_fr f518 A.2.2.2.2.2.1 A.2.2.2.2.2.2.1 A.2.2.2.2.2.2.2.1 A.2.2.2.2.2.2.2.2 m so fa a b
    refine bk_X11_clash_48 (c11_saintMany ?_)
    rw [f518]
    refine ⟨fun q => by omega, fun _ => ⟨fun q => ?_, fun q => ?_⟩⟩
    · have so1 : so = 1 := by omega
      subst so1
      have k2 : (2 * m + 1) / 2 = m := by omega
      have uk : UK I cs a b (2 * m + 1) ↔ (∃ l, UPw I b (wy I a (cs a)) (wy I b (cs b)) m l ∨ UPw I a (wy I b (cs b)) (wy I a (cs a)) m l) ∧ ¬ Exc I m 1 0 a b := by
        unfold UK
        rw [if_neg (by omega), k2]
        exact ⟨fun z => z.2.2, fun z => ⟨by omega, by omega, z⟩⟩
      refine c11_arePetalsIn hsX a0 (by omega) (by omega) (by omega) (sof_s (by omega)) (sof_s (by omega)) (by rw [f518]; exact a1) (by rw [f518]; omega) (slf a a0 a1) (slf b (by omega) (by omega)) sA sB (fun y => ⟨fun q2 => by omega, fun _ => ?_⟩) (fun y => ⟨fun _ => ⟨by omega, no X xX (fun z => y ?_)⟩, fun q2 => absurd rfl q2⟩)
      · simp only [UPw_fr f522 A.2.2.2.2.1] at y
        refine c11_isExcepted hCX hcX (by rw [xX.2 64 (by decide)]; exact on0) (by rw [xX.2 64 (by decide)]; omega) (by omega) (by omega) (by omega) (by omega) (by omega) (fun Y xY ne => ?_) (fun Y xY ex => ?_)
        · rw [if_pos ab, if_pos ab, ef] at ne
          exact ⟨fun _ => yes Y (XFr_tr xX xY) (uk.mpr ⟨y, ne⟩), fun q2 => absurd rfl q2⟩
        · rw [if_pos ab, if_pos ab, ef] at ex
          exact ⟨fun q2 => by omega, fun _ => ⟨by omega, no Y (XFr_tr xX xY) (fun z => (uk.mp z).2 ex)⟩⟩
      · simp only [UPw_fr f522 A.2.2.2.2.1]
        exact (uk.mp z).1
    · have so0 : so = 0 := q
      subst so0
      have k2 : (2 * m + 0) / 2 = m := by omega
      have uk : UK I cs a b (2 * m + 0) ↔ ∃ f, DRw I a b (hm I a) (hm I b) (wy I a (cs a)) (wy I b (cs b)) m f ∧ ¬ Exc I m 0 f a b := by
        unfold UK
        rw [if_pos (by omega), k2]
        exact ⟨fun z => z.2.2, fun z => ⟨by omega, by omega, z⟩⟩
      have df := fun f => DRw_fr A.2.2.2.1 f522 a b (hm I a) (hm I b) (wy I a (cs a)) (wy I b (cs b)) m f
      refine c11_drums hcX hcsX a0 (by omega) (by omega) (by omega) (sof_s (by omega)) (sof_s (by omega)) (by rw [f518]; exact a1) (by rw [f518]; omega) (slf a a0 a1) (slf b (by omega) (by omega)) sA sB m0 (fun y => ⟨fun _ => ⟨by omega, no X xX (fun z => ?_)⟩, fun q2 => absurd rfl q2⟩) (fun f y f0 => ⟨fun q2 => by omega, fun _ => ?_⟩)
      · obtain ⟨f, z1, z2⟩ := uk.mp z
        rw [hm_fr f522, hm_fr f522] at y
        exact y f ((df f).mpr z1)
      · rw [hm_fr f522, hm_fr f522, df] at y
        have lg := y.2.2.2.2.2.2
        have la := (hs.2 a a0 a1).2.2.1
        have lb' := (hs.2 b (by omega) (by omega)).2.2.1
        have fu : ∀ f', DRw I a b (hm I a) (hm I b) (wy I a (cs a)) (wy I b (cs b)) m f' → f' = f := fun f' z => by rw [← z.2.2.2.2.2.1, ← y.2.2.2.2.2.1]
        refine c11_isExcepted hCX hcX (by rw [xX.2 64 (by decide)]; exact on0) (by rw [xX.2 64 (by decide)]; omega) (by omega) (by omega) (by unfold loudM at lg; omega) (by omega) (by omega) (fun Y xY ne => ?_) (fun Y xY ex => ?_)
        · rw [if_pos ab, if_pos ab, ef] at ne
          exact ⟨fun _ => yes Y (XFr_tr xX xY) (uk.mpr ⟨f, y, ne⟩), fun q2 => absurd rfl q2⟩
        · rw [if_pos ab, if_pos ab, ef] at ex
          refine ⟨fun q2 => by omega, fun _ => ⟨by omega, no Y (XFr_tr xX xY) (fun z => ?_)⟩⟩
          obtain ⟨f', z1, z2⟩ := uk.mp z
          rw [fu f' z1] at z2
          exact z2 ex
theorem mcl_a {wh m so : Int} (hw : 0 ≤ wh ∧ wh ≤ 3) (hc : CN I) (hs : CSa I) (hl : CLa I) (hcs : CSo I) (hC : CCo I) (on0 : 0 ≤ I 489 64) (on1 : I 489 64 < oSl 1 (I 518 9)) (w2 : MoW I cs) (ok : ∀ s : Int, 0 ≤ s → s < I 518 6 → OkW I s (cs s)) (m0 : 0 ≤ m) (m1 : m ≤ 999) (hso : so = 0 ∨ so = 1) (k1 : ∀ (Y : HI) (κ a b : Int), XFr I Y → FND I cs κ a b → KI (tell wh κ a b) Y) (h : ∀ (Y : HI), XFr I Y → NON I cs (2 * m + so + 1) 0 0 → J none mX11_clash (d + 7) 0 0 25 [(0, vR 489), (1, vI wh), (2, vI m), (3, vI (so + 1))] [] (mk Y) (PI KI)) : ∀ (k : Nat) (a : Int) (X : HI), 0 ≤ a → a + k = I 518 6 → XFr I X → NON I cs (2 * m + so) a (a + 1) → J none mX11_clash (d + 7) 0 0 33 [(0, vR 489), (1, vI wh), (2, vI m), (3, vI so), (4, vI a)] [] (mk X) (PI KI)
  | 0, a, X, a0, e, xX, hB => by
    have f518 := (XFr_A xX).1
    refine bk_X11_clash_33 (c11_saintMany ?_)
    rw [f518]
    refine ⟨fun _ => ⟨by omega, h X xX ⟨fun κ' hκ a' b' g1 g2 g3 => ?_, fun a' b' g1 g2 g3 g4 => by omega⟩⟩, fun q => by omega⟩
    rcases Int.lt_or_le κ' (2 * m + so) with z | z
    · exact hB.1 κ' z a' b' g1 g2 g3
    · rw [show κ' = 2 * m + so from by omega]
      exact hB.2 a' b' g1 g2 g3 (by omega)
  | k + 1, a, X, a0, e, xX, hB => by
    have n6 := hc.2.2.1
    have f518 := (XFr_A xX).1
    refine bk_X11_clash_33 (c11_saintMany ?_)
    rw [f518]
    refine ⟨fun q => by omega, fun _ => ⟨by omega, ?_⟩⟩
    refine mcl_r (cs := cs) hw hc hs hl hcs hC on0 on1 w2 ok m0 m1 hso a0 (by omega) k1 (fun Y xY nY => ?_) (I 518 6 - (a + 1)).toNat (a + 1) X (by omega) (by omega) xX hB
    exact mcl_a hw hc hs hl hcs hC on0 on1 w2 ok m0 m1 hso k1 h k (a + 1) Y (by omega) (by omega) xY (by rw [show a + 1 + 1 = a + 2 from by omega]; exact nY)
theorem mcl_m {wh : Int} (hw : 0 ≤ wh ∧ wh ≤ 3) (hc : CN I) (hs : CSa I) (hl : CLa I) (hcs : CSo I) (hC : CCo I) (on0 : 0 ≤ I 489 64) (on1 : I 489 64 < oSl 1 (I 518 9)) (w2 : MoW I cs) (ok : ∀ s : Int, 0 ≤ s → s < I 518 6 → OkW I s (cs s)) (k1 : ∀ (Y : HI) (κ a b : Int), XFr I Y → FND I cs κ a b → KI (tell wh κ a b) Y) (k0 : ∀ (Y : HI), XFr I Y → (∀ κ a b, 0 ≤ a → a < b → b < I 518 6 → ¬ UK I cs a b κ) → KI (-1) Y) : ∀ (k : Nat) (m : Int) (X : HI), 0 ≤ m → m + k = 1000 → XFr I X → NON I cs (2 * m) 0 0 → J none mX11_clash (d + 7) 0 0 16 [(0, vR 489), (1, vI wh), (2, vI m)] [] (mk X) (PI KI)
  | 0, m, X, m0, e, xX, hB => by
    refine bk_X11_clash_16 ⟨fun _ => PI_i (k0 X xX (fun κ a b g1 g2 g3 g => ?_)), fun q => by omega⟩
    have := g.2.1
    exact hB.1 κ (by omega) a b g1 g2 g3 g
  | k + 1, m, X, m0, e, xX, hB => by
    have n6 := hc.2.2.1
    have z0 : ∀ κ, NON I cs κ 0 0 → NON I cs κ 0 (0 + 1) := fun κ g => ⟨g.1, fun a' b' g1 g2 g3 g4 => by omega⟩
    refine bk_X11_clash_16 ⟨fun q => by omega, fun _ => ?_⟩
    refine bk_X11_clash_25 ⟨fun q => by omega, fun _ => ?_⟩
    refine mcl_a (cs := cs) hw hc hs hl hcs hC on0 on1 w2 ok m0 (by omega) (Or.inl rfl) k1 (fun Y xY nY => ?_) (I 518 6).toNat 0 X (by omega) (by omega) xX (by rw [Int.add_zero]; exact z0 _ hB)
    refine bk_X11_clash_25 ⟨fun q => by omega, fun _ => ?_⟩
    refine mcl_a (cs := cs) hw hc hs hl hcs hC on0 on1 w2 ok m0 (by omega) (Or.inr rfl) k1 (fun Z xZ nZ => ?_) (I 518 6).toNat 0 Y (by omega) (by omega) xY (by rw [show 2 * m + 0 + 1 = 2 * m + 1 from by omega] at nY; exact z0 _ nY)
    refine bk_X11_clash_25 ⟨fun _ => ⟨by omega, ?_⟩, fun q => by omega⟩
    exact mcl_m hw hc hs hl hcs hC on0 on1 w2 ok k1 k0 k (m + 1) Z (by omega) (by omega) xZ (by rw [show 2 * (m + 1) = 2 * m + 1 + 1 from by omega]; exact nZ)
theorem op_clash {a : Int} (hc : CN I) (hs : CSa I) (hl : CLa I) (hcs : CSo I) (hr : CRa I) (hC : CCo I) (hR : RCu I) (hw : WRel I cs H) (h : ∀ x X Y, LFr I X → RCu X → XFr X Y → K2 x x Y) : CI mX10_clash (d + 8) [vR 0, vI a] I (fun x1 I1 => CI mX11_clash (d + 8) [vR 489, vI a] I1 (K2 x1)) := by
  have id0 : ∀ x, K2 x x I := fun x => h x I I (LFr_rfl I) hR (XFr_rfl I)
  have n6 := hc.2.2.1
  obtain ⟨w1, w2, w3, w4, w5, w6, w7⟩ := hw
  have on : 0 ≤ I 489 64 ∧ I 489 64 < oSl 1 (I 518 9) := w3.2.2
  have no : (a < 0 ∨ 3 < a) → CI mX11_clash (d + 8) [vR 489, vI a] I (K2 (-1)) := fun q => bk_X11_clash_0 (c11_isIn (fun _ _ => by omega) (fun _ => ⟨fun q => absurd rfl q, fun _ => PI_i (id0 _)⟩))
  refine bk_X10_clash_0 ⟨fun q => PI_i (no (Or.inl q)), fun q0 => ⟨fun q1 => ?_, fun q => PI_i (no (Or.inr (by omega)))⟩⟩
  -- the model behind the class
  have mod : ∀ (X : HI) (r : Int), LFr I X → RCu X → ((∃ κ p q, FND I cs κ p q ∧ r = tell a κ p q) ∨ (r = -1 ∧ ∀ κ p q, 0 ≤ p → p < q → q < I 518 6 → ¬ UK I cs p q κ)) → CI mX11_clash (d + 8) [vR 489, vI a] X (K2 r) := fun X r lX rX hr' => by
    have A := LFr_A lX
    have f518 := A.1
    have f521 := A.2.1
    have f522 := A.2.2.1
    have fnd : ∀ κ p q, FND X cs κ p q ↔ FND I cs κ p q := fun κ p q => by
      unfold FND
      simp only [UK_fr A]
      rw [f518]
    refine bk_X11_clash_0 (c11_isIn (fun _ _ => ⟨fun _ => ?_, fun q => by omega⟩) (fun q => by omega))
    refine mcl_m (cs := cs) ⟨by omega, q1⟩ (CN_fr hc (lX.1 2 (by decide)) f518) (CSa_fr hs (lX.1 7 (by decide)) f518 f522) (CLa_fr hl (lX.1 6 (by decide)) (lX.1 12 (by decide)) f518 f521) (CSo_fr hcs (lX.1 13 (by decide)) f518 A.2.2.2.1) (CCo_fr hC f518 (lX.1 9 (by decide)) (lX.1 10 (by decide)) (lX.1 524 (by decide)) (lX.1 526 (by decide)) (lX.1 527 (by decide))) (by rw [lX.1 489 (by decide)]; exact on.1) (by rw [lX.1 489 (by decide), f518]; exact on.2) (fun s s0 s1 => ?_) (fun s s0 s1 => OkW_fr f518 f521 f522 (w3.1 s s0 (by rw [f518] at s1; exact s1))) (fun Y κ p q xY g => ?_) (fun Y xY g => ?_) 1000 0 X (by omega) (by omega) (XFr_rfl X) ⟨fun κ' hκ a' b' g1 g2 g3 g => by have := g.1; omega, fun a' b' g1 g2 g3 g4 => by omega⟩
    · rw [f518] at s1
      rw [wy_fr f518 f521 f522]
      exact SL_fr s0 (w2 s s0 s1) (lX.1 532 (by decide)) (lX.1 533 (by decide)) (lX.1 534 (by decide)) (lX.1 535 (by decide))
    · rw [fnd] at g
      rcases hr' with ⟨κ', p', q', g', er⟩ | ⟨_, z⟩
      · obtain ⟨e1, e2, e3⟩ := FND_u g' g
        rw [er, e1, e2, e3]
        exact h _ X Y lX rX xY
      · exact absurd g.1 (z κ p q g.2.1.1 g.2.1.2.1 g.2.1.2.2)
    · simp only [UK_fr A, f518] at g
      rcases hr' with ⟨κ', p', q', g', er⟩ | ⟨er, z⟩
      · exact absurd g'.1 (g κ' p' q' g'.2.1.1 g'.2.1.2.1 g'.2.1.2.2)
      · rw [er]
        exact h _ X Y lX rX xY
  refine bk_X4_firstClash_0 (first_t (cs := cs) ⟨by omega, q1⟩ hc hs hl hcs hr hC on.1 on.2 w4.2 w1 w3.1 (fun Y κ p q lY rY g => PI_i (mod Y _ lY rY (Or.inl ⟨κ, p, q, g, rfl⟩))) (fun Y lY rY g => PI_i (mod Y _ lY rY (Or.inr ⟨rfl, g⟩))) (I 518 6).toNat 0 2000 (-1) (-1) I (by omega) (by omega) (LFr_rfl I) hR ⟨Or.inl ⟨rfl, rfl⟩, fun a' b' g1 g2 g3 g4 => by omega⟩)
end CX
