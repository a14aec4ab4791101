theorem CSo2_fr {I X : HI} (e1 : X 518 = I 518) (e2 : X 521 = I 521) (e3 : X 522 = I 522) (e4 : X 531 = I 531) (e5 : X 489 = I 489) (cs : Int → List Int) (so a b : Int) (m : Nat) : CSo2 X cs so a b m ↔ CSo2 I cs so a b m := by
  unfold CSo2 DRw UPw snd loudM petS lies
  rw [wy_fr e1 e2 e3, wy_fr e1 e2 e3, hm_fr e3, hm_fr e3, e4, e3, e5]
theorem CSo_fr {I X : HI} (h : CSo I) (e1 : X 13 = I 13) (e2 : X 518 = I 518) (e3 : X 531 = I 531) : CSo X := by
  unfold CSo at h ⊢
  rw [e1, e2, e3]
  exact h
section CH
variable {d : Nat} {I : HI} {K : HI → Prop} {KI : Int → HI → Prop} {K2 : Int → Int → HI → Prop} {cs : Int → List Int} {H : List Sn}
theorem tally_r {so : Int} (hc : CN I) (hs : CSa I) (hl : CLa I) (hcs : CSo I) (hr : CRa I) (w1 : ClW I cs) (ok : ∀ s : Int, 0 ≤ s → s < I 518 6 → OkW I s (cs s)) (bd : I 67 5 ≤ 100000) (hso : so = 0 ∨ so = 1) {a : Int} (a0 : 0 ≤ a) (a1 : a < I 518 6) (acc0 : Int) (hacc : 0 ≤ acc0 ∧ acc0 ≤ 100000) : ∀ (k : Nat) (b acc : Int) (X : HI), a < b → b + k = I 518 6 → NFr I X → RNi X → X 67 5 ≤ I 67 5 + 4 * a + b → 0 ≤ acc → acc ≤ 100000 + 1000 * b → (∀ (Y : HI) (r : Int), NFr I Y → RNi Y → Y 67 5 ≤ I 67 5 + 4 * (a + 1) → r = acc + rS (fun a b => smP (CSo2 I cs so a b) 1000) a b k → J none mX4_tally (d + 6) 0 0 4 [(0, vR 67), (1, vI so), (2, vI r), (3, vI (a + 1))] [] (mk Y) (PI KI)) → J none mX4_tally (d + 6) 0 0 22 [(0, vR 67), (1, vI so), (2, vI acc), (3, vI a), (4, vI b)] [] (mk X) (PI KI)
  | 0, b, acc, X, ab, e, nX, rX, mX, c0, c1, h => by
    have n6 := hc.2.2.1
    have c2 := hc.1.2.2.1
    refine bk_X4_tally_22 ?_
    rw [nX.1 2 (by decide) (by decide) (by decide), c2]
    exact ⟨fun _ => ⟨by omega, h X acc nX rX (by omega) (by simp [rS])⟩, fun q => by omega⟩
  | k + 1, b, acc, X, ab, e, nX, rX, mX, c0, c1, h => by
    have n6 := hc.2.2.1
    have c2 := hc.1.2.2.1
    have f := nX.1
    have f518 := f 518 (by decide) (by decide) (by decide)
    have f521 := f 521 (by decide) (by decide) (by decide)
    have f522 := f 522 (by decide) (by decide) (by decide)
    have f531 := f 531 (by decide) (by decide) (by decide)
    have f489 := f 489 (by decide) (by decide) (by decide)
    refine bk_X4_tally_22 ?_
    rw [f 2 (by decide) (by decide) (by decide), c2]
    refine ⟨fun q => by omega, fun _ => ?_⟩
    refine c4_tallyOf (cs := cs) (CN_fr hc (f 2 (by decide) (by decide) (by decide)) f518) (CSa_fr hs (f 7 (by decide) (by decide) (by decide)) f518 f522) (CLa_fr hl (f 6 (by decide) (by decide) (by decide)) (f 12 (by decide) (by decide) (by decide)) f518 f521) (CSo_fr hcs (f 13 (by decide) (by decide) (by decide)) f518 f531) (CRa_fr hr (f 1 (by decide) (by decide) (by decide)) f489) a0 (by rw [f518]; exact a1) (by omega) (by rw [f518]; omega) (ClW_fr w1 f518 f521 f522 (f 33 (by decide) (by decide) (by decide)) n6.2 (fun k k1 k2 => f k (by omega) (by omega) (by omega))) (fun s s0 s1 => OkW_fr f518 f521 f522 (ok s s0 (by rw [f518] at s1; exact s1))) rX (by omega) hso (fun Y nY rY mY => ?_)
    rw [smP_iff (Q := CSo2 I cs so a b) 1000 (fun m hm => CSo2_fr f518 f521 f522 f531 f489 cs so a b m)]
    have sr := smP_rng (CSo2 I cs so a b) 1000
    refine ⟨by omega, by omega, ?_⟩
    refine tally_r hc hs hl hcs hr w1 ok bd hso a0 a1 acc0 hacc k (b + 1) _ Y (by omega) (by omega) (NFr_tr nX nY) rY (by omega) (by omega) (by omega) (fun Z r nZ rZ mZ er => h Z r nZ rZ mZ ?_)
    rw [er]
    show _ = acc + (smP (CSo2 I cs so a b) 1000 + rS (fun a b => smP (CSo2 I cs so a b) 1000) a (b + 1) k)
    omega
theorem tally_t {so : Int} (hc : CN I) (hs : CSa I) (hl : CLa I) (hcs : CSo I) (hr : CRa I) (w1 : ClW I cs) (ok : ∀ s : Int, 0 ≤ s → s < I 518 6 → OkW I s (cs s)) (bd : I 67 5 ≤ 100000) (hso : so = 0 ∨ so = 1) (h : ∀ (Y : HI), NFr I Y → RNi Y → Y 67 5 ≤ I 67 5 + 16 → KI (tS (fun a b => smP (CSo2 I cs so a b) 1000) (I 518 6) 0 (I 518 6).toNat) Y) : ∀ (k : Nat) (a acc : Int) (X : HI), 0 ≤ a → a + k = I 518 6 → NFr I X → RNi X → X 67 5 ≤ I 67 5 + 4 * a → 0 ≤ acc → acc ≤ 10000 * a → acc + tS (fun a b => smP (CSo2 I cs so a b) 1000) (I 518 6) a k = tS (fun a b => smP (CSo2 I cs so a b) 1000) (I 518 6) 0 (I 518 6).toNat → J none mX4_tally (d + 6) 0 0 4 [(0, vR 67), (1, vI so), (2, vI acc), (3, vI a)] [] (mk X) (PI KI)
  | 0, a, acc, X, a0, e, nX, rX, mX, c0, c1, hs' => by
    have n6 := hc.2.2.1
    have c2 := hc.1.2.2.1
    refine bk_X4_tally_4 ?_
    rw [nX.1 2 (by decide) (by decide) (by decide), c2]
    refine ⟨fun _ => PI_i ?_, fun q => by omega⟩
    refine K_eq (h X nX rX (by omega)) ?_
    rw [← hs']
    simp [tS]
  | k + 1, a, acc, X, a0, e, nX, rX, mX, c0, c1, hs' => by
    have n6 := hc.2.2.1
    have c2 := hc.1.2.2.1
    have rr := rS_rng (g := fun a b => smP (CSo2 I cs so a b) 1000) (M := 1000) (by omega) (fun a b => smP_rng (CSo2 I cs so a b) 1000) a (I 518 6 - (a + 1)).toNat (a + 1)
    refine bk_X4_tally_4 ?_
    rw [nX.1 2 (by decide) (by decide) (by decide), c2]
    refine ⟨fun q => by omega, fun _ => ⟨by omega, ?_⟩⟩
    refine tally_r (cs := cs) hc hs hl hcs hr w1 ok bd hso a0 (by omega) acc ⟨c0, by omega⟩ (I 518 6 - (a + 1)).toNat (a + 1) acc X (by omega) (by omega) nX rX (by omega) c0 (by omega) (fun Y r nY rY mY er => ?_)
    refine tally_t hc hs hl hcs hr w1 ok bd hso h k (a + 1) r Y (by omega) (by omega) nY rY mY (by omega) (by omega) ?_
    rw [er, ← hs']
    show _ = acc + (rS (fun a b => smP (CSo2 I cs so a b) 1000) a (a + 1) (I 518 6 - (a + 1)).toNat + tS (fun a b => smP (CSo2 I cs so a b) 1000) (I 518 6) (a + 1) k)
    omega
theorem mclash_r {so a : Int} {m : Nat} (hc : CN I) (hs : CSa I) (hl : CLa I) (hcs : CSo I) (w2 : MoW I cs) (ok : ∀ s : Int, 0 ≤ s → s < I 518 6 → OkW I s (cs s)) (hso : so = 0 ∨ so = 1) (hm1 : m < 1000) (a0 : 0 ≤ a) (a1 : a < I 518 6) : ∀ (k : Nat) (b acc : Int), a < b → b + k = I 518 6 → 0 ≤ acc → acc ≤ 16 * m + 4 * a + b → (∀ r : Int, 0 ≤ r → r ≤ 16 * m + 4 * (a + 1) → r = acc + rS (fun a b => iF (CSo2 I cs so a b m) 1 0) a b k → J none mX11_clashes (d + 7) 0 0 26 [(0, vR 489), (1, vI so), (2, vI r), (3, vI (m : Int)), (4, vI (a + 1))] [] (mk I) (PI KI)) → J none mX11_clashes (d + 7) 0 0 41 [(0, vR 489), (1, vI so), (2, vI acc), (3, vI (m : Int)), (4, vI a), (5, vI b)] [] (mk I) (PI KI)
  | 0, b, acc, ab, e, c0, c1, h => by
    have n6 := hc.2.2.1
    exact bk_X11_clashes_41 (c11_saintMany ⟨fun _ => ⟨by omega, h acc c0 (by omega) (by simp [rS])⟩, fun q => by omega⟩)
  | k + 1, b, acc, ab, e, c0, c1, h => by
    have n6 := hc.2.2.1
    have sA := SW_of hc hs hl a0 a1 (ok a a0 a1)
    have sB := SW_of hc hs hl (by omega) (by omega) (ok b (by omega) (by omega))
    have lA := w2 a a0 a1
    have lB := w2 b (by omega) (by omega)
    have ih := mclash_r hc hs hl hcs w2 ok hso hm1 a0 a1 k (b + 1)
    have yes : CSo2 I cs so a b m → J none mX11_clashes (d + 7) 0 0 41 [(0, vR 489), (1, vI so), (2, vI (acc + 1)), (3, vI (m : Int)), (4, vI a), (5, vI (b + 1))] [] (mk I) (PI KI) := fun z => by
      refine ih (acc + 1) (by omega) (by omega) (by omega) (by omega) (fun r r0 r1 er => h r r0 r1 ?_)
      rw [er]
      show _ = acc + (iF (CSo2 I cs so a b m) 1 0 + rS (fun a b => iF (CSo2 I cs so a b m) 1 0) a (b + 1) k)
      rw [iF_pos z]
      omega
    have no : ¬ CSo2 I cs so a b m → J none mX11_clashes (d + 7) 0 0 41 [(0, vR 489), (1, vI so), (2, vI acc), (3, vI (m : Int)), (4, vI a), (5, vI (b + 1))] [] (mk I) (PI KI) := fun z => by
      refine ih acc (by omega) (by omega) (by omega) (by omega) (fun r r0 r1 er => h r r0 r1 ?_)
      rw [er]
      show _ = acc + (iF (CSo2 I cs so a b m) 1 0 + rS (fun a b => iF (CSo2 I cs so a b m) 1 0) a (b + 1) k)
      rw [iF_neg z]
      omega
    refine bk_X11_clashes_41 (c11_saintMany ⟨fun q => by omega, fun _ => ⟨fun q => ?_, fun q => ?_⟩⟩)
    · refine c11_arePetalsIn hs a0 (by omega) (by omega) (by omega) (sof_s (by omega)) (sof_s (by omega)) a1 (by omega) lA lB sA sB (fun y => ⟨fun q2 => by omega, fun _ => ⟨by omega, by omega, yes ?_⟩⟩) (fun y => ⟨fun _ => ⟨by omega, no ?_⟩, fun q2 => absurd rfl q2⟩)
      · unfold CSo2
        rw [if_neg q]
        exact y
      · unfold CSo2
        rw [if_neg q]
        exact y
    · refine c11_drums hc hcs a0 (by omega) (by omega) (by omega) (sof_s (by omega)) (sof_s (by omega)) a1 (by omega) lA lB sA sB (by omega) (fun y => ⟨fun _ => ⟨by omega, no ?_⟩, fun q2 => absurd rfl q2⟩) (fun f y f0 => ⟨fun q2 => by omega, fun _ => ⟨by omega, by omega, yes ?_⟩⟩)
      · unfold CSo2
        rw [if_pos q]
        rintro ⟨f, g⟩
        exact y f g
      · unfold CSo2
        rw [if_pos q]
        exact ⟨f, y⟩
theorem mclash_a {so : Int} {m : Nat} (hc : CN I) (hs : CSa I) (hl : CLa I) (hcs : CSo I) (w2 : MoW I cs) (ok : ∀ s : Int, 0 ≤ s → s < I 518 6 → OkW I s (cs s)) (hso : so = 0 ∨ so = 1) (hm1 : m < 1000) : ∀ (k : Nat) (a acc : Int), 0 ≤ a → a + k = I 518 6 → 0 ≤ acc → acc ≤ 16 * m + 4 * a → (∀ r : Int, 0 ≤ r → r ≤ 16 * ((m : Int) + 1) → r = acc + tS (fun a b => iF (CSo2 I cs so a b m) 1 0) (I 518 6) a k → J none mX11_clashes (d + 7) 0 0 16 [(0, vR 489), (1, vI so), (2, vI r), (3, vI ((m : Int) + 1))] [] (mk I) (PI KI)) → J none mX11_clashes (d + 7) 0 0 26 [(0, vR 489), (1, vI so), (2, vI acc), (3, vI (m : Int)), (4, vI a)] [] (mk I) (PI KI)
  | 0, a, acc, a0, e, c0, c1, h => by
    have n6 := hc.2.2.1
    exact bk_X11_clashes_26 (c11_saintMany ⟨fun _ => ⟨by omega, h acc c0 (by omega) (by simp [tS])⟩, fun q => by omega⟩)
  | k + 1, a, acc, a0, e, c0, c1, h => by
    have n6 := hc.2.2.1
    refine bk_X11_clashes_26 (c11_saintMany ⟨fun q => by omega, fun _ => ⟨by omega, ?_⟩⟩)
    refine mclash_r (cs := cs) hc hs hl hcs w2 ok hso hm1 a0 (by omega) (I 518 6 - (a + 1)).toNat (a + 1) acc (by omega) (by omega) c0 (by omega) (fun r r0 r1 er => ?_)
    refine mclash_a hc hs hl hcs w2 ok hso hm1 k (a + 1) r (by omega) (by omega) r0 (by omega) (fun r' r0' r1' er' => h r' r0' r1' ?_)
    rw [er', er]
    show _ = acc + (rS (fun a b => iF (CSo2 I cs so a b m) 1 0) a (a + 1) (I 518 6 - (a + 1)).toNat + tS (fun a b => iF (CSo2 I cs so a b m) 1 0) (I 518 6) (a + 1) k)
    omega
theorem mclash_m {so : Int} (hc : CN I) (hs : CSa I) (hl : CLa I) (hcs : CSo I) (w2 : MoW I cs) (ok : ∀ s : Int, 0 ≤ s → s < I 518 6 → OkW I s (cs s)) (hso : so = 0 ∨ so = 1) (h : KI (mS (CSo2 I cs so) (I 518 6) 1000) I) : ∀ (k m : Nat) (acc : Int), m + k = 1000 → 0 ≤ acc → acc ≤ 16 * m → acc = mS (CSo2 I cs so) (I 518 6) m → J none mX11_clashes (d + 7) 0 0 16 [(0, vR 489), (1, vI so), (2, vI acc), (3, vI (m : Int))] [] (mk I) (PI KI)
  | 0, m, acc, e, c0, c1, ea => by
    have e2 : m = 1000 := by omega
    subst e2
    exact bk_X11_clashes_16 ⟨fun _ => PI_i (K_eq h ea.symm), fun q => by omega⟩
  | k + 1, m, acc, e, c0, c1, ea => by
    have n6 := hc.2.2.1
    refine bk_X11_clashes_16 ⟨fun q => by omega, fun _ => ?_⟩
    refine mclash_a (cs := cs) hc hs hl hcs w2 ok hso (by omega) (I 518 6).toNat 0 acc (by omega) (by omega) c0 (by omega) (fun r r0 r1 er => ?_)
    rw [show (m : Int) + 1 = ((m + 1 : Nat) : Int) from by omega] at r1 ⊢
    refine mclash_m hc hs hl hcs w2 ok hso h k (m + 1) r (by omega) r0 r1 ?_
    rw [er, ea]
    rfl
theorem op_clashes {a : Int} (hc : CN I) (hs : CSa I) (hl : CLa I) (hcs : CSo I) (hr : CRa I) (hw : WRel I cs H) (hN : RNi I) (bd : I 67 5 ≤ 100000) (h : ∀ x X, NFr I X → RNi X → X 67 5 ≤ I 67 5 + 16 → K2 x x X) : CI mX10_clashes (d + 8) [vR 0, vI a] I (fun x1 I1 => CI mX11_clashes (d + 8) [vR 489, vI a] I1 (K2 x1)) := by
  have id0 : ∀ x, K2 x x I := fun x => h x I (NFr_rfl I) hN (by omega)
  have n6 := hc.2.2.1
  obtain ⟨w1, w2, w3, w4, w5, w6, w7⟩ := hw
  have no : (a < 0 ∨ 1 < a) → CI mX11_clashes (d + 8) [vR 489, vI a] I (K2 (-1)) := fun q => bk_X11_clashes_0 (c11_isIn (fun _ _ => by omega) (fun _ => ⟨fun q => absurd rfl q, fun _ => PI_i (id0 _)⟩))
  refine bk_X10_clashes_0 ⟨fun q => PI_i (no (Or.inl q)), fun q0 => ⟨fun q1 => ?_, fun q => PI_i (no (Or.inr (by omega)))⟩⟩
  have hso : a = 0 ∨ a = 1 := by omega
  refine bk_X4_tally_0 (tally_t (cs := cs) hc hs hl hcs hr w1 w3.1 bd hso (fun X nX rX mX => PI_i ?_) (I 518 6).toNat 0 0 I (by omega) (by omega) (NFr_rfl I) hN (by omega) (by omega) (by omega) (by omega))
  have f := nX.1
  have f518 := f 518 (by decide) (by decide) (by decide)
  have f521 := f 521 (by decide) (by decide) (by decide)
  have f522 := f 522 (by decide) (by decide) (by decide)
  have f531 := f 531 (by decide) (by decide) (by decide)
  have f489 := f 489 (by decide) (by decide) (by decide)
  refine bk_X11_clashes_0 (c11_isIn (fun _ _ => ⟨fun _ => ?_, fun q => by omega⟩) (fun q => by omega))
  refine mclash_m (cs := cs) (CN_fr hc (f 2 (by decide) (by decide) (by decide)) f518) (CSa_fr hs (f 7 (by decide) (by decide) (by decide)) f518 f522) (CLa_fr hl (f 6 (by decide) (by decide) (by decide)) (f 12 (by decide) (by decide) (by decide)) f518 f521) (CSo_fr hcs (f 13 (by decide) (by decide) (by decide)) f518 f531) (fun s s0 s1 => ?_) (fun s s0 s1 => OkW_fr f518 f521 f522 (w3.1 s s0 (by rw [f518] at s1; exact s1))) hso ?_ 1000 0 0 (by omega) (by omega) (by omega) rfl
  · rw [f518] at s1
    rw [wy_fr f518 f521 f522]
    exact SL_fr s0 (w2 s s0 s1) (f 532 (by decide) (by decide) (by decide)) (f 533 (by decide) (by decide) (by decide)) (f 534 (by decide) (by decide) (by decide)) (f 535 (by decide) (by decide) (by decide))
  · rw [mS_eq, f518]
    have e : (fun a' b => smP (CSo2 X cs a a' b) 1000) = (fun a' b => smP (CSo2 I cs a a' b) 1000) := by
      funext a' b
      exact smP_iff 1000 (fun m hm => CSo2_fr f518 f521 f522 f531 f489 cs a a' b m)
    rw [e]
    exact h _ X nX rX mX
end CH
