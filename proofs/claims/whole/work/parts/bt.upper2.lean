theorem RTs_u {I X : HI} (f : UPD I X) (n4 : I 518 6 ≤ 4) (hh : ∀ s : Nat, (s : Int) < I 518 6 → 0 ≤ hm I (s : Int)) (h : RTs I) : RTs X := by
  intro s s1
  rw [f.2.1 6 (by omega)] at s1
  have q := h s s1
  have s0 : (0 : Int) ≤ (s : Int) := by omega
  have hs := hh s s1
  have q2 : RT1 X I s := by
    unfold RT1 CRt at q ⊢
    simp only [rts_u f s0 hs, opc_u f s0 hs, wy_u f s0, hm_u f s0]
    exact q
  exact RT1_t q2 (by rw [f.1 71 (by omega)]) (fun j _ _ => ⟨by rw [f.1 72 (by omega)], by rw [f.1 73 (by omega)]⟩) (fun k k1 k2 => f.1 k (by omega))
theorem FIT_u {I X : HI} {cs : Int → List Int} {z : Prop} (f : UPD I X) (hh : ∀ s : Nat, (s : Int) < I 518 6 → 0 ≤ hm I (s : Int)) (h : FIT I cs z) : FIT X cs z := by
  intro a b ab b1 x y
  rw [f.2.1 6 (by omega)] at b1
  have ha := hh a (by omega)
  have hb := hh b b1
  rw [rts_u f (by omega) ha, rts_u f (by omega) hb, chw_u f (by omega) ha, chw_u f (by omega) hb, f.1 75 (by omega), f.1 76 (by omega), LAW_u f (by omega) (by omega)]
  exact h a b ab b1 x y
theorem ROpt_u {I X : HI} {cs : Int → List Int} (f : UPD I X) (n4 : I 518 6 ≤ 4) (hh : ∀ s : Nat, (s : Int) < I 518 6 → 0 ≤ hm I (s : Int)) (h : ROpt I cs) : ROpt X cs := by
  unfold ROpt at h ⊢
  rw [f.1 32 (by omega)]
  refine ⟨fun a => RTs_u f n4 hh (h.1 a), ?_, fun a b => FIT_u f hh (h.2.2 a b)⟩
  have := h.2.1
  unfold SUB at this ⊢
  rw [f.1 75 (by omega), f.1 76 (by omega)]
  exact this
theorem RPl_u {I X : HI} (f : UPD I X) (hh : ∀ s : Nat, (s : Int) < I 518 6 → 0 ≤ hm I (s : Int)) (h : RPl I) : RPl X := by
  unfold RPl at h ⊢
  rw [f.1 477 (by omega), f.1 69 (by omega), f.1 32 (by omega), f.2.1 6 (by omega), f.1 481 (by omega)]
  refine ⟨h.1, fun a b c e => ?_⟩
  obtain ⟨g1, g2⟩ := h.2 a b c e
  refine ⟨fun cs => SOL_u f (fun t ht => hh t (g2.2.2.2.1 t ht)) (g1 cs), ?_⟩
  unfold MSs at g2 ⊢
  rw [f.1 477 (by omega), f.1 479 (by omega), f.2.1 6 (by omega)]
  exact g2
theorem RCu_u {I X : HI} (f : UPD I X) (h : RCu I) : RCu X := by
  refine ⟨fun j hj => ?_, fun a b sl w a0 ab b4 s0 s1 w0 w1 hv e e0 e1 i hi => ?_⟩
  · rw [f.1 64 (by omega), f.1 62 (by omega)]
    exact h.1 j hj
  · rw [f.1 64 (by omega), f.1 62 (by omega)] at hv
    rw [f.2.1 9 (by omega)] at e1
    rw [f.1 63 (by omega), Hld_u f e0]
    exact h.2 a b sl w a0 ab b4 s0 s1 w0 w1 hv e e0 e1 i hi
/-- the city, all of it -/
def STC (I : HI) : Prop := CTY I ∧ CNa I ∧ CBa I ∧ CBm I
theorem STC_fr {I X : HI} (h : STC I) (f : CF I X) : STC X := by
  obtain ⟨h1, h2, h3, h4⟩ := h
  refine ⟨CTY_fr h1 f, ?_, ?_, ?_⟩
  · unfold CNa at h2 ⊢
    rw [f.1 518 (by omega), f.1 519 (by omega), f.1 3 (by omega), f.1 4 (by omega)]
    exact h2
  · unfold CBa at h3 ⊢
    rw [f.1 518 (by omega), f.1 523 (by omega), f.1 8 (by omega)]
    exact h3
  · unfold CBm at h4 ⊢
    rw [f.1 518 (by omega), f.1 523 (by omega)]
    exact h4
theorem STC_u {I X : HI} (h : STC I) (f : UPD I X) : STC X := by
  obtain ⟨⟨a1, a2, a3, a4, a5, a6, a7, a8, a9⟩, h2, h3, h4⟩ := h
  have u5 := f.2.1 5 (by omega)
  have u6 := f.2.1 6 (by omega)
  have u7 := f.2.1 7 (by omega)
  have u8 := f.2.1 8 (by omega)
  have u9 := f.2.1 9 (by omega)
  obtain ⟨f1, _, w519, w520, w521, w522, w523, w524, w526, w527, w528⟩ := id f
  refine ⟨⟨?_, ⟨fun s j s0 s1 j0 j1 => ?_, fun s s0 s1 => ?_⟩, ⟨fun s j s0 s1 j0 j1 => ?_, fun s s0 s1 => ?_, fun a b c0 c1 d0 d1 => ?_⟩, ?_, ?_, fun k k0 k1 => ?_, fun c c0 c1 => ?_, ?_, fun e e0 e1 => ?_⟩, ⟨fun w w0 w1 => ?_, fun w w0 w1 => ?_⟩, ⟨fun s j s0 s1 j0 j1 => ?_, fun s s0 s1 => ?_⟩, fun s s0 s1 => ?_⟩
  · unfold CN at a1 ⊢
    rw [f1 2 (by omega), u5, u6, u7, u8, u9]
    exact a1
  · rw [u6] at s1
    rw [f1 7 (by omega), w522 (16 + 4 * s + j).toNat (by omega)]
    exact a2.1 s j s0 s1 j0 j1
  · rw [u6] at s1
    rw [u5, w522 (16 + 4 * s).toNat (by omega), w522 (16 + 4 * s + 1).toNat (by omega), w522 (16 + 4 * s + 2).toNat (by omega), w522 (16 + 4 * s + 3).toNat (by omega)]
    exact a2.2 s s0 s1
  · rw [u7] at s1
    rw [f1 6 (by omega), w521 (64 + 4 * s + j).toNat (by omega)]
    exact a3.1 s j s0 s1 j0 j1
  · rw [u7] at s1
    rw [u5, w521 (64 + 4 * s).toNat (by omega), w521 (64 + 4 * s + 1).toNat (by omega), w521 (64 + 4 * s + 2).toNat (by omega), w521 (64 + 4 * s + 3).toNat (by omega)]
    exact a3.2.1 s s0 s1
  · rw [u5] at c1 d1
    rw [f1 12 (by omega), laneM_u f]
    exact a3.2.2 a b c0 c1 d0 d1
  · unfold CSo at a4 ⊢
    rw [f1 13 (by omega), f1 531 (by omega), u5]
    exact a4
  · unfold CRa at a5 ⊢
    rw [f1 1 (by omega), f1 489 (by omega)]
    exact a5
  · rw [u9] at k1
    rw [mcode_u f k0, f1 10 (by omega), f1 9 (by omega), w526 (6 + k).toNat (by omega), w527 (6 + k).toNat (by omega)]
    exact a6 k k0 k1
  · rw [u5] at c1
    rw [f1 5 (by omega), w520 (10 + c).toNat (by omega)]
    exact a7 c c0 c1
  · unfold CPb at a8 ⊢
    rw [f1 1 (by omega), parM_u f]
    exact a8
  · rw [u9] at e1
    rw [f1 11 (by omega), w528 (6 + e).toNat (by omega)]
    exact a9 e e0 e1
  · rw [u5] at w1
    rw [f1 3 (by omega), w519 (20 + 10 * 0 + w).toNat (by omega)]
    exact h2.1 w w0 w1
  · rw [u6] at w1
    rw [f1 4 (by omega), w519 (20 + 10 * 1 + w).toNat (by omega)]
    exact h2.2 w w0 w1
  · rw [u8] at s1
    rw [f1 8 (by omega), w523 (40 + 4 * s + j).toNat (by omega)]
    exact h3.1 s j s0 s1 j0 j1
  · rw [u8] at s1
    rw [w523 (40 + 4 * s + 3).toNat (by omega)]
    exact h3.2 s s0 s1
  · rw [u8] at s1
    rw [w523 (40 + 4 * s + 1).toNat (by omega), w523 (40 + 4 * s + 2).toNat (by omega)]
    exact h4 s s0 s1
