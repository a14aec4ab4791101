def CAf (I X : HI) : Prop := (∀ k, k ≠ 32 → k ≠ 33 → k ≠ 35 → (k < 37 ∨ 56 < k) → X k = I k) ∧ (∀ j, j ≠ 5 → j ≠ 6 → j ≠ 7 → X 32 j = I 32 j)
def MAf (I X : HI) : Prop := (∀ k, k ≠ 489 → k ≠ 529 → k ≠ 530 → (k < 532 ∨ 555 < k) → X k = I k) ∧ (∀ j, j ≠ 56 → j ≠ 71 → j ≠ 72 → j ≠ 83 → j ≠ 84 → X 489 j = I 489 j)
/-- what any act of planning leaves -/
def TFr (I X : HI) : Prop := (∀ k, (k < 32 ∨ k = 34 ∨ k = 36 ∨ (66 < k ∧ k < 69) ∨ (481 < k ∧ k < 482) ∨ (487 < k ∧ k < 489) ∨ (489 < k ∧ k < 529) ∨ k = 531 ∨ 555 < k) → X k = I k) ∧ (∀ j, j ≠ 6 → X 62 j = I 62 j) ∧ (∀ j, j ≠ 56 → j ≠ 71 → j ≠ 72 → j ≠ 83 → j ≠ 84 → X 489 j = I 489 j)
theorem CF_ca {I X : HI} (h : CAf I X) : CF I X := ⟨fun k hk => h.1 k (by omega) (by omega) (by omega) (by omega), by rw [h.1 489 (by omega) (by omega) (by omega) (by omega)]⟩
theorem CF_ma {I X : HI} (h : MAf I X) : CF I X := ⟨fun k hk => h.1 k (by omega) (by omega) (by omega) (by omega), h.2 44 (by decide) (by decide) (by decide) (by decide) (by decide)⟩
theorem MAf_h {I X : HI} (h : HFr I X) : MAf I X ∨ True := Or.inr trivial
theorem TFr_of {I X X2 Y : HI} (q : QFr I X) (c : CAf X X2) (m : MAf X2 Y) : TFr I Y := by
  refine ⟨fun k hk => ?_, fun j hj => ?_, fun j h1 h2 h3 h4 h5 => ?_⟩
  · rw [m.1 k (by omega) (by omega) (by omega) (by omega), c.1 k (by omega) (by omega) (by omega) (by omega), q.1 k (by omega) (by omega) (by omega)]
  · rw [m.1 62 (by omega) (by omega) (by omega) (by omega), c.1 62 (by omega) (by omega) (by omega) (by omega), q.2.1 j hj]
  · rw [m.2 j h1 h2 h3 h4 h5, c.1 489 (by omega) (by omega) (by omega) (by omega), q.1 489 (by omega) (by omega) (by omega)]
/-- what is kept of plans behind an act -/
theorem fin_plan {X X2 Y : HI} {cs cs' : Int → List Int} (r : RDP X cs) (c : CAf X X2) (m : MAf X2 Y) (h7 : Y 32 7 ≠ 0 ∨ cs' = cs) : RCu Y ∧ ROpt Y cs' ∧ RPl Y ∧ Y 69 11 = X 69 11 := by
  have f : CF X Y := CF_tr (CF_ca c) (CF_ma m)
  have k : ∀ k, k ≠ 32 → k ≠ 33 → k ≠ 35 → (k < 37 ∨ 56 < k) → k ≠ 489 → k ≠ 529 → k ≠ 530 → (k < 532 ∨ 555 < k) → Y k = X k := fun k h1 h2 h3 h4 h5 h6 h7 h8 => by rw [m.1 k h5 h6 h7 h8, c.1 k h1 h2 h3 h4]
  have e63 : Y 489 63 = X 489 63 := by rw [m.2 63 (by decide) (by decide) (by decide) (by decide) (by decide), c.1 489 (by omega) (by omega) (by omega) (by omega)]
  have e64 : Y 489 64 = X 489 64 := by rw [m.2 64 (by decide) (by decide) (by decide) (by decide) (by decide), c.1 489 (by omega) (by omega) (by omega) (by omega)]
  have e8 : Y 32 8 = 0 := by rw [m.1 32 (by omega) (by omega) (by omega) (by omega), c.2 8 (by decide) (by decide) (by decide)]; exact r.2.1.2.1
  have e9 : Y 32 9 = 0 := by rw [m.1 32 (by omega) (by omega) (by omega) (by omega), c.2 9 (by decide) (by decide) (by decide)]; exact r.2.1.2.2
  have kk : ∀ j, 57 ≤ j → j ≤ 481 → Y j = X j := fun j h1 h2 => k j (by omega) (by omega) (by omega) (by omega) (by omega) (by omega) (by omega) (by omega)
  obtain ⟨hk, hfl, _, _, hP, _⟩ := id r
  have F : FIT Y cs False := FIT_fr f e63 e64 (kk 75 (by omega) (by omega)) (kk 76 (by omega) (by omega)) hk.2.2.2.1
  have f518 := f.1 518 (by omega)
  refine ⟨RCu_fr hk.2.2.2.2 (fun j j1 j2 => kk j (by omega) (by omega)) f518 (f.1 524 (by omega)) (f.1 526 (by omega)) (f.1 527 (by omega)), ⟨fun _ => RTs_fr f e63 hk.1.1.1.2.2.1.2 (fun j j1 j2 => kk j (by omega) (by omega)) hk.2.1, ?_, fun _ _ => ?_⟩, ⟨?_, fun h1 h2 _ _ => ?_⟩, by rw [kk 69 (by omega) (by omega)]⟩
  · have := hk.2.2.1
    unfold SUB at this ⊢
    rw [kk 75 (by omega) (by omega), kk 76 (by omega) (by omega)]
    exact this
  · rcases h7 with w | w
    · intro a b ab b1 x y x1 y1 hz
      exact FIT_cs (cs' := cs') F a b ab b1 x y x1 y1 (fun _ => hz w)
    · rw [w]
      exact fun a b ab b1 x y x1 y1 _ => F a b ab b1 x y x1 y1 (fun z => z.elim)
  · rw [kk 477 (by omega) (by omega), kk 69 (by omega) (by omega)]
    exact hP.1
  · rw [kk 477 (by omega) (by omega)] at h1 h2
    rw [kk 69 (by omega) (by omega)] at h2
    obtain ⟨g1, g2⟩ := hP.2 h1 h2 hfl.2.1 hfl.2.2
    rw [kk 477 (by omega) (by omega), f518, kk 481 (by omega) (by omega)]
    exact ⟨fun cs => SOL_fr f e63 e64 (g1 cs), MSs_fr g2 (by rw [kk 477 (by omega) (by omega)]) (kk 479 (by omega) (by omega)) f518⟩
theorem WRel_fr {I X : HI} {cs : Int → List Int} {H : List Sn} (h : WRel I cs H) (n4 : I 518 6 ≤ 4) (f : CF I X) (e63 : X 489 63 = I 489 63) (e64 : X 489 64 = I 489 64) (e71 : X 489 71 = I 489 71) (e72 : X 489 72 = I 489 72) (e33 : X 33 = I 33) (e35 : X 35 = I 35) (e5 : X 32 5 = I 32 5) (e6 : X 32 6 = I 32 6) (et : ∀ k, 37 ≤ k → k ≤ 56 → X k = I k) (e2 : ∀ j, j < 4 → X 532 j = I 532 j) (e3 : ∀ j, j < 96 → X 533 j = I 533 j ∧ X 534 j = I 534 j ∧ X 535 j = I 535 j) (ek : ∀ k, 536 ≤ k → k ≤ 541 → X k = I k) : WRel X cs H := by
  obtain ⟨h1, h2, h3, h4, h5, h6, h7⟩ := h
  have f518 := f.1 518 (by omega)
  have f521 := f.1 521 (by omega)
  have f522 := f.1 522 (by omega)
  refine ⟨ClW_fr h1 f518 f521 f522 e33 n4 et, MoW_fr h2 f518 f521 f522 n4 (fun s s0 s1 => by rw [wy_len]; exact (h3.1 s s0 s1).2.1) e2 e3, ?_, by rw [e33, e63, e64]; exact h4, ClH_fr h5 f518 e5 e6 e35, MoH_fr h6 f518 f521 f522 e71 e72 ek, fun x hx => VSn_fr f518 f521 f522 (h7 x hx)⟩
  rw [e63, e64]
  exact VSn_fr f518 f521 f522 h3
theorem WRel_q {I X : HI} {cs : Int → List Int} {H : List Sn} (h : WRel I cs H) (n4 : I 518 6 ≤ 4) (q : QFr I X) : WRel X cs H := by
  have k := q.1
  have e489 := sh_q q
  exact WRel_fr h n4 (CF_q q) (by rw [e489]) (by rw [e489]) (by rw [e489]) (by rw [e489]) (k 33 (by omega) (by omega) (by omega)) (k 35 (by omega) (by omega) (by omega)) (q.2.2 5 (by decide) (by decide) (by decide)) (q.2.2 6 (by decide) (by decide) (by decide)) (fun j j1 j2 => k j (by omega) (by omega) (by omega)) (fun j _ => by rw [k 532 (by omega) (by omega) (by omega)]) (fun j _ => ⟨by rw [k 533 (by omega) (by omega) (by omega)], by rw [k 534 (by omega) (by omega) (by omega)], by rw [k 535 (by omega) (by omega) (by omega)]⟩) (fun j j1 j2 => k j (by omega) (by omega) (by omega))
theorem WRel_h {I X : HI} {cs : Int → List Int} {H : List Sn} (h : WRel I cs H) (n4 : I 518 6 ≤ 4) (q : HFr I X) : WRel X cs H := by
  have k := q.1
  have j := q.2.1
  exact WRel_fr h n4 (CF_h q) (j 63 (by decide) (by decide) (by decide)) (j 64 (by decide) (by decide) (by decide)) (j 71 (by decide) (by decide) (by decide)) (j 72 (by decide) (by decide) (by decide)) (k 33 (by omega) (by omega) (by omega) (by omega) (by omega)) (k 35 (by omega) (by omega) (by omega) (by omega) (by omega)) (by rw [k 32 (by omega) (by omega) (by omega) (by omega) (by omega)]) (by rw [k 32 (by omega) (by omega) (by omega) (by omega) (by omega)]) (fun c c1 c2 => k c (by omega) (by omega) (by omega) (by omega) (by omega)) q.2.2.1 q.2.2.2 (fun c c1 c2 => k c (by omega) (by omega) (by omega) (by omega) (by omega))
theorem MAf_of {I X : HI} (h : HFr I X) : MAf I X := ⟨fun k h1 h2 h3 h4 => h.1 k h1 h2 h3 (by omega) (by omega), fun j h1 _ _ h4 h5 => h.2.1 j h1 h4 h5⟩
/-- the end of an act of planning -/
def EFin (I Y : HI) (cs : Int → List Int) (H : List Sn) : Prop := TFr I Y ∧ WRel Y cs H ∧ RCu Y ∧ ROpt Y cs ∧ RPl Y ∧ (I 69 11 ≤ Y 69 11 ∧ Y 69 11 ≤ I 69 11 + 1)
theorem VrC_b {I Y : HI} (h : VrC I Y) : I 69 11 ≤ Y 69 11 ∧ Y 69 11 ≤ I 69 11 + 1 := by
  rcases h with w | w <;> omega
theorem EF_plan {I X Y : HI} {cs : Int → List Int} {H : List Sn} (hw : WRel I cs H) (n4 : I 518 6 ≤ 4) (q : QFr I X) (r : RDP X cs) (v : VrC I X) (m : HFr X Y) : EFin I Y cs H := by
  have c : CAf X X := ⟨fun _ _ _ _ _ => rfl, fun _ _ _ _ => rfl⟩
  obtain ⟨g1, g2, g3, g4⟩ := fin_plan (cs' := cs) r c (MAf_of m) (Or.inr rfl)
  refine ⟨TFr_of q c (MAf_of m), WRel_h (WRel_q hw n4 q) (by rw [(CF_q q).1 518 (by omega)]; exact n4) m, g1, g2, g3, ?_⟩
  rw [g4]
  exact VrC_b v
theorem kp_f {I : HI} {H : List Sn} (h : ClH I H) (hv : ∀ x ∈ H, ∀ s : Int, 0 ≤ s → s < I 518 6 → (x.1 s).length ≤ 24) (n4 : I 518 6 ≤ 4) : ClH (kpC I) H := by
  obtain ⟨h1, h2, h3, h4, h5⟩ := h
  have e32 : kpC I 32 = I 32 := kpC_f (by decide)
  have e518 : kpC I 518 = I 518 := kpC_f (by decide)
  refine ⟨by rw [e32]; exact h1, h2, by rw [e32]; exact h3, by rw [e32]; exact h4, fun i x hi => ?_⟩
  have il := ge_lt hi
  obtain ⟨g1, g2, g3⟩ := h5 i x hi
  have tp : tpC I = ((I 32 5 + I 32 6) % 21).toNat := rfl
  have o : ∀ j, j < 102 → kpC I 35 (((I 32 5 + I 32 6 + 20 - i) % 21).toNat * 102 + j) = I 35 (((I 32 5 + I 32 6 + 20 - i) % 21).toNat * 102 + j) := fun j hj => by
    unfold kpC
    exact cpI_o (by omega)
  unfold SnC
  rw [e32, e518]
  refine ⟨by rw [o 100 (by omega)]; exact g1, by rw [o 101 (by omega)]; exact g2, fun s s0 s1 => EC_cp (g3 s s0 s1) s0 (by omega) (hv x (List.mem_of_getElem? hi) s s0 s1) (fun j hj => o j (by omega))⟩
section TK
variable {d : Nat} {I : HI} {K : HI → Prop} {KI : Int → HI → Prop} {K2 : Int → Int → HI → Prop} {cs : Int → List Int} {H : List Sn}
def NWf (I X : HI) : Prop := (∀ k, (k < 532 ∨ 535 < k) → X k = I k) ∧ (∀ j, 4 ≤ j → X 532 j = I 532 j) ∧ (∀ j, 96 ≤ j → X 533 j = I 533 j ∧ X 534 j = I 534 j ∧ X 535 j = I 535 j)
end TK
