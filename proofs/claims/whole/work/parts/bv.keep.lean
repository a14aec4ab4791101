section KP
variable {m : Nat} {I Y : HI} {cs cs' : Int → List Int} {H H' : List Sn}
theorem REL_w (hb : BAS (m + 1) I) (hd : DYN I cs H) (w : WRel Y cs' H') (f : WFr I Y) (c : WCh I Y cs cs') : REL m Y := by
  have cf : CF I Y := ⟨fun k hk => f.1 k (by omega) (by omega) (by omega) (by omega) (by omega) (by omega), f.2 44 (by decide) (by decide) (by decide) (by decide)⟩
  have e69 : Y 69 = I 69 := f.1 69 (by omega) (by omega) (by omega) (by omega) (by omega) (by omega)
  refine ⟨BAS_fr hb cf (fun k hk => f.1 k (by omega) (by omega) (by omega) (by omega) (by omega) (by omega)) (fun j hj => f.2 j (by omega) (by omega) (by omega) (by omega)) (by rw [f.1 62 (by omega) (by omega) (by omega) (by omega) (by omega) (by omega)]) (by rw [e69]; omega), cs', H', ?_⟩
  exact DYN_c hd (BAS_4 hb) cf w (RCu_fr hd.2.2.2 (fun k k1 k2 => f.1 k (by omega) (by omega) (by omega) (by omega) (by omega) (by omega)) (cf.1 518 (by omega)) (cf.1 524 (by omega)) (cf.1 526 (by omega)) (cf.1 527 (by omega))) (fun k k1 k2 => f.1 k (by omega) (by omega) (by omega) (by omega) (by omega) (by omega)) (c.1.imp id (fun q => ⟨q.1, q.2.1⟩)) c.2.1 c.2.2
theorem REL_b (hb : BAS (m + 1) I) (hd : DYN I cs H) (w : WRel Y cs' H') (f : WFrB I Y) (c : WCh I Y cs cs') (y0 : Y 0 12 = 0) (y1 : Y 489 1 = 0) : REL m Y := by
  have cf : CF I Y := ⟨fun k hk => f.1 k (by omega) (by omega) (by omega) (by omega) (by omega) (by omega) (by omega) (by omega), f.2.2 44 (by decide) (by decide) (by decide) (by decide) (by decide)⟩
  have ek : ∀ k, k ≠ 0 → k ≠ 489 → (k < 32 ∨ 56 < k) → (k < 532 ∨ 545 < k) → Y k = I k := fun k k1 k2 k3 k4 => f.1 k k1 (by omega) (by omega) (by omega) (by omega) (by omega) k2 k4
  obtain ⟨h1, ⟨t1, t2, t3, t4⟩, ⟨h3, h4⟩, h5, h6, h7⟩ := id hb
  refine ⟨BAS_g hb (STC_fr h1 cf) ?_ (RIm_f t2 (f.2.1 13 (by decide)) (ek 488 (by omega) (by omega) (by omega) (by omega)) (ek 556 (by omega) (by omega) (by omega) (by omega)) (f.2.2 90 (by decide) (by decide) (by decide) (by decide) (by decide))) ?_ (fun k k1 k2 => ek k (by omega) (by omega) (by omega) (by omega)) (RNi_f h3 (ek 67 (by omega) (by omega) (by omega) (by omega)) (ek 68 (by omega) (by omega) (by omega) (by omega))) ?_ ?_ ?_, cs', H', ?_⟩
  · rw [y0, y1]
    exact ⟨rfl, by omega, by omega, fun j hj => by omega⟩
  · rw [f.2.1 14 (by decide), f.2.1 15 (by decide), f.2.2 7 (by decide) (by decide) (by decide) (by decide) (by decide), f.2.2 8 (by decide) (by decide) (by decide) (by decide) (by decide)]
    exact t3
  · rw [ek 69 (by omega) (by omega) (by omega) (by omega)]; omega
  · rw [ek 62 (by omega) (by omega) (by omega) (by omega)]; omega
  · rw [ek 28 (by omega) (by omega) (by omega) (by omega)]; omega
  · exact DYN_c hd (BAS_4 hb) cf w (RCu_fr hd.2.2.2 (fun k k1 k2 => ek k (by omega) (by omega) (by omega) (by omega)) (cf.1 518 (by omega)) (cf.1 524 (by omega)) (cf.1 526 (by omega)) (cf.1 527 (by omega))) (fun k k1 k2 => ek k (by omega) (by omega) (by omega) (by omega)) (c.1.imp id (fun q => ⟨q.1, q.2.1⟩)) c.2.1 c.2.2
theorem REL_x {X : HI} (hb : BAS (m + 1) I) (hd : DYN I cs H) (l : LFr I X) (rc : RCu X) (x : XFr X Y) : REL m Y := by
  have cf : CF I Y := CF_tr (CF_l l) (CF_x x)
  have ek : ∀ k, k ≠ 489 → k ≠ 529 → k ≠ 530 → (k < 57 ∨ 66 < k) → Y k = I k := fun k k1 k2 k3 k4 => by rw [x.1 k k1 k2 k3, l.1 k k4]
  have ej : ∀ j, j ≠ 56 → Y 489 j = I 489 j := fun j hj => by rw [x.2 j hj, l.1 489 (by omega)]
  have e62 : Y 62 5 = I 62 5 := by rw [x.1 62 (by omega) (by omega) (by omega), l.2 5 (by decide)]
  refine ⟨BAS_fr hb cf (fun k hk => ek k (by omega) (by omega) (by omega) (by omega)) (fun j hj => ej j (by omega)) e62 (by rw [ek 69 (by omega) (by omega) (by omega) (by omega)]; omega), cs, H, ?_⟩
  have cx := CF_x x
  exact DYN_f hd (BAS_4 hb) cf (RCu_fr rc (fun k k1 k2 => x.1 k (by omega) (by omega) (by omega)) (cx.1 518 (by omega)) (cx.1 524 (by omega)) (cx.1 526 (by omega)) (cx.1 527 (by omega))) (fun k hk => ek k (by omega) (by omega) (by omega) (by omega)) (fun j _ => by rw [ek 532 (by omega) (by omega) (by omega) (by omega)]) (fun j _ => ⟨by rw [ek 533 (by omega) (by omega) (by omega) (by omega)], by rw [ek 534 (by omega) (by omega) (by omega) (by omega)], by rw [ek 535 (by omega) (by omega) (by omega) (by omega)]⟩) (fun j hj => ej j (by omega))
theorem REL_e (hb : BAS (m + 1) I) (e : EFin I Y cs' H') : REL m Y := by
  obtain ⟨f, w, rc, ro, rp, v⟩ := e
  have cf : CF I Y := ⟨fun k hk => f.1 k (by omega), f.2.2 44 (by decide) (by decide) (by decide) (by decide) (by decide)⟩
  exact ⟨BAS_fr hb cf (fun k hk => f.1 k (by omega)) (fun j hj => f.2.2 j (by omega) (by omega) (by omega) (by omega) (by omega)) (f.2.1 5 (by decide)) v, cs', H', w, ro, rp, rc⟩
theorem REL_h (hb : BAS (m + 1) I) (hd : DYN I cs H) (f : HFr I Y) : REL m Y := by
  have cf := CF_h f
  have ek : ∀ k, k ≠ 489 → k ≠ 529 → k ≠ 530 → (k < 532 ∨ 535 < k) → (k < 546 ∨ 555 < k) → Y k = I k := f.1
  refine ⟨BAS_fr hb cf (fun k hk => ek k (by omega) (by omega) (by omega) (by omega) (by omega)) (fun j hj => f.2.1 j (by omega) (by omega) (by omega)) (by rw [ek 62 (by omega) (by omega) (by omega) (by omega) (by omega)]) (by rw [ek 69 (by omega) (by omega) (by omega) (by omega) (by omega)]; omega), cs, H, ?_⟩
  exact DYN_f hd (BAS_4 hb) cf (RCu_fr hd.2.2.2 (fun k k1 k2 => ek k (by omega) (by omega) (by omega) (by omega) (by omega)) (cf.1 518 (by omega)) (cf.1 524 (by omega)) (cf.1 526 (by omega)) (cf.1 527 (by omega))) (fun k hk => ek k (by omega) (by omega) (by omega) (by omega) (by omega)) f.2.2.1 f.2.2.2 (fun j hj => f.2.1 j (by omega) (by omega) (by omega))
/-- only things that bear on nothing else: drums (meet), marks (clashes) -/
theorem REL_n (hb : BAS (m + 1) I) (hd : DYN I cs H) (e : ∀ k, (k < 57 ∨ 61 < k) → k ≠ 67 → k ≠ 68 → Y k = I k) (rn : RNi Y ∧ Y 67 5 ≤ I 67 5 + 16) : REL m Y := by
  obtain ⟨h1, ⟨t1, t2, t3, t4⟩, ⟨h3, h4⟩, h5, h6, h7⟩ := id hb
  have cf : CF I Y := ⟨fun k hk => e k (by omega) (by omega) (by omega), by rw [e 489 (by omega) (by omega) (by omega)]⟩
  have e489 := e 489 (by omega) (by omega) (by omega)
  have e0 := e 0 (by omega) (by omega) (by omega)
  refine ⟨BAS_g hb (STC_fr h1 cf) ?_ (RIm_f t2 (by rw [e0]) (e 488 (by omega) (by omega) (by omega)) (e 556 (by omega) (by omega) (by omega)) (by rw [e489])) (by rw [e0, e489]; exact t3) (fun k k1 k2 => e k (by omega) (by omega) (by omega)) rn ?_ ?_ ?_, cs, H, ?_⟩
  · rw [e0, e489, e 27 (by omega) (by omega) (by omega), e 490 (by omega) (by omega) (by omega)]
    exact t1
  · rw [e 69 (by omega) (by omega) (by omega)]; omega
  · rw [e 62 (by omega) (by omega) (by omega)]; omega
  · rw [e 28 (by omega) (by omega) (by omega)]; omega
  · exact DYN_f hd (BAS_4 hb) cf (RCu_fr hd.2.2.2 (fun k k1 k2 => e k (by omega) (by omega) (by omega)) (cf.1 518 (by omega)) (cf.1 524 (by omega)) (cf.1 526 (by omega)) (cf.1 527 (by omega))) (fun k hk => e k (by omega) (by omega) (by omega)) (fun j _ => by rw [e 532 (by omega) (by omega) (by omega)]) (fun j _ => ⟨by rw [e 533 (by omega) (by omega) (by omega)], by rw [e 534 (by omega) (by omega) (by omega)], by rw [e 535 (by omega) (by omega) (by omega)]⟩) (fun j _ => by rw [e489])
/-- only the tape, or the image -/
theorem REL_o (hb : BAS (m + 1) I) (hd : DYN I cs H) (e : ∀ k, k ≠ 0 → k ≠ 27 → k ≠ 488 → k ≠ 489 → k ≠ 490 → k ≠ 556 → Y k = I k) (e0 : ∀ j, j ≠ 12 → j ≠ 13 → Y 0 j = I 0 j) (g : ∀ j, j ≠ 1 → j ≠ 90 → Y 489 j = I 489 j) (t : RTape (Y 0 12) (Y 27) (Y 489 1) (Y 490)) (i : RIm Y) : REL m Y := by
  obtain ⟨h1, ⟨t1, t2, t3, t4⟩, ⟨h3, h4⟩, h5, h6, h7⟩ := id hb
  have ek : ∀ k, (0 < k ∧ k < 27) ∨ (27 < k ∧ k < 488) ∨ (490 < k ∧ k < 556) → Y k = I k := fun k hk => e k (by omega) (by omega) (by omega) (by omega) (by omega) (by omega)
  have cf : CF I Y := ⟨fun k hk => ek k (by omega), g 44 (by decide) (by decide)⟩
  refine ⟨BAS_g hb (STC_fr h1 cf) t i ?_ (fun k k1 k2 => ek k (by omega)) (RNi_f h3 (ek 67 (by omega)) (ek 68 (by omega))) ?_ ?_ ?_, cs, H, ?_⟩
  · rw [e0 14 (by decide) (by decide), e0 15 (by decide) (by decide), g 7 (by decide) (by decide), g 8 (by decide) (by decide)]
    exact t3
  · rw [ek 69 (by omega)]; omega
  · rw [ek 62 (by omega)]; omega
  · rw [ek 28 (by omega)]; omega
  · exact DYN_f hd (BAS_4 hb) cf (RCu_fr hd.2.2.2 (fun k k1 k2 => ek k (by omega)) (cf.1 518 (by omega)) (cf.1 524 (by omega)) (cf.1 526 (by omega)) (cf.1 527 (by omega))) (fun k hk => ek k (by omega)) (fun j _ => by rw [ek 532 (by omega)]) (fun j _ => ⟨by rw [ek 533 (by omega)], by rw [ek 534 (by omega)], by rw [ek 535 (by omega)]⟩) (fun j hj => g j (by omega) (by omega))
end KP
/-- the reference's draft as it is behind a fault, all else as before -/
def midF (I Y : HI) : HI := fun k => if 518 ≤ k ∧ k ≤ 528 then Y k else I k
theorem REL_F {m : Nat} {I Y : HI} (h : REL (m + 1) I) (c : CYF I Y) : REL m Y := by
  obtain ⟨hb, cs, H, hd⟩ := h
  obtain ⟨c1, ⟨y0, y1, y7, y8, yj⟩, ⟨q1, q2, q3, q4, q5, q6, q7, q8, q9, q10⟩, c4, c5⟩ := c
  have jk : ∀ k, 518 ≤ k → k ≤ 528 → midF I Y k = Y k := fun k a b => if_pos ⟨a, b⟩
  have jn : ∀ k, (k < 518 ∨ 528 < k) → midF I Y k = I k := fun k z => if_neg (by omega)
  have u : UPD I (midF I Y) := ⟨jn, fun u hu => by rw [jk 518 (by omega) (by omega)]; exact q1 u hu, fun u hu => by rw [jk 519 (by omega) (by omega)]; exact q2 u hu, fun u hu => by rw [jk 520 (by omega) (by omega)]; exact q3 u hu, fun u hu => by rw [jk 521 (by omega) (by omega)]; exact q4 u hu, fun u hu => by rw [jk 522 (by omega) (by omega)]; exact q5 u hu, fun u hu => by rw [jk 523 (by omega) (by omega)]; exact q6 u hu, fun u hu => by rw [jk 524 (by omega) (by omega)]; exact q7 u hu, fun u hu => by rw [jk 526 (by omega) (by omega)]; exact q8 u hu, fun u hu => by rw [jk 527 (by omega) (by omega)]; exact q9 u hu, fun u hu => by rw [jk 528 (by omega) (by omega)]; exact q10 u hu⟩
  have n4 := BAS_4 hb
  have n4' : midF I Y 518 6 ≤ 4 := by rw [u.2.1 6 (by omega)]; exact n4
  have hh : ∀ s : Nat, (s : Int) < I 518 6 → 0 ≤ hm I (s : Int) := fun s s1 => (hb.1.1.2.1.2 (s : Int) (by omega) s1).1.1
  have g : ∀ j, 8 < j → j ≠ 36 → j ≠ 43 → j ≠ 45 → j ≠ 47 → j ≠ 49 → j ≠ 50 → j ≠ 54 → Y 489 j = I 489 j := fun j hj => c4 j (Or.inr hj)
  have cf : CF (midF I Y) Y := by
    refine ⟨fun k hk => ?_, ?_⟩
    · by_cases q : 518 ≤ k ∧ k ≤ 528
      · rw [jk k q.1 q.2]
      · rw [jn k (by omega)]
        exact c1 k (by omega)
    · rw [jn 489 (by omega)]
      exact g 44 (by decide) (by decide) (by decide) (by decide) (by decide) (by decide) (by decide) (by decide)
  obtain ⟨h1, ⟨t1, t2, t3, t4⟩, ⟨h3, h4⟩, h5, h6, h7⟩ := id hb
  have dJ : DYN (midF I Y) cs H := ⟨WRel_u u n4 hd.1, ROpt_u u n4 hh hd.2.1, RPl_u u hh hd.2.2.1, RCu_u u hd.2.2.2⟩
  have ej : ∀ k, (31 < k ∧ k < 489) ∨ 528 < k → Y k = midF I Y k := fun k hk => by rw [jn k (by omega)]; exact c1 k (by omega)
  refine ⟨BAS_g hb (STC_fr (STC_u h1 u) cf) ?_ (RIm_f t2 (yj 13 (by decide) (by decide) (by decide)) (c1 488 (by omega)) (c1 556 (by omega)) (g 90 (by decide) (by decide) (by decide) (by decide) (by decide) (by decide) (by decide) (by decide))) ⟨y7, y8⟩ (fun k k1 k2 => c1 k (by omega)) (RNi_f h3 (c1 67 (by omega)) (c1 68 (by omega))) ?_ ?_ c5, cs, H, ?_⟩
  · rw [y0, y1]
    exact ⟨rfl, by omega, by omega, fun j hj => by omega⟩
  · rw [c1 69 (by omega)]; omega
  · rw [c1 62 (by omega)]; omega
  · refine DYN_f dJ n4' cf (RCu_fr dJ.2.2.2 (fun k k1 k2 => ej k (by omega)) (cf.1 518 (by omega)) (cf.1 524 (by omega)) (cf.1 526 (by omega)) (cf.1 527 (by omega))) (fun k hk => ej k (by omega)) (fun j _ => by rw [ej 532 (by omega)]) (fun j _ => ⟨by rw [ej 533 (by omega)], by rw [ej 534 (by omega)], by rw [ej 535 (by omega)]⟩) (fun j hj => ?_)
    rw [jn 489 (by omega)]
    exact g j (by omega) (by omega) (by omega) (by omega) (by omega) (by omega) (by omega) (by omega)
theorem REL_S {m mf : Nat} {I Y : HI} (h : REL (m + 1) I) (c : CYS I Y mf) : REL m Y := by
  obtain ⟨hb, cs, H, hd⟩ := h
  obtain ⟨h1, ⟨t1, t2, t3, t4⟩, ⟨h3, h4⟩, h5, h6, h7⟩ := id hb
  obtain ⟨c1, ⟨y0, y14, y15, yj⟩, ⟨y1, y7, y8, g⟩, ⟨v62, v32⟩, v28⟩ := CYS_f c
  have hC := hd.1.2.2.2.2.1
  have hM := hd.1.2.2.2.2.2.1
  obtain ⟨w, f7, f8, f9⟩ := CYS_W c ⟨hC.2.2.1, hC.2.2.2.1⟩ ⟨hM.2.2.1, hM.2.2.2.1⟩
  have stc : STC Y := ⟨⟨CYS_CN c, CYS_CSa c, CYS_CLa c, CYS_CSo c, CYS_CRa c, CYS_CCo c, CYS_CPa c, CYS_CPb c, CYS_CWo c⟩, CYS_CNa c, (CYS_CBa c).1, (CYS_CBa c).2⟩
  refine ⟨BAS_g hb stc ?_ (RIm_f t2 (yj 13 (by decide) (by decide) (by decide)) (c1 488 (by omega)) (c1 556 (by omega)) (g 90 (by omega))) ⟨by rw [y14, y7], by rw [y15, y8]⟩ (fun k k1 k2 => c1 k (by omega)) (RNi_f h3 (c1 67 (by omega)) (c1 68 (by omega))) ?_ ?_ v28, (fun _ => []), [], w, ⟨fun z => by omega, ?_, fun z => by omega⟩, ⟨?_, fun _ _ z => by omega⟩, CYS_RCu c hd.2.2.2⟩
  · rw [y0, y1]
    exact ⟨rfl, by omega, by omega, fun j hj => by omega⟩
  · rw [c1 69 (by omega)]; omega
  · rw [v62]; omega
  · have := hd.2.1.2.1
    unfold SUB at this ⊢
    rw [c1 75 (by omega), c1 76 (by omega)]
    exact this
  · rw [c1 477 (by omega), c1 69 (by omega)]
    exact hd.2.2.1.1
