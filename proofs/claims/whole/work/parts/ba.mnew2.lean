section NW2
variable {d : Nat} {X I : HI} {K : HI → Prop} {t : Txt} {i : Nat} {bg : Int}
theorem nn1_MSf {Z1 : HI} {v : Int} {n : Nat} (f1 : ∀ c, c ≠ 489 → c ≠ 519 → Z1 c = X c) (g1 : ∀ j, j ≠ 2 → j ≠ 4 → j ≠ 36 → Z1 489 j = X 489 j) (w1 : Z1 519 (10 * 1 + n) = v ∧ ∀ j, j ≠ 10 * 1 + n → Z1 519 j = X 519 j) (n4 : n < 10) : MSd X Z1 :=
  ⟨fun c a b => f1 c a (by omega), ⟨fun u _ => by rw [f1 518 (by decide) (by decide)], fun u hu => w1.2 u (by omega), fun u _ => by rw [f1 520 (by decide) (by decide)], fun u _ => by rw [f1 521 (by decide) (by decide)], fun u _ => by rw [f1 522 (by decide) (by decide)], fun u _ => by rw [f1 523 (by decide) (by decide)], fun u _ => by rw [f1 524 (by decide) (by decide)], fun u _ => by rw [f1 526 (by decide) (by decide)], fun u _ => by rw [f1 527 (by decide) (by decide)], fun u _ => by rw [f1 528 (by decide) (by decide)]⟩, fun j a b _ _ c _ _ _ _ _ => g1 j a b c⟩
theorem NMR_w {Y : HI} {n : Nat} {v : Int} (h : NMR X I) (e1 : Y 518 = X 518) (w : Y 519 (10 * 1 + n) = v ∧ ∀ j, j ≠ 10 * 1 + n → Y 519 j = X 519 j) (en : X 518 1 = n) : NMR Y I := by
  obtain ⟨h1, h2, h3, h4, h5⟩ := h
  refine ⟨by rw [e1]; exact h1, h2, h3, fun u hu => ?_, fun u hu => ?_⟩
  · rw [w.2 u (by omega)]
    exact h4 u hu
  · rw [w.2 (10 + u) (by have := h1.2; omega)]
    exact h5 u hu
theorem c11_newSaintS {n a3 : Nat} {v5 v7 v9 : Int} (ht : TKN t) (hm : MRk t X (i + 1)) (mo : NMR X I) (en : I 15 2 = n) (n4 : n < 4) (h1 : NNs I t (i + 1)) (h2 : WS t (i + 2) 6) (h3 : CTs I t (i + 3) a3) (h4 : WS t (i + 4) 7) (h5 : NUs t (i + 5) 1 5 v5) (h6 : WS t (i + 6) 8) (h7 : NUs t (i + 7) 0 20 v7) (h8 : WS t (i + 8) 9) (h9 : NUs t (i + 9) 0 99 v9) (k : ∀ Y : HI, MSd X Y → MRk t Y (i + 10) → AP1 (X 518) (Y 518) 1 ((n : Int) + 1) → AP1 (X 519) (Y 519) (10 + n) (nmv (uA t) (uS t (i + 1)) (uP t (i + 1) - uS t (i + 1))) → AP4 (X 522) (Y 522) n a3 v5 v7 v9 → (∀ c, c ≠ 489 → c ≠ 518 → c ≠ 519 → c ≠ 522 → Y c = X c) → O9 X Y → K Y) : CV mX11_newSaint (d + 7) [vR 489, vI bg] X K := by
  have x1 : X 518 1 = n := by rw [mo.1.2]; exact en
  refine bk_X11_newSaint_0 (c11_isFull (kd := 1) (by omega) hm.2.2.1.2 (fun e => by omega) (fun _ => ⟨fun _ => ?_, fun z => absurd rfl z⟩))
  refine c11_newNameK (kd := 1) (n := n) (by omega) ht hm mo x1 (by omega) (fun _ Z1 f1 g1 w1 m1 => ?_) (fun k' p' hf => (NN_x h1 hf).elim)
  have mo1 := NMR_w mo (f1 518 (by decide) (by decide)) w1 x1
  refine c11_asksS (w := 6) rfl (by omega) ht m1 h2 (fun Z2 f2 m2 => c11_corS ht m2 (NMR_f mo1 (f2.1 518 (by decide)) (f2.1 519 (by decide))) h3 (fun Z3 f3 _ m3 => c11_asksS (w := 7) rfl (by omega) ht m3 h4 (fun Z4 f4 m4 => c11_numS ht m4 h5 (fun Z5 f5 m5 => c11_asksS (w := 8) rfl (by omega) ht m5 h6 (fun Z6 f6 m6 => c11_numS ht m6 h7 (fun Z7 f7 m7 => c11_asksS (w := 9) rfl (by omega) ht m7 h8 (fun Z8 f8 m8 => c11_numS ht m8 h9 (fun Z9 f9 m9 => ⟨fun _ => ?_, fun z => absurd m9.2.2.1.2 z⟩))))))))
  have f := NTf_tr f2 (NTf_tr f3 (NTf_tr f4 (NTf_tr f5 (NTf_tr f6 (NTf_tr f7 (NTf_tr f8 f9))))))
  have t0 : (4 * (n : Int)).toNat = 4 * n := by omega
  have t1 : (4 * (n : Int) + 1).toNat = 4 * n + 1 := by omega
  have t2 : (4 * (n : Int) + 2).toNat = 4 * n + 2 := by omega
  have t3 : (4 * (n : Int) + 3).toNat = 4 * n + 3 := by omega
  rw [t0, t1, t2, t3]
  refine ⟨by omega, by omega, fun J1 e1 => ⟨by omega, by omega, by omega, fun J2 e2 => ⟨by omega, by omega, by omega, fun J3 e3 => ⟨by omega, by omega, by omega, fun J4 e4 => ?_⟩⟩⟩⟩
  have z518 : J4 518 = X 518 := by rw [e4, up_k (by decide), e3, up_k (by decide), e2, up_k (by decide), e1, up_k (by decide), f.1 518 (by decide), f1 518 (by decide) (by decide)]
  rw [z518, x1]
  refine ⟨by omega, fun J5 e5 => PV_i (k J5 (MSd_tr (nn1_MSf f1 g1 w1 (by omega)) (MSd_tr (MSd_n f) (MSd_tr (MSd_up e1 (by show _ < _; omega)) (MSd_tr (MSd_up e2 (by show _ < _; omega)) (MSd_tr (MSd_up e3 (by show _ < _; omega)) (MSd_tr (MSd_up e4 (by show _ < _; omega)) (MSd_up e5 (by show _ < _; omega)))))))) (MRk_c m9 (fun c hc => by rw [e5, up_k (by omega), e4, up_k (by omega), e3, up_k (by omega), e2, up_k (by omega), e1, up_k (by omega)]) (fun j _ _ => by rw [e5, up_k (by decide), e4, up_k (by decide), e3, up_k (by decide), e2, up_k (by decide), e1, up_k (by decide)])) ⟨?_, fun u hu => ?_⟩ ⟨?_, fun u hu => ?_⟩ ⟨⟨?_, ?_, ?_, ?_⟩, fun u hu => ?_⟩ (fun c a1 a2 a3 a4 => ?_) (fun j a b c => ?_))⟩
  · rw [e5, up_s]
  · rw [e5, up_n (by omega), z518]
  · rw [e5, up_k (by decide), e4, up_k (by decide), e3, up_k (by decide), e2, up_k (by decide), e1, up_k (by decide), f.1 519 (by decide)]; exact w1.1
  · rw [e5, up_k (by decide), e4, up_k (by decide), e3, up_k (by decide), e2, up_k (by decide), e1, up_k (by decide), f.1 519 (by decide)]; exact w1.2 u (by omega)
  · rw [e5, up_k (by decide), e4, up_n (by omega), e3, up_n (by omega), e2, up_n (by omega), e1, up_s]
  · rw [e5, up_k (by decide), e4, up_n (by omega), e3, up_n (by omega), e2, up_s]
  · rw [e5, up_k (by decide), e4, up_n (by omega), e3, up_s]
  · rw [e5, up_k (by decide), e4, up_s]
  · rw [e5, up_k (by decide), e4, up_n (by omega), e3, up_n (by omega), e2, up_n (by omega), e1, up_n (by omega), f.1 522 (by decide), f1 522 (by decide) (by decide)]
  · rw [e5, up_k a2, e4, up_k a4, e3, up_k a4, e2, up_k a4, e1, up_k a4, f.1 c a1, f1 c a1 a3]
  · rw [e5, up_k (by decide), e4, up_k (by decide), e3, up_k (by decide), e2, up_k (by decide), e1, up_k (by decide), f.2 j a b c, g1 j a b c]
theorem c11_newSaintF {n : Nat} {kf p : Int} (ht : TKN t) (hm : MRk t X (i + 1)) (mo : NMR X I) (en : I 15 2 = n) (n4 : n ≤ 4) (ebg : bg = uS t i) (h : ((¬ I 15 2 < 4 ∧ kf = 5 ∧ p = uS t i) ∨ (I 15 2 < 4 ∧ (NNf I t (i + 1) kf p ∨ (NNs I t (i + 1) ∧ (WFx t (i + 2) 6 kf p ∨ (WS t (i + 2) 6 ∧ (CTf I t (i + 3) kf p ∨ (∃ a3, CTs I t (i + 3) a3 ∧ (WFx t (i + 4) 7 kf p ∨ (WS t (i + 4) 7 ∧ (NUf t (i + 5) 1 5 kf p ∨ (∃ v5, NUs t (i + 5) 1 5 v5 ∧ (WFx t (i + 6) 8 kf p ∨ (WS t (i + 6) 8 ∧ (NUf t (i + 7) 0 20 kf p ∨ (∃ v7, NUs t (i + 7) 0 20 v7 ∧ (WFx t (i + 8) 9 kf p ∨ (WS t (i + 8) 9 ∧ NUf t (i + 9) 0 99 kf p))))))))))))))))))) (k : ∀ Y : HI, MFq X Y kf p → K Y) : CV mX11_newSaint (d + 7) [vR 489, vI bg] X K := by
  have x1 : X 518 1 = n := by rw [mo.1.2]; exact en
  have q10 : X 518 0 ≤ 10 ∧ 0 ≤ X 518 0 := by rw [mo.1.1]; have := mo.2.1; omega
  rcases h with ⟨h0, e1, e2⟩ | ⟨h0, h⟩
  · subst e1; subst e2; subst ebg
    exact bk_X11_newSaint_0 (c11_isFull (kd := 1) (by omega) hm.2.2.1.2 (fun e Y fY => ⟨fun z => by omega, fun _ => PV_i (k Y (MFq_l (MSd_rfl X) fY (by decide)))⟩) (fun e => by omega))
  · refine bk_X11_newSaint_0 (c11_isFull (kd := 1) (by omega) hm.2.2.1.2 (fun e => by omega) (fun _ => ⟨fun _ => ?_, fun z => absurd rfl z⟩))
    rcases h with hf | ⟨h1, h⟩
    · refine c11_newNameK (kd := 1) (n := n) (by omega) ht hm mo x1 (by omega) (fun hn => (NN_x hn hf).elim) (fun k' p' hf' Y fY => ?_)
      obtain ⟨e1, e2⟩ := NNf_u hf hf'
      subst e1; subst e2
      have fq := MFq_n (MSd_rfl X) fY (NNf_k hf)
      have hb := MFq_b fq
      exact aB (w := 6) rfl (by omega) hb (c11_cornerB (q0 := (X 518 0).toNat) (by rw [fY.1 518 (by decide)]; omega) (by omega) hb (fun x' _ => aB (w := 7) rfl (by omega) hb (c11_numberB hb (aB (w := 8) rfl (by omega) hb (c11_numberB hb (aB (w := 9) rfl (by omega) hb (c11_numberB hb ⟨fun z => absurd z hb, fun _ => PV_i (k Y fq)⟩)))))))
    · refine c11_newNameK (kd := 1) (n := n) (by omega) ht hm mo x1 (by omega) (fun _ Z1 f1 g1 w1 m1 => ?_) (fun k' p' hf => (NN_x h1 hf).elim)
      have s1 := nn1_MSf f1 g1 w1 (by omega)
      have mo1 := NMR_w mo (f1 518 (by decide) (by decide)) w1 x1
      have z0 : Z1 518 0 = X 518 0 := by rw [f1 518 (by decide) (by decide)]
      rcases h with hw | ⟨h2, h⟩
      · refine c11_asksW (w := 6) rfl (by omega) ht m1 (fun u v => absurd ⟨u, v⟩ hw.1) (fun _ Z Y fZ fY => ?_)
        obtain ⟨_, e1, e2⟩ := hw
        subst e1; subst e2
        have fq := MFq_l (MSd_tr s1 (MSd_n (NTf_l fZ))) fY (by decide)
        have hb := MFq_b fq
        exact c11_cornerB (q0 := (X 518 0).toNat) (by rw [fY.1 518 (by decide), fZ.1 518 (by decide), z0]; omega) (by omega) hb (fun x' _ => aB (w := 7) rfl (by omega) hb (c11_numberB hb (aB (w := 8) rfl (by omega) hb (c11_numberB hb (aB (w := 9) rfl (by omega) hb (c11_numberB hb ⟨fun z => absurd z hb, fun _ => PV_i (k Y fq)⟩))))))
      · refine c11_asksS (w := 6) rfl (by omega) ht m1 h2 (fun Z2 f2 m2 => ?_)
        have mo2 := NMR_f mo1 (f2.1 518 (by decide)) (f2.1 519 (by decide))
        have s2 := MSd_tr s1 (MSd_n f2)
        rcases h with hf | ⟨a3, h3, h⟩
        · exact c11_corF ht m2 mo2 s2 hf (fun x Y hx fq sm => aB (w := 7) rfl (by omega) (MFq_b fq) (c11_numberB (MFq_b fq) (aB (w := 8) rfl (by omega) (MFq_b fq) (c11_numberB (MFq_b fq) (aB (w := 9) rfl (by omega) (MFq_b fq) (c11_numberB (MFq_b fq) ⟨fun z => absurd z (MFq_b fq), fun _ => PV_i (k Y fq)⟩))))))
        · refine c11_corS ht m2 mo2 h3 (fun Z3 f3 _ m3 => ?_)
          have s3 := MSd_tr s2 (MSd_n f3)
          rcases h with hw | ⟨h4, h⟩
          · exact c11_asksF (w := 7) rfl (by omega) ht m3 s3 hw (fun Y fq => c11_numberB (MFq_b fq) (aB (w := 8) rfl (by omega) (MFq_b fq) (c11_numberB (MFq_b fq) (aB (w := 9) rfl (by omega) (MFq_b fq) (c11_numberB (MFq_b fq) ⟨fun z => absurd z (MFq_b fq), fun _ => PV_i (k Y fq)⟩)))))
          · refine c11_asksS (w := 7) rfl (by omega) ht m3 h4 (fun Z4 f4 m4 => ?_)
            have s4 := MSd_tr s3 (MSd_n f4)
            rcases h with hu | ⟨v5, h5, h⟩
            · exact c11_numF ht m4 s4 hu (fun x Y hx fq => aB (w := 8) rfl (by omega) (MFq_b fq) (c11_numberB (MFq_b fq) (aB (w := 9) rfl (by omega) (MFq_b fq) (c11_numberB (MFq_b fq) ⟨fun z => absurd z (MFq_b fq), fun _ => PV_i (k Y fq)⟩))))
            · refine c11_numS ht m4 h5 (fun Z5 f5 m5 => ?_)
              have s5 := MSd_tr s4 (MSd_n f5)
              rcases h with hw | ⟨h6, h⟩
              · exact c11_asksF (w := 8) rfl (by omega) ht m5 s5 hw (fun Y fq => c11_numberB (MFq_b fq) (aB (w := 9) rfl (by omega) (MFq_b fq) (c11_numberB (MFq_b fq) ⟨fun z => absurd z (MFq_b fq), fun _ => PV_i (k Y fq)⟩)))
              · refine c11_asksS (w := 8) rfl (by omega) ht m5 h6 (fun Z6 f6 m6 => ?_)
                have s6 := MSd_tr s5 (MSd_n f6)
                rcases h with hu | ⟨v7, h7, h⟩
                · exact c11_numF ht m6 s6 hu (fun x Y hx fq => aB (w := 9) rfl (by omega) (MFq_b fq) (c11_numberB (MFq_b fq) ⟨fun z => absurd z (MFq_b fq), fun _ => PV_i (k Y fq)⟩))
                · refine c11_numS ht m6 h7 (fun Z7 f7 m7 => ?_)
                  have s7 := MSd_tr s6 (MSd_n f7)
                  rcases h with hw | ⟨h8, hu⟩
                  · exact c11_asksF (w := 9) rfl (by omega) ht m7 s7 hw (fun Y fq => c11_numberB (MFq_b fq) ⟨fun z => absurd z (MFq_b fq), fun _ => PV_i (k Y fq)⟩)
                  · exact c11_asksS (w := 9) rfl (by omega) ht m7 h8 (fun Z8 f8 m8 => c11_numF ht m8 (MSd_tr s7 (MSd_n f8)) hu (fun x Y hx fq => ⟨fun z => absurd z (MFq_b fq), fun _ => PV_i (k Y fq)⟩))
end NW2
