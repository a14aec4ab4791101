section NW3
variable {d : Nat} {X I : HI} {K : HI → Prop} {t : Txt} {i : Nat} {bg : Int}
theorem c11_newBalconyS {nb a2 : Nat} {v4 v6 v8 : Int} (ht : TKN t) (hm : MRk t X (i + 1)) (mo : NMR X I) (en : X 518 3 = nb) (n10 : nb < 10) (h1 : WS t (i + 1) 6) (h2 : CTs I t (i + 2) a2) (h3 : WS t (i + 3) 11) (h4 : NUs t (i + 4) 0 999 v4) (h5 : WS t (i + 5) 12) (h6 : NUs t (i + 6) v4 999 v6) (h7 : WS t (i + 7) 13) (h8 : NUs t (i + 8) 1 99 v8) (k : ∀ Y : HI, MSd X Y → MRk t Y (i + 9) → AP1 (X 518) (Y 518) 3 ((nb : Int) + 1) → AP4 (X 523) (Y 523) nb a2 v4 v6 v8 → (∀ c, c ≠ 489 → c ≠ 518 → c ≠ 523 → Y c = X c) → O9 X Y → K Y) : CV mX11_newBalcony (d + 7) [vR 489, vI bg] X K := by
  have t0 : (4 * (nb : Int)).toNat = 4 * nb := by omega
  have t1 : (4 * (nb : Int) + 1).toNat = 4 * nb + 1 := by omega
  have t2 : (4 * (nb : Int) + 2).toNat = 4 * nb + 2 := by omega
  have t3 : (4 * (nb : Int) + 3).toNat = 4 * nb + 3 := by omega
  have mu : ∀ {Z Y : HI} {j u : Nat} {v : Int}, MRk t Z j → Y = up Z 523 u v → MRk t Y j := fun m e => MRk_c m (fun c hc => by rw [e, up_k (by omega)]) (fun j _ _ => by rw [e, up_k (by decide)])
  refine bk_X11_newBalcony_0 (c11_isFull (kd := 3) (by omega) hm.2.2.1.2 (fun e => by omega) (fun _ => ⟨fun _ => ?_, fun z => absurd rfl z⟩))
  rw [en, t0, t1, t2, t3]
  refine ⟨by omega, c11_asksS (w := 6) rfl (by omega) ht hm h1 (fun Z1 f1 m1 => c11_corS ht m1 (NMR_f mo (f1.1 518 (by decide)) (f1.1 519 (by decide))) h2 (fun Z2 f2 _ m2 => ⟨by omega, fun J1 e1 => c11_asksS (w := 11) rfl (by omega) ht (mu m2 e1) h3 (fun Z3 f3 m3 => ⟨by omega, c11_numS ht m3 h4 (fun Z4 f4 m4 => ⟨by omega, fun J2 e2 => c11_asksS (w := 12) rfl (by omega) ht (mu m4 e2) h5 (fun Z5 f5 m5 => ⟨by omega, by omega, by omega, ?_⟩)⟩)⟩)⟩))⟩
  have z5 : Z5 523 (4 * nb + 1) = v4 := by rw [f5.1 523 (by decide), e2, up_s]
  rw [z5]
  refine c11_numS ht m5 h6 (fun Z6 f6 m6 => ⟨by omega, fun J3 e3 => c11_asksS (w := 13) rfl (by omega) ht (mu m6 e3) h7 (fun Z7 f7 m7 => ⟨by omega, c11_numS ht m7 h8 (fun Z8 f8 m8 => ⟨by omega, fun J4 e4 => ?_⟩)⟩)⟩)
  have m9 := mu m8 e4
  refine ⟨fun z => absurd m9.2.2.1.2 z, fun _ => ?_⟩
  have z518 : J4 518 = X 518 := by rw [e4, up_k (by decide), f8.1 518 (by decide), f7.1 518 (by decide), e3, up_k (by decide), f6.1 518 (by decide), f5.1 518 (by decide), e2, up_k (by decide), f4.1 518 (by decide), f3.1 518 (by decide), e1, up_k (by decide), f2.1 518 (by decide), f1.1 518 (by decide)]
  rw [z518, en]
  have ms : MSd X J4 := MSd_tr (MSd_n (NTf_tr f1 f2)) (MSd_tr (MSd_up e1 (by show _ < _; omega)) (MSd_tr (MSd_n (NTf_tr f3 f4)) (MSd_tr (MSd_up e2 (by show _ < _; omega)) (MSd_tr (MSd_n (NTf_tr f5 f6)) (MSd_tr (MSd_up e3 (by show _ < _; omega)) (MSd_tr (MSd_n (NTf_tr f7 f8)) (MSd_up e4 (by show _ < _; omega))))))))
  refine ⟨by omega, fun J5 e5 => PV_i (k J5 (MSd_tr ms (MSd_up e5 (by show _ < _; omega))) (MRk_c m9 (fun c hc => by rw [e5, up_k (by omega)]) (fun j _ _ => by rw [e5, up_k (by decide)])) ⟨?_, fun u hu => ?_⟩ ⟨⟨?_, ?_, ?_, ?_⟩, fun u hu => ?_⟩ (fun c a1 a2 a3 => ?_) (fun j a b c => ?_))⟩
  · rw [e5, up_s]
  · rw [e5, up_n (by omega), z518]
  · rw [e5, up_k (by decide), e4, up_n (by omega), f8.1 523 (by decide), f7.1 523 (by decide), e3, up_n (by omega), f6.1 523 (by decide), f5.1 523 (by decide), e2, up_n (by omega), f4.1 523 (by decide), f3.1 523 (by decide), e1, up_s]
  · rw [e5, up_k (by decide), e4, up_n (by omega), f8.1 523 (by decide), f7.1 523 (by decide), e3, up_n (by omega), f6.1 523 (by decide), f5.1 523 (by decide), e2, up_s]
  · rw [e5, up_k (by decide), e4, up_n (by omega), f8.1 523 (by decide), f7.1 523 (by decide), e3, up_s]
  · rw [e5, up_k (by decide), e4, up_s]
  · rw [e5, up_k (by decide), e4, up_n (by omega), f8.1 523 (by decide), f7.1 523 (by decide), e3, up_n (by omega), f6.1 523 (by decide), f5.1 523 (by decide), e2, up_n (by omega), f4.1 523 (by decide), f3.1 523 (by decide), e1, up_n (by omega), f2.1 523 (by decide), f1.1 523 (by decide)]
  · rw [e5, up_k a2, e4, up_k a3, f8.1 c a1, f7.1 c a1, e3, up_k a3, f6.1 c a1, f5.1 c a1, e2, up_k a3, f4.1 c a1, f3.1 c a1, e1, up_k a3, f2.1 c a1, f1.1 c a1]
  · rw [e5, up_k (by decide), e4, up_k (by decide), f8.2 j a b c, f7.2 j a b c, e3, up_k (by decide), f6.2 j a b c, f5.2 j a b c, e2, up_k (by decide), f4.2 j a b c, f3.2 j a b c, e1, up_k (by decide), f2.2 j a b c, f1.2 j a b c]
theorem c11_newBalconyF {nb : Nat} {kf p : Int} (ht : TKN t) (hm : MRk t X (i + 1)) (mo : NMR X I) (en : X 518 3 = nb) (n10 : nb ≤ 10) (ebg : bg = uS t i) (h : ((nb = 10 ∧ kf = 5 ∧ p = uS t i) ∨ (nb < 10 ∧ (WFx t (i + 1) 6 kf p ∨ (WS t (i + 1) 6 ∧ (CTf I t (i + 2) kf p ∨ (∃ a2, CTs I t (i + 2) a2 ∧ (WFx t (i + 3) 11 kf p ∨ (WS t (i + 3) 11 ∧ (NUf t (i + 4) 0 999 kf p ∨ (∃ v4, NUs t (i + 4) 0 999 v4 ∧ (WFx t (i + 5) 12 kf p ∨ (WS t (i + 5) 12 ∧ (NUf t (i + 6) v4 999 kf p ∨ (∃ v6, NUs t (i + 6) v4 999 v6 ∧ (WFx t (i + 7) 13 kf p ∨ (WS t (i + 7) 13 ∧ NUf t (i + 8) 1 99 kf p))))))))))))))))) (k : ∀ Y : HI, MFq X Y kf p → K Y) : CV mX11_newBalcony (d + 7) [vR 489, vI bg] X K := by
  have t0 : (4 * (nb : Int)).toNat = 4 * nb := by omega
  have t1 : (4 * (nb : Int) + 1).toNat = 4 * nb + 1 := by omega
  have t2 : (4 * (nb : Int) + 2).toNat = 4 * nb + 2 := by omega
  have t3 : (4 * (nb : Int) + 3).toNat = 4 * nb + 3 := by omega
  have q10 : X 518 0 ≤ 10 ∧ 0 ≤ X 518 0 := by rw [mo.1.1]; have := mo.2.1; omega
  have mu : ∀ {Z Y : HI} {j u : Nat} {v : Int}, MRk t Z j → Y = up Z 523 u v → MRk t Y j := fun m e => MRk_c m (fun c hc => by rw [e, up_k (by omega)]) (fun j _ _ => by rw [e, up_k (by decide)])
  rcases h with ⟨h0, e1, e2⟩ | ⟨h0, h⟩
  · subst e1; subst e2; subst ebg
    exact bk_X11_newBalcony_0 (c11_isFull (kd := 3) (by omega) hm.2.2.1.2 (fun e Y fY => ⟨fun z => by omega, fun _ => PV_i (k Y (MFq_l (MSd_rfl X) fY (by decide)))⟩) (fun e => absurd (by rw [en, h0]; rfl) e))
  · refine bk_X11_newBalcony_0 (c11_isFull (kd := 3) (by omega) hm.2.2.1.2 (fun e => by omega) (fun _ => ⟨fun _ => ?_, fun z => absurd rfl z⟩))
    rw [en, t0, t1, t2, t3]
    have B4 : ∀ (Z : HI) (x9 : Int), MFq X Z kf p → ((0 : Int) ≤ ((4 * (nb : Int)) + 3) ∧ ((4 * (nb : Int)) + 3 : Int) < 80) ∧ (∀ I13 : HI, I13 = up Z 523 (4 * nb + 3) x9 → (((I13 489 5) ≠ 0 → (PV K) none (mk I13)) ∧ ((I13 489 5) = 0 → (-2147483648 ≤ (I13 518 3) + 1 ∧ (I13 518 3) + 1 ≤ 2147483647) ∧ (∀ I14 : HI, I14 = up I13 518 3 ((I13 518 3) + 1) → (PV K) none (mk I14))))) := fun Z x9 fq => ⟨by omega, fun J e => ⟨fun _ => PV_i (k J (MFq_up fq e (by show _ < _; omega))), fun z => absurd z (MFq_b (MFq_up fq e (by show _ < _; omega)))⟩⟩
    have B3 : ∀ Z : HI, MFq X Z kf p → CV mX11_asks (d + 6) [vR 489, vR 504] Z (fun I11 => (-2147483648 ≤ (4 * (nb : Int)) + 3 ∧ (4 * (nb : Int)) + 3 ≤ 2147483647) ∧ CI mX11_number (d + 6) [vR 489, vI 1, vI 99] I11 (fun x9 I12 => ((0 : Int) ≤ ((4 * (nb : Int)) + 3) ∧ ((4 * (nb : Int)) + 3 : Int) < 80) ∧ (∀ I13 : HI, I13 = up I12 523 (4 * nb + 3) x9 → (((I13 489 5) ≠ 0 → (PV K) none (mk I13)) ∧ ((I13 489 5) = 0 → (-2147483648 ≤ (I13 518 3) + 1 ∧ (I13 518 3) + 1 ≤ 2147483647) ∧ (∀ I14 : HI, I14 = up I13 518 3 ((I13 518 3) + 1) → (PV K) none (mk I14))))))) := fun Z fq => aB (w := 13) rfl (by omega) (MFq_b fq) ⟨by omega, c11_numberB (MFq_b fq) (B4 Z 0 fq)⟩
    have B2 : ∀ Z : HI, MFq X Z kf p → CV mX11_asks (d + 6) [vR 489, vR 503] Z (fun I8 => (-2147483648 ≤ (4 * (nb : Int)) + 2 ∧ (4 * (nb : Int)) + 2 ≤ 2147483647) ∧ (-2147483648 ≤ (4 * (nb : Int)) + 1 ∧ (4 * (nb : Int)) + 1 ≤ 2147483647) ∧ ((0 : Int) ≤ ((4 * (nb : Int)) + 1) ∧ ((4 * (nb : Int)) + 1 : Int) < 80) ∧ CI mX11_number (d + 6) [vR 489, vI (I8 523 (4 * nb + 1)), vI 999] I8 (fun x7 I9 => ((0 : Int) ≤ ((4 * (nb : Int)) + 2) ∧ ((4 * (nb : Int)) + 2 : Int) < 80) ∧ (∀ I10 : HI, I10 = up I9 523 (4 * nb + 2) x7 → CV mX11_asks (d + 6) [vR 489, vR 504] I10 (fun I11 => (-2147483648 ≤ (4 * (nb : Int)) + 3 ∧ (4 * (nb : Int)) + 3 ≤ 2147483647) ∧ CI mX11_number (d + 6) [vR 489, vI 1, vI 99] I11 (fun x9 I12 => ((0 : Int) ≤ ((4 * (nb : Int)) + 3) ∧ ((4 * (nb : Int)) + 3 : Int) < 80) ∧ (∀ I13 : HI, I13 = up I12 523 (4 * nb + 3) x9 → (((I13 489 5) ≠ 0 → (PV K) none (mk I13)) ∧ ((I13 489 5) = 0 → (-2147483648 ≤ (I13 518 3) + 1 ∧ (I13 518 3) + 1 ≤ 2147483647) ∧ (∀ I14 : HI, I14 = up I13 518 3 ((I13 518 3) + 1) → (PV K) none (mk I14)))))))))) := fun Z fq => aB (w := 12) rfl (by omega) (MFq_b fq) ⟨by omega, by omega, by omega, c11_numberB (MFq_b fq) ⟨by omega, fun J e => B3 J (MFq_up fq e (by show _ < _; omega))⟩⟩
    have B1 : ∀ Z : HI, MFq X Z kf p → CV mX11_asks (d + 6) [vR 489, vR 502] Z (fun I5 => (-2147483648 ≤ (4 * (nb : Int)) + 1 ∧ (4 * (nb : Int)) + 1 ≤ 2147483647) ∧ CI mX11_number (d + 6) [vR 489, vI 0, vI 999] I5 (fun x5 I6 => ((0 : Int) ≤ ((4 * (nb : Int)) + 1) ∧ ((4 * (nb : Int)) + 1 : Int) < 80) ∧ (∀ I7 : HI, I7 = up I6 523 (4 * nb + 1) x5 → CV mX11_asks (d + 6) [vR 489, vR 503] I7 (fun I8 => (-2147483648 ≤ (4 * (nb : Int)) + 2 ∧ (4 * (nb : Int)) + 2 ≤ 2147483647) ∧ (-2147483648 ≤ (4 * (nb : Int)) + 1 ∧ (4 * (nb : Int)) + 1 ≤ 2147483647) ∧ ((0 : Int) ≤ ((4 * (nb : Int)) + 1) ∧ ((4 * (nb : Int)) + 1 : Int) < 80) ∧ CI mX11_number (d + 6) [vR 489, vI (I8 523 (4 * nb + 1)), vI 999] I8 (fun x7 I9 => ((0 : Int) ≤ ((4 * (nb : Int)) + 2) ∧ ((4 * (nb : Int)) + 2 : Int) < 80) ∧ (∀ I10 : HI, I10 = up I9 523 (4 * nb + 2) x7 → CV mX11_asks (d + 6) [vR 489, vR 504] I10 (fun I11 => (-2147483648 ≤ (4 * (nb : Int)) + 3 ∧ (4 * (nb : Int)) + 3 ≤ 2147483647) ∧ CI mX11_number (d + 6) [vR 489, vI 1, vI 99] I11 (fun x9 I12 => ((0 : Int) ≤ ((4 * (nb : Int)) + 3) ∧ ((4 * (nb : Int)) + 3 : Int) < 80) ∧ (∀ I13 : HI, I13 = up I12 523 (4 * nb + 3) x9 → (((I13 489 5) ≠ 0 → (PV K) none (mk I13)) ∧ ((I13 489 5) = 0 → (-2147483648 ≤ (I13 518 3) + 1 ∧ (I13 518 3) + 1 ≤ 2147483647) ∧ (∀ I14 : HI, I14 = up I13 518 3 ((I13 518 3) + 1) → (PV K) none (mk I14))))))))))))) := fun Z fq => aB (w := 11) rfl (by omega) (MFq_b fq) ⟨by omega, c11_numberB (MFq_b fq) ⟨by omega, fun J e => B2 J (MFq_up fq e (by show _ < _; omega))⟩⟩
    rcases h with hw | ⟨h1, h⟩
    · refine ⟨by omega, c11_asksW (w := 6) rfl (by omega) ht hm (fun u v => absurd ⟨u, v⟩ hw.1) (fun _ Z Y fZ fY => ?_)⟩
      obtain ⟨_, e1, e2⟩ := hw
      subst e1; subst e2
      have fq := MFq_l (MSd_n (NTf_l fZ)) fY (by decide)
      exact c11_cornerB (q0 := (X 518 0).toNat) (by rw [fY.1 518 (by decide), fZ.1 518 (by decide)]; omega) (by omega) (MFq_b fq) (fun x' _ => ⟨by omega, fun J e => B1 J (MFq_up fq e (by show _ < _; omega))⟩)
    · refine ⟨by omega, c11_asksS (w := 6) rfl (by omega) ht hm h1 (fun Z1 f1 m1 => ?_)⟩
      have mo1 := NMR_f mo (f1.1 518 (by decide)) (f1.1 519 (by decide))
      rcases h with hf | ⟨a2, h2, h⟩
      · exact c11_corF ht m1 mo1 (MSd_n f1) hf (fun x Y hx fq sm => ⟨by omega, fun J e => B1 J (MFq_up fq e (by show _ < _; omega))⟩)
      · refine c11_corS ht m1 mo1 h2 (fun Z2 f2 _ m2 => ⟨by omega, fun J1 e1 => ?_⟩)
        have s2 := MSd_tr (MSd_n (NTf_tr f1 f2)) (MSd_up e1 (by show _ < _; omega))
        rcases h with hw | ⟨h3, h⟩
        · exact c11_asksF (w := 11) rfl (by omega) ht (mu m2 e1) s2 hw (fun Y fq => ⟨by omega, c11_numberB (MFq_b fq) ⟨by omega, fun J e => B2 J (MFq_up fq e (by show _ < _; omega))⟩⟩)
        · refine c11_asksS (w := 11) rfl (by omega) ht (mu m2 e1) h3 (fun Z3 f3 m3 => ⟨by omega, ?_⟩)
          have s3 := MSd_tr s2 (MSd_n f3)
          rcases h with hu | ⟨v4, h4, h⟩
          · exact c11_numF ht m3 s3 hu (fun x Y hx fq => ⟨by omega, fun J e => B2 J (MFq_up fq e (by show _ < _; omega))⟩)
          · refine c11_numS ht m3 h4 (fun Z4 f4 m4 => ⟨by omega, fun J2 e2 => ?_⟩)
            have s4 := MSd_tr s3 (MSd_tr (MSd_n f4) (MSd_up e2 (by show _ < _; omega)))
            rcases h with hw | ⟨h5, h⟩
            · exact c11_asksF (w := 12) rfl (by omega) ht (mu m4 e2) s4 hw (fun Y fq => ⟨by omega, by omega, by omega, c11_numberB (MFq_b fq) ⟨by omega, fun J e => B3 J (MFq_up fq e (by show _ < _; omega))⟩⟩)
            · refine c11_asksS (w := 12) rfl (by omega) ht (mu m4 e2) h5 (fun Z5 f5 m5 => ⟨by omega, by omega, by omega, ?_⟩)
              have z5 : Z5 523 (4 * nb + 1) = v4 := by rw [f5.1 523 (by decide), e2, up_s]
              rw [z5]
              have s5 := MSd_tr s4 (MSd_n f5)
              rcases h with hu | ⟨v6, h6, h⟩
              · exact c11_numF ht m5 s5 hu (fun x Y hx fq => ⟨by omega, fun J e => B3 J (MFq_up fq e (by show _ < _; omega))⟩)
              · refine c11_numS ht m5 h6 (fun Z6 f6 m6 => ⟨by omega, fun J3 e3 => ?_⟩)
                have s6 := MSd_tr s5 (MSd_tr (MSd_n f6) (MSd_up e3 (by show _ < _; omega)))
                rcases h with hw | ⟨h7, hu⟩
                · exact c11_asksF (w := 13) rfl (by omega) ht (mu m6 e3) s6 hw (fun Y fq => ⟨by omega, c11_numberB (MFq_b fq) (B4 Y 0 fq)⟩)
                · exact c11_asksS (w := 13) rfl (by omega) ht (mu m6 e3) h7 (fun Z7 f7 m7 => ⟨by omega, c11_numF ht m7 (MSd_tr s6 (MSd_n f7)) hu (fun x Y hx fq => B4 Y x fq)⟩)
end NW3
