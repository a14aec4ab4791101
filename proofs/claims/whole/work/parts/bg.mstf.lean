section MSF
variable {d : Nat} {X I : HI} {K : HI → Prop} {t : Txt} {i : Nat} {C : List Int}
theorem AC_f2 {a1 n : Nat} {kf p : Int} (mo : Mdr X I C) (dv : DRV I C) (en : I 15 1 = n) (q1 : a1 < 10) (h : ACf I t i (a1 : Int) kf p) : CTf I t i kf p ∨ ∃ a2, CTs I t i a2 ∧ (((a1 : Int) = a2 ∨ ∃ l, l < n ∧ jns (X 521) l a1 a2) ∧ kf = 3 ∧ p = uS t i) := by
  have c0 := dv.1.1
  rcases h with u | ⟨u1, u2, u3, u4 | ⟨_, w, w1, w2⟩⟩
  · exact Or.inl (Or.inl u)
  · exact Or.inl (Or.inr ⟨u1, u2, u3, u4⟩)
  · refine Or.inr ⟨w, ⟨u1, w1⟩, ?_, u2, u3⟩
    rcases w2 with v | v
    · exact Or.inl v.symm
    · rw [show ((a1 : Int) * 10 + (w : Int)).toNat = 10 * a1 + w from by omega] at v
      exact Or.inr ((lane_tk mo dv en q1 (by have := w1.1; omega)).mpr v)
theorem c11_stF {m : Nat} {kf p : Int} (ht : TKN t) (hm : MRk t X i) (hi : i < uN t) (nj : ¬ jnd t i) (hat : X 489 2 = uS t i) (em : X 489 45 = m) (m70 : m < 70) (mo : Mdr X I C) (dv : DRV I C) (lC : C.length ≤ i) (hs : SF t i I kf p) (k : ∀ Y : HI, MFx X Y kf p → K Y) : CV mX11_statementTold (d + 11) [vR 489] X K := by
  have mY9 : ∀ {Y : HI}, NTf X Y → Mdr Y I C ∧ Y 489 45 = m := fun f => ⟨Mdr_9 mo f.1 (f.2 43 (by decide) (by decide) (by decide)) (f.2 47 (by decide) (by decide) (by decide)), by rw [f.2 45 (by decide) (by decide) (by decide)]; exact em⟩
  have cr := dv.1
  have up1 : ∀ {Y Z : HI}, NTf X Y → MFq Y Z kf p → MFq X Z kf p := fun f fq => ⟨MSd_tr (MSd_n f) fq.1, fq.2⟩
  rcases hs with hs | hs | hs | hs | hs | hs | hs
  · obtain ⟨hk, hs⟩ := hs
    obtain ⟨n, en⟩ : ∃ n : Nat, I 15 0 = n := ⟨(I 15 0).toNat, by have := cr.1; omega⟩
    have n10 : n ≤ 10 := by have := cr.1; omega
    refine st_go ht hm hi nj em m70 (fun _ Y fY y2 mY => ?_) (fun u => by omega) (fun u => by omega) (fun u => by omega) (fun u => by omega) (fun u => absurd hk u.1)
    obtain ⟨mo', e45⟩ := mY9 fY
    rw [hat]
    have F := fun h => c11_newCornerF (d := d + 3) (K := fun I23 => CV mX11_asksSign (d + 10) [vR 489, vI 59] I23 (fun I24 => (-2147483648 ≤ (I24 489 45) + 1 ∧ (I24 489 45) + 1 ≤ 2147483647) ∧ (∀ I25 : HI, I25 = up I24 489 45 ((I24 489 45) + 1) → PV K none (mk I25)))) (kf := kf) (p := p) ht mY mo'.1 en n10 hk (bg := (uS t i : Int)) rfl h (fun Z fq => st_finF (up1 fY fq) em m70 k)
    rcases hs with h | ⟨h0, h⟩
    · exact F (Or.inl h)
    · rcases h with h | ⟨h1, h⟩
      · exact F (Or.inr ⟨h0, Or.inl h⟩)
      · rcases h with h | ⟨h2, h⟩
        · exact F (Or.inr ⟨h0, Or.inr ⟨h1, Or.inl h⟩⟩)
        · rcases h with h | ⟨v3, h3, h⟩
          · exact F (Or.inr ⟨h0, Or.inr ⟨h1, Or.inr ⟨h2, h⟩⟩⟩)
          · refine c11_newCornerS (d := d + 3) (n := n) ht mY mo'.1 en (by omega) h1 h2 h3 (fun Z sZ mZ a18 a19 a20 f g => ?_)
            exact st_finG ht (MSd_tr (MSd_n fY) sZ) mZ h em m70 k
  · obtain ⟨hk, hs⟩ := hs
    obtain ⟨n, en⟩ : ∃ n : Nat, I 15 1 = n := ⟨(I 15 1).toNat, by have := cr.2.1; omega⟩
    have n16 : n ≤ 16 := by have := cr.2.1; omega
    have c0 := cr.1
    refine st_go ht hm hi nj em m70 (fun u => by omega) (fun _ Y fY y2 mY => ?_) (fun u => by omega) (fun u => by omega) (fun u => by omega) (fun u => absurd hk u.2.1)
    obtain ⟨mo', e45⟩ := mY9 fY
    have enY : Y 518 2 = n := by rw [mo'.2.1.1]; exact en
    rw [hat]
    have F := fun h => c11_newLaneF (d := d + 3) (K := fun I23 => CV mX11_asksSign (d + 10) [vR 489, vI 59] I23 (fun I24 => (-2147483648 ≤ (I24 489 45) + 1 ∧ (I24 489 45) + 1 ≤ 2147483647) ∧ (∀ I25 : HI, I25 = up I24 489 45 ((I24 489 45) + 1) → PV K none (mk I25)))) (kf := kf) (p := p) ht mY mo'.1 enY n16 (bg := (uS t i : Int)) rfl h (fun Z fq => st_finF (up1 fY fq) em m70 k)
    rcases hs with ⟨h0, h⟩ | ⟨h0, h⟩
    · exact F (Or.inl ⟨by omega, h⟩)
    · have n15 : n < 16 := by omega
      rcases h with h | ⟨a1, h1, h⟩
      · exact F (Or.inr ⟨n15, Or.inl (AC_f h)⟩)
      · have q1 := h1.2.1.1
        rcases h with h | ⟨a2, h2, h⟩
        · rcases AC_f2 mo' dv en (by omega) h with u | ⟨a2, u1, u2⟩
          · exact F (Or.inr ⟨n15, Or.inr ⟨a1, AC_s h1, Or.inl u⟩⟩)
          · exact F (Or.inr ⟨n15, Or.inr ⟨a1, AC_s h1, Or.inr ⟨a2, u1, Or.inl u2⟩⟩⟩)
        · have q2 := h2.2.1.1
          obtain ⟨p1, p2⟩ := h2.2.2 (by omega)
          rw [show ((a1 : Int) * 10 + (a2 : Int)).toNat = 10 * a1 + a2 from by omega] at p2
          have free : ¬ ((a1 : Int) = a2 ∨ ∃ l, l < n ∧ jns (Y 521) l a1 a2) := fun u => by
            rcases u with u | u
            · exact p1 u.symm
            · exact (lane_tk mo' dv en (by omega) (by omega)).mp u p2
          rcases h with h | ⟨h3, h⟩
          · exact F (Or.inr ⟨n15, Or.inr ⟨a1, AC_s h1, Or.inr ⟨a2, AC_s h2, Or.inr ⟨free, Or.inl h⟩⟩⟩⟩)
          · rcases h with h | ⟨v4, h4, h⟩
            · exact F (Or.inr ⟨n15, Or.inr ⟨a1, AC_s h1, Or.inr ⟨a2, AC_s h2, Or.inr ⟨free, Or.inr ⟨h3, Or.inl h⟩⟩⟩⟩⟩)
            · rcases h with h | ⟨h5, h⟩
              · exact F (Or.inr ⟨n15, Or.inr ⟨a1, AC_s h1, Or.inr ⟨a2, AC_s h2, Or.inr ⟨free, Or.inr ⟨h3, Or.inr ⟨v4, h4, Or.inl h⟩⟩⟩⟩⟩⟩)
              · rcases h with h | ⟨v6, h6, h⟩
                · exact F (Or.inr ⟨n15, Or.inr ⟨a1, AC_s h1, Or.inr ⟨a2, AC_s h2, Or.inr ⟨free, Or.inr ⟨h3, Or.inr ⟨v4, h4, Or.inr ⟨h5, h⟩⟩⟩⟩⟩⟩⟩)
                · refine c11_newLaneS (d := d + 3) (nl := n) ht mY mo'.1 enY n15 (AC_s h1) (AC_s h2) free h3 h4 h5 h6 (fun Z sZ mZ a18 a21 f g => ?_)
                  exact st_finG ht (MSd_tr (MSd_n fY) sZ) mZ h em m70 k
  · obtain ⟨hk, hs⟩ := hs
    obtain ⟨n, en⟩ : ∃ n : Nat, I 15 2 = n := ⟨(I 15 2).toNat, by have := cr.2.2.1; omega⟩
    have n4 : n ≤ 4 := by have := cr.2.2.1; omega
    refine st_go ht hm hi nj em m70 (fun u => by omega) (fun u => by omega) (fun _ Y fY y2 mY => ?_) (fun u => by omega) (fun u => by omega) (fun u => absurd hk u.2.2.1)
    obtain ⟨mo', e45⟩ := mY9 fY
    rw [hat]
    have F := fun h => c11_newSaintF (d := d + 3) (K := fun I23 => CV mX11_asksSign (d + 10) [vR 489, vI 59] I23 (fun I24 => (-2147483648 ≤ (I24 489 45) + 1 ∧ (I24 489 45) + 1 ≤ 2147483647) ∧ (∀ I25 : HI, I25 = up I24 489 45 ((I24 489 45) + 1) → PV K none (mk I25)))) (kf := kf) (p := p) ht mY mo'.1 en n4 (bg := (uS t i : Int)) rfl h (fun Z fq => st_finF (up1 fY fq) em m70 k)
    rcases hs with h | ⟨h0, h⟩
    · exact F (Or.inl h)
    · rcases h with h | ⟨h1, h⟩
      · exact F (Or.inr ⟨h0, Or.inl h⟩)
      · rcases h with h | ⟨h2, h⟩
        · exact F (Or.inr ⟨h0, Or.inr ⟨h1, Or.inl h⟩⟩)
        · rcases h with h | ⟨a3, h3, h⟩
          · exact F (Or.inr ⟨h0, Or.inr ⟨h1, Or.inr ⟨h2, Or.inl (AC_f h)⟩⟩⟩)
          · rcases h with h | ⟨h4, h⟩
            · exact F (Or.inr ⟨h0, Or.inr ⟨h1, Or.inr ⟨h2, Or.inr ⟨a3, AC_s h3, Or.inl h⟩⟩⟩⟩)
            · rcases h with h | ⟨v5, h5, h⟩
              · exact F (Or.inr ⟨h0, Or.inr ⟨h1, Or.inr ⟨h2, Or.inr ⟨a3, AC_s h3, Or.inr ⟨h4, Or.inl h⟩⟩⟩⟩⟩)
              · rcases h with h | ⟨h6, h⟩
                · exact F (Or.inr ⟨h0, Or.inr ⟨h1, Or.inr ⟨h2, Or.inr ⟨a3, AC_s h3, Or.inr ⟨h4, Or.inr ⟨v5, h5, Or.inl h⟩⟩⟩⟩⟩⟩)
                · rcases h with h | ⟨v7, h7, h⟩
                  · exact F (Or.inr ⟨h0, Or.inr ⟨h1, Or.inr ⟨h2, Or.inr ⟨a3, AC_s h3, Or.inr ⟨h4, Or.inr ⟨v5, h5, Or.inr ⟨h6, Or.inl h⟩⟩⟩⟩⟩⟩⟩)
                  · rcases h with h | ⟨h8, h⟩
                    · exact F (Or.inr ⟨h0, Or.inr ⟨h1, Or.inr ⟨h2, Or.inr ⟨a3, AC_s h3, Or.inr ⟨h4, Or.inr ⟨v5, h5, Or.inr ⟨h6, Or.inr ⟨v7, h7, Or.inl h⟩⟩⟩⟩⟩⟩⟩⟩)
                    · rcases h with h | ⟨v9, h9, h⟩
                      · exact F (Or.inr ⟨h0, Or.inr ⟨h1, Or.inr ⟨h2, Or.inr ⟨a3, AC_s h3, Or.inr ⟨h4, Or.inr ⟨v5, h5, Or.inr ⟨h6, Or.inr ⟨v7, h7, Or.inr ⟨h8, h⟩⟩⟩⟩⟩⟩⟩⟩⟩)
                      · refine c11_newSaintS (d := d + 3) (n := n) ht mY mo'.1 en (by omega) h1 h2 (AC_s h3) h4 h5 h6 h7 h8 h9 (fun Z sZ mZ a18 a19 a22 f g => ?_)
                        exact st_finG ht (MSd_tr (MSd_n fY) sZ) mZ h em m70 k
  · obtain ⟨hk, hs⟩ := hs
    obtain ⟨n, en⟩ : ∃ n : Nat, I 15 3 = n := ⟨(I 15 3).toNat, by have := cr.2.2.2.1; omega⟩
    have n10 : n ≤ 10 := by have := cr.2.2.2.1; omega
    refine st_go ht hm hi nj em m70 (fun u => by omega) (fun u => by omega) (fun u => by omega) (fun _ Y fY y2 mY => ?_) (fun u => by omega) (fun u => absurd hk u.2.2.2.1)
    obtain ⟨mo', e45⟩ := mY9 fY
    have enY : Y 518 3 = n := by rw [mo'.2.1.2.1]; exact en
    rw [hat]
    have F := fun h => c11_newBalconyF (d := d + 3) (K := fun I23 => CV mX11_asksSign (d + 10) [vR 489, vI 59] I23 (fun I24 => (-2147483648 ≤ (I24 489 45) + 1 ∧ (I24 489 45) + 1 ≤ 2147483647) ∧ (∀ I25 : HI, I25 = up I24 489 45 ((I24 489 45) + 1) → PV K none (mk I25)))) (kf := kf) (p := p) ht mY mo'.1 enY n10 (bg := (uS t i : Int)) rfl h (fun Z fq => st_finF (up1 fY fq) em m70 k)
    rcases hs with ⟨h0, h⟩ | ⟨h0, h⟩
    · exact F (Or.inl ⟨by omega, h⟩)
    · have n9 : n < 10 := by omega
      rcases h with h | ⟨h1, h⟩
      · exact F (Or.inr ⟨n9, Or.inl h⟩)
      · rcases h with h | ⟨a2, h2, h⟩
        · exact F (Or.inr ⟨n9, Or.inr ⟨h1, Or.inl (AC_f h)⟩⟩)
        · rcases h with h | ⟨h3, h⟩
          · exact F (Or.inr ⟨n9, Or.inr ⟨h1, Or.inr ⟨a2, AC_s h2, Or.inl h⟩⟩⟩)
          · rcases h with h | ⟨v4, h4, h⟩
            · exact F (Or.inr ⟨n9, Or.inr ⟨h1, Or.inr ⟨a2, AC_s h2, Or.inr ⟨h3, Or.inl h⟩⟩⟩⟩)
            · rcases h with h | ⟨h5, h⟩
              · exact F (Or.inr ⟨n9, Or.inr ⟨h1, Or.inr ⟨a2, AC_s h2, Or.inr ⟨h3, Or.inr ⟨v4, h4, Or.inl h⟩⟩⟩⟩⟩)
              · rcases h with h | ⟨v6, h6, h⟩
                · exact F (Or.inr ⟨n9, Or.inr ⟨h1, Or.inr ⟨a2, AC_s h2, Or.inr ⟨h3, Or.inr ⟨v4, h4, Or.inr ⟨h5, Or.inl h⟩⟩⟩⟩⟩⟩)
                · rcases h with h | ⟨h7, h⟩
                  · exact F (Or.inr ⟨n9, Or.inr ⟨h1, Or.inr ⟨a2, AC_s h2, Or.inr ⟨h3, Or.inr ⟨v4, h4, Or.inr ⟨h5, Or.inr ⟨v6, h6, Or.inl h⟩⟩⟩⟩⟩⟩⟩)
                  · rcases h with h | ⟨v8, h8, h⟩
                    · exact F (Or.inr ⟨n9, Or.inr ⟨h1, Or.inr ⟨a2, AC_s h2, Or.inr ⟨h3, Or.inr ⟨v4, h4, Or.inr ⟨h5, Or.inr ⟨v6, h6, Or.inr ⟨h7, h⟩⟩⟩⟩⟩⟩⟩⟩)
                    · refine c11_newBalconyS (d := d + 3) (nb := n) ht mY mo'.1 enY n9 h1 (AC_s h2) h3 h4 h5 h6 h7 h8 (fun Z sZ mZ a18 a23 f g => ?_)
                      exact st_finG ht (MSd_tr (MSd_n fY) sZ) mZ h em m70 k
  · obtain ⟨hk, hs⟩ := hs
    obtain ⟨n, en⟩ : ∃ n : Nat, I 15 4 = n := ⟨(I 15 4).toNat, by have := cr.2.2.2.2; omega⟩
    have n6 : n ≤ 6 := by have := cr.2.2.2.2; omega
    refine st_go ht hm hi nj em m70 (fun u => by omega) (fun u => by omega) (fun u => by omega) (fun u => by omega) (fun _ Y fY y2 mY => ?_) (fun u => absurd hk u.2.2.2.2)
    obtain ⟨mo', e45⟩ := mY9 fY
    have enY : Y 518 4 = n := by rw [mo'.2.1.2.2]; exact en
    rw [hat]
    rcases hs with ⟨h0, h⟩ | ⟨h0, h⟩
    · exact c11_newExcF (d := d) ht mY hi hk y2 enY n6 rfl mo'.2.2.2.2.2.1 lC (Or.inl ⟨by omega, h⟩) (fun Z fq => st_finF (up1 fY fq) em m70 k)
    · rcases h with h | ⟨j1, cs, h1, h⟩
      · exact c11_newExcF (d := d) ht mY hi hk y2 enY n6 rfl mo'.2.2.2.2.2.1 lC (Or.inr ⟨by omega, h⟩) (fun Z fq => st_finF (up1 fY fq) em m70 k)
      · refine c11_newExcS (d := d) (ne := n) ht mY hi hk y2 enY (by omega) mo'.2.2.2.2.2.1 lC h1 (fun Z sZ mZ a18 a26 a27 a28 a24 f g => ?_)
        exact st_finG ht (MSd_tr (MSd_n fY) sZ) mZ h em m70 k
  · obtain ⟨hk, hs⟩ := hs
    refine st_go ht hm hi nj em m70 (fun u => by omega) (fun u => by omega) (fun u => by omega) (fun u => by omega) (fun u => by omega) (fun _ Y fY mY => ?_)
    refine c11_asksS (w := 15) rfl (by omega) ht mY ⟨hk, nj⟩ (fun Z1 f1 m1 => ?_)
    have f01 := NTf_tr fY f1
    rcases hs with h | ⟨v, h1, h⟩
    · exact c11_numF ht m1 (MSd_n f01) h (fun x Z hx fq I3 e3 => st_finF (MFq_u9 fq e3 (by omega)) em m70 k)
    · refine c11_numS ht m1 h1 (fun Z2 f2 m2 I3 e3 => ?_)
      have f12 := NTf_tr f01 f2
      have m3 : MRk t I3 (i + 2) := MRk_c m2 (fun c hc => by rw [e3, up_k (by omega)]) (fun u _ _ => by rw [e3, up_n (by omega)])
      exact st_finG ht (MSd_tr (MSd_n f12) (MSd_u9 e3 (by omega))) m3 h em m70 k
  · obtain ⟨hn, e1, e2⟩ := hs
    subst e1; subst e2
    refine st_go ht hm hi nj em m70 (fun u => absurd u hn.1) (fun u => absurd u hn.2.1) (fun u => absurd u hn.2.2.1) (fun u => absurd u hn.2.2.2.1) (fun u => absurd u hn.2.2.2.2.1) (fun _ Y fY mY => ?_)
    exact c11_asksF (w := 15) (X0 := X) rfl (by omega) ht mY (MSd_n fY) ⟨fun u => hn.2.2.2.2.2 u.1, rfl, rfl⟩ (fun Z fq => c11_numberB (MFq_b fq) (fun I3 e3 => st_finF (MFq_u9 fq e3 (by omega)) em m70 k))
end MSF
