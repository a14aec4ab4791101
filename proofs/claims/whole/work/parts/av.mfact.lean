section MF
variable {d : Nat} {X0 : HI} {K : HI → Prop} {t : Txt}
theorem sums_53 {a1 a2 : Int} {b0 : Nat} {o : Int} {T CC : List Int} {j : Nat} (hb : a1 = b0) (k : ∀ Y : HI, MRk t Y j → RSc X0 Y T b0 o CC → K Y) : ∀ (W C1 : List Int) (Y : HI), C1 ++ W = CC → MRk t Y j → RSc X0 Y (W ++ T) T.length o C1 → C1.length + (W ++ T).length ≤ 1600 → J none mX11_sumsTold (d + 7) 0 0 53 [(0, vR 489), (1, vI a1), (2, vI a2)] [] (mk Y) (PV K)
  | [], C1, Y, e, mY, rY, hl => by
    have rY' : RSc X0 Y T T.length o C1 := rY
    obtain ⟨h1, h2, h3, h4, h5, h6⟩ := rY'
    refine bk_X11_sumsTold_53 ?_
    rw [h2.1, h3.1]
    refine ⟨fun z => absurd mY.2.2.1.2 z, fun _ => ⟨fun _ I2 e2 => PV_i (k I2 (MRk_o mY (fun c a _ _ => by rw [e2, up_k a]) (fun i _ _ => by rw [e2, up_n (by omega)])) ?_), fun z => absurd (Int.le_refl _) z⟩⟩
    rw [← e, List.append_nil]
    refine ⟨?_, ?_, ⟨?_, ?_⟩, ?_, ?_, ?_⟩
    · rw [e2, up_n (by decide), up_k (by decide)]; exact h1
    · rw [e2, up_n (by decide), up_k (by decide)]; exact h2
    · rw [e2, up_s]; exact hb
    · rw [e2, up_n (by decide)]; exact h3.2
    · exact fun c a b' e => by rw [e2, up_k a, h4 c a b' e]
    · exact fun i a b' c e e2' e3 e4 e5' => by rw [e2, up_n (by omega), h5 i a b' c e e2' e3 e4 e5']
    · exact fun k hk => by rw [e2, up_k (by decide), h6 k hk]
  | x :: W, C1, Y, e, mY, rY, hl => by
    have ih := fun Z => sums_53 (a2 := a2) hb k W (C1 ++ [x]) Z (by rw [← e]; simp)
    have hl' : C1.length + ((W ++ T).length + 1) ≤ 1600 := hl
    have lT : (W ++ T).length = W.length + T.length := List.length_append
    have l : Y 489 49 = ((W ++ T).length : Int) + 1 := by rw [rY.2.1.1]; simp
    refine bk_X11_sumsTold_53 ?_
    rw [l, rY.2.2.1.1]
    refine ⟨fun z => absurd mY.2.2.1.2 z, fun _ => ⟨fun z => by omega, fun _ => c11_drops (R := W ++ T) mY rY (by omega) (by omega) (fun Z mZ rZ => ?_)⟩⟩
    have := ih Z mZ rZ (by simp only [List.length_append, List.length_cons, List.length_nil] at *; omega)
    exact this
theorem sums_F {a1 a2 : Int} {Y : HI} {k p cb : Int} (f : FTm X0 Y k p cb) (h : ∀ Y : HI, FTm X0 Y k p cb → K Y) : J none mX11_sumsTold (d + 7) 0 0 53 [(0, vR 489), (1, vI a1), (2, vI a2)] [] (mk Y) (PV K) := by
  have nb : Y 489 5 ≠ 0 := by rw [f.2.1.1]; exact f.2.1.2.2
  refine bk_X11_sumsTold_53 ⟨fun _ I1 e1 => PV_i (h I1 ?_), fun z => absurd z nb⟩
  obtain ⟨⟨h1, h2, h3⟩, h4, h5, h7⟩ := f
  exact ⟨⟨fun c a b' e => by rw [e1, up_k a, h1 c a b' e], fun j a b' c e e2 e3 e4 e5 => by rw [e1, up_n (by omega), h2 j a b' c e e2 e3 e4 e5], fun k hk => by rw [e1, up_k (by decide), h3 k hk]⟩, by rw [e1, up_n (by decide), up_n (by decide)]; exact h4, by rw [e1, up_n (by decide)]; exact h5, by rw [e1, up_n (by decide)]; exact h7⟩
theorem c11_sumsTold {D q i b0 : Nat} {X : HI} {T C : List Int} (ht : TKN t) (hD : D ≤ 6) (q1 : 1 ≤ q) (hm : MRk t X i) (r : RSc X0 X T b0 (6 - (D : Int)) C) (bd : C.length + T.length + q ≤ i) (hT : tp4 T) (np : npt t i) : (∀ j cs, Sms t D i j cs → (∀ Y : HI, MRk t Y j → RSc X0 Y T b0 (6 - (D : Int)) (C ++ cs) → K Y) → CV mX11_sumsTold (d + 7) [vR 489] X K) ∧ (∀ k p, Smf t D i k p → (∀ Y : HI, FTm X0 Y k p (1601 - (q : Int)) → K Y) → CV mX11_sumsTold (d + 7) [vR 489] X K) := by
  have n16 := ht.1.2
  obtain ⟨h1, h2, h3, h4, h5, h6⟩ := r
  have ini : ∀ I1 : HI, I1 = up X 489 54 (X 489 49) → MRk t I1 i ∧ RSc X0 I1 (opt 0 ++ (opt 0 ++ T)) T.length (6 - (D : Int)) C := by
    intro I1 e1
    rw [opt_0]
    refine ⟨MRk_o hm (fun c a _ _ => by rw [e1, up_k a]) (fun i _ _ => by rw [e1, up_n (by omega)]), ?_, ?_, ⟨?_, ?_⟩, ?_, ?_, ?_⟩
    · rw [e1, up_n (by decide), up_k (by decide)]; exact h1
    · rw [e1, up_n (by decide), up_k (by decide)]; exact h2
    · rw [e1, up_s]; exact h2.1
    · rw [e1, up_n (by decide)]; exact h3.2
    · exact fun c a b' e => by rw [e1, up_k a, h4 c a b' e]
    · exact fun i a b' c e e2' e3 e4 e5' => by rw [e1, up_n (by omega), h5 i a b' c e e2' e3 e4 e5']
    · exact fun k hk => by rw [e1, up_k (by decide), h6 k hk]
  have bd' : C.length + (opt 0 ++ (opt 0 ++ T)).length + q ≤ i := by rw [opt_0]; exact bd
  have hB : BSx T.length T := Or.inr ⟨rfl, hT⟩
  let Kg : Int → HI → Prop := fun x2 I2 => ((x2 = 0 → J none mX11_sumsTold (d + 7) 0 0 15 [(0, vR 489), (1, vI (X 489 54)), (2, vI 0)] [] (mk I2) (PV K)) ∧ (¬ (x2 = 0) → J none mX11_sumsTold (d + 7) 0 0 15 [(0, vR 489), (1, vI (X 489 54)), (2, vI 1)] [] (mk I2) (PV K)))
  let Kp : HI → Prop := fun I1 => (((I1 489 5) ≠ 0 → J none mX11_sumsTold (d + 7) 0 0 15 [(0, vR 489), (1, vI (X 489 54)), (2, vI 0)] [] (mk I1) (PV K)) ∧ ((I1 489 5) = 0 → CI mX11_goesOn (d + 6) [vR 489] I1 Kg))
  have j15 : ∀ Y : HI, Y 489 5 = 0 → PPx d Kp Y → J none mX11_sumsTold (d + 7) 0 0 15 [(0, vR 489), (1, vI (X 489 54)), (2, vI 1)] [] (mk Y) (PV K) := fun Y y5 pY =>
    bk_X11_sumsTold_15 ⟨fun z => absurd z (by decide), fun _ => ⟨fun z => absurd y5 z, fun _ => bk_X11_onePart_0 pY⟩⟩
  have hG : ∀ Y : HI, Y 489 5 = 0 → PPx d Kp Y → Kg 1 Y := fun Y y5 pY => ⟨fun z => absurd z (by decide), fun _ => j15 Y y5 pY⟩
  have hP : ∀ Y : HI, Y 489 5 = 0 → GPx d Kg Y → Kp Y := fun Y y5 gY => ⟨fun z => absurd y5 z, fun _ => gY⟩
  have lm := LM_all (d := d) (X0 := X0) (b := T.length) ht q1 hP hG D hD
  refine ⟨fun j cs hs k => ?_, fun kk p hs k => ?_⟩
  · obtain ⟨L, hs⟩ := hs
    have ll := Lps_len (Pts_len D) _ _ _ _ _ _ hs
    rw [opt_0] at ll
    simp only [List.length_nil] at ll
    refine bk_X11_sumsTold_0 (fun I1 e1 => ?_)
    obtain ⟨m1, r1⟩ := ini I1 e1
    refine j15 I1 m1.2.2.1.2 (lm.1 L 0 0 i j cs I1 T C hs m1 r1 bd' hB (Or.inl rfl) (Or.inl rfl) np (fun Y W C' mY rY eY oY n1 n2 => ?_))
    have lY : C'.length + W.length = C.length + cs.length := by have := congrArg List.length eY; simpa only [List.length_append] using this
    have jn := mY.2.1
    refine gp_end ht mY rY (by simp only [List.length_append]; omega) rfl (opx_m oY) n1 n2 (fun Z mZ rZ => ⟨fun _ => bk_X11_sumsTold_15 ⟨fun _ => ?_, fun z => absurd rfl z⟩, fun z => absurd rfl z⟩)
    exact sums_53 h3.1 k W C' Z eY mZ rZ (by simp only [List.length_append]; omega)
  · obtain ⟨L, hs⟩ := hs
    refine bk_X11_sumsTold_0 (fun I1 e1 => ?_)
    obtain ⟨m1, r1⟩ := ini I1 e1
    refine j15 I1 m1.2.2.1.2 (lm.2 L 0 0 i kk p I1 T C hs m1 r1 bd' hB (Or.inl rfl) (Or.inl rfl) np (fun Y fY => ?_))
    have nb : Y 489 5 ≠ 0 := by rw [fY.2.1.1]; exact fY.2.1.2.2
    have z15 : J none mX11_sumsTold (d + 7) 0 0 15 [(0, vR 489), (1, vI (X 489 54)), (2, vI 0)] [] (mk Y) (PV K) := bk_X11_sumsTold_15 ⟨fun _ => sums_F fY k, fun z => absurd rfl z⟩
    exact ⟨⟨fun _ => z15, fun z => absurd z nb⟩, ⟨fun _ => z15, fun z => absurd rfl z⟩⟩
theorem c11_factS {D i j : Nat} {cs : List Int} {X : HI} {T C : List Int} (ht : TKN t) (hD : D ≤ 6) (hm : MRk t X i) (r : RSc X0 X T 0 (6 - (D : Int)) C) (bd : C.length + T.length + 1 ≤ i) (hT : tp4 T) (np : npt t i) (h : Fsm t D i j cs) (k : ∀ Y : HI, MRk t Y j → RSc X0 Y T 0 (6 - (D : Int)) (C ++ cs) → K Y) : CV mX11_fact (d + 8) [vR 489] X K := by
  have n16 := ht.1.2
  have hi := hm.2.1
  rcases h with ⟨h1, e1, e2⟩ | ⟨nc, j1, c1, q, c2, s1, hq, s2, e2⟩
  · subst e1; subst e2
    exact bk_X11_fact_0 (c11_takesW (w := 19) rfl (by omega) ht hm (fun _ _ Y fY mY => ⟨fun z => by omega, fun _ => c11_codeK mY (RSc_m r (MFr_t fY)) (by omega) (fun Z mZ rZ => PV_i (k Z mZ rZ))⟩) (fun u => absurd h1 u))
  · refine bk_X11_fact_0 (c11_takesW (w := 19) rfl (by omega) ht hm (fun u => absurd u nc.2.1) (fun _ Y fY mY => ⟨fun _ => ?_, fun z => absurd rfl z⟩))
    have rY := RSc_m r (MFr_l fY)
    have l1 := Sms_len s1
    have l2 := Sms_len s2
    refine (c11_sumsTold ht hD (Nat.le_refl 1) mY rY bd hT np).1 j1 c1 s1 (fun Z mZ rZ => ⟨fun _ => c11_lookK ht mZ (fun V fV mV => ?_), fun z => absurd mZ.2.2.1.2 z⟩)
    have rV := RSc_m rZ (MFr_l fV)
    have j1n := mV.2.1
    have v2 := fV.2.2
    have kk := tK_e ht j1n
    have second : ∀ (c : Int), sgn t j1 c → ∀ I4 : HI, I4 = up V 489 2 (V 489 2 + 1) → ∀ K2 : HI → Prop, (∀ Y : HI, MRk t Y j → RSc X0 Y T 0 (6 - (D : Int)) (C ++ c1 ++ c2) → K2 Y) → CV mX11_sumsTold (d + 7) [vR 489] I4 K2 := by
      intro c sc I4 e4 K2 kk2
      have f4 : LKf V I4 (uS t j1 + 1) := ⟨fun k hk => by rw [e4, up_k hk], fun i hi => by rw [e4, up_n (by omega)], by rw [e4, up_s, v2]; omega⟩
      have m4 := MRk_sg ht mV (sgn_lt ht j1n sc) sc.1 f4
      exact (c11_sumsTold ht hD (q := 2) (by omega) m4 (RSc_m rV (MFr_l f4)) (by rw [List.length_append]; omega) hT (npt_of ht (sgn_lt ht j1n sc) (by have := sc.1; omega))).1 j c2 s2 kk2
    have cod : ∀ Y : HI, MRk t Y j → RSc X0 Y T 0 (6 - (D : Int)) (C ++ c1 ++ c2) → CV mX11_code (d + 7) [vR 489, vI q] Y (fun I6 => PV K none (mk I6)) := fun Y mY' rY' => by
      have jn := mY'.2.1
      exact c11_codeK mY' rY' (by simp only [List.length_append]; omega) (fun Z' mZ' rZ' => PV_i (k Z' mZ' (by rw [e2]; simpa only [List.append_assoc] using rZ')))
    have lk60 := lkv_sg ht j1n (c := 60) (by omega) (by unfold ltr; omega) (by unfold dgt; omega)
    have lk61 := lkv_sg ht j1n (c := 61) (by omega) (by unfold ltr; omega) (by unfold dgt; omega)
    have lk62 := lkv_sg ht j1n (c := 62) (by omega) (by unfold ltr; omega) (by unfold dgt; omega)
    have b2 : -2147483648 ≤ V 489 2 + 1 ∧ V 489 2 + 1 ≤ 2147483647 := by rw [v2]; omega
    rcases hq with ⟨s, e⟩ | ⟨s, e⟩ | ⟨s, e⟩
    · have lv := lk60.mpr s
      subst e
      exact ⟨fun _ => ⟨b2, fun I4 e4 => second 60 s I4 e4 _ (fun Y mY' rY' => ⟨fun z => absurd lv z, fun _ => cod Y mY' rY'⟩)⟩, fun z => absurd lv z⟩
    · have lv := lk62.mpr s
      subst e
      exact ⟨fun z => by omega, fun _ => ⟨fun _ => ⟨b2, fun I4 e4 => second 62 s I4 e4 _ (fun Y mY' rY' => ⟨fun _ => ⟨fun z => absurd lv z, fun _ => cod Y mY' rY'⟩, fun z => by omega⟩)⟩, fun z => absurd lv z⟩⟩
    · have lv := lk61.mpr s
      subst e
      exact ⟨fun z => by omega, fun _ => ⟨fun z => by omega, fun _ => ⟨fun _ => ⟨b2, fun I4 e4 => second 61 s I4 e4 _ (fun Y mY' rY' => ⟨fun _ => ⟨fun _ => cod Y mY' rY', fun z => by omega⟩, fun z => by omega⟩)⟩, fun z => absurd lv z⟩⟩⟩
theorem c11_factF {D i : Nat} {kf p : Int} {X : HI} {T C : List Int} (ht : TKN t) (hD : D ≤ 6) (hm : MRk t X i) (r : RSc X0 X T 0 (6 - (D : Int)) C) (bd : C.length + T.length + 1 ≤ i) (hT : tp4 T) (np : npt t i) (h : Fsf t D i kf p) (k : ∀ Y : HI, FTm X0 Y kf p 1600 → K Y) : CV mX11_fact (d + 8) [vR 489] X K := by
  have n16 := ht.1.2
  have hi := hm.2.1
  obtain ⟨nc, h⟩ := h
  refine bk_X11_fact_0 (c11_takesW (w := 19) rfl (by omega) ht hm (fun u => absurd u nc.2.1) (fun _ Y fY mY => ⟨fun _ => ?_, fun z => absurd rfl z⟩))
  have rY := RSc_m r (MFr_l fY)
  have su := fun K => c11_sumsTold (d := d) (K := K) ht hD (Nat.le_refl 1) mY rY bd hT np
  rcases h with h | ⟨j1, c1, s1, h⟩
  · refine (su _).2 kf p h (fun Z fZ => ⟨fun z => ?_, fun _ => PV_i (k Z fZ)⟩)
    have := fZ.2.1
    omega
  · have l1 := Sms_len s1
    refine (su _).1 j1 c1 s1 (fun Z mZ rZ => ⟨fun _ => c11_lookK ht mZ (fun V fV mV => ?_), fun z => absurd mZ.2.2.1.2 z⟩)
    have rV := RSc_m rZ (MFr_l fV)
    have j1n := mV.2.1
    have v2 := fV.2.2
    have kk := tK_e ht j1n
    have lk60 := lkv_sg ht j1n (c := 60) (by omega) (by unfold ltr; omega) (by unfold dgt; omega)
    have lk61 := lkv_sg ht j1n (c := 61) (by omega) (by unfold ltr; omega) (by unfold dgt; omega)
    have lk62 := lkv_sg ht j1n (c := 62) (by omega) (by unfold ltr; omega) (by unfold dgt; omega)
    have b2 : -2147483648 ≤ V 489 2 + 1 ∧ V 489 2 + 1 ≤ 2147483647 := by rw [v2]; omega
    rcases h with ⟨nq, e1, e2⟩ | ⟨⟨q, hq⟩, h⟩
    · subst e1; subst e2
      refine ⟨fun z => absurd (Or.inl ⟨lk60.mp z, rfl⟩) (nq 11), fun _ => ⟨fun z => absurd (Or.inr (Or.inl ⟨lk62.mp z, rfl⟩)) (nq 12), fun _ => ⟨fun z => absurd (Or.inr (Or.inr ⟨lk61.mp z, rfl⟩)) (nq 13), fun _ => ?_⟩⟩⟩
      rw [v2]
      exact c11_fail mV.2.2.1.2 (fun U fU => PV_i (k U (FTm_of rV (MFr_rfl V) fU (by decide) (by rw [List.length_append]; omega) (by rw [v2]; omega))))
    · have second : ∀ (c : Int), sgn t j1 c → ∀ I4 : HI, I4 = up V 489 2 (V 489 2 + 1) → ∀ K2 : HI → Prop, (∀ Y : HI, FTm X0 Y kf p 1599 → K2 Y) → CV mX11_sumsTold (d + 7) [vR 489] I4 K2 := by
        intro c sc I4 e4 K2 kk2
        have f4 : LKf V I4 (uS t j1 + 1) := ⟨fun k hk => by rw [e4, up_k hk], fun i hi => by rw [e4, up_n (by omega)], by rw [e4, up_s, v2]; omega⟩
        have m4 := MRk_sg ht mV (sgn_lt ht j1n sc) sc.1 f4
        exact (c11_sumsTold ht hD (q := 2) (by omega) m4 (RSc_m rV (MFr_l f4)) (by rw [List.length_append]; omega) hT (npt_of ht (sgn_lt ht j1n sc) (by have := sc.1; omega))).2 kf p h kk2
      have cod : ∀ (x : Int) (Y : HI), FTm X0 Y kf p 1599 → CV mX11_code (d + 7) [vR 489, vI x] Y (fun I6 => PV K none (mk I6)) := fun x Y fY => c11_codeF fY (by omega) (fun Z fZ => PV_i (k Z fZ))
      rcases hq with ⟨s, e⟩ | ⟨s, e⟩ | ⟨s, e⟩
      · have lv := lk60.mpr s
        exact ⟨fun _ => ⟨b2, fun I4 e4 => second 60 s I4 e4 _ (fun Y fY => ⟨fun _ => ⟨fun _ => cod _ Y fY, fun _ => cod _ Y fY⟩, fun _ => cod _ Y fY⟩)⟩, fun z => absurd lv z⟩
      · have lv := lk62.mpr s
        exact ⟨fun z => by omega, fun _ => ⟨fun _ => ⟨b2, fun I4 e4 => second 62 s I4 e4 _ (fun Y fY => ⟨fun _ => ⟨fun _ => cod _ Y fY, fun _ => cod _ Y fY⟩, fun _ => cod _ Y fY⟩)⟩, fun z => absurd lv z⟩⟩
      · have lv := lk61.mpr s
        exact ⟨fun z => by omega, fun _ => ⟨fun z => by omega, fun _ => ⟨fun _ => ⟨b2, fun I4 e4 => second 61 s I4 e4 _ (fun Y fY => ⟨fun _ => ⟨fun _ => cod _ Y fY, fun _ => cod _ Y fY⟩, fun _ => cod _ Y fY⟩)⟩, fun z => absurd lv z⟩⟩⟩
end MF
