section NE1
variable {d : Nat} {X I : HI} {K : HI → Prop} {t : Txt} {i : Nat} {bg : Int} {C : List Int}
theorem exc_ini {ne : Nat} {I2 I3 I4 I5 : HI} (hm : MRk t X (i + 1)) (hC : X 489 47 = C.length ∧ ∀ k, k < C.length → X 524 k = C.getD k 0) (n6 : ne < 6) (e2 : I2 = up X 526 ne (X 489 47)) (e3 : I3 = up I2 489 49 0) (e4 : I4 = up I3 489 50 0) (e5 : I5 = up I4 489 54 0) : MRk t I5 (i + 1) ∧ RSc I5 I5 [] 0 0 C ∧ MSd X I5 ∧ (∀ c, c ≠ 489 → c ≠ 526 → I5 c = X c) ∧ AP1 (X 526) (I5 526) ne C.length ∧ (∀ j, j ≠ 49 → j ≠ 50 → j ≠ 54 → I5 489 j = X 489 j) := by
  have g : ∀ j, j ≠ 49 → j ≠ 50 → j ≠ 54 → I5 489 j = X 489 j := fun j a b c => by rw [e5, up_n (by omega), e4, up_n (by omega), e3, up_n (by omega), e2, up_k (by decide)]
  have f : ∀ c, c ≠ 489 → c ≠ 526 → I5 c = X c := fun c a b => by rw [e5, up_k a, e4, up_k a, e3, up_k a, e2, up_k b]
  refine ⟨MRk_c hm (fun c hc => f c (by omega) (by omega)) (fun j _ _ => g j (by omega) (by omega) (by omega)), ⟨⟨?_, fun k hk => ?_⟩, ⟨?_, trivial⟩, ⟨?_, ?_⟩, fun _ _ _ _ => rfl, fun _ _ _ _ _ _ _ _ _ => rfl, fun _ _ => rfl⟩, MSd_tr (MSd_up e2 (by show _ < _; omega)) (MSd_tr (MSd_u9 e3 (by omega)) (MSd_tr (MSd_u9 e4 (by omega)) (MSd_u9 e5 (by omega)))), f, ⟨?_, fun u hu => ?_⟩, g⟩
  · rw [g 47 (by decide) (by decide) (by decide)]; exact hC.1
  · rw [f 524 (by decide) (by decide)]; exact hC.2 k hk
  · rw [e5, up_n (by decide), e4, up_n (by decide), e3, up_s]; rfl
  · rw [e5, up_s]; rfl
  · rw [e5, up_n (by decide), e4, up_s]
  · rw [e5, up_k (by decide), e4, up_k (by decide), e3, up_k (by decide), e2, up_s]; exact hC.1
  · rw [e5, up_k (by decide), e4, up_k (by decide), e3, up_k (by decide), e2, up_n (by omega)]
theorem MSd_rsc {X0 Y : HI} {T cs : List Int} {b : Nat} {o : Int} (h : RSc X0 Y T b o cs) (e5 : Y 489 5 = X0 489 5 ∧ Y 489 6 = X0 489 6 ∨ True) : MSd X0 Y := by
  obtain ⟨_, _, _, h4, h5, h6⟩ := h
  exact ⟨fun c a b => h4 c a (by omega) (by omega), ⟨fun u _ => by rw [h4 518 (by decide) (by decide) (by decide)], fun u _ => by rw [h4 519 (by decide) (by decide) (by decide)], fun u _ => by rw [h4 520 (by decide) (by decide) (by decide)], fun u _ => by rw [h4 521 (by decide) (by decide) (by decide)], fun u _ => by rw [h4 522 (by decide) (by decide) (by decide)], fun u _ => by rw [h4 523 (by decide) (by decide) (by decide)], fun u hu => h6 u hu, fun u _ => by rw [h4 526 (by decide) (by decide) (by decide)], fun u _ => by rw [h4 527 (by decide) (by decide) (by decide)], fun u _ => by rw [h4 528 (by decide) (by decide) (by decide)]⟩, fun j a b c e _ _ f g h i => h5 j a b c e f g h i⟩
theorem MSd_ftm {X0 Y : HI} {k p cb : Int} (h : FTm X0 Y k p cb) : MSd X0 Y := by
  obtain ⟨⟨h4, h5, h6⟩, _⟩ := h
  exact ⟨fun c a b => h4 c a (by omega) (by omega), ⟨fun u _ => by rw [h4 518 (by decide) (by decide) (by decide)], fun u _ => by rw [h4 519 (by decide) (by decide) (by decide)], fun u _ => by rw [h4 520 (by decide) (by decide) (by decide)], fun u _ => by rw [h4 521 (by decide) (by decide) (by decide)], fun u _ => by rw [h4 522 (by decide) (by decide) (by decide)], fun u _ => by rw [h4 523 (by decide) (by decide) (by decide)], fun u hu => h6 u hu, fun u _ => by rw [h4 526 (by decide) (by decide) (by decide)], fun u _ => by rw [h4 527 (by decide) (by decide) (by decide)], fun u _ => by rw [h4 528 (by decide) (by decide) (by decide)]⟩, fun j a b c e _ _ f g h i => h5 j a b c e f g h i⟩
theorem c11_newExcS {ne j1 : Nat} {cs : List Int} (ht : TKN t) (hm : MRk t X (i + 1)) (hi : i < uN t) (hk : uK t i = 14) (hat : X 489 2 = uP t i) (en : X 518 4 = ne) (n6 : ne < 6) (hC : X 489 47 = C.length ∧ ∀ k, k < C.length → X 524 k = C.getD k 0) (lC : C.length ≤ i) (hs : Tss t 6 (i + 1) j1 cs) (k : ∀ Y : HI, MSd X Y → MRk t Y j1 → AP1 (X 518) (Y 518) 4 ((ne : Int) + 1) → AP1 (X 526) (Y 526) ne C.length → AP1 (X 527) (Y 527) ne (C ++ cs).length → AP1 (X 528) (Y 528) ne (wct t (i + 1) j1) → (Y 489 47 = (C ++ cs).length ∧ ∀ k, k < (C ++ cs).length → Y 524 k = (C ++ cs).getD k 0) → (∀ c, c ≠ 489 → c ≠ 518 → c ≠ 524 → c ≠ 525 → c ≠ 526 → c ≠ 527 → c ≠ 528 → Y c = X c) → (Y 489 43 = X 489 43 ∧ Y 489 45 = X 489 45) → K Y) : CV mX11_newException (d + 10) [vR 489, vI bg] X K := by
  have tn := tK_n ht hi
  have n16 := ht.1.2
  have e16 := ht.1.1
  refine bk_X11_newException_0 (c11_isFull (kd := 4) (by omega) hm.2.2.1.2 (fun e => by omega) (fun _ => ⟨fun _ => ?_, fun z => absurd rfl z⟩))
  rw [en, Int.toNat_natCast, hat]
  refine ⟨by omega, fun I2 e2 I3 e3 I4 e4 I5 e5 => ?_⟩
  obtain ⟨m5, r5, s5, f5, a526, g5⟩ := exc_ini hm hC n6 e2 e3 e4 e5
  refine (c11_test ht m5 r5 (by omega) (npt_of ht hi (by omega))).1 j1 cs hs (fun Y mY rY => ⟨by omega, fun I7 e7 => ?_⟩)
  have hln := Tss_len hs
  have hj := Tss_j hs
  obtain ⟨p, y2, p1, p2, _⟩ := mY.2.2.2.1
  have y1n := mY.2.1
  have kj := tK_e ht y1n
  have z2 : I7 489 2 = (p : Int) := by rw [e7, up_k (by decide), y2]
  rw [z2]
  have m7 : MRk t I7 j1 := MRk_c mY (fun c hc => by rw [e7, up_k (by omega)]) (fun j _ _ => by rw [e7, up_k (by decide)])
  have ew : wcn (I7 490) (uP t i) p = wct t (i + 1) j1 := by
    have se : uS t j1 ≤ uE t := by
      by_cases e : j1 = uN t
      · rw [e, ht.2.1.1]; exact Nat.le_refl _
      · have := tK_n ht (i := j1) (by omega)
        omega
    rw [wcn_cg (A := I7 490) (B := uA t) p (fun j hj' => m7.1.1 j (by omega))]
    have := wcn_wct ht (i0 := i + 1) (by omega) (j1 - (i + 1)) (by omega) (by rw [show i + 1 + (j1 - (i + 1)) = j1 from by omega]; exact hj) p (by rw [show i + 1 + (j1 - (i + 1)) = j1 from by omega]; exact p1) (by rw [show i + 1 + (j1 - (i + 1)) = j1 from by omega]; exact p2)
    rw [show i + 1 + (j1 - (i + 1)) = j1 from by omega, show i + 1 - 1 = i from by omega] at this
    exact this
  refine c11_wordsIn (by omega) ⟨by omega, fun I9 e9 => ?_⟩
  rw [ew] at e9
  obtain ⟨⟨c1, c2⟩, _, _, h4, h5, h6⟩ := rY
  have z518 : I9 518 = X 518 := by rw [e9, up_k (by decide), e7, up_k (by decide), h4 518 (by decide) (by decide) (by decide), f5 518 (by decide) (by decide)]
  rw [z518, en]
  refine ⟨by omega, fun Ia ea => PV_i (k Ia ?_ (MRk_c m7 (fun c hc => by rw [ea, up_k (by omega), e9, up_k (by omega)]) (fun j _ _ => by rw [ea, up_k (by decide), e9, up_k (by decide)])) ⟨?_, fun u hu => ?_⟩ ⟨?_, fun u hu => ?_⟩ ⟨?_, fun u hu => ?_⟩ ⟨?_, fun u hu => ?_⟩ ⟨?_, fun u hu => ?_⟩ (fun c a1 a2 a3 a4 a5 a6 a7 => ?_) ⟨?_, ?_⟩)⟩
  · exact MSd_tr s5 (MSd_tr (MSd_rsc ⟨⟨c1, c2⟩, by assumption, by assumption, h4, h5, h6⟩ (Or.inr trivial)) (MSd_tr (MSd_up e7 (by show _ < _; omega)) (MSd_tr (MSd_up e9 (by show _ < _; omega)) (MSd_up ea (by show _ < _; omega)))))
  · rw [ea, up_s]
  · rw [ea, up_n (by omega), z518]
  · rw [ea, up_k (by decide), e9, up_k (by decide), e7, up_k (by decide), h4 526 (by decide) (by decide) (by decide)]; exact a526.1
  · rw [ea, up_k (by decide), e9, up_k (by decide), e7, up_k (by decide), h4 526 (by decide) (by decide) (by decide)]; exact a526.2 u hu
  · rw [ea, up_k (by decide), e9, up_k (by decide), e7, up_s, c1]
  · rw [ea, up_k (by decide), e9, up_k (by decide), e7, up_n (by omega), h4 527 (by decide) (by decide) (by decide), f5 527 (by decide) (by decide)]
  · rw [ea, up_k (by decide), e9, up_s]
  · rw [ea, up_k (by decide), e9, up_n (by omega), e7, up_k (by decide), h4 528 (by decide) (by decide) (by decide), f5 528 (by decide) (by decide)]
  · rw [ea, up_k (by decide), e9, up_k (by decide), e7, up_k (by decide)]; exact c1
  · rw [ea, up_k (by decide), e9, up_k (by decide), e7, up_k (by decide)]; exact c2 u hu
  · rw [ea, up_k a2, e9, up_k a7, e7, up_k a6, h4 c a1 a3 a4, f5 c a1 a5]
  · rw [ea, up_k (by decide), e9, up_k (by decide), e7, up_k (by decide), h5 43 (by decide) (by decide) (by decide) (by decide) (by decide) (by decide) (by decide) (by decide), g5 43 (by decide) (by decide) (by decide)]
  · rw [ea, up_k (by decide), e9, up_k (by decide), e7, up_k (by decide), h5 45 (by decide) (by decide) (by decide) (by decide) (by decide) (by decide) (by decide) (by decide), g5 45 (by decide) (by decide) (by decide)]
theorem c11_newExcF {ne : Nat} {kf p : Int} (ht : TKN t) (hm : MRk t X (i + 1)) (hi : i < uN t) (hk : uK t i = 14) (hat : X 489 2 = uP t i) (en : X 518 4 = ne) (n6 : ne ≤ 6) (ebg : bg = uS t i) (hC : X 489 47 = C.length ∧ ∀ k, k < C.length → X 524 k = C.getD k 0) (lC : C.length ≤ i) (h : (ne = 6 ∧ kf = 5 ∧ p = uS t i) ∨ (ne < 6 ∧ Tsf t 6 (i + 1) kf p)) (k : ∀ Y : HI, MFq X Y kf p → K Y) : CV mX11_newException (d + 10) [vR 489, vI bg] X K := by
  have tn := tK_n ht hi
  have e16 := ht.1.1
  rcases h with ⟨h0, e1, e2⟩ | ⟨h0, hs⟩
  · subst e1; subst e2; subst ebg
    exact bk_X11_newException_0 (c11_isFull (kd := 4) (by omega) hm.2.2.1.2 (fun e Y fY => ⟨fun z => by omega, fun _ => PV_i (k Y (MFq_l (MSd_rfl X) fY (by decide)))⟩) (fun e => absurd (by rw [en, h0]; rfl) e))
  · refine bk_X11_newException_0 (c11_isFull (kd := 4) (by omega) hm.2.2.1.2 (fun e => by omega) (fun _ => ⟨fun _ => ?_, fun z => absurd rfl z⟩))
    rw [en, Int.toNat_natCast, hat]
    refine ⟨by omega, fun I2 e2 I3 e3 I4 e4 I5 e5 => ?_⟩
    obtain ⟨m5, r5, s5, f5, a526, g5⟩ := exc_ini hm hC h0 e2 e3 e4 e5
    refine (c11_test ht m5 r5 (by omega) (npt_of ht hi (by omega))).2 kf p hs (fun Y fY => ⟨by omega, fun I7 e7 => ?_⟩)
    have fq : MFq X Y kf p := ⟨MSd_tr s5 (MSd_ftm fY), fY.2.1⟩
    have fq7 := MFq_up fq e7 (by show _ < _; omega)
    obtain ⟨q, eq⟩ : ∃ q : Nat, I7 489 2 = q := ⟨(I7 489 2).toNat, by rw [e7, up_k (by decide)]; have := fY.2.2.2; omega⟩
    have q16 : q ≤ 1600 := by
      have h1 : I7 489 2 = Y 489 2 := by rw [e7, up_k (by decide)]
      have := fY.2.2.2
      omega
    rw [eq]
    refine c11_wordsIn q16 ⟨by omega, fun I9 e9 => ?_⟩
    have fq9 := MFq_up fq7 e9 (by show _ < _; omega)
    have z518 : I9 518 = X 518 := by rw [e9, up_k (by decide), e7, up_k (by decide), fY.1.1 518 (by decide) (by decide) (by decide), f5 518 (by decide) (by decide)]
    rw [z518, en]
    exact ⟨by omega, fun Ia ea => PV_i (k Ia (MFq_up fq9 ea (by show _ < _; omega)))⟩
end NE1
