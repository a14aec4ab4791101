section OP0
variable {d : Nat} {I : HI} {K : HI → Prop} {KI : Int → HI → Prop} {t : Txt}
theorem adv_30 {X : HI} {a1 a2 : Int} (ht : TKN t) (x27 : X 27 = uA t) (xt : TOA t X) (hi : 0 ≤ uN t) (x5 : X 28 5 = (0 : Int)) (ha : (jnd t (0) ↔ ¬ (a1 = 0) ∧ (uS t (0) : Int) = a2 ∧ uK t (0) ≤ 28)) (x11 : 0 ≤ X 28 11 ∧ X 28 11 ≤ uO t + (0 : Int)) (h : ∀ Y : HI, AVf X Y → RDk t Y (0) → Y 28 11 = X 28 11 → K Y) : J none mX7_advance (d + 1) 0 0 34 [(0, vR 28), (1, vI a1), (2, vI a2)] [] (mk X) (PV K) := by
  obtain ⟨s1, s2, s3⟩ := xt (0) hi
  obtain ⟨k1, k2, k3⟩ := tK_e ht hi
  have n16 := ht.1.2
  refine bk_X7_advance_34 ?_
  have e5 : (X 28 5).toNat = 0 := by omega
  rw [x5, show ((0 : Int)).toNat = 0 from rfl]
  refine ⟨by omega, fun I1 e1 => ?_⟩
  have f5 : I1 28 5 = (0 : Int) := by rw [e1, up_n (by decide), x5]
  rw [f5, show ((0 : Int)).toNat = 0 from rfl]
  refine ⟨by omega, fun I2 e2 => ?_⟩
  have g5 : I2 28 5 = (0 : Int) := by rw [e2, up_n (by decide), f5]
  rw [g5, show ((0 : Int)).toNat = 0 from rfl]
  refine ⟨by omega, fun I3 e3 => ?_⟩
  have h6 : I3 28 6 = uS t (0) := by rw [e3, up_n (by decide), e2, up_s, e1, up_k (by decide)]; exact s1
  have h8 : I3 28 8 = uK t (0) := by rw [e3, up_n (by decide), e2, up_n (by decide), e1, up_s]; exact s3
  have h7 : I3 28 7 = uP t (0) := by rw [e3, up_s, e2, up_k (by decide), e1, up_k (by decide)]; exact s2
  have h5 : I3 28 5 = (0 : Int) := by rw [e3, up_n (by decide), g5]
  have hk : ∀ k, k ≠ 28 → I3 k = X k := fun k hk => by rw [e3, up_k hk, e2, up_k hk, e1, up_k hk]
  have hj : ∀ j, j ≠ 6 → j ≠ 7 → j ≠ 8 → I3 28 j = X 28 j := fun j a b c => by rw [e3, up_n (by omega), e2, up_n (by omega), e1, up_n (by omega)]
  have done : ∀ (jv : Int) (Y : HI), (jnd t (0) → jv = 1) → (¬ jnd t (0) → jv = 0) → (∀ k, k ≠ 28 → Y k = I3 k) → (∀ j, j ≠ 5 → j ≠ 9 → Y 28 j = I3 28 j) → Y 28 9 = jv → Y 28 5 = (if uK t (0) = 30 then ((0 : Nat) : Int) else ((0 : Nat) : Int) + 1) → K Y := by
    intro jv Y j1 j0 y1 y2 y9 y5
    refine h Y ⟨fun k hk' => by rw [y1 k hk', hk k hk'], fun j hj' => by rw [y2 j (by omega) (by omega), hj j (by omega) (by omega) (by omega)]⟩ ⟨⟨by rw [y1 27 (by decide), hk 27 (by decide)]; exact x27, fun u hu => ?_⟩, hi, ⟨y5, by rw [y2 6 (by decide) (by decide)]; exact h6, by rw [y2 7 (by decide) (by decide)]; exact h7, by rw [y2 8 (by decide) (by decide)]; exact h8⟩, ⟨fun q => by rw [y9]; exact j1 q, fun q => by rw [y9]; exact j0 q⟩, ?_⟩ ?_
    · rw [y1 29 (by decide), y1 30 (by decide), y1 31 (by decide), hk 29 (by decide), hk 30 (by decide), hk 31 (by decide)]
      exact xt u hu
    · rw [y2 11 (by decide) (by decide), hj 11 (by decide) (by decide) (by decide)]
      exact ⟨x11.1, by have := x11.2; rw [show ((0 : Nat) : Int) = (0 : Int) from by omega]; omega⟩
    · rw [y2 11 (by decide) (by decide), hj 11 (by decide) (by decide) (by decide)]
  have fin : ∀ (jv : Int) (I4 : HI), I4 = up I3 28 9 jv → (jnd t (0) → jv = 1) → (¬ jnd t (0) → jv = 0) → ((I4 28 8 = 30 → PV K none (mk I4)) ∧ (¬ (I4 28 8 = 30) → (-2147483648 ≤ I4 28 5 + 1 ∧ I4 28 5 + 1 ≤ 2147483647) ∧ ∀ I5 : HI, I5 = up I4 28 5 (I4 28 5 + 1) → PV K none (mk I5))) := by
    intro jv I4 e4 j1 j0
    have m8 : I4 28 8 = uK t (0) := by rw [e4, up_n (by decide)]; exact h8
    have m5 : I4 28 5 = (0 : Int) := by rw [e4, up_n (by decide)]; exact h5
    refine ⟨fun q => PV_i (done jv I4 j1 j0 (fun k hk' => by rw [e4, up_k hk']) (fun j _ b => by rw [e4, up_n (by omega)]) (by rw [e4, up_s]) (by rw [m5, if_pos (by omega)]; omega)), fun q => ⟨by omega, fun I5 e5 => PV_i (done jv I5 j1 j0 (fun k hk' => by rw [e5, up_k hk', e4, up_k hk']) (fun j a b => by rw [e5, up_n (by omega), e4, up_n (by omega)]) (by rw [e5, up_n (by decide), e4, up_s]) ?_)⟩⟩
    rw [e5, up_s, m5, if_neg (by omega)]
    omega
  refine ⟨fun q I4 e4 => fin 0 I4 e4 (fun w => absurd q (ha.mp w).1) (fun _ => rfl), fun q => ⟨fun q2 I6 e6 => fin 0 I6 e6 (fun w => absurd (h6.trans (ha.mp w).2.1) q2) (fun _ => rfl), fun q2 => ⟨fun q3 I8 e8 => fin 0 I8 e8 (fun w => by have := (ha.mp w).2.2; omega) (fun _ => rfl), fun q3 I10 e10 => fin 1 I10 e10 (fun _ => rfl) (fun w => absurd (ha.mpr ⟨q, by omega, by omega⟩) w)⟩⟩⟩
/-- the class opens a text: an empty draft, the first token -/
def OPN (t : Txt) (I Y : HI) : Prop := RDk t Y 0 ∧ (∀ c, (c < 14 ∨ 31 < c ∨ c = 27) → Y c = I c) ∧ (Y 28 12 = 0 ∧ Y 28 13 = 0 ∧ Y 28 14 = -1) ∧ ((∀ j, j < 5 → Y 15 j = 0) ∧ (∀ j, j < 100 → Y 25 j = -1) ∧ Y 23 0 = 0 ∧ Y 14 12 = 0 ∧ Y 14 13 = -1)
theorem c7_open {e : Nat} (ee : I 0 12 = e) (e16 : e ≤ 1600) (t0 : 0 ≤ I 28 11 ∧ I 28 11 ≤ 10000000) (h : ∀ (t : Txt) (Y : HI), TKN t → uA t = I 27 → uE t = e → uO t = I 28 11 → OPN t I Y → K Y) : CV mX7_open (d + 7) [vR 28, vI (I 0 12)] I K := by
  refine bk_X7_open_0 ?_
  rw [ee, show min (e : Int) 1600 = (e : Int) from by omega]
  refine c7_cut e16 t0 (fun t I1 ht hA hE hO f1 a1 I2 e2 I3 e3 I4 e4 I5 e5 I6 e6 I7 e7 => ?_)
  have f7 : ∀ c, c ≠ 28 → I7 c = I1 c := fun c hc => by rw [e7, up_k hc, e6, up_k hc, e5, up_k hc, e4, up_k hc, e3, up_k hc, e2, up_k hc]
  have g11 : I7 28 11 = I 28 11 := by rw [e7, up_n (by decide), e6, up_n (by decide), e5, up_n (by decide), e4, up_n (by decide), e3, up_n (by decide), e2, up_n (by decide), f1 28 (by decide) (by decide) (by decide)]
  refine bk_X0_emptyd_0 (c_fill (n0 := 5) rfl (by omega) (c_fill (n0 := 100) rfl (by omega) (fun J3 q3 J4 q4 J5 q5 => PV_i ?_)))
  have fJ : ∀ c, (c < 14 ∨ 25 < c) → J5 c = I7 c := fun c hc => by rw [q5, up_k (by omega), q4, up_k (by omega), q3, up_k (by omega), flI_f (by omega), flI_f (by omega)]
  have j28 : J5 28 = I7 28 := fJ 28 (by omega)
  have k8 : J5 28 8 = 29 := by rw [j28, e7, up_n (by decide), e6, up_n (by decide), e5, up_n (by decide), e4, up_s]
  have k7 : J5 28 7 = 0 := by rw [j28, e7, up_n (by decide), e6, up_n (by decide), e5, up_n (by decide), e4, up_n (by decide), e3, up_s]
  have k5 : J5 28 5 = 0 := by rw [j28, e7, up_n (by decide), e6, up_n (by decide), e5, up_n (by decide), e4, up_n (by decide), e3, up_n (by decide), e2, up_s]
  have k12 : J5 28 12 = 0 := by rw [j28, e7, up_n (by decide), e6, up_n (by decide), e5, up_s]
  have k13 : J5 28 13 = 0 := by rw [j28, e7, up_n (by decide), e6, up_s]
  have k14 : J5 28 14 = -1 := by rw [j28, e7, up_s]
  have k11 : J5 28 11 = I 28 11 := by rw [j28]; exact g11
  refine bk_X7_advance_0 ⟨fun q => ?_, fun q => by omega⟩
  rw [k7]
  refine adv_30 ht (by rw [fJ 27 (by omega), f7 27 (by decide), f1 27 (by decide) (by decide) (by decide)]; exact hA.symm) (fun u hu => by rw [fJ 29 (by omega), fJ 30 (by omega), fJ 31 (by omega), f7 29 (by decide), f7 30 (by decide), f7 31 (by decide)]; exact a1 u hu) (Nat.zero_le _) k5 ⟨fun w => by have := w.1; omega, fun w => absurd rfl w.1⟩ (by rw [k11, hO]; omega) (fun Y fY rY eY => PV_i (h t Y ht hA hE hO ⟨rY, fun c hc => ?_, ⟨by rw [fY.2 12 (by omega)]; exact k12, by rw [fY.2 13 (by omega)]; exact k13, by rw [fY.2 14 (by omega)]; exact k14⟩, fun j hj => ?_, fun j hj => ?_, ?_, ?_, ?_⟩))
  · rw [fY.1 c (by omega), fJ c (by omega), f7 c (by omega), f1 c (by omega) (by omega) (by omega)]
  · rw [fY.1 15 (by decide), q5, up_k (by decide), q4, up_k (by decide), q3, up_k (by decide), flI_f (by decide), flI_i hj]
  · rw [fY.1 25 (by decide), q5, up_k (by decide), q4, up_k (by decide), q3, up_k (by decide), flI_i hj]
  · rw [fY.1 23 (by decide), q5, up_k (by decide), q4, up_k (by decide), q3, up_s]
  · rw [fY.1 14 (by decide), q5, up_n (by decide), q4, up_s]
  · rw [fY.1 14 (by decide), q5, up_s]
theorem OPN_v {Y : HI} (h : OPN t I Y) : DRV Y [] ∧ CDt Y [] := by
  obtain ⟨_, _, ⟨h12, _⟩, z15, z25, z23, z1, z2⟩ := h
  have q0 := z15 0 (by omega)
  have q1 := z15 1 (by omega)
  have q2 := z15 2 (by omega)
  have q3 := z15 3 (by omega)
  have q4 := z15 4 (by omega)
  refine ⟨⟨⟨by omega, by omega, by omega, by omega, by omega⟩, fun u hu => by omega, fun u hu => by omega, fun a b ha hb => Or.inl ⟨z25 _ (by omega), fun l hl => by omega⟩, fun u hu => by omega, fun u hu => by omega, ⟨by omega, z1⟩, fun u hu => by omega⟩, by rw [h12]; rfl, fun k hk => absurd hk (Nat.not_lt_zero _)⟩
end OP0
/-- the statements in their order -/
def CHt (t : Txt) : Nat → Nat → Nat → HI → Nat → HI → Prop
  | 0, i, m, I, mf, Y => i = uN t ∧ mf = m ∧ Y = I
  | L + 1, i, m, I, mf, Y => i < uN t ∧ m < 70 ∧ ∃ (j : Nat) (I1 : HI), SS t i j I I1 ∧ CHt t L j (m + 1) I1 mf Y
def CHu (t : Txt) : Nat → Nat → Nat → HI → Int → Int → Prop
  | 0, i, m, I, k, p => i < uN t ∧ ((m = 70 ∧ k = 5 ∧ p = uS t i) ∨ (m < 70 ∧ SF t i I k p))
  | L + 1, i, m, I, k, p => i < uN t ∧ m < 70 ∧ ∃ (j : Nat) (I1 : HI), SS t i j I I1 ∧ CHu t L j (m + 1) I1 k p
/-- what told statements keep in the class: a fitting list of codes -/
theorem SS_v {t : Txt} (ht : TKN t) {i j : Nat} {I Y : HI} {C : List Int} (h : SS t i j I Y) (hj : j ≤ uN t) (dv : DRV I C) (dC : CDt I C) (e23 : I 23 (I 15 4).toNat = C.length) (lC : C.length ≤ i) : ∃ C', DRV Y C' ∧ CDt Y C' ∧ Y 23 (Y 15 4).toNat = C'.length ∧ C'.length ≤ j ∧ i < j := by
  have cr := dv.1
  have n16 := ht.1.2
  rcases h with hs | hs | hs | hs | hs | hs
  · obtain ⟨ej, hk, h0, v3, ⟨h1, h2, h3, h4⟩, cn, b18, b16, fy⟩ := hs
    obtain ⟨n, en⟩ : ∃ n : Nat, I 15 0 = n := ⟨(I 15 0).toNat, by have := cr.1; omega⟩
    exact ⟨C, DRV_corner dv en (by omega) h3.2.2.2 cn b18 fy, CDt_f dC (fy 22 (by omega) (by omega) (by omega) (by omega) (by omega)) cn.2, by rw [cn.1.2 4 (by decide), fy 23 (by omega) (by omega) (by omega) (by omega) (by omega)]; exact e23, by omega, by omega⟩
  · obtain ⟨ej, hk, h0, a1, a2, v4, v6, ⟨h1, h2, h3, h4, h5, h6, h7⟩, cn, b19, b25, fy⟩ := hs
    obtain ⟨n, en⟩ : ∃ n : Nat, I 15 1 = n := ⟨(I 15 1).toNat, by have := cr.2.1; omega⟩
    have c0 := cr.1
    have q1 := h1.2.1.1
    have q2 := h2.2.1.1
    obtain ⟨p1, p2⟩ := h2.2.2 (by omega)
    rw [show ((a1 : Int) * 10 + (a2 : Int)).toNat = 10 * a1 + a2 from by omega] at p2
    exact ⟨C, DRV_lane dv en (by omega) q1 q2 (fun u => p1 (by omega)) p2 h4.2.2.2 h6.2.2.2 cn b19 b25 fy, CDt_f dC (fy 22 (by omega) (by omega) (by omega) (by omega) (by omega)) cn.2, by rw [cn.1.2 4 (by decide), fy 23 (by omega) (by omega) (by omega) (by omega) (by omega)]; exact e23, by omega, by omega⟩
  · obtain ⟨ej, hk, h0, a3, v5, v7, v9, ⟨h1, h2, h3, h4, h5, h6, h7, h8, h9, h10⟩, cn, b20, b17, fy⟩ := hs
    obtain ⟨n, en⟩ : ∃ n : Nat, I 15 2 = n := ⟨(I 15 2).toNat, by have := cr.2.2.1; omega⟩
    exact ⟨C, DRV_saint dv en (by omega) h3.2.1.1 h5.2.2.2 h7.2.2.2 h9.2.2.2 cn b20 fy, CDt_f dC (fy 22 (by omega) (by omega) (by omega) (by omega) (by omega)) cn.2, by rw [cn.1.2 4 (by decide), fy 23 (by omega) (by omega) (by omega) (by omega) (by omega)]; exact e23, by omega, by omega⟩
  · obtain ⟨ej, hk, h0, a2, v4, v6, v8, ⟨h1, h2, h3, h4, h5, h6, h7, h8, h9⟩, cn, b21, fy⟩ := hs
    obtain ⟨n, en⟩ : ∃ n : Nat, I 15 3 = n := ⟨(I 15 3).toNat, by have := cr.2.2.2.1; omega⟩
    exact ⟨C, DRV_balcony dv en (by omega) h4.2.2.2.1 h6.2.2.2 h8.2.2.2 cn b21 fy, CDt_f dC (fy 22 (by omega) (by omega) (by omega) (by omega)) cn.2, by rw [cn.1.2 4 (by decide), fy 23 (by omega) (by omega) (by omega) (by omega)]; exact e23, by omega, by omega⟩
  · obtain ⟨hk, h0, j1, cs, h1, h2, ej, bC, b15, b24, b23, fy⟩ := hs
    obtain ⟨n, en⟩ : ∃ n : Nat, I 15 4 = n := ⟨(I 15 4).toNat, by have := cr.2.2.2.2; omega⟩
    have ln := Tss_len h1
    have wr := wct_rng (t := t) (i0 := i + 1) j1
    have dY := bC C dC
    rw [en, Int.toNat_natCast] at e23
    refine ⟨C ++ cs, DRV_but dv en (by omega) (by omega) (Tss_w h1) e23 b15 b24 (by rw [dY.1] at b23; exact b23) fy, dY, ?_, by rw [List.length_append]; omega, by omega⟩
    rw [en, Int.toNat_natCast, dY.1] at b23
    rw [b15.1, en, show ((n : Int) + 1).toNat = n + 1 from by omega]
    exact b23.1
  · obtain ⟨ej, hk, ⟨v, h1, h2, b14⟩, fy, e12⟩ := hs
    exact ⟨C, DRV_rain dv h1.2.2.2 b14 fy, CDt_f dC (fy 22 (by omega) (by omega)) e12, by rw [fy 15 (by omega) (by omega), fy 23 (by omega) (by omega)]; exact e23, by omega, by omega⟩
