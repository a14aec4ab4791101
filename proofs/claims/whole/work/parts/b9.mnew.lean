section NW1
variable {d : Nat} {X I : HI} {K : HI → Prop} {t : Txt} {i : Nat} {bg : Int}
def O9 (X Y : HI) : Prop := ∀ j, j ≠ 2 → j ≠ 4 → j ≠ 36 → Y 489 j = X 489 j
theorem c11_newCornerS {n : Nat} {v3 : Int} (ht : TKN t) (hm : MRk t X (i + 1)) (mo : NMR X I) (en : I 15 0 = n) (n10 : n < 10) (h1 : NNs I t (i + 1)) (h2 : WS t (i + 2) 1) (h3 : NUs t (i + 3) 1 9 v3) (k : ∀ Y : HI, MSd X Y → MRk t Y (i + 4) → AP1 (X 518) (Y 518) 0 ((n : Int) + 1) → AP1 (X 519) (Y 519) n (nmv (uA t) (uS t (i + 1)) (uP t (i + 1) - uS t (i + 1))) → AP1 (X 520) (Y 520) n v3 → (∀ c, c ≠ 489 → c ≠ 518 → c ≠ 519 → c ≠ 520 → Y c = X c) → O9 X Y → K Y) : CV mX11_newCorner (d + 7) [vR 489, vI bg] X K := by
  have x0 : X 518 0 = n := by rw [mo.1.1]; exact en
  refine bk_X11_newCorner_0 (c11_isFull (kd := 0) (by omega) hm.2.2.1.2 (fun e => by omega) (fun _ => ⟨fun _ => ?_, fun z => absurd rfl z⟩))
  refine c11_newNameK (kd := 0) (n := n) (by omega) ht hm mo x0 (by omega) (fun _ Z1 f1 g1 w1 m1 => ?_) (fun k' p' hf => (NN_x h1 hf).elim)
  rw [Nat.mul_zero, Nat.zero_add] at w1
  refine c11_asksS (w := 1) rfl (by omega) ht m1 h2 (fun Z2 f2 m2 => c11_numS ht m2 h3 (fun Z3 f3 m3 => ⟨fun _ => ⟨by omega, fun I5 e5 => ?_⟩, fun z => absurd m3.2.2.1.2 z⟩))
  have f23 := NTf_tr f2 f3
  rw [Int.toNat_natCast] at e5
  have z518 : I5 518 = X 518 := by rw [e5, up_k (by decide), f23.1 518 (by decide), f1 518 (by decide) (by decide)]
  rw [z518, x0]
  refine ⟨by omega, fun I6 e6 => PV_i (k I6 ?_ (MRk_c m3 (fun c hc => by rw [e6, up_k (by omega), e5, up_k (by omega)]) (fun j _ _ => by rw [e6, up_k (by decide), e5, up_k (by decide)])) ⟨?_, fun u hu => ?_⟩ ⟨?_, fun u hu => ?_⟩ ⟨?_, fun u hu => ?_⟩ (fun c a1 a2 a3 a4 => ?_) (fun j a b c => ?_))⟩
  · refine MSd_tr (Y := Z1) ⟨fun c a b => f1 c a (by omega), ⟨fun u _ => by rw [f1 518 (by decide) (by decide)], fun u hu => w1.2 u (by omega), fun u _ => by rw [f1 520 (by decide) (by decide)], fun u _ => by rw [f1 521 (by decide) (by decide)], fun u _ => by rw [f1 522 (by decide) (by decide)], fun u _ => by rw [f1 523 (by decide) (by decide)], fun u _ => by rw [f1 524 (by decide) (by decide)], fun u _ => by rw [f1 526 (by decide) (by decide)], fun u _ => by rw [f1 527 (by decide) (by decide)], fun u _ => by rw [f1 528 (by decide) (by decide)]⟩, fun j a b _ _ c _ _ _ _ _ => g1 j a b c⟩ ?_
    exact MSd_tr (MSd_n f23) (MSd_tr (MSd_up e5 (by show _ < _; omega)) (MSd_up e6 (by show _ < _; omega)))
  · rw [e6, up_s]
  · rw [e6, up_n (by omega), z518]
  · rw [e6, up_k (by decide), e5, up_k (by decide), f23.1 519 (by decide)]; exact w1.1
  · rw [e6, up_k (by decide), e5, up_k (by decide), f23.1 519 (by decide)]; exact w1.2 u hu
  · rw [e6, up_k (by decide), e5, up_s]
  · rw [e6, up_k (by decide), e5, up_n (by omega), f23.1 520 (by decide), f1 520 (by decide) (by decide)]
  · rw [e6, up_k a2, e5, up_k a4, f23.1 c a1, f1 c a1 a3]
  · rw [e6, up_k (by decide), e5, up_k (by decide), f23.2 j a b c, g1 j a b c]
theorem c11_newCornerF {n : Nat} {kf p : Int} (ht : TKN t) (hm : MRk t X (i + 1)) (mo : NMR X I) (en : I 15 0 = n) (n10 : n ≤ 10) (hk : uK t i = 0) (ebg : bg = uS t i) (h : ((¬ I 15 0 < 10 ∧ kf = 5 ∧ p = uS t i) ∨ (I 15 0 < 10 ∧ (NNf I t (i + 1) kf p ∨ (NNs I t (i + 1) ∧ (WFx t (i + 2) 1 kf p ∨ (WS t (i + 2) 1 ∧ NUf t (i + 3) 1 9 kf p))))))) (k : ∀ Y : HI, MFq X Y kf p → K Y) : CV mX11_newCorner (d + 7) [vR 489, vI bg] X K := by
  have x0 : X 518 0 = n := by rw [mo.1.1]; exact en
  rcases h with ⟨h0, e1, e2⟩ | ⟨h0, h⟩
  · subst e1; subst e2; subst ebg
    exact bk_X11_newCorner_0 (c11_isFull (kd := 0) (by omega) hm.2.2.1.2 (fun e Y fY => ⟨fun z => by omega, fun _ => PV_i (k Y (MFq_l (MSd_rfl X) fY (by decide)))⟩) (fun e => by omega))
  · refine bk_X11_newCorner_0 (c11_isFull (kd := 0) (by omega) hm.2.2.1.2 (fun e => by omega) (fun _ => ⟨fun _ => ?_, fun z => absurd rfl z⟩))
    rcases h with hf | ⟨h1, h⟩
    · refine c11_newNameK (kd := 0) (n := n) (by omega) ht hm mo x0 (by omega) (fun hn => (NN_x hn hf).elim) (fun k' p' hf' Y fY => ?_)
      obtain ⟨e1, e2⟩ := NNf_u hf hf'
      subst e1; subst e2
      have fq := MFq_n (MSd_rfl X) fY (NNf_k hf)
      exact aB (w := 1) rfl (by omega) (MFq_b fq) (c11_numberB (MFq_b fq) ⟨fun z => absurd z (MFq_b fq), fun _ => PV_i (k Y fq)⟩)
    · refine c11_newNameK (kd := 0) (n := n) (by omega) ht hm mo x0 (by omega) (fun _ Z1 f1 g1 w1 m1 => ?_) (fun k' p' hf => (NN_x h1 hf).elim)
      rw [Nat.mul_zero, Nat.zero_add] at w1
      have s1 : MSd X Z1 := ⟨fun c a b => f1 c a (by omega), ⟨fun u _ => by rw [f1 518 (by decide) (by decide)], fun u hu => w1.2 u (by omega), fun u _ => by rw [f1 520 (by decide) (by decide)], fun u _ => by rw [f1 521 (by decide) (by decide)], fun u _ => by rw [f1 522 (by decide) (by decide)], fun u _ => by rw [f1 523 (by decide) (by decide)], fun u _ => by rw [f1 524 (by decide) (by decide)], fun u _ => by rw [f1 526 (by decide) (by decide)], fun u _ => by rw [f1 527 (by decide) (by decide)], fun u _ => by rw [f1 528 (by decide) (by decide)]⟩, fun j a b _ _ c _ _ _ _ _ => g1 j a b c⟩
      rcases h with hw | ⟨h2, hu⟩
      · exact c11_asksF (w := 1) rfl (by omega) ht m1 s1 hw (fun Y fq => c11_numberB (MFq_b fq) ⟨fun z => absurd z (MFq_b fq), fun _ => PV_i (k Y fq)⟩)
      · exact c11_asksS (w := 1) rfl (by omega) ht m1 h2 (fun Z2 f2 m2 => c11_numF ht m2 (MSd_tr s1 (MSd_n f2)) hu (fun x Y hx fq => ⟨fun z => absurd z (MFq_b fq), fun _ => PV_i (k Y fq)⟩))
/-- lane l joins a and b -/
def jns (f : Nat → Int) (l : Nat) (a b : Int) : Prop := (f (4 * l) = a ∧ f (4 * l + 1) = b) ∨ (f (4 * l) = b ∧ f (4 * l + 1) = a)
theorem lane_56 {a b : Int} {nl : Nat} (nl16 : nl ≤ 16) (k1 : (a = b ∨ ∃ l, l < nl ∧ jns (X 521) l a b) → ∀ x6 : Int, CV mX11_fail (d + 6) [vR 489, vI 3, vI (X 489 36)] X (fun I1 => J none mX11_newLane (d + 7) 0 0 144 [(0, vR 489), (1, vI bg), (2, vI (4 * (nl : Int))), (3, vI a), (4, vI b), (5, vI 1), (6, vI x6)] [] (mk I1) (PV K))) (k0 : ¬ (a = b ∨ ∃ l, l < nl ∧ jns (X 521) l a b) → ∀ x6 : Int, J none mX11_newLane (d + 7) 0 0 144 [(0, vR 489), (1, vI bg), (2, vI (4 * (nl : Int))), (3, vI a), (4, vI b), (5, vI 0), (6, vI x6)] [] (mk X) (PV K)) : ∀ (m l : Nat) (f : Int), l + m = nl → ((f = 1 ∧ (a = b ∨ ∃ l', l' < l ∧ jns (X 521) l' a b)) ∨ (f = 0 ∧ ¬ (a = b ∨ ∃ l', l' < l ∧ jns (X 521) l' a b))) → J none mX11_newLane (d + 7) 0 0 56 [(0, vR 489), (1, vI bg), (2, vI (4 * (nl : Int))), (3, vI a), (4, vI b), (5, vI f), (6, vI (4 * (l : Int)))] [] (mk X) (PV K)
  | 0, l, f, e, hf => by
    have el : l = nl := by omega
    subst el
    refine bk_X11_newLane_56 ⟨fun _ => ?_, fun z => by omega⟩
    rcases hf with ⟨e1, h⟩ | ⟨e1, h⟩
    · subst e1
      exact ⟨fun z => absurd z (by decide), fun _ => k1 h _⟩
    · subst e1
      exact ⟨fun _ => k0 h _, fun z => absurd rfl z⟩
  | m + 1, l, f, e, hf => by
    have ih := lane_56 nl16 k1 k0 m (l + 1)
    have nxt : ∀ f' : Int, ((f' = 1 ∧ (a = b ∨ ∃ l', l' < l + 1 ∧ jns (X 521) l' a b)) ∨ (f' = 0 ∧ ¬ (a = b ∨ ∃ l', l' < l + 1 ∧ jns (X 521) l' a b))) → J none mX11_newLane (d + 7) 0 0 56 [(0, vR 489), (1, vI bg), (2, vI (4 * (nl : Int))), (3, vI a), (4, vI b), (5, vI f'), (6, vI (4 * (l : Int) + 4))] [] (mk X) (PV K) := fun f' h => by
      have := ih f' (by omega) h
      rw [show 4 * ((l + 1 : Nat) : Int) = 4 * (l : Int) + 4 from by omega] at this
      exact this
    have t0 : (4 * (l : Int)).toNat = 4 * l := by omega
    have t1 : (4 * (l : Int) + 1).toNat = 4 * l + 1 := by omega
    refine bk_X11_newLane_56 ?_
    rw [t0, t1]
    rcases hf with ⟨e1, h⟩ | ⟨e1, h⟩
    · subst e1
      refine ⟨fun z => by omega, fun _ => ⟨fun _ => ⟨by omega, nxt 1 (Or.inl ⟨rfl, ?_⟩)⟩, fun z => absurd z (by decide)⟩⟩
      rcases h with u | ⟨l', u1, u2⟩
      · exact Or.inl u
      · exact Or.inr ⟨l', by omega, u2⟩
    · subst e1
      have yes : jns (X 521) l a b → J none mX11_newLane (d + 7) 0 0 56 [(0, vR 489), (1, vI bg), (2, vI (4 * (nl : Int))), (3, vI a), (4, vI b), (5, vI 1), (6, vI (4 * (l : Int) + 4))] [] (mk X) (PV K) := fun j => nxt 1 (Or.inl ⟨rfl, Or.inr ⟨l, by omega, j⟩⟩)
      have nos : ¬ jns (X 521) l a b → J none mX11_newLane (d + 7) 0 0 56 [(0, vR 489), (1, vI bg), (2, vI (4 * (nl : Int))), (3, vI a), (4, vI b), (5, vI 0), (6, vI (4 * (l : Int) + 4))] [] (mk X) (PV K) := fun j => nxt 0 (Or.inr ⟨rfl, fun u => by
        rcases u with u | ⟨l', u1, u2⟩
        · exact h (Or.inl u)
        · by_cases el : l' = l
          · subst el; exact j u2
          · exact h (Or.inr ⟨l', by omega, u2⟩)⟩)
      unfold jns at yes nos
      refine ⟨fun z => by omega, fun _ => ⟨fun z => absurd rfl z, fun _ => ⟨by omega, fun q => ⟨by omega, fun q2 => ⟨by omega, nos (fun u => ?_)⟩, fun q2 => ⟨by omega, by omega, fun q3 => ⟨by omega, nos (fun u => ?_)⟩, fun q3 => ⟨by omega, yes (Or.inr ⟨q2, q3⟩)⟩⟩⟩, fun q => ⟨by omega, by omega, fun q2 => ⟨by omega, yes (Or.inl ⟨q, q2⟩)⟩, fun q2 => ⟨by omega, fun q3 => ⟨by omega, nos (fun u => ?_)⟩, fun q3 => ⟨by omega, by omega, fun q4 => ⟨by omega, nos (fun u => ?_)⟩, fun q4 => ⟨by omega, yes (Or.inr ⟨q3, q4⟩)⟩⟩⟩⟩⟩⟩⟩
      · rcases u with u | u
        · exact q u.1
        · exact q2 u.1
      · rcases u with u | u
        · exact q u.1
        · exact q3 u.2
      · rcases u with u | u
        · exact q2 u.2
        · exact q3 u.1
      · rcases u with u | u
        · exact q2 u.2
        · exact q4 u.2
theorem lane_first {a b : Int} {nl : Nat} (nl16 : nl ≤ 16) (k1 : (a = b ∨ ∃ l, l < nl ∧ jns (X 521) l a b) → ∀ x6 : Int, CV mX11_fail (d + 6) [vR 489, vI 3, vI (X 489 36)] X (fun I1 => J none mX11_newLane (d + 7) 0 0 144 [(0, vR 489), (1, vI bg), (2, vI (4 * (nl : Int))), (3, vI a), (4, vI b), (5, vI 1), (6, vI x6)] [] (mk I1) (PV K))) (k0 : ¬ (a = b ∨ ∃ l, l < nl ∧ jns (X 521) l a b) → ∀ x6 : Int, J none mX11_newLane (d + 7) 0 0 144 [(0, vR 489), (1, vI bg), (2, vI (4 * (nl : Int))), (3, vI a), (4, vI b), (5, vI 0), (6, vI x6)] [] (mk X) (PV K)) : (a ≠ b → J none mX11_newLane (d + 7) 0 0 56 [(0, vR 489), (1, vI bg), (2, vI (4 * (nl : Int))), (3, vI a), (4, vI b), (5, vI 0), (6, vI 0)] [] (mk X) (PV K)) ∧ (a = b → J none mX11_newLane (d + 7) 0 0 56 [(0, vR 489), (1, vI bg), (2, vI (4 * (nl : Int))), (3, vI a), (4, vI b), (5, vI 1), (6, vI 0)] [] (mk X) (PV K)) := by
  refine ⟨fun q => ?_, fun q => ?_⟩
  · have := lane_56 nl16 k1 k0 nl 0 0 (by omega) (Or.inr ⟨rfl, fun u => by
      rcases u with u | ⟨l', u1, _⟩
      · exact q u
      · omega⟩)
    exact this
  · have := lane_56 nl16 k1 k0 nl 0 1 (by omega) (Or.inl ⟨rfl, Or.inl q⟩)
    exact this
theorem c11_newLaneS {nl a1 a2 : Nat} {v4 v6 : Int} (ht : TKN t) (hm : MRk t X (i + 1)) (mo : NMR X I) (en : X 518 2 = nl) (n16 : nl < 16) (h1 : CTs I t (i + 1) a1) (h2 : CTs I t (i + 2) a2) (hfree : ¬ ((a1 : Int) = a2 ∨ ∃ l, l < nl ∧ jns (X 521) l a1 a2)) (h3 : WS t (i + 3) 3) (h4 : NUs t (i + 4) 1 9 v4) (h5 : WS t (i + 5) 4) (h6 : NUs t (i + 6) 0 9 v6) (k : ∀ Y : HI, MSd X Y → MRk t Y (i + 7) → AP1 (X 518) (Y 518) 2 ((nl : Int) + 1) → AP4 (X 521) (Y 521) nl a1 a2 v4 v6 → (∀ c, c ≠ 489 → c ≠ 518 → c ≠ 521 → Y c = X c) → O9 X Y → K Y) : CV mX11_newLane (d + 7) [vR 489, vI bg] X K := by
  refine bk_X11_newLane_0 (c11_isFull (kd := 2) (by omega) hm.2.2.1.2 (fun e => by omega) (fun _ => ⟨fun _ => ?_, fun z => absurd rfl z⟩))
  rw [en]
  refine ⟨by omega, c11_corS ht hm mo h1 (fun Z1 f1 _ m1 => c11_corS ht m1 (NMR_f mo (f1.1 518 (by decide)) (f1.1 519 (by decide))) h2 (fun Z2 f2 _ m2 => ⟨fun _ => ?_, fun z => absurd m2.2.2.1.2 z⟩))⟩
  have f12 := NTf_tr f1 f2
  refine lane_first (nl := nl) (by omega) (fun u => absurd (by rw [f12.1 521 (by decide)] at u; exact u) hfree) (fun _ x6 => bk_X11_newLane_144 ?_)
  refine c11_asksS (w := 3) rfl (by omega) ht m2 h3 (fun Z3 f3 m3 => c11_numS ht m3 h4 (fun Z4 f4 m4 => c11_asksS (w := 4) rfl (by omega) ht m4 h5 (fun Z5 f5 m5 => c11_numS ht m5 h6 (fun Z6 f6 m6 => ⟨fun _ => ?_, fun z => absurd m6.2.2.1.2 z⟩))))
  have f := NTf_tr f12 (NTf_tr f3 (NTf_tr f4 (NTf_tr f5 f6)))
  have t0 : (4 * (nl : Int)).toNat = 4 * nl := by omega
  have t1 : (4 * (nl : Int) + 1).toNat = 4 * nl + 1 := by omega
  have t2 : (4 * (nl : Int) + 2).toNat = 4 * nl + 2 := by omega
  have t3 : (4 * (nl : Int) + 3).toNat = 4 * nl + 3 := by omega
  rw [t0, t1, t2, t3]
  refine ⟨by omega, fun J1 e1 => ⟨by omega, by omega, fun J2 e2 => ⟨by omega, by omega, fun J3 e3 => ⟨by omega, by omega, fun J4 e4 => ?_⟩⟩⟩⟩
  have z518 : J4 518 = X 518 := by rw [e4, up_k (by decide), e3, up_k (by decide), e2, up_k (by decide), e1, up_k (by decide), f.1 518 (by decide)]
  rw [z518, en]
  refine ⟨by omega, fun J5 e5 => PV_i (k J5 (MSd_tr (MSd_n f) (MSd_tr (MSd_up e1 (by show _ < _; omega)) (MSd_tr (MSd_up e2 (by show _ < _; omega)) (MSd_tr (MSd_up e3 (by show _ < _; omega)) (MSd_tr (MSd_up e4 (by show _ < _; omega)) (MSd_up e5 (by show _ < _; omega))))))) (MRk_c m6 (fun c hc => by rw [e5, up_k (by omega), e4, up_k (by omega), e3, up_k (by omega), e2, up_k (by omega), e1, up_k (by omega)]) (fun j _ _ => by rw [e5, up_k (by decide), e4, up_k (by decide), e3, up_k (by decide), e2, up_k (by decide), e1, up_k (by decide)])) ⟨?_, fun u hu => ?_⟩ ⟨⟨?_, ?_, ?_, ?_⟩, fun u hu => ?_⟩ (fun c a1 a2 a3 => ?_) (fun j a b c => ?_))⟩
  · rw [e5, up_s]
  · rw [e5, up_n (by omega), z518]
  · rw [e5, up_k (by decide), e4, up_n (by omega), e3, up_n (by omega), e2, up_n (by omega), e1, up_s]
  · rw [e5, up_k (by decide), e4, up_n (by omega), e3, up_n (by omega), e2, up_s]
  · rw [e5, up_k (by decide), e4, up_n (by omega), e3, up_s]
  · rw [e5, up_k (by decide), e4, up_s]
  · rw [e5, up_k (by decide), e4, up_n (by omega), e3, up_n (by omega), e2, up_n (by omega), e1, up_n (by omega), f.1 521 (by decide)]
  · rw [e5, up_k a2, e4, up_k a3, e3, up_k a3, e2, up_k a3, e1, up_k a3, f.1 c a1]
  · rw [e5, up_k (by decide), e4, up_k (by decide), e3, up_k (by decide), e2, up_k (by decide), e1, up_k (by decide), f.2 j a b c]
theorem lane_144B {a2 a3 a4 a5 a6 : Int} (hb : X 489 5 ≠ 0) (h : K X) : J none mX11_newLane (d + 7) 0 0 144 [(0, vR 489), (1, vI bg), (2, vI a2), (3, vI a3), (4, vI a4), (5, vI a5), (6, vI a6)] [] (mk X) (PV K) :=
  bk_X11_newLane_144 (aB (w := 3) rfl (by omega) hb (c11_numberB hb (aB (w := 4) rfl (by omega) hb (c11_numberB hb ⟨fun z => absurd z hb, fun _ => PV_i h⟩))))
theorem c11_newLaneF {nl : Nat} {kf p : Int} (ht : TKN t) (hm : MRk t X (i + 1)) (mo : NMR X I) (en : X 518 2 = nl) (n16 : nl ≤ 16) (ebg : bg = uS t i) (h : ((nl = 16 ∧ kf = 5 ∧ p = uS t i) ∨ (nl < 16 ∧ (CTf I t (i + 1) kf p ∨ (∃ a1, CTs I t (i + 1) a1 ∧ (CTf I t (i + 2) kf p ∨ (∃ a2, CTs I t (i + 2) a2 ∧ ((((a1 : Int) = a2 ∨ ∃ l, l < nl ∧ jns (X 521) l a1 a2) ∧ kf = 3 ∧ p = uS t (i + 2)) ∨ (¬ ((a1 : Int) = a2 ∨ ∃ l, l < nl ∧ jns (X 521) l a1 a2) ∧ (WFx t (i + 3) 3 kf p ∨ (WS t (i + 3) 3 ∧ (NUf t (i + 4) 1 9 kf p ∨ (∃ v4, NUs t (i + 4) 1 9 v4 ∧ (WFx t (i + 5) 4 kf p ∨ (WS t (i + 5) 4 ∧ NUf t (i + 6) 0 9 kf p))))))))))))))) (k : ∀ Y : HI, MFq X Y kf p → K Y) : CV mX11_newLane (d + 7) [vR 489, vI bg] X K := by
  have q10 : X 518 0 ≤ 10 ∧ 0 ≤ X 518 0 := by rw [mo.1.1]; have := mo.2.1; omega
  rcases h with ⟨h0, e1, e2⟩ | ⟨h0, h⟩
  · subst e1; subst e2; subst ebg
    exact bk_X11_newLane_0 (c11_isFull (kd := 2) (by omega) hm.2.2.1.2 (fun e Y fY => ⟨fun z => by omega, fun _ => PV_i (k Y (MFq_l (MSd_rfl X) fY (by decide)))⟩) (fun e => absurd (by rw [en, h0]; rfl) e))
  · refine bk_X11_newLane_0 (c11_isFull (kd := 2) (by omega) hm.2.2.1.2 (fun e => by omega) (fun _ => ⟨fun _ => ?_, fun z => absurd rfl z⟩))
    rw [en]
    rcases h with hf | ⟨a1, h1, h⟩
    · refine ⟨by omega, c11_corF ht hm mo (MSd_rfl X) hf (fun x Y hx fq sm => ?_)⟩
      refine c11_cornerB (q0 := (X 518 0).toNat) (by rw [sm 518 (by decide)]; omega) (by omega) (MFq_b fq) (fun x' _ => ⟨fun z => absurd z (MFq_b fq), fun _ => PV_i (k Y fq)⟩)
    · refine ⟨by omega, c11_corS ht hm mo h1 (fun Z1 f1 _ m1 => ?_)⟩
      have mo1 := NMR_f mo (f1.1 518 (by decide)) (f1.1 519 (by decide))
      rcases h with hf | ⟨a2, h2, h⟩
      · exact c11_corF ht m1 mo1 (MSd_n f1) hf (fun x Y hx fq sm => ⟨fun z => absurd z (MFq_b fq), fun _ => PV_i (k Y fq)⟩)
      · refine c11_corS ht m1 mo1 h2 (fun Z2 f2 z36 m2 => ⟨fun _ => ?_, fun z => absurd m2.2.2.1.2 z⟩)
        have f12 := NTf_tr f1 f2
        have e521 : Z2 521 = X 521 := f12.1 521 (by decide)
        rcases h with ⟨ht3, e1, e2⟩ | ⟨hfree, h⟩
        · subst e1; subst e2
          refine lane_first (nl := nl) (by omega) (fun _ x6 => ?_) (fun u => absurd (by rw [e521]; exact ht3) u)
          rw [z36]
          exact c11_fail m2.2.2.1.2 (fun Y fY => lane_144B (by have := fY.2.2.1; omega) (k Y (MFq_l (MSd_n f12) fY (by decide))))
        · refine lane_first (nl := nl) (by omega) (fun u => absurd (by rw [e521] at u; exact u) hfree) (fun _ x6 => bk_X11_newLane_144 ?_)
          rcases h with hw | ⟨h3, h⟩
          · exact c11_asksF (w := 3) rfl (by omega) ht m2 (MSd_n f12) hw (fun Y fq => c11_numberB (MFq_b fq) (aB (w := 4) rfl (by omega) (MFq_b fq) (c11_numberB (MFq_b fq) ⟨fun z => absurd z (MFq_b fq), fun _ => PV_i (k Y fq)⟩)))
          · refine c11_asksS (w := 3) rfl (by omega) ht m2 h3 (fun Z3 f3 m3 => ?_)
            have f13 := NTf_tr f12 f3
            rcases h with hu | ⟨v4, h4, h⟩
            · exact c11_numF ht m3 (MSd_n f13) hu (fun x Y hx fq => aB (w := 4) rfl (by omega) (MFq_b fq) (c11_numberB (MFq_b fq) ⟨fun z => absurd z (MFq_b fq), fun _ => PV_i (k Y fq)⟩))
            · refine c11_numS ht m3 h4 (fun Z4 f4 m4 => ?_)
              have f14 := NTf_tr f13 f4
              rcases h with hw | ⟨h5, hu⟩
              · exact c11_asksF (w := 4) rfl (by omega) ht m4 (MSd_n f14) hw (fun Y fq => c11_numberB (MFq_b fq) ⟨fun z => absurd z (MFq_b fq), fun _ => PV_i (k Y fq)⟩)
              · exact c11_asksS (w := 4) rfl (by omega) ht m4 h5 (fun Z5 f5 m5 => c11_numF ht m5 (MSd_n (NTf_tr f14 f5)) hu (fun x Y hx fq => ⟨fun z => absurd z (MFq_b fq), fun _ => PV_i (k Y fq)⟩))
end NW1
