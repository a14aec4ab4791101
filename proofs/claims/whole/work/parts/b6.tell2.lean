theorem FQ_up {t : Txt} {I Y Z : HI} {k p v : Int} {c u : Nat} (h : FQc t I Y k p) (e : Z = up Y c u v) (hc : 14 ≤ c ∧ c ≤ 26) : FQc t I Z k p := by
  obtain ⟨h1, h2, h3, h4⟩ := h
  exact ⟨fun c' a b => by rw [e, up_k (by omega), h1 c' a b], by rw [e, up_k (by omega)]; exact h2, by rw [e, up_k (by omega)]; exact h3, by rw [e, up_k (by omega)]; exact h4⟩
section CT3
variable {d : Nat} {I : HI} {K : HI → Prop} {KI : Int → HI → Prop} {t : Txt} {i : Nat}
theorem c7_tellSaint (ht : TKN t) (hr : RDk t I i) (hk : uK t i = 5) (cr : CRg I) (w0 : 0 ≤ I 28 12) (k1 : ∀ (a3 : Nat) (v5 v7 v9 : Int) Y, I 15 2 < 4 → NNs I t (i + 1) → WS t (i + 2) 6 → ACs I t (i + 3) (-1) a3 → WS t (i + 4) 7 → NUs t (i + 5) 1 5 v5 → WS t (i + 6) 8 → NUs t (i + 7) 0 20 v7 → WS t (i + 8) 9 → NUs t (i + 9) 0 99 v9 → RDk t Y (i + 10) → (CNT I Y 2 ∧ AP4 (I 20) (Y 20) (I 15 2).toNat a3 v5 v7 v9 ∧ AP6 (I 17) (Y 17) (I 15 2).toNat t (i + 1) ∧ (∀ c, 14 ≤ c → c ≤ 26 → c ≠ 15 → c ≠ 17 → c ≠ 20 → Y c = I c)) → SFd I Y → KI 1 Y) (k0 : ∀ k p Y, SF_saint t i I k p → FQc t I Y k p → KI 0 Y) : CI mX7_tellSaint (d + 4) [vR 28] I KI := by
  have hi : i < uN t := by have := tK_e ht hr.2.1; have := hr.2.1; omega
  obtain ⟨n, en⟩ : ∃ n : Nat, I 15 2 = n := ⟨(I 15 2).toNat, by have := cr.2.2.1; omega⟩
  have q1 := cr.1
  have q3 := cr.2.2.1
  have fqm : ∀ {Z Y : HI} {i' : Nat} {k p : Int}, RDk t Z i' → MID I Z 17 20 → FLc Z Y k p → FQc t I Y k p := fun r m f => FQ_mid ht r m (by omega) (by omega) w0 f
  have fqn : ∀ {Z X Y : HI} {i' : Nat} {k p : Int}, RDk t Z i' → MID I Z 17 20 → NVf Z X → X 28 11 = Z 28 11 → FLc X Y k p → FQc t I Y k p := fun r m fx ex f => FQ_midN ht r m (by omega) (by omega) w0 fx ex f
  refine bk_X7_tellSaint_0 (c7_full (w := 2) ht hr hi (by omega) (fun hf Z1 m1 r1 _ => ⟨fun _ => ?_, fun z => absurd rfl z⟩) (fun hf Y fY => ⟨fun z => by omega, fun _ => PI_i (k0 5 _ Y ⟨hk, Or.inl ⟨hf, rfl, rfl⟩⟩ (fqm hr (MID_rfl I 17 20) fY))⟩))
  have m1' : MID I Z1 17 20 := MID_ab m1
  have z15 : Z1 15 = I 15 := m1.1 15 (by decide) (by decide) (by decide)
  have zc : ∀ c, 15 ≤ c → c ≤ 17 → Z1 c = I c := fun c _ _ => m1.1 c (by omega) (by omega) (by omega)
  have e10 : Z1 15 2 = (n : Int) := by rw [z15, en]
  rw [e10]
  refine c7_newName (a := 17) (n1 := 24) (w := n) rfl (by omega) (by omega) ht r1 (by omega) (by rw [z15]; exact q1) (by rw [z15]; exact q3) (fun hn Z2 f2 r2 _ => ⟨fun z => by omega, fun _ => ?_⟩) (fun k p hn Y fY => ⟨fun _ => PI_i (k0 k p Y ⟨hk, Or.inr ⟨hf, Or.inl ((NNf_m zc).mp hn)⟩⟩ (fqm r1 m1' fY)), fun z => absurd rfl z⟩)
  have m2 := MID_nn m1' f2
  have hn' := (NNs_m zc).mp hn
  refine c7_word ht r2 (by omega) (fun e1 e2 Z3 f3 r3 _ => ⟨fun _ => ?_, fun z => by omega⟩) (fun hw Y fY => ⟨fun z => absurd rfl z, fun _ => PI_i (k0 1 _ Y ⟨hk, Or.inr ⟨hf, Or.inr ⟨hn', Or.inl (WF_i rfl hw)⟩⟩⟩ (fqm r2 m2 fY))⟩)
  have m3 := MID_av m2 f3
  have hw2 := WS_i (w := 6) e1 rfl e2
  have x1 : Z3 15 = I 15 := m3.1 15 (by decide) (by decide) (by decide)
  have x2 : Z3 16 = I 16 := m3.1 16 (by decide) (by decide) (by decide)
  have x3 : Z3 25 = I 25 := m3.1 25 (by decide) (by decide) (by decide)
  have t0 : ((n : Int) * 4).toNat = 4 * n := by omega
  have t1 : ((n : Int) * 4 + 1).toNat = 4 * n + 1 := by omega
  have t2 : ((n : Int) * 4 + 2).toNat = 4 * n + 2 := by omega
  have t3 : ((n : Int) * 4 + 3).toNat = 4 * n + 3 := by omega
  refine c7_askedCorner ht r3 (by rw [x1]; exact q1) (Or.inl rfl) (fun a3 h3 Z4 f4 r4 _ => ⟨by omega, by omega, fun I5 e5 => ⟨fun z => by omega, fun _ => ?_⟩⟩) (fun k p h3 Y fY => ⟨by omega, by omega, fun I5 e5 => ⟨fun _ => PI_i (k0 k p I5 ⟨hk, Or.inr ⟨hf, Or.inr ⟨hn', Or.inr ⟨hw2, Or.inl ((ACf_m x1 x2 x3).mp h3)⟩⟩⟩⟩ (FQ_up (fqm r3 m3 fY) e5 (by omega))), fun z => absurd rfl z⟩⟩)
  have h3' := (ACs_m x1 x2 x3).mp h3
  have m4 := MID_up (MID_av m3 f4) e5 (by decide)
  have r5 := RD_up r4 e5 (by decide)
  refine c7_word ht r5 (by omega) (fun g1 g2 Z6 f6 r6 _ => ⟨fun z => by omega, fun _ => ?_⟩) (fun hw Y fY => ⟨fun _ => PI_i (k0 1 _ Y ⟨hk, Or.inr ⟨hf, Or.inr ⟨hn', Or.inr ⟨hw2, Or.inr ⟨a3, h3', Or.inl (WF_i rfl hw)⟩⟩⟩⟩⟩ (fqm r5 m4 fY)), fun z => absurd rfl z⟩)
  have m6 := MID_av m4 f6
  have hw4 := WS_i (w := 7) g1 rfl g2
  refine c7_number ht r6 (fun v5 Z7 hv5 f7 vz7 r7 _ => ⟨fun _ => ⟨by omega, by omega, by omega, fun I8 e8 => ?_⟩, fun z => by omega⟩) (fun k p hu X Y fX eX fY => ⟨fun z => absurd rfl z, fun _ => PI_i (k0 k p Y ⟨hk, Or.inr ⟨hf, Or.inr ⟨hn', Or.inr ⟨hw2, Or.inr ⟨a3, h3', Or.inr ⟨hw4, Or.inl hu⟩⟩⟩⟩⟩⟩ (fqn r6 m6 fX eX fY))⟩)
  have m8 := MID_up (MID_nv m6 f7) e8 (by decide)
  have r8 := RD_up r7 e8 (by decide)
  refine c7_word ht r8 (by omega) (fun p1 p2 Z9 f9 r9 _ => ⟨fun z => by omega, fun _ => ?_⟩) (fun hw Y fY => ⟨fun _ => PI_i (k0 1 _ Y ⟨hk, Or.inr ⟨hf, Or.inr ⟨hn', Or.inr ⟨hw2, Or.inr ⟨a3, h3', Or.inr ⟨hw4, Or.inr ⟨v5, hv5, Or.inl (WF_i rfl hw)⟩⟩⟩⟩⟩⟩⟩ (fqm r8 m8 fY)), fun z => absurd rfl z⟩)
  have m9 := MID_av m8 f9
  have hw6 := WS_i (w := 8) p1 rfl p2
  refine c7_number ht r9 (fun v7 Za hv7 fa vza ra _ => ⟨fun _ => ⟨by omega, by omega, by omega, fun Ib eb => ?_⟩, fun z => by omega⟩) (fun k p hu X Y fX eX fY => ⟨fun z => absurd rfl z, fun _ => PI_i (k0 k p Y ⟨hk, Or.inr ⟨hf, Or.inr ⟨hn', Or.inr ⟨hw2, Or.inr ⟨a3, h3', Or.inr ⟨hw4, Or.inr ⟨v5, hv5, Or.inr ⟨hw6, Or.inl hu⟩⟩⟩⟩⟩⟩⟩⟩ (fqn r9 m9 fX eX fY))⟩)
  have mb := MID_up (MID_nv m9 fa) eb (by decide)
  have rb := RD_up ra eb (by decide)
  refine c7_word ht rb (by omega) (fun s1 s2 Zc fc rc _ => ⟨fun z => by omega, fun _ => ?_⟩) (fun hw Y fY => ⟨fun _ => PI_i (k0 1 _ Y ⟨hk, Or.inr ⟨hf, Or.inr ⟨hn', Or.inr ⟨hw2, Or.inr ⟨a3, h3', Or.inr ⟨hw4, Or.inr ⟨v5, hv5, Or.inr ⟨hw6, Or.inr ⟨v7, hv7, Or.inl (WF_i rfl hw)⟩⟩⟩⟩⟩⟩⟩⟩⟩ (fqm rb mb fY)), fun z => absurd rfl z⟩)
  have mc := MID_av mb fc
  have hw8 := WS_i (w := 9) s1 rfl s2
  refine c7_number ht rc (fun v9 Zd hv9 fd vzd rd _ => ⟨fun _ => ⟨by omega, by omega, by omega, fun Ie ee => ?_⟩, fun z => by omega⟩) (fun k p hu X Y fX eX fY => ⟨fun z => absurd rfl z, fun _ => PI_i (k0 k p Y ⟨hk, Or.inr ⟨hf, Or.inr ⟨hn', Or.inr ⟨hw2, Or.inr ⟨a3, h3', Or.inr ⟨hw4, Or.inr ⟨v5, hv5, Or.inr ⟨hw6, Or.inr ⟨v7, hv7, Or.inr ⟨hw8, Or.inl hu⟩⟩⟩⟩⟩⟩⟩⟩⟩⟩ (fqn rc mc fX eX fY))⟩)
  have me := MID_up (MID_nv mc fd) ee (by decide)
  have re := RD_up rd ee (by decide)
  have c15 : Ie 15 = I 15 := me.1 15 (by decide) (by decide) (by decide)
  rw [c15, en]
  rw [t0] at e5
  rw [t1, vz7] at e8
  rw [t2, vza] at eb
  rw [t3, vzd] at ee
  refine ⟨by omega, fun I6 e6 => PI_i (k1 a3 v5 v7 v9 I6 hf hn' hw2 h3' hw4 hv5 hw6 hv7 hw8 hv9 (RD_up re e6 (by decide)) ⟨⟨⟨?_, fun u hu => ?_⟩, ?_⟩, ⟨⟨?_, ?_, ?_, ?_⟩, fun u hu => ?_⟩, ⟨fun k hk' => ?_, fun u hu => ?_⟩, fun c a1 a2 a3 a4 a5 => ?_⟩ ⟨fun c a1 a2 => ?_, ?_⟩)⟩
  · rw [e6, up_s, en]
  · rw [e6, up_n (by omega), c15]
  · rw [e6, up_k (by decide)]; exact me.2 12 (by omega)
  · rw [en, Int.toNat_natCast, e6, up_k (by decide), ee, up_n (by omega), fd.1 20 (by decide), fc.1 20 (by decide), eb, up_n (by omega), fa.1 20 (by decide), f9.1 20 (by decide), e8, up_n (by omega), f7.1 20 (by decide), f6.1 20 (by decide), e5, up_s]
  · rw [en, Int.toNat_natCast, e6, up_k (by decide), ee, up_n (by omega), fd.1 20 (by decide), fc.1 20 (by decide), eb, up_n (by omega), fa.1 20 (by decide), f9.1 20 (by decide), e8, up_s]
  · rw [en, Int.toNat_natCast, e6, up_k (by decide), ee, up_n (by omega), fd.1 20 (by decide), fc.1 20 (by decide), eb, up_s]
  · rw [en, Int.toNat_natCast, e6, up_k (by decide), ee, up_s]
  · rw [en, Int.toNat_natCast] at hu
    rw [e6, up_k (by decide), ee, up_n (by omega), fd.1 20 (by decide), fc.1 20 (by decide), eb, up_n (by omega), fa.1 20 (by decide), f9.1 20 (by decide), e8, up_n (by omega), f7.1 20 (by decide), f6.1 20 (by decide), e5, up_n (by omega), f4.1 20 (by decide), f3.1 20 (by decide), f2.1 20 (by decide) (by decide), m1.1 20 (by decide) (by decide) (by decide)]
  · rw [en, Int.toNat_natCast, e6, up_k (by decide), ee, up_k (by decide), fd.1 17 (by decide), fc.1 17 (by decide), eb, up_k (by decide), fa.1 17 (by decide), f9.1 17 (by decide), e8, up_k (by decide), f7.1 17 (by decide), f6.1 17 (by decide), e5, up_k (by decide), f4.1 17 (by decide), f3.1 17 (by decide)]
    exact f2.2.2.1 k hk'
  · rw [en, Int.toNat_natCast] at hu
    rw [e6, up_k (by decide), ee, up_k (by decide), fd.1 17 (by decide), fc.1 17 (by decide), eb, up_k (by decide), fa.1 17 (by decide), f9.1 17 (by decide), e8, up_k (by decide), f7.1 17 (by decide), f6.1 17 (by decide), e5, up_k (by decide), f4.1 17 (by decide), f3.1 17 (by decide), f2.2.2.2 u hu, m1.1 17 (by decide) (by decide) (by decide)]
  · rw [e6, up_k a3]; exact me.1 c (by omega) a4 a5
  · rw [e6, up_k (by omega)]; exact me.1 c a2 (by omega) (by omega)
  · rw [e6, up_k (by decide)]; exact ⟨me.2 13 (by omega), me.2 14 (by omega)⟩
theorem c7_tellBalcony (ht : TKN t) (hr : RDk t I i) (hk : uK t i = 10) (cr : CRg I) (w0 : 0 ≤ I 28 12) (k1 : ∀ (a2 : Nat) (v4 v6 v8 : Int) Y, I 15 3 < 10 → WS t (i + 1) 6 → ACs I t (i + 2) (-1) a2 → WS t (i + 3) 11 → NUs t (i + 4) 0 999 v4 → WS t (i + 5) 12 → NUs t (i + 6) v4 999 v6 → WS t (i + 7) 13 → NUs t (i + 8) 1 99 v8 → RDk t Y (i + 9) → (CNT I Y 3 ∧ AP4 (I 21) (Y 21) (I 15 3).toNat a2 v4 v6 v8 ∧ (∀ c, 14 ≤ c → c ≤ 26 → c ≠ 15 → c ≠ 21 → Y c = I c)) → SFd I Y → KI 1 Y) (k0 : ∀ k p Y, SF_balcony t i I k p → FQc t I Y k p → KI 0 Y) : CI mX7_tellBalcony (d + 4) [vR 28] I KI := by
  have hi : i < uN t := by have := tK_e ht hr.2.1; have := hr.2.1; omega
  obtain ⟨n, en⟩ : ∃ n : Nat, I 15 3 = n := ⟨(I 15 3).toNat, by have := cr.2.2.2.1; omega⟩
  have q1 := cr.1
  have fqm : ∀ {Z Y : HI} {i' : Nat} {k p : Int}, RDk t Z i' → MID I Z 21 21 → FLc Z Y k p → FQc t I Y k p := fun r m f => FQ_mid ht r m (by omega) (by omega) w0 f
  have fqn : ∀ {Z X Y : HI} {i' : Nat} {k p : Int}, RDk t Z i' → MID I Z 21 21 → NVf Z X → X 28 11 = Z 28 11 → FLc X Y k p → FQc t I Y k p := fun r m fx ex f => FQ_midN ht r m (by omega) (by omega) w0 fx ex f
  refine bk_X7_tellBalcony_0 (c7_full (w := 3) ht hr hi (by omega) (fun hf Z1 m1 r1 _ => ⟨fun z => absurd rfl z, fun _ => ?_⟩) (fun hf Y fY => ⟨fun _ => PI_i (k0 5 _ Y ⟨hk, Or.inl ⟨hf, rfl, rfl⟩⟩ (fqm hr (MID_rfl I 21 21) fY)), fun z => by omega⟩))
  have m1' : MID I Z1 21 21 := MID_ab m1
  refine c7_word ht r1 (by omega) (fun e1 e2 Z2 f2 r2 _ => ⟨fun _ => ?_, fun z => by omega⟩) (fun hw Y fY => ⟨fun z => absurd rfl z, fun _ => PI_i (k0 1 _ Y ⟨hk, Or.inr ⟨hf, Or.inl (WF_i rfl hw)⟩⟩ (fqm r1 m1' fY))⟩)
  have m2 := MID_av m1' f2
  have hw1 := WS_i (w := 6) e1 rfl e2
  have x1 : Z2 15 = I 15 := m2.1 15 (by decide) (by decide) (by decide)
  have x2 : Z2 16 = I 16 := m2.1 16 (by decide) (by decide) (by decide)
  have x3 : Z2 25 = I 25 := m2.1 25 (by decide) (by decide) (by decide)
  have e10 : Z2 15 3 = (n : Int) := by rw [x1, en]
  have t0 : ((n : Int) * 4).toNat = 4 * n := by omega
  have t1 : ((n : Int) * 4 + 1).toNat = 4 * n + 1 := by omega
  have t2 : ((n : Int) * 4 + 2).toNat = 4 * n + 2 := by omega
  have t3 : ((n : Int) * 4 + 3).toNat = 4 * n + 3 := by omega
  rw [e10]
  refine ⟨by omega, c7_askedCorner ht r2 (by rw [x1]; exact q1) (Or.inl rfl) (fun a2 h2 Z3 f3 r3 _ => ⟨by omega, fun I4 e4 => ⟨fun z => by omega, fun _ => ?_⟩⟩) (fun k p h2 Y fY => ⟨by omega, fun I4 e4 => ⟨fun _ => PI_i (k0 k p I4 ⟨hk, Or.inr ⟨hf, Or.inr ⟨hw1, Or.inl ((ACf_m x1 x2 x3).mp h2)⟩⟩⟩ (FQ_up (fqm r2 m2 fY) e4 (by omega))), fun z => absurd rfl z⟩⟩)⟩
  have h2' := (ACs_m x1 x2 x3).mp h2
  have m4 := MID_up (MID_av m2 f3) e4 (by decide)
  have r4 := RD_up r3 e4 (by decide)
  refine c7_word ht r4 (by omega) (fun g1 g2 Z5 f5 r5 _ => ⟨fun z => by omega, fun _ => ?_⟩) (fun hw Y fY => ⟨fun _ => PI_i (k0 1 _ Y ⟨hk, Or.inr ⟨hf, Or.inr ⟨hw1, Or.inr ⟨a2, h2', Or.inl (WF_i rfl hw)⟩⟩⟩⟩ (fqm r4 m4 fY)), fun z => absurd rfl z⟩)
  have m5 := MID_av m4 f5
  have hw3 := WS_i (w := 11) g1 rfl g2
  refine c7_number ht r5 (fun v4 Z6 hv4 f6 vz6 r6 _ => ⟨fun _ => ⟨by omega, by omega, fun I7 e7 => ?_⟩, fun z => by omega⟩) (fun k p hu X Y fX eX fY => ⟨fun z => absurd rfl z, fun _ => PI_i (k0 k p Y ⟨hk, Or.inr ⟨hf, Or.inr ⟨hw1, Or.inr ⟨a2, h2', Or.inr ⟨hw3, Or.inl hu⟩⟩⟩⟩⟩ (fqn r5 m5 fX eX fY))⟩)
  have m7 := MID_up (MID_nv m5 f6) e7 (by decide)
  have r7 := RD_up r6 e7 (by decide)
  refine c7_word ht r7 (by omega) (fun p1 p2 Z8 f8 r8 _ => ⟨fun z => by omega, fun _ => ?_⟩) (fun hw Y fY => ⟨fun _ => PI_i (k0 1 _ Y ⟨hk, Or.inr ⟨hf, Or.inr ⟨hw1, Or.inr ⟨a2, h2', Or.inr ⟨hw3, Or.inr ⟨v4, hv4, Or.inl (WF_i rfl hw)⟩⟩⟩⟩⟩⟩ (fqm r7 m7 fY)), fun z => absurd rfl z⟩)
  have m8 := MID_av m7 f8
  have hw5 := WS_i (w := 12) p1 rfl p2
  have v10 : Z8 28 10 = v4 := by rw [f8.2 10 (by omega), e7, up_k (by decide), vz6]
  rw [v10]
  refine c7_number ht r8 (fun v6 Z9 hv6 f9 vz9 r9 _ => ⟨fun _ => ⟨by omega, by omega, fun Ia ea => ?_⟩, fun z => by omega⟩) (fun k p hu X Y fX eX fY => ⟨fun z => absurd rfl z, fun _ => PI_i (k0 k p Y ⟨hk, Or.inr ⟨hf, Or.inr ⟨hw1, Or.inr ⟨a2, h2', Or.inr ⟨hw3, Or.inr ⟨v4, hv4, Or.inr ⟨hw5, Or.inl hu⟩⟩⟩⟩⟩⟩⟩ (fqn r8 m8 fX eX fY))⟩)
  have ma := MID_up (MID_nv m8 f9) ea (by decide)
  have ra := RD_up r9 ea (by decide)
  refine c7_word ht ra (by omega) (fun s1 s2 Zb fb rb _ => ⟨fun z => by omega, fun _ => ?_⟩) (fun hw Y fY => ⟨fun _ => PI_i (k0 1 _ Y ⟨hk, Or.inr ⟨hf, Or.inr ⟨hw1, Or.inr ⟨a2, h2', Or.inr ⟨hw3, Or.inr ⟨v4, hv4, Or.inr ⟨hw5, Or.inr ⟨v6, hv6, Or.inl (WF_i rfl hw)⟩⟩⟩⟩⟩⟩⟩⟩ (fqm ra ma fY)), fun z => absurd rfl z⟩)
  have mb := MID_av ma fb
  have hw7 := WS_i (w := 13) s1 rfl s2
  refine c7_number ht rb (fun v8 Zc hv8 fc vzc rc _ => ⟨fun _ => ⟨by omega, by omega, fun Id ed => ?_⟩, fun z => by omega⟩) (fun k p hu X Y fX eX fY => ⟨fun z => absurd rfl z, fun _ => PI_i (k0 k p Y ⟨hk, Or.inr ⟨hf, Or.inr ⟨hw1, Or.inr ⟨a2, h2', Or.inr ⟨hw3, Or.inr ⟨v4, hv4, Or.inr ⟨hw5, Or.inr ⟨v6, hv6, Or.inr ⟨hw7, Or.inl hu⟩⟩⟩⟩⟩⟩⟩⟩⟩ (fqn rb mb fX eX fY))⟩)
  have md := MID_up (MID_nv mb fc) ed (by decide)
  have rd := RD_up rc ed (by decide)
  have c15 : Id 15 = I 15 := md.1 15 (by decide) (by decide) (by decide)
  rw [c15, en]
  rw [t0] at e4
  rw [t1, vz6] at e7
  rw [t2, vz9] at ea
  rw [t3, vzc] at ed
  refine ⟨by omega, fun I6 e6 => PI_i (k1 a2 v4 v6 v8 I6 hf hw1 h2' hw3 hv4 hw5 hv6 hw7 hv8 (RD_up rd e6 (by decide)) ⟨⟨⟨?_, fun u hu => ?_⟩, ?_⟩, ⟨⟨?_, ?_, ?_, ?_⟩, fun u hu => ?_⟩, fun c a1 a2 a3 a4 => ?_⟩ ⟨fun c a1 a2 => ?_, ?_⟩)⟩
  · rw [e6, up_s, en]
  · rw [e6, up_n (by omega), c15]
  · rw [e6, up_k (by decide)]; exact md.2 12 (by omega)
  · rw [en, Int.toNat_natCast, e6, up_k (by decide), ed, up_n (by omega), fc.1 21 (by decide), fb.1 21 (by decide), ea, up_n (by omega), f9.1 21 (by decide), f8.1 21 (by decide), e7, up_n (by omega), f6.1 21 (by decide), f5.1 21 (by decide), e4, up_s]
  · rw [en, Int.toNat_natCast, e6, up_k (by decide), ed, up_n (by omega), fc.1 21 (by decide), fb.1 21 (by decide), ea, up_n (by omega), f9.1 21 (by decide), f8.1 21 (by decide), e7, up_s]
  · rw [en, Int.toNat_natCast, e6, up_k (by decide), ed, up_n (by omega), fc.1 21 (by decide), fb.1 21 (by decide), ea, up_s]
  · rw [en, Int.toNat_natCast, e6, up_k (by decide), ed, up_s]
  · rw [en, Int.toNat_natCast] at hu
    rw [e6, up_k (by decide), ed, up_n (by omega), fc.1 21 (by decide), fb.1 21 (by decide), ea, up_n (by omega), f9.1 21 (by decide), f8.1 21 (by decide), e7, up_n (by omega), f6.1 21 (by decide), f5.1 21 (by decide), e4, up_n (by omega), f3.1 21 (by decide), f2.1 21 (by decide), m1.1 21 (by decide) (by decide) (by decide)]
  · rw [e6, up_k a3]; exact md.1 c (by omega) a4 a4
  · rw [e6, up_k (by omega)]; exact md.1 c a2 (by omega) (by omega)
  · rw [e6, up_k (by decide)]; exact ⟨md.2 13 (by omega), md.2 14 (by omega)⟩
end CT3
