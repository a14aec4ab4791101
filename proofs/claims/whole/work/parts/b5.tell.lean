theorem MID_rfl (I : HI) (a b : Nat) : MID I I a b := ⟨fun _ _ _ _ => rfl, fun _ _ => rfl⟩
def CRg (I : HI) : Prop := (0 ≤ I 15 0 ∧ I 15 0 ≤ 10) ∧ (0 ≤ I 15 1 ∧ I 15 1 ≤ 16) ∧ (0 ≤ I 15 2 ∧ I 15 2 ≤ 4) ∧ (0 ≤ I 15 3 ∧ I 15 3 ≤ 10) ∧ (0 ≤ I 15 4 ∧ I 15 4 ≤ 6)
/-- what a told statement leaves alone in the class -/
def SFd (I Y : HI) : Prop := (∀ c, (c < 14 ∨ 26 < c) → c ≠ 28 → Y c = I c) ∧ (Y 28 13 = I 28 13 ∧ Y 28 14 = I 28 14)
section CT2
variable {d : Nat} {I : HI} {K : HI → Prop} {KI : Int → HI → Prop} {t : Txt} {i : Nat}
theorem WS_i {w : Nat} {x : Int} (e : (uK t i : Int) = x) (ex : x = w) (j : ¬ jnd t i) : WS t i w := ⟨by omega, j⟩
theorem WF_i {w : Nat} {x : Int} (ex : x = w) (h : ¬ ((uK t i : Int) = x ∧ ¬ jnd t i)) : WFx t i w 1 (uS t i) := ⟨fun u => h ⟨by have := u.1; omega, u.2⟩, rfl, rfl⟩
theorem c7_tellCorner (ht : TKN t) (hr : RDk t I i) (hk : uK t i = 0) (cr : CRg I) (w0 : 0 ≤ I 28 12) (k1 : ∀ v3 Y, I 15 0 < 10 → NNs I t (i + 1) → WS t (i + 2) 1 → NUs t (i + 3) 1 9 v3 → RDk t Y (i + 4) → (CNT I Y 0 ∧ AP1 (I 18) (Y 18) (I 15 0).toNat v3 ∧ AP6 (I 16) (Y 16) (I 15 0).toNat t (i + 1) ∧ (∀ c, 14 ≤ c → c ≤ 26 → c ≠ 15 → c ≠ 16 → c ≠ 18 → Y c = I c)) → SFd I Y → KI 1 Y) (k0 : ∀ k p Y, SF_corner t i I k p → FQc t I Y k p → KI 0 Y) : CI mX7_tellCorner (d + 4) [vR 28] I KI := by
  have hi : i < uN t := by have := tK_e ht hr.2.1; have := hr.2.1; omega
  obtain ⟨n, en⟩ : ∃ n : Nat, I 15 0 = n := ⟨(I 15 0).toNat, by have := cr.1; omega⟩
  refine bk_X7_tellCorner_0 (c7_full (w := 0) ht hr hi (by omega) (fun hf Z1 m1 r1 _ => ⟨fun _ => ?_, fun z => absurd rfl z⟩) (fun hf Y fY => ⟨fun z => by omega, fun _ => PI_i (k0 5 _ Y ⟨hk, Or.inl ⟨hf, rfl, rfl⟩⟩ (FQ_mid ht hr (MID_rfl I 14 14) (by omega) (by omega) w0 fY))⟩))
  have m1' : MID I Z1 16 18 := MID_ab m1
  have z15 : Z1 15 = I 15 := m1.1 15 (by decide) (by decide) (by decide)
  have zc : ∀ c, 15 ≤ c → c ≤ 17 → Z1 c = I c := fun c _ _ => m1.1 c (by omega) (by omega) (by omega)
  have q1 := cr.1
  have q3 := cr.2.2.1
  have e10 : Z1 15 0 = (n : Int) := by rw [z15, en]
  rw [e10]
  refine c7_newName (a := 16) (n1 := 60) (w := n) rfl (by omega) (by omega) ht r1 (by omega) (by rw [z15]; exact q1) (by rw [z15]; exact q3) (fun hn Z2 f2 r2 _ => ⟨fun z => by omega, fun _ => ?_⟩) (fun k p hn Y fY => ⟨fun _ => PI_i (k0 k p Y ⟨hk, Or.inr ⟨hf, Or.inl ((NNf_m zc).mp hn)⟩⟩ (FQ_mid ht r1 m1' (by omega) (by omega) w0 fY)), fun z => absurd rfl z⟩)
  have m2 := MID_nn m1' f2
  have hn' := (NNs_m zc).mp hn
  refine c7_word ht r2 (by omega) (fun e1 e2 Z3 f3 r3 _ => ⟨fun z => by omega, fun _ => ?_⟩) (fun hw Y fY => ⟨fun _ => PI_i (k0 1 _ Y ⟨hk, Or.inr ⟨hf, Or.inr ⟨hn', Or.inl (WF_i rfl hw)⟩⟩⟩ (FQ_mid ht r2 m2 (by omega) (by omega) w0 fY)), fun z => absurd rfl z⟩)
  have m3 := MID_av m2 f3
  have hw := WS_i (w := 1) e1 rfl e2
  refine c7_number ht r3 (fun v Z4 hv f4 v4 r4 _ => ⟨fun _ => ⟨by omega, fun I5 e5 => ?_⟩, fun z => by omega⟩) (fun k p hu X Y fX eX fY => ⟨fun z => absurd rfl z, fun _ => PI_i (k0 k p Y ⟨hk, Or.inr ⟨hf, Or.inr ⟨hn', Or.inr ⟨hw, Or.inl hu⟩⟩⟩⟩ (FQ_midN ht r3 m3 (by omega) (by omega) w0 fX eX fY))⟩)
  have m4 := MID_nv m3 f4
  have z4 : Z4 15 = I 15 := m4.1 15 (by decide) (by decide) (by decide)
  have c5 : I5 15 = I 15 := by rw [e5, up_k (by decide), z4]
  rw [c5, en]
  refine ⟨by omega, fun I6 e6 => PI_i (k1 v I6 hf hn' hw hv (RD_up (RD_up r4 e5 (by decide)) e6 (by decide)) ⟨⟨⟨?_, fun u hu => ?_⟩, ?_⟩, ⟨?_, fun u hu => ?_⟩, ⟨fun k hk' => ?_, fun u hu => ?_⟩, fun c a1 a2 a3 a4 a5 => ?_⟩ ⟨fun c a1 a2 => ?_, ?_⟩)⟩
  · rw [e6, up_s, en]
  · rw [e6, up_n (by omega), c5]
  · rw [e6, up_k (by decide), e5, up_k (by decide)]; exact m4.2 12 (by omega)
  · rw [e6, up_k (by decide), e5, en, Int.toNat_natCast, v4]; exact up_s
  · rw [en, Int.toNat_natCast] at hu
    rw [e6, up_k (by decide), e5, up_n (by omega), f4.1 18 (by decide), f3.1 18 (by decide), f2.1 18 (by decide) (by decide), m1.1 18 (by decide) (by decide) (by decide)]
  · rw [e6, up_k (by decide), e5, up_k (by decide), f4.1 16 (by decide), f3.1 16 (by decide), en, Int.toNat_natCast]; exact f2.2.2.1 k hk'
  · rw [en, Int.toNat_natCast] at hu
    rw [e6, up_k (by decide), e5, up_k (by decide), f4.1 16 (by decide), f3.1 16 (by decide), f2.2.2.2 u hu, m1.1 16 (by decide) (by decide) (by decide)]
  · rw [e6, up_k a3, e5, up_k a5]; exact m4.1 c (by omega) a4 a5
  · rw [e6, up_k (by omega), e5, up_k (by omega)]; exact m4.1 c a2 (by omega) (by omega)
  · rw [e6, up_k (by decide), e5, up_k (by decide)]; exact ⟨m4.2 13 (by omega), m4.2 14 (by omega)⟩
theorem c0_addLane {a1 a2 : Nat} {v w : Int} {n : Nat} (en : I 15 1 = n) (n16 : n < 16) (a10 : a1 < 10) (b10 : a2 < 10) (ne : a1 ≠ a2) (h : ∀ Y : HI, (∀ c, c ≠ 15 → c ≠ 19 → c ≠ 25 → Y c = I c) → AP1 (I 15) (Y 15) 1 ((n : Int) + 1) → AP4 (I 19) (Y 19) n a1 a2 v w → AP2 (I 25) (Y 25) (10 * a1 + a2) (10 * a2 + a1) n → K Y) : CV mX0_addLane (d + 1) [vR 14, vI (a1 : Int), vI (a2 : Int), vI v, vI w] I K := by
  refine bk_X0_addLane_0 ?_
  rw [en, show ((n : Int) * 4).toNat = 4 * n from by omega, show ((n : Int) * 4 + 1).toNat = 4 * n + 1 from by omega, show ((n : Int) * 4 + 2).toNat = 4 * n + 2 from by omega, show ((n : Int) * 4 + 3).toNat = 4 * n + 3 from by omega, show ((a1 : Int) * 10 + (a2 : Int)).toNat = 10 * a1 + a2 from by omega, show ((a2 : Int) * 10 + (a1 : Int)).toNat = 10 * a2 + a1 from by omega]
  refine ⟨by omega, fun I1 e1 => ⟨by omega, by omega, fun I2 e2 => ⟨by omega, by omega, by omega, fun I3 e3 => ⟨by omega, by omega, by omega, fun I4 e4 => ⟨by omega, by omega, by omega, fun I5 e5 => ⟨by omega, by omega, by omega, fun I6 e6 => ⟨by omega, by omega, by omega, fun I7 e7 => PV_i (h I7 (fun c b1 b2 b3 => ?_) ⟨?_, fun u hu => ?_⟩ ⟨⟨?_, ?_, ?_, ?_⟩, fun u hu => ?_⟩ ⟨?_, ?_, fun u h1 h2 => ?_⟩)⟩⟩⟩⟩⟩⟩⟩
  · rw [e7, up_k b3, e6, up_k b3, e5, up_k b2, e4, up_k b2, e3, up_k b2, e2, up_k b2, e1, up_k b1]
  · rw [e7, up_k (by decide), e6, up_k (by decide), e5, up_k (by decide), e4, up_k (by decide), e3, up_k (by decide), e2, up_k (by decide), e1, up_s]
  · rw [e7, up_k (by decide), e6, up_k (by decide), e5, up_k (by decide), e4, up_k (by decide), e3, up_k (by decide), e2, up_k (by decide), e1, up_n (by omega)]
  · rw [e7, up_k (by decide), e6, up_k (by decide), e5, up_n (by omega), e4, up_n (by omega), e3, up_n (by omega), e2, up_s]
  · rw [e7, up_k (by decide), e6, up_k (by decide), e5, up_n (by omega), e4, up_n (by omega), e3, up_s]
  · rw [e7, up_k (by decide), e6, up_k (by decide), e5, up_n (by omega), e4, up_s]
  · rw [e7, up_k (by decide), e6, up_k (by decide), e5, up_s]
  · rw [e7, up_k (by decide), e6, up_k (by decide), e5, up_n (by omega), e4, up_n (by omega), e3, up_n (by omega), e2, up_n (by omega), e1, up_k (by decide)]
  · rw [e7, up_n (by omega), e6, up_s]
  · rw [e7, up_s]
  · rw [e7, up_n (by omega), e6, up_n (by omega), e5, up_k (by decide), e4, up_k (by decide), e3, up_k (by decide), e2, up_k (by decide), e1, up_k (by decide)]
theorem RD_f {Z Y : HI} (h : RDk t Z i) (f : ∀ c, 26 < c → Y c = Z c) : RDk t Y i := by
  obtain ⟨⟨r1, r2⟩, r3, r4, r6, r7⟩ := h
  exact ⟨⟨by rw [f 27 (by omega)]; exact r1, fun u hu => by rw [f 29 (by omega), f 30 (by omega), f 31 (by omega)]; exact r2 u hu⟩, r3, by rw [f 28 (by omega)]; exact r4, by rw [f 28 (by omega)]; exact r6, by rw [f 28 (by omega)]; exact r7⟩
theorem c7_tellLane (ht : TKN t) (hr : RDk t I i) (hk : uK t i = 2) (cr : CRg I) (w0 : 0 ≤ I 28 12) (k1 : ∀ (a1 a2 : Nat) (v4 v6 : Int) Y, I 15 1 < 16 → ACs I t (i + 1) (-1) a1 → ACs I t (i + 2) (a1 : Int) a2 → WS t (i + 3) 3 → NUs t (i + 4) 1 9 v4 → WS t (i + 5) 4 → NUs t (i + 6) 0 9 v6 → RDk t Y (i + 7) → (CNT I Y 1 ∧ AP4 (I 19) (Y 19) (I 15 1).toNat a1 a2 v4 v6 ∧ AP2 (I 25) (Y 25) (10 * a1 + a2) (10 * a2 + a1) (I 15 1) ∧ (∀ c, 14 ≤ c → c ≤ 26 → c ≠ 15 → c ≠ 19 → c ≠ 25 → Y c = I c)) → SFd I Y → KI 1 Y) (k0 : ∀ k p Y, SF_lane t i I k p → FQc t I Y k p → KI 0 Y) : CI mX7_tellLane (d + 4) [vR 28] I KI := by
  have hi : i < uN t := by have := tK_e ht hr.2.1; have := hr.2.1; omega
  obtain ⟨n, en⟩ : ∃ n : Nat, I 15 1 = n := ⟨(I 15 1).toNat, by have := cr.2.1; omega⟩
  have q1 := cr.1
  have fqm : ∀ {Z Y : HI} {i' : Nat} {k p : Int}, RDk t Z i' → MID I Z 14 14 → FLc Z Y k p → FQc t I Y k p := fun r m f => FQ_mid ht r m (by omega) (by omega) w0 f
  refine bk_X7_tellLane_0 (c7_full (w := 1) ht hr hi (by omega) (fun hf Z1 m1 r1 _ => ⟨fun _ => ?_, fun z => absurd rfl z⟩) (fun hf Y fY => ⟨fun z => by omega, fun _ => PI_i (k0 5 _ Y ⟨hk, Or.inl ⟨hf, rfl, rfl⟩⟩ (fqm hr (MID_rfl I 14 14) fY))⟩))
  have m1' : MID I Z1 14 14 := MID_ab m1
  have ac : ∀ {Z : HI}, MID I Z 14 14 → Z 15 = I 15 ∧ Z 16 = I 16 ∧ Z 25 = I 25 := fun m => ⟨m.1 15 (by decide) (by decide) (by decide), m.1 16 (by decide) (by decide) (by decide), m.1 25 (by decide) (by decide) (by decide)⟩
  obtain ⟨x1, x2, x3⟩ := ac m1'
  refine c7_askedCorner ht r1 (by rw [x1]; exact q1) (Or.inl rfl) (fun a1 h1 Z2 f2 r2 _ => ⟨fun _ => ?_, fun z => by omega⟩) (fun k p h1 Y fY => ⟨fun z => absurd rfl z, fun _ => PI_i (k0 k p Y ⟨hk, Or.inr ⟨hf, Or.inl ((ACf_m x1 x2 x3).mp h1)⟩⟩ (fqm r1 m1' fY))⟩)
  have h1' := (ACs_m x1 x2 x3).mp h1
  have a10 : (a1 : Int) < 10 := by have := h1'.2.1.1; omega
  have m2 := MID_av m1' f2
  obtain ⟨y1, y2, y3⟩ := ac m2
  refine c7_askedCorner ht r2 (by rw [y1]; exact q1) (Or.inr (by omega)) (fun a2 h2 Z3 f3 r3 _ => ⟨fun z => by omega, fun _ => ?_⟩) (fun k p h2 Y fY => ⟨fun _ => PI_i (k0 k p Y ⟨hk, Or.inr ⟨hf, Or.inr ⟨a1, h1', Or.inl ((ACf_m y1 y2 y3).mp h2)⟩⟩⟩ (fqm r2 m2 fY)), fun z => absurd rfl z⟩)
  have h2' := (ACs_m y1 y2 y3).mp h2
  have m3 := MID_av m2 f3
  refine c7_word ht r3 (by omega) (fun e1 e2 Z4 f4 r4 _ => ⟨fun z => by omega, fun _ => ?_⟩) (fun hw Y fY => ⟨fun _ => PI_i (k0 1 _ Y ⟨hk, Or.inr ⟨hf, Or.inr ⟨a1, h1', Or.inr ⟨a2, h2', Or.inl (WF_i rfl hw)⟩⟩⟩⟩ (fqm r3 m3 fY)), fun z => absurd rfl z⟩)
  have m4 := MID_av m3 f4
  have hw3 := WS_i (w := 3) e1 rfl e2
  refine c7_number ht r4 (fun v4 Z5 hv4 f5 vz5 r5 _ => ⟨fun _ => ?_, fun z => by omega⟩) (fun k p hu X Y fX eX fY => ⟨fun z => absurd rfl z, fun _ => PI_i (k0 k p Y ⟨hk, Or.inr ⟨hf, Or.inr ⟨a1, h1', Or.inr ⟨a2, h2', Or.inr ⟨hw3, Or.inl hu⟩⟩⟩⟩⟩ (FQ_midN ht r4 m4 (by omega) (by omega) w0 fX eX fY))⟩)
  have m5 := MID_nv m4 f5
  refine c7_word ht r5 (by omega) (fun g1 g2 Z6 f6 r6 _ => ⟨fun z => by omega, fun _ => ?_⟩) (fun hw Y fY => ⟨fun _ => PI_i (k0 1 _ Y ⟨hk, Or.inr ⟨hf, Or.inr ⟨a1, h1', Or.inr ⟨a2, h2', Or.inr ⟨hw3, Or.inr ⟨v4, hv4, Or.inl (WF_i rfl hw)⟩⟩⟩⟩⟩⟩ (fqm r5 m5 fY)), fun z => absurd rfl z⟩)
  have m6 := MID_av m5 f6
  have hw5 := WS_i (w := 4) g1 rfl g2
  refine c7_number ht r6 (fun v6 Z7 hv6 f7 vz7 r7 _ => ⟨fun _ => ?_, fun z => by omega⟩) (fun k p hu X Y fX eX fY => ⟨fun z => absurd rfl z, fun _ => PI_i (k0 k p Y ⟨hk, Or.inr ⟨hf, Or.inr ⟨a1, h1', Or.inr ⟨a2, h2', Or.inr ⟨hw3, Or.inr ⟨v4, hv4, Or.inr ⟨hw5, Or.inl hu⟩⟩⟩⟩⟩⟩⟩ (FQ_midN ht r6 m6 (by omega) (by omega) w0 fX eX fY))⟩)
  have m7 := MID_nv m6 f7
  have zz : ∀ c, 14 < c → c ≤ 26 → Z7 c = I c := fun c a b => m7.1 c (by omega) (by omega) (by omega)
  rw [vz5, vz7]
  refine c0_addLane (n := n) (by rw [zz 15 (by omega) (by omega)]; exact en) (by omega) (by omega) (by have := h2'.2.1.1; omega) (fun e => (h2'.2.2 (by omega)).1 (by omega)) (fun Y fY y15 y19 y25 => PI_i (k1 a1 a2 v4 v6 Y hf h1' h2' hw3 hv4 hw5 hv6 (RD_f r7 (fun c hc => fY c (by omega) (by omega) (by omega))) ⟨⟨?_, ?_⟩, ?_, ?_, fun c a1' a2' a3 a4 a5 => ?_⟩ ⟨fun c b1 b2 => ?_, ?_⟩))
  · rw [zz 15 (by omega) (by omega)] at y15; rw [en]; exact y15
  · rw [fY 28 (by decide) (by decide) (by decide)]; exact m7.2 12 (by omega)
  · rw [zz 19 (by omega) (by omega)] at y19; rw [en, Int.toNat_natCast]; exact y19
  · rw [zz 25 (by omega) (by omega)] at y25; rw [en]; exact y25
  · rw [fY c a3 a4 a5]
    by_cases e14 : c = 14
    · subst e14
      rw [f7.1 14 (by decide), f6.1 14 (by decide), f5.1 14 (by decide), f4.1 14 (by decide), f3.1 14 (by decide), f2.1 14 (by decide), m1.1 14 (by decide) (by decide) (by decide)]
    · exact zz c (by omega) a2'
  · rw [fY c (by omega) (by omega) (by omega)]; exact m7.1 c b2 (by omega) (by omega)
  · rw [fY 28 (by decide) (by decide) (by decide)]; exact ⟨m7.2 13 (by omega), m7.2 14 (by omega)⟩
end CT2
