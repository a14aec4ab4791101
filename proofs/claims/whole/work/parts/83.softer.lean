/-- the class's side of a night, with all that is asked of clashes -/
def CWs (I : HI) (cs : Int → List Int) : Prop := CTY I ∧ ClW I cs ∧ (∀ s : Int, 0 ≤ s → s < I 518 6 → OkW I s (cs s)) ∧ (0 ≤ I 489 64 ∧ I 489 64 < oSl 1 (I 518 9)) ∧ I 33 101 = I 489 64
theorem CWs_fr {I X : HI} {cs : Int → List Int} (h : CWs I cs) (f : CF I X) (o : X 489 64 = I 489 64) (e33 : X 33 = I 33) (et : ∀ k, 37 ≤ k → k ≤ 56 → X k = I k) : CWs X cs := by
  obtain ⟨h1, h2, h3, h4, h5⟩ := h
  have e518 := f.1 518 (by omega)
  have e521 := f.1 521 (by omega)
  have e522 := f.1 522 (by omega)
  refine ⟨CTY_fr h1 f, ClW_fr h2 e518 e521 e522 e33 h1.1.2.2.1.2 et, fun s s0 s1 => OkW_fr e518 e521 e522 (h3 s s0 (by rw [e518] at s1; exact s1)), by rw [o, e518]; exact h4, by rw [e33, o]; exact h5⟩
theorem CWs_l {I X : HI} {cs : Int → List Int} (h : CWs I cs) (f : LFr I X) : CWs X cs := CWs_fr h (CF_l f) (by rw [f.1 489 (by omega)]) (f.1 33 (by omega)) (fun k k1 k2 => f.1 k (by omega))
/-- the model's side -/
def MWs (I : HI) (cs : Int → List Int) : Prop := CTY I ∧ MoW I cs ∧ (∀ s : Int, 0 ≤ s → s < I 518 6 → OkW I s (cs s))
theorem MWs_fr {I X : HI} {cs : Int → List Int} (h : MWs I cs) (f : CF I X) (ew : ∀ k, 532 ≤ k → k ≤ 535 → X k = I k) : MWs X cs := by
  obtain ⟨h1, h2, h3⟩ := h
  have e518 := f.1 518 (by omega)
  have e521 := f.1 521 (by omega)
  have e522 := f.1 522 (by omega)
  refine ⟨CTY_fr h1 f, fun s s0 s1 => ?_, fun s s0 s1 => OkW_fr e518 e521 e522 (h3 s s0 (by rw [e518] at s1; exact s1))⟩
  rw [e518] at s1
  rw [wy_cf f]
  exact SL_fr s0 (h2 s s0 s1) (ew 532 (by omega) (by omega)) (ew 533 (by omega) (by omega)) (ew 534 (by omega) (by omega)) (ew 535 (by omega) (by omega))
theorem MWs_x {I X : HI} {cs : Int → List Int} (h : MWs I cs) (f : XFr I X) : MWs X cs := MWs_fr h (CF_x f) (fun k k1 k2 => f.1 k (by omega) (by omega) (by omega))
theorem C3_fr {I X : HI} (h : AFr I X) (cs : Int → List Int) (a b m so fa : Int) : C3 X cs a b m so fa ↔ C3 I cs a b m so fa := by
  obtain ⟨h1, h2, h3, h4, h5, h6, h7, h8, h9⟩ := h
  unfold C3
  simp only [DRw_fr h4 h3, UPw_fr h3 h5, hm_fr h3, wy_fr h1 h2 h3]
theorem SE_fr {I X : HI} (h : AFr I X) {D : Int → Int → Int → Int → Int → Prop} {v : Int} (g : SE X D v) : SE I D v := by
  obtain ⟨h1, h2, h3, h4, h5, h6, h7, h8, h9⟩ := h
  unfold SE HS at g ⊢
  simp only [Hld_fr h7 h8 h9] at g
  rw [h1] at g
  exact g
/-- the night would be lawful by these exceptions -/
def QSo (I : HI) (cs : Int → List Int) (u : Int) : Prop := ∀ a b : Int, 0 ≤ a → a < b → b < I 518 6 → LAW (up I 489 64 u) a b (wy I a (cs a)) (wy I b (cs b))
def DSo (I : HI) (cs : Int → List Int) (p q : Int) (a b m so fa : Int) : Prop := (0 ≤ a ∧ a < b ∧ b < I 518 6 ∧ (a < p ∨ (a = p ∧ b < q))) ∧ C3 I cs a b m so fa
theorem LAW_up {I : HI} {u a b : Int} {W V : List Sp} (ab : a < b) : LAW (up I 489 64 u) a b W V ↔ (∀ m f, DRw I a b (hm I a) (hm I b) W V m f → ∃ k, 0 ≤ k ∧ k < I 518 9 ∧ bit u k = true ∧ Hld I k m 0 f a b) ∧ (∀ m l, (UPw I b W V m l ∨ UPw I a V W m l) → ∃ k, 0 ≤ k ∧ k < I 518 9 ∧ bit u k = true ∧ Hld I k m 1 0 a b) := by
  have e531 : up I 489 64 u 531 = I 531 := up_k (by decide)
  have e522 : up I 489 64 u 522 = I 522 := up_k (by decide)
  have e518 : up I 489 64 u 518 = I 518 := up_k (by decide)
  have e44 : up I 489 64 u 489 44 = I 489 44 := up_j (by decide)
  have e64 : up I 489 64 u 489 64 = u := up_e
  have eh : ∀ k m so fa a b, Hld (up I 489 64 u) k m so fa a b ↔ Hld I k m so fa a b := fun k m so fa a b => Hld_fr (up_k (by decide)) (up_k (by decide)) (up_k (by decide)) k m so fa a b
  unfold LAW QTs OFs ExS Exc
  simp only [DRw_fr e531 e522, UPw_fr e522 e44, hm_fr e522, eh]
  rw [e518, e64, if_pos ab, if_pos ab, if_neg (by omega : ¬ b < a), if_neg (by omega : ¬ b < a)]
  constructor
  · rintro ⟨z1, z2, z3⟩
    exact ⟨z1, fun m l z => z.elim (z2 m l) (z3 m l)⟩
  · rintro ⟨z1, z2⟩
    exact ⟨z1, fun m l z => z2 m l (Or.inl z), fun m l z => z2 m l (Or.inr z)⟩
theorem QSo_iff {I : HI} {cs : Int → List Int} {v u p q : Int} (n9 : I 518 9 ≤ 6) (u0 : 0 ≤ u) (u1 : u < 64) (hp : I 518 6 ≤ p) (h : SE I (DSo I cs p q) v) : (∀ n : Nat, n < 64 → lb v n = true → oA n u ≠ 0) ↔ QSo I cs u := by
  have mid : (∀ n : Nat, n < 64 → lb v n = true → oA n u ≠ 0) ↔ ∀ a b m so fa, DSo I cs p q a b m so fa → ∃ k, 0 ≤ k ∧ k < I 518 9 ∧ bit u k = true ∧ Hld I k m so fa a b := by
    constructor
    · intro g a b m so fa hD
      obtain ⟨n, n1, n2, n3⟩ := h.2 a b m so fa hD
      obtain ⟨k, k0, k1, b1, b2⟩ := (oA_ne (by omega) (by omega) u0 u1).mp (g n n1 n2)
      have := (n3 k k0 k1).mp b1
      exact ⟨k, k0, this.1, b2, this.2⟩
    · intro g n n1 n2
      obtain ⟨a, b, m, so, fa, hD, hS⟩ := h.1 n n1 n2
      obtain ⟨k, k0, k1, b1, b2⟩ := g a b m so fa hD
      exact (oA_ne (by omega) (by omega) u0 u1).mpr ⟨k, k0, by omega, (hS k k0 (by omega)).mpr ⟨k1, b2⟩, b1⟩
  rw [mid]
  unfold QSo
  constructor
  · intro g a b a0 ab b1
    rw [LAW_up ab]
    exact ⟨fun m f z => g a b m 0 f ⟨⟨a0, ab, b1, by omega⟩, Or.inl ⟨rfl, z⟩⟩, fun m l z => g a b m 1 0 ⟨⟨a0, ab, b1, by omega⟩, Or.inr ⟨rfl, rfl, l, z⟩⟩⟩
  · intro g a b m so fa hD
    obtain ⟨⟨a0, ab, b1, _⟩, z⟩ := hD
    have := g a b a0 ab b1
    rw [LAW_up ab] at this
    rcases z with ⟨rfl, z⟩ | ⟨rfl, rfl, l, z⟩
    · exact this.1 m fa z
    · exact this.2 m l z
section SO
variable {d : Nat} {I : HI} {K : HI → Prop} {KI : Int → HI → Prop} {K2 : Int → Int → HI → Prop} {cs : Int → List Int} {H : List Sn}
theorem soft_b {a : Int} (hw : CWs I cs) (a0 : 0 ≤ a) (a1 : a < I 518 6) (h : ∀ (Y : HI) (v : Int), LFr I Y → RCu Y → SE I (DSo I cs (a + 1) (a + 2)) v → J none mX4_softest (d + 6) 0 0 4 [(0, vR 67), (1, vL v), (3, vI (a + 1))] [] (mk Y) (PI KI)) : ∀ (n : Nat) (b v : Int) (X : HI), a < b → b + n = I 518 6 → LFr I X → RCu X → SE I (DSo I cs a b) v → J none mX4_softest (d + 6) 0 0 22 [(0, vR 67), (1, vL v), (3, vI a), (4, vI b)] [] (mk X) (PI KI)
  | 0, b, v, X, ab, e, lX, rX, hv => by
    have n6 := hw.1.1.2.2.1
    have c2 := hw.1.1.1.2.2.1
    refine bk_X4_softest_22 ?_
    rw [lX.1 2 (by omega), c2]
    refine ⟨fun _ => ⟨by omega, h X v lX rX (SE_iff hv (fun a' b' m so fa => ?_))⟩, fun q => by omega⟩
    unfold DSo
    refine and_congr ?_ Iff.rfl
    omega
  | n + 1, b, v, X, ab, e, lX, rX, hv => by
    have n6 := hw.1.1.2.2.1
    have c2 := hw.1.1.1.2.2.1
    have A := LFr_A lX
    have hX := CWs_l hw lX
    refine bk_X4_softest_22 ?_
    rw [lX.1 2 (by omega), c2]
    refine ⟨fun q => by omega, fun _ => ?_⟩
    refine c4_heldSets hX.1 rX hX.2.1 hX.2.2.1 a0 ab (by rw [A.1]; omega) (fun Y w lY rY hs => ⟨by omega, ?_⟩)
    refine soft_b hw a0 a1 h n (b + 1) _ Y (by omega) (by omega) (LFr_tr lX lY) rY (SE_iff (SE_or hv (SE_fr A hs)) (fun a' b' m so fa => ?_))
    simp only [C3_fr A]
    unfold DSo
    constructor
    · rintro (⟨z1, z2⟩ | ⟨rfl, rfl, z2⟩)
      · exact ⟨by omega, z2⟩
      · exact ⟨by omega, z2⟩
    · rintro ⟨z1, z2⟩
      by_cases eq : a' = a ∧ b' = b
      · obtain ⟨rfl, rfl⟩ := eq
        exact Or.inr ⟨rfl, rfl, z2⟩
      · exact Or.inl ⟨by omega, z2⟩
theorem soft_k {v : Int} {P : Int → Prop} (hT : CTY I) (hP : ∀ u, 0 ≤ u → u < 64 → ((∀ n : Nat, n < 64 → lb v n = true → oA n u ≠ 0) ↔ P u)) (h : ∀ w, BE P (wdM I) (oSl 1 (I 518 9)) w → KI w I) : ∀ (n : Nat) (k w : Int), 0 ≤ k → k + n = oSl 1 (I 518 9) → BE P (wdM I) k w → J none mX4_softest (d + 6) 0 0 63 [(0, vR 67), (1, vL v), (3, vI w), (4, vI k)] [] (mk I) (PI KI)
  | 0, k, w, k0, e, hB => by
    have c4 := hT.1.1.2.2.2.2
    refine bk_X4_softest_63 ?_
    rw [c4]
    refine ⟨fun _ => PI_i (h w ?_), fun q => by omega⟩
    rw [show oSl 1 (I 518 9) = k from by omega]
    exact hB
  | n + 1, k, w, k0, e, hB => by
    have c4 := hT.1.1.2.2.2.2
    have n9 := hT.1.2.2.2.2.2
    have p2 := p2_le n9.1 n9.2
    have ih := soft_k hT hP h n (k + 1)
    refine bk_X4_softest_63 ?_
    rw [c4]
    refine ⟨fun q => by omega, fun _ => ?_⟩
    refine c4_excuses k0 (by omega) (fun y => ⟨fun q => by omega, fun _ => ⟨fun q => ⟨by omega, ih k (by omega) (by omega) ?_⟩, fun q => ?_⟩⟩) (fun y => ⟨fun _ => ⟨by omega, ih w (by omega) (by omega) (BE_n hB (fun z => y ((hP k k0 (by omega)).mpr z)))⟩, fun q => absurd rfl q⟩)
    · subst q
      exact BE_0 k0 hB ((hP k k0 (by omega)).mp y)
    · have rg := BE_rng hB q
      refine c0_wordsOf hT k0 (by omega) (c0_wordsOf hT rg.1 (by omega) ⟨fun z => ⟨by omega, ih w (by omega) (by omega) (BE_l q hB z)⟩, fun z => ⟨by omega, ih k (by omega) (by omega) (BE_g q hB (by omega) ((hP k k0 (by omega)).mp y))⟩⟩)
theorem wdM_cf {X : HI} (f : CF I X) (st : Int) : wdM X st = wdM I st := by
  unfold wdM
  rw [f.1 518 (by omega), f.1 528 (by omega)]
theorem c4_softest (hw : CWs I cs) (hR : RCu I) (h : ∀ (Y : HI) (w : Int), LFr I Y → RCu Y → BE (QSo I cs) (wdM I) (oSl 1 (I 518 9)) w → KI w Y) : CI mX4_softest (d + 6) [vR 67] I KI := by
  have n6 := hw.1.1.2.2.1
  have n9 := hw.1.1.2.2.2.2.2
  have p2 := p2_le n9.1 n9.2
  have c2 := hw.1.1.1.2.2.1
  have lp : ∀ (n : Nat) (a v : Int) (X : HI), 0 ≤ a → a + n = I 518 6 → LFr I X → RCu X → SE I (DSo I cs a (a + 1)) v → J none mX4_softest (d + 6) 0 0 4 [(0, vR 67), (1, vL v), (3, vI a)] [] (mk X) (PI KI) := by
    intro n
    induction n with
    | zero =>
      intro a v X a0 e lX rX hv
      refine bk_X4_softest_4 ?_
      rw [lX.1 2 (by omega), c2]
      refine ⟨fun _ => ?_, fun q => by omega⟩
      have f518 := (LFr_A lX).1
      refine soft_k (P := QSo I cs) (CTY_fr hw.1 (CF_l lX)) (fun u u0 u1 => QSo_iff n9.2 u0 u1 (by omega) hv) (fun w hB => h X w lX rX ?_) (oSl 1 (I 518 9)).toNat 0 (-1) (by omega) (by rw [f518]; omega) (Or.inl ⟨rfl, fun u u0 u1 => by omega⟩)
      rw [f518] at hB
      have : wdM X = wdM I := by
        funext st
        exact wdM_cf (CF_l lX) st
      rw [this] at hB
      exact hB
    | succ n ih =>
      intro a v X a0 e lX rX hv
      refine bk_X4_softest_4 ?_
      rw [lX.1 2 (by omega), c2]
      refine ⟨fun q => by omega, fun _ => ⟨by omega, ?_⟩⟩
      refine soft_b hw a0 (by omega) (fun Y w lY rY hs => ?_) (I 518 6 - (a + 1)).toNat (a + 1) v X (by omega) (by omega) lX rX hv
      exact ih (a + 1) w Y (by omega) (by omega) lY rY (by rw [show a + 1 + 1 = a + 2 from by omega]; exact hs)
  refine bk_X4_softest_0 (lp (I 518 6).toNat 0 0 I (by omega) (by omega) (LFr_rfl I) hR ⟨fun n hn z => ?_, fun a b m so fa z => ?_⟩)
  · rw [lb_0] at z
    cases z
  · obtain ⟨z, _⟩ := z
    omega
theorem isLaw_b {a : Int} (hw : MWs I cs) (on0 : 0 ≤ I 489 64) (on1 : I 489 64 < 64) (a0 : 0 ≤ a) (a1 : a < I 518 6) (k0 : ∀ (Y : HI) (p q : Int), XFr I Y → 0 ≤ p → p < q → q < I 518 6 → ¬ LAW I p q (wy I p (cs p)) (wy I q (cs q)) → KI 0 Y) (h : ∀ (Y : HI), XFr I Y → (∀ q, a < q → q < I 518 6 → LAW I a q (wy I a (cs a)) (wy I q (cs q))) → J none mX11_isLawful (d + 7) 0 0 2 [(0, vR 489), (1, vI (a + 1))] [] (mk Y) (PI KI)) : ∀ (n : Nat) (b : Int) (X : HI), a < b → b + n = I 518 6 → XFr I X → (∀ q, a < q → q < b → LAW I a q (wy I a (cs a)) (wy I q (cs q))) → J none mX11_isLawful (d + 7) 0 0 14 [(0, vR 489), (1, vI a), (2, vI b)] [] (mk X) (PI KI)
  | 0, b, X, ab, e, xX, hd => by
    have n6 := hw.1.1.2.2.1
    refine bk_X11_isLawful_14 (c11_saintMany ?_)
    rw [(XFr_A xX).1]
    exact ⟨fun _ => ⟨by omega, h X xX (fun q q0 q1 => hd q q0 (by omega))⟩, fun q => by omega⟩
  | n + 1, b, X, ab, e, xX, hd => by
    have n6 := hw.1.1.2.2.1
    have A := XFr_A xX
    have hX := MWs_x hw xX
    refine bk_X11_isLawful_14 (c11_saintMany ?_)
    rw [A.1]
    refine ⟨fun q => by omega, fun _ => ?_⟩
    refine c11_areLawful hX.1 (by rw [xX.2 64 (by decide)]; exact on0) (by rw [xX.2 64 (by decide)]; exact on1) a0 (by omega) (by omega) (by omega) (sof_s (by omega)) (sof_s (by omega)) (by rw [A.1]; exact a1) (by rw [A.1]; omega) (hX.2.1 a a0 (by rw [A.1]; exact a1)) (hX.2.1 b (by omega) (by rw [A.1]; omega)) (SW_of hX.1.1 hX.1.2.1 hX.1.2.2.1 a0 (by rw [A.1]; exact a1) (hX.2.2 a a0 (by rw [A.1]; exact a1))) (SW_of hX.1.1 hX.1.2.1 hX.1.2.2.1 (by omega) (by rw [A.1]; omega) (hX.2.2 b (by omega) (by rw [A.1]; omega))) (fun Y xY ne => ⟨fun q => absurd rfl q, fun _ => PI_i (k0 Y a b (XFr_tr xX xY) a0 ab (by omega) (fun z => ne ?_))⟩) (fun Y xY yes => ⟨fun _ => ⟨by omega, ?_⟩, fun q => by omega⟩)
    · rw [LAW_fr A, wy_cf (CF_x xX), wy_cf (CF_x xX)]
      exact z
    · rw [LAW_fr A, wy_cf (CF_x xX), wy_cf (CF_x xX)] at yes
      refine isLaw_b hw on0 on1 a0 a1 k0 h n (b + 1) Y (by omega) (by omega) (XFr_tr xX xY) (fun q q0 q1 => ?_)
      by_cases eq : q = b
      · rw [eq]; exact yes
      · exact hd q q0 (by omega)
theorem c11_isLawful (hw : MWs I cs) (on0 : 0 ≤ I 489 64) (on1 : I 489 64 < 64) (k0 : ∀ (Y : HI) (p q : Int), XFr I Y → 0 ≤ p → p < q → q < I 518 6 → ¬ LAW I p q (wy I p (cs p)) (wy I q (cs q)) → KI 0 Y) (k1 : ∀ (Y : HI), XFr I Y → (∀ p q, 0 ≤ p → p < q → q < I 518 6 → LAW I p q (wy I p (cs p)) (wy I q (cs q))) → KI 1 Y) : CI mX11_isLawful (d + 7) [vR 489] I KI := by
  have n6 := hw.1.1.2.2.1
  have lp : ∀ (n : Nat) (a : Int) (X : HI), 0 ≤ a → a + n = I 518 6 → XFr I X → (∀ p q, 0 ≤ p → p < a → p < q → q < I 518 6 → LAW I p q (wy I p (cs p)) (wy I q (cs q))) → J none mX11_isLawful (d + 7) 0 0 2 [(0, vR 489), (1, vI a)] [] (mk X) (PI KI) := by
    intro n
    induction n with
    | zero =>
      intro a X a0 e xX hd
      refine bk_X11_isLawful_2 (c11_saintMany ?_)
      rw [(XFr_A xX).1]
      exact ⟨fun _ => PI_i (k1 X xX (fun p q p0 pq q1 => hd p q p0 (by omega) pq q1)), fun q => by omega⟩
    | succ n ih =>
      intro a X a0 e xX hd
      have A := XFr_A xX
      refine bk_X11_isLawful_2 (c11_saintMany ?_)
      rw [A.1]
      refine ⟨fun q => by omega, fun _ => ⟨by omega, ?_⟩⟩
      have tl : ∀ p q, LAW X p q (wy X p (cs p)) (wy X q (cs q)) ↔ LAW I p q (wy I p (cs p)) (wy I q (cs q)) := fun p q => by rw [LAW_fr A, wy_cf (CF_x xX), wy_cf (CF_x xX)]
      refine isLaw_b (I := X) (MWs_x hw xX) (by rw [xX.2 64 (by decide)]; exact on0) (by rw [xX.2 64 (by decide)]; exact on1) a0 (by rw [A.1]; omega) (fun Y p q xY p0 pq q1 ne => k0 Y p q (XFr_tr xX xY) p0 pq (by rw [A.1] at q1; exact q1) (fun z => ne ((tl p q).mpr z))) (fun Y xY ha => ih (a + 1) Y (by omega) (by omega) (XFr_tr xX xY) (fun p q p0 p1 pq q1 => ?_)) (I 518 6 - (a + 1)).toNat (a + 1) X (by omega) (by rw [A.1]; omega) (XFr_rfl X) (fun q q0 q1 => by omega)
      by_cases ep : p = a
      · subst ep
        exact (tl p q).mp (ha q pq (by rw [A.1]; exact q1))
      · exact hd p q p0 (by omega) pq q1
  exact bk_X11_isLawful_0 (lp (I 518 6).toNat 0 I (by omega) (by omega) (XFr_rfl I) (fun p q p0 p1 => by omega))
def XF4 (I X : HI) : Prop := (∀ k, k ≠ 489 → k ≠ 529 → k ≠ 530 → X k = I k) ∧ (∀ j, j ≠ 56 → j ≠ 64 → X 489 j = I 489 j)
theorem CF_4 {I X : HI} (h : XF4 I X) : CF I X := ⟨fun k hk => h.1 k (by omega) (by omega) (by omega), h.2 44 (by decide) (by decide)⟩
theorem XF4_x {I X Y : HI} (h : XF4 I X) (g : XFr X Y) : XF4 I Y := ⟨fun k h1 h2 h3 => by rw [g.1 k h1 h2 h3, h.1 k h1 h2 h3], fun j h1 h2 => by rw [g.2 j h1, h.2 j h1 h2]⟩
theorem XF4_u {I X : HI} (h : XF4 I X) (u : Int) : XF4 I (up X 489 64 u) := ⟨fun k h1 h2 h3 => by rw [up_k h1, h.1 k h1 h2 h3], fun j h1 h2 => by rw [up_j h2, h.2 j h1 h2]⟩
theorem msoft_lp {wh : Int} (hw : MWs I cs) (h : ∀ (Y : HI) (v : Int), XFr I Y → BE (QSo I cs) (wdM I) (oSl 1 (I 518 9)) v → KI (if v = -1 then -1 else if wh = 0 then v else wdM I v) Y) : ∀ (n : Nat) (k v : Int) (X : HI), 0 ≤ k → k + n = oSl 1 (I 518 9) → XF4 I X → BE (QSo I cs) (wdM I) k v → J none mX11_softer (d + 8) 0 0 22 [(0, vR 489), (1, vI wh), (2, vI (I 489 64)), (3, vI v), (4, vI k)] [] (mk X) (PI KI)
  | 0, k, v, X, k0, e, xX, hB => by
    have n9 := hw.1.1.2.2.2.2.2
    have p2 := p2_le n9.1 n9.2
    have f518 := xX.1 518 (by decide) (by decide) (by decide)
    refine bk_X11_softer_22 (c11_exceptions ?_)
    rw [f518]
    refine ⟨fun _ I2 e2 => ?_, fun q => by omega⟩
    have x2 : XFr I I2 := by
      rw [e2]
      refine ⟨fun k h1 h2 h3 => by rw [up_k h1, xX.1 k h1 h2 h3], fun j hj => ?_⟩
      by_cases ej : j = 64
      · rw [ej, up_e]
      · rw [up_j ej, xX.2 j hj ej]
    have g := h I2 v x2 (by rw [show oSl 1 (I 518 9) = k from by omega]; exact hB)
    refine ⟨fun q => ⟨fun q2 => ?_, fun q2 => PI_i ?_⟩, fun q => PI_i ?_⟩
    · have rg := BE_rng hB q
      refine c11_wordsOf (CTY_fr hw.1 (CF_x x2)) rg.1 (by omega) (PI_i ?_)
      rw [if_neg q, if_neg q2] at g
      rw [wdM_cf (CF_x x2)]
      exact g
    · rw [if_neg q, if_pos q2] at g
      exact g
    · rw [if_pos q] at g
      exact g
  | n + 1, k, v, X, k0, e, xX, hB => by
    have n9 := hw.1.1.2.2.2.2.2
    have p2 := p2_le n9.1 n9.2
    have f518 := xX.1 518 (by decide) (by decide) (by decide)
    have ih := msoft_lp hw h n (k + 1)
    refine bk_X11_softer_22 (c11_exceptions ?_)
    rw [f518]
    refine ⟨fun q => by omega, fun _ I4 e4 => ?_⟩
    have x4 : XF4 I I4 := by
      rw [e4]
      exact XF4_u xX k
    have o4 : I4 489 64 = k := by rw [e4, up_e]
    have A4 : AFr (up I 489 64 k) I4 := by
      have f := CF_4 x4
      have uk : ∀ j : Nat, j ≠ 489 → up I 489 64 k j = I j := fun j hj => up_k hj
      refine ⟨?_, ?_, ?_, ?_, ?_, ?_, ?_, ?_, ?_⟩
      · rw [uk 518 (by decide)]; exact f.1 518 (by omega)
      · rw [uk 521 (by decide)]; exact f.1 521 (by omega)
      · rw [uk 522 (by decide)]; exact f.1 522 (by omega)
      · rw [uk 531 (by decide)]; exact f.1 531 (by omega)
      · rw [up_j (by decide)]; exact f.2
      · rw [up_e]; exact o4
      · rw [uk 524 (by decide)]; exact f.1 524 (by omega)
      · rw [uk 526 (by decide)]; exact f.1 526 (by omega)
      · rw [uk 527 (by decide)]; exact f.1 527 (by omega)
    have h4 := MWs_fr hw (CF_4 x4) (fun j j1 j2 => x4.1 j (by omega) (by omega) (by omega))
    have law : (∀ p q, 0 ≤ p → p < q → q < I4 518 6 → LAW I4 p q (wy I4 p (cs p)) (wy I4 q (cs q))) ↔ QSo I cs k := by
      rw [(CF_4 x4).1 518 (by omega)]
      unfold QSo
      simp only [wy_cf (CF_4 x4), LAW_fr A4]
    refine ⟨fun q => ?_, fun q => ?_⟩
    · refine c11_isLawful h4 (by rw [o4]; exact k0) (by rw [o4]; omega) (fun Y p q' xY p0 pq q1 ne => ⟨fun _ => ⟨by omega, ih v Y (by omega) (by omega) (XF4_x x4 xY) (BE_n hB (fun z => ne (law.mpr z p q' p0 pq q1)))⟩, fun q => absurd rfl q⟩) (fun Y xY yes => ⟨fun q => by omega, fun _ => ⟨by omega, ih k Y (by omega) (by omega) (XF4_x x4 xY) ?_⟩⟩)
      subst q
      exact BE_0 k0 hB (law.mp yes)
    · have rg := BE_rng hB q
      refine c11_wordsOf h4.1 k0 (by omega) (c11_wordsOf h4.1 rg.1 (by omega) ?_)
      rw [wdM_cf (CF_4 x4), wdM_cf (CF_4 x4)]
      refine ⟨fun z => ⟨by omega, ih v I4 (by omega) (by omega) x4 (BE_l q hB z)⟩, fun z => ?_⟩
      refine c11_isLawful h4 (by rw [o4]; exact k0) (by rw [o4]; omega) (fun Y p q' xY p0 pq q1 ne => ⟨fun _ => ⟨by omega, ih v Y (by omega) (by omega) (XF4_x x4 xY) (BE_n hB (fun z => ne (law.mpr z p q' p0 pq q1)))⟩, fun q => absurd rfl q⟩) (fun Y xY yes => ⟨fun q => by omega, fun _ => ⟨by omega, ih k Y (by omega) (by omega) (XF4_x x4 xY) (BE_g q hB (by omega) (law.mp yes))⟩⟩)
theorem op_softer {a : Int} (hT : CTY I) (hR : RCu I) (hw : WRel I cs H) (h : ∀ x X Y, LFr I X → RCu X → XFr X Y → K2 x x Y) : CI mX10_softer (d + 9) [vR 0, vI a] I (fun x1 I1 => CI mX11_softer (d + 9) [vR 489, vI a] I1 (K2 x1)) := by
  obtain ⟨w1, w2, w3, w4, w5, w6, w7⟩ := hw
  have n9 := hT.1.2.2.2.2.2
  have p2 := p2_le n9.1 n9.2
  have cw : CWs I cs := ⟨hT, w1, w3.1, w3.2.2, w4.2⟩
  have mw : MWs I cs := ⟨hT, w2, w3.1⟩
  have no : (a < 0 ∨ 1 < a) → CI mX11_softer (d + 9) [vR 489, vI a] I (K2 (-1)) := fun q => bk_X11_softer_0 (c11_isIn (fun _ _ => by omega) (fun _ => ⟨fun q => absurd rfl q, fun _ => PI_i (h _ I I (LFr_rfl I) hR (XFr_rfl I))⟩))
  have mo : ∀ (X : HI) (w : Int), (0 ≤ a ∧ a ≤ 1) → LFr I X → RCu X → BE (QSo I cs) (wdM I) (oSl 1 (I 518 9)) w → CI mX11_softer (d + 9) [vR 489, vI a] X (K2 (if w = -1 then -1 else if a = 0 then w else wdM I w)) := fun X w ra lX rX hB => by
    have A := LFr_A lX
    have f518 := A.1
    have wd : wdM X = wdM I := by
      funext st
      exact wdM_cf (CF_l lX) st
    have qs : ∀ u, QSo X cs u ↔ QSo I cs u := fun u => by
      unfold QSo
      rw [f518]
      simp only [wy_cf (CF_l lX)]
      have B : AFr (up I 489 64 u) (up X 489 64 u) := by
        have uk : ∀ (Z : HI) (j : Nat), j ≠ 489 → up Z 489 64 u j = Z j := fun Z j hj => up_k hj
        obtain ⟨h1, h2, h3, h4, h5, h6, h7, h8, h9⟩ := A
        exact ⟨by rw [uk X 518 (by decide), uk I 518 (by decide)]; exact h1, by rw [uk X 521 (by decide), uk I 521 (by decide)]; exact h2, by rw [uk X 522 (by decide), uk I 522 (by decide)]; exact h3, by rw [uk X 531 (by decide), uk I 531 (by decide)]; exact h4, by rw [up_j (by decide), up_j (by decide)]; exact h5, by rw [up_e, up_e], by rw [uk X 524 (by decide), uk I 524 (by decide)]; exact h7, by rw [uk X 526 (by decide), uk I 526 (by decide)]; exact h8, by rw [uk X 527 (by decide), uk I 527 (by decide)]; exact h9⟩
      simp only [LAW_fr B]
    refine bk_X11_softer_0 (c11_isIn (fun _ _ => ⟨fun _ => ?_, fun q => by omega⟩) (fun q => by omega))
    refine msoft_lp (MWs_fr mw (CF_l lX) (fun k k1 k2 => lX.1 k (by omega))) (fun Y v xY hv => ?_) (oSl 1 (I 518 9)).toNat 0 (-1) X (by omega) (by rw [f518]; omega) ⟨fun _ _ _ _ => rfl, fun _ _ _ => rfl⟩ (Or.inl ⟨rfl, fun u u0 u1 => by omega⟩)
    rw [wd, f518] at hv
    rw [wd, BE_u (BE_iff hv (fun u _ _ => qs u)) hB]
    exact h _ X Y lX rX xY
  refine bk_X10_softer_0 ⟨fun q => PI_i (no (Or.inl q)), fun q0 => ⟨fun q1 => ?_, fun q => PI_i (no (Or.inr (by omega)))⟩⟩
  refine c4_softest cw hR (fun Y w lY rY hB => ?_)
  have g := mo Y w ⟨by omega, q1⟩ lY rY hB
  refine ⟨fun q => PI_i ?_, fun q => ⟨fun q2 => ?_, fun q2 => PI_i ?_⟩⟩
  · by_cases e : w = -1
    · rw [if_pos e] at g
      rw [e]
      exact g
    · rw [if_neg e, if_pos q] at g
      exact g
  · have rg := BE_rng hB q2
    refine c0_wordsOf (CTY_fr hT (CF_l lY)) rg.1 (by omega) (PI_i ?_)
    rw [if_neg q2, if_neg q] at g
    rw [wdM_cf (CF_l lY)]
    exact g
  · rw [if_pos q2] at g
    rw [q2]
    exact g
end SO
