/-- all of the city that both sides hold alike -/
def CTY (I : HI) : Prop := CN I ∧ CSa I ∧ CLa I ∧ CSo I ∧ CRa I ∧ CCo I ∧ CPa I ∧ CPb I ∧ CWo I
def CF (I X : HI) : Prop := (∀ k, ((1 ≤ k ∧ k ≤ 13) ∨ (518 ≤ k ∧ k ≤ 524) ∨ (526 ≤ k ∧ k ≤ 528) ∨ k = 531) → X k = I k) ∧ X 489 44 = I 489 44
theorem CF_rfl (I : HI) : CF I I := ⟨fun _ _ => rfl, rfl⟩
theorem CF_tr {I X Y : HI} (h : CF I X) (g : CF X Y) : CF I Y := ⟨fun k hk => by rw [g.1 k hk, h.1 k hk], g.2.trans h.2⟩
theorem CTY_fr {I X : HI} (h : CTY I) (f : CF I X) : CTY X := by
  obtain ⟨h1, h2, h3, h4, h5, h6, h7, h8, h9⟩ := h
  have e := f.1
  have e518 := e 518 (by omega)
  refine ⟨CN_fr h1 (e 2 (by omega)) e518, CSa_fr h2 (e 7 (by omega)) e518 (e 522 (by omega)), CLa_fr h3 (e 6 (by omega)) (e 12 (by omega)) e518 (e 521 (by omega)), CSo_fr h4 (e 13 (by omega)) e518 (e 531 (by omega)), ?_, CCo_fr h6 e518 (e 9 (by omega)) (e 10 (by omega)) (e 524 (by omega)) (e 526 (by omega)) (e 527 (by omega)), ?_, ?_, ?_⟩
  · unfold CRa at h5 ⊢
    rw [e 1 (by omega), f.2]
    exact h5
  · unfold CPa at h7 ⊢
    rw [e 5 (by omega), e518, e 520 (by omega)]
    exact h7
  · unfold CPb parM at h8 ⊢
    rw [e 1 (by omega), e518, e 520 (by omega)]
    exact h8
  · unfold CWo at h9 ⊢
    rw [e 11 (by omega), e518, e 528 (by omega)]
    exact h9
theorem CF_A {I X : HI} (f : CF I X) (o : X 489 64 = I 489 64) : AFr I X := ⟨f.1 518 (by omega), f.1 521 (by omega), f.1 522 (by omega), f.1 531 (by omega), f.2, o, f.1 524 (by omega), f.1 526 (by omega), f.1 527 (by omega)⟩
theorem CF_x {I X : HI} (h : XFr I X) : CF I X := ⟨fun k hk => h.1 k (by omega) (by omega) (by omega), h.2 44 (by decide)⟩
theorem CF_l {I X : HI} (h : LFr I X) : CF I X := ⟨fun k hk => h.1 k (by omega), by rw [h.1 489 (by omega)]⟩
theorem SW_fr {I X : HI} (f : CF I X) {s : Int} {W : List Sp} (h : SW I s W) : SW X s W := by
  unfold SW at h ⊢
  rw [hm_fr (f.1 522 (by omega)), f.1 518 (by omega)]
  exact h
theorem wy_cf {I X : HI} (f : CF I X) (s : Int) (c : List Int) : wy X s c = wy I s c := wy_fr (f.1 518 (by omega)) (f.1 521 (by omega)) (f.1 522 (by omega)) s c
theorem hm_cf {I X : HI} (f : CF I X) (s : Int) : hm X s = hm I s := hm_fr (f.1 522 (by omega)) s
/-- where one stays: a corner, from a minute to a minute -/
def sg : Int → Int → List Sp → List (Int × Int × Int)
  | c, t, [] => [(c, t, t)]
  | c, t, x :: W => (c, t, x.2.2 - 1) :: sg x.1 x.2.2 W
theorem sg_len : ∀ (W : List Sp) (c t : Int), (sg c t W).length = W.length + 1
  | [], c, t => rfl
  | x :: W, c, t => by simp only [sg, List.length_cons, sg_len W]
theorem sg_cov : ∀ (W : List Sp) (c t m : Int), okW c t W → t ≤ m → m ≤ endS t W → ∃ s ∈ sg c t W, s.2.1 ≤ m ∧ m ≤ s.2.2 ∧ s.1 = whereS c W m
  | [], c, t, m, h, h0, h1 => ⟨_, List.mem_cons_self, h0, h1, rfl⟩
  | x :: W, c, t, m, h, h0, h1 => by
    obtain ⟨k1, k2, k3, k4⟩ := h
    by_cases q : x.2.2 ≤ m
    · obtain ⟨s, hs, g⟩ := sg_cov W x.1 x.2.2 m k4 q h1
      refine ⟨s, List.mem_cons_of_mem _ hs, g.1, g.2.1, ?_⟩
      show s.1 = (if x.2.2 ≤ m then whereS x.1 W m else c)
      rw [if_pos q]
      exact g.2.2
    · refine ⟨_, List.mem_cons_self, h0, by show m ≤ x.2.2 - 1; omega, ?_⟩
      show c = (if x.2.2 ≤ m then whereS x.1 W m else c)
      rw [if_neg q]
theorem sg_snd : ∀ (W : List Sp) (c t : Int), okW c t W → ∀ s ∈ sg c t W, ∀ m, s.2.1 ≤ m → m ≤ s.2.2 → whereS c W m = s.1 ∧ t ≤ m ∧ m ≤ endS t W
  | [], c, t, h, s, hs, m, m0, m1 => by
    rw [List.mem_singleton.mp hs] at m0 m1 ⊢
    exact ⟨rfl, m0, m1⟩
  | x :: W, c, t, h, s, hs, m, m0, m1 => by
    obtain ⟨k1, k2, k3, k4⟩ := h
    have ge := end_ge W _ _ k4
    rcases List.mem_cons.mp hs with rfl | hs
    · simp only at m0 m1
      refine ⟨?_, m0, by show m ≤ endS x.2.2 W; omega⟩
      show (if x.2.2 ≤ m then whereS x.1 W m else c) = c
      rw [if_neg (by omega)]
    · obtain ⟨g1, g2, g3⟩ := sg_snd W _ _ k4 s hs m m0 m1
      refine ⟨?_, by omega, g3⟩
      show (if x.2.2 ≤ m then whereS x.1 W m else c) = s.1
      rw [if_pos g2]
      exact g1
theorem sg_rng : ∀ (W : List Sp) (c t : Int), okW c t W → ∀ s ∈ sg c t W, t ≤ s.2.1 ∧ s.2.1 ≤ s.2.2 ∧ s.2.2 ≤ endS t W
  | [], c, t, h, s, hs => by
    rw [List.mem_singleton.mp hs]
    exact ⟨Int.le_refl _, Int.le_refl _, Int.le_refl _⟩
  | x :: W, c, t, h, s, hs => by
    obtain ⟨k1, k2, k3, k4⟩ := h
    have ge := end_ge W _ _ k4
    rcases List.mem_cons.mp hs with rfl | hs
    · simp only [endS]
      omega
    · have := sg_rng W _ _ k4 s hs
      simp only [endS]
      omega
theorem sg_in {n : Int} : ∀ (W : List Sp) (c t : Int), 0 ≤ c → c < n → (∀ x ∈ W, 0 ≤ x.1 ∧ x.1 < n) → ∀ s ∈ sg c t W, 0 ≤ s.1 ∧ s.1 < n
  | [], c, t, h0, h1, h, s, hs => by
    rw [List.mem_singleton.mp hs]
    exact ⟨h0, h1⟩
  | x :: W, c, t, h0, h1, h, s, hs => by
    have hx := h x List.mem_cons_self
    rcases List.mem_cons.mp hs with rfl | hs
    · exact ⟨h0, h1⟩
    · exact sg_in W _ _ hx.1 hx.2 (fun y hy => h y (List.mem_cons_of_mem _ hy)) s hs
/-- stays by numbers, as the model reads them -/
theorem sg_pre {I : HI} {w : Int} : ∀ (W : List Sp) (k c t : Int), SL I w k W → Pre I w k c t → 0 ≤ k → ∀ (i : Nat) (s : Int × Int × Int), (sg c t W)[i]? = some s → Pre I w (k + i) s.1 s.2.1 ∧ (i < W.length → s.2.2 = I 535 (24 * w + (k + i)).toNat - 1) ∧ (i = W.length → s.2.2 = endS t W)
  | [], k, c, t, h, hp, k0, i, s, hs => by
    have hi := ge_lt hs
    simp only [sg, List.length_singleton] at hi
    obtain rfl : i = 0 := by omega
    simp only [sg, List.getElem?_cons_zero, Option.some.injEq] at hs
    subst hs
    refine ⟨by simpa using hp, fun q => ?_, fun _ => rfl⟩
    simp at q
  | x :: W, k, c, t, h, hp, k0, i, s, hs => by
    match i, hs with
    | 0, hs =>
      simp only [sg, List.getElem?_cons_zero, Option.some.injEq] at hs
      subst hs
      refine ⟨by simpa using hp, fun _ => ?_, fun q => ?_⟩
      · show x.2.2 - 1 = _
        rw [← h.2.2.2.1]
        simp
      · simp at q
    | i + 1, hs =>
      simp only [sg, List.getElem?_cons_succ] at hs
      obtain ⟨g1, g2, g3⟩ := sg_pre W (k + 1) x.1 x.2.2 h.2.2.2.2 (Pre_s k0 h) (by omega) i s hs
      have e : k + 1 + (i : Int) = k + ((i + 1 : Nat) : Int) := by omega
      rw [e] at g1 g2
      refine ⟨g1, fun q => g2 (by simpa using q), fun q => ?_⟩
      show s.2.2 = endS x.2.2 W
      exact g3 (by simpa using q)
theorem Pre_fr {I X : HI} {w k c t : Int} (h2 : X 522 = I 522) (h3 : X 533 = I 533) (h5 : X 535 = I 535) (h : Pre I w k c t) : Pre X w k c t := by
  unfold Pre at h ⊢
  rw [hm_fr h2, h3, h5]
  exact h
/-- on a lane in a minute, by numbers -/
theorem on_el (m l : Int) (hl : l ≠ -1) : ∀ (W : List Sp) (c t : Int), okW c t W → (onS t W m = l ↔ ∃ (i : Nat) (x : Sp) (s : Int × Int × Int), W[i]? = some x ∧ (sg c t W)[i]? = some s ∧ x.2.1 = l ∧ s.2.1 < m ∧ m ≤ x.2.2)
  | [], c, t, h => by
    refine ⟨fun z => absurd z.symm hl, fun z => ?_⟩
    obtain ⟨i, x, s, z1, _⟩ := z
    simp at z1
  | y :: W, c, t, h => by
    obtain ⟨k1, k2, k3, k4⟩ := h
    have ih := on_el m l hl W y.1 y.2.2 k4
    show (if t < m ∧ m ≤ y.2.2 then y.2.1 else onS y.2.2 W m) = l ↔ _
    have up' : (∃ (i : Nat) (x : Sp) (s : Int × Int × Int), W[i]? = some x ∧ (sg y.1 y.2.2 W)[i]? = some s ∧ x.2.1 = l ∧ s.2.1 < m ∧ m ≤ x.2.2) → y.2.2 < m := fun z => by
      obtain ⟨i, x, s, z1, z2, z3, z4, z5⟩ := z
      have := sg_rng W _ _ k4 s (List.mem_of_getElem? z2)
      omega
    by_cases q : t < m ∧ m ≤ y.2.2
    · rw [if_pos q]
      refine ⟨fun z => ⟨0, y, (c, t, y.2.2 - 1), rfl, rfl, z, q.1, q.2⟩, fun z => ?_⟩
      obtain ⟨i, x, s, z1, z2, z3, z4, z5⟩ := z
      match i, z1, z2 with
      | 0, z1, z2 =>
        simp only [List.getElem?_cons_zero, Option.some.injEq] at z1
        rw [z1]
        exact z3
      | i + 1, z1, z2 =>
        have := up' ⟨i, x, s, by simpa using z1, by simpa [sg] using z2, z3, z4, z5⟩
        omega
    · rw [if_neg q, ih]
      refine ⟨fun z => ?_, fun z => ?_⟩
      · obtain ⟨i, x, s, z1, z2, z3⟩ := z
        exact ⟨i + 1, x, s, by simpa using z1, by simpa [sg] using z2, z3⟩
      · obtain ⟨i, x, s, z1, z2, z3, z4, z5⟩ := z
        match i, z1, z2 with
        | 0, z1, z2 =>
          simp only [List.getElem?_cons_zero, Option.some.injEq, sg] at z1 z2
          subst z1 z2
          exact absurd ⟨z4, z5⟩ q
        | i + 1, z1, z2 => exact ⟨i, x, s, by simpa using z1, by simpa [sg] using z2, z3, z4, z5⟩
/-- excepted, the saints in either order -/
def ExS (I : HI) (a b m so fa : Int) : Prop := Exc I m so fa (if a < b then a else b) (if a < b then b else a)
def QTs (I : HI) (a b ca cb : Int) (W V : List Sp) : Prop := ∀ m f, DRw I a b ca cb W V m f → ExS I a b m 0 f
def OFs (I : HI) (a b : Int) (W V : List Sp) : Prop := ∀ m l, UPw I b W V m l → ExS I a b m 1 0
def LAW (I : HI) (a b : Int) (W V : List Sp) : Prop := QTs I a b (hm I a) (hm I b) W V ∧ OFs I a b W V ∧ OFs I b a V W
theorem ExS_fr {I X : HI} (h : AFr I X) (a b m so fa : Int) : ExS X a b m so fa ↔ ExS I a b m so fa := by
  obtain ⟨h1, h2, h3, h4, h5, h6, h7, h8, h9⟩ := h
  unfold ExS
  exact Exc_fr h1 h6 h7 h8 h9 _ _ _ _ _
theorem LAW_fr {I X : HI} (h : AFr I X) (a b : Int) (W V : List Sp) : LAW X a b W V ↔ LAW I a b W V := by
  have e := ExS_fr h
  obtain ⟨h1, h2, h3, h4, h5, h6, h7, h8, h9⟩ := h
  unfold LAW QTs OFs
  simp only [DRw_fr h4 h3, UPw_fr h3 h5, hm_fr h3, e]
abbrev Sg3 : Type := Int × Int × Int
def PQ (I : HI) (a b eW eV : Int) (s s' : Sg3) : Prop := snd I s.1 s'.1 ≤ loudM I a b → ∀ m, s.2.1 ≤ m → s'.2.1 ≤ m → m ≤ s.2.2 → m ≤ s'.2.2 → m ≤ eW → m ≤ eV → ExS I a b m 0 (snd I s.1 s'.1)
theorem QTs_iff {I : HI} {a b : Int} {W V : List Sp} (sA : SW I a W) (sB : SW I b V) (hW : W ≠ []) (hV : V ≠ []) : QTs I a b (hm I a) (hm I b) W V ↔ ∀ s ∈ sg (hm I a) 0 W, ∀ s' ∈ sg (hm I b) 0 V, PQ I a b (endS 0 W) (endS 0 V) s s' := by
  refine ⟨fun h s hs s' hs' hl m m0 m1 m2 m3 m4 m5 => ?_, fun h m f hd => ?_⟩
  · obtain ⟨g1, g2, g3⟩ := sg_snd W _ _ sA.1 s hs m m0 m2
    obtain ⟨q1, q2, q3⟩ := sg_snd V _ _ sB.1 s' hs' m m1 m3
    exact h m _ ⟨hW, hV, g2, m4, m5, by rw [g1, q1], hl⟩
  · obtain ⟨d1, d2, d3, d4, d5, d6, d7⟩ := hd
    obtain ⟨s, hs, s1, s2, s3⟩ := sg_cov W _ _ m sA.1 d3 d4
    obtain ⟨s', hs', q1, q2, q3⟩ := sg_cov V _ _ m sB.1 d3 d5
    have := h s hs s' hs' (by rw [s3, q3, d6]; exact d7) m s1 q1 s2 q2 d4 d5
    rw [s3, q3, d6] at this
    exact this
def PO (I : HI) (a b : Int) (x y : Sp) (s : Sg3) : Prop := x.2.1 ≠ -1 → y.2.1 = x.2.1 → ∀ m, s.2.1 + 1 ≤ m → y.2.2 ≤ m → m ≤ x.2.2 → lies I b y.2.2 m → ExS I a b m 1 0
theorem OFs_iff {I : HI} {a b c : Int} {W V : List Sp} (oW : okW c 0 W) : OFs I a b W V ↔ ∀ (i : Nat) (x : Sp) (s : Sg3), W[i]? = some x → (sg c 0 W)[i]? = some s → ∀ y ∈ V, PO I a b x y s := by
  refine ⟨fun h i x s hx hs y hy q1 q2 m m0 m1 m2 m3 => ?_, fun h m l hu => ?_⟩
  · exact h m x.2.1 ⟨(on_el m _ q1 W c 0 oW).mpr ⟨i, x, s, hx, hs, rfl, by omega, m2⟩, q1, y, hy, q2, m3⟩
  · obtain ⟨u1, u2, y, hy, y1, y2⟩ := hu
    obtain ⟨i, x, s, hx, hs, x1, x2, x3⟩ := (on_el m l u2 W c 0 oW).mp u1
    exact h i x s hx hs y hy (by rw [x1]; exact u2) (by rw [y1, x1]) m (by omega) y2.1 x3 y2
section LW
variable {d : Nat} {I : HI} {K : HI → Prop} {KI : Int → HI → Prop} {K2 : Int → Int → HI → Prop} {cs : Int → List Int} {H : List Sn}
theorem c11_lesser {a b : Int} (h : KI (min a b) I) : CI mX11_lesser (d + 1) [vI a, vI b] I KI := bk_X11_lesser_0 ⟨fun q => PI_i (K_eq h (by omega)), fun q => PI_i (K_eq h (by omega))⟩
theorem c11_greater {a b : Int} (h : KI (max a b) I) : CI mX11_greater (d + 1) [vI a, vI b] I KI := bk_X11_greater_0 ⟨fun q => PI_i (K_eq h (by omega)), fun q => PI_i (K_eq h (by omega))⟩
theorem c11_staysTo {w : Int} {i : Nat} {s : Sg3} {W : List Sp} (w0 : 0 ≤ w) (w1 : w < 244) (hW : SL I w 0 W) (lW : W.length ≤ 24) (hs : (sg (hm I (sof w)) 0 W)[i]? = some s) (hr : -1000 ≤ s.2.2 ∧ s.2.2 ≤ 100000) (h : KI s.2.2 I) : CI mX11_staysTo (d + 2) [vR 489, vI w, vI (i : Int)] I KI := by
  have e0 := SL_len _ _ hW
  obtain ⟨g1, g2, g3⟩ := sg_pre W 0 _ _ hW (Pre_0 I w) (by omega) i s hs
  have hi := ge_lt hs
  rw [sg_len] at hi
  refine bk_X11_staysTo_0 ⟨by omega, fun q => ?_, fun q => c11_endOf w0 w1 hW lW (PI_i ?_)⟩
  · have g := g2 (by omega)
    rw [Int.zero_add] at g
    refine ⟨by omega, by omega, by omega, by omega, PI_i ?_⟩
    rw [← g]
    exact h
  · rw [← g3 (by omega)]
    exact h
/-- minutes of one pair of stays -/
theorem quiet_m {w v a b loud i fa to : Int} {j : Int} (hT : CTY I) (on0 : 0 ≤ I 489 64) (on1 : I 489 64 < 64) (ar : 0 ≤ a ∧ a < 4) (br : 0 ≤ b ∧ b < 4) (fr : 0 ≤ fa ∧ fa ≤ 999) (jr : 0 ≤ j ∧ j ≤ 24) (t1 : to ≤ 2000) (m00 : Int) (k0 : ∀ (Y : HI) (m : Int), XFr I Y → m00 ≤ m → m ≤ to → ¬ ExS I a b m 0 fa → KI 0 Y) (h : ∀ Y : HI, XFr I Y → (∀ m, m00 ≤ m → m ≤ to → ExS I a b m 0 fa) → J none mX11_areQuiet (d + 5) 0 0 37 [(0, vR 489), (1, vI w), (2, vI v), (3, vI a), (4, vI b), (5, vI loud), (6, vI i), (7, vI (j + 1))] [] (mk Y) (PI KI)) : ∀ (n : Nat) (m : Int) (X : HI), 0 ≤ m → m00 ≤ m → to + 1 - m ≤ n → XFr I X → (∀ u, m00 ≤ u → u < m → ExS I a b u 0 fa) → J none mX11_areQuiet (d + 5) 0 0 137 [(0, vR 489), (1, vI w), (2, vI v), (3, vI a), (4, vI b), (5, vI loud), (6, vI i), (7, vI j), (8, vI fa), (9, vI to), (10, vI m)] [] (mk X) (PI KI)
  | 0, m, X, m0, m1, e, xX, hu => bk_X11_areQuiet_137 ⟨fun _ => ⟨by omega, h X xX (fun u u0 u1 => hu u u0 (by omega))⟩, fun q => by omega⟩
  | n + 1, m, X, m0, m1, e, xX, hu => by
    have A := XFr_A xX
    have hX := CTY_fr hT (CF_x xX)
    refine bk_X11_areQuiet_137 ⟨fun q => ⟨by omega, h X xX (fun u u0 u1 => hu u u0 (by omega))⟩, fun q => ?_⟩
    refine c11_isExcepted hX.2.2.2.2.2.1 hX.1 (by rw [xX.2 64 (by decide)]; exact on0) (by rw [xX.2 64 (by decide)]; exact on1) (by omega) (by omega) (by omega) (by omega) (by omega) (fun Y xY ne => ⟨fun q2 => absurd rfl q2, fun _ => PI_i (k0 Y m (XFr_tr xX xY) m1 (by omega) (fun z => ne ((ExS_fr A a b m 0 fa).mpr z)))⟩) (fun Y xY ex => ⟨fun _ => ⟨by omega, ?_⟩, fun q2 => by omega⟩)
    refine quiet_m hT on0 on1 ar br fr jr t1 m00 k0 h n (m + 1) Y (by omega) (by omega) (by omega) (XFr_tr xX xY) (fun u u0 u1 => ?_)
    by_cases eu : u = m
    · subst eu
      exact (ExS_fr A a b u 0 fa).mp ex
    · exact hu u u0 (by omega)
theorem quiet_j {w v a b : Int} {i : Nat} {s : Sg3} {W V : List Sp} (hT : CTY I) (on0 : 0 ≤ I 489 64) (on1 : I 489 64 < 64) (w0 : 0 ≤ w) (w1 : w < 244) (v0 : 0 ≤ v) (v1 : v < 244) (ew : sof w = a) (ev : sof v = b) (a1 : a < I 518 6) (b1 : b < I 518 6) (hW : SL I w 0 W) (hV : SL I v 0 V) (sA : SW I a W) (sB : SW I b V) (hs : (sg (hm I a) 0 W)[i]? = some s) (k0 : ∀ (Y : HI), XFr I Y → ∀ s' ∈ sg (hm I b) 0 V, ¬ PQ I a b (endS 0 W) (endS 0 V) s s' → KI 0 Y) (h : ∀ Y : HI, XFr I Y → (∀ s' ∈ sg (hm I b) 0 V, PQ I a b (endS 0 W) (endS 0 V) s s') → J none mX11_areQuiet (d + 5) 0 0 23 [(0, vR 489), (1, vI w), (2, vI v), (3, vI a), (4, vI b), (5, vI (loudM I a b)), (6, vI ((i : Int) + 1))] [] (mk Y) (PI KI)) : ∀ (n j : Nat) (X : HI), j + n = V.length + 1 → XFr I X → (∀ (j' : Nat) (s' : Sg3), j' < j → (sg (hm I b) 0 V)[j']? = some s' → PQ I a b (endS 0 W) (endS 0 V) s s') → J none mX11_areQuiet (d + 5) 0 0 37 [(0, vR 489), (1, vI w), (2, vI v), (3, vI a), (4, vI b), (5, vI (loudM I a b)), (6, vI (i : Int)), (7, vI (j : Int))] [] (mk X) (PI KI) := by
  have hi := ge_lt hs
  rw [sg_len] at hi
  have lA := sA.2.2.2.2
  have lB := sB.2.2.2.2
  have lV := SL_len _ _ hV
  have rs := sg_rng W _ _ sA.1 s (List.mem_of_getElem? hs)
  have ri := sg_in W _ 0 sA.2.1.1 sA.2.1.2 sA.2.2.1 s (List.mem_of_getElem? hs)
  have eA := sA.2.2.2.1
  have eB := sB.2.2.2.1
  have n5 := hT.1.2.1
  intro n
  induction n with
  | zero =>
    intro j X e xX hd
    have f532 := xX.1 532 (by decide) (by decide) (by decide)
    refine bk_X11_areQuiet_37 ?_
    rw [f532]
    refine ⟨by omega, fun _ => ⟨by omega, h X xX (fun s' hs' => ?_)⟩, fun q => by omega⟩
    obtain ⟨j', hj'⟩ := List.getElem?_of_mem hs'
    have := ge_lt hj'
    rw [sg_len] at this
    exact hd j' s' (by omega) hj'
  | succ n ih =>
    intro j X e xX hd
    have f := xX.1
    have f522 := f 522 (by decide) (by decide) (by decide)
    have f531 := f 531 (by decide) (by decide) (by decide)
    have f532 := f 532 (by decide) (by decide) (by decide)
    have f533 := f 533 (by decide) (by decide) (by decide)
    have f534 := f 534 (by decide) (by decide) (by decide)
    have f535 := f 535 (by decide) (by decide) (by decide)
    have hWX := SL_fr w0 hW f532 f533 f534 f535
    have hVX := SL_fr v0 hV f532 f533 f534 f535
    obtain ⟨s', hs'⟩ : ∃ s', (sg (hm I b) 0 V)[j]? = some s' := ⟨_, List.getElem?_eq_getElem (by rw [sg_len]; omega)⟩
    have rs' := sg_rng V _ _ sB.1 s' (List.mem_of_getElem? hs')
    have ri' := sg_in V _ 0 sB.2.1.1 sB.2.1.2 sB.2.2.1 s' (List.mem_of_getElem? hs')
    have pW := (sg_pre W 0 _ _ hWX (Pre_0 X w) (by omega) i s (by rw [ew, hm_fr f522]; exact hs)).1
    have pV := (sg_pre V 0 _ _ hVX (Pre_0 X v) (by omega) j s' (by rw [ev, hm_fr f522]; exact hs')).1
    rw [Int.zero_add] at pW pV
    have rw' := sof_rng w0 w1
    have rv' := sof_rng v0 v1
    have cso := hT.2.2.2.1 s.1 s'.1 ri.1 ri.2 ri'.1 ri'.2
    have stp : ∀ Y : HI, XFr I Y → PQ I a b (endS 0 W) (endS 0 V) s s' → J none mX11_areQuiet (d + 5) 0 0 37 [(0, vR 489), (1, vI w), (2, vI v), (3, vI a), (4, vI b), (5, vI (loudM I a b)), (6, vI (i : Int)), (7, vI ((j : Int) + 1))] [] (mk Y) (PI KI) := fun Y xY pq => by
      have := ih (j + 1) Y (by omega) xY (fun j' u hj' hu => by
        by_cases ej : j' = j
        · subst ej
          rw [hs'] at hu
          cases hu
          exact pq
        · exact hd j' u (by omega) hu)
      exact this
    refine bk_X11_areQuiet_37 ?_
    rw [f532]
    refine ⟨by omega, fun q => by omega, fun _ => ?_⟩
    refine c11_fromOf w0 w1 (by omega) (by omega) pW ⟨by omega, ?_⟩
    refine c11_fromOf v0 v1 (by omega) (by omega) pV ⟨by omega, by omega, ?_⟩
    rw [f531]
    refine ⟨fun q => ?_, fun q => ⟨by omega, stp X xX (fun q2 => absurd q2 q)⟩⟩
    refine c11_staysTo w0 w1 hWX lA (by rw [ew, hm_fr f522]; exact hs) (by omega) ?_
    refine c11_staysTo v0 v1 hVX lB (by rw [ev, hm_fr f522]; exact hs') (by omega) (c11_lesser ?_)
    refine c11_endOf w0 w1 hWX lA (c11_endOf v0 v1 hVX lB (c11_lesser (c11_lesser ?_)))
    refine c11_leaves w0 w1 (by omega) (by omega) pW (c11_leaves v0 v1 (by omega) (by omega) pV (c11_greater ?_))
    refine quiet_m (I := X) (fa := snd I s.1 s'.1) (to := min (min s.2.2 s'.2.2) (min (endS 0 W) (endS 0 V))) (CTY_fr hT (CF_x xX)) (by rw [xX.2 64 (by decide)]; exact on0) (by rw [xX.2 64 (by decide)]; exact on1) (by omega) (by omega) ⟨cso.2.1, cso.2.2.1⟩ (by omega) (by omega) (max s.2.1 s'.2.1) (fun Y m xY m0 m1 ne => ?_) (fun Y xY hx => stp Y (XFr_tr xX xY) (fun _ m m0 m1 m2 m3 m4 m5 => (ExS_fr (XFr_A xX) a b m 0 _).mp (hx m (by omega) (by omega)))) 1001 (max s.2.1 s'.2.1) X (by omega) (Int.le_refl _) (by omega) (XFr_rfl X) (fun u u0 u1 => by omega)
    rw [ExS_fr (XFr_A xX)] at ne
    exact k0 Y (XFr_tr xX xY) s' (List.mem_of_getElem? hs') (fun pq => ne (pq q m (by omega) (by omega) (by omega) (by omega) (by omega) (by omega)))
theorem c11_areQuiet {w v a b : Int} {W V : List Sp} (hT : CTY I) (on0 : 0 ≤ I 489 64) (on1 : I 489 64 < 64) (w0 : 0 ≤ w) (w1 : w < 244) (v0 : 0 ≤ v) (v1 : v < 244) (ew : sof w = a) (ev : sof v = b) (a1 : a < I 518 6) (b1 : b < I 518 6) (hW : SL I w 0 W) (hV : SL I v 0 V) (sA : SW I a W) (sB : SW I b V) (nW : W ≠ []) (nV : V ≠ []) (k0 : ∀ (Y : HI), XFr I Y → ¬ QTs I a b (hm I a) (hm I b) W V → KI 0 Y) (k1 : ∀ (Y : HI), XFr I Y → QTs I a b (hm I a) (hm I b) W V → KI 1 Y) : CI mX11_areQuiet (d + 5) [vR 489, vI w, vI v] I KI := by
  have lA := sA.2.2.2.2
  have lW := SL_len _ _ hW
  have n6 := hT.1.2.2.1
  have rw' := sof_rng w0 w1
  have rv' := sof_rng v0 v1
  rw [QTs_iff sA sB nW nV] at k0 k1
  have lp : ∀ (n i : Nat) (X : HI), i + n = W.length + 1 → XFr I X → (∀ (i' : Nat) (s : Sg3), i' < i → (sg (hm I a) 0 W)[i']? = some s → ∀ s' ∈ sg (hm I b) 0 V, PQ I a b (endS 0 W) (endS 0 V) s s') → J none mX11_areQuiet (d + 5) 0 0 23 [(0, vR 489), (1, vI w), (2, vI v), (3, vI a), (4, vI b), (5, vI (loudM I a b)), (6, vI (i : Int))] [] (mk X) (PI KI) := by
    intro n
    induction n with
    | zero =>
      intro i X e xX hd
      refine bk_X11_areQuiet_23 ?_
      rw [xX.1 532 (by decide) (by decide) (by decide)]
      refine ⟨by omega, fun _ => PI_i (k1 X xX (fun s hs => ?_)), fun q => by omega⟩
      obtain ⟨i', hi'⟩ := List.getElem?_of_mem hs
      have := ge_lt hi'
      rw [sg_len] at this
      exact hd i' s (by omega) hi'
    | succ n ih =>
      intro i X e xX hd
      have f := xX.1
      have f522 := f 522 (by decide) (by decide) (by decide)
      have f531 := f 531 (by decide) (by decide) (by decide)
      have f532 := f 532 (by decide) (by decide) (by decide)
      have f533 := f 533 (by decide) (by decide) (by decide)
      have f534 := f 534 (by decide) (by decide) (by decide)
      have f535 := f 535 (by decide) (by decide) (by decide)
      have A := XFr_A xX
      obtain ⟨s, hs⟩ : ∃ s, (sg (hm I a) 0 W)[i]? = some s := ⟨_, List.getElem?_eq_getElem (by rw [sg_len]; omega)⟩
      have pqf : ∀ s s', PQ X a b (endS 0 W) (endS 0 V) s s' ↔ PQ I a b (endS 0 W) (endS 0 V) s s' := fun s s' => by
        unfold PQ snd loudM
        rw [f531, f522]
        simp only [ExS_fr A]
      have lm : loudM X a b = loudM I a b := by
        unfold loudM
        rw [f522]
      refine bk_X11_areQuiet_23 ?_
      rw [f532]
      refine ⟨by omega, fun q => by omega, fun _ => ?_⟩
      have := quiet_j (I := X) (i := i) (s := s) (KI := KI) (d := d) (CTY_fr hT (CF_x xX)) (by rw [xX.2 64 (by decide)]; exact on0) (by rw [xX.2 64 (by decide)]; exact on1) w0 w1 v0 v1 ew ev (by rw [A.1]; exact a1) (by rw [A.1]; exact b1) (SL_fr w0 hW f532 f533 f534 f535) (SL_fr v0 hV f532 f533 f534 f535) (SW_fr (CF_x xX) sA) (SW_fr (CF_x xX) sB) (by rw [hm_fr f522]; exact hs) (fun Y xY s' hs' np => k0 Y (XFr_tr xX xY) (fun z => np ((pqf s s').mpr (z s (List.mem_of_getElem? hs) s' (by rw [hm_fr f522] at hs'; exact hs'))))) (fun Y xY hq => by
        rw [lm]
        refine ih (i + 1) Y (by omega) (XFr_tr xX xY) (fun i' u hi' hu => ?_)
        by_cases ei : i' = i
        · subst ei
          rw [hs] at hu
          cases hu
          exact fun s' hs' => (pqf s s').mp (hq s' (by rw [hm_fr f522]; exact hs'))
        · exact hd i' u (by omega) hu) (V.length + 1) 0 X (by omega) (XFr_rfl X) (fun j' s' hj' => by omega)
      rw [lm] at this
      exact this
  refine bk_X11_areQuiet_0 (c11_saintOf w0 w1 (c11_saintOf v0 v1 (c11_louder (by omega) (by omega) (by omega) (by omega) ?_)))
  rw [ew, ev]
  exact lp (W.length + 1) 0 I (by omega) (XFr_rfl I) (fun i' s hi' => by omega)
end LW
