/-- what a way of the saint a keeps to -/
def SW (I : HI) (a : Int) (W : List Sp) : Prop := okW (hm I a) 0 W ∧ (0 ≤ hm I a ∧ hm I a < I 518 5) ∧ (∀ x ∈ W, 0 ≤ x.1 ∧ x.1 < I 518 5) ∧ endS 0 W ≤ 999 ∧ W.length ≤ 24
theorem SW_of {I : HI} {s : Int} {cs : List Int} (hc : CN I) (hs : CSa I) (hl : CLa I) (s0 : 0 ≤ s) (s1 : s < I 518 6) (h : OkW I s cs) : SW I s (wy I s cs) := by
  have hr := hm_rng hs s0 s1
  refine ⟨wy_ok hc hs hl s0 s1 h.1, hr, run_in (s := s) cs _ 0 hr.1 hr.2 h.1, h.2.2, ?_⟩
  rw [wy_len]
  exact h.2.1
theorem whereS_in {n : Int} (m : Int) : ∀ (W : List Sp) (c : Int), 0 ≤ c → c < n → (∀ x ∈ W, 0 ≤ x.1 ∧ x.1 < n) → 0 ≤ whereS c W m ∧ whereS c W m < n
  | [], c, h0, h1, h => ⟨h0, h1⟩
  | y :: W, c, h0, h1, h => by
    have := h y List.mem_cons_self
    show 0 ≤ (if y.2.2 ≤ m then whereS y.1 W m else c) ∧ (if y.2.2 ≤ m then whereS y.1 W m else c) < n
    split
    · exact whereS_in m W y.1 this.1 this.2 (fun x hx => h x (List.mem_cons_of_mem _ hx))
    · exact ⟨h0, h1⟩
def CLm (I : HI) (a b : Int) (W V : List Sp) (m : Int) : Prop := (∃ f, DRw I a b (hm I a) (hm I b) W V m f) ∨ ∃ l, UPw I b W V m l ∨ UPw I a V W m l
theorem loudM_sym (I : HI) (a b : Int) : loudM I a b = loudM I b a := by
  unfold loudM
  omega
theorem DRw_sym {I : HI} {a b : Int} {W V : List Sp} (hso : CSo I) (sA : SW I a W) (sB : SW I b V) (m f : Int) : DRw I a b (hm I a) (hm I b) W V m f ↔ DRw I b a (hm I b) (hm I a) V W m f := by
  obtain ⟨a1, a2, a3, a4, a5⟩ := sA
  obtain ⟨b1, b2, b3, b4, b5⟩ := sB
  have i1 := whereS_in m W _ a2.1 a2.2 a3
  have i2 := whereS_in m V _ b2.1 b2.2 b3
  have sy := (hso _ _ i1.1 i1.2 i2.1 i2.2).2.2.2
  unfold DRw snd
  rw [sy, loudM_sym I a b]
  constructor
  · rintro ⟨h1, h2, h3, h4, h5, h6, h7⟩
    exact ⟨h2, h1, h3, h5, h4, h6, h7⟩
  · rintro ⟨h1, h2, h3, h4, h5, h6, h7⟩
    exact ⟨h2, h1, h3, h5, h4, h6, h7⟩
theorem CLm_sym {I : HI} {a b : Int} {W V : List Sp} (hso : CSo I) (sA : SW I a W) (sB : SW I b V) (m : Int) : CLm I a b W V m ↔ CLm I b a V W m := by
  unfold CLm
  constructor
  · rintro (⟨f, h⟩ | ⟨l, h⟩)
    · exact Or.inl ⟨f, (DRw_sym hso sA sB m f).mp h⟩
    · exact Or.inr ⟨l, h.symm⟩
  · rintro (⟨f, h⟩ | ⟨l, h⟩)
    · exact Or.inl ⟨f, (DRw_sym hso sA sB m f).mpr h⟩
    · exact Or.inr ⟨l, h.symm⟩
theorem UPw_ne {I : HI} {b : Int} {W V : List Sp} {m l : Int} (h : UPw I b W V m l) : W ≠ [] ∧ V ≠ [] := by
  refine ⟨?_, ?_⟩
  · rintro rfl
    exact h.2.1 h.1.symm
  · rintro rfl
    obtain ⟨x, hx, _⟩ := h.2.2
    simp at hx
theorem SL_ne {I : HI} {w : Int} {W : List Sp} (h : SL I w 0 W) : I 532 w.toNat = 0 ↔ W = [] := by
  have e := SL_len _ _ h
  rw [e]
  constructor
  · intro z
    exact List.length_eq_zero_iff.mp (by omega)
  · rintro rfl
    rfl
section MT
variable {d : Nat} {I : HI} {K : HI → Prop} {KI : Int → HI → Prop} {K2 : Int → Int → HI → Prop} {cs : Int → List Int} {H : List Sn}
theorem c11_louder {a b : Int} (a0 : 0 ≤ a) (a1 : a < 4) (b0 : 0 ≤ b) (b1 : b < 4) (h : KI (loudM I a b) I) : CI mX11_louder (d + 1) [vR 489, vI a, vI b] I KI := by
  unfold loudM at h
  refine bk_X11_louder_0 ⟨by omega, by omega, by omega, by omega, by omega, by omega, by omega, by omega, fun q => PI_i (K_eq h (by omega)), fun q => PI_i (K_eq h (by omega))⟩
theorem c11_drums {w v m a b : Int} {W V : List Sp} (hc : CN I) (hso : CSo I) (w0 : 0 ≤ w) (w1 : w < 244) (v0 : 0 ≤ v) (v1 : v < 244) (ew : sof w = a) (ev : sof v = b) (a1 : a < I 518 6) (b1 : b < I 518 6) (hW : SL I w 0 W) (hV : SL I v 0 V) (sA : SW I a W) (sB : SW I b V) (m0 : 0 ≤ m) (k0 : (∀ f, ¬ DRw I a b (hm I a) (hm I b) W V m f) → KI (-1) I) (k1 : ∀ f, DRw I a b (hm I a) (hm I b) W V m f → 0 ≤ f → KI f I) : CI mX11_drums (d + 3) [vR 489, vI w, vI v, vI m] I KI := by
  have n5 := hc.2.1
  have n6 := hc.2.2.1
  have rw' := sof_rng w0 w1
  have rv' := sof_rng v0 v1
  rw [ew] at rw'
  rw [ev] at rv'
  obtain ⟨a1', a2, a3, a4, a5⟩ := sA
  obtain ⟨b1', b2, b3, b4, b5⟩ := sB
  have neW := SL_ne hW
  have neV := SL_ne hV
  have i1 := whereS_in m W _ a2.1 a2.2 a3
  have i2 := whereS_in m V _ b2.1 b2.2 b3
  have so := hso _ _ i1.1 i1.2 i2.1 i2.2
  refine bk_X11_drums_0 ⟨by omega, fun q => PI_i (k0 (fun f z => z.1 (neW.mp q))), fun q => ⟨by omega, fun q2 => PI_i (k0 (fun f z => z.2.1 (neV.mp q2))), fun q2 => ?_⟩⟩
  refine c11_endOf w0 w1 hW a5 ⟨fun q3 => PI_i (k0 (fun f z => by have := z.2.2.2.1; omega)), fun q3 => ?_⟩
  refine c11_endOf v0 v1 hV b5 ⟨fun q4 => ?_, fun q4 => PI_i (k0 (fun f z => by have := z.2.2.2.2.1; omega))⟩
  refine c11_whereOf w0 w1 hW a5 ⟨?_, ?_⟩
  · rw [ew]
    omega
  · refine c11_whereOf v0 v1 hV b5 ?_
    rw [ew, ev]
    refine ⟨by omega, by omega, c11_saintOf w0 w1 (c11_saintOf v0 v1 ?_)⟩
    rw [ew, ev]
    refine c11_louder rw'.1 (by omega) rv'.1 (by omega) ⟨fun q5 => PI_i (k0 (fun f z => ?_)), fun q5 => PI_i ?_⟩
    · have e := z.2.2.2.2.2.1
      have l := z.2.2.2.2.2.2
      unfold snd at e
      omega
    · exact k1 _ ⟨fun z => q (neW.mpr z), fun z => q2 (neV.mpr z), m0, by omega, by omega, rfl, by omega⟩ so.2.1
theorem c11_isUpon {w v m b ca : Int} {W V : List Sp} (hs : CSa I) (w0 : 0 ≤ w) (w1 : w < 244) (v0 : 0 ≤ v) (v1 : v < 244) (ev : sof v = b) (b1 : b < I 518 6) (hW : SL I w 0 W) (hV : SL I v 0 V) (lW : W.length ≤ 24) (oV : okW ca 0 V) (eV : endS 0 V ≤ 999) (lV : V.length ≤ 24) (k1 : ∀ l, UPw I b W V m l → KI 1 I) (k0 : (∀ l, ¬ UPw I b W V m l) → KI 0 I) : CI mX11_isUpon (d + 4) [vR 489, vI w, vI v, vI m] I KI := by
  have rv' := sof_rng v0 v1
  rw [ev] at rv'
  have pr := (hs.2 b rv'.1 b1).2.2.2
  refine bk_X11_isUpon_0 (c11_onOf w0 w1 hW lW ⟨fun q => PI_i (k0 (fun l z => z.2.1 (by rw [← z.1]; exact q))), fun q => ?_⟩)
  refine c11_arePetals v0 v1 (by rw [ev]; exact pr) hV lV (fun x hx => ?_) (fun z => ?_) (fun z => ?_)
  · have g := okW_come V _ _ oV x hx
    omega
  · rw [ev] at z
    exact ⟨fun q2 => by omega, fun _ => PI_i (k1 _ ⟨rfl, q, z⟩)⟩
  · rw [ev] at z
    refine ⟨fun _ => PI_i (k0 (fun l y => z ?_)), fun q2 => absurd rfl q2⟩
    rw [y.1]
    exact y.2.2
theorem c11_arePetalsIn {w v m a b : Int} {W V : List Sp} (hs : CSa I) (w0 : 0 ≤ w) (w1 : w < 244) (v0 : 0 ≤ v) (v1 : v < 244) (ew : sof w = a) (ev : sof v = b) (a1 : a < I 518 6) (b1 : b < I 518 6) (hW : SL I w 0 W) (hV : SL I v 0 V) (sA : SW I a W) (sB : SW I b V) (k1 : (∃ l, UPw I b W V m l ∨ UPw I a V W m l) → KI 1 I) (k0 : (¬ ∃ l, UPw I b W V m l ∨ UPw I a V W m l) → KI 0 I) : CI mX11_arePetalsIn (d + 5) [vR 489, vI w, vI v, vI m] I KI := by
  obtain ⟨a1', a2, a3, a4, a5⟩ := sA
  obtain ⟨b1', b2, b3, b4, b5⟩ := sB
  have neW := SL_ne hW
  have neV := SL_ne hV
  have eW := SL_len _ _ hW
  have eV := SL_len _ _ hV
  refine bk_X11_arePetalsIn_0 ⟨by omega, fun q => PI_i (k0 ?_), fun q => ⟨by omega, fun q2 => PI_i (k0 ?_), fun q2 => ?_⟩⟩
  · rintro ⟨l, z | z⟩
    · exact (UPw_ne z).1 (neW.mp (by omega))
    · exact (UPw_ne z).2 (neW.mp (by omega))
  · rintro ⟨l, z | z⟩
    · exact (UPw_ne z).2 (neV.mp (by omega))
    · exact (UPw_ne z).1 (neV.mp (by omega))
  · refine c11_isUpon hs w0 w1 v0 v1 ev b1 hW hV a5 b1' b4 b5 (fun l z => ⟨fun _ => PI_i (k1 ⟨l, Or.inl z⟩), fun q3 => by omega⟩) (fun z => ⟨fun q3 => absurd rfl q3, fun _ => ?_⟩)
    refine c11_isUpon hs v0 v1 w0 w1 ew a1 hV hW b5 a1' a4 a5 (fun l z2 => ⟨fun q3 => by omega, fun _ => PI_i (k1 ⟨l, Or.inr z2⟩)⟩) (fun z2 => ⟨fun _ => PI_i (k0 ?_), fun q3 => absurd rfl q3⟩)
    rintro ⟨l, y | y⟩
    · exact z l y
    · exact z2 l y
/-- the class looks at two told ways -/
theorem c3_scanAll {a b : Int} {W V : List Sp} (hc : CN I) (hs : CSa I) (hso : CSo I) (hr : CRa I) (a0 : 0 ≤ a) (a1 : a < I 518 6) (b0 : 0 ≤ b) (b1 : b < I 518 6) (tA : TW I (37 + 5 * a.toNat) 25 0 (hm I a) W) (tB : TW I (37 + 5 * b.toNat) 25 0 (hm I b) V) (sA : SW I a W) (sB : SW I b V) (h : ∀ (X : HI) (L : List Spn), (∀ k, (k < 57 ∨ 61 < k) → X k = I k) → X 57 7 = a → X 57 8 = b → MSp X L → L.length ≤ 1201 → (∀ x ∈ L, SpS I a b (hm I a) (hm I b) W V x) → CpS I a b (hm I a) (hm I b) W V L → K X) : CV mX3_scanAll (d + 4) [vR 57, vI a, vI b, vR 36] I K := by
  have n6 := hc.2.2.1
  obtain ⟨a1', a2, a3, a4, a5⟩ := sA
  obtain ⟨b1', b2, b3, b4, b5⟩ := sB
  refine bk_X3_scanAll_0 (fun I1 e1 => ⟨by omega, by omega, ?_⟩)
  have f : ∀ k, k ≠ 57 → I1 k = I k := fun k hk => by rw [e1, up_k hk]
  have f531 := f 531 (by decide)
  have f522 := f 522 (by decide)
  have f489 := f 489 (by decide)
  have f518 := f 518 (by decide)
  refine c3_scan (CN_fr hc (f 2 (by decide)) f518) (CSa_fr hs (f 7 (by decide)) f518 f522) (by
    unfold CSo at hso ⊢
    rw [f518, f531, f 13 (by decide)]
    exact hso) (CRa_fr hr (f 1 (by decide)) f489) a0 (by rw [f518]; exact a1) b0 (by rw [f518]; exact b1) (TW_fr tA (fun k k1 k2 => f k (by omega))) (TW_fr tB (fun k k1 k2 => f k (by omega))) a1' b1' (by rw [f518]; exact a2) (by rw [f518]; exact b2) (by rw [f518]; exact a3) (by rw [f518]; exact b3) a4 b4 (by omega) (by omega) (by omega) (by omega) (by rw [e1, up_e]) (Or.inr rfl) (fun X L x1 x2 x3 x4 x5 x6 x7 x8 => PV_i ?_)
  exact h X L (fun k hk => by rw [x1 k hk, f k (by omega)]) x3 x4 x5 x6 (fun x hx => (SpS_fr f531 f522 f489 _ _ _ _ _ _ _).mp (x7 x hx)) ((CpS_fr f531 f522 f489 _ _ _ _ _ _ _).mp (x8 (Or.inr rfl)))
theorem firstM_lp {a b : Int} {L : List Spn} {C : Int → Prop} (mI : MSp I L) (len : L.length ≤ 1201) (hs : ∀ x ∈ L, (0 ≤ x.1 ∧ x.1 ≤ 999) ∧ C x.1) (hcp : ∀ m, 0 ≤ m → m ≤ 999 → C m → ∃ x ∈ L, x.1 ≤ m) (k1 : ∀ m, 0 ≤ m → m ≤ 999 → C m → (∀ u, 0 ≤ u → u < m → ¬ C u) → KI m I) (k0 : (∀ m, 0 ≤ m → m ≤ 999 → ¬ C m) → KI (-1) I) : ∀ (n i : Nat) (v : Int), i + n = L.length → (v = 1000 ∨ ∃ x ∈ L, x.1 = v) → v ≤ 1000 → (∀ (j : Nat) (x : Spn), j < i → L[j]? = some x → v ≤ x.1) → J none mX4_firstMeeting (d + 1) 0 0 23 [(0, vR 67), (1, vI a), (2, vI b), (3, vI v), (4, vI (i : Int))] [] (mk I) (PI KI)
  | 0, i, v, e, hv, v1, hj => by
    have all : ∀ x ∈ L, v ≤ x.1 := fun x hx => by
      obtain ⟨j, hj2, e2⟩ := List.mem_iff_getElem.mp hx
      exact hj j x (by omega) (by rw [List.getElem?_eq_getElem hj2, e2])
    refine bk_X4_firstMeeting_23 ⟨fun _ => ⟨fun q => PI_i (k0 (fun m m0 m1 z => ?_)), fun q => PI_i ?_⟩, fun q => by rw [mI.1] at q; omega⟩
    · obtain ⟨x, hx, g⟩ := hcp m m0 m1 z
      have := all x hx
      omega
    · rcases hv with hv | ⟨x, hx, hv⟩
      · omega
      · have g := hs x hx
        rw [hv] at g
        refine k1 v g.1.1 g.1.2 g.2 (fun u u0 u1 z => ?_)
        obtain ⟨y, hy, g2⟩ := hcp u u0 (by omega) z
        have := all y hy
        omega
  | n + 1, i, v, e, hv, v1, hj => by
    have hi : i < L.length := by omega
    have gi := mI.2 i L[i] (List.getElem?_eq_getElem hi)
    have mem : L[i] ∈ L := List.getElem_mem hi
    have ih := firstM_lp (a := a) (b := b) mI len hs hcp k1 k0 n (i + 1) (min v (L[i]).1) (by omega) (by
      rcases Int.le_total v (L[i]).1 with q | q
      · rw [Int.min_eq_left q]
        exact hv
      · rw [Int.min_eq_right q]
        exact Or.inr ⟨L[i], mem, rfl⟩) (by omega) (fun j x hj2 hx => by
      by_cases ej : j = i
      · subst ej
        rw [List.getElem?_eq_getElem hi] at hx
        simp only [Option.some.injEq] at hx
        rw [← hx]
        omega
      · have := hj j x (by omega) hx
        omega)
    refine bk_X4_firstMeeting_23 ⟨fun q => by rw [mI.1] at q; omega, fun _ => ⟨by omega, by omega, ?_⟩⟩
    rw [Int.toNat_natCast, gi.1]
    rw [show ((i + 1 : Nat) : Int) = (i : Int) + 1 from by omega] at ih
    exact ih
theorem meet_lp {a b : Int} {W V : List Sp} (hc : CN I) (hs : CSa I) (hso : CSo I) (a0 : 0 ≤ a) (a1 : a < I 518 6) (b0 : 0 ≤ b) (b1 : b < I 518 6) (hW : SL I a 0 W) (hV : SL I b 0 V) (sA : SW I a W) (sB : SW I b V) (k1 : ∀ m, 0 ≤ m → m ≤ 999 → CLm I a b W V m → (∀ u, 0 ≤ u → u < m → ¬ CLm I a b W V u) → KI m I) (k0 : (∀ m, 0 ≤ m → m ≤ 999 → ¬ CLm I a b W V m) → KI (-1) I) : ∀ (n : Nat) (m : Int), 0 ≤ m → m + n = 1000 → (∀ u, 0 ≤ u → u < m → ¬ CLm I a b W V u) → J none mX11_meet (d + 6) 0 0 25 [(0, vR 489), (1, vI a), (2, vI b), (3, vI m)] [] (mk I) (PI KI)
  | 0, m, m0, e, hu => bk_X11_meet_25 ⟨fun _ => PI_i (k0 (fun u u0 u1 => hu u u0 (by omega))), fun q => by omega⟩
  | n + 1, m, m0, e, hu => by
    have n6 := hc.2.2.1
    have ih := meet_lp hc hs hso a0 a1 b0 b1 hW hV sA sB k1 k0 n (m + 1)
    refine bk_X11_meet_25 ⟨fun q => by omega, fun _ => ?_⟩
    refine c11_drums hc hso a0 (by omega) b0 (by omega) (sof_s (by omega)) (sof_s (by omega)) a1 b1 hW hV sA sB m0 (fun z => ⟨fun q => absurd rfl q, fun _ => ?_⟩) (fun f z f0 => ⟨fun _ => PI_i (k1 m m0 (by omega) (Or.inl ⟨f, z⟩) hu), fun q => by omega⟩)
    refine c11_arePetalsIn hs a0 (by omega) b0 (by omega) (sof_s (by omega)) (sof_s (by omega)) a1 b1 hW hV sA sB (fun y => ⟨fun q => by omega, fun _ => PI_i (k1 m m0 (by omega) (Or.inr y) hu)⟩) (fun y => ⟨fun _ => ⟨by omega, ih (by omega) (by omega) (fun u u0 u1 g => ?_)⟩, fun q => absurd rfl q⟩)
    by_cases eu : u = m
    · subst eu
      rcases g with ⟨f, g⟩ | g
      · exact z f g
      · exact y g
    · exact hu u u0 (by omega) g
theorem CpS_cl {a b : Int} {W V : List Sp} {L : List Spn} (h : CpS I a b (hm I a) (hm I b) W V L) {m : Int} (g : CLm I a b W V m) : ∃ x ∈ L, x.1 ≤ m ∧ m ≤ x.2.1 := by
  rcases g with ⟨f, g⟩ | ⟨l, g⟩
  · obtain ⟨x, hx, _, g1, g2⟩ := h.1 m f g
    exact ⟨x, hx, g1, g2⟩
  · obtain ⟨x, hx, _, _, g1, g2⟩ := h.2 m l g
    exact ⟨x, hx, g1, g2⟩
theorem SpS_cl {a b : Int} {W V : List Sp} {x : Spn} (h : SpS I a b (hm I a) (hm I b) W V x) {m : Int} (m0 : x.1 ≤ m) (m1 : m ≤ x.2.1) : CLm I a b W V m := by
  rcases h.2 with ⟨_, _, g⟩ | ⟨_, _, g⟩
  · exact Or.inl ⟨_, g m m0 m1⟩
  · exact Or.inr ⟨_, g m m0 m1⟩
theorem c4_firstMeeting {a b : Int} {W V : List Sp} (hc : CN I) (hs : CSa I) (hso : CSo I) (hr : CRa I) (a0 : 0 ≤ a) (a1 : a < I 518 6) (b0 : 0 ≤ b) (b1 : b < I 518 6) (tA : TW I (37 + 5 * a.toNat) 25 0 (hm I a) W) (tB : TW I (37 + 5 * b.toNat) 25 0 (hm I b) V) (sA : SW I a W) (sB : SW I b V) (k1 : ∀ (X : HI) m, (∀ k, (k < 57 ∨ 61 < k) → X k = I k) → 0 ≤ m → m ≤ 999 → CLm I a b W V m → (∀ u, 0 ≤ u → u < m → ¬ CLm I a b W V u) → KI m X) (k0 : ∀ (X : HI), (∀ k, (k < 57 ∨ 61 < k) → X k = I k) → (∀ m, 0 ≤ m → m ≤ 999 → ¬ CLm I a b W V m) → KI (-1) X) : CI mX4_firstMeeting (d + 5) [vR 67, vI a, vI b] I KI := by
  refine bk_X4_firstMeeting_0 (c3_scanAll hc hs hso hr a0 a1 b0 b1 tA tB sA sB (fun X L x1 x2 x3 x4 x5 x6 x7 => ?_))
  exact firstM_lp (C := CLm I a b W V) x4 x5 (fun x hx => ⟨⟨(x6 x hx).1.1, by have := (x6 x hx).1; omega⟩, SpS_cl (x6 x hx) (by omega) (x6 x hx).1.2.1⟩) (fun m m0 m1 g => by
    obtain ⟨x, hx, g1, g2⟩ := CpS_cl x7 g
    exact ⟨x, hx, g1⟩) (fun m m0 m1 g u => k1 X m x1 m0 m1 g u) (fun g => k0 X x1 g) L.length 0 1000 (by omega) (Or.inl rfl) (by omega) (fun j x hj => by omega)
theorem op_meet {a b : Int} (hc : CN I) (hs : CSa I) (hl : CLa I) (hso : CSo I) (hr : CRa I) (hw : WRel I cs H) (h : ∀ x X, (∀ k, (k < 57 ∨ 61 < k) → X k = I k) → K2 x x X) : CI mX10_meet (d + 7) [vR 0, vI a, vI b] I (fun x1 I1 => CI mX11_meet (d + 7) [vR 489, vI a, vI b] I1 (K2 x1)) := by
  have id0 : ∀ x, K2 x x I := fun x => h x I (fun _ _ => rfl)
  obtain ⟨⟨c0, c1, c2, c3, c4⟩, b0, b1, b2, b3, b4⟩ := id hc
  obtain ⟨w1, w2, w3, w4, w5, w6, w7⟩ := hw
  refine bk_X10_meet_0 (c10_isSaint (fun a0 a1 => ⟨fun q => by omega, fun _ => c10_isSaint (fun q0 q1 => ⟨fun q => by omega, fun _ => ⟨fun ne => ?_, fun eq => PI_i ?_⟩⟩) (fun q => ⟨fun _ => PI_i ?_, fun q => by omega⟩)⟩) (fun q => ⟨fun _ => PI_i ?_, fun q => by omega⟩))
  · rw [c2] at a1 q1
    have okA : OkW I a (cs a) := w3.1 a a0 a1
    have okB : OkW I b (cs b) := w3.1 b q0 q1
    have sA := SW_of hc hs hl a0 a1 okA
    have sB := SW_of hc hs hl q0 q1 okB
    have tA := (w1 a a0 a1).2
    have tB := (w1 b q0 q1).2
    -- the model's answer in a state that differs by spans alone
    have mod : ∀ (X : HI) (r : Int), (∀ k, (k < 57 ∨ 61 < k) → X k = I k) → ((0 ≤ r ∧ r ≤ 999 ∧ CLm I a b (wy I a (cs a)) (wy I b (cs b)) r ∧ ∀ u, 0 ≤ u → u < r → ¬ CLm I a b (wy I a (cs a)) (wy I b (cs b)) u) ∨ (r = -1 ∧ ∀ m, 0 ≤ m → m ≤ 999 → ¬ CLm I a b (wy I a (cs a)) (wy I b (cs b)) m)) → CI mX11_meet (d + 7) [vR 489, vI a, vI b] X (K2 r) := by
      intro X r f hr'
      have f518 := f 518 (by decide)
      have f522 := f 522 (by decide)
      have f531 := f 531 (by decide)
      have f489 := f 489 (by decide)
      have hmf : ∀ s, hm X s = hm I s := fun s => hm_fr f522 s
      have clf : ∀ m, CLm X a b (wy I a (cs a)) (wy I b (cs b)) m ↔ CLm I a b (wy I a (cs a)) (wy I b (cs b)) m := fun m => by
        unfold CLm DRw UPw snd loudM petS lies
        rw [hmf, hmf, f531, f522, f489]
      have swf : ∀ s W, SW I s W → SW X s W := fun s W g => by
        unfold SW at g ⊢
        rw [hmf, f518]
        exact g
      refine bk_X11_meet_0 (c11_isSaint (by rw [f518]; exact b1) (fun _ _ => ⟨fun q => by omega, fun _ => c11_isSaint (by rw [f518]; exact b1) (fun _ _ => ⟨fun q => by omega, fun _ => ⟨fun _ => ?_, fun q => absurd q ne⟩⟩) (fun q => by rw [f518] at q; omega)⟩) (fun q => by rw [f518] at q; omega))
      refine meet_lp (CN_fr hc (f 2 (by decide)) f518) (CSa_fr hs (f 7 (by decide)) f518 f522) (by
        unfold CSo at hso ⊢
        rw [f518, f531, f 13 (by decide)]
        exact hso) a0 (by rw [f518]; exact a1) q0 (by rw [f518]; exact q1) (SL_fr a0 (w2 a a0 a1) (f 532 (by decide)) (f 533 (by decide)) (f 534 (by decide)) (f 535 (by decide))) (SL_fr q0 (w2 b q0 q1) (f 532 (by decide)) (f 533 (by decide)) (f 534 (by decide)) (f 535 (by decide))) (swf a _ sA) (swf b _ sB) (fun m m0 m1 g u => ?_) (fun g => ?_) 1000 0 (by omega) (by omega) (fun u u0 u1 => by omega)
      · rw [clf] at g
        have u' : ∀ v, 0 ≤ v → v < m → ¬ CLm I a b (wy I a (cs a)) (wy I b (cs b)) v := fun v v0 v1 z => u v v0 v1 ((clf v).mpr z)
        rcases hr' with ⟨r0, r1, r2, r3⟩ | ⟨r0, r1⟩
        · have e : r = m := by
            rcases Int.lt_trichotomy r m with q | q | q
            · exact absurd r2 (u' r r0 q)
            · exact q
            · exact absurd g (r3 m m0 q)
          rw [e]
          exact h m X f
        · exact absurd g (r1 m m0 m1)
      · rcases hr' with ⟨r0, r1, r2, r3⟩ | ⟨r0, r1⟩
        · exact absurd ((clf r).mpr r2) (g r r0 r1)
        · rw [r0]
          exact h _ X f
    rcases Int.lt_or_le a b with lt | le
    · rw [show min a b = a from by omega, show max a b = b from by omega]
      exact c4_firstMeeting hc hs hso hr a0 a1 q0 q1 tA tB sA sB (fun X m f m0 m1 g u => PI_i (mod X m f (Or.inl ⟨m0, m1, g, u⟩))) (fun X f g => PI_i (mod X (-1) f (Or.inr ⟨rfl, g⟩)))
    · rw [show min a b = b from by omega, show max a b = a from by omega]
      have sy := CLm_sym hso sA sB
      exact c4_firstMeeting hc hs hso hr q0 q1 a0 a1 tB tA sB sA (fun X m f m0 m1 g u => PI_i (mod X m f (Or.inl ⟨m0, m1, (sy m).mpr g, fun v v0 v1 z => u v v0 v1 ((sy v).mp z)⟩))) (fun X f g => PI_i (mod X (-1) f (Or.inr ⟨rfl, fun m m0 m1 z => g m m0 m1 ((sy m).mp z)⟩)))
  · refine bk_X11_meet_0 ?_
    (repeat' (with_reducible first | refine And.intro ?_ ?_ | intro _ | refine PI_i ?_ | refine PV_i ?_ | refine PL_i ?_ | apply c11_isSaint | apply b1)) <;> first | omega | exact id0 _
  · refine bk_X11_meet_0 ?_
    (repeat' (with_reducible first | refine And.intro ?_ ?_ | intro _ | refine PI_i ?_ | refine PV_i ?_ | refine PL_i ?_ | apply c11_isSaint | apply b1)) <;> first | omega | exact id0 _
  · refine bk_X11_meet_0 ?_
    (repeat' (with_reducible first | refine And.intro ?_ ?_ | intro _ | refine PI_i ?_ | refine PV_i ?_ | refine PL_i ?_ | apply c11_isSaint | apply b1)) <;> first | omega | exact id0 _
end MT
