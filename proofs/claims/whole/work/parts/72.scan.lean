def loudM (I : HI) (a b : Int) : Int := max (I 522 (16 + 4 * a + 2).toNat) (I 522 (16 + 4 * b + 2).toNat)
/-- drums of two ways clash in a minute, f apart -/
def DRw (I : HI) (a b ca cb : Int) (W V : List Sp) (m f : Int) : Prop := W ≠ [] ∧ V ≠ [] ∧ 0 ≤ m ∧ m ≤ endS 0 W ∧ m ≤ endS 0 V ∧ snd I (whereS ca W m) (whereS cb V m) = f ∧ f ≤ loudM I a b
/-- one walks upon petals of the saint b on the lane l -/
def UPw (I : HI) (b : Int) (W V : List Sp) (m l : Int) : Prop := onS 0 W m = l ∧ l ≠ -1 ∧ petS I b l m V
def SpS (I : HI) (a b ca cb : Int) (W V : List Sp) (x : Spn) : Prop := (0 ≤ x.1 ∧ x.1 ≤ x.2.1 ∧ x.2.1 ≤ 999) ∧ ((0 ≤ x.2.2.1 ∧ x.2.2.1 ≤ 20 ∧ ∀ m, x.1 ≤ m → m ≤ x.2.1 → DRw I a b ca cb W V m x.2.2.1) ∨ (x.2.2.1 = 21 ∧ (0 ≤ x.2.2.2 ∧ x.2.2.2 < 16) ∧ ∀ m, x.1 ≤ m → m ≤ x.2.1 → UPw I b W V m x.2.2.2 ∨ UPw I a V W m x.2.2.2))
def CpS (I : HI) (a b ca cb : Int) (W V : List Sp) (L : List Spn) : Prop := (∀ m f, DRw I a b ca cb W V m f → ∃ x ∈ L, x.2.2.1 = f ∧ x.1 ≤ m ∧ m ≤ x.2.1) ∧ (∀ m l, (UPw I b W V m l ∨ UPw I a V W m l) → ∃ x ∈ L, x.2.2.1 = 21 ∧ x.2.2.2 = l ∧ x.1 ≤ m ∧ m ≤ x.2.1)
theorem SpS_fr {I X : HI} (e1 : X 531 = I 531) (e2 : X 522 = I 522) (e3 : X 489 = I 489) (a b ca cb : Int) (W V : List Sp) (x : Spn) : SpS X a b ca cb W V x ↔ SpS I a b ca cb W V x := by
  unfold SpS DRw UPw snd loudM petS lies
  rw [e1, e2, e3]
theorem CpS_fr {I X : HI} (e1 : X 531 = I 531) (e2 : X 522 = I 522) (e3 : X 489 = I 489) (a b ca cb : Int) (W V : List Sp) (L : List Spn) : CpS X a b ca cb W V L ↔ CpS I a b ca cb W V L := by
  unfold CpS DRw UPw snd loudM petS lies
  rw [e1, e2, e3]
theorem onL_iff (m l : Int) (hl : l ≠ -1) : ∀ (W : List Sp) (c t : Int), okW c t W → (onL (legs t W) m = l ↔ ∃ p ∈ legs t W, p.2.1 = l ∧ p.2.2.1 < m ∧ m ≤ p.2.2.2)
  | [], c, t, h => by
    simp only [legs, onL, List.not_mem_nil, false_and, exists_false, iff_false]
    exact fun e => hl e.symm
  | x :: W, c, t, h => by
    obtain ⟨h1, h2, h3, h4⟩ := h
    have ih := onL_iff m l hl W _ _ h4
    have lo := legs_lo W _ _ h4
    unfold legs
    split
    · exact ih
    · rename_i hx
      show (if t < m ∧ m ≤ x.2.2 then x.2.1 else onL (legs x.2.2 W) m) = l ↔ _
      by_cases q : t < m ∧ m ≤ x.2.2
      · rw [if_pos q]
        constructor
        · intro e
          exact ⟨_, List.mem_cons_self, e, q.1, q.2⟩
        · rintro ⟨p, hp, p1, p2, p3⟩
          rcases List.mem_cons.mp hp with rfl | hp
          · exact p1
          · have := lo p hp
            omega
      · rw [if_neg q, ih]
        constructor
        · rintro ⟨p, hp, g⟩
          exact ⟨p, List.mem_cons_of_mem _ hp, g⟩
        · rintro ⟨p, hp, p1, p2, p3⟩
          rcases List.mem_cons.mp hp with rfl | hp
          · exact absurd ⟨p2, p3⟩ q
          · exact ⟨p, hp, p1, p2, p3⟩
theorem UPw_iff {I : HI} {b ca cb : Int} {W V : List Sp} (hr : CRa I) (oW : okW ca 0 W) (oV : okW cb 0 V) (m l : Int) (hl : l ≠ -1) : UPw I b W V m l ↔ ∃ p ∈ legs 0 W, ∃ q ∈ legs 0 V, p.2.1 = l ∧ q.2.1 = l ∧ (tsp I b p q).1 ≤ m ∧ m ≤ (tsp I b p q).2.1 := by
  unfold UPw petS
  have pe := pet_eq (fun c => lies I b c m) l hl V 0
  rw [pe, on_eq _ _ _ _ oW, onL_iff m l hl _ _ _ oW]
  have lo := legs_lo V _ _ oV
  constructor
  · rintro ⟨⟨p, hp, p1, p2, p3⟩, _, q, hq, q1, q2⟩
    have g := lo q hq
    have li := (lies_iff hr (by omega)).mp q2
    refine ⟨p, hp, q, hq, p1, q1, ?_, ?_⟩
    · unfold tsp
      simp only
      omega
    · unfold tsp
      simp only
      omega
  · rintro ⟨p, hp, q, hq, p1, q1, g1, g2⟩
    unfold tsp at g1 g2
    simp only at g1 g2
    have g := lo q hq
    exact ⟨⟨p, hp, p1, by omega, by omega⟩, hl, q, hq, q1, (lies_iff hr (by omega)).mpr ⟨by omega, by omega⟩⟩
theorem endS_nn {c : Int} {W : List Sp} (h : okW c 0 W) : 0 ≤ endS 0 W := end_ge _ _ _ h
section SC
variable {d : Nat} {I : HI} {K : HI → Prop} {KI : Int → HI → Prop}
theorem c0_greaterLoud {a b : Int} (hc : CN I) (hs : CSa I) (a0 : 0 ≤ a) (a1 : a < I 518 6) (b0 : 0 ≤ b) (b1 : b < I 518 6) (h : KI (loudM I a b) I) : CI mX0_greaterLoud (d + 1) [vR 1, vI a, vI b] I KI := by
  have n6 := hc.2.2.1
  unfold loudM at h
  rw [← hs.1 a 2 a0 a1 (by omega) (by omega), ← hs.1 b 2 b0 b1 (by omega) (by omega)] at h
  exact bk_X0_greaterLoud_0 ⟨by omega, by omega, by omega, by omega, by omega, by omega, PI_i h⟩
/-- the drums' part and the two petals' parts -/
theorem scan_core {t n t' n' : Nat} {la lb a b ca cb most : Int} {W V : List Sp} (hc : CN I) (hs : CSa I) (hso : CSo I) (hr : CRa I) (a0 : 0 ≤ a) (a1 : a < I 518 6) (b0 : 0 ≤ b) (b1 : b < I 518 6) (tA : TW I t n la ca W) (tB : TW I t' n' lb cb V) (oW : okW ca 0 W) (oV : okW cb 0 V) (rca : 0 ≤ ca ∧ ca < I 518 5) (rcb : 0 ≤ cb ∧ cb < I 518 5) (rW : ∀ x ∈ W, 0 ≤ x.1 ∧ x.1 < I 518 5) (rV : ∀ x ∈ V, 0 ≤ x.1 ∧ x.1 < I 518 5) (eW : endS 0 W ≤ 999) (eV : endS 0 V ≤ 999) (hW : W ≠ []) (hV : V ≠ []) (hd : t + 4 < 57 ∨ 61 < t) (hd' : t' + 4 < 57 ∨ 61 < t') (lar : 0 ≤ la ∧ la ≤ 100) (lbr : 0 ≤ lb ∧ lb ≤ 100) (hmo : I 57 6 = most) (hmv : most = 1 ∨ most = 1201) (m0 : MSp I []) (h : ∀ (X : HI) (L : List Spn), SFr I X → MSp X L → L.length ≤ 1201 → (∀ x ∈ L, SpS I a b ca cb W V x) → (((L.length : Int) < most ∨ most = 1201) → CpS I a b ca cb W V L) → K X) : CI mX0_greaterLoud (d + 2) [vR 1, vI a, vI b] I (fun x1 I1 => CV mX3_drums (d + 2) [vR 57, vI x1, vR t, vI la, vR t', vI lb] I1 (fun I2 => (((oA (I2 t 6) (I2 t' 6)) = 0 → PV K none (mk I2)) ∧ (¬ ((oA (I2 t 6) (I2 t' 6)) = 0) → CV mX3_trodden (d + 2) [vR 57, vR t, vI la, vI b, vR t', vI lb] I2 (fun I3 => CV mX3_trodden (d + 2) [vR 57, vR t', vI lb, vI a, vR t, vI la] I3 (fun I4 => PV K none (mk I4))))))) := by
  obtain ⟨⟨trA, cA, alA, lnA, nA⟩, fiA, lbA, stA, s7A⟩ := tA
  obtain ⟨⟨trB, cB, alB, lnB, nB⟩, fiB, lbB, stB, s7B⟩ := tB
  have n5 := hc.2.1
  have n6 := hc.2.2.1
  have lgA := hs.2 a a0 a1
  have lgB := hs.2 b b0 b1
  have lou : 0 ≤ loudM I a b ∧ loudM I a b ≤ 20 := by
    unfold loudM
    omega
  have eA := AL_len _ _ alA
  have eB := AL_len _ _ alB
  have hiA := legs_hi W _ _ oW
  have hiB := legs_hi V _ _ oV
  have loA := legs_lo W _ _ oW
  have loB := legs_lo V _ _ oV
  have inA := legs_in W 0 _ rW
  have inB := legs_in V 0 _ rV
  have lnsA := okW_lane W _ _ oW
  have lnsB := okW_lane V _ _ oV
  have eW0 := endS_nn oW
  have eV0 := endS_nn oV
  have mul1 : (legs 0 W).length * (legs 0 V).length ≤ 24 * 24 := Nat.mul_le_mul (by omega) (by omega)
  have mul2 : (legs 0 V).length * (legs 0 W).length ≤ 24 * 24 := Nat.mul_le_mul (by omega) (by omega)
  refine c0_greaterLoud hc hs a0 a1 b0 b1 ?_
  refine bk_X3_drums_0 trA trB ⟨by omega, by omega, ?_⟩
  rw [fiA, fiB]
  refine drums_lp (wA := whereS ca W) (wB := whereS cb V) hc hso trA trB hd hd' nA nB (by omega) lou.2 hmo hmv (fun X L sX mX len dS dC => ?_) ((legs 0 W).length + (legs 0 V).length + 1) (legs 0 W) (legs 0 V) 0 0 0 ca cb I [] (by omega) (by omega) (by omega) (SFr_rfl I) m0 (by simp; omega) alA alB cA cB rca rcb (fun x hx => ⟨inA x hx, by have := hiA x hx; omega⟩) (fun x hx => ⟨inB x hx, by have := hiB x hx; omega⟩) (by omega) (by omega) (srt_legs W _ _ oW 0 (by omega)) (srt_legs V _ _ oV 0 (by omega)) (fun m hm => where_eq _ _ _ _ oW) (fun m hm => where_eq _ _ _ _ oV) (fun x hx => by simp at hx) (fun _ m m0 m1 => by omega)
  have f : ∀ k, (k < 57 ∨ 61 < k) → X k = I k := sX.1
  have ft := f t (by omega)
  have ft' := f t' (by omega)
  have xs : ∀ x ∈ L, SpS I a b ca cb W V x := fun x hx => by
    obtain ⟨d1, d2, d3, d4, d5, d6, d7⟩ := dS x hx
    refine ⟨⟨d2, d3, by omega⟩, Or.inl ⟨d5, by omega, fun m m0 m1 => ⟨hW, hV, by omega, by omega, by omega, d7 m m0 m1, d6⟩⟩⟩
  have dc : ((L.length : Int) < most ∨ most = 1201) → ∀ m f, DRw I a b ca cb W V m f → ∃ x ∈ L, x.2.2.1 = f ∧ x.1 ≤ m ∧ m ≤ x.2.1 := fun z m f g => by
    obtain ⟨g1, g2, g3, g4, g5, g6, g7⟩ := g
    obtain ⟨x, hx, x1, x2, x3⟩ := dC z m g3 (by omega) (by rw [g6]; exact g7)
    obtain ⟨d1, d2, d3, d4, d5, d6, d7⟩ := dS x hx
    exact ⟨x, hx, by rw [← d7 m x2 x3, g6], x2, x3⟩
  rw [ft, ft']
  refine ⟨fun q => PV_i ?_, fun q => ?_⟩
  · refine h X L sX mX (by omega) xs (fun z => ⟨dc z, fun m l g => ?_⟩)
    exfalso
    have both : ∃ p ∈ legs 0 W, ∃ r ∈ legs 0 V, p.2.1 = r.2.1 := by
      rcases g with g | g
      · obtain ⟨p, hp, r, hr', p1, r1, _⟩ := (UPw_iff hr oW oV m l g.2.1).mp g
        exact ⟨p, hp, r, hr', by rw [p1, r1]⟩
      · obtain ⟨p, hp, r, hr', p1, r1, _⟩ := (UPw_iff hr oV oW m l g.2.1).mp g
        exact ⟨r, hr', p, hp, by rw [p1, r1]⟩
    obtain ⟨p, hp, r, hr', e⟩ := both
    have lp := lnsA p hp
    have b1' := (lbA.2.2 p.2.1 lp.1 lp.2).mpr ⟨p, hp, rfl⟩
    have b2' := (lbB.2.2 p.2.1 lp.1 lp.2).mpr ⟨r, hr', e.symm⟩
    have bb := bit_and (j := p.2.1) lbA.1 (by have := lbA.2.1; omega) lbB.1 (by have := lbB.2.1; omega)
    rw [q, bit_zero, b1', b2'] at bb
    exact absurd bb (by decide)
  · have hcX := CN_fr hc (f 2 (by decide)) (f 518 (by decide))
    have hsX := CSa_fr hs (f 7 (by decide)) (f 518 (by decide)) (f 522 (by decide))
    have hrX := CRa_fr hr (f 1 (by decide)) (f 489 (by decide))
    have afr : ∀ (Y : HI), (∀ k, (k < 57 ∨ 61 < k) → Y k = I k) → AL Y t la 1 (legs 0 W) ∧ AL Y t' lb 1 (legs 0 V) := fun Y fY => ⟨AL_fr (by rw [fY t (by omega)]) (fY _ (by omega)) (fY _ (by omega)) (fY _ (by omega)) (fY _ (by omega)) _ _ alA, AL_fr (by rw [fY t' (by omega)]) (fY _ (by omega)) (fY _ (by omega)) (fY _ (by omega)) (fY _ (by omega)) _ _ alB⟩
    have tfr : ∀ (Y : HI), (∀ k, (k < 57 ∨ 61 < k) → Y k = I k) → ∀ s p r, tsp Y s p r = tsp I s p r := fun Y fY s p r => by
      unfold tsp
      rw [lastP_fr (fY 489 (by decide)) (fY 522 (by decide))]
    have sp1 : ∀ p ∈ legs 0 W, ∀ r ∈ legs 0 V, p.2.1 = r.2.1 → (tsp I b p r).1 ≤ (tsp I b p r).2.1 → SpS I a b ca cb W V (tsp I b p r) := fun p hp r hr' e le => by
      have g1 := loA p hp
      have g2 := loB r hr'
      have g3 := hiA p hp
      have lp := lnsA p hp
      refine ⟨⟨?_, le, ?_⟩, Or.inr ⟨rfl, lp, fun m m0 m1 => Or.inl ((UPw_iff hr oW oV m _ (by show p.2.1 ≠ -1; omega)).mpr ⟨p, hp, r, hr', rfl, e.symm, m0, m1⟩)⟩⟩
      · unfold tsp
        simp only
        omega
      · unfold tsp
        simp only
        omega
    have sp2 : ∀ p ∈ legs 0 V, ∀ r ∈ legs 0 W, p.2.1 = r.2.1 → (tsp I a p r).1 ≤ (tsp I a p r).2.1 → SpS I a b ca cb W V (tsp I a p r) := fun p hp r hr' e le => by
      have g1 := loB p hp
      have g2 := loA r hr'
      have g3 := hiB p hp
      have lp := lnsB p hp
      refine ⟨⟨?_, le, ?_⟩, Or.inr ⟨rfl, lp, fun m m0 m1 => Or.inr ((UPw_iff hr oV oW m _ (by show p.2.1 ≠ -1; omega)).mpr ⟨p, hp, r, hr', rfl, e.symm, m0, m1⟩)⟩⟩
      · unfold tsp
        simp only
        omega
      · unfold tsp
        simp only
        omega
    have aX := afr X f
    refine c3_trodden (P := SpS I a b ca cb W V) hcX hsX hrX b0 (by rw [f 518 (by decide)]; exact b1) trA trB hd hd' nA nB (by rw [sX.2 6 (by decide), hmo]) hmv lar lbr aX.1 (by omega) aX.2 (by omega) (fun p hp => ⟨by have := loA p hp; omega, by have := hiA p hp; omega, (loA p hp).2, lnsA p hp⟩) (fun r hr' => ⟨by have := loB r hr'; omega, by have := hiB r hr'; omega⟩) (by rw [ft']; exact lbB) mX (by omega) xs (fun p hp r hr' e le => by rw [tfr X f] at le ⊢; exact sp1 p hp r hr' e le) (fun Y L2 sY mY inc2 len2 ln2 p2 c2 => ?_)
    have fY : ∀ k, (k < 57 ∨ 61 < k) → Y k = I k := fun k hk => by rw [sY.1 k hk, f k hk]
    have aY := afr Y fY
    refine c3_trodden (P := SpS I a b ca cb W V) (CN_fr hc (fY 2 (by decide)) (fY 518 (by decide))) (CSa_fr hs (fY 7 (by decide)) (fY 518 (by decide)) (fY 522 (by decide))) (CRa_fr hr (fY 1 (by decide)) (fY 489 (by decide))) a0 (by rw [fY 518 (by decide)]; exact a1) trB trA hd' hd nB nA (by rw [sY.2 6 (by decide), sX.2 6 (by decide), hmo]) hmv lbr lar aY.2 (by omega) aY.1 (by omega) (fun p hp => ⟨by have := loB p hp; omega, by have := hiB p hp; omega, (loB p hp).2, lnsB p hp⟩) (fun r hr' => ⟨by have := loA r hr'; omega, by have := hiA r hr'; omega⟩) (by rw [fY t (by omega)]; exact lbA) mY (by omega) p2 (fun p hp r hr' e le => by rw [tfr Y fY] at le ⊢; exact sp2 p hp r hr' e le) (fun Z L3 sZ mZ inc3 len3 ln3 p3 c3 => PV_i ?_)
    refine h Z L3 (SFr_tr (SFr_tr sX sY) sZ) mZ (by omega) p3 (fun z => ⟨fun m f' g => ?_, fun m l g => ?_⟩)
    · obtain ⟨x, hx, g'⟩ := dc (by omega) m f' g
      exact ⟨x, inc3 x (inc2 x hx), g'⟩
    · rcases g with g | g
      · obtain ⟨p, hp, r, hr', p1, r1, m0', m1'⟩ := (UPw_iff hr oW oV m l g.2.1).mp g
        have mem := c2 (by omega) p hp r hr' (by rw [p1, r1]) (by rw [tfr X f]; omega)
        rw [tfr X f] at mem
        exact ⟨_, inc3 _ mem, rfl, p1, m0', m1'⟩
      · obtain ⟨p, hp, r, hr', p1, r1, m0', m1'⟩ := (UPw_iff hr oV oW m l g.2.1).mp g
        have mem := c3 z p hp r hr' (by rw [p1, r1]) (by rw [tfr Y fY]; omega)
        rw [tfr Y fY] at mem
        exact ⟨_, mem, rfl, p1, m0', m1'⟩
theorem c3_scan {t n t' n' : Nat} {la lb a b ca cb most : Int} {W V : List Sp} (hc : CN I) (hs : CSa I) (hso : CSo I) (hr : CRa I) (a0 : 0 ≤ a) (a1 : a < I 518 6) (b0 : 0 ≤ b) (b1 : b < I 518 6) (tA : TW I t n la ca W) (tB : TW I t' n' lb cb V) (oW : okW ca 0 W) (oV : okW cb 0 V) (rca : 0 ≤ ca ∧ ca < I 518 5) (rcb : 0 ≤ cb ∧ cb < I 518 5) (rW : ∀ x ∈ W, 0 ≤ x.1 ∧ x.1 < I 518 5) (rV : ∀ x ∈ V, 0 ≤ x.1 ∧ x.1 < I 518 5) (eW : endS 0 W ≤ 999) (eV : endS 0 V ≤ 999) (hd : t + 4 < 57 ∨ 61 < t) (hd' : t' + 4 < 57 ∨ 61 < t') (lar : 0 ≤ la ∧ la ≤ 100) (lbr : 0 ≤ lb ∧ lb ≤ 100) (hmo : I 57 6 = most) (hmv : most = 1 ∨ most = 1201) (h : ∀ (X : HI) (L : List Spn), (∀ k, (k < 57 ∨ 61 < k) → X k = I k) → X 57 6 = I 57 6 → X 57 7 = a → X 57 8 = b → MSp X L → L.length ≤ 1201 → (∀ x ∈ L, SpS I a b ca cb W V x) → (((L.length : Int) < most ∨ most = 1201) → CpS I a b ca cb W V L) → K X) : CV mX3_scan (d + 3) [vR 57, vI a, vR t, vI la, vI b, vR t', vI lb] I K := by
  refine bk_X3_scan_0 tA.1.1 tB.1.1 (fun I1 e1 I2 e2 I3 e3 => ?_)
  have f : ∀ k, k ≠ 57 → I3 k = I k := fun k hk => by rw [e3, up_k hk, e2, up_k hk, e1, up_k hk]
  have ms : MSp I3 [] := ⟨by rw [e3, up_e]; rfl, fun i x hx => by simp at hx⟩
  have q6 : I3 57 6 = I 57 6 := by rw [e3, up_j (by decide), e2, up_j (by decide), e1, up_j (by decide)]
  have q7 : I3 57 7 = a := by rw [e3, up_j (by decide), e2, up_j (by decide), e1, up_e]
  have q8 : I3 57 8 = b := by rw [e3, up_j (by decide), e2, up_e]
  have f531 := f 531 (by decide)
  have f522 := f 522 (by decide)
  have f489 := f 489 (by decide)
  have f518 := f 518 (by decide)
  have none1 : (W = [] ∨ V = []) → K I3 := fun z => by
    refine h I3 [] (fun k hk => f k (by omega)) q6 q7 q8 ms (by simp) (fun x hx => by simp at hx) (fun _ => ⟨fun m f' g => ?_, fun m l g => ?_⟩)
    · rcases z with z | z
      · exact absurd z g.1
      · exact absurd z g.2.1
    · exfalso
      rcases z with z | z
      · subst z
        rcases g with g | g
        · exact g.2.1 (by rw [← g.1]; rfl)
        · obtain ⟨x, hx, _⟩ := g.2.2
          simp at hx
      · subst z
        rcases g with g | g
        · obtain ⟨x, hx, _⟩ := g.2.2
          simp at hx
        · exact g.2.1 (by rw [← g.1]; rfl)
  have core := fun (hW : W ≠ []) (hV : V ≠ []) => scan_core (d := d) (I := I3) (K := K) (CN_fr hc (f 2 (by decide)) f518) (CSa_fr hs (f 7 (by decide)) f518 f522) (by
    unfold CSo at hso ⊢
    rw [f518, f531, f 13 (by decide)]
    exact hso) (CRa_fr hr (f 1 (by decide)) f489) a0 (by rw [f518]; exact a1) b0 (by rw [f518]; exact b1) (TW_fr tA (fun k k1 k2 => f k (by omega))) (TW_fr tB (fun k k1 k2 => f k (by omega))) oW oV (by rw [f518]; exact rca) (by rw [f518]; exact rcb) (by rw [f518]; exact rW) (by rw [f518]; exact rV) eW eV hW hV hd hd' lar lbr (by rw [q6, hmo]) hmv ms (fun X L sX mX len p c => h X L (fun k hk => by rw [sX.1 k hk, f k (by omega)]) (by rw [sX.2 6 (by decide), q6]) (by rw [sX.2 7 (by decide), q7]) (by rw [sX.2 8 (by decide), q8]) mX len (fun x hx => (SpS_fr f531 f522 f489 _ _ _ _ _ _ _).mp (p x hx)) (fun z => (CpS_fr f531 f522 f489 _ _ _ _ _ _ _).mp (c z)))
  have sA := tA.2.2.2.1
  have sB := tB.2.2.2.1
  rw [← f t (by omega)] at sA
  rw [← f t' (by omega)] at sB
  have j27 : W ≠ [] → J none mX3_scan (d + 3) 0 0 27 [(0, vR 57), (1, vI a), (2, vR t), (3, vI la), (4, vI b), (5, vR t'), (6, vI lb)] [] (mk I3) (PV K) := fun hW => by
    refine bk_X3_scan_27 tA.1.1 tB.1.1 ⟨fun z => core hW (sB.mp (Or.inl z)), fun z => ⟨fun z2 => core hW (sB.mp (Or.inr z2)), fun z2 => PV_i (none1 (Or.inr ?_))⟩⟩
    by_cases g : V = []
    · exact g
    · rcases sB.mpr g with q | q
      · exact absurd z q
      · exact absurd z2 q
  refine ⟨fun z => j27 (sA.mp (Or.inl z)), fun z => ⟨fun z2 => PV_i (none1 (Or.inl ?_)), fun z2 => j27 (sA.mp (Or.inr z2))⟩⟩
  by_cases g : W = []
  · exact g
  · rcases sA.mpr g with q | q
    · exact absurd z q
    · exact absurd z2 q
end SC
