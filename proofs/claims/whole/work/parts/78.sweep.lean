/-- bits that stand for S -/
def GB (S : Int → Prop) (y : Int) : Prop := 0 ≤ y ∧ y < 65536 ∧ ∀ l : Int, 0 ≤ l → l < 16 → (bit y l = true ↔ S l)
theorem GB_iff {S T : Int → Prop} {y : Int} (h : GB S y) (e : ∀ l : Int, 0 ≤ l → l < 16 → (S l ↔ T l)) : GB T y := ⟨h.1, h.2.1, fun l l0 l1 => (h.2.2 l l0 l1).trans (e l l0 l1)⟩
theorem GB_0 {S : Int → Prop} (h : ∀ l, ¬ S l) : GB S 0 := ⟨by omega, by omega, fun l l0 l1 => by rw [bit_zero]; exact ⟨fun z => absurd z (by decide), fun z => absurd z (h l)⟩⟩
theorem GB_or {S : Int → Prop} {y k : Int} (h : GB S y) (k0 : 0 ≤ k) (k1 : k < 16) : GB (fun l => S l ∨ l = k) (oO y (oSl 1 k)) := by
  obtain ⟨h1, h2, h3⟩ := h
  have p := p2_rng (k := k) 16 (by omega) k0 (by omega)
  have r := or_rng 16 (by omega) (x := y) (y := oSl 1 k) h1 (by omega) (by omega) p.2
  refine ⟨r.1, by have := r.2; omega, fun l l0 l1 => ?_⟩
  rw [bit_or h1 (by omega) (by omega) (by have := p.2; omega), Bool.or_eq_true, h3 l l0 l1, bit_p2 k0 (by omega) l0, decide_eq_true_iff]
theorem GB_u {S : Int → Prop} {x y : Int} (h : GB S x) (g : GB S y) : x = y := by
  refine bit_ext 16 h.1 (by have := h.2.1; omega) g.1 (by have := g.2.1; omega) (fun j j0 j1 => ?_)
  have a := h.2.2 j j0 j1
  have b := g.2.2 j j0 j1
  cases hx : bit x j <;> cases hy : bit y j
  · rfl
  · rw [hx] at a
    rw [hy] at b
    exact absurd (a.mpr (b.mp rfl)) (by decide)
  · rw [hx] at a
    rw [hy] at b
    exact absurd (b.mpr (a.mp rfl)) (by decide)
  · rfl
/-- a lane on which a pair treads -/
def FP (I : HI) (cs : Int → List Int) (a b l : Int) : Prop := ∃ m, (UPw I b (wy I a (cs a)) (wy I b (cs b)) m l ∨ UPw I a (wy I b (cs b)) (wy I a (cs a)) m l) ∧ ¬ Exc I m 1 0 a b
def FLn (I : HI) (cs : Int → List Int) (l : Int) : Prop := ∃ a b, 0 ≤ a ∧ a < b ∧ b < I 518 6 ∧ FP I cs a b l
theorem FP_fr {I X : HI} (h : AFr I X) (cs : Int → List Int) (a b l : Int) : FP X cs a b l ↔ FP I cs a b l := by
  obtain ⟨h1, h2, h3, h4, h5, h6, h7, h8, h9⟩ := h
  unfold FP
  simp only [UPw_fr h3 h5, Exc_fr h1 h6 h7 h8 h9, wy_fr h1 h2 h3]
/-- the k-th bit -/
def kb (y k : Int) : Nat → Int → Int → Int
  | 0, _, _ => -1
  | n + 1, i, c => if oA (oSr y i) 1 = 0 then kb y k n (i + 1) c else if c = k then i else kb y k n (i + 1) (c + 1)
section SWp
variable {d : Nat} {I : HI} {K : HI → Prop} {KI : Int → HI → Prop} {K2 : Int → Int → HI → Prop} {cs : Int → List Int} {H : List Sn}
theorem foul_c {X0 : HI} {a b : Int} {L : List Spn} {S : Int → Prop} (hc : CN I) (hC : CCo I) (on0 : 0 ≤ I 489 64) (on1 : I 489 64 < oSl 1 (I 518 9)) (on33 : I 33 101 = I 489 64) (a0 : 0 ≤ a) (ab : a < b) (b4 : b < 4) (f0 : LFr I X0) (x7 : X0 57 7 = a) (x8 : X0 57 8 = b) (mX : MSp X0 L) (len : L.length ≤ 1201) (sL : ∀ x ∈ L, SpS I a b (hm I a) (hm I b) (wy I a (cs a)) (wy I b (cs b)) x) (cp : CpS I a b (hm I a) (hm I b) (wy I a (cs a)) (wy I b (cs b)) L) (h : ∀ (Y : HI) (y : Int), LFr I Y → RCu Y → GB (fun l => S l ∨ FP I cs a b l) y → J none mX4_foul (d + 6) 0 0 21 [(0, vR 67), (1, vI y), (2, vI a), (3, vI (b + 1))] [] (mk Y) (PI KI)) : ∀ (n i : Nat) (y : Int) (X : HI), i + n = L.length → UFr X0 X → RCu X → GB (fun l => S l ∨ ∃ (j : Nat) (x : Spn), j < i ∧ L[j]? = some x ∧ x.2.2.1 = 21 ∧ x.2.2.2 = l ∧ ∃ m, x.1 ≤ m ∧ m ≤ x.2.1 ∧ ¬ Exc I m 1 0 a b) y → J none mX4_foul (d + 6) 0 0 53 [(0, vR 67), (1, vI y), (2, vI a), (3, vI b), (4, vI (i : Int))] [] (mk X) (PI KI)
  | 0, i, y, X, e, uX, rX, hy => by
    refine bk_X4_foul_53 ⟨fun _ => ⟨by omega, h X y (LFr_tr f0 (LFr_u uX)) rX (GB_iff hy (fun l l0 l1 => ?_))⟩, fun q => by rw [uX.1 57 (by decide), mX.1] at q; omega⟩
    constructor
    · rintro (z | ⟨j, x, j1, j2, j3, j4, m, m0, m1, ne⟩)
      · exact Or.inl z
      · have sx := (sL x (List.mem_of_getElem? j2)).2
        rcases sx with ⟨s1, s2, s3⟩ | ⟨s1, s2, s3⟩
        · omega
        · rw [← j4]
          exact Or.inr ⟨m, s3 m m0 m1, ne⟩
    · rintro (z | ⟨m, g, ne⟩)
      · exact Or.inl z
      · obtain ⟨x, hx, g1, g2, g3, g4⟩ := cp.2 m l g
        obtain ⟨j, hj2, e2⟩ := List.mem_iff_getElem.mp hx
        exact Or.inr ⟨j, x, by omega, by rw [List.getElem?_eq_getElem hj2, e2], g1, g2, m, g3, g4, ne⟩
  | n + 1, i, y, X, e, uX, rX, hy => by
    have hi : i < L.length := by omega
    have gi' := List.getElem?_eq_getElem hi
    have gi := mX.2 i L[i] gi'
    have sx := sL _ (List.getElem_mem hi)
    have ih := foul_c (S := S) hc hC on0 on1 on33 a0 ab b4 f0 x7 x8 mX len sL cp h n (i + 1)
    rw [show ((i + 1 : Nat) : Int) = (i : Int) + 1 from by omega] at ih
    have f57 := uX.1 57 (by decide)
    -- a span that gives nothing
    have skip : ∀ Y : HI, UFr X0 Y → RCu Y → ((L[i]).2.2.1 = 21 → ∀ m, (L[i]).1 ≤ m → m ≤ (L[i]).2.1 → Exc I m 1 0 a b) → J none mX4_foul (d + 6) 0 0 53 [(0, vR 67), (1, vI y), (2, vI a), (3, vI b), (4, vI ((i : Int) + 1))] [] (mk Y) (PI KI) := fun Y uY rY al => by
      refine ih y Y (by omega) uY rY (GB_iff hy (fun l l0 l1 => ?_))
      constructor
      · rintro (z | ⟨j, x, j1, j2, g⟩)
        · exact Or.inl z
        · exact Or.inr ⟨j, x, by omega, j2, g⟩
      · rintro (z | ⟨j, x, j1, j2, j3, j4, m, m0, m1, ne⟩)
        · exact Or.inl z
        · by_cases ej : j = i
          · subst ej
            rw [gi'] at j2
            simp only [Option.some.injEq] at j2
            subst j2
            exact absurd (al j3 m m0 m1) ne
          · exact Or.inr ⟨j, x, by omega, j2, j3, j4, m, m0, m1, ne⟩
    refine bk_X4_foul_53 ?_
    rw [f57, mX.1, uX.1 60 (by decide), Int.toNat_natCast, gi.2.2.1]
    refine ⟨fun q => by omega, fun _ => ⟨by omega, fun q => ⟨by omega, skip X uX rX (fun z => absurd z q)⟩, fun q => ?_⟩⟩
    refine span_first hc hC on0 on1 a0 ab b4 (LFr_tr f0 (LFr_u uX)) rX (by rw [f57]; exact x7) (by rw [f57]; exact x8) (L := L) ⟨by rw [f57]; exact mX.1, fun j y hy => by rw [uX.1 58 (by decide), uX.1 59 (by decide), uX.1 60 (by decide), uX.1 61 (by decide)]; exact mX.2 j y hy⟩ gi' len sx on33 (fun Y r u1 u2 u3 u4 u5 u6 => ?_)
    have es : soS (L[i]).2.2.1 = 1 := by unfold soS; rw [if_pos q]
    have ef : faS (L[i]).2.2.1 = 0 := by unfold faS; rw [if_pos q]
    rw [es, ef] at u5 u6
    have uY := UFr_tr uX u1
    rw [uY.1 59 (by decide), gi.2.1, uY.1 61 (by decide), gi.2.2.2]
    refine ⟨by omega, fun q2 => ⟨by omega, skip Y uY u2 (fun _ m m0 m1 => u5 m m0 (by omega))⟩, fun q2 => ⟨by omega, by omega, ?_⟩⟩
    have ln : 0 ≤ (L[i]).2.2.2 ∧ (L[i]).2.2.2 < 16 := by
      rcases sx.2 with ⟨s1, s2, s3⟩ | ⟨s1, s2, s3⟩
      · omega
      · exact s2
    refine ih _ Y (by omega) uY u2 (GB_iff (GB_or hy ln.1 ln.2) (fun l l0 l1 => ?_))
    constructor
    · rintro ((z | ⟨j, x, j1, j2, g⟩) | z)
      · exact Or.inl z
      · exact Or.inr ⟨j, x, by omega, j2, g⟩
      · exact Or.inr ⟨i, L[i], by omega, gi', q, z.symm, r, u3, by omega, u6 (by omega)⟩
    · rintro (z | ⟨j, x, j1, j2, j3, j4, m, m0, m1, ne⟩)
      · exact Or.inl (Or.inl z)
      · by_cases ej : j = i
        · subst ej
          rw [gi'] at j2
          simp only [Option.some.injEq] at j2
          subst j2
          exact Or.inr j4.symm
        · exact Or.inl (Or.inr ⟨j, x, by omega, j2, j3, j4, m, m0, m1, ne⟩)
/-- the lanes of the pairs ahead of (a, b) -/
def FB (I : HI) (cs : Int → List Int) (a b l : Int) : Prop := ∃ a' b', 0 ≤ a' ∧ a' < b' ∧ b' < I 518 6 ∧ (a' < a ∨ (a' = a ∧ b' < b)) ∧ FP I cs a' b' l
theorem foul_r {a : Int} (hc : CN I) (hs : CSa I) (hl : CLa I) (hcs : CSo I) (hr : CRa I) (hC : CCo I) (on0 : 0 ≤ I 489 64) (on1 : I 489 64 < oSl 1 (I 518 9)) (on33 : I 33 101 = I 489 64) (w1 : ClW I cs) (ok : ∀ s : Int, 0 ≤ s → s < I 518 6 → OkW I s (cs s)) (a0 : 0 ≤ a) (a1 : a < I 518 6) (h : ∀ (Y : HI) (y : Int), LFr I Y → RCu Y → GB (FB I cs (a + 1) (a + 2)) y → J none mX4_foul (d + 6) 0 0 4 [(0, vR 67), (1, vI y), (2, vI (a + 1))] [] (mk Y) (PI KI)) : ∀ (k : Nat) (b y : Int) (X : HI), a < b → b + k = I 518 6 → LFr I X → RCu X → GB (FB I cs a b) y → J none mX4_foul (d + 6) 0 0 21 [(0, vR 67), (1, vI y), (2, vI a), (3, vI b)] [] (mk X) (PI KI)
  | 0, b, y, X, ab, e, lX, rX, hy => by
    have n6 := hc.2.2.1
    have c2 := hc.1.2.2.1
    refine bk_X4_foul_21 ?_
    rw [lX.1 2 (by decide), c2]
    refine ⟨fun _ => ⟨by omega, h X y lX rX (GB_iff hy (fun l l0 l1 => ?_))⟩, fun q => by omega⟩
    constructor
    · rintro ⟨a', b', g1, g2, g3, g4, g⟩
      exact ⟨a', b', g1, g2, g3, by omega, g⟩
    · rintro ⟨a', b', g1, g2, g3, g4, g⟩
      exact ⟨a', b', g1, g2, g3, by omega, g⟩
  | k + 1, b, y, X, ab, e, lX, rX, hy => by
    have n6 := hc.2.2.1
    have c2 := hc.1.2.2.1
    have A := LFr_A lX
    have f518 := A.1
    have f521 := A.2.1
    have f522 := A.2.2.1
    have f531 := A.2.2.2.1
    have f489 := lX.1 489 (by decide)
    have swf : ∀ s W, SW I s W → SW X s W := fun s W g => by
      unfold SW at g ⊢
      rw [hm_fr f522, f518]
      exact g
    have sA := swf a _ (SW_of hc hs hl a0 a1 (ok a a0 a1))
    have sB := swf b _ (SW_of hc hs hl (by omega) (by omega) (ok b (by omega) (by omega)))
    have tA := (w1 a a0 a1).2
    have tB := (w1 b (by omega) (by omega)).2
    refine bk_X4_foul_21 ?_
    rw [lX.1 2 (by decide), c2]
    refine ⟨fun q => by omega, fun _ => ?_⟩
    refine c3_scanAll (W := wy I a (cs a)) (V := wy I b (cs b)) (CN_fr hc (lX.1 2 (by decide)) f518) (CSa_fr hs (lX.1 7 (by decide)) f518 f522) (CSo_fr hcs (lX.1 13 (by decide)) f518 f531) (CRa_fr hr (lX.1 1 (by decide)) f489) a0 (by rw [f518]; exact a1) (by omega) (by rw [f518]; omega) (by rw [hm_fr f522]; exact TW_fr tA (fun k k1 k2 => lX.1 k (by omega))) (by rw [hm_fr f522]; exact TW_fr tB (fun k k1 k2 => lX.1 k (by omega))) sA sB (fun Z L x1 x2 x3 x4 x5 x6 x7 => ?_)
    rw [hm_fr f522, hm_fr f522] at x6 x7
    have lZ : LFr I Z := LFr_tr lX ⟨fun k hk => x1 k (by omega), fun j hj => by rw [x1 62 (by decide)]⟩
    have rZ : RCu Z := RCu_fr rX (fun k k1 k2 => x1 k (by omega)) (x1 518 (by decide)) (x1 524 (by decide)) (x1 526 (by decide)) (x1 527 (by decide))
    refine foul_c (cs := cs) (S := FB I cs a b) hc hC on0 on1 on33 a0 ab (by omega) lZ x2 x3 x4 x5 (fun x hx => (SpS_fr f531 f522 f489 _ _ _ _ _ _ _).mp (x6 x hx)) ((CpS_fr f531 f522 f489 _ _ _ _ _ _ _).mp x7) (fun Y y' lY rY gY => ?_) L.length 0 y Z (by omega) (UFr_rfl Z) rZ (GB_iff hy (fun l l0 l1 => ⟨fun z => Or.inl z, fun z => by rcases z with z | ⟨j, x, j1, _⟩; exact z; omega⟩))
    refine foul_r hc hs hl hcs hr hC on0 on1 on33 w1 ok a0 a1 h k (b + 1) y' Y (by omega) (by omega) lY rY (GB_iff gY (fun l l0 l1 => ?_))
    constructor
    · rintro (⟨a', b', g1, g2, g3, g4, g⟩ | z)
      · exact ⟨a', b', g1, g2, g3, by omega, g⟩
      · exact ⟨a, b, a0, ab, by omega, by omega, z⟩
    · rintro ⟨a', b', g1, g2, g3, g4, g⟩
      by_cases eq : a' = a ∧ b' = b
      · rw [eq.1, eq.2] at g
        exact Or.inr g
      · exact Or.inl ⟨a', b', g1, g2, g3, by omega, g⟩
theorem foul_t (hc : CN I) (hs : CSa I) (hl : CLa I) (hcs : CSo I) (hr : CRa I) (hC : CCo I) (on0 : 0 ≤ I 489 64) (on1 : I 489 64 < oSl 1 (I 518 9)) (on33 : I 33 101 = I 489 64) (w1 : ClW I cs) (ok : ∀ s : Int, 0 ≤ s → s < I 518 6 → OkW I s (cs s)) (h : ∀ (Y : HI) (y : Int), LFr I Y → RCu Y → GB (FLn I cs) y → KI y Y) : ∀ (k : Nat) (a y : Int) (X : HI), 0 ≤ a → a + k = I 518 6 → LFr I X → RCu X → GB (FB I cs a (a + 1)) y → J none mX4_foul (d + 6) 0 0 4 [(0, vR 67), (1, vI y), (2, vI a)] [] (mk X) (PI KI)
  | 0, a, y, X, a0, e, lX, rX, hy => by
    have c2 := hc.1.2.2.1
    refine bk_X4_foul_4 ?_
    rw [lX.1 2 (by decide), c2]
    refine ⟨fun _ => PI_i (h X y lX rX (GB_iff hy (fun l l0 l1 => ?_))), fun z => by omega⟩
    constructor
    · rintro ⟨a', b', g1, g2, g3, g4, g⟩
      exact ⟨a', b', g1, g2, g3, g⟩
    · rintro ⟨a', b', g1, g2, g3, g⟩
      exact ⟨a', b', g1, g2, g3, by omega, g⟩
  | k + 1, a, y, X, a0, e, lX, rX, hy => by
    have c2 := hc.1.2.2.1
    have n6 := hc.2.2.1
    refine bk_X4_foul_4 ?_
    rw [lX.1 2 (by decide), c2]
    refine ⟨fun z => by omega, fun _ => ⟨by omega, ?_⟩⟩
    refine foul_r (cs := cs) hc hs hl hcs hr hC on0 on1 on33 w1 ok a0 (by omega) (fun Y y' lY rY gY => ?_) (I 518 6 - (a + 1)).toNat (a + 1) y X (by omega) (by omega) lX rX hy
    exact foul_t hc hs hl hcs hr hC on0 on1 on33 w1 ok h k (a + 1) y' Y (by omega) (by omega) lY rY (by rw [show a + 1 + 1 = a + 2 from by omega]; exact gY)
end SWp
