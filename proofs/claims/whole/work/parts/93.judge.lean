theorem lA_p2 {v y : Int} (y0 : 0 ≤ y) (y1 : y < 64) : lA v (lSl 1 y) = 0 ↔ lb v y.toNat = false := by
  constructor
  · intro h
    cases e : lb v y.toNat
    · rfl
    · have : lb (lA v (lSl 1 y)) y.toNat = true := by
        rw [lb_A, e, lb_p2 y0 y1 (by omega)]
        simp
      rw [h, lb_0] at this
      cases this
  · intro h
    refine lext (lrg_A _ _) ⟨by omega, by omega⟩ (fun i hi => ?_)
    rw [lb_A, lb_p2 y0 y1 hi, lb_0]
    by_cases e : i = y.toNat
    · rw [e, h]; rfl
    · simp [e]
theorem lb_id (x : Int) (hx : lrg x) : lO x 0 = x := by
  refine lext (lrg_O _ _) hx (fun i hi => ?_)
  rw [lb_O, lb_0, Bool.or_false]
theorem prN_inj {a b a' b' : Nat} (ab : a < b) (b4 : b < 4) (ab' : a' < b') (b4' : b' < 4) (e : prN a b = prN a' b') : a = a' ∧ b = b' := by
  have h1 := prN_rng ab b4
  have h2 := prN_rng ab' b4'
  have e1 : prW (a : Int) (b : Int) = prW (a' : Int) (b' : Int) := by omega
  have := plc_inj (a := (a : Int)) (b := (b : Int)) (sl := 0) (w := 0) (a' := (a' : Int)) (b' := (b' : Int)) (sl' := 0) (w' := 0) (by omega) (by omega) (by omega) (by omega) (by omega) (by omega) (by omega) (by omega) (by omega) (by omega) (by omega) (by omega) (by omega) (by omega) (by unfold plc; rw [e1])
  omega
/-- all that is asked of choices -/
def CHs (I : HI) (cs : Int → List Int) : Prop := CWs I cs ∧ RTs I
theorem ch_ok {I : HI} {cs : Int → List Int} (h : CHs I cs) {s x : Nat} (s1 : (s : Int) < I 518 6) (x1 : x ≤ 3 * (rts I s).length) : TW I (chT s x) (chN x) (chL x) (hm I s) (chw I cs s x) ∧ SW I s (chw I cs s x) ∧ OkW I s (chc I cs s x) ∧ (chT s x + 4 < 57 ∨ 61 < chT s x) ∧ (0 ≤ chL x ∧ chL x ≤ 10) := by
  obtain ⟨hw, hr⟩ := h
  have hT := hw.1
  have n6 := hT.1.2.2.1
  have rl := rts_len (I := I) (s : Int)
  by_cases e : x = 0
  · subst e
    have ok := hw.2.2.1 (s : Int) (by omega) s1
    have tw := (hw.2.1 (s : Int) (by omega) s1).2
    rw [Int.toNat_natCast] at tw
    exact ⟨tw, SW_of hT.1 hT.2.1 hT.2.2.1 (by omega) s1 ok, ok, by unfold chT; rw [if_pos rfl]; omega, by unfold chL; rw [if_pos rfl]; omega⟩
  · have ho : x - 1 < 3 * (rts I (s : Int)).length := by omega
    have ok := (opc_ok hT (s := (s : Int)) (by omega) s1 ho).1
    have tw := (hr s s1).1.2 ((x - 1) / 3) ((rts I (s : Int)).getD ((x - 1) / 3) []) (by
      rw [List.getD_eq_getElem?_getD, List.getElem?_eq_getElem (show (x - 1) / 3 < (rts I (s : Int)).length from by omega)]
      rfl)
    have ec : chc I cs (s : Int) x = opc I (s : Int) (x - 1) := by
      unfold chc
      rw [if_neg e]
    unfold chw
    rw [ec]
    refine ⟨?_, SW_of hT.1 hT.2.1 hT.2.2.1 (by omega) s1 ok, ok, by unfold chT; rw [if_neg e]; omega, by unfold chL; rw [if_neg e]; omega⟩
    unfold chT chN chL opc
    rw [if_neg e, if_neg e, if_neg e]
    by_cases q : (x - 1) % 3 = 0
    · rw [if_pos q, q]
      exact tw
    · rw [if_neg q]
      exact TW_late (by omega) tw
section JG
variable {d : Nat} {I : HI} {K : HI → Prop} {KI : Int → HI → Prop} {K2 : Int → Int → HI → Prop} {cs : Int → List Int} {H : List Sn}
theorem LAW_sp {a b : Int} {W V : List Sp} {L : List Spn} (ab : a < b) (lou : loudM I a b ≤ 20) (cp : CpS I a b (hm I a) (hm I b) W V L) (h : ∀ x ∈ L, ∀ m, x.1 ≤ m → m ≤ x.2.1 → Exc I m (soS x.2.2.1) (faS x.2.2.1) a b) : LAW I a b W V := by
  unfold LAW QTs OFs ExS
  rw [if_pos ab, if_pos ab, if_neg (by omega : ¬ b < a), if_neg (by omega : ¬ b < a)]
  refine ⟨fun m f g => ?_, fun m l g => ?_, fun m l g => ?_⟩
  · obtain ⟨x, hx, e1, e2⟩ := cp.1 m f g
    have := h x hx m e2.1 e2.2
    have fl := g.2.2.2.2.2.2
    unfold soS faS at this
    rw [if_neg (by omega), if_neg (by omega), e1] at this
    exact this
  · obtain ⟨x, hx, e1, e2, e3⟩ := cp.2 m l (Or.inl g)
    have := h x hx m e3.1 e3.2
    unfold soS faS at this
    rw [if_pos e1, if_pos e1] at this
    exact this
  · obtain ⟨x, hx, e1, e2, e3⟩ := cp.2 m l (Or.inr g)
    have := h x hx m e3.1 e3.2
    unfold soS faS at this
    rw [if_pos e1, if_pos e1] at this
    exact this
theorem LAW_no {a b m : Int} {W V : List Sp} {x : Spn} (ab : a < b) (sx : SpS I a b (hm I a) (hm I b) W V x) (m0 : x.1 ≤ m) (m1 : m ≤ x.2.1) (ne : ¬ Exc I m (soS x.2.2.1) (faS x.2.2.1) a b) : ¬ LAW I a b W V := by
  unfold LAW QTs OFs ExS
  rw [if_pos ab, if_pos ab, if_neg (by omega : ¬ b < a), if_neg (by omega : ¬ b < a)]
  rintro ⟨g1, g2, g3⟩
  rcases sx.2 with ⟨e1, e2, e3⟩ | ⟨e1, e2, e3⟩
  · have := g1 m _ (e3 m m0 m1)
    unfold soS faS at ne
    rw [if_neg (by omega), if_neg (by omega)] at ne
    exact ne this
  · unfold soS faS at ne
    rw [if_pos e1, if_pos e1] at ne
    rcases e3 m m0 m1 with z | z
    · exact ne (g2 m _ z)
    · exact ne (g3 m _ z)
theorem judge_s {X0 : HI} {a b : Int} {x y : Int} {p t n t' n' : Nat} {W V : List Sp} {L : List Spn} {mo : Int} (hw : CWs I cs) (ht : TR t n) (ht' : TR t' n') (a0 : 0 ≤ a) (ab : a < b) (b4 : b < 4) (f0 : LFr I X0) (x7 : X0 57 7 = a) (x8 : X0 57 8 = b) (mX : MSp X0 L) (len : L.length ≤ 1201) (sL : ∀ x ∈ L, SpS I a b (hm I a) (hm I b) W V x) (h0 : ∀ (Y : HI) (i : Int), LFr I Y → RCu Y → ¬ LAW I a b W V → L ≠ [] → MSp Y L → J none mX5_judged (d + 6) 0 0 180 [(0, vR 69), (1, vI a), (2, vI x), (3, vI b), (4, vI y), (5, vI (p : Int)), (6, vL (lSl 1 y)), (8, vR t), (9, vR t'), (10, vI 0), (11, vI mo), (12, vI i)] [] (mk Y) (PI KI)) (h1 : ∀ (Y : HI) (i : Int), LFr I Y → RCu Y → (∀ x ∈ L, ∀ m, x.1 ≤ m → m ≤ x.2.1 → Exc I m (soS x.2.2.1) (faS x.2.2.1) a b) → MSp Y L → J none mX5_judged (d + 6) 0 0 180 [(0, vR 69), (1, vI a), (2, vI x), (3, vI b), (4, vI y), (5, vI (p : Int)), (6, vL (lSl 1 y)), (8, vR t), (9, vR t'), (10, vI 1), (11, vI mo), (12, vI i)] [] (mk Y) (PI KI)) : ∀ (n i : Nat) (X : HI), i + n = L.length → UFr X0 X → RCu X → (∀ (j : Nat) (x : Spn), j < i → L[j]? = some x → ∀ m, x.1 ≤ m → m ≤ x.2.1 → Exc I m (soS x.2.2.1) (faS x.2.2.1) a b) → J none mX5_judged (d + 6) 0 0 117 [(0, vR 69), (1, vI a), (2, vI x), (3, vI b), (4, vI y), (5, vI (p : Int)), (6, vL (lSl 1 y)), (8, vR t), (9, vR t'), (10, vI 1), (11, vI mo), (12, vI (i : Int))] [] (mk X) (PI KI)
  | 0, i, X, e, uX, rX, hd => by
    have msX : MSp X L := ⟨by rw [uX.1 57 (by omega)]; exact mX.1, fun i x hi => by rw [uX.1 58 (by omega), uX.1 59 (by omega), uX.1 60 (by omega), uX.1 61 (by omega)]; exact mX.2 i x hi⟩
    refine bk_X5_judged_117 ht ht' ?_
    rw [msX.1]
    refine ⟨fun _ => h1 X _ (LFr_tr f0 (LFr_u uX)) rX (fun x hx => ?_) msX, fun q => by omega⟩
    obtain ⟨j, hj⟩ := List.getElem?_of_mem hx
    have := ge_lt hj
    exact hd j x (by omega) hj
  | k + 1, i, X, e, uX, rX, hd => by
    have hT := hw.1
    have msX : MSp X L := ⟨by rw [uX.1 57 (by omega)]; exact mX.1, fun i x hi => by rw [uX.1 58 (by omega), uX.1 59 (by omega), uX.1 60 (by omega), uX.1 61 (by omega)]; exact mX.2 i x hi⟩
    obtain ⟨xx, hi⟩ : ∃ x, L[i]? = some x := ⟨_, List.getElem?_eq_getElem (by omega)⟩
    have sx := sL xx (List.mem_of_getElem? hi)
    refine bk_X5_judged_117 ht ht' ?_
    rw [msX.1]
    refine ⟨fun q => by omega, fun _ => ⟨fun q => by omega, fun _ => ?_⟩⟩
    refine span_first (W := W) (V := V) hT.1 hT.2.2.2.2.2.1 hw.2.2.2.1.1 hw.2.2.2.1.2 a0 ab b4 (LFr_tr f0 (LFr_u uX)) rX (by rw [uX.1 57 (by omega)]; exact x7) (by rw [uX.1 57 (by omega)]; exact x8) msX hi len sx hw.2.2.2.2 (fun Y r uY rY r0 r1 ex ne => ?_)
    have uXY := UFr_tr uX uY
    have msY : MSp Y L := ⟨by rw [uXY.1 57 (by omega)]; exact mX.1, fun i x hi => by rw [uXY.1 58 (by omega), uXY.1 59 (by omega), uXY.1 60 (by omega), uXY.1 61 (by omega)]; exact mX.2 i x hi⟩
    rw [Int.toNat_natCast, (msY.2 i xx hi).2.1]
    refine ⟨by omega, fun q => ⟨by omega, ?_⟩, fun q => ⟨by omega, ?_⟩⟩
    · -- a minute that isn't excepted: the rest is not looked at
      refine bk_X5_judged_117 ht ht' ?_
      have g := fun i => h0 Y i (LFr_tr f0 (LFr_u uXY)) rY (LAW_no ab sx r0 q (ne q)) (fun z => by rw [z] at hi; simp at hi) msY
      exact ⟨fun _ => g _, fun _ => ⟨fun _ => g _, fun q2 => absurd rfl q2⟩⟩
    · have := judge_s hw ht ht' a0 ab b4 f0 x7 x8 mX len sL h0 h1 k (i + 1) Y (by omega) uXY rY (fun j z hj hz => by
        by_cases ej : j = i
        · subst ej
          rw [hi] at hz
          cases hz
          exact fun m m0 m1 => ex m m0 (by omega)
        · exact hd j z (by omega) hz)
      exact this
/-- what judged() changes -/
def JFr (I X : HI) : Prop := (∀ k, (k < 57 ∨ 66 < k) → k ≠ 75 → k ≠ 76 → X k = I k) ∧ (∀ j, j ≠ 6 → X 62 j = I 62 j)
theorem JFr_rfl (I : HI) : JFr I I := ⟨fun _ _ _ _ => rfl, fun _ _ => rfl⟩
theorem JFr_tr {I X Y : HI} (h : JFr I X) (g : JFr X Y) : JFr I Y := ⟨fun k h1 h2 h3 => by rw [g.1 k h1 h2 h3, h.1 k h1 h2 h3], fun j hj => by rw [g.2 j hj, h.2 j hj]⟩
theorem CF_j {I X : HI} (h : JFr I X) : CF I X := ⟨fun k hk => h.1 k (by omega) (by omega) (by omega), by rw [h.1 489 (by omega) (by omega) (by omega)]⟩
theorem CWs_j {I X : HI} {cs : Int → List Int} (h : CWs I cs) (f : JFr I X) : CWs X cs := CWs_fr h (CF_j f) (by rw [f.1 489 (by omega) (by omega) (by omega)]) (f.1 33 (by omega) (by omega) (by omega)) (fun k k1 k2 => f.1 k (by omega) (by omega) (by omega))
theorem RTs_j {I X : HI} (n6 : I 518 6 ≤ 4) (h : RTs I) (f : JFr I X) : RTs X := by
  intro s s1
  rw [(CF_j f).1 518 (by omega)] at s1
  refine RT1_b (CF_j f) (by rw [f.1 489 (by omega) (by omega) (by omega)]) (RT1_t (h s s1) (by rw [f.1 71 (by omega) (by omega) (by omega)]) (fun j _ _ => ⟨by rw [f.1 72 (by omega) (by omega) (by omega)], by rw [f.1 73 (by omega) (by omega) (by omega)]⟩) (fun k k1 k2 => f.1 k (by omega) (by omega) (by omega)))
/-- plan memory: known and fitting, right for ways and options as they are -/
def KNW (I : HI) (cs : Int → List Int) : Prop := CWs I cs ∧ RTs I ∧ SUB I ∧ FIT I cs False ∧ RCu I
theorem judge_m {a b : Nat} {x y p : Nat} (hw : CWs I cs) (hr : RTs I) (hR : RCu I) (ab : a < b) (b1 : (b : Int) < I 518 6) (x1 : x ≤ 3 * (rts I a).length) (y1 : y ≤ 3 * (rts I b).length) (p1 : p < 366) (nf : lb (I 76 p) y = false) (fin : ∀ (Y : HI) (l : Int), LFr I Y → RCu Y → ((l = 1 ∧ LAW I a b (chw I cs a x) (chw I cs b y)) ∨ (l = 0 ∧ ¬ LAW I a b (chw I cs a x) (chw I cs b y))) → KI l (up Y 76 p (lO (Y 76 p) (if l = 0 then 0 else lSl 1 y)))) : J none mX5_judged (d + 6) 0 0 68 [(0, vR 69), (1, vI (a : Int)), (2, vI (x : Int)), (3, vI (b : Int)), (4, vI (y : Int)), (5, vI (p : Int)), (6, vL (lSl 1 y)), (8, vR (chT a x)), (9, vR (chT b y)), (10, vI 1), (11, vI 1)] [] (mk I) (PI KI) := by
  have hT := hw.1
  have n6 := hT.1.2.2.1
  have rla := rts_len (I := I) (a : Int)
  have rlb := rts_len (I := I) (b : Int)
  obtain ⟨tA, sA, okA, dA, lA'⟩ := ch_ok ⟨hw, hr⟩ (s := a) (x := x) (by omega) x1
  obtain ⟨tB, sB, okB, dB, lB'⟩ := ch_ok ⟨hw, hr⟩ (s := b) (x := y) b1 y1
  have lou : loudM I a b ≤ 20 := by
    have g1 := (hT.2.1.2 (a : Int) (by omega) (by omega)).2.2.1
    have g2 := (hT.2.1.2 (b : Int) (by omega) b1).2.2.1
    unfold loudM
    omega
  -- the end
  have e0 : ∀ Y : HI, LFr I Y → RCu Y → ¬ LAW I a b (chw I cs a x) (chw I cs b y) → ∀ I1 : HI, I1 = up Y 76 p (lO (Y 76 p) 0) → (((lA (I1 76 p) (lSl 1 y)) = 0 → PI KI (some (vI 0)) (mk I1)) ∧ (¬ ((lA (I1 76 p) (lSl 1 y)) = 0) → PI KI (some (vI 1)) (mk I1))) := fun Y lY rY nl I1 e1 => by
    have g := fin Y 0 lY rY (Or.inr ⟨rfl, nl⟩)
    rw [if_pos rfl, ← e1] at g
    have : lA (I1 76 p) (lSl 1 (y : Int)) = 0 := by
      rw [lA_p2 (by omega) (by omega), e1, up_e, lb_O, lb_0, Bool.or_false, lY.1 76 (by omega)]
      exact nf
    exact ⟨fun _ => PI_i g, fun q => absurd this q⟩
  have e1 : ∀ Y : HI, LFr I Y → RCu Y → LAW I a b (chw I cs a x) (chw I cs b y) → ∀ I1 : HI, I1 = up Y 76 p (lO (Y 76 p) (lSl 1 y)) → (((lA (I1 76 p) (lSl 1 y)) = 0 → PI KI (some (vI 0)) (mk I1)) ∧ (¬ ((lA (I1 76 p) (lSl 1 y)) = 0) → PI KI (some (vI 1)) (mk I1))) := fun Y lY rY nl I1 e1 => by
    have g := fin Y 1 lY rY (Or.inl ⟨rfl, nl⟩)
    rw [if_neg (by omega), ← e1] at g
    have : ¬ lA (I1 76 p) (lSl 1 (y : Int)) = 0 := by
      rw [lA_p2 (by omega) (by omega), e1, up_e, lb_O, lb_p2 (by omega) (by omega) (by omega)]
      simp
    exact ⟨fun q => absurd q this, fun _ => PI_i g⟩
  -- one scan, with room for mo spans
  have scan : ∀ (mo : Int) (X : HI), (mo = 1 ∨ mo = 1201) → LFr I X → RCu X → (∀ (Y : HI), LFr I Y → RCu Y → mo = 1 → J none mX5_judged (d + 6) 0 0 68 [(0, vR 69), (1, vI (a : Int)), (2, vI (x : Int)), (3, vI (b : Int)), (4, vI (y : Int)), (5, vI (p : Int)), (6, vL (lSl 1 y)), (8, vR (chT a x)), (9, vR (chT b y)), (10, vI 1), (11, vI (mo + 1200))] [] (mk Y) (PI KI)) → J none mX5_judged (d + 6) 0 0 68 [(0, vR 69), (1, vI (a : Int)), (2, vI (x : Int)), (3, vI (b : Int)), (4, vI (y : Int)), (5, vI (p : Int)), (6, vL (lSl 1 y)), (8, vR (chT a x)), (9, vR (chT b y)), (10, vI 1), (11, vI mo)] [] (mk X) (PI KI) := by
    intro mo X hmo lX rX again
    refine bk_X5_judged_68 tA.1.1 tB.1.1 ⟨fun q => by omega, fun _ => ⟨fun q => by omega, fun _ I5 e5 => ?_⟩⟩
    have l5 : LFr I I5 := LFr_tr lX (by rw [e5]; exact ⟨fun k hk => up_k (by omega), fun j _ => by rw [up_k (by decide)]⟩)
    have r5 : RCu I5 := RCu_fr rX (fun k k1 k2 => by rw [e5, up_k (by omega)]) (by rw [e5, up_k (by decide)]) (by rw [e5, up_k (by decide)]) (by rw [e5, up_k (by decide)]) (by rw [e5, up_k (by decide)])
    have h5 := CTY_fr hT (CF_l l5)
    have c5 := CF_l l5
    have f518 := c5.1 518 (by omega)
    refine c5_lateOf (by omega) (c5_lateOf (by omega) ?_)
    refine c3_scan (most := mo) (W := chw I cs a x) (V := chw I cs b y) (ca := hm I a) (cb := hm I b) h5.1 h5.2.1 h5.2.2.2.1 h5.2.2.2.2.1 (by omega) (by rw [f518]; omega) (by omega) (by rw [f518]; exact b1) (TW_fr tA (fun k k1 k2 => l5.1 k ?_)) (TW_fr tB (fun k k1 k2 => l5.1 k ?_)) sA.1 sB.1 (by rw [f518]; exact sA.2.1) (by rw [f518]; exact sB.2.1) (by rw [f518]; exact sA.2.2.1) (by rw [f518]; exact sB.2.2.1) sA.2.2.2.1 sB.2.2.2.1 dA dB (by omega) (by omega) (by rw [e5, up_e]) hmo (fun Z L fZ z6 z7 z8 mZ len sL cp => ?_)
    · have : chT a x = 37 + 5 * a ∨ 77 ≤ chT a x := by
        unfold chT
        split <;> omega
      omega
    · have : chT b y = 37 + 5 * b ∨ 77 ≤ chT b y := by
        unfold chT
        split <;> omega
      omega
    · have A5 := LFr_A l5
      simp only [SpS_fr A5.2.2.2.1 A5.2.2.1 (l5.1 489 (by omega)), CpS_fr A5.2.2.2.1 A5.2.2.1 (l5.1 489 (by omega))] at sL cp
      have lZ : LFr I Z := LFr_tr l5 ⟨fun k hk => fZ k (by omega), fun j _ => by rw [fZ 62 (by omega)]⟩
      have rZ : RCu Z := RCu_fr r5 (fun k k1 k2 => fZ k (by omega)) (fZ 518 (by omega)) (fZ 524 (by omega)) (fZ 526 (by omega)) (fZ 527 (by omega))
      refine judge_s (cs := cs) (W := chw I cs a x) (V := chw I cs b y) (p := p) hw tA.1.1 tB.1.1 (by omega) (by omega) (by omega) lZ z7 z8 mZ len sL (fun Y i lY rY nl nL mY => ?_) (fun Y i lY rY ex mY => ?_) L.length 0 Z (by omega) (UFr_rfl Z) rZ (fun j z hj => by omega)
      · -- not lawful
        have nl5 : 0 < L.length := List.length_pos_iff.mpr nL
        refine bk_X5_judged_180 tA.1.1 tB.1.1 ?_
        rw [mY.1]
        refine ⟨fun _ => ⟨by omega, ?_⟩, fun q => by omega⟩
        have g := e0 Y lY rY nl
        refine bk_X5_judged_68 tA.1.1 tB.1.1 ?_
        rw [Int.toNat_natCast]
        exact ⟨fun _ => ⟨by omega, fun _ => ⟨by omega, fun I1 e => ⟨by omega, g I1 e⟩⟩, fun q => absurd rfl q⟩, fun _ => ⟨fun _ => ⟨by omega, fun _ => ⟨by omega, fun I1 e => ⟨by omega, g I1 e⟩⟩, fun q => absurd rfl q⟩, fun q => absurd rfl q⟩⟩
      · -- all spans are excepted
        refine bk_X5_judged_180 tA.1.1 tB.1.1 ?_
        rw [mY.1, Int.toNat_natCast]
        refine ⟨fun q => ⟨by omega, ?_⟩, fun q => ⟨by omega, fun q2 => by omega, fun _ => ⟨by omega, fun I1 e => ⟨by omega, e1 Y lY rY (LAW_sp (by omega) lou (cp (by omega)) ex) I1 e⟩⟩⟩⟩
        rcases hmo with hmo | hmo
        · exact again Y lY rY hmo
        · have g := e1 Y lY rY (LAW_sp (by omega) lou (cp (Or.inr hmo)) ex)
          refine bk_X5_judged_68 tA.1.1 tB.1.1 ?_
          rw [Int.toNat_natCast]
          exact ⟨fun _ => ⟨by omega, fun q => by omega, fun _ => ⟨by omega, fun I1 e => ⟨by omega, g I1 e⟩⟩⟩, fun q => by omega⟩
  exact scan 1 I (Or.inl rfl) (LFr_rfl I) hR (fun Y lY rY _ => scan 1201 Y (Or.inr rfl) lY rY (fun Z lZ rZ q => by omega))
theorem c5_judged {a b : Nat} {x y : Nat} (hk : KNW I cs) (ab : a < b) (b1 : (b : Int) < I 518 6) (x1 : x ≤ 3 * (rts I a).length) (y1 : y ≤ 3 * (rts I b).length) (h : ∀ (Y : HI) (l : Int), JFr I Y → KNW Y cs → ((l = 1 ∧ LAW I a b (chw I cs a x) (chw I cs b y)) ∨ (l = 0 ∧ ¬ LAW I a b (chw I cs a x) (chw I cs b y))) → KI l Y) : CI mX5_judged (d + 6) [vR 69, vI (a : Int), vI (x : Int), vI (b : Int), vI (y : Int)] I KI := by
  obtain ⟨hw, hr, hS, hF, hR⟩ := id hk
  have hT := hw.1
  have n6 := hT.1.2.2.1
  have rla := rts_len (I := I) (a : Int)
  have rlb := rts_len (I := I) (b : Int)
  have pn := prN_rng ab (by omega)
  have ep : (prW (a : Int) (b : Int) * 61 + (x : Int)).toNat = prN a b * 61 + x := by omega
  have epI : prW (a : Int) (b : Int) * 61 + (x : Int) = ((prN a b * 61 + x : Nat) : Int) := by omega
  have bk : ∀ v : Int, lA v (lSl 1 (y : Int)) = 0 ↔ lb v y = false := fun v => by
    have := lA_p2 (v := v) (y := (y : Int)) (by omega) (by omega)
    rw [Int.toNat_natCast] at this
    exact this
  refine bk_X5_judged_0 (c10_pairOf (by omega) (by omega) (by omega) ?_)
  rw [ep]
  refine ⟨by omega, by omega, by omega, fun q => ⟨by omega, fun q2 => PI_i ?_, fun q2 => PI_i ?_⟩, fun q => ⟨by omega, by omega, fun I2 e2 => ?_⟩⟩
  · have kn : lb (I 75 (prN a b * 61 + x)) y = true := by
      cases e : lb (I 75 (prN a b * 61 + x)) y
      · exact absurd ((bk _).mpr e) q
      · rfl
    refine h I 0 (JFr_rfl I) hk (Or.inr ⟨rfl, fun z => ?_⟩)
    have := (hF a b ab b1 x y x1 y1 (fun z => z.elim) kn).mpr z
    rw [(bk _).mp q2] at this
    cases this
  · have kn : lb (I 75 (prN a b * 61 + x)) y = true := by
      cases e : lb (I 75 (prN a b * 61 + x)) y
      · exact absurd ((bk _).mpr e) q
      · rfl
    refine h I 1 (JFr_rfl I) hk (Or.inl ⟨rfl, (hF a b ab b1 x y x1 y1 (fun z => z.elim) kn).mp ?_⟩)
    cases e : lb (I 76 (prN a b * 61 + x)) y
    · exact absurd ((bk _).mpr e) q2
    · rfl
  · have nk := (bk _).mp q
    have nf : lb (I 76 (prN a b * 61 + x)) y = false := by
      cases e : lb (I 76 (prN a b * 61 + x)) y
      · rfl
      · rw [hS _ (by omega) y (by omega) e] at nk
        cases nk
    have f2 : ∀ k, k ≠ 75 → I2 k = I k := fun k hk => by rw [e2, up_k hk]
    have c2 : CF I I2 := ⟨fun k hk => f2 k (by omega), by rw [f2 489 (by decide)]⟩
    have sh2 : I2 489 63 = I 489 63 := by rw [f2 489 (by decide)]
    have on2 : I2 489 64 = I 489 64 := by rw [f2 489 (by decide)]
    have j2 : JFr I I2 := ⟨fun k _ h5 _ => f2 k h5, fun j _ => by rw [f2 62 (by decide)]⟩
    have n518 := c2.1 518 (by omega)
    refine c5_trackOf (by omega) (by omega) (c5_trackOf (by omega) (by omega) ?_)
    rw [epI]
    refine judge_m (cs := cs) (CWs_j hw j2) (RTs_j n6.2 hr j2) (RCu_fr hR (fun k k1 k2 => f2 k (by omega)) n518 (f2 524 (by decide)) (f2 526 (by decide)) (f2 527 (by decide))) ab (by rw [n518]; exact b1) (by rw [rts_fr c2 sh2]; exact x1) (by rw [rts_fr c2 sh2]; exact y1) (by omega) (by rw [f2 76 (by decide)]; exact nf) (fun Y l lY rY hl => ?_)
    rw [LAW_fr (CF_A c2 on2), chw_fr c2 sh2, chw_fr c2 sh2] at hl
    have jY : JFr I (up Y 76 (prN a b * 61 + x) (lO (Y 76 (prN a b * 61 + x)) (if l = 0 then 0 else lSl 1 (y : Int)))) := by
      refine JFr_tr j2 ⟨fun k k1 k2 k3 => by rw [up_k k3, lY.1 k k1], fun j hj => by rw [up_k (by decide), lY.2 j hj]⟩
    have cY := CF_j jY
    have shY : up Y 76 (prN a b * 61 + x) (lO (Y 76 (prN a b * 61 + x)) (if l = 0 then 0 else lSl 1 (y : Int))) 489 63 = I 489 63 := by rw [jY.1 489 (by omega) (by omega) (by omega)]
    have onY : up Y 76 (prN a b * 61 + x) (lO (Y 76 (prN a b * 61 + x)) (if l = 0 then 0 else lSl 1 (y : Int))) 489 64 = I 489 64 := by rw [jY.1 489 (by omega) (by omega) (by omega)]
    have y75 : ∀ j i, i < 64 → lb (up Y 76 (prN a b * 61 + x) (lO (Y 76 (prN a b * 61 + x)) (if l = 0 then 0 else lSl 1 (y : Int))) 75 j) i = (lb (I 75 j) i || (decide (j = prN a b * 61 + x) && decide (i = y))) := fun j i hi => by
      rw [up_k (by decide), lY.1 75 (by omega), e2]
      by_cases ej : j = prN a b * 61 + x
      · rw [ej, up_e, lb_O, lb_p2 (by omega) (by omega) hi, Int.toNat_natCast]
        simp
      · rw [up_j ej]
        simp [ej]
    have y76 : ∀ j i, i < 64 → lb (up Y 76 (prN a b * 61 + x) (lO (Y 76 (prN a b * 61 + x)) (if l = 0 then 0 else lSl 1 (y : Int))) 76 j) i = (lb (I 76 j) i || (decide (j = prN a b * 61 + x) && decide (i = y) && decide (l ≠ 0))) := fun j i hi => by
      by_cases ej : j = prN a b * 61 + x
      · rw [ej, up_e, lb_O, lY.1 76 (by omega), f2 76 (by decide)]
        by_cases el : l = 0
        · rw [if_pos el, lb_0]
          simp [el]
        · rw [if_neg el, lb_p2 (by omega) (by omega) hi, Int.toNat_natCast]
          simp [el]
      · rw [up_j ej, lY.1 76 (by omega), f2 76 (by decide)]
        simp [ej]
    refine h _ l jY ⟨CWs_j hw jY, RTs_j n6.2 hr jY, fun j hj i hi hb => ?_, fun a' b' ab' b1' x' y' x1' y1' _ hb => ?_, ?_⟩ hl
    · rw [y76 j i hi, Bool.or_eq_true] at hb
      rw [y75 j i hi, Bool.or_eq_true]
      rcases hb with hb | hb
      · exact Or.inl (hS j hj i hi hb)
      · simp only [Bool.and_eq_true] at hb ⊢
        exact Or.inr hb.1
    · rw [cY.1 518 (by omega)] at b1'
      rw [rts_fr cY shY] at x1' y1'
      have rla' := rts_len (I := I) (a' : Int)
      have rlb' := rts_len (I := I) (b' : Int)
      rw [LAW_fr (CF_A cY onY), chw_fr cY shY, chw_fr cY shY, y76 _ _ (by omega)]
      rw [y75 _ _ (by omega)] at hb
      by_cases eq : prN a' b' * 61 + x' = prN a b * 61 + x ∧ y' = y
      · obtain ⟨eq1, eq2⟩ := eq
        have pn' := prN_rng ab' (by omega)
        obtain ⟨ea, eb⟩ := prN_inj ab' (by omega) ab (by omega) (by omega)
        have ex : x' = x := by omega
        subst ea eb ex eq2
        rw [nf]
        rcases hl with ⟨l1, l2⟩ | ⟨l1, l2⟩
        · simp [l1, l2]
        · simp [l1, l2]
      · have e1 : (decide (prN a' b' * 61 + x' = prN a b * 61 + x) && decide (y' = y)) = false := by
          cases e : decide (prN a' b' * 61 + x' = prN a b * 61 + x) && decide (y' = y)
          · rfl
          · simp only [Bool.and_eq_true, decide_eq_true_eq] at e
            exact absurd e eq
        rw [e1, Bool.or_false] at hb
        rw [e1, Bool.false_and, Bool.or_false]
        exact hF a' b' ab' b1' x' y' x1' y1' (fun z => z.elim) hb
    · exact RCu_fr rY (fun k k1 k2 => by rw [up_k (by omega)]) (by rw [up_k (by decide)]) (by rw [up_k (by decide)]) (by rw [up_k (by decide)]) (by rw [up_k (by decide)])
end JG
