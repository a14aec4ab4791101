theorem exD_full {I : HI} (hc : CN I) (hp : CPa I) : ∀ (f : Nat) (p : List Int) (c : Int) (t : List Int), PK I p → t ∈ exD I f c (sn I 0 p) → PK I (p ++ t) ∧ sn I 0 (p ++ t) = parM I
  | 0, p, c, t, h, ht => by cases ht
  | f + 1, p, c, t, h, ht => by
    have n5 := hc.2.1
    unfold exD at ht
    by_cases e : sn I 0 p = parM I
    · rw [if_pos e] at ht
      rw [List.mem_singleton.mp ht, List.append_nil]
      exact ⟨h, e⟩
    · rw [if_neg e] at ht
      obtain ⟨y, u, y0, y1, y2, y3, rfl⟩ := exA_mem _ _ ht
      have snx : sn I 0 (p ++ [y]) = oO (sn I 0 p) (pb I y) := by rw [sn_app]; rfl
      have := exD_full hc hp f (p ++ [y]) y u (PK_snoc hp h (by omega) (by omega) (opn_spec.mp y2).2.2) (by rw [snx]; exact y3)
      rw [List.append_assoc] at this
      exact this
theorem rts_len {I : HI} (s : Int) : (rts I s).length ≤ 20 := by
  unfold rts
  rw [List.length_take]
  omega
theorem rts_mem {I : HI} (hT : CTY I) {s : Int} (s0 : 0 ≤ s) (s1 : s < I 518 6) {t : List Int} (ht : t ∈ rts I s) : okC I (hm I s) t ∧ t.length ≤ 9 ∧ (∀ x ∈ t, 0 ≤ x ∧ x < I 518 5) ∧ t.length + 1 = pop 16 (parM I).toNat := by
  have hc := hT.1
  have hp := hT.2.2.2.2.2.2.1
  have hr := hm_rng hT.2.1 s0 s1
  have hm' : t ∈ exD I 10 (hm I s) (pb I (hm I s)) := List.mem_of_mem_take ht
  have g := exD_ok hc 10 _ _ t hm'
  have e0 : sn I 0 [hm I s] = pb I (hm I s) := by
    show oO 0 (pb I (hm I s)) = _
    have g := pb_rng hp hr.1 hr.2
    rw [oO_or (by omega) (by omega) (by omega) (by omega)]
    simp
    omega
  have q := exD_full hc hp 10 [hm I s] (hm I s) t (PK_1 hp hr.1 hr.2) (by rw [e0]; exact hm')
  have w := (PK_le hc hp q.1).2.2.mpr q.2
  simp only [List.length_append, List.length_singleton] at w
  exact ⟨g.1, by omega, g.2.2, by omega⟩
/-- the codes of an option -/
def opc (I : HI) (s : Int) (o : Nat) : List Int := (if o % 3 = 0 then [] else [100 + 5 * ((o % 3 : Nat) : Int)]) ++ (rts I s).getD (o / 3) []
theorem opc_fr {I X : HI} (f : CF I X) (sh : X 489 63 = I 489 63) (s : Int) (o : Nat) : opc X s o = opc I s o := by
  unfold opc
  rw [rts_fr f sh]
theorem run_end {I : HI} {s : Int} (hT : CTY I) (s0 : 0 ≤ s) (s1 : s < I 518 6) : ∀ (cs : List Int) (c t : Int), okC I c cs → (∀ x ∈ cs, x ≤ 100) → endS t (runW I s c t cs) ≤ t + 45 * cs.length
  | [], c, t, h, hx => by simp [runW, endS]
  | x :: cs, c, t, h, hx => by
    have h100 := hx x List.mem_cons_self
    unfold okC at h
    rw [if_neg (by omega)] at h
    unfold runW
    rw [if_neg (by omega)]
    have lr := laneM_rng hT.1.2.2.2.1.1 h.1.2.2
    have mr := miM_rng hT.2.1 hT.2.2.1 s0 s1 lr.1 lr.2
    have := run_end hT s0 s1 cs x (t + miM I s (laneM I c x)) h.2 (fun y hy => hx y (List.mem_cons_of_mem _ hy))
    simp only [endS, List.length_cons]
    omega
theorem rts_get {I : HI} {s : Int} {r : Nat} (h : r < (rts I s).length) : (rts I s).getD r [] ∈ rts I s := by
  rw [List.getD_eq_getElem?_getD, List.getElem?_eq_getElem h]
  exact List.getElem_mem h
theorem opc_ok {I : HI} (hT : CTY I) {s : Int} (s0 : 0 ≤ s) (s1 : s < I 518 6) {o : Nat} (ho : o < 3 * (rts I s).length) : OkW I s (opc I s o) ∧ (opc I s o).length ≤ 10 := by
  have g := rts_mem hT s0 s1 (rts_get (I := I) (s := s) (r := o / 3) (by omega))
  have n5 := hT.1.2.1
  have h100 : ∀ x ∈ (rts I s).getD (o / 3) [], x ≤ 100 := fun x hx => by
    have := g.2.2.1 x hx
    omega
  unfold opc
  by_cases e : o % 3 = 0
  · rw [if_pos e, List.nil_append]
    have := run_end hT s0 s1 _ (hm I s) 0 g.1 h100
    exact ⟨⟨g.1, by omega, by unfold wy; omega⟩, by omega⟩
  · rw [if_neg e]
    have := run_end hT s0 s1 _ (hm I s) (5 * ((o % 3 : Nat) : Int)) g.1 h100
    have ll : ([100 + 5 * ((o % 3 : Nat) : Int)] ++ (rts I s).getD (o / 3) []).length ≤ 10 := by
      rw [List.length_append, List.length_singleton]
      omega
    refine ⟨⟨?_, by omega, ?_⟩, ll⟩
    · show (if 100 < 100 + 5 * ((o % 3 : Nat) : Int) then _ else _)
      rw [if_pos (by omega)]
      exact ⟨by omega, g.1⟩
    · show endS 0 (runW I s (hm I s) 0 ((100 + 5 * ((o % 3 : Nat) : Int)) :: (rts I s).getD (o / 3) [])) ≤ 999
      unfold runW
      rw [if_pos (by omega)]
      simp only [endS]
      rw [show (0 : Int) + (100 + 5 * ((o % 3 : Nat) : Int) - 100) = 5 * ((o % 3 : Nat) : Int) from by omega]
      omega
/-- one way of the model changes -/
def WF (w : Nat) (I X : HI) : Prop := (∀ k, (k < 532 ∨ 535 < k) → X k = I k) ∧ (∀ j, j ≠ w → X 532 j = I 532 j) ∧ (∀ j, (j < 24 * w ∨ 24 * w + 24 ≤ j) → X 533 j = I 533 j ∧ X 534 j = I 534 j ∧ X 535 j = I 535 j)
theorem WF_rfl (w : Nat) (I : HI) : WF w I I := ⟨fun _ _ => rfl, fun _ _ => rfl, fun _ _ => ⟨rfl, rfl, rfl⟩⟩
theorem WF_tr {w : Nat} {I X Y : HI} (h : WF w I X) (g : WF w X Y) : WF w I Y := by
  refine ⟨fun k hk => by rw [g.1 k hk, h.1 k hk], fun j hj => by rw [g.2.1 j hj, h.2.1 j hj], fun j hj => ?_⟩
  obtain ⟨a1, a2, a3⟩ := g.2.2 j hj
  obtain ⟨b1, b2, b3⟩ := h.2.2 j hj
  exact ⟨a1.trans b1, a2.trans b2, a3.trans b3⟩
theorem CF_w {w : Nat} {I X : HI} (h : WF w I X) : CF I X := ⟨fun k hk => h.1 k (by omega), by rw [h.1 489 (by omega)]⟩
theorem WF_trd {w n : Nat} {I : HI} {y : Sp} (hn : n < 24) : WF w I (trd I w n y) := ⟨fun k hk => trd_f hk, fun j hj => trd_532 hj, fun j hj => trd_533 (by omega)⟩
theorem SL_wf {w : Nat} {w' : Int} {I X : HI} {W : List Sp} (h : WF w I X) (h0 : 0 ≤ w') (hn : w'.toNat ≠ w) (hl : W.length ≤ 24) (g : SL I w' 0 W) : SL X w' 0 W := by
  rw [SL_EW h0] at g ⊢
  exact EW_cp g hl (h.2.1 _ hn) (fun k hk => h.2.2 _ (by omega))
section MO
variable {d : Nat} {I : HI} {K : HI → Prop} {KI : Int → HI → Prop} {K2 : Int → Int → HI → Prop} {cs : Int → List Int} {H : List Sn}
theorem mopt_k {s r al : Nat} {dd : Int} {w : Nat} {X0 : HI} {pre t : List Int} (hT : CTY I) (s1 : (s : Int) < I 518 6) (r20 : r < 20) (w0 : 4 ≤ w) (w1 : w < 244) (ew : sof (w : Int) = s) (hal : al = t.length + 1) (t9 : t.length ≤ 9) (fX : CF I X0) (ok : OkW I s (pre ++ t)) (pl : pre.length ≤ 1) (h100 : ∀ x ∈ t, x ≤ 100) (hr : ∀ (i : Nat) (x : Int), t[i]? = some x → X0 547 (200 * s + 10 * r + 1 + i) = x) (h : ∀ Y : HI, WF w X0 Y → SL Y w 0 (wy I s (pre ++ t)) → J none mX11_optionsOf (d + 5) 0 0 28 [(0, vR 489), (1, vI (s : Int)), (2, vI (al : Int)), (3, vI (r : Int)), (4, vI (dd + 1))] [] (mk Y) (PV K)) (dr : 0 ≤ dd ∧ dd < 3) : ∀ (q2 q1 : List Int) (X : HI), t = q1 ++ q2 → WF w X0 X → SL X w 0 (wy I s (pre ++ q1)) → J none mX11_optionsOf (d + 5) 0 0 78 [(0, vR 489), (1, vI (s : Int)), (2, vI (al : Int)), (3, vI (r : Int)), (4, vI dd), (5, vI (w : Int)), (6, vI ((q1.length : Int) + 1))] [] (mk X) (PV K)
  | [], q1, X, e, wX, sX => by
    rw [List.append_nil] at e
    refine bk_X11_optionsOf_78 ⟨fun _ => ⟨by omega, h X wX (by rw [e]; exact sX)⟩, fun q => ?_⟩
    rw [hal, e] at q
    omega
  | x :: q2, q1, X, e, wX, sX => by
    have n6 := hT.1.2.2.1
    have n5 := hT.1.2.1
    have n7 := hT.1.2.2.2.1
    have hl : t.length = q1.length + (q2.length + 1) := by rw [e]; simp
    have hx : t[q1.length]? = some x := by rw [e]; simp
    have ex := hr _ _ hx
    have x100 := h100 x (List.mem_of_getElem? hx)
    have cX : CF I X := CF_tr fX (CF_w wX)
    have hX := CTY_fr hT cX
    obtain ⟨o1, o2, o3, o4, o5, o6⟩ := ok_mid (c1 := pre ++ q1) (c2 := q2) (x := x) hT.1 hT.2.1 hT.2.2.1 (s := (s : Int)) (by omega) s1 (by rw [e] at ok; rw [List.append_assoc]; exact ok)
    rw [if_neg (by omega)] at o6
    have wl := wy_len I (s : Int) (pre ++ q1)
    have wll : (wy I (s : Int) (pre ++ q1)).length < 24 := by omega
    refine bk_X11_optionsOf_78 ⟨fun q => by omega, fun _ => ?_⟩
    have ei : ((200 * (s : Int) + 10 * (r : Int)) + ((q1.length : Int) + 1)).toNat = 200 * s + 10 * r + 1 + q1.length := by omega
    rw [ei, wX.1 547 (by omega), ex]
    refine ⟨by omega, by omega, by omega, by omega, by omega, ?_⟩
    refine c11_endsAt (by omega) (by omega) sX (by omega) ?_
    rw [ew, hm_cf cX]
    refine c11_laneOf hX.1.2.2.2.1.1 hX.1.2.2.2.1.2 ?_
    rw [laneM_fr (cX.1 518 (by omega)) (cX.1 521 (by omega))]
    have lr := laneM_rng n7.1 o6.2.2
    have mr := miM_rng hT.2.1 hT.2.2.1 (s := (s : Int)) (by omega) s1 lr.1 lr.2
    have mf : ∀ l, miM X (s : Int) l = miM I (s : Int) l := fun l => miM_fr (cX.1 521 (by omega)) (cX.1 522 (by omega)) _ _
    refine c11_longOf (by omega) (by omega) lr.1 (by omega) (by rw [mf]; omega) ?_
    rw [mf]
    refine c11_treads (by omega) (by omega) sX wll (by omega) (by omega) ⟨by omega, ?_⟩
    have sn' := SL_trd (y := (x, laneM I (lastS (hm I (s : Int)) (wy I (s : Int) (pre ++ q1))) x, endS 0 (wy I (s : Int) (pre ++ q1)) + miM I (s : Int) (laneM I (lastS (hm I (s : Int)) (wy I (s : Int) (pre ++ q1))) x))) (w := (w : Int)) (by omega) sX
    rw [Int.toNat_natCast] at sn' ⊢
    have := mopt_k hT s1 r20 w0 w1 ew hal t9 fX ok pl h100 hr h dr q2 (q1 ++ [x]) _ (by rw [e]; simp) (WF_tr wX (WF_trd (w := w) wll)) (by
      rw [← List.append_assoc, wy_snoc, if_neg (by omega)]
      exact sn')
    rw [List.length_append, List.length_singleton] at this
    exact this
def MOs (I Y : HI) (s : Nat) : Prop := Y 546 s = (rts I s).length ∧ ∀ o : Nat, o < 3 * (rts I s).length → SL Y ((4 + 60 * s + o : Nat) : Int) 0 (wy I s (opc I s o))
def OFs1 (s : Nat) (I X : HI) : Prop := (∀ k, (k < 532 ∨ 535 < k) → k ≠ 546 → k ≠ 547 → k ≠ 548 → X k = I k) ∧ (∀ j, j ≠ s → X 546 j = I 546 j) ∧ (∀ j, (j < 4 + 60 * s ∨ 4 + 60 * s + 60 ≤ j) → X 532 j = I 532 j) ∧ (∀ j, (j < 24 * (4 + 60 * s) ∨ 24 * (4 + 60 * s + 60) ≤ j) → X 533 j = I 533 j ∧ X 534 j = I 534 j ∧ X 535 j = I 535 j)
theorem CF_o1 {s : Nat} {I X : HI} (h : OFs1 s I X) : CF I X := ⟨fun k hk => h.1 k (by omega) (by omega) (by omega) (by omega), by rw [h.1 489 (by omega) (by omega) (by omega) (by omega)]⟩
theorem OFs1_w {s w : Nat} {I X Y : HI} (h : OFs1 s I X) (g : WF w X Y) (w0 : 4 + 60 * s ≤ w) (w1 : w < 4 + 60 * s + 60) : OFs1 s I Y := by
  refine ⟨fun k h1 h2 h3 h4 => by rw [g.1 k h1, h.1 k h1 h2 h3 h4], fun j hj => by rw [g.1 546 (by omega), h.2.1 j hj], fun j hj => by rw [g.2.1 j (by omega), h.2.2.1 j hj], fun j hj => ?_⟩
  obtain ⟨a1, a2, a3⟩ := g.2.2 j (by omega)
  obtain ⟨b1, b2, b3⟩ := h.2.2.2 j hj
  exact ⟨a1.trans b1, a2.trans b2, a3.trans b3⟩
theorem c11_optionsOf {s : Nat} (hT : CTY I) (hsh : 0 ≤ I 489 63 ∧ I 489 63 < 65536) (s1 : (s : Int) < I 518 6) (h : ∀ Y : HI, OFs1 s I Y → MOs I Y s → K Y) : CV mX11_optionsOf (d + 5) [vR 489, vI (s : Int)] I K := by
  have hc := hT.1
  have hp := hT.2.2.2.2.2.2.1
  have n6 := hc.2.2.1
  have rl := rts_len (I := I) (s : Int)
  refine bk_X11_optionsOf_0 (c11_routesOf hT hsh s1 (fun X1 f1 m1 => ?_))
  have hX1 := CTY_fr hT (CF_r f1)
  have rp := parM_rng hX1.1 hX1.2.2.2.2.2.2.1
  have pme : parM X1 = parM I := by
    unfold parM
    rw [(CF_r f1).1 518 (by omega), (CF_r f1).1 520 (by omega)]
  refine c11_parishes hX1.1 (c11_bits rp.1 (by omega) ?_)
  rw [pme]
  have ml : (rtM I (s : Int)).length = (rts I (s : Int)).length := by
    unfold rtM
    rw [List.length_map]
  have mel : ∀ (r : Nat) (i : Nat) (x : Int), r < (rts I (s : Int)).length → ((rts I (s : Int)).getD r [])[i]? = some x → X1 547 (200 * s + 10 * r + 1 + i) = x := fun r i x hr hx => by
    have := m1.2 r (hm I (s : Int) :: (rts I (s : Int)).getD r []) (by
      unfold rtM
      rw [List.getElem?_map, List.getD_eq_getElem?_getD, List.getElem?_eq_getElem hr]
      rfl) (i + 1) x (by rw [List.getElem?_cons_succ]; exact hx)
    rw [← this]
    congr 1
    omega
  have inner : ∀ (r : Nat), r < (rts I (s : Int)).length → (∀ Y : HI, OFs1 s I Y → Y 546 = X1 546 → Y 547 = X1 547 → (∀ o : Nat, o < 3 * (r + 1) → SL Y ((4 + 60 * s + o : Nat) : Int) 0 (wy I s (opc I s o))) → J none mX11_optionsOf (d + 5) 0 0 15 [(0, vR 489), (1, vI (s : Int)), (2, vI ((pop 16 (parM I).toNat : Nat) : Int)), (3, vI ((r : Int) + 1))] [] (mk Y) (PV K)) → ∀ (n dd : Nat) (X : HI), dd + n = 3 → OFs1 s I X → X 546 = X1 546 → X 547 = X1 547 → (∀ o : Nat, o < 3 * r + dd → SL X ((4 + 60 * s + o : Nat) : Int) 0 (wy I s (opc I s o))) → J none mX11_optionsOf (d + 5) 0 0 28 [(0, vR 489), (1, vI (s : Int)), (2, vI ((pop 16 (parM I).toNat : Nat) : Int)), (3, vI (r : Int)), (4, vI (dd : Int))] [] (mk X) (PV K) := by
    intro r hr hcont n
    have tm := rts_mem hT (s := (s : Int)) (by omega) s1 (rts_get hr)
    induction n with
    | zero =>
      intro dd X e oX e6 e7 hd
      refine bk_X11_optionsOf_28 ⟨fun _ => ⟨by omega, hcont X oX e6 e7 (fun o ho => hd o (by omega))⟩, fun q => by omega⟩
    | succ n ih =>
      intro dd X e oX e6 e7 hd
      have ho : 3 * r + dd < 3 * (rts I (s : Int)).length := by omega
      have od : (3 * r + dd) / 3 = r := by omega
      have om : (3 * r + dd) % 3 = dd := by omega
      have ok := opc_ok hT (s := (s : Int)) (by omega) s1 ho
      have sofw : sof ((4 + 60 * s + (3 * r + dd) : Nat) : Int) = (s : Int) := by
        unfold sof
        rw [if_neg (by omega)]
        omega
      refine bk_X11_optionsOf_28 ⟨fun q => by omega, fun _ => ⟨by omega, by omega, ?_⟩⟩
      refine bk_X11_wayOf_0 ⟨by omega, by omega, by omega, PI_i ?_⟩
      have wn : (4 + 60 * (s : Int) + (3 * (r : Int) + (dd : Int))) = ((4 + 60 * s + (3 * r + dd) : Nat) : Int) := by omega
      rw [wn]
      refine ⟨by omega, fun I2 e2 => ?_⟩
      rw [Int.toNat_natCast] at e2
      have w2 : WF (4 + 60 * s + (3 * r + dd)) X I2 := by
        rw [e2]
        exact ⟨fun k hk => up_k (by omega), fun j hj => up_j hj, fun j hj => ⟨by rw [up_k (by decide)], by rw [up_k (by decide)], by rw [up_k (by decide)]⟩⟩
      have c2 : CF I I2 := CF_tr (CF_o1 oX) (CF_w w2)
      have sl2 : SL I2 ((4 + 60 * s + (3 * r + dd) : Nat) : Int) 0 (wy I s []) := by
        show (0 : Int) = I2 532 _
        rw [Int.toNat_natCast, e2, up_e]
      have opce : opc I (s : Int) (3 * r + dd) = (if dd = 0 then [] else [100 + 5 * (dd : Int)]) ++ (rts I (s : Int)).getD r [] := by
        unfold opc
        rw [od, om]
      have fin : ∀ (X3 : HI) (pre : List Int), opc I (s : Int) (3 * r + dd) = pre ++ (rts I (s : Int)).getD r [] → pre.length ≤ 1 → WF (4 + 60 * s + (3 * r + dd)) X X3 → SL X3 ((4 + 60 * s + (3 * r + dd) : Nat) : Int) 0 (wy I s pre) → J none mX11_optionsOf (d + 5) 0 0 78 [(0, vR 489), (1, vI (s : Int)), (2, vI ((pop 16 (parM I).toNat : Nat) : Int)), (3, vI (r : Int)), (4, vI (dd : Int)), (5, vI ((4 + 60 * s + (3 * r + dd) : Nat) : Int)), (6, vI 1)] [] (mk X3) (PV K) := by
        intro X3 pre ep pl w3 sl3
        have := mopt_k (d := d) (K := K) (s := s) (r := r) (w := 4 + 60 * s + (3 * r + dd)) (al := pop 16 (parM I).toNat) (dd := (dd : Int)) (X0 := X3) (pre := pre) (t := (rts I (s : Int)).getD r []) hT s1 (by omega) (by omega) (by omega) sofw (by omega) tm.2.1 (CF_tr (CF_o1 oX) (CF_w w3)) (by rw [← ep]; exact ok.1) pl (fun x hx => by have := tm.2.2.1 x hx; have := hc.2.1; omega) (fun i x hx => by rw [w3.1 547 (by omega), e7]; exact mel r i x hr hx) (fun Y wY sY => ?_) (by omega) ((rts I (s : Int)).getD r []) [] X3 rfl (WF_rfl _ _) (by rw [List.append_nil]; exact sl3)
        · exact this
        · have w4 := WF_tr w3 wY
          refine ih (dd + 1) Y (by omega) (OFs1_w oX w4 (by omega) (by omega)) (by rw [w4.1 546 (by omega), e6]) (by rw [w4.1 547 (by omega), e7]) (fun o ho' => ?_)
          by_cases eo : o = 3 * r + dd
          · rw [eo, ep]
            exact sY
          · have oko := opc_ok hT (s := (s : Int)) (by omega) s1 (o := o) (by omega)
            refine SL_wf w4 (by omega) (by omega) (by rw [wy_len]; omega) (hd o (by omega))
      refine ⟨fun q => ?_, fun q => ?_⟩
      · obtain rfl : dd = 0 := by omega
        rw [if_pos rfl] at opce
        exact fin I2 [] opce (by simp) w2 sl2
      · rw [if_neg (by omega)] at opce
        refine c11_homeOf (by omega) (by omega) ⟨by omega, ?_⟩
        refine c11_treads (by omega) (by omega) sl2 (by rw [wy_nil]; simp) (by rw [wy_nil]; simp [endS]) (by omega) ?_
        have sn' := SL_trd (y := (hm I2 (s : Int), -1, endS 0 (wy I s []) + 5 * (dd : Int))) (w := ((4 + 60 * s + (3 * r + dd) : Nat) : Int)) (by omega) sl2
        rw [Int.toNat_natCast] at sn' ⊢
        refine fin _ [100 + 5 * (dd : Int)] opce (by simp) (WF_tr w2 (WF_trd (by rw [wy_nil]; simp))) ?_
        have ew : wy I (s : Int) [100 + 5 * (dd : Int)] = wy I s [] ++ [(hm I2 (s : Int), -1, endS 0 (wy I s []) + 5 * (dd : Int))] := by
          rw [hm_cf c2]
          show runW I s (hm I s) 0 [100 + 5 * (dd : Int)] = _
          unfold runW
          rw [if_pos (by omega)]
          simp [wy, runW, endS]
          omega
        rw [ew]
        exact sn'
  have outer : ∀ (n r : Nat) (X : HI), r + n = (rts I (s : Int)).length → OFs1 s I X → X 546 = X1 546 → X 547 = X1 547 → (∀ o : Nat, o < 3 * r → SL X ((4 + 60 * s + o : Nat) : Int) 0 (wy I s (opc I s o))) → J none mX11_optionsOf (d + 5) 0 0 15 [(0, vR 489), (1, vI (s : Int)), (2, vI ((pop 16 (parM I).toNat : Nat) : Int)), (3, vI (r : Int))] [] (mk X) (PV K) := by
    intro n
    induction n with
    | zero =>
      intro r X e oX e6 e7 hd
      refine bk_X11_optionsOf_15 ?_
      rw [Int.toNat_natCast, e6, m1.1, ml]
      refine ⟨by omega, fun _ => PV_i (h X oX ⟨by rw [e6, m1.1, ml], fun o ho => hd o (by omega)⟩), fun q => by omega⟩
    | succ n ih =>
      intro r X e oX e6 e7 hd
      refine bk_X11_optionsOf_15 ?_
      rw [Int.toNat_natCast, e6, m1.1, ml]
      refine ⟨by omega, fun q => by omega, fun _ => ?_⟩
      exact inner r (by omega) (fun Y oY y6 y7 hy => ih (r + 1) Y (by omega) oY y6 y7 hy) 3 0 X rfl oX e6 e7 (fun o ho => hd o (by omega))
  exact outer (rts I (s : Int)).length 0 X1 (by omega) ⟨fun k h1 h2 h3 h4 => f1.1 k h2 h3 h4, f1.2.1, fun j _ => by rw [f1.1 532 (by decide) (by decide) (by decide)], fun j _ => ⟨by rw [f1.1 533 (by decide) (by decide) (by decide)], by rw [f1.1 534 (by decide) (by decide) (by decide)], by rw [f1.1 535 (by decide) (by decide) (by decide)]⟩⟩ rfl rfl (fun o ho => by omega)
end MO
