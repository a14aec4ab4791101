def MD2 (I : HI) (cs : Int → List Int) : Prop := MWs I cs ∧ (∀ s : Nat, (s : Int) < I 518 6 → MOs I I s) ∧ (0 ≤ I 489 64 ∧ I 489 64 < 64) ∧ (0 ≤ I 489 63 ∧ I 489 63 < 65536)
def TFm (I X : HI) : Prop := (∀ k, k ≠ 489 → k ≠ 529 → k ≠ 530 → (k < 532 ∨ 535 < k) → X k = I k) ∧ (∀ j, j ≠ 56 → X 489 j = I 489 j)
theorem TFm_rfl (I : HI) : TFm I I := ⟨fun _ _ _ _ _ => rfl, fun _ _ => rfl⟩
theorem TFm_tr {I X Y : HI} (h : TFm I X) (g : TFm X Y) : TFm I Y := ⟨fun k h1 h2 h3 h4 => by rw [g.1 k h1 h2 h3 h4, h.1 k h1 h2 h3 h4], fun j hj => by rw [g.2 j hj, h.2 j hj]⟩
theorem TFm_x {I X : HI} (h : XFr I X) : TFm I X := ⟨fun k h1 h2 h3 _ => h.1 k h1 h2 h3, h.2⟩
theorem TFm_w {s : Nat} {I X : HI} (h : WF s I X) : TFm I X := ⟨fun k _ _ _ h4 => h.1 k h4, fun j _ => by rw [h.1 489 (by omega)]⟩
theorem CF_tf {I X : HI} (h : TFm I X) : CF I X := ⟨fun k hk => h.1 k (by omega) (by omega) (by omega) (by omega), h.2 44 (by decide)⟩
section TU
variable {d : Nat} {I : HI} {K : HI → Prop} {KI : Int → HI → Prop} {K2 : Int → Int → HI → Prop} {cs : Int → List Int} {H : List Sn}
theorem mway2 (h : MD2 I cs) {s x : Nat} (s1 : (s : Int) < I 518 6) (x1 : x ≤ 3 * (rts I s).length) : SL I (wN s x : Int) 0 (chw I cs s x) ∧ SW I s (chw I cs s x) ∧ wN s x < 244 ∧ sof (wN s x : Int) = s := by
  have hT := h.1.1
  have n6 := hT.1.2.2.1
  have rl := rts_len (I := I) (s : Int)
  have wr := wN_rng (s := s) (x := x) (by omega) (by omega)
  by_cases e : x = 0
  · subst e
    refine ⟨?_, SW_of hT.1 hT.2.1 hT.2.2.1 (by omega) s1 (h.1.2.2 s (by omega) s1), wr⟩
    exact h.1.2.1 (s : Int) (by omega) s1
  · have ec : chw I cs s x = wy I s (opc I s (x - 1)) := by
      unfold chw chc
      rw [if_neg e]
    have ew : (wN s x : Int) = ((4 + 60 * s + (x - 1) : Nat) : Int) := by
      unfold wN
      rw [if_neg e]
    rw [ec, ew]
    refine ⟨(h.2.1 s s1).2 (x - 1) (by omega), SW_of hT.1 hT.2.1 hT.2.2.1 (by omega) s1 (opc_ok hT (by omega) s1 (by omega)).1, by have := wr.1; omega, by rw [← ew]; exact wr.2⟩
theorem MD2_x {X : HI} (h : MD2 I cs) (f : XFr I X) : MD2 X cs := by
  obtain ⟨h1, h2, h3, h4⟩ := h
  refine ⟨MWs_x h1 f, fun s s1 => ?_, by rw [f.2 64 (by decide)]; exact h3, by rw [f.2 63 (by decide)]; exact h4⟩
  rw [(CF_x f).1 518 (by omega)] at s1
  exact MOs_fr (h2 s s1) (CF_x f) (f.2 63 (by decide)) (f.1 546 (by decide) (by decide) (by decide)) (fun k k1 k2 => f.1 k (by omega) (by omega) (by omega))
theorem alone_lp {s x : Nat} (h : MD2 I cs) (s1 : (s : Int) < I 518 6) (x1 : x ≤ 3 * (rts I s).length) (k1 : ∀ Y : HI, XFr I Y → ALN I cs s x → KI 1 Y) (k0 : ∀ Y : HI, XFr I Y → ¬ ALN I cs s x → KI 0 Y) : ∀ (m t : Nat) (X : HI), (t : Int) + m = I 518 6 → XFr I X → (∀ u : Nat, u < t → u ≠ s → LW I cs s x u 0) → J none mX11_isAlone (d + 7) 0 0 2 [(0, vR 489), (1, vI (wN s x : Int)), (2, vI (s : Int)), (3, vI (t : Int))] [] (mk X) (PI KI)
  | 0, t, X, e, xX, hd => by
    refine bk_X11_isAlone_2 (c11_saintMany ?_)
    rw [(XFr_A xX).1]
    exact ⟨fun _ => PI_i (k1 X xX (fun u u1 un => hd u (by omega) un)), fun q => by omega⟩
  | m + 1, t, X, e, xX, hd => by
    have n6 := h.1.1.1.2.2.1
    have ih := fun Y => alone_lp h s1 x1 k1 k0 m (t + 1) Y
    have A := XFr_A xX
    have hX := MD2_x h xX
    have sX : rts X s = rts I s := rts_fr (CF_x xX) (xX.2 63 (by decide)) s
    have cX := CF_x xX
    refine bk_X11_isAlone_2 (c11_saintMany ?_)
    rw [A.1]
    refine ⟨fun q => by omega, fun _ => ⟨fun q => ⟨by omega, ?_⟩, fun q => ?_⟩⟩
    · have := ih X (by omega) xX (fun u hu un => by
        by_cases eu : u = t
        · omega
        · exact hd u (by omega) un)
      exact this
    · obtain ⟨w1, w2, w3, w4⟩ := mway2 hX (s := s) (x := x) (by rw [A.1]; exact s1) (by rw [sX]; exact x1)
      obtain ⟨v1, v2, v3, v4⟩ := mway2 hX (s := t) (x := 0) (by rw [A.1]; omega) (Nat.zero_le _)
      have e0 : wN t 0 = t := rfl
      rw [e0] at v1 v3 v4
      have lw : LAW X s t (chw X cs s x) (chw X cs t 0) ↔ LW I cs s x t 0 := LW_fr cX (xX.2 63 (by decide)) (xX.2 64 (by decide)) cs s x t 0
      refine c11_areLawful hX.1.1 hX.2.2.1.1 hX.2.2.1.2 (by omega) (by omega) (by omega) (by omega) w4 v4 (by rw [A.1]; exact s1) (by rw [A.1]; omega) w1 v1 w2 v2 (fun Y xY ne => ⟨fun z => absurd rfl z, fun _ => PI_i (k0 Y (XFr_tr xX xY) (fun w => ne (lw.mpr (w t (by omega) (by omega)))))⟩) (fun Y xY yes => ⟨fun _ => ⟨by omega, ?_⟩, fun z => by omega⟩)
      have := ih Y (by omega) (XFr_tr xX xY) (fun u hu un => by
        by_cases eu : u = t
        · subst eu
          exact lw.mp yes
        · exact hd u (by omega) un)
      exact this
theorem c11_isAlone {s x : Nat} {w : Int} (ew : w = (wN s x : Int)) (h : MD2 I cs) (s1 : (s : Int) < I 518 6) (x1 : x ≤ 3 * (rts I s).length) (k1 : ∀ Y : HI, XFr I Y → ALN I cs s x → KI 1 Y) (k0 : ∀ Y : HI, XFr I Y → ¬ ALN I cs s x → KI 0 Y) : CI mX11_isAlone (d + 7) [vR 489, vI w, vI (s : Int)] I KI := by
  have n6 := h.1.1.1.2.2.1
  rw [ew]
  exact bk_X11_isAlone_0 (alone_lp h s1 x1 k1 k0 (I 518 6).toNat 0 I (by omega) (XFr_rfl I) (fun u hu => by omega))
/-- the model's turn of one saint -/
theorem mturn_o {s : Nat} {a1 : Int} (h : MD2 I cs) (s1 : (s : Int) < I 518 6) (ar : 0 ≤ a1 ∧ a1 ≤ 4) (k : ∀ (Y : HI) (c : Int) (cs' : Int → List Int), TFm I Y → MD2 Y cs' → T1 I cs s cs' c → J none mX11_turn (d + 8) 0 0 12 [(0, vR 489), (1, vI (a1 + c)), (2, vI ((s : Int) + 1))] [] (mk Y) (PI KI)) : ∀ (m o : Nat) (a3 : Int) (X : HI), o + m = 3 * (rts I s).length → XFr I X → ((a3 = -1 ∧ NOB I cs s o) ∨ ∃ w : Nat, a3 = (wN s w : Int) ∧ BOP I cs s o w) → J none mX11_turn (d + 8) 0 0 25 [(0, vR 489), (1, vI a1), (2, vI (s : Int)), (3, vI a3), (4, vI (o : Int))] [] (mk X) (PI KI) := by
  have n6 := h.1.1.1.2.2.1
  have hT := h.1.1
  have rl := rts_len (I := I) (s : Int)
  intro m
  induction m with
  | zero =>
    intro o a3 X e xX hw
    have A := XFr_A xX
    have hX := MD2_x h xX
    have cX := CF_x xX
    have s1X : (s : Int) < X 518 6 := by rw [A.1]; exact s1
    have o46 : X 546 s = (rts I s).length := by
      have := (hX.2.1 s s1X).1
      rw [rts_fr cX (xX.2 63 (by decide))] at this
      exact this
    have stay : ∀ Z : HI, XFr I Z → (NOB I cs s (3 * (rts I s).length) ∨ ∃ w, BOP I cs s (3 * (rts I s).length) w ∧ ¬ TKC I cs s w) → J none mX11_turn (d + 8) 0 0 12 [(0, vR 489), (1, vI a1), (2, vI ((s : Int) + 1))] [] (mk Z) (PI KI) := fun Z xZ hz => by
      have := k Z 0 cs (TFm_x xZ) (MD2_x h xZ) (Or.inr ⟨rfl, rfl, hz⟩)
      rw [Int.add_zero] at this
      exact this
    refine bk_X11_turn_25 (bk_X11_optionMany_0 ?_)
    rw [Int.toNat_natCast, o46]
    refine ⟨by omega, by omega, PI_i ⟨fun _ => ?_, fun q => by omega⟩⟩
    rcases hw with ⟨e3, nb⟩ | ⟨w, e3, bw⟩
    · exact ⟨fun _ => ⟨by omega, stay X xX (Or.inl (by rw [show 3 * (rts I s).length = o from by omega]; exact nb))⟩, fun q => absurd e3 q⟩
    · have bw' : BOP I cs s (3 * (rts I s).length) w := by rw [show 3 * (rts I s).length = o from by omega]; exact bw
      have w1 := bw'.1
      have wr := wN_rng (s := s) (x := w) (by omega) (by omega)
      subst e3
      -- the way comes
      have move : ∀ Z : HI, XFr I Z → TKC I cs s w → CV mX11_comesTo (d + 7) [vR 489, vI (s : Int), vI (wN s w : Int)] Z (fun I4 => (-2147483648 ≤ a1 + 1 ∧ a1 + 1 ≤ 2147483647) ∧ (-2147483648 ≤ (s : Int) + 1 ∧ (s : Int) + 1 ≤ 2147483647) ∧ J none mX11_turn (d + 8) 0 0 12 [(0, vR 489), (1, vI (a1 + 1)), (2, vI ((s : Int) + 1))] [] (mk I4) (PI KI)) := fun Z xZ tk => by
        have hZ := MD2_x h xZ
        have cZ := CF_x xZ
        have s1Z : (s : Int) < Z 518 6 := by rw [cZ.1 518 (by omega)]; exact s1
        obtain ⟨g1, g2, g3, g4⟩ := mway2 hZ (s := s) (x := w) s1Z (by rw [rts_fr cZ (xZ.2 63 (by decide))]; exact w1.2)
        have okw := (opc_ok hT (s := (s : Int)) (by omega) s1 (o := w - 1) (by omega)).1
        have wge : 4 ≤ wN s w := by
          unfold wN
          rw [if_neg (by omega)]
          omega
        refine c11_comes2 (s := s) (w := wN s w) (by omega) wge g3 g1 g2.2.2.2.2 (fun Y fY sY => ⟨by omega, by omega, ?_⟩)
        have cY := CF_w fY
        have ec : chw Z cs s w = wy Z s (opc I s (w - 1)) := by
          unfold chw chc
          rw [if_neg (by omega), opc_fr cZ (xZ.2 63 (by decide))]
        rw [ec] at sY
        have e489 : Y 489 = Z 489 := fY.1 489 (by omega)
        have cIY := CF_tr cZ cY
        refine k Y 1 (uw cs s (opc I s (w - 1))) (TFm_tr (TFm_x xZ) (TFm_w fY)) ⟨⟨CTY_fr hT cIY, MoW_uw (w := 0) s1Z (by rw [cZ.1 518 (by omega)]; exact n6.2) hZ.1.2.1 (fun u u0 u1 => by rw [wy_len]; exact (hZ.1.2.2 u u0 u1).2.1) fY sY, fun u u0 u1 => ?_⟩, fun u u1 => ?_, by rw [e489]; exact hZ.2.2.1, by rw [e489]; exact hZ.2.2.2⟩ (Or.inl ⟨rfl, w, bw', tk, rfl⟩)
        · rw [cIY.1 518 (by omega)] at u1
          unfold uw
          refine OkW_fr (cIY.1 518 (by omega)) (cIY.1 521 (by omega)) (cIY.1 522 (by omega)) ?_
          split
          · rename_i eu
            rw [eu]
            exact okw
          · exact h.1.2.2 u u0 u1
        · rw [cY.1 518 (by omega)] at u1
          have := hZ.2.1 u u1
          have rlu := rts_len (I := Z) (u : Int)
          unfold MOs at this ⊢
          simp only [rts_fr cY (by rw [e489]), opc_fr cY (by rw [e489]), wy_cf cY]
          refine ⟨by rw [fY.1 546 (by omega)]; exact this.1, fun o ho => SL_wf fY (by omega) (by omega) (by rw [wy_len]; have := (opc_ok hZ.1.1 (s := (u : Int)) (by omega) u1 ho).2; omega) (this.2 o ho)⟩
      obtain ⟨g1, g2, g3, g4⟩ := mway2 hX (s := s) (x := w) s1X (by rw [rts_fr cX (xX.2 63 (by decide))]; exact w1.2)
      obtain ⟨v1, v2, v3, v4⟩ := mway2 hX (s := s) (x := 0) s1X (Nat.zero_le _)
      have e0 : wN s 0 = s := rfl
      rw [e0] at v1 v3 v4
      have chf : ∀ x, chw X cs s x = chw I cs s x := fun x => chw_fr cX (xX.2 63 (by decide)) cs s x
      refine ⟨fun q => by omega, fun _ => c11_endOf (by omega) (by omega) g1 g2.2.2.2.2 (c11_endOf (by omega) (by omega) v1 v2.2.2.2.2 ?_)⟩
      rw [chf, chf]
      have sl0 := SL_len _ _ v1
      rw [Int.toNat_natCast, chf] at sl0
      refine ⟨fun q => move X xX (Or.inl q), fun q => ⟨by omega, ?_⟩⟩
      rw [sl0]
      refine ⟨fun q2 => move X xX (Or.inr (Or.inl (List.length_eq_zero_iff.mp (by omega)))), fun q2 => ?_⟩
      have nn : chw I cs s 0 ≠ [] := fun z => by
        rw [z] at q2
        simp at q2
      have af : ∀ x, ALN X cs s x ↔ ALN I cs s x := fun x => ALN_fr cX (xX.2 63 (by decide)) (xX.2 64 (by decide)) s x
      refine c11_isAlone (x := 0) (by rw [e0]) hX s1X (Nat.zero_le _) (fun Y xY yes => ⟨fun q3 => by omega, fun _ => ?_⟩) (fun Y xY no => ⟨fun _ => move Y (XFr_tr xX xY) (Or.inr (Or.inr (Or.inr (fun z => no ((af 0).mpr z))))), fun q3 => absurd rfl q3⟩)
      have xIY := XFr_tr xX xY
      have hY := MD2_x h xIY
      have cIY := CF_x xIY
      have wf : WHL Y (wy Y s (cs s)) ↔ WHL I (wy I s (cs s)) := by rw [WHL_fr (xIY.2 63 (by decide)), wy_cf cIY]
      have sw := SW_of hY.1.1.1 hY.1.1.2.1 hY.1.1.2.2.1 (s := (s : Int)) (by omega) (by rw [cIY.1 518 (by omega)]; exact s1) (hY.1.2.2 s (by omega) (by rw [cIY.1 518 (by omega)]; exact s1))
      have lr : ∀ (W : List Sp) (c t : Int), okW c t W → ∀ x ∈ W, x.2.1 = -1 ∨ (0 ≤ x.2.1 ∧ x.2.1 < 16) := by
        intro W
        induction W with
        | nil => intro c t _ x hx; cases hx
        | cons y W ih =>
          intro c t ho x hx
          rcases List.mem_cons.mp hx with rfl | hx
          · exact ho.2.2.1
          · exact ih _ _ ho.2.2.2 x hx
      refine bk_X11_isWhole_0 ⟨by omega, ?_⟩
      have := whole_lp (d := d + 5) (KI := fun x8 I8 => ((x8 = 0 → CV mX11_comesTo (d + 7) [vR 489, vI (s : Int), vI (wN s w : Int)] I8 (fun I9 => (-2147483648 ≤ a1 + 1 ∧ a1 + 1 ≤ 2147483647) ∧ (-2147483648 ≤ (s : Int) + 1 ∧ (s : Int) + 1 ≤ 2147483647) ∧ J none mX11_turn (d + 8) 0 0 12 [(0, vR 489), (1, vI (a1 + 1)), (2, vI ((s : Int) + 1))] [] (mk I9) (PI KI))) ∧ (¬ (x8 = 0) → (-2147483648 ≤ (s : Int) + 1 ∧ (s : Int) + 1 ≤ 2147483647) ∧ J none mX11_turn (d + 8) 0 0 12 [(0, vR 489), (1, vI a1), (2, vI ((s : Int) + 1))] [] (mk I8) (PI KI)))) (w := (s : Int)) (by omega) (by omega) hY.2.2.2 (wy Y s (cs s)) 0 (hY.1.2.1 s (by omega) (by rw [cIY.1 518 (by omega)]; exact s1)) (by omega) (by have := sw.2.2.2.2; omega) (lr _ _ _ sw.1) (fun wh => ⟨fun q3 => by omega, fun _ => ⟨by omega, stay Y xIY (Or.inr ⟨w, bw', fun tk => ?_⟩)⟩⟩) (fun nw => ⟨fun _ => move Y xIY (Or.inr (Or.inr (Or.inl (fun z => nw (wf.mpr z))))), fun q3 => absurd rfl q3⟩)
      · rw [Int.add_zero] at this
        exact this
      · rcases tk with tk | tk | tk | tk
        · unfold eN at tk
          omega
        · exact nn tk
        · exact tk (wf.mp wh)
        · exact tk ((af 0).mp yes)
  | succ m ih =>
    intro o a3 X e xX hw
    have A := XFr_A xX
    have hX := MD2_x h xX
    have cX := CF_x xX
    have s1X : (s : Int) < X 518 6 := by rw [A.1]; exact s1
    have o46 : X 546 s = (rts I s).length := by
      have := (hX.2.1 s s1X).1
      rw [rts_fr cX (xX.2 63 (by decide))] at this
      exact this
    have wv : (4 + 60 * (s : Int) + (o : Int)) = (wN s (o + 1) : Int) := by
      unfold wN
      rw [if_neg (by omega)]
      omega
    have x1X : o + 1 ≤ 3 * (rts X s).length := by rw [rts_fr cX (xX.2 63 (by decide))]; omega
    have af : ∀ x, ALN X cs s x ↔ ALN I cs s x := fun x => ALN_fr cX (xX.2 63 (by decide)) (xX.2 64 (by decide)) s x
    have nxt : ∀ (a3' : Int) (Z : HI), XFr I Z → ((a3' = -1 ∧ NOB I cs s (o + 1)) ∨ ∃ w : Nat, a3' = (wN s w : Int) ∧ BOP I cs s (o + 1) w) → J none mX11_turn (d + 8) 0 0 25 [(0, vR 489), (1, vI a1), (2, vI (s : Int)), (3, vI a3'), (4, vI ((o : Int) + 1))] [] (mk Z) (PI KI) := fun a3' Z xZ hz => ih (o + 1) a3' Z (by omega) xZ hz
    refine bk_X11_turn_25 (bk_X11_optionMany_0 ?_)
    rw [Int.toNat_natCast, o46]
    refine ⟨by omega, by omega, PI_i ⟨fun q => by omega, fun _ => bk_X11_wayOf_0 ⟨by omega, by omega, by omega, PI_i ?_⟩⟩⟩
    rw [wv]
    rcases hw with ⟨e3, nb⟩ | ⟨w, e3, bw⟩
    · refine ⟨fun _ => c11_isAlone rfl hX s1X x1X (fun Y xY yes => ⟨fun q => by omega, fun _ => ⟨by omega, nxt _ Y (XFr_tr xX xY) (Or.inr ⟨o + 1, rfl, ⟨by omega, Nat.le_refl _⟩, (af _).mp yes, fun y y0 y1 ay => ?_⟩)⟩⟩) (fun Y xY no => ⟨fun _ => ⟨by omega, nxt _ Y (XFr_tr xX xY) (Or.inl ⟨e3, fun y y0 y1 => ?_⟩)⟩, fun q => absurd rfl q⟩), fun q => absurd e3 q⟩
      · by_cases ey : y = o + 1
        · rw [ey]; exact Or.inr ⟨rfl, Nat.le_refl _⟩
        · exact absurd ay (nb y y0 (by omega))
      · by_cases ey : y = o + 1
        · rw [ey]; exact fun z => no ((af _).mpr z)
        · exact nb y y0 (by omega)
    · have w1 := bw.1
      have wr := wN_rng (s := s) (x := w) (by omega) (by omega)
      subst e3
      obtain ⟨g1, g2, g3, g4⟩ := mway2 hX (s := s) (x := w) s1X (by rw [rts_fr cX (xX.2 63 (by decide))]; omega)
      obtain ⟨v1, v2, v3, v4⟩ := mway2 hX (s := s) (x := o + 1) s1X x1X
      have chf : ∀ x, chw X cs s x = chw I cs s x := fun x => chw_fr cX (xX.2 63 (by decide)) cs s x
      refine ⟨fun q => by omega, fun _ => c11_endOf (by omega) (by omega) v1 v2.2.2.2.2 (c11_endOf (by omega) (by omega) g1 g2.2.2.2.2 ?_)⟩
      rw [chf, chf]
      have keep : ∀ Z : HI, XFr I Z → (ALN I cs s (o + 1) → eN I cs s w ≤ eN I cs s (o + 1)) → J none mX11_turn (d + 8) 0 0 25 [(0, vR 489), (1, vI a1), (2, vI (s : Int)), (3, vI (wN s w : Int)), (4, vI ((o : Int) + 1))] [] (mk Z) (PI KI) := fun Z xZ hz => nxt _ Z xZ (Or.inr ⟨w, rfl, ⟨w1.1, by omega⟩, bw.2.1, fun y y0 y1 ay => by
        by_cases ey : y = o + 1
        · subst ey
          have := hz ay
          omega
        · exact bw.2.2 y y0 (by omega) ay⟩)
      refine ⟨fun q => ⟨by omega, keep X xX (fun _ => q)⟩, fun q => ?_⟩
      refine c11_isAlone rfl hX s1X x1X (fun Y xY yes => ⟨fun q => by omega, fun _ => ⟨by omega, nxt _ Y (XFr_tr xX xY) (Or.inr ⟨o + 1, rfl, ⟨by omega, Nat.le_refl _⟩, (af _).mp yes, fun y y0 y1 ay => ?_⟩)⟩⟩) (fun Y xY no => ⟨fun _ => ⟨by omega, keep Y (XFr_tr xX xY) (fun z => absurd ((af _).mpr z) no)⟩, fun q => absurd rfl q⟩)
      by_cases ey : y = o + 1
      · rw [ey]; exact Or.inr ⟨rfl, Nat.le_refl _⟩
      · have := bw.2.2 y y0 (by omega) ay
        left
        unfold eN at this ⊢
        omega
theorem mturn_s {n : Nat} (en : (n : Int) = I 518 6) (n4 : n ≤ 4) (h : MD2 I cs) (k : ∀ (Y : HI) (c : Int) (cs' : Int → List Int), TFm I Y → MD2 Y cs' → TCh I cs n cs' c → ((c ≤ 0 → PI KI (some (vI c)) (mk Y)) ∧ (¬ (c ≤ 0) → CV mX11_keepsAside (d + 7) [vR 489] Y (fun I2 => PI KI (some (vI c)) (mk I2))))) : ∀ (m i : Nat) (c : Int) (cs' : Int → List Int) (X : HI), i + m = n → TFm I X → MD2 X cs' → TCh I cs i cs' c → J none mX11_turn (d + 8) 0 0 12 [(0, vR 489), (1, vI c), (2, vI (i : Int))] [] (mk X) (PI KI)
  | 0, i, c, cs', X, e, tX, hX, hc => by
    refine bk_X11_turn_12 (c11_saintMany ?_)
    rw [(CF_tf tX).1 518 (by omega)]
    rw [show i = n from by omega] at hc
    exact ⟨fun _ => k X c cs' tX hX hc, fun q => by omega⟩
  | m + 1, i, c, cs', X, e, tX, hX, hc => by
    have cX := CF_tf tX
    have tr := TCh_r i cs' c hc
    refine bk_X11_turn_12 (c11_saintMany ?_)
    rw [cX.1 518 (by omega)]
    refine ⟨fun q => by omega, fun _ => ?_⟩
    refine mturn_o (s := i) (a1 := c) hX (by rw [cX.1 518 (by omega)]; omega) (by omega) (fun Y c' cs'' tY hY ht => ?_) (3 * (rts X i).length) 0 (-1) X (by omega) (XFr_rfl X) (Or.inl ⟨rfl, fun y y0 y1 => by omega⟩)
    have := mturn_s en n4 h k m (i + 1) (c + c') cs'' Y (by omega) (TFm_tr tX tY) hY ⟨cs', c, c', hc, (T1_fr cX (tX.2 63 (by decide)) (tX.2 64 (by decide)) i).mp ht, rfl⟩
    exact this
end TU
