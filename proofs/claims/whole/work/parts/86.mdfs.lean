section MR
variable {d : Nat} {I : HI} {K : HI → Prop} {KI : Int → HI → Prop} {K2 : Int → Int → HI → Prop} {cs : Int → List Int} {H : List Sn}
theorem sn_cf {X : HI} (f : CF I X) : ∀ (p : List Int) (s : Int), sn X s p = sn I s p
  | [], s => rfl
  | x :: p, s => by
    have e : pb X x = pb I x := by
      unfold pb par
      rw [f.1 520 (by omega)]
    show sn X (oO s (pb X x)) p = sn I (oO s (pb I x)) p
    rw [e, sn_cf f p]
theorem opn_cf {X : HI} (f : CF I X) (sh : X 489 63 = I 489 63) (c s x : Int) : opn X c s x = opn I c s x := by
  unfold opn par
  rw [sh, f.1 520 (by omega), laneM_fr (f.1 518 (by omega)) (f.1 521 (by omega))]
theorem RowIs_up {X : HI} {p : List Int} {x : Int} (h : RowIs X p) : RowIs (up X 548 p.length x) (p ++ [x]) := by
  intro i y hy
  by_cases e : i < p.length
  · rw [List.getElem?_append_left e] at hy
    rw [up_j (by omega)]
    exact h i y hy
  · have := ge_lt hy
    rw [List.length_append, List.length_singleton] at this
    obtain rfl : i = p.length := by omega
    rw [List.getElem?_concat_length] at hy
    cases hy
    exact up_e
theorem RowIs_l {X : HI} {p : List Int} {x : Int} (h : RowIs X (p ++ [x])) : RowIs X p := fun i y hy => h i y (by rw [List.getElem?_append_left (ge_lt hy)]; exact hy)
theorem last_el {p : List Int} {c : Int} (h : p.getLast? = some c) : p[p.length - 1]? = some c ∧ 1 ≤ p.length := by
  rw [List.getLast?_eq_getElem?] at h
  have := ge_lt h
  exact ⟨h, by omega⟩
/-- the loop's head, when the row isn't whole -/
theorem m_head {s : Nat} {F G : List (List Int)} {R : List (List Int)} {p : List Int} {x : Int} {X : HI} (hT : CTY I) (s4 : s < 4) (kend : ∀ Y : HI, RFr s I Y → MRt Y s F → K Y) (hK : PK I p) (hn : sn I 0 p ≠ parM I) (l0 : 1 ≤ p.length) (fX : RFr s I X) (rX : RowIs X p) (mX : MRt X s R) (lR : R.length ≤ 20) (hF : F = (R ++ G).take 20) (h : R.length < 20 → J none mX11_routesOf (d + 4) 0 0 117 [(0, vR 489), (1, vI (s : Int)), (2, vI ((pop 16 (parM I).toNat : Nat) : Int)), (3, vI (p.length : Int)), (4, vI x), (5, vI (sn I 0 p))] [] (mk X) (PV K)) : J none mX11_routesOf (d + 4) 0 0 31 [(0, vR 489), (1, vI (s : Int)), (2, vI ((pop 16 (parM I).toNat : Nat) : Int)), (3, vI (p.length : Int)), (4, vI x)] [] (mk X) (PV K) := by
  have pk := PK_le hT.1 hT.2.2.2.2.2.2.1 hK
  refine bk_X11_routesOf_31 ⟨fun q => by omega, fun _ => ?_⟩
  rw [Int.toNat_natCast, mX.1]
  refine ⟨by omega, fun q => PV_i (kend X fX ?_), fun q => ⟨fun _ => ?_, fun q2 => absurd (pk.2.2.mp (by omega)) hn⟩⟩
  · rw [hF, tk_full (by omega)]
    exact mX
  · refine c11_usedBy rfl rX (fun y hy => ?_) (by omega) ?_
    · have := hK.1 y hy
      have := hT.1.2.1
      omega
    · rw [sn_cf (CF_r fX)]
      exact h (by omega)
theorem m_dfs {s : Nat} {F : List (List Int)} (hT : CTY I) (hsh : 0 ≤ I 489 63 ∧ I 489 63 < 65536) (s4 : s < 4) (kend : ∀ Y : HI, RFr s I Y → MRt Y s F → K Y) : ∀ (f : Nat) (p : List Int) (c : Int) (R G : List (List Int)) (X : HI), p.length + f = 10 → p.getLast? = some c → PK I p → RFr s I X → RowIs X p → MRt X s R → R.length ≤ 20 → (∀ q ∈ R, q.length ≤ 10) → F = (R ++ ((exD I (f + 1) c (sn I 0 p)).map (fun t => p ++ t) ++ G)).take 20 → (∀ (Y : HI) (R' : List (List Int)), RFr s I Y → RowIs Y p → MRt Y s R' → R'.length ≤ 20 → (∀ q ∈ R', q.length ≤ 10) → F = (R' ++ G).take 20 → J none mX11_routesOf (d + 4) 0 0 31 [(0, vR 489), (1, vI (s : Int)), (2, vI ((pop 16 (parM I).toNat : Nat) : Int)), (3, vI ((p.length : Int) + (-1))), (4, vI (c + 1))] [] (mk Y) (PV K)) → J none mX11_routesOf (d + 4) 0 0 31 [(0, vR 489), (1, vI (s : Int)), (2, vI ((pop 16 (parM I).toNat : Nat) : Int)), (3, vI (p.length : Int)), (4, vI 0)] [] (mk X) (PV K) := by
  have hc := hT.1
  have hp := hT.2.2.2.2.2.2.1
  have n5 := hc.2.1
  intro f
  induction f with
  | zero =>
    intro p c R G X e hl hK
    have := (PK_le hc hp hK).2.1
    omega
  | succ f ih =>
    intro p c R G X e hl hK fX rX mX lR lq hF h
    obtain ⟨le, l0⟩ := last_el hl
    have pk := PK_le hc hp hK
    have rs := sn_rng hp p 0 hK.1 (by omega) (by omega)
    by_cases hn : sn I 0 p = parM I
    · -- the row is whole
      refine bk_X11_routesOf_31 ⟨fun q => by omega, fun _ => ?_⟩
      rw [Int.toNat_natCast, mX.1]
      refine ⟨by omega, fun q => PV_i (kend X fX ?_), fun q => ⟨fun q2 => absurd (by rw [pk.2.2.mpr hn]) q2, fun _ => ?_⟩⟩
      · rw [hF, tk_full (by omega)]
        exact mX
      · have al : pop 16 (parM I).toNat = p.length := (pk.2.2.mpr hn).symm
        rw [al]
        rw [al] at h
        have c0 := cp1_0 X 548 0 547 (200 * s + 10 * R.length)
        have g := cpy_lp (I := X) (K := K) (d := d) (s := s) (m := R.length) (al := p.length) (c := 0) (n := (p.length : Int)) s4 (by omega) (by omega) mX.1 ?_ p.length 0 (by omega)
        · rw [c0] at g
          exact g
        · refine bk_X11_routesOf_54 ⟨fun _ => ?_, fun q => by omega⟩
          have e6 : cpI X 548 0 547 (200 * s + 10 * R.length) p.length 546 = X 546 := cpI_f (by decide)
          rw [Int.toNat_natCast, e6, mX.1]
          refine ⟨by omega, by omega, by omega, fun I1 e1 => ?_⟩
          have f1 : RFr s I I1 := by
            refine RFr_tr fX ?_
            rw [e1]
            refine ⟨fun k k1 k2 k3 => by rw [up_k k1, cpI_f k2], fun j hj => by rw [up_j hj, e6], fun j hj => by rw [up_k (by decide), cpI_o (by omega)]⟩
          have r1 : RowIs I1 p := fun i y hy => by
            rw [e1, up_k (by decide), cpI_f (by decide)]
            exact rX i y hy
          have m1 : MRt I1 s (R ++ [p]) := by
            refine MRt_snoc mX lq ?_ (fun j hj => ?_) (fun i x hx => ?_)
            · rw [e1, up_e, mX.1]
            · rw [e1, up_k (by decide), cpI_o (by omega)]
            · have := ge_lt hx
              rw [e1, up_k (by decide), cpI_i (by omega) (by omega)]
              have := rX i x hx
              rw [← this]
              congr 1
              omega
          refine c11_usedBy rfl r1 (fun y hy => ?_) (by omega) ?_
          · have := hK.1 y hy
            omega
          · refine bk_X11_routesOf_117 (c11_corners ?_)
            rw [(CF_r f1).1 518 (by omega)]
            refine ⟨fun _ => c11_corners ?_, fun q => by omega⟩
            rw [(CF_r f1).1 518 (by omega)]
            refine ⟨fun _ => ⟨by omega, by omega, ?_⟩, fun q => by omega⟩
            have ec : I1 548 ((p.length : Int) + (-1)).toNat = c := by
              have := r1 _ _ le
              rw [← this]
              congr 1
              omega
            have cr := hK.1 c (List.mem_of_getElem? le)
            rw [ec]
            refine ⟨by omega, ?_⟩
            have := h I1 (R ++ [p]) f1 r1 m1 (by rw [List.length_append, List.length_singleton]; omega) (fun q hq => ?_) ?_
            · exact this
            · rcases List.mem_append.mp hq with hq | hq
              · exact lq q hq
              · rw [List.mem_singleton.mp hq]
                omega
            · rw [hF]
              unfold exD
              rw [if_pos hn]
              simp
    · -- scan
      have scan : ∀ (n : Nat) (x : Int) (R : List (List Int)) (X : HI), 0 ≤ x → x + n = I 518 5 → RFr s I X → RowIs X p → MRt X s R → R.length < 20 → (∀ q ∈ R, q.length ≤ 10) → F = (R ++ ((exA (fun x => exD I (f + 1) x (oO (sn I 0 p) (pb I x))) (opn I c (sn I 0 p)) n x).map (fun t => p ++ t) ++ G)).take 20 → J none mX11_routesOf (d + 4) 0 0 117 [(0, vR 489), (1, vI (s : Int)), (2, vI ((pop 16 (parM I).toNat : Nat) : Int)), (3, vI (p.length : Int)), (4, vI x), (5, vI (sn I 0 p))] [] (mk X) (PV K) := by
        intro n
        induction n with
        | zero =>
          intro x R X x0 ex fX rX mX lR lq hF
          have ec : X 548 ((p.length : Int) + (-1)).toNat = c := by
            have := rX _ _ le
            rw [← this]
            congr 1
            omega
          have cr := hK.1 c (List.mem_of_getElem? le)
          refine bk_X11_routesOf_117 (c11_corners ?_)
          rw [(CF_r fX).1 518 (by omega)]
          refine ⟨fun _ => c11_corners ?_, fun q => by omega⟩
          rw [(CF_r fX).1 518 (by omega)]
          refine ⟨fun _ => ⟨by omega, by omega, ?_⟩, fun q => by omega⟩
          rw [ec]
          exact ⟨by omega, h X R fX rX mX (by omega) lq hF⟩
        | succ n ihn =>
          intro x R X x0 ex fX rX mX lR lq hF
          have ec : X 548 ((p.length : Int) - 1).toNat = c := by
            have := rX _ _ le
            rw [← this]
            congr 1
            omega
          have f518 := (CF_r fX).1 518 (by omega)
          have sh : X 489 63 = I 489 63 := by rw [fX.1 489 (by decide) (by decide) (by decide)]
          refine bk_X11_routesOf_117 (c11_corners ?_)
          rw [f518]
          refine ⟨fun q => by omega, fun _ => ?_⟩
          refine c11_canCome (CTY_fr hT (CF_r fX)) (by rw [sh]; exact hsh) (by omega) (by omega) ec rs.1 rs.2 x0 (by rw [f518]; omega) (fun yes => ⟨fun _ => c11_corners ?_, fun q => by omega⟩) (fun no => ⟨fun q => absurd rfl q, fun _ => ⟨by omega, ?_⟩⟩)
          · rw [opn_cf (CF_r fX) sh] at yes
            rw [f518]
            refine ⟨fun q => by omega, fun _ => ⟨by omega, fun I6 e6 => ⟨by omega, ?_⟩⟩⟩
            rw [Int.toNat_natCast] at e6
            have f6 : RFr s I I6 := by
              refine RFr_tr fX ?_
              rw [e6]
              exact ⟨fun k k1 k2 k3 => up_k k3, fun j _ => by rw [up_k (by decide)], fun j _ => by rw [up_k (by decide)]⟩
            have m6 : MRt I6 s R := MRt_fr mX (by rw [e6, up_k (by decide)]) (by rw [e6, up_k (by decide)])
            have r6 : RowIs I6 (p ++ [x]) := by
              rw [e6]
              exact RowIs_up rX
            have snx : sn I 0 (p ++ [x]) = oO (sn I 0 p) (pb I x) := by rw [sn_app]; rfl
            have lx : (p ++ [x]).length = p.length + 1 := by rw [List.length_append, List.length_singleton]
            have eqF : (if opn I c (sn I 0 p) x = true then ((exD I (f + 1) x (oO (sn I 0 p) (pb I x))).map (fun t => x :: t)) else []) = (exD I (f + 1) x (oO (sn I 0 p) (pb I x))).map (fun t => x :: t) := if_pos yes
            have := ih (p ++ [x]) x R ((exA (fun x => exD I (f + 1) x (oO (sn I 0 p) (pb I x))) (opn I c (sn I 0 p)) n (x + 1)).map (fun t => p ++ t) ++ G) I6 (by rw [lx]; omega) (by simp) (PK_snoc hp hK x0 (by omega) (opn_spec.mp yes).2.2) f6 r6 m6 (by omega) lq (by
              rw [hF, snx]
              conv => lhs; unfold exA
              rw [eqF]
              simp [List.map_map, Function.comp_def]) (fun Y R' fY rY mY lR' lq' hF' => by
              rw [lx, show (((p.length + 1 : Nat) : Int) + (-1)) = (p.length : Int) from by omega]
              exact m_head (G := _) hT s4 kend hK hn l0 fY (RowIs_l rY) mY lR' hF' (fun lt => ihn (x + 1) R' Y (by omega) (by omega) fY (RowIs_l rY) mY lt lq' hF'))
            rw [lx] at this
            exact this
          · rw [opn_cf (CF_r fX) sh] at no
            refine ihn (x + 1) R X (by omega) (by omega) fX rX mX lR lq ?_
            rw [hF]
            conv => lhs; unfold exA
            rw [no]
            simp
      refine m_head hT s4 kend hK hn l0 fX rX mX lR hF (fun lt => scan (I 518 5).toNat 0 R X (by omega) (by omega) fX rX mX lt lq ?_)
      rw [hF]
      conv => lhs; unfold exD
      rw [if_neg hn]
/-- the model's rows of routes -/
def rtM (I : HI) (s : Int) : List (List Int) := (rts I s).map (fun t => hm I s :: t)
theorem c11_routesOf {s : Nat} (hT : CTY I) (hsh : 0 ≤ I 489 63 ∧ I 489 63 < 65536) (s1 : (s : Int) < I 518 6) (h : ∀ Y : HI, RFr s I Y → MRt Y s (rtM I s) → K Y) : CV mX11_routesOf (d + 4) [vR 489, vI (s : Int)] I K := by
  have hc := hT.1
  have hp := hT.2.2.2.2.2.2.1
  have n6 := hc.2.2.1
  have rp := parM_rng hc hp
  have hr := hm_rng hT.2.1 (s := (s : Int)) (by omega) s1
  refine bk_X11_routesOf_0 (c11_parishes hc (c11_bits rp.1 (by omega) ⟨by omega, fun I3 e3 => ?_⟩))
  rw [Int.toNat_natCast] at e3
  refine c11_homeOf (by omega) (by omega) (fun I5 e5 => ?_)
  have h3 : hm I3 (s : Int) = hm I (s : Int) := hm_fr (by rw [e3, up_k (by decide)]) _
  rw [h3] at e5
  have f5 : RFr s I I5 := by
    rw [e5, e3]
    exact ⟨fun k k1 k2 k3 => by rw [up_k k3, up_k k1], fun j hj => by rw [up_k (by decide), up_j hj], fun j _ => by rw [up_k (by decide), up_k (by decide)]⟩
  have r5 : RowIs I5 [hm I (s : Int)] := fun i x hx => by
    have := ge_lt hx
    simp only [List.length_singleton] at this
    obtain rfl : i = 0 := by omega
    simp only [List.getElem?_cons_zero, Option.some.injEq] at hx
    rw [← hx, e5, up_e]
  have m5 : MRt I5 s [] := ⟨by rw [e5, up_k (by decide), e3, up_e]; rfl, fun r q hr => by simp at hr⟩
  have := m_dfs (d := d) (K := K) (s := s) (F := rtM I s) hT hsh (by omega) (fun Y fY mY => h Y fY mY) 9 [hm I (s : Int)] (hm I (s : Int)) [] [] I5 rfl rfl (PK_1 hp hr.1 hr.2) f5 r5 m5 (by simp) (fun q hq => by cases hq) ?_ (fun Y R' fY rY mY lR' lq' hF' => ?_)
  · exact this
  · rw [List.append_nil, List.nil_append]
    unfold rtM rts
    rw [← List.map_take]
    have e0 : sn I 0 [hm I (s : Int)] = pb I (hm I (s : Int)) := by
      show oO 0 (pb I (hm I (s : Int))) = _
      have g := pb_rng hp hr.1 hr.2
      rw [oO_or (by omega) (by omega) (by omega) (by omega)]
      simp
      omega
    rw [e0]
    rfl
  · refine bk_X11_routesOf_31 ⟨fun _ => PV_i (h Y fY ?_), fun q => ?_⟩
    · rw [hF', List.append_nil, List.take_of_length_le lR']
      exact mY
    · simp at q
end MR
