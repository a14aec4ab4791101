theorem tk_app {α : Type} {R A B : List α} : ((R ++ A).take 20 ++ B).take 20 = (R ++ (A ++ B)).take 20 := by
  by_cases h : (R ++ A).length ≤ 20
  · rw [List.take_of_length_le h, List.append_assoc]
  · have h1 : ((R ++ A).take 20).length = 20 := by rw [List.length_take]; omega
    have e1 : ((R ++ A).take 20 ++ B).take 20 = ((R ++ A).take 20).take 20 := List.take_append_of_le_length (by omega)
    have e2 : ((R ++ A) ++ B).take 20 = (R ++ A).take 20 := List.take_append_of_le_length (by omega)
    rw [List.append_assoc] at e2
    rw [e1, e2, List.take_take]
    rfl
section EX5
variable {d : Nat} {I : HI} {KI : Int → HI → Prop} {K2 : Int → Int → HI → Prop} {cs : Int → List Int} {H : List Sn}
theorem okW_snoc {s : Nat} {pt : List Int} {c x : Int} (hT : CTY I) (s1 : (s : Int) < I 518 6) (ok : okC I (hm I s) pt) (lc : lastS (hm I s) (wy I s pt) = c) (rp : ∀ y ∈ pt, 0 ≤ y ∧ y < I 518 5) (x0 : 0 ≤ x) (x1 : x < I 518 5) (hl : laneM I c x ≠ -1) : okC I (hm I s) (pt ++ [x]) ∧ lastS (hm I s) (wy I s (pt ++ [x])) = x ∧ (∀ y ∈ pt ++ [x], 0 ≤ y ∧ y < I 518 5) := by
  have n5 := hT.1.2.1
  refine ⟨?_, ?_, fun y hy => ?_⟩
  · rw [okC_app I (s : Int) [x] pt (hm I s) 0]
    refine ⟨ok, ?_⟩
    show (if 100 < x then _ else _)
    rw [if_neg (by omega)]
    refine ⟨⟨x0, x1, ?_⟩, trivial⟩
    unfold wy at lc
    rw [lc]
    exact hl
  · rw [wy_snoc, if_neg (by omega), lastS_app]
    rfl
  · rcases List.mem_append.mp hy with hy | hy
    · exact rp y hy
    · rw [List.mem_singleton.mp hy]
      exact ⟨x0, x1⟩
theorem okW_of {s : Nat} {pt : List Int} (hT : CTY I) (s1 : (s : Int) < I 518 6) (ok : okC I (hm I s) pt) (rp : ∀ y ∈ pt, 0 ≤ y ∧ y < I 518 5) (l9 : pt.length ≤ 9) : OkW I s pt := by
  have n5 := hT.1.2.1
  have := run_end hT (s := (s : Int)) (by omega) s1 pt (hm I s) 0 ok (fun x hx => by have := rp x hx; omega)
  exact ⟨ok, by omega, by unfold wy; omega⟩
theorem c5_explore {s : Nat} (hT : CTY I) (s1 : (s : Int) < I 518 6) (e33 : I 33 100 = I 489 63) (hsh : 0 ≤ I 489 63 ∧ I 489 63 < 65536) : ∀ (f : Nat) (pt : List Int) (c v : Int) (R : List (List Int)) (X : HI) (K : HI → Prop), pt.length + f = 9 → okC I (hm I s) pt → lastS (hm I s) (wy I s pt) = c → (∀ y ∈ pt, 0 ≤ y ∧ y < I 518 5) → (0 ≤ c ∧ c < I 518 5) → 0 ≤ v → v < 1024 → EFr s I X → PathIs X (hm I s :: pt) → CRt I X s R → R.length < 20 → (∀ Y : HI, EFr s I Y → PathIs Y (hm I s :: pt) → CRt I Y s ((R ++ (exD I (f + 1) c v).map (fun t => pt ++ t)).take 20) → K Y) → CV mX5_explore (d + f + 3) [vR 69, vI (s : Int), vI (pt.length : Int), vI v] X K := by
  have hc := hT.1
  have hp := hT.2.2.2.2.2.2.1
  have n5 := hc.2.1
  have n6 := hc.2.2.1
  have n7 := hc.2.2.2.1
  have s4 : s < 4 := by omega
  have rp := parM_rng hc hp
  -- the loop over corners, when the row isn't whole
  have loop : ∀ (f : Nat) (pt : List Int) (c v : Int) (K : HI → Prop), pt.length + f = 9 → okC I (hm I s) pt → lastS (hm I s) (wy I s pt) = c → (∀ y ∈ pt, 0 ≤ y ∧ y < I 518 5) → (0 ≤ c ∧ c < I 518 5) → 0 ≤ v → v < 1024 → (0 < f → ∀ (x : Int) (R : List (List Int)) (X : HI) (K : HI → Prop), 0 ≤ x → x < I 518 5 → opn I c v x = true → EFr s I X → PathIs X (hm I s :: (pt ++ [x])) → CRt I X s R → R.length < 20 → (∀ Y : HI, EFr s I Y → PathIs Y (hm I s :: (pt ++ [x])) → CRt I Y s ((R ++ (exD I f x (oO v (pb I x))).map (fun t => (pt ++ [x]) ++ t)).take 20) → K Y) → CV mX5_explore (d + f + 2) [vR 69, vI (s : Int), vI ((pt.length : Int) + 1), vI (oO v (pb I x))] X K) → ∀ (n : Nat) (x : Int) (R : List (List Int)) (X : HI), 0 ≤ x → x + n = I 518 5 → EFr s I X → PathIs X (hm I s :: pt) → CRt I X s R → R.length ≤ 20 → (∀ Y : HI, EFr s I Y → PathIs Y (hm I s :: pt) → CRt I Y s ((R ++ (exA (fun x => exD I f x (oO v (pb I x))) (opn I c v) n x).map (fun t => pt ++ t)).take 20) → K Y) → J none mX5_explore (d + f + 3) 0 0 21 [(0, vR 69), (1, vI (s : Int)), (2, vI (pt.length : Int)), (3, vI v), (4, vI x)] [] (mk X) (PV K) := by
    intro f pt c v K e ok lc rpt rc v0 v1 sub n
    induction n with
    | zero =>
      intro x R X x0 ex eX pX hR lR h
      refine bk_X5_explore_21 ?_
      rw [eX.1 2 (by omega) (by omega) (by omega), hc.1.1]
      refine ⟨fun _ => PV_i (h X eX pX ?_), fun q => by omega⟩
      show CRt I X s ((R ++ ([] : List (List Int)).map _).take 20)
      rw [List.map_nil, List.append_nil, List.take_of_length_le lR]
      exact hR
    | succ n ih =>
      intro x R X x0 ex eX pX hR lR h
      have cX := CF_e s4 eX
      have p5 : X 5 x.toNat = par I x := by
        rw [eX.1 5 (by omega) (by omega) (by omega)]
        exact (hp x x0 (by omega)).1
      have pr := pb_rng hp x0 (by omega : x < I 518 5)
      have skip : (opn I c v x = false ∨ R.length = 20) → J none mX5_explore (d + f + 3) 0 0 21 [(0, vR 69), (1, vI (s : Int)), (2, vI (pt.length : Int)), (3, vI v), (4, vI (x + 1))] [] (mk X) (PV K) := fun hs => by
        refine ih (x + 1) R X (by omega) (by omega) eX pX hR lR (fun Y eY pY hY => h Y eY pY ?_)
        rcases hs with hs | hs
        · unfold exA
          rw [hs]
          simpa using hY
        · rw [tk_full hs] at hY ⊢
          exact hY
      refine bk_X5_explore_21 ?_
      rw [eX.1 2 (by omega) (by omega) (by omega), hc.1.1]
      refine ⟨fun q => by omega, fun _ => ⟨by omega, fun q => PV_i (h X eX pX ?_), fun q => ?_⟩⟩
      · -- no room for more
        obtain rfl : f = 0 := by omega
        rw [exA_nil (g := fun x => exD I 0 x (oO v (pb I x))) (fun _ => rfl), List.map_nil, List.append_nil, List.take_of_length_le lR]
        exact hR
      · have ec : X 74 pt.length = c := by
          have lst : (hm I (s : Int) :: pt)[pt.length]? = some c := by
            rw [← lc]
            rcases List.eq_nil_or_concat pt with rfl | ⟨q, y, rfl⟩
            · rfl
            · rw [List.concat_eq_append] at rpt ⊢
              have := rpt y (by simp)
              rw [wy_snoc, if_neg (by omega), lastS_app]
              simp [lastS]
          exact pX _ _ lst
        rw [Int.toNat_natCast, ec, lane_c hT cX rc.1 rc.2 x0 (by omega), p5]
        refine ⟨by omega, by omega, by omega, by omega, by omega, fun q2 => ⟨by omega, skip (Or.inl ?_)⟩, fun q2 => c9_shutBits ?_⟩
        · unfold opn
          simp [q2]
        · have lr := laneM_rng n7.1 q2
          rw [eX.1 33 (by omega) (by omega) (by omega), e33, Int.toNat_natCast s, hR.1]
          have b3 := sb_0 (x := I 489 63) (k := laneM I c x) hsh.1 (by omega) lr.1 (by omega)
          have b4 := and_p2 (s := v) (p := par I x) v0 v1 (by omega) (by omega)
          refine ⟨fun q3 => ⟨by omega, skip (Or.inl ?_)⟩, fun q3 => ⟨fun q4 => ⟨by omega, skip (Or.inl ?_)⟩, fun q4 => ⟨by omega, fun q5 => ⟨by omega, skip (Or.inr (by omega))⟩, fun q5 => ⟨by omega, by omega, fun I2 e2 => ⟨by omega, ?_⟩⟩⟩⟩⟩
          · cases eo : opn I c v x
            · rfl
            · exact absurd (b3.mpr (opn_spec.mp eo).2.1) q3
          · cases eo : opn I c v x
            · rfl
            · exact absurd (b4.mpr (opn_spec.mp eo).2.2) q4
          · have yes : opn I c v x = true := opn_spec.mpr ⟨q2, b3.mp q3, b4.mp q4⟩
            have f0 : 0 < f := by omega
            have ei : ((pt.length : Int) + 1).toNat = (hm I (s : Int) :: pt).length := by simp
            rw [ei] at e2
            have e2f : EFr s I I2 := EFr_tr eX (by rw [e2]; exact ⟨fun k k1 k2 k3 => up_k k2, fun j hj => by rw [up_k (by decide)]⟩)
            refine sub f0 x R I2 _ x0 (by omega) yes e2f (by rw [e2]; exact PathIs_up pX) ⟨by rw [e2, up_k (by decide)]; exact hR.1, fun r q hr => ?_⟩ (by omega) (fun Y eY pY hY => ⟨by omega, ?_⟩)
            · have := ge_lt hr
              exact TW_fr (hR.2 r q hr) (fun k k1 k2 => by rw [e2, up_k (by omega)])
            · refine ih (x + 1) _ Y (by omega) (by omega) eY (PathIs_l (x := x) pY) hY (by rw [List.length_take]; omega) (fun Z eZ pZ hZ => h Z eZ pZ ?_)
              rw [tk_app] at hZ
              have eqA : exA (fun x => exD I f x (oO v (pb I x))) (opn I c v) (n + 1) x = (exD I f x (oO v (pb I x))).map (fun t => x :: t) ++ exA (fun x => exD I f x (oO v (pb I x))) (opn I c v) n (x + 1) := by
                show (if opn I c v x = true then _ else _) ++ _ = _
                rw [if_pos yes]
              rw [eqA, List.map_append, List.map_map]
              have ef : ((fun t => pt ++ t) ∘ fun t => x :: t) = (fun t => (pt ++ [x]) ++ t) := by
                funext t
                simp
              rw [ef]
              exact hZ
  intro f
  induction f with
  | zero =>
    intro pt c v R X K e ok lc rpt rc v0 v1 eX pX hR lR h
    have e12 : X 1 12 = parM I := by
      rw [eX.1 1 (by omega) (by omega) (by omega)]
      exact hT.2.2.2.2.2.2.2.1
    refine bk_X5_explore_0 ?_
    rw [e12]
    refine ⟨fun q => ?_, fun q => ?_⟩
    · refine loop 0 pt c v K e ok lc rpt rc v0 v1 (fun z => by omega) (I 518 5).toNat 0 R X (by omega) (by omega) eX pX hR (by omega) (fun Y eY pY hY => h Y eY pY ?_)
      unfold exD
      rw [if_neg q]
      exact hY
    · refine c5_record hT s1 eX pX hR lR (okW_of hT s1 ok rpt (by omega)) (by omega) rpt (fun Y eY y74 hY => PV_i (h Y eY (fun i x hx => by rw [y74]; exact pX i x hx) ?_))
      unfold exD
      rw [if_pos q]
      simp only [List.map_cons, List.map_nil, List.append_nil]
      rw [List.take_of_length_le (by rw [List.length_append, List.length_singleton]; omega)]
      exact hY
  | succ f ih =>
    intro pt c v R X K e ok lc rpt rc v0 v1 eX pX hR lR h
    have e12 : X 1 12 = parM I := by
      rw [eX.1 1 (by omega) (by omega) (by omega)]
      exact hT.2.2.2.2.2.2.2.1
    refine bk_X5_explore_0 ?_
    rw [e12]
    refine ⟨fun q => ?_, fun q => ?_⟩
    · refine loop (f + 1) pt c v K e ok lc rpt rc v0 v1 (fun _ x R' X' K' x0 x1 yes eX' pX' hR' lR' h' => ?_) (I 518 5).toNat 0 R X (by omega) (by omega) eX pX hR (by omega) (fun Y eY pY hY => h Y eY pY ?_)
      · obtain ⟨g1, g2, g3⟩ := okW_snoc hT s1 ok lc rpt x0 x1 (opn_spec.mp yes).1
        have pr := pb_rng hp x0 x1
        have r := or_rng 10 (by omega) (x := v) (y := pb I x) v0 (by omega) (by omega) (by omega)
        have := ih (pt ++ [x]) x (oO v (pb I x)) R' X' K' (by rw [List.length_append, List.length_singleton]; omega) g1 g2 g3 ⟨x0, x1⟩ r.1 (by omega) eX' pX' hR' lR' h'
        rw [List.length_append, List.length_singleton] at this
        rw [show d + (f + 1) + 2 = d + f + 3 from by omega]
        exact this
      · unfold exD
        rw [if_neg q]
        exact hY
    · refine c5_record hT s1 eX pX hR lR (okW_of hT s1 ok rpt (by omega)) (by omega) rpt (fun Y eY y74 hY => PV_i (h Y eY (fun i x hx => by rw [y74]; exact pX i x hx) ?_))
      unfold exD
      rw [if_pos q]
      simp only [List.map_cons, List.map_nil, List.append_nil]
      rw [List.take_of_length_le (by rw [List.length_append, List.length_singleton]; omega)]
      exact hY
end EX5
