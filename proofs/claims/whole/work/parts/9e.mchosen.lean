/-- what the model's choosing changes -/
def GFr (I X : HI) : Prop := (∀ k, k ≠ 489 → k ≠ 529 → k ≠ 530 → k ≠ 549 → k ≠ 550 → k ≠ 551 → X k = I k) ∧ (∀ j, j ≠ 56 → j ≠ 83 → j ≠ 84 → X 489 j = I 489 j)
theorem GFr_rfl (I : HI) : GFr I I := ⟨fun _ _ _ _ _ _ _ => rfl, fun _ _ _ _ => rfl⟩
theorem GFr_tr {I X Y : HI} (h : GFr I X) (g : GFr X Y) : GFr I Y := ⟨fun k h1 h2 h3 h4 h5 h6 => by rw [g.1 k h1 h2 h3 h4 h5 h6, h.1 k h1 h2 h3 h4 h5 h6], fun j h1 h2 h3 => by rw [g.2 j h1 h2 h3, h.2 j h1 h2 h3]⟩
theorem GFr_k {I X : HI} (h : KFr I X) : GFr I X := ⟨fun k h1 h2 h3 h4 _ _ => h.1 k h1 h2 h3 h4, fun j h1 _ _ => h.2 j h1⟩
theorem CF_g {I X : HI} (h : GFr I X) : CF I X := ⟨fun k hk => h.1 k (by omega) (by omega) (by omega) (by omega) (by omega) (by omega), h.2 44 (by decide) (by decide) (by decide)⟩
theorem sh_g {I X : HI} (h : GFr I X) : X 489 63 = I 489 63 ∧ X 489 64 = I 489 64 := ⟨h.2 63 (by decide) (by decide) (by decide), h.2 64 (by decide) (by decide) (by decide)⟩
/-- the choices of the model in its own order -/
noncomputable def vism (I : HI) (cs : Int → List Int) (bits : Int) (rs : List Nat) (ok : Nat → Nat → Prop) : List (List Nat) := vis (odm I bits) (lwm I cs bits) rs ok
section MC
variable {d : Nat} {I : HI} {KI : Int → HI → Prop} {K2 : Int → Int → HI → Prop} {cs : Int → List Int}
theorem MDW_g (h : MDW I cs) {X : HI} (f : ∀ k, k ≠ 489 → k ≠ 550 → k ≠ 551 → X k = I k) (g : ∀ j, j ≠ 83 → j ≠ 84 → X 489 j = I 489 j) : MDW X cs := by
  have c : CF I X := ⟨fun k hk => f k (by omega) (by omega) (by omega), g 44 (by decide) (by decide)⟩
  exact MDW_w h c (g 63 (by decide) (by decide)) (g 64 (by decide) (by decide)) (f 546 (by decide) (by decide) (by decide)) (fun k k1 k2 => f k (by omega) (by omega) (by omega)) (MKN_fr h.2.2.2.2 c (g 63 (by decide) (by decide)) (g 64 (by decide) (by decide)) (f 549 (by decide) (by decide) (by decide)))
/-- the best is written -/
theorem mbest_lp {bits z any : Int} {n : Nat} {Q : List Nat} {X0 : HI} {KJ : HI → Prop} (lQ : Q.length = n) (n4 : n ≤ 4) (hQ : ∀ (i x : Nat), Q[i]? = some x → X0 550 i = x) (h : ∀ Y : HI, (∀ k, k ≠ 551 → Y k = X0 k) → Y 551 = wrs (X0 551) (List.range' 0 n) Q → J none mX11_isChosen (d + 9) 0 0 71 [(0, vR 489), (1, vI bits), (2, vI z), (3, vI any), (4, vI (n : Int)), (5, vI (n : Int))] [] (mk Y) (PI KI)) : ∀ (q2 q1 : List Nat) (Z : HI), Q = q1 ++ q2 → (∀ k, k ≠ 551 → Z k = X0 k) → wrs (Z 551) (List.range' q1.length q2.length) q2 = wrs (X0 551) (List.range' 0 n) Q → J none mX11_isChosen (d + 9) 0 0 71 [(0, vR 489), (1, vI bits), (2, vI z), (3, vI any), (4, vI (n : Int)), (5, vI (q1.length : Int))] [] (mk Z) (PI KI)
  | [], q1, Z, e, fZ, hw => by
    rw [List.append_nil] at e
    have := h Z fZ (by rw [← hw]; rfl)
    rw [← e, lQ]
    exact this
  | x :: q2, q1, Z, e, fZ, hw => by
    have hl : Q.length = q1.length + (q2.length + 1) := by rw [e]; simp
    have hx : Q[q1.length]? = some x := by rw [e]; simp
    refine bk_X11_isChosen_71 ⟨fun q => by omega, fun _ => ?_⟩
    rw [Int.toNat_natCast, fZ 550 (by decide), hQ _ _ hx]
    refine ⟨by omega, by omega, fun I1 e1 => ⟨by omega, ?_⟩⟩
    have e551 : I1 551 = fun j => if j = q1.length then (x : Int) else Z 551 j := by
      funext j
      rw [e1]
      by_cases ej : j = q1.length
      · rw [ej, up_e, if_pos rfl]
      · rw [up_j ej, if_neg ej]
    have := mbest_lp (bits := bits) (z := z) (any := any) (KJ := KJ) lQ n4 hQ h q2 (q1 ++ [x]) I1 (by rw [e]; simp) (fun k hk => by rw [e1, up_k hk, fZ k hk]) (by rw [e551, List.length_append, List.length_singleton]; exact hw)
    rw [List.length_append, List.length_singleton] at this
    exact this
theorem m_cho {bits z any : Int} {n : Nat} (h0 : MDW I cs) (en : (n : Int) = I 518 6) (b0 : 0 ≤ bits) (b1 : bits < 16) (kany : any ≠ 0 → ∀ (Y : HI) (ys : List Nat), GFr I Y → ys ∈ vism I cs bits (List.range' 0 n) (okm I cs bits z) → KI 1 Y) : ∀ (k : Nat) (P : List Nat) (ok : Nat → Nat → Prop) (X : HI) (B : Int), P.length + k = n → GFr I X → MDW X cs → CHO X P → (0 < k → X 550 P.length = -1) → BS z X B → (∀ (t y : Nat), P.length ≤ t → bit bits (t : Int) = true → (ok t y ↔ dmo I cs z t y ∧ ∀ (i x : Nat), P[i]? = some x → bit bits (i : Int) = true → LW I cs i x t y)) → (∀ (t y : Nat), bit bits (t : Int) = false → ok t y) → (∀ ys, ys ∈ vism I cs bits (List.range' P.length k) ok → P ++ ys ∈ vism I cs bits (List.range' 0 n) (okm I cs bits z)) → cst (prm I cs bits z) (List.range' 0 P.length) P < B → (any ≠ 0 → B = 100000) → (∀ (Y : HI) (B' : Int), GFr I Y → MDW Y cs → CHO Y P → BS z Y B' → (B', Y 551) = (vism I cs bits (List.range' P.length k) ok).foldl (bup 0 (fun ys => cst (prm I cs bits z) (List.range' 0 P.length) P + cst (prm I cs bits z) (List.range' P.length k) ys) (List.range' 0 n) P) (B, X 551) → (any ≠ 0 → vism I cs bits (List.range' P.length k) ok = []) → J none mX11_isChosen (d + 9) 0 0 20 [(0, vR 489), (1, vI bits), (2, vI z), (3, vI any), (4, vI ((P.length : Int) + (-1)))] [] (mk Y) (PI KI)) → J none mX11_isChosen (d + 9) 0 0 20 [(0, vR 489), (1, vI bits), (2, vI z), (3, vI any), (4, vI (P.length : Int))] [] (mk X) (PI KI) := by
  have n6 := h0.1.1.1.2.2.1
  intro k
  induction k with
  | zero =>
    intro P ok X B e gX hX hP h550 hB hok hok2 hsub hlt hany hK
    have cX := CF_g gX
    have f518 := cX.1 518 (by omega)
    have shX := sh_g gX
    have ee : ∀ t x, enm X cs bits t x = enm I cs bits t x := fun t x => by
      unfold enm
      rw [prc_fr cX shX.1]
    have ce := cst_e I cs bits z (List.range' 0 P.length) P
    have een : enm X cs bits = enm I cs bits := by
      funext t x
      exact ee t x
    have en0 := cst_nn (fun s x => (enm_rng I cs bits s x).1) (List.range' 0 P.length) P
    have en1 := cst_up (M := 999) (fun s x => (enm_rng I cs bits s x).2) (by omega) (List.range' 0 P.length) P
    have ch0 := cst_nn (fun s x => (chm_rng bits s x).1) (List.range' 0 P.length) P
    have ch1 := cst_up (M := 1) (fun s x => (chm_rng bits s x).2) (by omega) (List.range' 0 P.length) P
    rw [List.length_range'] at en1 ch1
    have pl : P.length = n := by omega
    -- the new best stands
    have fin : ∀ (I4 : HI) (c : Int), (∀ k, k ≠ 489 → I4 k = X k) → (∀ j, j ≠ 83 → j ≠ 84 → I4 489 j = X 489 j) → I4 489 84 = cst (enm I cs bits) (List.range' 0 P.length) P → I4 489 83 = c → ((z = 0 ∧ c = 0) ∨ (z ≠ 0 ∧ c = cst (chm bits) (List.range' 0 P.length) P)) → J none mX11_isChosen (d + 9) 0 0 71 [(0, vR 489), (1, vI bits), (2, vI z), (3, vI any), (4, vI (P.length : Int)), (5, vI 0)] [] (mk I4) (PI KI) := by
      intro I4 c f4 g4 e84 e83 hc
      have := mbest_lp (d := d) (KI := KI) (bits := bits) (z := z) (any := any) (n := n) (Q := P) (X0 := I4) (KJ := fun _ => True) pl (by omega) (fun i x hx => by rw [f4 550 (by decide)]; exact (hP i x hx).1) (fun Y fY yw => ?_) P [] I4 rfl (fun _ _ => rfl) (by rw [pl]; rfl)
      · rw [pl]
        exact this
      · have gY : GFr I Y := GFr_tr gX ⟨fun k h1 _ _ _ _ h6 => by rw [fY k h6, f4 k h1], fun j _ h2 h3 => by rw [fY 489 (by decide), g4 j h2 h3]⟩
        refine bk_X11_isChosen_71 ⟨fun _ => ⟨fun q => ⟨by omega, ?_⟩, fun q => PI_i (kany q Y (P ++ []) gY (hsub [] ?_))⟩, fun q => by omega⟩
        · have := hK Y (cst (prm I cs bits z) (List.range' 0 P.length) P) gY (MDW_g hX (fun k h1 _ h3 => by rw [fY k h3, f4 k h1]) (fun j h2 h3 => by rw [fY 489 (by decide), g4 j h2 h3])) (fun i x hx => ?_) ?_ ?_ (fun q2 => absurd q q2)
          · rw [← pl]
            exact this
          · have := hP i x hx
            rw [fY 550 (by decide), f4 550 (by decide), rts_fr (CF_g gY) (sh_g gY).1]
            rw [rts_fr cX shX.1] at this
            exact this
          · refine Or.inr ?_
            rw [fY 489 (by decide), e84, e83, ce]
            rcases hc with ⟨z0, hc⟩ | ⟨z0, hc⟩
            · rw [if_neg (fun w => w z0), if_neg (fun w => w z0), hc]
              exact ⟨by omega, by omega, rfl, fun _ => rfl⟩
            · rw [if_pos z0, if_pos z0, hc]
              exact ⟨by omega, by omega, rfl, fun w => absurd w z0⟩
          · have evv : vism I cs bits (List.range' P.length 0) ok = [[]] := rfl
            rw [evv, List.foldl_cons, List.foldl_nil]
            have e0 : cst (prm I cs bits z) (List.range' 0 P.length) P + cst (prm I cs bits z) (List.range' P.length 0) [] = cst (prm I cs bits z) (List.range' 0 P.length) P := Int.add_zero _
            unfold bup
            simp only [e0, if_pos hlt, List.append_nil]
            rw [yw, f4 551 (by decide)]
            rfl
        · show [] ∈ [[]]
          exact List.mem_singleton.mpr rfl
    refine bk_X11_isChosen_20 ⟨fun q => by omega, fun _ => c11_saintMany ⟨fun q => absurd (by rw [f518]; omega) q, fun _ => ⟨by omega, ?_⟩⟩⟩
    refine c11_endsTo hX b0 b1 hP (by rw [f518]; omega) (fun I3 e3 => ?_)
    rw [een] at e3
    have f3 : ∀ k, k ≠ 489 → I3 k = X k := fun k hk => by rw [e3, up_k hk]
    refine ⟨fun q I4 e4 => fin I4 0 (fun k hk => by rw [e4, up_k hk, f3 k hk]) (fun j h1 h2 => by rw [e4, up_j h1, e3, up_j h2]) (by rw [e4, up_j (by decide), e3, up_e]) (by rw [e4, up_e]) (Or.inl ⟨q, rfl⟩), fun q => ⟨by omega, ?_⟩⟩
    have hP3 : CHO I3 P := fun i x hx => by
      have := hP i x hx
      rw [f3 550 (by decide), rts_fr (I := X) ⟨fun k hk => f3 k (by omega), by rw [e3, up_j (by decide)]⟩ (by rw [e3, up_j (by decide)])]
      exact this
    refine c11_changesTo b0 b1 hP3 (by omega) (fun I6 e6 => fin I6 _ (fun k hk => by rw [e6, up_k hk, f3 k hk]) (fun j h1 h2 => by rw [e6, up_j h1, e3, up_j h2]) (by rw [e6, up_j (by decide), e3, up_e]) (by rw [e6, up_e]) (Or.inr ⟨q, rfl⟩))
  | succ k ih =>
    intro P ok X B e gX hX hP h550 hB hok hok2 hsub hlt hany hK
    have rl := rts_len (I := I) ((P.length : Nat) : Int)
    have s1 : ((P.length : Nat) : Int) < I 518 6 := by omega
    -- the last choice of the saint
    generalize hla : (if bit bits ((P.length : Nat) : Int) = true then 3 * (rts I P.length).length else 0) = la
    have eod : odm I bits P.length = List.range' 0 (la + 1) := by
      unfold odm odn
      by_cases hb : bit bits ((P.length : Nat) : Int) = true
      · rw [if_pos hb]
        rw [if_pos hb] at hla
        rw [hla]
      · rw [if_neg hb]
        rw [if_neg hb] at hla
        rw [← hla]
        rfl
    have la3 : la ≤ 3 * (rts I P.length).length := by
      rw [← hla]
      split <;> omega
    have scan : ∀ (m : Nat) (v : Nat) (Z : HI) (BZ : Int), v + m = la + 1 → GFr I Z → MDW Z cs → CHO Z P → Z 550 P.length = (v : Int) - 1 → BS z Z BZ → (bit bits ((P.length : Nat) : Int) = false → v = 0 → cst (prm I cs bits z) (List.range' 0 P.length) P < BZ) → (any ≠ 0 → BZ = 100000) → (∀ (Y : HI) (B' : Int), GFr I Y → MDW Y cs → CHO Y P → BS z Y B' → (B', Y 551) = ((List.range' v m).flatMap (fun x => iL (ok P.length x) ((vism I cs bits (List.range' (P.length + 1) k) (fun t y => ok t y ∧ lwm I cs bits P.length x t y)).map (fun ys => x :: ys)))).foldl (bup 0 (fun ys => cst (prm I cs bits z) (List.range' 0 P.length) P + cst (prm I cs bits z) (List.range' P.length (k + 1)) ys) (List.range' 0 n) P) (BZ, Z 551) → (any ≠ 0 → (List.range' v m).flatMap (fun x => iL (ok P.length x) ((vism I cs bits (List.range' (P.length + 1) k) (fun t y => ok t y ∧ lwm I cs bits P.length x t y)).map (fun ys => x :: ys))) = []) → J none mX11_isChosen (d + 9) 0 0 20 [(0, vR 489), (1, vI bits), (2, vI z), (3, vI any), (4, vI ((P.length : Int) + (-1)))] [] (mk Y) (PI KI)) → J none mX11_isChosen (d + 9) 0 0 113 [(0, vR 489), (1, vI bits), (2, vI z), (3, vI any), (4, vI (P.length : Int)), (5, vI 0)] [] (mk Z) (PI KI) := by
      intro m
      induction m with
      | zero =>
        intro v Z BZ ev gZ hZ cZ z5 bZ hnm hanyZ hC
        have shZ := sh_g gZ
        have o46 : (Z 546 P.length) = (rts I P.length).length := by
          have := (hZ.2.1 P.length (by rw [(CF_g gZ).1 518 (by omega)]; exact s1)).1
          rw [rts_fr (CF_g gZ) shZ.1] at this
          exact this
        have fin := hC Z BZ gZ hZ cZ bZ rfl (fun _ => rfl)
        refine bk_X11_isChosen_113 ⟨fun q => absurd rfl q, fun _ => ⟨by omega, ?_⟩⟩
        refine bk_X11_lastOf_0 ?_
        rw [bit_01 b0 (by omega) (by omega) (by omega), Int.toNat_natCast, z5]
        by_cases hb : bit bits ((P.length : Nat) : Int) = true
        · rw [if_pos hb]
          rw [if_pos hb] at hla
          refine ⟨fun _ => bk_X11_optionMany_0 ?_, fun q => by omega⟩
          rw [Int.toNat_natCast, o46]
          exact ⟨by omega, by omega, PI_i (PI_i ⟨fun _ => ⟨fun _ => ⟨by omega, fin⟩, fun q => absurd rfl q⟩, fun q => by omega⟩)⟩
        · rw [if_neg hb]
          rw [if_neg hb] at hla
          exact ⟨fun q => absurd rfl q, fun _ => PI_i ⟨fun _ => ⟨fun _ => ⟨by omega, fin⟩, fun q => absurd rfl q⟩, fun q => by omega⟩⟩
      | succ m ihm =>
        intro v Z BZ ev gZ hZ cZ z5 bZ hnm hanyZ hC
        have cfZ := CF_g gZ
        have shZ := sh_g gZ
        have f518 := cfZ.1 518 (by omega)
        have o46 : (Z 546 P.length) = (rts I P.length).length := by
          have := (hZ.2.1 P.length (by rw [f518]; exact s1)).1
          rw [rts_fr cfZ shZ.1] at this
          exact this
        have split : List.range' v (m + 1) = v :: List.range' (v + 1) m := rfl
        -- behind the choice
        have I4f : ∀ I4 : HI, I4 = up Z 550 P.length ((v : Int) - 1 + 1) → GFr I I4 ∧ MDW I4 cs ∧ CHO I4 (P ++ [v]) ∧ BS z I4 BZ ∧ I4 551 = Z 551 ∧ CHO I4 P ∧ I4 550 P.length = v := fun I4 e4 => by
          have f4 : ∀ k, k ≠ 550 → I4 k = Z k := fun k hk => by rw [e4, up_k hk]
          have g4 : GFr I I4 := GFr_tr gZ ⟨fun k _ _ _ _ h5 _ => f4 k h5, fun j _ _ _ => by rw [f4 489 (by decide)]⟩
          have c4 : CHO I4 (P ++ [v]) := fun i x hx => by
            rw [rts_fr (CF_g g4) (sh_g g4).1]
            by_cases ei : i < P.length
            · rw [List.getElem?_append_left ei] at hx
              have := cZ i x hx
              rw [rts_fr cfZ shZ.1] at this
              rw [e4, up_j (by omega)]
              exact this
            · have := ge_lt hx
              rw [List.length_append, List.length_singleton] at this
              obtain rfl : i = P.length := by omega
              rw [List.getElem?_concat_length] at hx
              cases hx
              rw [e4, up_e]
              exact ⟨by omega, by omega⟩
          refine ⟨g4, MDW_g hZ (fun k _ h2 _ => f4 k h2) (fun j _ _ => by rw [f4 489 (by decide)]), c4, ?_, f4 551 (by decide), fun i x hx => c4 i x (by rw [List.getElem?_append_left (ge_lt hx)]; exact hx), by rw [e4, up_e]; omega⟩
          unfold BS at bZ ⊢
          rw [f4 489 (by decide)]
          exact bZ
        -- nothing by this choice
        have skip : ∀ U : HI, GFr I U → MDW U cs → CHO U P → U 550 P.length = v → BS z U BZ → U 551 = Z 551 → (ok P.length v → ∀ ys ∈ vism I cs bits (List.range' (P.length + 1) k) (fun t y => ok t y ∧ lwm I cs bits P.length v t y), BZ ≤ cst (prm I cs bits z) (List.range' 0 P.length) P + (prm I cs bits z P.length v + cst (prm I cs bits z) (List.range' (P.length + 1) k) ys)) → (any ≠ 0 → ¬ ok P.length v) → bit bits ((P.length : Nat) : Int) = true → J none mX11_isChosen (d + 9) 0 0 113 [(0, vR 489), (1, vI bits), (2, vI z), (3, vI any), (4, vI (P.length : Int)), (5, vI 0)] [] (mk U) (PI KI) := by
          intro U gU hU cU u5 bU u551 hs hs2 hbt
          refine ihm (v + 1) U BZ (by omega) gU hU cU (by rw [u5]; omega) bU (fun q => by rw [hbt] at q; cases q) hanyZ (fun Y B' gY hY cY bY hf hfa => hC Y B' gY hY cY bY ?_ (fun q => ?_))
          · have sk : ∀ zs ∈ iL (ok P.length v) ((vism I cs bits (List.range' (P.length + 1) k) (fun t y => ok t y ∧ lwm I cs bits P.length v t y)).map (fun ys => v :: ys)), (BZ, Z 551).1 ≤ (fun ys => cst (prm I cs bits z) (List.range' 0 P.length) P + cst (prm I cs bits z) (List.range' P.length (k + 1)) ys) zs := fun zs hz => by
              rw [mem_iL] at hz
              obtain ⟨ys, hy, rfl⟩ := List.mem_map.mp hz.2
              exact hs hz.1 ys hy
            rw [hf, u551, split, List.flatMap_cons, List.foldl_append, bup_skip _ _ sk]
          · rw [split, List.flatMap_cons, iL_neg (hs2 q), List.nil_append]
            exact hfa q
        -- on to the next saint
        have deep : ∀ U : HI, GFr I U → MDW U cs → CHO U (P ++ [v]) → CHO U P → BS z U BZ → U 551 = Z 551 → ok P.length v → cst (prm I cs bits z) (List.range' 0 (P ++ [v]).length) (P ++ [v]) < BZ → J none mX11_isChosen (d + 9) 0 0 113 [(0, vR 489), (1, vI bits), (2, vI z), (3, vI any), (4, vI (P.length : Int)), (5, vI 1)] [] (mk U) (PI KI) := by
          intro U gU hU cU cU2 bU u551 okv hlt'
          have lx : (P ++ [v]).length = P.length + 1 := by rw [List.length_append, List.length_singleton]
          have sub2 : ∀ V : HI, GFr I V → MDW V cs → CHO V (P ++ [v]) → (0 < k → V 550 (P ++ [v]).length = -1) → BS z V BZ → V 551 = Z 551 → J none mX11_isChosen (d + 9) 0 0 20 [(0, vR 489), (1, vI bits), (2, vI z), (3, vI any), (4, vI ((P.length : Int) + 1))] [] (mk V) (PI KI) := by
            intro V gV hV cV v5 bV v551
            have := ih (P ++ [v]) (fun t y => ok t y ∧ lwm I cs bits P.length v t y) V BZ (by rw [lx]; omega) gV hV cV v5 bV (fun t y ht hb => ?_) (fun t y hb => ⟨hok2 t y hb, fun _ hb2 => by rw [hb] at hb2; cases hb2⟩) (fun ys hy => ?_) hlt' hanyZ (fun Y B' gY hY cY bY hf hfa => ?_)
            · rw [lx] at this
              exact this
            · have hok' := hok t y (by rw [lx] at ht; omega) hb
              rw [hok']
              constructor
              · rintro ⟨⟨w1, w2⟩, w3⟩
                refine ⟨w1, fun i x hx hbi => ?_⟩
                by_cases ei : i < P.length
                · rw [List.getElem?_append_left ei] at hx
                  exact w2 i x hx hbi
                · have := ge_lt hx
                  rw [lx] at this
                  obtain rfl : i = P.length := by omega
                  rw [List.getElem?_concat_length] at hx
                  cases hx
                  exact w3 hbi hb
              · rintro ⟨w1, w2⟩
                exact ⟨⟨w1, fun i x hx hbi => w2 i x (by rw [List.getElem?_append_left (ge_lt hx)]; exact hx) hbi⟩, fun hbi _ => w2 P.length v List.getElem?_concat_length hbi⟩
            · rw [lx] at hy
              have : P ++ [v] ++ ys = P ++ (v :: ys) := by simp
              rw [this]
              refine hsub (v :: ys) ?_
              show (v :: ys) ∈ vis (odm I bits) (lwm I cs bits) (P.length :: List.range' (P.length + 1) k) ok
              rw [vis_mem]
              exact ⟨by rw [eod, List.mem_range'_1]; omega, okv, hy⟩
            · rw [lx, show ((P.length + 1 : Nat) : Int) + (-1) = (P.length : Int) from by omega]
              have cYP : CHO Y P := fun i x hx => cY i x (by rw [List.getElem?_append_left (ge_lt hx)]; exact hx)
              have y5 := (cY P.length v List.getElem?_concat_length).1
              rw [lx] at hf hfa
              refine bk_X11_isChosen_20 ⟨fun q => by omega, fun _ => c11_saintMany ⟨fun _ => ?_, fun q => by rw [(CF_g gY).1 518 (by omega)] at q; omega⟩⟩
              have ef : (fun (st' : Bst) (ys : List Nat) => bup 0 (fun ys => cst (prm I cs bits z) (List.range' 0 P.length) P + cst (prm I cs bits z) (List.range' P.length (k + 1)) ys) (List.range' 0 n) P st' (v :: ys)) = bup 0 (fun ys => cst (prm I cs bits z) (List.range' 0 (P ++ [v]).length) (P ++ [v]) + cst (prm I cs bits z) (List.range' (P.length + 1) k) ys) (List.range' 0 n) (P ++ [v]) := by
                funext st' ys
                have e1 : cst (prm I cs bits z) (List.range' 0 P.length) P + cst (prm I cs bits z) (List.range' P.length (k + 1)) (v :: ys) = cst (prm I cs bits z) (List.range' 0 (P ++ [v]).length) (P ++ [v]) + cst (prm I cs bits z) (List.range' (P.length + 1) k) ys := by
                  rw [cst_snoc, Nat.zero_add]
                  show _ + (prm I cs bits z P.length v + _) = _
                  omega
                unfold bup
                simp only [e1, List.append_assoc, List.singleton_append]
              rw [lx] at ef
              refine ihm (v + 1) Y B' (by omega) gY hY cYP (by rw [y5]; omega) bY (fun _ q => by omega) (fun q => ?_) (fun W B'' gW hW cW bW hf2 hfa2 => hC W B'' gW hW cW bW ?_ (fun q => ?_))
              · have := hfa q
                rw [this] at hf
                injection hf with hf1 _
                rw [hf1]
                exact hanyZ q
              · rw [hf2, hf, v551, split, List.flatMap_cons, List.foldl_append, iL_pos okv, List.foldl_map, ef]
              · rw [split, List.flatMap_cons, iL_pos okv, hfa q, List.map_nil, List.nil_append]
                exact hfa2 q
          refine bk_X11_isChosen_113 ⟨fun _ => ⟨fun q => by omega, fun _ => ⟨by omega, fun q => ?_, fun q => ⟨by omega, fun I1 e1 => ?_⟩⟩⟩, fun q => by omega⟩
          · exact sub2 U gU hU cU (fun q2 => by omega) bU u551
          · have ei : ((P.length : Int) + 1).toNat = P.length + 1 := by omega
            rw [ei] at e1
            have f1 : ∀ k, k ≠ 550 → I1 k = U k := fun k hk => by rw [e1, up_k hk]
            have g1 : GFr I I1 := GFr_tr gU ⟨fun k _ _ _ _ h5 _ => f1 k h5, fun j _ _ _ => by rw [f1 489 (by decide)]⟩
            refine sub2 I1 g1 (MDW_g hU (fun k _ h2 _ => f1 k h2) (fun j _ _ => by rw [f1 489 (by decide)])) (fun i x hx => ?_) (fun _ => by rw [lx, e1, up_e]) ?_ (by rw [f1 551 (by decide)]; exact u551)
            · have := cU i x hx
              have il := ge_lt hx
              rw [lx] at il
              rw [rts_fr (CF_g gU) (sh_g gU).1] at this
              rw [rts_fr (CF_g g1) (sh_g g1).1, e1, up_j (by omega)]
              exact this
            · unfold BS at bU ⊢
              rw [f1 489 (by decide)]
              exact bU
        refine bk_X11_isChosen_113 ⟨fun q => absurd rfl q, fun _ => ⟨by omega, ?_⟩⟩
        refine bk_X11_lastOf_0 ?_
        rw [bit_01 b0 (by omega) (by omega) (by omega), Int.toNat_natCast, z5]
        by_cases hb : bit bits ((P.length : Nat) : Int) = true
        · rw [if_pos hb]
          rw [if_pos hb] at hla
          refine ⟨fun _ => bk_X11_optionMany_0 ?_, fun q => by omega⟩
          rw [Int.toNat_natCast, o46]
          refine ⟨by omega, by omega, PI_i (PI_i ⟨fun q => by omega, fun _ => ?_⟩)⟩
          rw [z5]
          refine ⟨by omega, by omega, by omega, fun I4 e4 => ?_⟩
          obtain ⟨g4, h4, c4, b4, e551, c4P, u4⟩ := I4f I4 e4
          refine ⟨fun q => by omega, fun _ => ?_⟩
          have hokv := hok P.length v (Nat.le_refl _) hb
          have f4 := CF_g g4
          have sh4 := sh_g g4
          have dm4 : dmo I4 cs z P.length v ↔ dmo I cs z P.length v := by
            unfold dmo
            rw [wy_cf f4, WHL_fr sh4.1]
          have lw4 : ∀ i y, LW I4 cs i y P.length v ↔ LW I cs i y P.length v := fun i y => LW_fr f4 sh4.1 sh4.2 cs i y P.length v
          refine c11_fits (z := z) h4 b0 b1 (by rw [f4.1 518 (by omega)]; exact s1) c4 (fun Y kY hY dm lw => ⟨fun q => by omega, fun _ => ?_⟩) (fun Y kY hY nf => ⟨fun _ => ?_, fun q => absurd rfl q⟩)
          · have gY := GFr_tr g4 (GFr_k kY)
            have cY := CHO_k c4 kY
            have cYP := CHO_k c4P kY
            have bY : BS z Y BZ := by
              unfold BS at b4 ⊢
              rw [kY.2 83 (by decide), kY.2 84 (by decide)]
              exact b4
            have y551 : Y 551 = Z 551 := by rw [kY.1 551 (by decide) (by decide) (by decide) (by decide)]; exact e551
            have okv : ok P.length v := hokv.mpr ⟨dm4.mp dm, fun i x hx hbi => (lw4 i x).mp (lw i x hx hbi)⟩
            have pY : ∀ q, cst (prm Y cs bits z) q (P ++ [v]) = cst (prm I cs bits z) q (P ++ [v]) := fun q => by
              have : prm Y cs bits z = prm I cs bits z := by
                funext t x
                unfold prm
                rw [prc_fr (CF_g gY) (sh_g gY).1]
              rw [this]
            have lx : (P ++ [v]).length = P.length + 1 := by rw [List.length_append, List.length_singleton]
            have := c11_canBeBetter (d := d + 4) (KI := fun x3 I6 => ((x3 = 0 → J none mX11_isChosen (d + 9) 0 0 113 [(0, vR 489), (1, vI bits), (2, vI z), (3, vI any), (4, vI (P.length : Int)), (5, vI 0)] [] (mk I6) (PI KI)) ∧ (¬ (x3 = 0) → J none mX11_isChosen (d + 9) 0 0 113 [(0, vR 489), (1, vI bits), (2, vI z), (3, vI any), (4, vI (P.length : Int)), (5, vI 1)] [] (mk I6) (PI KI)))) hY b0 b1 cY (by rw [lx, (CF_g gY).1 518 (by omega)]; omega) bY (fun lt => ⟨fun q => by omega, fun _ => deep Y gY hY cY cYP bY y551 okv (by rw [← pY]; exact lt)⟩) (fun ge => ⟨fun _ => skip Y gY hY cYP (by rw [kY.1 550 (by decide) (by decide) (by decide) (by decide)]; exact u4) bY y551 (fun _ ys hy => ?_) (fun q w => ?_) hb, fun q => absurd rfl q⟩)
            · rw [lx, show ((P.length + 1 : Nat) : Int) - 1 = (P.length : Int) from by omega] at this
              exact this
            · rw [pY, cst_snoc, Nat.zero_add] at ge
              have := cst_nn (fun s x => (prm_rng I cs bits z s x).1) (List.range' (P.length + 1) k) ys
              omega
            · have := hanyZ q
              rw [pY] at ge
              have := cst_up (M := 10999) (fun s x => (prm_rng I cs bits z s x).2) (by omega) (List.range' 0 (P ++ [v]).length) (P ++ [v])
              rw [List.length_range', lx] at this
              rw [lx] at ge
              omega
          · have no : ¬ ok P.length v := fun w => nf ⟨dm4.mpr (hokv.mp w).1, fun i x hx hbi => (lw4 i x).mpr ((hokv.mp w).2 i x hx hbi)⟩
            refine skip Y (GFr_tr g4 (GFr_k kY)) hY (CHO_k c4P kY) (by rw [kY.1 550 (by decide) (by decide) (by decide) (by decide)]; exact u4) ?_ (by rw [kY.1 551 (by decide) (by decide) (by decide) (by decide)]; exact e551) (fun w => absurd w no) (fun _ => no) hb
            unfold BS at b4 ⊢
            rw [kY.2 83 (by decide), kY.2 84 (by decide)]
            exact b4
        · rw [if_neg hb]
          rw [if_neg hb] at hla
          have v0 : v = 0 := by omega
          have hbf : bit bits ((P.length : Nat) : Int) = false := by simpa using hb
          refine ⟨fun q => absurd rfl q, fun _ => PI_i ⟨fun q => by omega, fun _ => ?_⟩⟩
          rw [z5]
          refine ⟨by omega, by omega, by omega, fun I4 e4 => ?_⟩
          obtain ⟨g4, h4, c4, b4, e551, c4P, u4⟩ := I4f I4 e4
          refine ⟨fun _ => deep I4 g4 h4 c4 c4P b4 e551 (hok2 _ _ hbf) ?_, fun q => absurd rfl q⟩
          rw [cst_snoc, Nat.zero_add]
          have p0 : prm I cs bits z P.length v = 0 := by
            unfold prm
            rw [if_neg hb]
          rw [p0, Int.add_zero]
          exact hnm hbf v0
    have f518 := (CF_g gX).1 518 (by omega)
    refine bk_X11_isChosen_20 ⟨fun q => by omega, fun _ => c11_saintMany ⟨fun _ => ?_, fun q => by rw [f518] at q; omega⟩⟩
    refine scan (la + 1) 0 X B (by omega) gX hX hP (by rw [h550 (by omega)]; rfl) hB (fun _ _ => hlt) hany (fun Y B' gY hY cY bY hf hfa => hK Y B' gY hY cY bY ?_ (fun q => ?_))
    · rw [hf]
      congr 1
      show _ = (odm I bits P.length).flatMap _
      rw [eod]
      rfl
    · have := hfa q
      show (odm I bits P.length).flatMap _ = []
      rw [eod]
      exact this
end MC
