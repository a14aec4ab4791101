section TK
variable {d : Nat} {I : HI} {K : HI → Prop} {KI : Int → HI → Prop} {K2 : Int → Int → HI → Prop} {cs : Int → List Int} {H : List Sn}
theorem NWf_w {s : Nat} {X Y : HI} (s4 : s < 4) (h : NWf I X) (g : WF s X Y) : NWf I Y := by
  refine ⟨fun k hk => by rw [g.1 k hk, h.1 k hk], fun j hj => by rw [g.2.1 j (by omega), h.2.1 j hj], fun j hj => ?_⟩
  obtain ⟨a1, a2, a3⟩ := g.2.2 j (by omega)
  obtain ⟨b1, b2, b3⟩ := h.2.2 j hj
  exact ⟨a1.trans b1, a2.trans b2, a3.trans b3⟩
theorem CF_n {X : HI} (h : NWf I X) : CF I X := ⟨fun k hk => h.1 k (by omega), by rw [h.1 489 (by omega)]⟩
theorem csx_len {xs : List Nat} {n i : Nat} (hT : CTY I) (ok : ∀ s : Int, 0 ≤ s → s < I 518 6 → OkW I s (cs s)) (en : (n : Int) = I 518 6) (lx : xs.length = n) (hx : ∀ (i x : Nat), xs[i]? = some x → x ≤ 3 * (rts I i).length) (u : Int) (u0 : 0 ≤ u) (u1 : u < I 518 6) : OkW I u (csx I cs xs i u) := by
  unfold csx
  by_cases w : 0 ≤ u ∧ u < (i : Int)
  · rw [if_pos w]
    unfold chc
    split
    · exact ok u u0 u1
    · have : xs[u.toNat]? = some (xs.getD u.toNat 0) := by
        rw [List.getD_eq_getElem?_getD, List.getElem?_eq_getElem (show u.toNat < xs.length from by omega)]
        rfl
      have hh := hx _ _ this
      rw [Int.toNat_of_nonneg u0] at hh
      exact (opc_ok hT u0 u1 (o := xs.getD u.toNat 0 - 1) (by omega)).1
  · rw [if_neg w]
    exact ok u u0 u1
/-- one saint's way comes to be the chosen one -/
theorem come1 {xs : List Nat} {n i x : Nat} {X : HI} (hT : CTY I) (ok : ∀ s : Int, 0 ≤ s → s < I 518 6 → OkW I s (cs s)) (en : (n : Int) = I 518 6) (n4 : n ≤ 4) (lx : xs.length = n) (hx : ∀ (i x : Nat), xs[i]? = some x → x ≤ 3 * (rts I i).length) (hO : ∀ s : Nat, (s : Int) < I 518 6 → MOs I I s) (hi : xs[i]? = some x) (x0 : x ≠ 0) (fX : NWf I X) (wX : MoW X (csx I cs xs i)) (h : ∀ Y : HI, NWf I Y → MoW Y (csx I cs xs (i + 1)) → K Y) : CI mX11_wayOf (d + 1) [vI (i : Int), vI ((x : Int) - 1)] X (fun x2 I2 => CV mX11_comesTo (d + 1) [vR 489, vI (i : Int), vI x2] I2 K) := by
  have il := ge_lt hi
  have s1 : (i : Int) < I 518 6 := by omega
  have rl := rts_len (I := I) (i : Int)
  have x1 := hx i x hi
  have cX := CF_n fX
  have f518 := cX.1 518 (by omega)
  have gd : xs.getD i 0 = x := by rw [List.getD_eq_getElem?_getD, hi]; rfl
  have okx := (opc_ok hT (s := (i : Int)) (by omega) s1 (o := x - 1) (by omega)).1
  refine bk_X11_wayOf_0 ⟨by omega, by omega, by omega, PI_i ?_⟩
  rw [show 4 + 60 * (i : Int) + ((x : Int) - 1) = ((4 + 60 * i + (x - 1) : Nat) : Int) from by omega]
  have slI := (hO i s1).2 (x - 1) (by omega)
  have slX : SL X ((4 + 60 * i + (x - 1) : Nat) : Int) 0 (wy I i (opc I i (x - 1))) := by
    rw [SL_EW (by omega), Int.toNat_natCast] at slI ⊢
    exact EW_cp slI (by rw [wy_len]; exact okx.2.1) (fX.2.1 _ (by omega)) (fun k hk => fX.2.2 _ (by omega))
  refine c11_comes2 (s := i) (w := 4 + 60 * i + (x - 1)) (by omega) (by omega) (by omega) slX (by rw [wy_len]; exact okx.2.1) (fun Y fY sY => h Y (NWf_w (by omega) fX fY) ?_)
  rw [csx_s, gd]
  have ec : chc I cs (i : Int) x = opc I (i : Int) (x - 1) := by
    unfold chc
    rw [if_neg x0]
  rw [ec]
  refine MoW_uw (w := 0) (by rw [f518]; exact s1) (by rw [f518, ← en]; omega) wX (fun u u0 u1 => ?_) fY ?_
  · rw [wy_len]
    rw [f518] at u1
    exact (csx_len hT ok en lx hx u u0 u1).2.1
  · rw [wy_cf cX]
    exact sY
theorem takem_lp {xs : List Nat} {n : Nat} (hT : CTY I) (ok : ∀ s : Int, 0 ≤ s → s < I 518 6 → OkW I s (cs s)) (en : (n : Int) = I 518 6) (n4 : n ≤ 4) (lx : xs.length = n) (hx : ∀ (i x : Nat), xs[i]? = some x → x ≤ 3 * (rts I i).length) (hO : ∀ s : Nat, (s : Int) < I 518 6 → MOs I I s) (hb : ∀ (i x : Nat), xs[i]? = some x → I 551 i = x) (hz : ∀ x ∈ xs, x ≠ 0) (h : ∀ Y : HI, NWf I Y → MoW Y (csx I cs xs n) → KI (I 489 84) Y) : ∀ (m i : Nat) (X : HI), i + m = n → NWf I X → MoW X (csx I cs xs i) → J none mX11_take (d + 2) 0 0 34 [(0, vR 489), (1, vI (i : Int))] [] (mk X) (PI KI)
  | 0, i, X, e, fX, wX => by
    refine bk_X11_take_34 (c11_saintMany ?_)
    rw [(CF_n fX).1 518 (by omega), fX.1 489 (by omega)]
    refine ⟨fun _ => PI_i (h X fX ?_), fun q => by omega⟩
    rw [show n = i from by omega]
    exact wX
  | m + 1, i, X, e, fX, wX => by
    obtain ⟨x, hi⟩ : ∃ x, xs[i]? = some x := ⟨_, List.getElem?_eq_getElem (by omega)⟩
    have x1 := hx i x hi
    have rl := rts_len (I := I) (i : Int)
    refine bk_X11_take_34 (c11_saintMany ?_)
    rw [(CF_n fX).1 518 (by omega), Int.toNat_natCast, fX.1 551 (by omega), hb i x hi]
    refine ⟨fun q => by omega, fun _ => ⟨by omega, by omega, come1 hT ok en n4 lx hx hO hi (hz x (List.mem_of_getElem? hi)) fX wX (fun Y fY wY => ⟨by omega, ?_⟩)⟩⟩
    have := takem_lp hT ok en n4 lx hx hO hb hz h m (i + 1) Y (by omega) fY wY
    exact this
theorem mendm_lp {xs : List Nat} {n : Nat} (hT : CTY I) (ok : ∀ s : Int, 0 ≤ s → s < I 518 6 → OkW I s (cs s)) (en : (n : Int) = I 518 6) (n4 : n ≤ 4) (lx : xs.length = n) (hx : ∀ (i x : Nat), xs[i]? = some x → x ≤ 3 * (rts I i).length) (hO : ∀ s : Nat, (s : Int) < I 518 6 → MOs I I s) (hb : ∀ (i x : Nat), xs[i]? = some x → I 551 i = x) (h : ∀ Y : HI, NWf I Y → MoW Y (csx I cs xs n) → KI (I 489 83) Y) : ∀ (m i : Nat) (X : HI), i + m = n → NWf I X → MoW X (csx I cs xs i) → J none mX11_mend (d + 2) 0 0 34 [(0, vR 489), (1, vI (i : Int))] [] (mk X) (PI KI)
  | 0, i, X, e, fX, wX => by
    refine bk_X11_mend_34 (c11_saintMany ?_)
    rw [(CF_n fX).1 518 (by omega), fX.1 489 (by omega)]
    refine ⟨fun _ => PI_i (h X fX ?_), fun q => by omega⟩
    rw [show n = i from by omega]
    exact wX
  | m + 1, i, X, e, fX, wX => by
    obtain ⟨x, hi⟩ : ∃ x, xs[i]? = some x := ⟨_, List.getElem?_eq_getElem (by omega)⟩
    have x1 := hx i x hi
    have rl := rts_len (I := I) (i : Int)
    have gd : xs.getD i 0 = x := by rw [List.getD_eq_getElem?_getD, hi]; rfl
    refine bk_X11_mend_34 (c11_saintMany ?_)
    rw [(CF_n fX).1 518 (by omega), Int.toNat_natCast, fX.1 551 (by omega), hb i x hi]
    refine ⟨fun q => by omega, fun _ => ⟨by omega, fun q => ⟨by omega, ?_⟩, fun q => ⟨by omega, by omega, come1 hT ok en n4 lx hx hO hi (by omega) fX wX (fun Y fY wY => ⟨by omega, ?_⟩)⟩⟩⟩
    · have ec : csx I cs xs (i + 1) = csx I cs xs i := by
        rw [csx_s, gd]
        funext u
        unfold uw
        by_cases eu : u = (i : Int)
        · rw [if_pos eu, eu]
          unfold csx chc
          rw [if_pos (by omega), if_neg (by omega)]
        · rw [if_neg eu]
      have := mendm_lp hT ok en n4 lx hx hO hb h m (i + 1) X (by omega) fX (by rw [ec]; exact wX)
      exact this
    · have := mendm_lp hT ok en n4 lx hx hO hb h m (i + 1) Y (by omega) fY wY
      exact this
/-- all of a night that was changed by choices -/
theorem WRel_new {X X2 Y : HI} {xs : List Nat} {n : Nat} {H' : List Sn} (hw : WRel X cs H) (hT : CTY X) (en : (n : Int) = X 518 6) (lx : xs.length = n) (hx : ∀ (i x : Nat), xs[i]? = some x → x ≤ 3 * (rts X i).length) (ca : CAf X X2) (ma : MAf X2 Y) (c33 : X2 33 100 = X 33 100 ∧ X2 33 101 = X 33 101) (cw : ClW X2 (csx X cs xs n)) (ch : ClH X2 H') (my : MoW Y (csx X cs xs n)) (mh : MoH Y H') (hH : ∀ x ∈ H', VSn X x) : WRel Y (csx X cs xs n) H' := by
  have n6 := hT.1.2.2.1
  have f2 := CF_ca ca
  have fm := CF_ma ma
  have f := CF_tr f2 fm
  have k := ma.1
  obtain ⟨w1, w2, w3, w4, w5, w6, w7⟩ := hw
  have e63 : Y 489 63 = X 489 63 := by rw [ma.2 63 (by decide) (by decide) (by decide) (by decide) (by decide), ca.1 489 (by omega) (by omega) (by omega) (by omega)]
  have e64 : Y 489 64 = X 489 64 := by rw [ma.2 64 (by decide) (by decide) (by decide) (by decide) (by decide), ca.1 489 (by omega) (by omega) (by omega) (by omega)]
  have e33 : Y 33 = X2 33 := k 33 (by omega) (by omega) (by omega) (by omega)
  refine ⟨ClW_fr cw (fm.1 518 (by omega)) (fm.1 521 (by omega)) (fm.1 522 (by omega)) e33 (by rw [f2.1 518 (by omega)]; exact n6.2) (fun j j1 j2 => k j (by omega) (by omega) (by omega) (by omega)), my, ?_, by rw [e33, e63, e64, c33.1, c33.2]; exact w4, ClH_fr ch (fm.1 518 (by omega)) (by rw [k 32 (by omega) (by omega) (by omega) (by omega)]) (by rw [k 32 (by omega) (by omega) (by omega) (by omega)]) (k 35 (by omega) (by omega) (by omega) (by omega)), mh, fun x hx' => VSn_fr (f.1 518 (by omega)) (f.1 521 (by omega)) (f.1 522 (by omega)) (hH x hx')⟩
  rw [e63, e64]
  refine VSn_fr (f.1 518 (by omega)) (f.1 521 (by omega)) (f.1 522 (by omega)) ⟨fun s s0 s1 => csx_len hT w3.1 en lx hx s s0 s1, w3.2⟩
theorem nzc_e {bits : Int} {n : Nat} {xs : List Nat} (hb : ∀ t : Nat, t < n → bit bits (t : Int) = true) (lx : xs.length = n) : nzc xs = cst (chm bits) (List.range' 0 n) xs := by
  unfold nzc
  rw [lx]
  refine cst_congr _ _ (fun s hs x => ?_)
  rw [List.mem_range'_1] at hs
  unfold chm
  by_cases e : x ≠ 0
  · rw [if_pos e, if_pos ⟨hb s (by omega), e⟩]
  · rw [if_neg e, if_neg (fun w => e w.2)]
theorem nzc_0 {xs : List Nat} (h : nzc xs ≤ 0) : ∀ x ∈ xs, x = 0 := by
  unfold nzc at h
  intro x hx
  obtain ⟨i, hi⟩ := List.getElem?_of_mem hx
  have il := ge_lt hi
  have := cst_el (prc := fun _ x => if x ≠ 0 then 1 else 0) (fun s x => by
    show (0 : Int) ≤ if x ≠ 0 then 1 else 0
    split <;> omega) (List.range' 0 xs.length) xs i i x (by rw [List.getElem?_range' il]; simp) hi
  by_cases e : x = 0
  · exact e
  · rw [if_pos e] at this
    omega
theorem csx_z {xs : List Nat} {n : Nat} (h : ∀ x ∈ xs, x = 0) : csx I cs xs n = cs := by
  funext u
  unfold csx
  split
  · unfold chc
    rw [if_pos]
    rw [List.getD_eq_getElem?_getD]
    cases e : xs[u.toNat]? with
    | none => rfl
    | some x => exact h x (List.mem_of_getElem? e)
  · rfl
end TK
