/-- what carrying out changes in the class -/
def ZFr (I X : HI) : Prop := (∀ k, k ≠ 32 → k ≠ 33 → (k < 37 ∨ 56 < k) → X k = I k) ∧ (∀ j, j ≠ 7 → X 32 j = I 32 j) ∧ (X 33 100 = I 33 100 ∧ X 33 101 = I 33 101)
theorem ZFr_rfl (I : HI) : ZFr I I := ⟨fun _ _ _ _ => rfl, fun _ _ => rfl, rfl, rfl⟩
theorem ZFr_tr {I X Y : HI} (h : ZFr I X) (g : ZFr X Y) : ZFr I Y := ⟨fun k h1 h2 h3 => by rw [g.1 k h1 h2 h3, h.1 k h1 h2 h3], fun j hj => by rw [g.2.1 j hj, h.2.1 j hj], g.2.2.1.trans h.2.2.1, g.2.2.2.trans h.2.2.2⟩
theorem ZFr_a {s : Nat} {I X : HI} (s4 : s < 4) (h : AdF s I X) : ZFr I X := ⟨fun k h1 h2 h3 => h.1 k h1 h2 (by omega), h.2.1, h.2.2 100 (by omega) (by omega), h.2.2 101 (by omega) (by omega)⟩
theorem CF_z {I X : HI} (h : ZFr I X) : CF I X := ⟨fun k hk => h.1 k (by omega) (by omega) (by omega), by rw [h.1 489 (by omega) (by omega) (by omega)]⟩
/-- ways by choices, up to a saint -/
def csx (I : HI) (cs : Int → List Int) (xs : List Nat) (i : Nat) : Int → List Int := fun u => if 0 ≤ u ∧ u < (i : Int) then chc I cs u (xs.getD u.toNat 0) else cs u
theorem csx_0 (I : HI) (cs : Int → List Int) (xs : List Nat) : csx I cs xs 0 = cs := by
  funext u
  unfold csx
  rw [if_neg (by omega)]
theorem csx_s (I : HI) (cs : Int → List Int) (xs : List Nat) (i : Nat) : csx I cs xs (i + 1) = uw (csx I cs xs i) (i : Int) (chc I cs i (xs.getD i 0)) := by
  funext u
  unfold uw csx
  by_cases e : u = (i : Int)
  · subst e
    rw [if_pos (by omega), if_pos rfl, Int.toNat_natCast]
  · rw [if_neg e]
    by_cases q : 0 ≤ u ∧ u < (i : Int)
    · rw [if_pos q, if_pos (by omega)]
    · rw [if_neg q, if_neg (by omega)]
def nzc (xs : List Nat) : Int := cst (fun _ x => if x ≠ 0 then 1 else 0) (List.range' 0 xs.length) xs
section TK
variable {d : Nat} {I : HI} {K : HI → Prop} {KI : Int → HI → Prop} {K2 : Int → Int → HI → Prop} {cs : Int → List Int} {H : List Sn}
theorem carry_lp {xs : List Nat} {n : Nat} (hT : CTY I) (hr : RTs I) (en : (n : Int) = I 518 6) (hms : MSs I (List.range' 0 n)) (lx : xs.length = n) (hx : ∀ (i x : Nat), xs[i]? = some x → I 481 i = x ∧ x ≤ 3 * (rts I i).length) (ok : ∀ s : Int, 0 ≤ s → s < I 518 6 → OkW I s (cs s)) (h : ∀ Y : HI, ZFr I Y → (Y 32 7 = I 32 7 ∨ Y 32 7 = 1) → (Y 32 7 = 1 ∨ (∀ x ∈ xs, x = 0)) → ClW Y (csx I cs xs n) → KI (nzc xs) Y) : ∀ (x2 x1 : List Nat) (X : HI) (c : Int), xs = x1 ++ x2 → ZFr I X → (X 32 7 = I 32 7 ∨ X 32 7 = 1) → (X 32 7 = 1 ∨ (∀ x ∈ x1, x = 0)) → ClW X (csx I cs xs x1.length) → (0 ≤ c ∧ c ≤ x1.length) → c + cst (fun _ x => if x ≠ 0 then 1 else 0) (List.range' x1.length x2.length) x2 = nzc xs → J none mX6_carryOut (d + 5) 0 0 4 [(0, vR 477), (1, vI c), (2, vI (x1.length : Int))] [] (mk X) (PI KI)
  | [], x1, X, c, e, zX, x7, x7', wX, cr, hc => by
    rw [List.append_nil] at e
    have e7 : X 477 7 = n := by
      rw [zX.1 477 (by omega) (by omega) (by omega), hms.1, List.length_range']
    refine bk_X6_carryOut_4 ?_
    rw [e7]
    refine ⟨fun _ => PI_i ?_, fun q => by rw [← e, lx] at q; omega⟩
    have := h X zX x7 (by rw [e]; exact x7') (by rw [← e, lx] at wX; exact wX)
    rw [← hc] at this
    exact K_eq this (Int.add_zero c)
  | x :: x2, x1, X, c, e, zX, x7, x7', wX, cr, hc => by
    have n6 := hT.1.2.2.1
    have cX := CF_z zX
    have hl : xs.length = x1.length + (x2.length + 1) := by rw [e]; simp
    have hxi : xs[x1.length]? = some x := by rw [e]; simp
    have gd : xs.getD x1.length 0 = x := by rw [List.getD_eq_getElem?_getD, hxi]; rfl
    obtain ⟨g1, g2⟩ := hx _ _ hxi
    have rl := rts_len (I := I) ((x1.length : Nat) : Int)
    have s1 : ((x1.length : Nat) : Int) < I 518 6 := by omega
    have e7 : X 477 7 = n := by
      rw [zX.1 477 (by omega) (by omega) (by omega), hms.1, List.length_range']
    have e79 : X 479 x1.length = (x1.length : Int) := by
      rw [zX.1 479 (by omega) (by omega) (by omega)]
      refine hms.2.1 _ _ ?_
      rw [List.getElem?_range' (by omega)]
      simp
    have hc' : c + ((if x ≠ 0 then 1 else 0) + cst (fun _ x => if x ≠ 0 then 1 else 0) (List.range' (x1.length + 1) x2.length) x2) = nzc xs := hc
    refine bk_X6_carryOut_4 ?_
    rw [e7, Int.toNat_natCast, e79, Int.toNat_natCast, zX.1 481 (by omega) (by omega) (by omega), g1]
    refine ⟨fun q => by omega, fun _ => ⟨by omega, by omega, fun q => ⟨by omega, ?_⟩, fun q => ⟨by omega, ?_⟩⟩⟩
    · -- it stays
      have x0 : x = 0 := by omega
      rw [if_neg (fun w => w x0)] at hc'
      have := carry_lp hT hr en hms lx hx ok h x2 (x1 ++ [x]) X c (by rw [e]; simp) zX x7 (by
        rcases x7' with w | w
        · exact Or.inl w
        · refine Or.inr (fun y hy => ?_)
          rcases List.mem_append.mp hy with hy | hy
          · exact w y hy
          · rw [List.mem_singleton.mp hy]
            exact x0) (by
        rw [List.length_append, List.length_singleton, csx_s, gd]
        have : uw (csx I cs xs x1.length) ((x1.length : Nat) : Int) (chc I cs ((x1.length : Nat) : Int) x) = csx I cs xs x1.length := by
          funext u
          unfold uw
          by_cases eu : u = ((x1.length : Nat) : Int)
          · rw [if_pos eu, eu]
            unfold csx chc
            rw [if_pos x0, if_neg (by omega)]
          · rw [if_neg eu]
        rw [this]
        exact wX) (by rw [List.length_append, List.length_singleton]; omega) (by rw [List.length_append, List.length_singleton]; omega)
      rw [List.length_append, List.length_singleton] at this
      exact this
    · -- it takes an option
      have x0 : x ≠ 0 := by omega
      rw [if_pos x0] at hc'
      have sh : X 489 63 = I 489 63 := by rw [zX.1 489 (by omega) (by omega) (by omega)]
      have f518 := cX.1 518 (by omega)
      have rtX : RT1 X X x1.length := RT1_b cX sh (RT1_t (hr x1.length s1) (by rw [zX.1 71 (by omega) (by omega) (by omega)]) (fun j _ _ => ⟨by rw [zX.1 72 (by omega) (by omega) (by omega)], by rw [zX.1 73 (by omega) (by omega) (by omega)]⟩) (fun k k1 k2 => zX.1 k (by omega) (by omega) (by omega)))
      refine c6_adopt (CTY_fr hT cX) (by rw [f518]; exact s1) rtX (by omega) (by rw [rts_fr cX sh]; exact g2) (fun Y aY y7 eY tY => ⟨by omega, by omega, ?_⟩)
      rw [opc_fr cX sh] at eY tY
      rw [wy_cf cX, hm_cf cX] at tY
      have zY := ZFr_tr zX (ZFr_a (by omega) aY)
      have ec : chc I cs ((x1.length : Nat) : Int) x = opc I ((x1.length : Nat) : Int) (x - 1) := by
        unfold chc
        rw [if_neg x0]
      have okx : ∀ u : Int, 0 ≤ u → u < X 518 6 → (csx I cs xs x1.length u).length ≤ 24 := fun u u0 u1 => by
        rw [f518] at u1
        unfold csx
        by_cases w : 0 ≤ u ∧ u < ((x1.length : Nat) : Int)
        · rw [if_pos w]
          unfold chc
          split
          · exact (ok u u0 u1).2.1
          · rename_i w2
            have : xs[u.toNat]? = some (xs.getD u.toNat 0) := by
              rw [List.getD_eq_getElem?_getD, List.getElem?_eq_getElem (show u.toNat < xs.length from by omega)]
              rfl
            have hh := (hx _ _ this).2
            rw [Int.toNat_of_nonneg u0] at hh
            have := (opc_ok hT u0 u1 (o := xs.getD u.toNat 0 - 1) (by omega)).2
            omega
        · rw [if_neg w]
          exact (ok u u0 u1).2.1
      have wY : ClW Y (csx I cs xs (x1.length + 1)) := by
        rw [csx_s, gd, ec]
        refine ClW_put wX okx (by rw [f518]; exact n6.2) (aY.1 518 (by omega) (by omega) (by omega)) (aY.1 521 (by omega) (by omega) (by omega)) (aY.1 522 (by omega) (by omega) (by omega)) (fun u u0 u1 un => ⟨aY.2.2 _ (by omega) (by omega), fun k hk => aY.2.2 _ (by omega) (by omega)⟩) (by omega) (fun k k1 k2 k3 => aY.1 k (by omega) (by omega) (by omega)) eY ?_
        rw [Int.toNat_natCast, hm_cf cX, wy_cf cX]
        exact tY
      have := carry_lp hT hr en hms lx hx ok h x2 (x1 ++ [x]) Y (c + 1) (by rw [e]; simp) zY (Or.inr y7) (Or.inl y7) (by rw [List.length_append, List.length_singleton]; exact wY) (by rw [List.length_append, List.length_singleton]; omega) (by rw [List.length_append, List.length_singleton]; omega)
      rw [List.length_append, List.length_singleton] at this
      exact this
theorem c6_carryOut {xs : List Nat} {n : Nat} (hT : CTY I) (hr : RTs I) (en : (n : Int) = I 518 6) (hms : MSs I (List.range' 0 n)) (lx : xs.length = n) (hx : ∀ (i x : Nat), xs[i]? = some x → I 481 i = x ∧ x ≤ 3 * (rts I i).length) (ok : ∀ s : Int, 0 ≤ s → s < I 518 6 → OkW I s (cs s)) (hw : ClW I cs) (h : ∀ Y : HI, ZFr I Y → (Y 32 7 = I 32 7 ∨ Y 32 7 = 1) → (Y 32 7 = 1 ∨ (∀ x ∈ xs, x = 0)) → ClW Y (csx I cs xs n) → KI (nzc xs) Y) : CI mX6_carryOut (d + 5) [vR 477] I KI :=
  bk_X6_carryOut_0 (carry_lp hT hr en hms lx hx ok h xs [] I 0 rfl (ZFr_rfl I) (Or.inl rfl) (Or.inr (fun x hx => by cases hx)) (by rw [List.length_nil, csx_0]; exact hw) (by simp) (by unfold nzc; simp))
/-- the model's ways come to be the chosen ones -/
theorem MoW_uw {X Y : HI} {s w : Nat} {v : List Int} {cs' : Int → List Int} (s1 : (s : Int) < X 518 6) (n4 : X 518 6 ≤ 4) (hX : MoW X cs') (hl : ∀ u : Int, 0 ≤ u → u < X 518 6 → (wy X u (cs' u)).length ≤ 24) (f : WF s X Y) (g : SL Y s 0 (wy X s v)) : MoW Y (uw cs' s v) := by
  have c := CF_w f
  refine MoW_put hX hl n4 (c.1 518 (by omega)) (c.1 521 (by omega)) (c.1 522 (by omega)) (fun u u4 un => ⟨f.2.1 u (by omega), fun k hk => f.2.2 _ (by omega)⟩) (by omega) g
end TK
