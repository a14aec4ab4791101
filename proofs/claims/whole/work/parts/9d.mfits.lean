def odm (I : HI) (bits : Int) (t : Nat) : List Nat := if bit bits (t : Int) = true then odn I t else [0]
def lwm (I : HI) (cs : Int → List Int) (bits : Int) (s x t y : Nat) : Prop := bit bits (s : Int) = true → bit bits (t : Int) = true → LW I cs s x t y
def okm (I : HI) (cs : Int → List Int) (bits z : Int) (t y : Nat) : Prop := bit bits (t : Int) = true → dmo I cs z t y
def enm (I : HI) (cs : Int → List Int) (bits : Int) (t x : Nat) : Int := if bit bits (t : Int) = true then prc I cs 0 t x else 0
def chm (bits : Int) (t x : Nat) : Int := if bit bits (t : Int) = true ∧ x ≠ 0 then 1 else 0
def prm (I : HI) (cs : Int → List Int) (bits z : Int) (t x : Nat) : Int := if bit bits (t : Int) = true then prc I cs z t x else 0
theorem prm_rng (I : HI) (cs : Int → List Int) (bits z : Int) (t x : Nat) : 0 ≤ prm I cs bits z t x ∧ prm I cs bits z t x ≤ 10999 := by
  unfold prm
  have := prc_rng I cs z t x
  split <;> omega
theorem enm_rng (I : HI) (cs : Int → List Int) (bits : Int) (t x : Nat) : 0 ≤ enm I cs bits t x ∧ enm I cs bits t x ≤ 999 := by
  unfold enm prc
  split
  · rw [if_neg (fun z => z.1 rfl)]
    omega
  · omega
theorem chm_rng (bits : Int) (t x : Nat) : 0 ≤ chm bits t x ∧ chm bits t x ≤ 1 := by
  unfold chm
  split <;> omega
theorem prm_e (I : HI) (cs : Int → List Int) (bits z : Int) (t x : Nat) : prm I cs bits z t x = enm I cs bits t x + (if z ≠ 0 then 10000 * chm bits t x else 0) := by
  unfold prm enm chm prc
  by_cases h : bit bits (t : Int) = true
  · by_cases hz : z ≠ 0
    · by_cases hx : x ≠ 0
      · simp [h, hz, hx]
      · have : x = 0 := by omega
        simp [h, hz, this]
    · have : z = 0 := by omega
      simp [h, this]
  · simp [h]
theorem cst_e (I : HI) (cs : Int → List Int) (bits z : Int) : ∀ ms xs : List Nat, cst (prm I cs bits z) ms xs = cst (enm I cs bits) ms xs + (if z ≠ 0 then 10000 * cst (chm bits) ms xs else 0)
  | [], xs => by
    cases xs <;> simp [cst]
  | s :: ms, [] => by simp [cst]
  | s :: ms, x :: xs => by
    show prm I cs bits z s x + cst (prm I cs bits z) ms xs = (enm I cs bits s x + cst (enm I cs bits) ms xs) + (if z ≠ 0 then 10000 * (chm bits s x + cst (chm bits) ms xs) else 0)
    rw [cst_e I cs bits z ms xs, prm_e]
    split <;> omega
theorem cst_snoc (f : Nat → Nat → Int) (x : Nat) : ∀ (P : List Nat) (i : Nat), cst f (List.range' i (P ++ [x]).length) (P ++ [x]) = cst f (List.range' i P.length) P + f (i + P.length) x
  | [], i => by
    show f i x + 0 = 0 + f (i + 0) x
    rw [Nat.add_zero]
    omega
  | y :: P, i => by
    show f i y + cst f (List.range' (i + 1) (P ++ [x]).length) (P ++ [x]) = f i y + cst f (List.range' (i + 1) P.length) P + f (i + (P.length + 1)) x
    rw [cst_snoc f x P (i + 1), show i + 1 + P.length = i + (P.length + 1) from by omega]
    omega
theorem cst_app (f : Nat → Nat → Int) : ∀ (P Q : List Nat) (i : Nat), cst f (List.range' i (P ++ Q).length) (P ++ Q) = cst f (List.range' i P.length) P + cst f (List.range' (i + P.length) Q.length) Q
  | [], Q, i => by
    show cst f (List.range' i Q.length) Q = 0 + cst f (List.range' (i + 0) Q.length) Q
    rw [Nat.add_zero]
    omega
  | y :: P, Q, i => by
    show f i y + cst f (List.range' (i + 1) (P ++ Q).length) (P ++ Q) = f i y + cst f (List.range' (i + 1) P.length) P + cst f (List.range' (i + (P.length + 1)) Q.length) Q
    rw [cst_app f P Q (i + 1), show i + 1 + P.length = i + (P.length + 1) from by omega]
    omega
/-- what is chosen so far -/
def CHO (I : HI) (Q : List Nat) : Prop := ∀ (i x : Nat), Q[i]? = some x → I 550 i = x ∧ x ≤ 3 * (rts I i).length
/-- the best so far, as one number -/
def BS (z : Int) (X : HI) (B : Int) : Prop := (X 489 84 = -1 ∧ B = 100000 ∧ X 489 83 = 0) ∨ ((0 ≤ X 489 84 ∧ X 489 84 ≤ 4000) ∧ (0 ≤ X 489 83 ∧ X 489 83 ≤ 4) ∧ B = X 489 84 + (if z ≠ 0 then 10000 * X 489 83 else 0) ∧ (z = 0 → X 489 83 = 0))
section MC
variable {d : Nat} {I : HI} {KI : Int → HI → Prop} {K2 : Int → Int → HI → Prop} {cs : Int → List Int}
theorem ends_lp {bits : Int} {Q : List Nat} (h : MDW I cs) (b0 : 0 ≤ bits) (b1 : bits < 16) (hQ : CHO I Q) (lQ : (Q.length : Int) ≤ I 518 6) : ∀ (q2 q1 : List Nat) (a : Int), Q = q1 ++ q2 → 0 ≤ a → a ≤ 1000 * q1.length → KI (a + cst (enm I cs bits) (List.range' q1.length q2.length) q2) I → J none mX11_endsTo (d + 3) 0 0 5 [(0, vR 489), (1, vI ((Q.length : Int) - 1)), (2, vI bits), (3, vI a), (4, vI (q1.length : Int))] [] (mk I) (PI KI)
  | [], q1, a, e, a0, a1, hk => by
    rw [List.append_nil] at e
    refine bk_X11_endsTo_5 ⟨fun _ => PI_i (K_eq hk ?_), fun q => ?_⟩
    · show a + 0 = a
      omega
    · rw [e] at q
      omega
  | x :: q2, q1, a, e, a0, a1, hk => by
    have n6 := h.1.1.1.2.2.1
    have hl : Q.length = q1.length + (q2.length + 1) := by rw [e]; simp
    have hx : Q[q1.length]? = some x := by rw [e]; simp
    obtain ⟨g1, g2⟩ := hQ _ _ hx
    have rl := rts_len (I := I) ((q1.length : Nat) : Int)
    have t1 : ((q1.length : Nat) : Int) < I 518 6 := by omega
    have hk' : KI (a + (enm I cs bits q1.length x + cst (enm I cs bits) (List.range' (q1.length + 1) q2.length) q2)) I := hk
    have ih := ends_lp h b0 b1 hQ lQ q2 (q1 ++ [x]) (a + enm I cs bits q1.length x) (by rw [e]; simp) (by have := enm_rng I cs bits q1.length x; omega) (by have := enm_rng I cs bits q1.length x; rw [List.length_append, List.length_singleton]; omega) (by rw [List.length_append, List.length_singleton]; exact K_eq hk' (by omega))
    rw [List.length_append, List.length_singleton] at ih
    refine bk_X11_endsTo_5 ⟨fun q => by omega, fun _ => ?_⟩
    rw [bit_01 b0 (by omega) (by omega) (by omega)]
    unfold enm at ih
    by_cases hb : bit bits ((q1.length : Nat) : Int) = true
    · rw [if_pos hb] at ih ⊢
      refine ⟨fun q => absurd rfl q, fun _ => c11_wayBy (by omega) (by omega) g1 ?_⟩
      obtain ⟨w1, w2, w3, w4⟩ := mway h t1 g2
      have e9 := w2.2.2.2.1
      have e0 := endS_nn w2.1
      refine c11_endOf (by omega) (by omega) w1 w2.2.2.2.2 ⟨by omega, by omega, ?_⟩
      unfold prc at ih
      rw [if_neg (fun z => z.1 rfl), show min 999 (max 0 (endS 0 (chw I cs ((q1.length : Nat) : Int) x))) + 0 = endS 0 (chw I cs ((q1.length : Nat) : Int) x) from by omega] at ih
      exact ih
    · rw [if_neg hb] at ih ⊢
      rw [Int.add_zero] at ih
      exact ⟨fun _ => ⟨by omega, ih⟩, fun q => by omega⟩
theorem c11_endsTo {bits : Int} {Q : List Nat} (h : MDW I cs) (b0 : 0 ≤ bits) (b1 : bits < 16) (hQ : CHO I Q) (lQ : (Q.length : Int) ≤ I 518 6) (hk : KI (cst (enm I cs bits) (List.range' 0 Q.length) Q) I) : CI mX11_endsTo (d + 3) [vR 489, vI ((Q.length : Int) - 1), vI bits] I KI :=
  bk_X11_endsTo_0 (ends_lp h b0 b1 hQ lQ Q [] 0 rfl (by omega) (by omega) (K_eq hk (by simp)))
theorem chg_lp {bits : Int} {Q : List Nat} (b0 : 0 ≤ bits) (b1 : bits < 16) (hQ : CHO I Q) (l4 : Q.length ≤ 4) : ∀ (q2 q1 : List Nat) (a : Int), Q = q1 ++ q2 → 0 ≤ a → a ≤ q1.length → KI (a + cst (chm bits) (List.range' q1.length q2.length) q2) I → J none mX11_changesTo (d + 1) 0 0 5 [(0, vR 489), (1, vI ((Q.length : Int) - 1)), (2, vI bits), (3, vI a), (4, vI (q1.length : Int))] [] (mk I) (PI KI)
  | [], q1, a, e, a0, a1, hk => by
    rw [List.append_nil] at e
    refine bk_X11_changesTo_5 ⟨fun _ => PI_i (K_eq hk ?_), fun q => ?_⟩
    · show a + 0 = a
      omega
    · rw [e] at q
      omega
  | x :: q2, q1, a, e, a0, a1, hk => by
    have hl : Q.length = q1.length + (q2.length + 1) := by rw [e]; simp
    have hx : Q[q1.length]? = some x := by rw [e]; simp
    obtain ⟨g1, g2⟩ := hQ _ _ hx
    have hk' : KI (a + (chm bits q1.length x + cst (chm bits) (List.range' (q1.length + 1) q2.length) q2)) I := hk
    have ih := chg_lp b0 b1 hQ l4 q2 (q1 ++ [x]) (a + chm bits q1.length x) (by rw [e]; simp) (by have := chm_rng bits q1.length x; omega) (by have := chm_rng bits q1.length x; rw [List.length_append, List.length_singleton]; omega) (by rw [List.length_append, List.length_singleton]; exact K_eq hk' (by omega))
    rw [List.length_append, List.length_singleton] at ih
    refine bk_X11_changesTo_5 ⟨fun q => by omega, fun _ => ?_⟩
    rw [bit_01 b0 (by omega) (by omega) (by omega), Int.toNat_natCast, g1]
    unfold chm at ih
    by_cases hb : bit bits ((q1.length : Nat) : Int) = true
    · rw [if_pos hb]
      refine ⟨fun q => absurd rfl q, fun _ => ⟨by omega, fun q => ⟨by omega, ?_⟩, fun q => ⟨by omega, by omega, ?_⟩⟩⟩
      · rw [if_neg (fun z => z.2 (by omega)), Int.add_zero] at ih
        exact ih
      · rw [if_pos ⟨hb, by omega⟩] at ih
        exact ih
    · rw [if_neg hb]
      rw [if_neg (fun z => hb z.1), Int.add_zero] at ih
      exact ⟨fun _ => ⟨by omega, ih⟩, fun q => by omega⟩
theorem c11_changesTo {bits : Int} {Q : List Nat} (b0 : 0 ≤ bits) (b1 : bits < 16) (hQ : CHO I Q) (l4 : Q.length ≤ 4) (hk : KI (cst (chm bits) (List.range' 0 Q.length) Q) I) : CI mX11_changesTo (d + 1) [vR 489, vI ((Q.length : Int) - 1), vI bits] I KI :=
  bk_X11_changesTo_0 (chg_lp b0 b1 hQ l4 Q [] 0 rfl (by omega) (by omega) (K_eq hk (by simp)))
theorem c11_canBeBetter {bits z B : Int} {Q : List Nat} (h : MDW I cs) (b0 : 0 ≤ bits) (b1 : bits < 16) (hQ : CHO I Q) (lQ : (Q.length : Int) ≤ I 518 6) (hB : BS z I B) (k1 : cst (prm I cs bits z) (List.range' 0 Q.length) Q < B → KI 1 I) (k0 : B ≤ cst (prm I cs bits z) (List.range' 0 Q.length) Q → KI 0 I) : CI mX11_canBeBetter (d + 4) [vR 489, vI ((Q.length : Int) - 1), vI bits, vI z] I KI := by
  have n6 := h.1.1.1.2.2.1
  have ce := cst_e I cs bits z (List.range' 0 Q.length) Q
  have en0 := cst_nn (fun s x => (enm_rng I cs bits s x).1) (List.range' 0 Q.length) Q
  have en1 := cst_up (M := 999) (fun s x => (enm_rng I cs bits s x).2) (by omega) (List.range' 0 Q.length) Q
  have ch0 := cst_nn (fun s x => (chm_rng bits s x).1) (List.range' 0 Q.length) Q
  have ch1 := cst_up (M := 1) (fun s x => (chm_rng bits s x).2) (by omega) (List.range' 0 Q.length) Q
  rw [List.length_range'] at en1 ch1
  refine bk_X11_canBeBetter_0 ?_
  rcases hB with ⟨hE, hB, hC⟩ | ⟨hE, hC, hB, hz⟩
  · refine ⟨fun q => absurd hE q, fun _ => PI_i (k1 ?_)⟩
    rw [ce, hB]
    split <;> omega
  · by_cases q0 : z = 0
    · have hz' := hz q0
      rw [hz']
      rw [if_neg (fun w => w q0)] at hB
      rw [if_neg (fun w => w q0)] at ce
      refine ⟨fun _ => ⟨fun _ => ⟨fun q => by omega, fun _ => ⟨fun q => absurd rfl q, fun _ => c11_endsTo h b0 b1 hQ lQ ⟨fun q => PI_i (k0 (by omega)), fun q => PI_i (k1 (by omega))⟩⟩⟩, fun q => absurd q0 q⟩, fun q => by omega⟩
    · rw [if_pos q0] at hB ce
      refine ⟨fun _ => ⟨fun q => absurd q q0, fun _ => c11_changesTo b0 b1 hQ (by omega) ⟨fun q => PI_i (k1 (by omega)), fun q => ⟨fun q2 => PI_i (k0 (by omega)), fun q2 => c11_endsTo h b0 b1 hQ lQ ⟨fun q3 => PI_i (k0 (by omega)), fun q3 => PI_i (k1 (by omega))⟩⟩⟩⟩, fun q => by omega⟩
theorem CHO_k {X : HI} {Q : List Nat} (h : CHO I Q) (f : KFr I X) : CHO X Q := by
  intro i x hx
  rw [f.1 550 (by decide) (by decide) (by decide) (by decide), rts_fr (CF_k f) (f.2 63 (by decide))]
  exact h i x hx
theorem fits_lp {bits z : Int} {P : List Nat} {x : Nat} (b0 : 0 ≤ bits) (b1 : bits < 16) (s1 : (P.length : Int) < I 518 6) (n4 : I 518 6 ≤ 4) (k1 : ∀ Y : HI, KFr I Y → MDW Y cs → (∀ (i y : Nat), P[i]? = some y → bit bits (i : Int) = true → LW I cs i y P.length x) → KI 1 Y) (k0 : ∀ Y : HI, KFr I Y → MDW Y cs → (¬ ∀ (i y : Nat), P[i]? = some y → bit bits (i : Int) = true → LW I cs i y P.length x) → KI 0 Y) : ∀ (n i : Nat) (X : HI), i + n = P.length → KFr I X → MDW X cs → CHO X (P ++ [x]) → (∀ (j y : Nat), j < i → P[j]? = some y → bit bits (j : Int) = true → LW I cs j y P.length x) → J none mX11_fits (d + 8) 0 0 26 [(0, vR 489), (1, vI (P.length : Int)), (2, vI bits), (3, vI z), (4, vI (i : Int))] [] (mk X) (PI KI)
  | 0, i, X, e, fX, hX, hQ, hd => by
    refine bk_X11_fits_26 ⟨fun _ => PI_i (k1 X fX hX (fun j y hj hb => hd j y (by have := ge_lt hj; omega) hj hb)), fun q => by omega⟩
  | n + 1, i, X, e, fX, hX, hQ, hd => by
    have ih := fun Y => fits_lp (z := z) b0 b1 s1 n4 k1 k0 n (i + 1) Y
    obtain ⟨y, hy⟩ : ∃ y, P[i]? = some y := ⟨_, List.getElem?_eq_getElem (by omega)⟩
    have cX := CF_k fX
    have f518 := cX.1 518 (by omega)
    have hyi : (P ++ [x])[i]? = some y := by rw [List.getElem?_append_left (by omega)]; exact hy
    have hxs : (P ++ [x])[P.length]? = some x := List.getElem?_concat_length
    obtain ⟨g1, g2⟩ := hQ i y hyi
    obtain ⟨g3, g4⟩ := hQ P.length x hxs
    have rl1 := rts_len (I := X) ((i : Nat) : Int)
    have rl2 := rts_len (I := X) ((P.length : Nat) : Int)
    refine bk_X11_fits_26 ⟨fun q => by omega, fun _ => ?_⟩
    rw [bit_01 b0 (by omega) (by omega) (by omega)]
    by_cases hb : bit bits (i : Int) = true
    · rw [if_pos hb]
      refine ⟨fun q => absurd rfl q, fun _ => c11_wayBy (by omega) (by omega) g1 (c11_wayBy (by omega) (by omega) g3 ?_)⟩
      refine c11_areKnown hX (by rw [f518]; omega) (by rw [f518]; exact s1) g2 g4 (fun Y l kY hY hl => ?_)
      have lw : LW X cs i y P.length x ↔ LW I cs i y P.length x := LW_fr cX (fX.2 63 (by decide)) (fX.2 64 (by decide)) cs _ _ _ _
      rw [lw] at hl
      refine ⟨fun q => ⟨by omega, ?_⟩, fun q => PI_i (k0 Y (KFr_tr fX kY) hY (fun z => ?_))⟩
      · have := ih Y (by omega) (KFr_tr fX kY) hY (CHO_k hQ kY) (fun j y' hj hj' hb' => by
          by_cases ej : j = i
          · subst ej
            rw [hy] at hj'
            cases hj'
            rcases hl with w | w
            · exact w.2
            · exact absurd w.1 q
          · exact hd j y' (by omega) hj' hb')
        exact this
      · rcases hl with w | w
        · omega
        · exact w.2 (z i y hy hb)
    · rw [if_neg hb]
      refine ⟨fun _ => ⟨by omega, ?_⟩, fun q => by omega⟩
      have := ih X (by omega) fX hX hQ (fun j y' hj hj' hb' => by
        by_cases ej : j = i
        · subst ej
          exact absurd hb' hb
        · exact hd j y' (by omega) hj' hb')
      exact this
theorem c11_fits {bits z : Int} {P : List Nat} {x : Nat} (h : MDW I cs) (b0 : 0 ≤ bits) (b1 : bits < 16) (s1 : (P.length : Int) < I 518 6) (hQ : CHO I (P ++ [x])) (k1 : ∀ Y : HI, KFr I Y → MDW Y cs → dmo I cs z P.length x → (∀ (i y : Nat), P[i]? = some y → bit bits (i : Int) = true → LW I cs i y P.length x) → KI 1 Y) (k0 : ∀ Y : HI, KFr I Y → MDW Y cs → ¬ (dmo I cs z P.length x ∧ ∀ (i y : Nat), P[i]? = some y → bit bits (i : Int) = true → LW I cs i y P.length x) → KI 0 Y) : CI mX11_fits (d + 8) [vR 489, vI (P.length : Int), vI bits, vI z] I KI := by
  have n6 := h.1.1.1.2.2.1
  have hxs : (P ++ [x])[P.length]? = some x := List.getElem?_concat_length
  obtain ⟨g3, g4⟩ := hQ P.length x hxs
  have go : dmo I cs z P.length x → J none mX11_fits (d + 8) 0 0 26 [(0, vR 489), (1, vI (P.length : Int)), (2, vI bits), (3, vI z), (4, vI 0)] [] (mk I) (PI KI) := fun dm => fits_lp (z := z) b0 b1 s1 n6.2 (fun Y kY hY g => k1 Y kY hY dm g) (fun Y kY hY g => k0 Y kY hY (fun w => g w.2)) P.length 0 I (by omega) (KFr_rfl I) h hQ (fun j y hj => by omega)
  refine bk_X11_fits_0 ?_
  rw [Int.toNat_natCast, g3]
  refine ⟨by omega, fun q => go (fun w => absurd w (by omega)), fun q => ⟨fun q2 => PI_i (k0 I (KFr_rfl I) h (fun w => absurd q2 (w.1 (by omega)).1)), fun q2 => ?_⟩⟩
  refine c11_isWhole h s1 (fun w => ⟨fun _ => go (fun _ => ⟨q2, w⟩), fun q3 => by omega⟩) (fun w => ⟨fun q3 => absurd rfl q3, fun _ => PI_i (k0 I (KFr_rfl I) h (fun u => w (u.1 (by omega)).2))⟩)
end MC
