/-- what the model's options() changes -/
def OFm (I X : HI) : Prop := (∀ k, (k < 532 ∨ 535 < k) → (k < 546 ∨ 549 < k) → X k = I k) ∧ (∀ j, j < 4 → X 532 j = I 532 j) ∧ (∀ j, j < 96 → X 533 j = I 533 j ∧ X 534 j = I 534 j ∧ X 535 j = I 535 j)
theorem CF_om {I X : HI} (h : OFm I X) : CF I X := ⟨fun k hk => h.1 k (by omega) (by omega), by rw [h.1 489 (by omega) (by omega)]⟩
def MOp (I Y : HI) : Prop := ∀ s : Nat, (s : Int) < I 518 6 → MOs I Y s
section MO
variable {d : Nat} {I : HI} {K : HI → Prop} {KI : Int → HI → Prop} {K2 : Int → Int → HI → Prop} {cs : Int → List Int} {H : List Sn}
theorem MOs_o1 {s s' : Nat} {X Y : HI} (hT : CTY I) (s1 : (s' : Int) < I 518 6) (h : MOs I X s') (g : OFs1 s X Y) (hn : s' ≠ s) : MOs I Y s' := by
  have rl := rts_len (I := I) (s' : Int)
  refine ⟨by rw [g.2.1 s' hn]; exact h.1, fun o ho => ?_⟩
  have ok := opc_ok hT (s := (s' : Int)) (by omega) s1 ho
  have := h.2 o ho
  rw [SL_EW (by omega), Int.toNat_natCast] at this ⊢
  exact EW_cp this (by rw [wy_len]; omega) (g.2.2.1 _ (by omega)) (fun k hk => g.2.2.2 _ (by omega))
theorem zero_lp (h : K (flI I 549 59536 0)) : ∀ (n k : Nat), k + n = 59536 → J none mX11_options (d + 6) 0 0 23 [(0, vR 489), (1, vI (k : Int))] [] (mk (flI I 549 k 0)) (PV K)
  | 0, k, e => by
    obtain rfl : k = 59536 := by omega
    exact bk_X11_options_23 ⟨fun _ => PV_i h, fun q => by omega⟩
  | n + 1, k, e => by
    have ih := zero_lp h n (k + 1) (by omega)
    refine bk_X11_options_23 ⟨fun q => by omega, fun _ => ⟨by omega, fun I1 e1 => ⟨by omega, ?_⟩⟩⟩
    rw [Int.toNat_natCast, flI_s] at e1
    rw [e1]
    exact ih
theorem c11_options (hT : CTY I) (hsh : 0 ≤ I 489 63 ∧ I 489 63 < 65536) (h : ∀ Y : HI, OFm I Y → MOp I Y → (∀ j, j < 59536 → Y 549 j = 0) → K Y) : CV mX11_options (d + 6) [vR 489] I K := by
  have n6 := hT.1.2.2.1
  have lp : ∀ (n s : Nat) (X : HI), (s : Int) + n = I 518 6 → OFm I X → (∀ s' : Nat, s' < s → MOs I X s') → J none mX11_options (d + 6) 0 0 2 [(0, vR 489), (1, vI (s : Int))] [] (mk X) (PV K) := by
    intro n
    induction n with
    | zero =>
      intro s X e oX hm'
      refine bk_X11_options_2 (c11_saintMany ?_)
      rw [oX.1 518 (by omega) (by omega)]
      refine ⟨fun _ => ?_, fun q => by omega⟩
      have g := zero_lp (I := X) (K := K) (d := d) (h _ ⟨fun k k1 k2 => by rw [flI_f (by omega), oX.1 k k1 k2], fun j hj => by rw [flI_f (by decide), oX.2.1 j hj], fun j hj => by rw [flI_f (by decide), flI_f (by decide), flI_f (by decide)]; exact oX.2.2 j hj⟩ (fun s' hs' => ?_) (fun j hj => flI_i hj)) 59536 0 (by omega)
      · rw [flI_0] at g
        exact g
      · have := hm' s' (by omega)
        refine ⟨by rw [flI_f (by decide)]; exact this.1, fun o ho => ?_⟩
        exact SL_fr (by omega) (this.2 o ho) (flI_f (by decide)) (flI_f (by decide)) (flI_f (by decide)) (flI_f (by decide))
    | succ n ih =>
      intro s X e oX hm'
      refine bk_X11_options_2 (c11_saintMany ?_)
      rw [oX.1 518 (by omega) (by omega)]
      refine ⟨fun q => by omega, fun _ => ?_⟩
      have cX := CF_om oX
      have sh : X 489 63 = I 489 63 := by rw [oX.1 489 (by omega) (by omega)]
      refine c11_optionsOf (CTY_fr hT cX) (by rw [sh]; exact hsh) (by rw [cX.1 518 (by omega)]; omega) (fun Y oY mY => ⟨by omega, ?_⟩)
      refine ih (s + 1) Y (by omega) ⟨fun k k1 k2 => by rw [oY.1 k k1 (by omega) (by omega) (by omega), oX.1 k k1 k2], fun j hj => by rw [oY.2.2.1 j (by omega), oX.2.1 j hj], fun j hj => ?_⟩ (fun s' hs' => ?_)
      · obtain ⟨a1, a2, a3⟩ := oY.2.2.2 j (by omega)
        obtain ⟨b1, b2, b3⟩ := oX.2.2 j hj
        exact ⟨a1.trans b1, a2.trans b2, a3.trans b3⟩
      · by_cases es : s' = s
        · subst es
          unfold MOs at mY ⊢
          simp only [rts_fr cX sh, opc_fr cX sh, wy_cf cX] at mY
          exact mY
        · exact MOs_o1 hT (by omega) (hm' s' (by omega)) oY es
  exact bk_X11_options_0 (lp (I 518 6).toNat 0 I (by omega) ⟨fun _ _ _ => rfl, fun _ _ => rfl, fun _ _ => ⟨rfl, rfl, rfl⟩⟩ (fun s' hs' => by omega))
end MO
