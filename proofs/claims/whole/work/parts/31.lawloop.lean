theorem J_mono {X : Option (Nat × (Nat → Int32))} {M : MD} {d mc ms pc : Nat} {ls : List (Nat × AV)} {st : List AV} {σ : AH} {Q Q' : Option AV → AH → Prop} (hq : ∀ r σ', Q r σ' → Q' r σ') (h : J X M d mc ms pc ls st σ Q) : J X M d mc ms pc ls st σ Q' := by
  intro p l e R s m args below meth c D B b dA E C0 S0 Z cx hR he
  exact h p l e R s m args below meth c D B b dA E C0 S0 Z cx hR (fun H locs cells slots pc lsC r σ' g1 g2 g3 g4 g5 g6 g7 => he H locs cells slots pc lsC r σ' g1 g2 g3 g4 g5 (hq r σ' g6) g7)
theorem CI_mono {M : MD} {d : Nat} {as : List AV} {I : HI} {K K' : Int → HI → Prop} (hk : ∀ x I', K x I' → K' x I') (h : CI M d as I K) : CI M d as I K' :=
  J_mono (fun r σ' hq => by obtain ⟨x, I', h1, h2, h3⟩ := hq; exact ⟨x, I', h1, h2, hk x I' h3⟩) h
theorem CL_mono {M : MD} {d : Nat} {as : List AV} {I : HI} {K K' : Int → HI → Prop} (hk : ∀ x I', K x I' → K' x I') (h : CL M d as I K) : CL M d as I K' :=
  J_mono (fun r σ' hq => by obtain ⟨x, I', h1, h2, h3⟩ := hq; exact ⟨x, I', h1, h2, hk x I' h3⟩) h
theorem CV_mono {M : MD} {d : Nat} {as : List AV} {I : HI} {K K' : HI → Prop} (hk : ∀ I', K I' → K' I') (h : CV M d as I K) : CV M d as I K' :=
  J_mono (fun r σ' hq => by obtain ⟨I', h1, h2, h3⟩ := hq; exact ⟨I', h1, h2, hk I' h3⟩) h
theorem CR_mono {M : MD} {d : Nat} {as : List AV} {I : HI} {K K' : Nat → Nat → HI → Prop} (hk : ∀ x n I', K x n I' → K' x n I') (h : CR M d as I K) : CR M d as I K' :=
  J_mono (fun r σ' hq => by obtain ⟨x, n, I', h1, h2, h3, h4⟩ := hq; exact ⟨x, n, I', h1, h2, h3, hk x n I' h4⟩) h
def OPn (Rel : Nat → HI → Prop) (d : Nat) (M1 M2 : MD) (n : Nat) : Prop := ∀ (m : Nat) (I : HI) (as : List Int), as.length = n → Rel (m + 1) I → (∀ a ∈ as, ii a) → CI M1 d (vR 0 :: as.map vI) I (fun x1 I1 => CI M2 d (vR 489 :: as.map vI) I1 (fun x2 I2 => x1 = x2 ∧ Rel m I2))
def OPz (Rel : Nat → HI → Prop) (d : Nat) (M1 M2 : MD) : Prop := ∀ (m : Nat) (I : HI) (a z : Int), (z = 0 ∨ z = 1) → Rel (m + 1) I → ii a → CI M1 d [vR 0, vI a, vI z] I (fun x1 I1 => CI M2 d [vR 489, vI a, vI z] I1 (fun x2 I2 => x1 = x2 ∧ Rel m I2))
def OPS (Rel : Nat → HI → Prop) (d : Nat) : Prop := (∀ (m : Nat) (I : HI), Rel (m + 1) I → Rel m I) ∧ OPn Rel d mX10_feed mX11_feed 5 ∧ OPn Rel d mX10_end mX11_end 1 ∧ OPn Rel d mX10_city mX11_city 0 ∧ OPn Rel d mX10_fault mX11_fault 1 ∧ OPn Rel d mX10_has mX11_has 1 ∧ OPn Rel d mX10_letter mX11_letter 3 ∧ OPn Rel d mX10_lane mX11_lane 2 ∧ OPn Rel d mX10_sound mX11_sound 2 ∧ OPn Rel d mX10_saint mX11_saint 2 ∧ OPn Rel d mX10_go mX11_go 2 ∧ OPn Rel d mX10_rest mX11_rest 2 ∧ OPn Rel d mX10_clear mX11_clear 1 ∧ OPn Rel d mX10_undo mX11_undo 0 ∧ OPn Rel d mX10_where mX11_where 2 ∧ OPn Rel d mX10_on mX11_on 2 ∧ OPn Rel d mX10_petals mX11_petals 2 ∧ OPn Rel d mX10_passes mX11_passes 2 ∧ OPn Rel d mX10_clash mX11_clash 1 ∧ OPn Rel d mX10_clashes mX11_clashes 1 ∧ OPn Rel d mX10_meet mX11_meet 2 ∧ OPn Rel d mX10_pleased mX11_pleased 0 ∧ OPn Rel d mX10_but mX11_but 1 ∧ OPn Rel d mX10_words mX11_words 1 ∧ OPn Rel d mX10_softer mX11_softer 1 ∧ OPz Rel d mX10_shut mX11_shut ∧ OPn Rel d mX10_sweep mX11_sweep 1 ∧ OPn Rel d mX10_routes mX11_routes 1 ∧ OPn Rel d mX10_route mX11_route 3 ∧ OPn Rel d mX10_together mX11_together 1 ∧ OPn Rel d mX10_bars mX11_bars 0 ∧ OPn Rel d mX10_take mX11_take 0 ∧ OPn Rel d mX10_mend mX11_mend 0 ∧ OPn Rel d mX10_turn mX11_turn 0 ∧ OPn Rel d mX10_lots mX11_lots 1 ∧ OPn Rel d mX10_dawn mX11_dawn 3 ∧ OPn Rel d mX10_image mX11_image 0 ∧ OPn Rel d mX10_octet mX11_octet 1 ∧ OPn Rel d mX10_back mX11_back 0
theorem ii_l0 : ∀ a ∈ ([] : List Int), ii a := fun a h => by cases h
theorem ii_l1 {a : Int32} {l : List Int} (h : ∀ a ∈ l, ii a) : ∀ q ∈ a.toInt :: l, ii q := List.forall_mem_cons.mpr ⟨ii_of a, h⟩
theorem oA63_rng (x : Int) : 0 ≤ oA x 63 ∧ oA x 63 ≤ 63 := by
  unfold oA
  obtain ⟨j, hj, e⟩ := pk_andE (Int32.ofInt x) (m := Int32.ofInt 63) 6 (by decide)
  rw [e, nI_toInt (by omega)]
  omega
set_option maxRecDepth 100000 in
set_option maxHeartbeats 8000000 in
theorem law_loop {Rel : Nat → HI → Prop} {d L : Nat} {xs : Nat → Int32} (hL : L ≤ 3072) (ops : OPS Rel d) : ∀ (n : Nat) (i : Int) (I : HI), 0 ≤ i → i ≤ L → (L : Int) - i < n → Rel n I → J (some (L, xs)) mL_law (d + 1) 0 0 18 [(0, vX), (1, vR 0), (2, vR 489), (3, vI i)] [] (mk I) (fun r _ => r = some (vI 1))
  | 0, i, I, h0, h1, h2, hr => by omega
  | n + 1, i, I, h0, h1, h2, hr => by
    have ih := law_loop hL ops n (xs := xs)
    refine bk_L_law ⟨by omega, by omega, fun _ => rfl, fun c => ⟨by omega, ?_⟩⟩
    obtain ⟨hmo, o0, o1, o2, o3, o4, o5, o6, o7, o8, o9, o10, o11, o12, o13, o14, o15, o16, o17, o18, o19, o20, o21, o22, o23, o24, o25, o26, o27, o28, o29, o30, o31, o32, o33, o34, o35, o36, o37⟩ := ops
    refine ⟨fun _ => ⟨by omega, ih (i + 6) I (by omega) (by omega) (by omega) (hmo n I hr)⟩, fun _ => ?_, fun _ => ?_, fun _ => ?_, fun _ => ?_, fun _ => ?_, fun _ => ?_, fun _ => ?_, fun _ => ?_, fun _ => ?_, fun _ => ?_, fun _ => ?_, fun _ => ?_, fun _ => ?_, fun _ => ?_, fun _ => ?_, fun _ => ?_, fun _ => ?_, fun _ => ?_, fun _ => ?_, fun _ => ?_, fun _ => ?_, fun _ => ?_, fun _ => ?_, fun _ => ?_, fun _ => ?_, fun _ => ?_, fun _ => ?_, fun _ => ?_, fun _ => ?_, fun _ => ?_, fun _ => ?_, fun _ => ?_, fun _ => ?_, fun _ => ?_, fun _ => ?_, fun _ => ?_, fun _ => ?_, fun _ => ?_⟩
    · repeat refine ⟨by omega, ?_⟩
      refine CI_mono (fun x1 I1 h1 => ?_) (o0 n I [(xs (i + 1).toNat).toInt, (xs (i + 2).toNat).toInt, (xs (i + 3).toNat).toInt, (xs (i + 4).toNat).toInt, (xs (i + 5).toNat).toInt] rfl hr (ii_l1 (ii_l1 (ii_l1 (ii_l1 (ii_l1 ii_l0))))))
      repeat refine ⟨by omega, ?_⟩
      refine CI_mono (fun x2 I2 h2 => ?_) h1
      exact ⟨fun _ => ⟨by omega, ih (i + 6) I2 (by omega) (by omega) (by omega) h2.2⟩, fun c => absurd h2.1 c⟩
    · repeat refine ⟨by omega, ?_⟩
      refine CI_mono (fun x1 I1 h1 => ?_) (o1 n I [(xs (i + 1).toNat).toInt] rfl hr (ii_l1 ii_l0))
      repeat refine ⟨by omega, ?_⟩
      refine CI_mono (fun x2 I2 h2 => ?_) h1
      exact ⟨fun _ => ⟨by omega, ih (i + 6) I2 (by omega) (by omega) (by omega) h2.2⟩, fun c => absurd h2.1 c⟩
    · repeat refine ⟨by omega, ?_⟩
      refine CI_mono (fun x1 I1 h1 => ?_) (o2 n I [] rfl hr ii_l0)
      repeat refine ⟨by omega, ?_⟩
      refine CI_mono (fun x2 I2 h2 => ?_) h1
      exact ⟨fun _ => ⟨by omega, ih (i + 6) I2 (by omega) (by omega) (by omega) h2.2⟩, fun c => absurd h2.1 c⟩
    · repeat refine ⟨by omega, ?_⟩
      refine CI_mono (fun x1 I1 h1 => ?_) (o3 n I [(xs (i + 1).toNat).toInt] rfl hr (ii_l1 ii_l0))
      repeat refine ⟨by omega, ?_⟩
      refine CI_mono (fun x2 I2 h2 => ?_) h1
      exact ⟨fun _ => ⟨by omega, ih (i + 6) I2 (by omega) (by omega) (by omega) h2.2⟩, fun c => absurd h2.1 c⟩
    · repeat refine ⟨by omega, ?_⟩
      refine CI_mono (fun x1 I1 h1 => ?_) (o4 n I [(xs (i + 1).toNat).toInt] rfl hr (ii_l1 ii_l0))
      repeat refine ⟨by omega, ?_⟩
      refine CI_mono (fun x2 I2 h2 => ?_) h1
      exact ⟨fun _ => ⟨by omega, ih (i + 6) I2 (by omega) (by omega) (by omega) h2.2⟩, fun c => absurd h2.1 c⟩
    · repeat refine ⟨by omega, ?_⟩
      refine CI_mono (fun x1 I1 h1 => ?_) (o5 n I [(xs (i + 1).toNat).toInt, (xs (i + 2).toNat).toInt, (xs (i + 3).toNat).toInt] rfl hr (ii_l1 (ii_l1 (ii_l1 ii_l0))))
      repeat refine ⟨by omega, ?_⟩
      refine CI_mono (fun x2 I2 h2 => ?_) h1
      exact ⟨fun _ => ⟨by omega, ih (i + 6) I2 (by omega) (by omega) (by omega) h2.2⟩, fun c => absurd h2.1 c⟩
    · repeat refine ⟨by omega, ?_⟩
      refine CI_mono (fun x1 I1 h1 => ?_) (o6 n I [(xs (i + 1).toNat).toInt, (xs (i + 2).toNat).toInt] rfl hr (ii_l1 (ii_l1 ii_l0)))
      repeat refine ⟨by omega, ?_⟩
      refine CI_mono (fun x2 I2 h2 => ?_) h1
      exact ⟨fun _ => ⟨by omega, ih (i + 6) I2 (by omega) (by omega) (by omega) h2.2⟩, fun c => absurd h2.1 c⟩
    · repeat refine ⟨by omega, ?_⟩
      refine CI_mono (fun x1 I1 h1 => ?_) (o7 n I [(xs (i + 1).toNat).toInt, (xs (i + 2).toNat).toInt] rfl hr (ii_l1 (ii_l1 ii_l0)))
      repeat refine ⟨by omega, ?_⟩
      refine CI_mono (fun x2 I2 h2 => ?_) h1
      exact ⟨fun _ => ⟨by omega, ih (i + 6) I2 (by omega) (by omega) (by omega) h2.2⟩, fun c => absurd h2.1 c⟩
    · repeat refine ⟨by omega, ?_⟩
      refine CI_mono (fun x1 I1 h1 => ?_) (o8 n I [(xs (i + 1).toNat).toInt, (xs (i + 2).toNat).toInt] rfl hr (ii_l1 (ii_l1 ii_l0)))
      repeat refine ⟨by omega, ?_⟩
      refine CI_mono (fun x2 I2 h2 => ?_) h1
      exact ⟨fun _ => ⟨by omega, ih (i + 6) I2 (by omega) (by omega) (by omega) h2.2⟩, fun c => absurd h2.1 c⟩
    · repeat refine ⟨by omega, ?_⟩
      refine CI_mono (fun x1 I1 h1 => ?_) (o9 n I [(xs (i + 1).toNat).toInt, (xs (i + 2).toNat).toInt] rfl hr (ii_l1 (ii_l1 ii_l0)))
      repeat refine ⟨by omega, ?_⟩
      refine CI_mono (fun x2 I2 h2 => ?_) h1
      exact ⟨fun _ => ⟨by omega, ih (i + 6) I2 (by omega) (by omega) (by omega) h2.2⟩, fun c => absurd h2.1 c⟩
    · repeat refine ⟨by omega, ?_⟩
      refine CI_mono (fun x1 I1 h1 => ?_) (o10 n I [(xs (i + 1).toNat).toInt, (xs (i + 2).toNat).toInt] rfl hr (ii_l1 (ii_l1 ii_l0)))
      repeat refine ⟨by omega, ?_⟩
      refine CI_mono (fun x2 I2 h2 => ?_) h1
      exact ⟨fun _ => ⟨by omega, ih (i + 6) I2 (by omega) (by omega) (by omega) h2.2⟩, fun c => absurd h2.1 c⟩
    · repeat refine ⟨by omega, ?_⟩
      refine CI_mono (fun x1 I1 h1 => ?_) (o11 n I [(xs (i + 1).toNat).toInt] rfl hr (ii_l1 ii_l0))
      repeat refine ⟨by omega, ?_⟩
      refine CI_mono (fun x2 I2 h2 => ?_) h1
      exact ⟨fun _ => ⟨by omega, ih (i + 6) I2 (by omega) (by omega) (by omega) h2.2⟩, fun c => absurd h2.1 c⟩
    · repeat refine ⟨by omega, ?_⟩
      refine CI_mono (fun x1 I1 h1 => ?_) (o12 n I [] rfl hr ii_l0)
      repeat refine ⟨by omega, ?_⟩
      refine CI_mono (fun x2 I2 h2 => ?_) h1
      exact ⟨fun _ => ⟨by omega, ih (i + 6) I2 (by omega) (by omega) (by omega) h2.2⟩, fun c => absurd h2.1 c⟩
    · repeat refine ⟨by omega, ?_⟩
      refine CI_mono (fun x1 I1 h1 => ?_) (o13 n I [(xs (i + 1).toNat).toInt, (xs (i + 2).toNat).toInt] rfl hr (ii_l1 (ii_l1 ii_l0)))
      repeat refine ⟨by omega, ?_⟩
      refine CI_mono (fun x2 I2 h2 => ?_) h1
      exact ⟨fun _ => ⟨by omega, ih (i + 6) I2 (by omega) (by omega) (by omega) h2.2⟩, fun c => absurd h2.1 c⟩
    · repeat refine ⟨by omega, ?_⟩
      refine CI_mono (fun x1 I1 h1 => ?_) (o14 n I [(xs (i + 1).toNat).toInt, (xs (i + 2).toNat).toInt] rfl hr (ii_l1 (ii_l1 ii_l0)))
      repeat refine ⟨by omega, ?_⟩
      refine CI_mono (fun x2 I2 h2 => ?_) h1
      exact ⟨fun _ => ⟨by omega, ih (i + 6) I2 (by omega) (by omega) (by omega) h2.2⟩, fun c => absurd h2.1 c⟩
    · repeat refine ⟨by omega, ?_⟩
      refine CI_mono (fun x1 I1 h1 => ?_) (o15 n I [(xs (i + 1).toNat).toInt, (xs (i + 2).toNat).toInt] rfl hr (ii_l1 (ii_l1 ii_l0)))
      repeat refine ⟨by omega, ?_⟩
      refine CI_mono (fun x2 I2 h2 => ?_) h1
      exact ⟨fun _ => ⟨by omega, ih (i + 6) I2 (by omega) (by omega) (by omega) h2.2⟩, fun c => absurd h2.1 c⟩
    · repeat refine ⟨by omega, ?_⟩
      refine CI_mono (fun x1 I1 h1 => ?_) (o16 n I [(xs (i + 1).toNat).toInt, (xs (i + 2).toNat).toInt] rfl hr (ii_l1 (ii_l1 ii_l0)))
      repeat refine ⟨by omega, ?_⟩
      refine CI_mono (fun x2 I2 h2 => ?_) h1
      exact ⟨fun _ => ⟨by omega, ih (i + 6) I2 (by omega) (by omega) (by omega) h2.2⟩, fun c => absurd h2.1 c⟩
    · repeat refine ⟨by omega, ?_⟩
      refine CI_mono (fun x1 I1 h1 => ?_) (o17 n I [(xs (i + 1).toNat).toInt] rfl hr (ii_l1 ii_l0))
      repeat refine ⟨by omega, ?_⟩
      refine CI_mono (fun x2 I2 h2 => ?_) h1
      exact ⟨fun _ => ⟨by omega, ih (i + 6) I2 (by omega) (by omega) (by omega) h2.2⟩, fun c => absurd h2.1 c⟩
    · repeat refine ⟨by omega, ?_⟩
      refine CI_mono (fun x1 I1 h1 => ?_) (o18 n I [(xs (i + 1).toNat).toInt] rfl hr (ii_l1 ii_l0))
      repeat refine ⟨by omega, ?_⟩
      refine CI_mono (fun x2 I2 h2 => ?_) h1
      exact ⟨fun _ => ⟨by omega, ih (i + 6) I2 (by omega) (by omega) (by omega) h2.2⟩, fun c => absurd h2.1 c⟩
    · repeat refine ⟨by omega, ?_⟩
      refine CI_mono (fun x1 I1 h1 => ?_) (o19 n I [(xs (i + 1).toNat).toInt, (xs (i + 2).toNat).toInt] rfl hr (ii_l1 (ii_l1 ii_l0)))
      repeat refine ⟨by omega, ?_⟩
      refine CI_mono (fun x2 I2 h2 => ?_) h1
      exact ⟨fun _ => ⟨by omega, ih (i + 6) I2 (by omega) (by omega) (by omega) h2.2⟩, fun c => absurd h2.1 c⟩
    · repeat refine ⟨by omega, ?_⟩
      refine CI_mono (fun x1 I1 h1 => ?_) (o20 n I [] rfl hr ii_l0)
      repeat refine ⟨by omega, ?_⟩
      refine CI_mono (fun x2 I2 h2 => ?_) h1
      exact ⟨fun _ => ⟨by omega, ih (i + 6) I2 (by omega) (by omega) (by omega) h2.2⟩, fun c => absurd h2.1 c⟩
    · repeat refine ⟨by omega, ?_⟩
      refine CI_mono (fun x1 I1 h1 => ?_) (o21 n I [(xs (i + 1).toNat).toInt] rfl hr (ii_l1 ii_l0))
      repeat refine ⟨by omega, ?_⟩
      refine CI_mono (fun x2 I2 h2 => ?_) h1
      exact ⟨fun _ => ⟨by omega, ih (i + 6) I2 (by omega) (by omega) (by omega) h2.2⟩, fun c => absurd h2.1 c⟩
    · repeat refine ⟨by omega, ?_⟩
      refine CI_mono (fun x1 I1 h1 => ?_) (o22 n I [(xs (i + 1).toNat).toInt] rfl hr (ii_l1 ii_l0))
      repeat refine ⟨by omega, ?_⟩
      refine CI_mono (fun x2 I2 h2 => ?_) h1
      exact ⟨fun _ => ⟨by omega, ih (i + 6) I2 (by omega) (by omega) (by omega) h2.2⟩, fun c => absurd h2.1 c⟩
    · repeat refine ⟨by omega, ?_⟩
      refine CI_mono (fun x1 I1 h1 => ?_) (o23 n I [(xs (i + 1).toNat).toInt] rfl hr (ii_l1 ii_l0))
      repeat refine ⟨by omega, ?_⟩
      refine CI_mono (fun x2 I2 h2 => ?_) h1
      exact ⟨fun _ => ⟨by omega, ih (i + 6) I2 (by omega) (by omega) (by omega) h2.2⟩, fun c => absurd h2.1 c⟩
    · repeat refine ⟨by omega, ?_⟩
      refine ⟨fun z => ?_, fun z => ?_⟩
      · refine CI_mono (fun x1 I1 h1 => ?_) (o24 n I (xs (i + 1).toNat).toInt 0 (Or.inl rfl) hr (ii_of _))
        repeat refine ⟨by omega, ?_⟩
        refine ⟨fun _ => ?_, fun z2 => absurd z z2⟩
        refine CI_mono (fun x2 I2 h2 => ?_) h1
        exact ⟨fun _ => ⟨by omega, ih (i + 6) I2 (by omega) (by omega) (by omega) h2.2⟩, fun c => absurd h2.1 c⟩
      · refine CI_mono (fun x1 I1 h1 => ?_) (o24 n I (xs (i + 1).toNat).toInt 1 (Or.inr rfl) hr (ii_of _))
        repeat refine ⟨by omega, ?_⟩
        refine fun _ => ?_
        refine CI_mono (fun x2 I2 h2 => ?_) h1
        exact ⟨fun _ => ⟨by omega, ih (i + 6) I2 (by omega) (by omega) (by omega) h2.2⟩, fun c => absurd h2.1 c⟩
    · repeat refine ⟨by omega, ?_⟩
      refine CI_mono (fun x1 I1 h1 => ?_) (o25 n I [(xs (i + 1).toNat).toInt] rfl hr (ii_l1 ii_l0))
      repeat refine ⟨by omega, ?_⟩
      refine CI_mono (fun x2 I2 h2 => ?_) h1
      exact ⟨fun _ => ⟨by omega, ih (i + 6) I2 (by omega) (by omega) (by omega) h2.2⟩, fun c => absurd h2.1 c⟩
    · repeat refine ⟨by omega, ?_⟩
      refine CI_mono (fun x1 I1 h1 => ?_) (o26 n I [(xs (i + 1).toNat).toInt] rfl hr (ii_l1 ii_l0))
      repeat refine ⟨by omega, ?_⟩
      refine CI_mono (fun x2 I2 h2 => ?_) h1
      exact ⟨fun _ => ⟨by omega, ih (i + 6) I2 (by omega) (by omega) (by omega) h2.2⟩, fun c => absurd h2.1 c⟩
    · repeat refine ⟨by omega, ?_⟩
      refine CI_mono (fun x1 I1 h1 => ?_) (o27 n I [(xs (i + 1).toNat).toInt, (xs (i + 2).toNat).toInt, (xs (i + 3).toNat).toInt] rfl hr (ii_l1 (ii_l1 (ii_l1 ii_l0))))
      repeat refine ⟨by omega, ?_⟩
      refine CI_mono (fun x2 I2 h2 => ?_) h1
      exact ⟨fun _ => ⟨by omega, ih (i + 6) I2 (by omega) (by omega) (by omega) h2.2⟩, fun c => absurd h2.1 c⟩
    · repeat refine ⟨by omega, ?_⟩
      refine CI_mono (fun x1 I1 h1 => ?_) (o28 n I [(xs (i + 1).toNat).toInt] rfl hr (ii_l1 ii_l0))
      repeat refine ⟨by omega, ?_⟩
      refine CI_mono (fun x2 I2 h2 => ?_) h1
      exact ⟨fun _ => ⟨by omega, ih (i + 6) I2 (by omega) (by omega) (by omega) h2.2⟩, fun c => absurd h2.1 c⟩
    · repeat refine ⟨by omega, ?_⟩
      refine CI_mono (fun x1 I1 h1 => ?_) (o29 n I [] rfl hr ii_l0)
      repeat refine ⟨by omega, ?_⟩
      refine CI_mono (fun x2 I2 h2 => ?_) h1
      exact ⟨fun _ => ⟨by omega, ih (i + 6) I2 (by omega) (by omega) (by omega) h2.2⟩, fun c => absurd h2.1 c⟩
    · repeat refine ⟨by omega, ?_⟩
      refine CI_mono (fun x1 I1 h1 => ?_) (o30 n I [] rfl hr ii_l0)
      repeat refine ⟨by omega, ?_⟩
      refine CI_mono (fun x2 I2 h2 => ?_) h1
      exact ⟨fun _ => ⟨by omega, ih (i + 6) I2 (by omega) (by omega) (by omega) h2.2⟩, fun c => absurd h2.1 c⟩
    · repeat refine ⟨by omega, ?_⟩
      refine CI_mono (fun x1 I1 h1 => ?_) (o31 n I [] rfl hr ii_l0)
      repeat refine ⟨by omega, ?_⟩
      refine CI_mono (fun x2 I2 h2 => ?_) h1
      exact ⟨fun _ => ⟨by omega, ih (i + 6) I2 (by omega) (by omega) (by omega) h2.2⟩, fun c => absurd h2.1 c⟩
    · repeat refine ⟨by omega, ?_⟩
      refine CI_mono (fun x1 I1 h1 => ?_) (o32 n I [] rfl hr ii_l0)
      repeat refine ⟨by omega, ?_⟩
      refine CI_mono (fun x2 I2 h2 => ?_) h1
      exact ⟨fun _ => ⟨by omega, ih (i + 6) I2 (by omega) (by omega) (by omega) h2.2⟩, fun c => absurd h2.1 c⟩
    · repeat refine ⟨by omega, ?_⟩
      refine CI_mono (fun x1 I1 h1 => ?_) (o33 n I [(xs (i + 1).toNat).toInt] rfl hr (ii_l1 ii_l0))
      repeat refine ⟨by omega, ?_⟩
      refine CI_mono (fun x2 I2 h2 => ?_) h1
      exact ⟨fun _ => ⟨by omega, ih (i + 6) I2 (by omega) (by omega) (by omega) h2.2⟩, fun c => absurd h2.1 c⟩
    · repeat refine ⟨by omega, ?_⟩
      refine CI_mono (fun x1 I1 h1 => ?_) (o34 n I [(xs (i + 1).toNat).toInt, (xs (i + 2).toNat).toInt, (xs (i + 3).toNat).toInt] rfl hr (ii_l1 (ii_l1 (ii_l1 ii_l0))))
      repeat refine ⟨by omega, ?_⟩
      refine CI_mono (fun x2 I2 h2 => ?_) h1
      exact ⟨fun _ => ⟨by omega, ih (i + 6) I2 (by omega) (by omega) (by omega) h2.2⟩, fun c => absurd h2.1 c⟩
    · repeat refine ⟨by omega, ?_⟩
      refine CI_mono (fun x1 I1 h1 => ?_) (o35 n I [] rfl hr ii_l0)
      repeat refine ⟨by omega, ?_⟩
      refine CI_mono (fun x2 I2 h2 => ?_) h1
      exact ⟨fun _ => ⟨by omega, ih (i + 6) I2 (by omega) (by omega) (by omega) h2.2⟩, fun c => absurd h2.1 c⟩
    · repeat refine ⟨by omega, ?_⟩
      refine CI_mono (fun x1 I1 h1 => ?_) (o36 n I [(xs (i + 1).toNat).toInt] rfl hr (ii_l1 ii_l0))
      repeat refine ⟨by omega, ?_⟩
      refine CI_mono (fun x2 I2 h2 => ?_) h1
      exact ⟨fun _ => ⟨by omega, ih (i + 6) I2 (by omega) (by omega) (by omega) h2.2⟩, fun c => absurd h2.1 c⟩
    · repeat refine ⟨by omega, ?_⟩
      refine CI_mono (fun x1 I1 h1 => ?_) (o37 n I [] rfl hr ii_l0)
      repeat refine ⟨by omega, ?_⟩
      refine CI_mono (fun x2 I2 h2 => ?_) h1
      exact ⟨fun _ => ⟨by omega, ih (i + 6) I2 (by omega) (by omega) (by omega) h2.2⟩, fun c => absurd h2.1 c⟩
