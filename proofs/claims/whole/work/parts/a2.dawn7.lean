def LKD (lim : Int) (I X : HI) (cs : Int → List Int) (m : Int) (s : Nat) : Prop := ∃ k D, HPs lim X s k D ∧ DOK I cs m s (Nc I s) D
theorem Nc_b (I : HI) (s : Nat) : Nc I s ≤ 60 := by
  have := rts_len (I := I) (s : Int)
  unfold Nc
  split <;> omega
/-- what is told of all nights -/
def RSD (lim : Int) (D0 D1 D2 : List Chd) (N A O : Int) : Prop := N = T3 lim D0 D1 D2 ∧ (pin A ∧ ∀ l : Int, 0 ≤ l → l < 16 → (bit A l = true ↔ ∀ x ∈ D0, ∀ y ∈ D1, ∀ z ∈ D2, oO (oO x.1 y.1) z.1 = lim → (bit x.2.1 l = true ∨ bit y.2.1 l = true) ∨ bit z.2.1 l = true)) ∧ ((0 ≤ O ∧ O < 8) ∧ (bit O 0 = true ↔ ∃ x ∈ D0, (∃ y ∈ D1, ∃ z ∈ D2, oO (oO x.1 y.1) z.1 = lim) ∧ x.2.2 = 1) ∧ (bit O 1 = true ↔ ∃ y ∈ D1, (∃ x ∈ D0, ∃ z ∈ D2, oO (oO x.1 y.1) z.1 = lim) ∧ y.2.2 = 1) ∧ (bit O 2 = true ↔ ∃ z ∈ D2, (∃ x ∈ D0, ∃ y ∈ D1, oO (oO x.1 y.1) z.1 = lim) ∧ z.2.2 = 1))
theorem T3_b {lim : Int} {D0 D1 D2 : List Chd} (l0 : D0.length ≤ 61) (l1 : D1.length ≤ 61) (l2 : D2.length ≤ 61) : 0 ≤ T3 lim D0 D1 D2 ∧ T3 lim D0 D1 D2 ≤ 226981 := by
  have a : ∀ p q, 0 ≤ sD (fun r => chi lim p q r) D2 ∧ sD (fun r => chi lim p q r) D2 ≤ 61 := fun p q => by
    have := sD_le (F := fun r => chi lim p q r) (M := 1) D2 (fun x _ => chi_b lim p q x.1)
    omega
  have b : ∀ p, 0 ≤ sD (fun q => sD (fun r => chi lim p q r) D2) D1 ∧ sD (fun q => sD (fun r => chi lim p q r) D2) D1 ≤ 3721 := fun p => by
    have := sD_le (F := fun q => sD (fun r => chi lim p q r) D2) (M := 61) D1 (fun x _ => a p x.1)
    omega
  have c := sD_le (F := fun p => sD (fun q => sD (fun r => chi lim p q r) D2) D1) (M := 3721) D0 (fun x _ => b x.1)
  unfold T3
  omega
theorem nALL {k0 k1 k2 : Nat} {lim : Int} {L : Nat → Int} {P : Nat → Nat → Nat → Int} : (¬ ALLP k0 k1 k2 (fun i j k => VLD lim L i j k → P i j k ≠ 1) k0 0 0) ↔ ∃ i j k, (i < k0 ∧ j < k1 ∧ k < k2) ∧ oO (oO (L (0 + i)) (L (61 + j))) (L (122 + k)) = lim ∧ P i j k = 1 := by
  rw [ALLP_e]
  constructor
  · intro w
    refine Classical.byContradiction fun u => w (fun i j k hi hj hk v e => u ⟨i, j, k, ⟨hi, hj, hk⟩, v, e⟩)
  · rintro ⟨i, j, k, ⟨hi, hj, hk⟩, v, e⟩ w
    exact w i j k hi hj hk v e
section LK
variable {d : Nat} {I : HI} {K : HI → Prop} {lim m : Int} {cs : Int → List Int}
theorem DOK_fr {X : HI} {s N : Nat} {D : List Chd} (f : CF I X) (e63 : X 489 63 = I 489 63) (h : DOK X cs m s N D) : DOK I cs m s N D := by
  refine ⟨h.1, h.2.1, fun x c hx hc => ?_⟩
  have := h.2.2 x c hx hc
  rw [chw_fr f e63] at this
  refine ⟨⟨this.1.1, fun l l0 l1 => ?_⟩, this.2.1, this.2.2⟩
  rw [this.1.2 l l0 l1]
  unfold petS
  simp only [lies_cf f]
theorem look_s (hk : KNW I cs) (hm0 : 0 ≤ m ∧ m ≤ 999) (h : ∀ X : HI, LkF I X → (∀ s, s < 3 → LKD lim I X cs m s) → CV mX2_count (d + 3) [vR 482, vI lim] X (fun I1 => PV K none (mk I1))) : ∀ (n s : Nat) (X : HI), s + n = 3 → LkF I X → (∀ s', s' < s → LKD lim I X cs m s') → J none mX2_look (d + 4) 0 0 9 [(0, vR 482), (1, vI lim), (2, vI m), (3, vI (s : Int))] [] (mk X) (PV K)
  | 0, s, X, e, fX, hX => bk_X2_look_9 ⟨fun _ => h X fX (fun s' hs' => hX s' (by omega)), fun q => by omega⟩
  | n + 1, s, X, e, fX, hX => by
    have ih := fun Y => look_s hk hm0 h n (s + 1) Y
    have s3 : s < 3 := by omega
    refine bk_X2_look_9 ⟨fun q => by omega, fun _ => ⟨by omega, fun I2 e2 => ?_⟩⟩
    rw [Int.toNat_natCast] at e2
    have f2 : HpF s X I2 := ⟨fun k hk => by rw [e2, up_k (by omega)], fun j _ => ⟨by rw [e2, up_k (by decide)], by rw [e2, up_k (by decide)], by rw [e2, up_k (by decide)], by rw [e2, up_k (by decide)]⟩, fun j hj => by rw [e2, up_n (by omega)]⟩
    have p2 : HPs lim I2 s 0 [] := ⟨by rw [e2]; exact up_s, HPI_nil⟩
    have nxt : ∀ (Z : HI) (k : Nat) (D : List Chd), HpF s X Z → HPs lim Z s k D → DOK I cs m s (Nc I s) D → J none mX2_look (d + 4) 0 0 9 [(0, vR 482), (1, vI lim), (2, vI m), (3, vI ((s : Int) + 1))] [] (mk Z) (PV K) := fun Z k D fZ pZ dZ => by
      have := ih Z (by omega) (fun k hk => by rw [fZ.1 k (by omega), fX k hk]) (fun s' hs' => ?_)
      · exact this
      · by_cases es : s' = s
        · subst es
          exact ⟨k, D, pZ, dZ⟩
        · obtain ⟨k', D', g1, g2⟩ := hX s' (by omega)
          have := Nc_b I s'
          exact ⟨k', D', HPs_fr g1 (by rw [g2.1]; omega) fZ es, g2⟩
    have := c2_heap (d := d + 2) (I := I2) (lim := lim) (s := s) (k := 0) (D := []) (x := (0, 0, 0)) (K := fun I3 => (((I3 2 2) ≤ (s : Int) → J none mX2_look (d + 4) 0 0 62 [(0, vR 482), (1, vI lim), (2, vI m), (3, vI (s : Int)), (4, vI 0), (5, vI 1)] [] (mk I3) (PV K)) ∧ (¬ ((I3 2 2) ≤ (s : Int)) → (0 ≤ (s : Int) ∧ (s : Int) < 4) ∧ (-2147483648 ≤ 3 * (I3 71 (s : Int).toNat) ∧ 3 * (I3 71 (s : Int).toNat) ≤ 2147483647) ∧ J none mX2_look (d + 4) 0 0 62 [(0, vR 482), (1, vI lim), (2, vI m), (3, vI (s : Int)), (4, vI (3 * (I3 71 (s : Int).toNat))), (5, vI 1)] [] (mk I3) (PV K)))) s3 (by show 0 ≤ 60; omega) p2 pin_0 pin_0 (Or.inl rfl) (fun Y k' fY pY => ?_)
    · exact this
    · have fXY := HpF_tr f2 fY
      have lk : LkF I Y := fun k hk => by rw [fXY.1 k (by omega), fX k hk]
      have cY := CF_lk lk
      have kY := KNW_lk hk lk
      have d0 : ∀ J : HI, DOK J cs m s 0 [(0, 0, 0)] := fun J => ⟨rfl, fun c hc => by cases hc; rfl, fun x c hx hc => by
        rw [List.getElem?_eq_none (by show 1 ≤ x; omega)] at hc
        cases hc⟩
      have n22 : Y 2 2 = I 518 6 := by rw [lk 2 (by omega)]; exact hk.1.1.1.1.2.2.1
      rw [n22]
      refine ⟨fun q => bk_X2_look_62 ⟨fun _ => ⟨by omega, nxt Y k' _ fXY pY ?_⟩, fun q2 => by omega⟩, fun q => ?_⟩
      · have : Nc I s = 0 := by
          unfold Nc
          rw [if_neg (by omega)]
        rw [this]
        exact d0 I
      · have s1 : (s : Int) < I 518 6 := by omega
        have s1Y : (s : Int) < Y 518 6 := by rw [cY.1 518 (by omega)]; exact s1
        have rl := rts_len (I := I) (s : Int)
        have rY : rts Y s = rts I s := rts_fr cY (by rw [lk 489 (by omega)]) s
        have f71 : Y 71 s = (rts Y s).length := (kY.2.1 s s1Y).1.1
        have nc : Nc I s = 3 * (rts I s).length := by
          unfold Nc
          rw [if_pos s1]
        rw [Int.toNat_natCast, f71]
        refine ⟨by omega, by rw [rY]; omega, ?_⟩
        have := look_x (d := d) (I := Y) (K := K) (lim := lim) (m := m) (cs := cs) (s := s) kY s1Y s3 hm0 (fun Z k D fZ pZ dZ => nxt Z k D (HpF_tr fXY fZ) pZ (by
          rw [nc]
          rw [rY] at dZ
          exact DOK_fr cY (by rw [lk 489 (by omega)]) dZ)) (3 * (rts Y s).length) 1 k' [(0, 0, 0)] Y (by omega) (by omega) (HpF_rfl s Y) pY (d0 Y)
        exact this
theorem c2_look (hp : PLN I cs) (hm0 : 0 ≤ m ∧ m ≤ 999) (h : ∀ (Z Y : HI) (D0 D1 D2 : List Chd), PFr I Z → RDP Z cs → VrC I Z → LkF Z Y → DOK Z cs m 0 (Nc Z 0) D0 → DOK Z cs m 1 (Nc Z 1) D1 → DOK Z cs m 2 (Nc Z 2) D2 → RSD lim D0 D1 D2 (Y 482 7) (Y 482 8) (Y 482 9) → K Y) : CV mX2_look (d + 15) [vR 482, vI lim, vI m] I K := by
  refine bk_X2_look_0 (c5_prep2 hp (fun Z pZ rZ vZ => ?_))
  refine look_s (d := d + 11) rZ.1 hm0 (fun X fX hX => ?_) 3 0 Z (by omega) (fun _ _ => rfl) (fun s' hs' => by omega)
  obtain ⟨k0, D0, ⟨a0, a1⟩, a2⟩ := hX 0 (by omega)
  obtain ⟨k1, D1, ⟨b0, b1⟩, b2⟩ := hX 1 (by omega)
  obtain ⟨k2, D2, ⟨c0, c1⟩, c2⟩ := hX 2 (by omega)
  have h0 : HPI lim (X 483) (X 484) (X 485) (X 486) 0 k0 D0 := a1
  have h1 : HPI lim (X 483) (X 484) (X 485) (X 486) 61 k1 D1 := b1
  have h2 : HPI lim (X 483) (X 484) (X 485) (X 486) 122 k2 D2 := c1
  have n0 := Nc_b Z 0
  have n1 := Nc_b Z 1
  have n2 := Nc_b Z 2
  have l0 : D0.length ≤ 61 := by rw [a2.1]; omega
  have l1 : D1.length ≤ 61 := by rw [b2.1]; omega
  have l2 : D2.length ≤ 61 := by rw [c2.1]; omega
  have p0 := DOK_pin a2
  have p1 := DOK_pin b2
  have p2 := DOK_pin c2
  have te := T3_eq h0 h1 h2 p0 p1
  have tb := T3_b (lim := lim) l0 l1 l2
  have hb : HB X k0 k1 k2 := by
    refine ⟨⟨a0, b0, c0⟩, ⟨?_, ?_, ?_⟩, fun i hi => ?_, fun i hi => ?_, fun i hi => ?_⟩
    · have := h0.2.2.1
      omega
    · have := h1.2.2.1
      omega
    · have := h2.2.2.1
      omega
    · have := h0.2.2.2 i hi
      exact ⟨by omega, this.2⟩
    · have := h1.2.2.2 i hi
      exact ⟨by omega, this.2⟩
    · have := h2.2.2.2 i hi
      exact ⟨by omega, this.2⟩
  refine c2_count hb (by rw [← te]; omega) (fun Y hY => PV_i ?_)
  obtain ⟨f, y7, ⟨y8, y8'⟩, y9, y90, y91, y92⟩ := hY
  refine h Z Y D0 D1 D2 pZ rZ vZ (fun k hk => by rw [f.1 k (by omega), fX k hk]) a2 b2 c2 ⟨?_, ⟨y8, fun l l0 l1 => ?_⟩, y9, ?_, ?_, ?_⟩
  · rw [y7, te]
    exact NUM_e
  · rw [y8' l l0 l1, all3 h0 h1 h2 p0 p1, ALLP_e]
    exact Iff.rfl
  · rw [y90, out0 h0 h1 h2 p1 p2, ← nALL (P := fun i _ _ => X 486 (0 + i))]
    exact Iff.rfl
  · rw [y91, out1 h0 h1 h2 p0 p2, ← nALL (P := fun _ j _ => X 486 (61 + j))]
    exact Iff.rfl
  · rw [y92, out2 h0 h1 h2 p0 p1, ← nALL (P := fun _ _ k => X 486 (122 + k))]
    exact Iff.rfl
end LK
