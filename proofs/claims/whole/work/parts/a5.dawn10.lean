def one1 : Nat → Int := fun _ => 1
def ox : Nat → Int := fun j => if j % 61 = 0 then 0 else 1
/-- the rows of the model stand beside a list of choices -/
def RWS (L G : Nat → Int) (b : Nat) (D : List Chd) : Prop := ∀ (x : Nat) (c : Chd), D[x]? = some c → L (b + x) = c.1 ∧ G (b + x) = c.2.1 ∧ ox (b + x) = c.2.2 ∧ pin c.1 ∧ pin c.2.1
theorem HPI_mod {lim : Int} {L G : Nat → Int} {b : Nat} {D : List Chd} (h : RWS L G b D) : HPI lim L one1 G ox b D.length D := by
  have key : ∀ n, n ≤ D.length → HPI lim L one1 G ox b n (D.take n) := by
    intro n
    induction n with
    | zero => exact fun _ => by rw [List.take_zero]; exact HPI_nil
    | succ n ih =>
      intro hn
      have hc : D[n]? = some D[n] := List.getElem?_eq_getElem (by omega)
      obtain ⟨h1, h2, h3, h4, h5⟩ := h n D[n] hc
      have et : D.take (n + 1) = D.take n ++ [D[n]] := by
        rw [List.take_succ, hc]
        rfl
      rw [et]
      refine HPI_new (ih (by omega)) h4 h5 ?_ h1 rfl h2 h3 (fun i hi => ⟨rfl, rfl, rfl, rfl⟩)
      rw [← h3]
      unfold ox
      split <;> omega
  have := key D.length (Nat.le_refl _)
  rw [List.take_length] at this
  exact this
/-- the model's three loops at work -/
def MST (lim : Int) (Y : HI) (n nl : Nat) (k0 k1 k2 i j k : Nat) (a4 a5 a6 : Int) : Prop := a4 = NUM lim (Y 554) one1 (Y 554) one1 (Y 554) one1 0 61 k1 122 k2 i j k ∧ (pin a5 ∧ ∀ l : Int, 0 ≤ l → l < 16 → (bit a5 l = true ↔ l < nl ∧ ALLP k0 k1 k2 (GP lim (Y 554) (Y 555) l) i j k)) ∧ ((0 ≤ a6 ∧ a6 < 8) ∧ (bit a6 0 = true ↔ 0 < n ∧ ALLP k0 k1 k2 (OP0 lim (Y 554) ox) i j k) ∧ (bit a6 1 = true ↔ 1 < n ∧ ALLP k0 k1 k2 (OP1 lim (Y 554) ox) i j k) ∧ (bit a6 2 = true ↔ 2 < n ∧ ALLP k0 k1 k2 (OP2 lim (Y 554) ox) i j k))
theorem and_8 : ∀ a : Nat, a < 8 → ∀ b : Nat, b < 8 → 0 ≤ oA (a : Int) (b : Int) ∧ oA (a : Int) (b : Int) < 8 := by decide +kernel
section MT
variable {d : Nat} {I : HI} {KI : Int → HI → Prop} {lim m a3 : Int} {cs : Int → List Int} {k0 k1 k2 n nl : Nat}
def MPN (I : HI) (k0 k1 k2 : Nat) : Prop := (k0 = Nc I 0 + 1 ∧ k1 = Nc I 1 + 1 ∧ k2 = Nc I 2 + 1) ∧ (∀ i, i < k0 → pin (I 555 (0 + i))) ∧ (∀ i, i < k1 → pin (I 555 (61 + i))) ∧ (∀ i, i < k2 → pin (I 555 (122 + i)))
theorem m_k {i j : Nat} (h : MDW I cs) (hp : MPN I k0 k1 k2) (tot : sH (fun p => F1 lim (I 554) one1 (I 554) one1 61 k1 122 k2 p) (I 554) one1 0 k0 ≤ 1000000) (hi : i < k0) (hj : j < k1) (kk : ∀ a4 a5 a6, MST lim I n nl k0 k1 k2 i (j + 1) 0 a4 a5 a6 → J none mX11_dawn (d + 16) 0 0 156 [(0, vR 489), (1, vI lim), (2, vI m), (3, vI a3), (4, vI a4), (5, vI a5), (6, vI a6), (7, vI (i : Int)), (8, vI ((j : Int) + 1))] [] (mk I) (PI KI)) : ∀ (q k : Nat) (a4 a5 a6 : Int), k + q = k2 → MST lim I n nl k0 k1 k2 i j k a4 a5 a6 → J none mX11_dawn (d + 16) 0 0 169 [(0, vR 489), (1, vI lim), (2, vI m), (3, vI a3), (4, vI a4), (5, vI a5), (6, vI a6), (7, vI (i : Int)), (8, vI (j : Int)), (9, vI (k : Int))] [] (mk I) (PI KI)
  | 0, k, a4, a5, a6, e, hX => by
    have nb0 := Nc_b I 0
    have nb1 := Nc_b I 1
    have nb2 := Nc_b I 2
    have h0 := hp.1
    refine bk_X11_dawn_169 (c11_choicesOf (d := d + 13) (s := 2) h (by omega) ?_)
    rw [← hp.1.2.2]
    refine ⟨fun _ => ⟨by omega, kk a4 a5 a6 ?_⟩, fun w => by omega⟩
    have ek : k = k2 := by omega
    subst ek
    obtain ⟨x2, ⟨x3, x4⟩, x5, x6, x7, x8⟩ := hX
    refine ⟨by rw [x2]; exact (NUM_j i j).symm, ⟨x3, fun l l0 l1 => by rw [ALLP_j]; exact x4 l l0 l1⟩, x5, by rw [ALLP_j]; exact x6, by rw [ALLP_j]; exact x7, by rw [ALLP_j]; exact x8⟩
  | q + 1, k, a4, a5, a6, e, hX => by
    have ih := fun a4 a5 a6 => m_k h hp tot hi hj kk q (k + 1) a4 a5 a6
    have nb0 := Nc_b I 0
    have nb1 := Nc_b I 1
    have nb2 := Nc_b I 2
    have h0 := hp.1
    have hk : k < k2 := by omega
    have g0 := hp.2.1 i hi
    have g1 := hp.2.2.1 j hj
    have g2 := hp.2.2.2 k hk
    have z0 : 0 + i = i := Nat.zero_add i
    rw [z0] at g0
    have e1 : (61 + (j : Int)).toNat = 61 + j := by omega
    have e2 : (122 + (k : Int)).toNat = 122 + k := by omega
    have nle := fun k hk => NUM_le (lim := lim) (L0 := I 554) (S0 := one1) (L1 := I 554) (S1 := one1) (L2 := I 554) (S2 := one1) (b0 := 0) (k0 := k0) (b1 := 61) (k1 := k1) (b2 := 122) (k2 := k2) (i := i) (j := j) (k := k) (fun i hi => by show (0 : Int) ≤ 1; omega) (fun i hi => by show (0 : Int) ≤ 1; omega) (fun i hi => by show (0 : Int) ≤ 1; omega) hi hj hk
    have n1 := nle k (by omega)
    have ek := NUM_k (lim := lim) (L0 := I 554) (S0 := one1) (L1 := I 554) (S1 := one1) (L2 := I 554) (S2 := one1) (b0 := 0) (b1 := 61) (k1 := k1) (b2 := 122) (k2 := k2) i j k
    have e11 : (one1 (0 + i) * one1 (61 + j)) * one1 (122 + k) = 1 := rfl
    rw [e11, Int.one_mul] at ek
    obtain ⟨x2, ⟨x3, x4⟩, x5, x6, x7, x8⟩ := hX
    refine bk_X11_dawn_169 (c11_choicesOf (d := d + 13) (s := 2) h (by omega) ?_)
    rw [← hp.1.2.2, Int.toNat_natCast, e1, e2]
    refine ⟨fun w => by omega, fun _ => ⟨by omega, by omega, by omega, by omega, by omega, fun w => ?_, fun w => ⟨by omega, ?_⟩⟩⟩
    · have v : VLD lim (I 554) i j k := by
        unfold VLD
        rw [z0]
        exact w
      rw [chi_1 v] at ek
      have og := oO_pin (oO_pin g0 g1) g2
      have fin : ∀ mm : Int, (0 ≤ mm ∧ mm < 8) → (bit mm 0 = true ↔ i = 0) → (bit mm 1 = true ↔ j = 0) → (bit mm 2 = true ↔ k = 0) → ((-2147483648 ≤ (k : Int) + 1 ∧ (k : Int) + 1 ≤ 2147483647) ∧ J none mX11_dawn (d + 16) 0 0 169 [(0, vR 489), (1, vI lim), (2, vI m), (3, vI a3), (4, vI (a4 + 1)), (5, vI (oA a5 (oO (oO (I 555 i) (I 555 (61 + j))) (I 555 (122 + k))))), (6, vI (oA a6 mm)), (7, vI (i : Int)), (8, vI (j : Int)), (9, vI ((k : Int) + 1))] [] (mk I) (PI KI)) := by
        intro mm mr m0 m1 m2
        refine ⟨by omega, ?_⟩
        have bo : ∀ s, bit (oA a6 mm) s = (bit a6 s && bit mm s) := fun s => bit_and (by omega) (by omega) (by omega) (by omega)
        have r9 : 0 ≤ oA a6 mm ∧ oA a6 mm < 8 := by
          have := and_8 a6.toNat (by omega) mm.toNat (by omega)
          rw [Int.toNat_of_nonneg (by omega), Int.toNat_of_nonneg (by omega)] at this
          exact this
        have oz : ∀ b x : Nat, b % 61 = 0 → x < 61 → (ox (b + x) ≠ 1 ↔ x = 0) := fun b x hb hx => by
          unfold ox
          split <;> omega
        have o0 := oz 0 i (by omega) (by omega)
        have o1 := oz 61 j (by omega) (by omega)
        have o2 := oz 122 k (by omega) (by omega)
        refine ih (a4 + 1) (oA a5 (oO (oO (I 555 i) (I 555 (61 + j))) (I 555 (122 + k)))) (oA a6 mm) (by omega) ⟨by rw [x2, ek], ⟨oA_pin x3 og, fun l l0 l1 => ?_⟩, r9, ?_, ?_, ?_⟩
        · rw [ALLP_k hi hj hk]
          unfold GP
          unfold pin at x3 og g0 g1 g2
          have o01 := oO_pin (x := I 555 i) (y := I 555 (61 + j)) g0 g1
          unfold pin at o01
          rw [bit_and (by omega) (by omega) (by omega) (by omega), bit_or (by omega) (by omega) (by omega) (by omega), bit_or (by omega) (by omega) (by omega) (by omega), Bool.and_eq_true, Bool.or_eq_true, Bool.or_eq_true, z0, x4 l l0 l1]
          exact ⟨fun w => ⟨w.1.1, w.1.2, fun _ => w.2⟩, fun w => ⟨⟨w.1, w.2.1⟩, w.2.2 v⟩⟩
        · rw [bo, Bool.and_eq_true, x6, m0, ALLP_k hi hj hk, ← o0]
          unfold OP0
          exact ⟨fun w => ⟨w.1.1, w.1.2, fun _ => w.2⟩, fun w => ⟨⟨w.1, w.2.1⟩, w.2.2 v⟩⟩
        · rw [bo, Bool.and_eq_true, x7, m1, ALLP_k hi hj hk, ← o1]
          unfold OP1
          exact ⟨fun w => ⟨w.1.1, w.1.2, fun _ => w.2⟩, fun w => ⟨⟨w.1, w.2.1⟩, w.2.2 v⟩⟩
        · rw [bo, Bool.and_eq_true, x8, m2, ALLP_k hi hj hk, ← o2]
          unfold OP2
          exact ⟨fun w => ⟨w.1.1, w.1.2, fun _ => w.2⟩, fun w => ⟨⟨w.1, w.2.1⟩, w.2.2 v⟩⟩
      have y1 : ∀ {u s : Int} {z : Nat}, bit u s = true → z = 0 → (bit u s = true ↔ z = 0) := fun h1 h2 => ⟨fun _ => h2, fun _ => h1⟩
      have y0 : ∀ {u s : Int} {z : Nat}, bit u s = false → z ≠ 0 → (bit u s = true ↔ z = 0) := fun h1 h2 => ⟨fun w => (by rw [h1] at w; cases w), fun w => absurd w h2⟩
      refine ⟨by omega, by omega, by omega, by omega, fun q0 => ⟨fun q1 => ⟨fun q2 => ?_, fun q2 => ?_⟩, fun q1 => ⟨fun q2 => ?_, fun q2 => ?_⟩⟩, fun q0 => ⟨fun q1 => ⟨fun q2 => ?_, fun q2 => ?_⟩, fun q1 => ⟨fun q2 => ?_, fun q2 => ?_⟩⟩⟩
      · exact fin 0 (by omega) (y0 (by decide +kernel) (by omega)) (y0 (by decide +kernel) (by omega)) (y0 (by decide +kernel) (by omega))
      · exact fin 4 (by omega) (y0 (by decide +kernel) (by omega)) (y0 (by decide +kernel) (by omega)) (y1 (by decide +kernel) (by omega))
      · exact fin 2 (by omega) (y0 (by decide +kernel) (by omega)) (y1 (by decide +kernel) (by omega)) (y0 (by decide +kernel) (by omega))
      · exact fin 6 (by omega) (y0 (by decide +kernel) (by omega)) (y1 (by decide +kernel) (by omega)) (y1 (by decide +kernel) (by omega))
      · exact fin 1 (by omega) (y1 (by decide +kernel) (by omega)) (y0 (by decide +kernel) (by omega)) (y0 (by decide +kernel) (by omega))
      · exact fin 5 (by omega) (y1 (by decide +kernel) (by omega)) (y0 (by decide +kernel) (by omega)) (y1 (by decide +kernel) (by omega))
      · exact fin 3 (by omega) (y1 (by decide +kernel) (by omega)) (y1 (by decide +kernel) (by omega)) (y0 (by decide +kernel) (by omega))
      · exact fin 7 (by omega) (y1 (by decide +kernel) (by omega)) (y1 (by decide +kernel) (by omega)) (y1 (by decide +kernel) (by omega))
    · have nv : ¬ VLD lim (I 554) i j k := by
        unfold VLD
        rw [z0]
        exact w
      rw [chi_0 nv, Int.add_zero] at ek
      refine ih a4 a5 a6 (by omega) ⟨by rw [x2, ek], ⟨x3, fun l l0 l1 => ?_⟩, x5, ?_, ?_, ?_⟩
      · rw [ALLP_k hi hj hk, x4 l l0 l1]
        exact ⟨fun w => ⟨w.1, w.2, fun v => absurd v nv⟩, fun w => ⟨w.1, w.2.1⟩⟩
      · rw [ALLP_k hi hj hk, x6]
        exact ⟨fun w => ⟨w.1, w.2, fun v => absurd v nv⟩, fun w => ⟨w.1, w.2.1⟩⟩
      · rw [ALLP_k hi hj hk, x7]
        exact ⟨fun w => ⟨w.1, w.2, fun v => absurd v nv⟩, fun w => ⟨w.1, w.2.1⟩⟩
      · rw [ALLP_k hi hj hk, x8]
        exact ⟨fun w => ⟨w.1, w.2, fun v => absurd v nv⟩, fun w => ⟨w.1, w.2.1⟩⟩
theorem m_j {i : Nat} (h : MDW I cs) (hp : MPN I k0 k1 k2) (tot : sH (fun p => F1 lim (I 554) one1 (I 554) one1 61 k1 122 k2 p) (I 554) one1 0 k0 ≤ 1000000) (hi : i < k0) (kk : ∀ a4 a5 a6, MST lim I n nl k0 k1 k2 (i + 1) 0 0 a4 a5 a6 → J none mX11_dawn (d + 16) 0 0 143 [(0, vR 489), (1, vI lim), (2, vI m), (3, vI a3), (4, vI a4), (5, vI a5), (6, vI a6), (7, vI ((i : Int) + 1))] [] (mk I) (PI KI)) : ∀ (q j : Nat) (a4 a5 a6 : Int), j + q = k1 → MST lim I n nl k0 k1 k2 i j 0 a4 a5 a6 → J none mX11_dawn (d + 16) 0 0 156 [(0, vR 489), (1, vI lim), (2, vI m), (3, vI a3), (4, vI a4), (5, vI a5), (6, vI a6), (7, vI (i : Int)), (8, vI (j : Int))] [] (mk I) (PI KI)
  | 0, j, a4, a5, a6, e, hX => by
    have nb0 := Nc_b I 0
    have nb1 := Nc_b I 1
    have h0 := hp.1
    refine bk_X11_dawn_156 (c11_choicesOf (d := d + 13) (s := 1) h (by omega) ?_)
    rw [← hp.1.2.1]
    refine ⟨fun _ => ⟨by omega, kk a4 a5 a6 ?_⟩, fun w => by omega⟩
    have ek : j = k1 := by omega
    subst ek
    obtain ⟨x2, ⟨x3, x4⟩, x5, x6, x7, x8⟩ := hX
    refine ⟨by rw [x2]; exact (NUM_i i).symm, ⟨x3, fun l l0 l1 => by rw [ALLP_i]; exact x4 l l0 l1⟩, x5, by rw [ALLP_i]; exact x6, by rw [ALLP_i]; exact x7, by rw [ALLP_i]; exact x8⟩
  | q + 1, j, a4, a5, a6, e, hX => by
    have ih := fun a4 a5 a6 => m_j h hp tot hi kk q (j + 1) a4 a5 a6
    refine bk_X11_dawn_156 (c11_choicesOf (d := d + 13) (s := 1) h (by omega) ?_)
    rw [← hp.1.2.1]
    refine ⟨fun w => by omega, fun _ => ?_⟩
    have := m_k (d := d) (KI := KI) (m := m) (a3 := a3) (i := i) (j := j) h hp tot hi (by omega) (fun a4 a5 a6 hm => ih a4 a5 a6 (by omega) hm) k2 0 a4 a5 a6 (by omega) hX
    exact this
theorem m_i (h : MDW I cs) (hp : MPN I k0 k1 k2) (tot : sH (fun p => F1 lim (I 554) one1 (I 554) one1 61 k1 122 k2 p) (I 554) one1 0 k0 ≤ 1000000) (kk : ∀ a4 a5 a6, MST lim I n nl k0 k1 k2 k0 0 0 a4 a5 a6 → ((a3 ≠ 0 → ((a4 ≠ 0 → ((a3 ≠ 1 → KI a6 I) ∧ (a3 = 1 → KI a5 I))) ∧ (a4 = 0 → KI 0 I))) ∧ (a3 = 0 → KI a4 I))) : ∀ (q i : Nat) (a4 a5 a6 : Int), i + q = k0 → MST lim I n nl k0 k1 k2 i 0 0 a4 a5 a6 → J none mX11_dawn (d + 16) 0 0 143 [(0, vR 489), (1, vI lim), (2, vI m), (3, vI a3), (4, vI a4), (5, vI a5), (6, vI a6), (7, vI (i : Int))] [] (mk I) (PI KI)
  | 0, i, a4, a5, a6, e, hX => by
    refine bk_X11_dawn_143 (c11_choicesOf (d := d + 13) (s := 0) h (by omega) ?_)
    rw [← hp.1.1]
    have ek : i = k0 := by omega
    subst ek
    obtain ⟨u1, u2⟩ := kk a4 a5 a6 hX
    exact ⟨fun _ => ⟨fun w => ⟨fun w2 => ⟨fun w3 => PI_i (((u1 w).1 w2).1 w3), fun w3 => PI_i (((u1 w).1 w2).2 w3)⟩, fun w2 => PI_i ((u1 w).2 w2)⟩, fun w => PI_i (u2 w)⟩, fun w => by omega⟩
  | q + 1, i, a4, a5, a6, e, hX => by
    have ih := fun a4 a5 a6 => m_i h hp tot kk q (i + 1) a4 a5 a6
    refine bk_X11_dawn_143 (c11_choicesOf (d := d + 13) (s := 0) h (by omega) ?_)
    rw [← hp.1.1]
    refine ⟨fun w => by omega, fun _ => ?_⟩
    have := m_j (d := d) (KI := KI) (m := m) (a3 := a3) (i := i) h hp tot (by omega) (fun a4 a5 a6 hm => ih a4 a5 a6 (by omega) hm) k1 0 a4 a5 a6 (by omega) hX
    exact this
end MT
