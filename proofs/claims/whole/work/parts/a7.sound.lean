/-- what is heard through one corner more -/
def fw1 (S : Nat → Nat → Int) (c : Nat) : Nat → Nat → Int := fun a b => if S a c + S c b < S a b then S a c + S c b else S a b
def fwn (S : Nat → Nat → Int) : Nat → Nat → Nat → Int
  | 0 => S
  | k + 1 => fw1 (fwn S k) k
def FWo (n : Nat) (S : Nat → Nat → Int) : Prop := ∀ a b, a < n → b < n → S a a = 0 ∧ (0 ≤ S a b ∧ S a b ≤ 999) ∧ S a b = S b a
theorem fw1_ok {n c : Nat} {S : Nat → Nat → Int} (h : FWo n S) (hc : c < n) : FWo n (fw1 S c) := by
  intro a b ha hb
  have h1 := h a a ha ha
  have h2 := h a b ha hb
  have h3 := h a c ha hc
  have h4 := h c b hc hb
  have h5 := h b c hb hc
  have h6 := h c a hc ha
  refine ⟨?_, ?_, ?_⟩
  · unfold fw1
    split <;> omega
  · unfold fw1
    split <;> omega
  · unfold fw1
    split <;> split <;> omega
theorem fwn_ok {n : Nat} {S : Nat → Nat → Int} (h : FWo n S) : ∀ k, k ≤ n → FWo n (fwn S k)
  | 0, _ => h
  | k + 1, hk => fw1_ok (fwn_ok h k (by omega)) (by omega)
theorem fw1_row {n c a b : Nat} {S : Nat → Nat → Int} (h : FWo n S) (hc : c < n) (ha : a < n) (hb : b < n) (e : a = c ∨ b = c) : fw1 S c a b = S a b := by
  have h1 := h c c hc hc
  unfold fw1
  rcases e with e | e
  · subst e
    rw [if_neg (by omega)]
  · subst e
    rw [if_neg (by omega)]
theorem fw1_congr {n c a b : Nat} {S T : Nat → Nat → Int} (h : ∀ a b, a < n → b < n → S a b = T a b) (hc : c < n) (ha : a < n) (hb : b < n) : fw1 S c a b = fw1 T c a b := by
  unfold fw1
  rw [h a c ha hc, h c b hc hb, h a b ha hb]
theorem fwn_congr {n : Nat} {S T : Nat → Nat → Int} (h : ∀ a b, a < n → b < n → S a b = T a b) : ∀ k, k ≤ n → ∀ a b, a < n → b < n → fwn S k a b = fwn T k a b
  | 0, _ => h
  | k + 1, hk => fun a b ha hb => fw1_congr (fwn_congr h k (by omega)) (by omega) ha hb
/-- corners that are not told change nothing -/
theorem fwn_far {n N : Nat} {S : Nat → Nat → Int} (h : FWo N S) (hn : n ≤ N) (far : ∀ a b, a < n → n ≤ b → b < N → S a b = 999) : ∀ k, k ≤ N → (∀ a b, a < n → n ≤ b → b < N → fwn S k a b = 999) ∧ (n ≤ k → ∀ a b, a < n → b < n → fwn S k a b = fwn S n a b) := by
  intro k
  induction k with
  | zero => exact fun _ => ⟨far, fun w a b ha hb => by omega⟩
  | succ k ih =>
    intro hk
    obtain ⟨i1, i2⟩ := ih (by omega)
    have ok := fwn_ok h k (by omega)
    refine ⟨fun a b ha hb hbN => ?_, fun w a b ha hb => ?_⟩
    · have e := i1 a b ha hb hbN
      have g1 := ok a k (by omega) (by omega)
      have g2 := ok k b (by omega) hbN
      show fw1 (fwn S k) k a b = 999
      unfold fw1
      rw [if_neg]
      · exact e
      · rw [e]
        by_cases q : k < n
        · have := i1 k b q hb hbN
          omega
        · have := i1 a k ha (by omega) (by omega)
          omega
    · by_cases q : n = k + 1
      · rw [q]
      · rw [← i2 (by omega) a b ha hb]
        have e := i1 a k ha (by omega) (by omega)
        have g1 := ok a b (by omega) (by omega)
        have g2 := ok k b (by omega) (by omega)
        show fw1 (fwn S k) k a b = fwn S k a b
        unfold fw1
        rw [if_neg (by omega)]
section SO
variable {d : Nat} {I : HI} {K : HI → Prop}
def MX (A : Nat → Int) (n : Nat) (S : Nat → Nat → Int) : Prop := ∀ a b, a < n → b < n → A (10 * a + b) = S a b
/-- a round of hearing at work: rows below f, and row f below t, are heard anew -/
def MXp (A : Nat → Int) (n : Nat) (S : Nat → Nat → Int) (c f t : Nat) : Prop := ∀ a b, a < n → b < n → A (10 * a + b) = if a < f ∨ (a = f ∧ b < t) then fw1 S c a b else S a b
theorem MXp_at {A : Nat → Int} {n c f t a b : Nat} {S : Nat → Nat → Int} (h : FWo n S) (hm : MXp A n S c f t) (hc : c < n) (ha : a < n) (hb : b < n) (e : a = c ∨ b = c) : A (10 * a + b) = S a b := by
  rw [hm a b ha hb]
  split
  · exact fw1_row h hc ha hb e
  · rfl
theorem hear_t {n c f : Nat} {S : Nat → Nat → Int} (en : I 15 0 = n) (n10 : n ≤ 10) (hS : FWo n S) (hc : c < n) (hf : f < n) (h : ∀ Y : HI, (∀ k, k ≠ 26 → Y k = I k) → MXp (Y 26) n S c (f + 1) 0 → J none mX0_hearThrough (d + 1) 0 0 2 [(0, vR 14), (1, vI (c : Int)), (2, vI ((f : Int) + 1))] [] (mk Y) (PV K)) : ∀ (m t : Nat) (X : HI), t + m = n → (∀ k, k ≠ 26 → X k = I k) → MXp (X 26) n S c f t → J none mX0_hearThrough (d + 1) 0 0 27 [(0, vR 14), (1, vI (c : Int)), (2, vI (f : Int)), (3, vI (S f c)), (4, vI (t : Int))] [] (mk X) (PV K)
  | 0, t, X, e, fX, mX => by
    have nx : J none mX0_hearThrough (d + 1) 0 0 2 [(0, vR 14), (1, vI (c : Int)), (2, vI ((f : Int) + 1))] [] (mk X) (PV K) := h X fX (fun a b ha hb => by
      rw [mX a b ha hb]
      by_cases q : a < f ∨ (a = f ∧ b < t)
      · rw [if_pos q, if_pos (by omega)]
      · rw [if_neg q, if_neg (by omega)])
    refine bk_X0_hearThrough_27 ?_
    rw [fX 15 (by decide), en]
    exact ⟨fun _ => ⟨by omega, nx⟩, fun _ => ⟨fun _ => ⟨by omega, nx⟩, fun q => by omega⟩⟩
  | m + 1, t, X, e, fX, mX => by
    have ih := fun Y => hear_t en n10 hS hc hf h m (t + 1) Y
    have g1 := hS f c hf hc
    have g2 := hS c t hc (by omega)
    have g3 := hS f t hf (by omega)
    have e1 : X 26 (10 * c + t) = S c t := MXp_at hS mX hc hc (by omega) (Or.inl rfl)
    have e2 : X 26 (10 * f + t) = S f t := by rw [mX f t hf (by omega), if_neg (by omega)]
    refine bk_X0_hearThrough_27 ?_
    rw [fX 15 (by decide), en, show ((c : Int) * 10 + (t : Int)).toNat = 10 * c + t from by omega, show ((f : Int) * 10 + (t : Int)).toNat = 10 * f + t from by omega, e1, e2]
    refine ⟨fun q => ⟨by omega, h X fX (fun a b ha hb => ?_)⟩, fun q => ⟨fun q2 => by omega, fun _ => ⟨by omega, by omega, by omega, by omega, by omega, by omega, by omega, fun q3 => ⟨by omega, ?_⟩, fun q3 => ⟨by omega, by omega, by omega, fun I1 E1 => ⟨by omega, ?_⟩⟩⟩⟩⟩
    · rw [mX a b ha hb]
      by_cases q : a < f ∨ (a = f ∧ b < t)
      · rw [if_pos q, if_pos (by omega)]
      · rw [if_neg q]
        by_cases q2 : a = f
        · subst q2
          rw [if_pos (by omega)]
          have k2 := hS c b hc hb
          have k3 := hS a b ha hb
          unfold fw1
          rw [if_neg (by omega)]
        · rw [if_neg (by omega)]
    · have := ih X (by omega) fX (fun a b ha hb => by
        rw [mX a b ha hb]
        by_cases q : a < f ∨ (a = f ∧ b < t)
        · rw [if_pos q, if_pos (by omega)]
        · rw [if_neg q]
          by_cases q2 : a = f ∧ b = t
          · obtain ⟨r1, r2⟩ := q2
            subst r1 r2
            rw [if_pos (by omega)]
            unfold fw1
            rw [if_neg (by omega)]
          · rw [if_neg (by omega)])
      exact this
    · have := ih I1 (by omega) (fun k hk => by rw [E1, up_k hk, fX k hk]) (fun a b ha hb => by
        by_cases q2 : a = f ∧ b = t
        · obtain ⟨r1, r2⟩ := q2
          subst r1 r2
          rw [E1, up_s, if_pos (by omega)]
          unfold fw1
          rw [if_pos (by omega)]
        · rw [E1, up_n (by omega), mX a b ha hb]
          by_cases q : a < f ∨ (a = f ∧ b < t)
          · rw [if_pos q, if_pos (by omega)]
          · rw [if_neg q, if_neg (by omega)])
      exact this
theorem hear_f {n c : Nat} {S : Nat → Nat → Int} (en : I 15 0 = n) (n10 : n ≤ 10) (hS : FWo n S) (hc : c < n) (h : ∀ Y : HI, (∀ k, k ≠ 26 → Y k = I k) → MX (Y 26) n (fw1 S c) → K Y) : ∀ (m f : Nat) (X : HI), f + m = n → (∀ k, k ≠ 26 → X k = I k) → MXp (X 26) n S c f 0 → J none mX0_hearThrough (d + 1) 0 0 2 [(0, vR 14), (1, vI (c : Int)), (2, vI (f : Int))] [] (mk X) (PV K)
  | 0, f, X, e, fX, mX => by
    refine bk_X0_hearThrough_2 ?_
    rw [fX 15 (by decide), en]
    refine ⟨fun _ => PV_i (h X fX (fun a b ha hb => ?_)), fun q => by omega⟩
    rw [mX a b ha hb, if_pos (by omega)]
  | m + 1, f, X, e, fX, mX => by
    have ih := fun Y => hear_f en n10 hS hc h m (f + 1) Y
    have e1 : X 26 (10 * f + c) = S f c := MXp_at hS mX hc (by omega) hc (Or.inr rfl)
    refine bk_X0_hearThrough_2 ?_
    rw [fX 15 (by decide), en, show ((f : Int) * 10 + (c : Int)).toNat = 10 * f + c from by omega, e1]
    refine ⟨fun q => by omega, fun _ => ⟨by omega, by omega, by omega, ?_⟩⟩
    have := hear_t (d := d) (K := K) (I := I) en n10 hS hc (show f < n from by omega) (fun Y fY mY => ih Y (by omega) fY mY) n 0 X (by omega) fX mX
    exact this
theorem c0_hearThrough {n c : Nat} {S : Nat → Nat → Int} (en : I 15 0 = n) (n10 : n ≤ 10) (hS : FWo n S) (hc : c < n) (hM : MX (I 26) n S) (h : ∀ Y : HI, (∀ k, k ≠ 26 → Y k = I k) → MX (Y 26) n (fw1 S c) → K Y) : CV mX0_hearThrough (d + 1) [vR 14, vI (c : Int)] I K :=
  bk_X0_hearThrough_0 (hear_f en n10 hS hc h n 0 I (by omega) (fun _ _ => rfl) (fun a b ha hb => by rw [if_neg (by omega)]; exact hM a b ha hb))
end SO
