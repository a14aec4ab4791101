def aln (x : Int) : Bool := (decide (97 ≤ x) && decide (x ≤ 122)) || (decide (48 ≤ x) && decide (x ≤ 57))
theorem aln_iff {x : Int} : aln x = true ↔ (ltr x ∨ dgt x) := by
  unfold aln ltr dgt
  simp only [Bool.or_eq_true, Bool.and_eq_true, decide_eq_true_eq]
theorem aln_no {x : Int} : aln x = false ↔ (¬ ltr x ∧ ¬ dgt x) := by
  rw [← Bool.not_eq_true, aln_iff]
  exact not_or
/-- words and numbers that begin at f or behind it, ahead of k -/
def wcn (A : Nat → Int) (f : Nat) : Nat → Int
  | 0 => 0
  | k + 1 => wcn A f k + (if f ≤ k ∧ aln (A k) = true ∧ (k = f ∨ aln (A (k - 1)) = false) then 1 else 0)
theorem wcn_0 {A : Nat → Int} {f : Nat} : ∀ k, k ≤ f → wcn A f k = 0
  | 0, _ => rfl
  | k + 1, h => by
    show wcn A f k + _ = 0
    rw [wcn_0 k (by omega), if_neg (by omega)]
    rfl
theorem wcn_rng {A : Nat → Int} {f : Nat} : ∀ k, 0 ≤ wcn A f k ∧ wcn A f k ≤ k
  | 0 => by unfold wcn; omega
  | k + 1 => by
    have := wcn_rng (A := A) (f := f) k
    show 0 ≤ wcn A f k + _ ∧ wcn A f k + _ ≤ _
    split <;> omega
theorem wcn_seg {A : Nat → Int} {f a : Nat} : ∀ (m : Nat), (∀ k, a ≤ k → k < a + m → ¬ (f ≤ k ∧ aln (A k) = true ∧ (k = f ∨ aln (A (k - 1)) = false))) → wcn A f (a + m) = wcn A f a
  | 0, _ => rfl
  | m + 1, h => by
    have e : wcn A f (a + (m + 1)) = wcn A f (a + m) + (if f ≤ a + m ∧ aln (A (a + m)) = true ∧ (a + m = f ∨ aln (A (a + m - 1)) = false) then 1 else 0) := rfl
    rw [e, if_neg (h (a + m) (by omega) (by omega)), wcn_seg m (fun k a1 a2 => h k a1 (by omega))]
    omega
section WI
variable {d : Nat} {X : HI} {KI : Int → HI → Prop}
theorem words_5 {f to : Nat} (to16 : to ≤ 1600) (h : KI (wcn (X 490) f to) X) : ∀ (m k : Nat), k + m = to → f ≤ k → J none mX11_wordsIn (d + 2) 0 0 5 [(0, vR 489), (1, vI (f : Int)), (2, vI (to : Int)), (3, vI (wcn (X 490) f k)), (4, vI (k : Int))] [] (mk X) (PI KI)
  | 0, k, e, fk => by
    have ek : k = to := by omega
    subst ek
    exact bk_X11_wordsIn_5 ⟨fun _ => PI_i h, fun z => by omega⟩
  | m + 1, k, e, fk => by
    have ih := words_5 to16 h m (k + 1) (by omega) (by omega)
    have rg := wcn_rng (A := X 490) (f := f) k
    have s1 : f ≤ k ∧ aln (X 490 k) = true ∧ (k = f ∨ aln (X 490 (k - 1)) = false) → J none mX11_wordsIn (d + 2) 0 0 5 [(0, vR 489), (1, vI (f : Int)), (2, vI (to : Int)), (3, vI (wcn (X 490) f k + 1)), (4, vI ((k : Int) + 1))] [] (mk X) (PI KI) := fun c => by
      have e1 : wcn (X 490) f (k + 1) = wcn (X 490) f k + 1 := by
        show wcn (X 490) f k + _ = _
        rw [if_pos c]
      rw [e1] at ih
      exact ih
    have s0 : ¬ (f ≤ k ∧ aln (X 490 k) = true ∧ (k = f ∨ aln (X 490 (k - 1)) = false)) → J none mX11_wordsIn (d + 2) 0 0 5 [(0, vR 489), (1, vI (f : Int)), (2, vI (to : Int)), (3, vI (wcn (X 490) f k)), (4, vI ((k : Int) + 1))] [] (mk X) (PI KI) := fun c => by
      have e1 : wcn (X 490) f (k + 1) = wcn (X 490) f k := by
        show wcn (X 490) f k + _ = _
        rw [if_neg c]
        omega
      rw [e1] at ih
      exact ih
    refine bk_X11_wordsIn_5 ?_
    rw [Int.toNat_natCast]
    refine ⟨fun z => by omega, fun _ => ⟨by omega, c11_isLetter (fun l => ⟨fun _ => ⟨fun z => ⟨by omega, by omega, s1 ⟨fk, aln_iff.mpr (Or.inl l), Or.inl (by omega)⟩⟩, fun z => ⟨by omega, by omega, ?_⟩⟩, fun z => by omega⟩) (fun l => ⟨fun z => absurd rfl z, fun _ => ⟨by omega, ?_⟩⟩)⟩⟩
    · rw [show ((k : Int) - 1).toNat = k - 1 from by omega]
      refine c11_isLetter (fun l2 => ⟨fun _ => ⟨by omega, s0 (fun c => ?_)⟩, fun z => by omega⟩) (fun l2 => ⟨fun z => absurd rfl z, fun _ => ⟨by omega, by omega, ?_⟩⟩)
      · rcases c.2.2 with u | u
        · omega
        · exact (aln_no.mp u).1 l2
      · refine c11_isDigit (fun l3 => ⟨fun _ => ⟨by omega, s0 (fun c => ?_)⟩, fun z => by omega⟩) (fun l3 => ⟨fun z => absurd rfl z, fun _ => ⟨by omega, by omega, s1 ⟨fk, aln_iff.mpr (Or.inl l), Or.inr (aln_no.mpr ⟨l2, l3⟩)⟩⟩⟩)
        rcases c.2.2 with u | u
        · omega
        · exact (aln_no.mp u).2 l3
    · refine c11_isDigit (fun g => ⟨fun z => by omega, fun _ => ⟨fun z => ⟨by omega, by omega, s1 ⟨fk, aln_iff.mpr (Or.inr g), Or.inl (by omega)⟩⟩, fun z => ⟨by omega, by omega, ?_⟩⟩⟩) (fun g => ⟨fun _ => ⟨by omega, s0 (fun c => ?_)⟩, fun z => absurd rfl z⟩)
      · rw [show ((k : Int) - 1).toNat = k - 1 from by omega]
        refine c11_isLetter (fun l2 => ⟨fun _ => ⟨by omega, s0 (fun c => ?_)⟩, fun z => by omega⟩) (fun l2 => ⟨fun z => absurd rfl z, fun _ => ⟨by omega, by omega, ?_⟩⟩)
        · rcases c.2.2 with u | u
          · omega
          · exact (aln_no.mp u).1 l2
        · refine c11_isDigit (fun l3 => ⟨fun _ => ⟨by omega, s0 (fun c => ?_)⟩, fun z => by omega⟩) (fun l3 => ⟨fun z => absurd rfl z, fun _ => ⟨by omega, by omega, s1 ⟨fk, aln_iff.mpr (Or.inr g), Or.inr (aln_no.mpr ⟨l2, l3⟩)⟩⟩⟩)
          rcases c.2.2 with u | u
          · omega
          · exact (aln_no.mp u).2 l3
      · rcases aln_iff.mp c.2.1 with u | u
        · exact l u
        · exact g u
theorem c11_wordsIn {f to : Nat} (to16 : to ≤ 1600) (h : KI (wcn (X 490) f to) X) : CI mX11_wordsIn (d + 2) [vR 489, vI (f : Int), vI (to : Int)] X KI := by
  refine bk_X11_wordsIn_0 ?_
  by_cases e : f ≤ to
  · have := words_5 (d := d) to16 h (to - f) f (by omega) (Nat.le_refl _)
    rw [wcn_0 f (Nat.le_refl _)] at this
    exact this
  · rw [wcn_0 to (by omega)] at h
    exact bk_X11_wordsIn_5 ⟨fun _ => PI_i h, fun z => by omega⟩
end WI
section WP
variable {t : Txt}
theorem wct_0 {i0 : Nat} : ∀ k, k ≤ i0 → wct t i0 k = 0
  | 0, _ => rfl
  | k + 1, h => by
    show wct t i0 k + _ = 0
    rw [wct_0 k (by omega), if_neg (by omega)]
    rfl
theorem wcn_cg {A B : Nat → Int} {f : Nat} : ∀ (k : Nat), (∀ j, j < k → A j = B j) → wcn A f k = wcn B f k
  | 0, _ => rfl
  | k + 1, h => by
    show wcn A f k + _ = wcn B f k + _
    rw [wcn_cg k (fun j hj => h j (by omega)), h k (by omega)]
    by_cases e : k = 0
    · subst e
      rw [h 0 (by omega)]
    · rw [h (k - 1) (by omega)]
theorem blk_n {x : Int} (h : blk x) : aln x = false := by
  rw [aln_no]
  unfold blk at h
  unfold ltr dgt
  omega
/-- the reference counts as the class does -/
theorem wcn_wct (ht : TKN t) {i0 : Nat} (h0 : 0 < i0) : ∀ (m : Nat), i0 + m ≤ uN t → njt t i0 (i0 + m) → ∀ to, pe (uP t) (i0 + m) ≤ to → to ≤ uS t (i0 + m) → wcn (uA t) (uP t (i0 - 1)) to = wct t i0 (i0 + m)
  | 0, hn, hj, to, h1, h2 => by
    have g := ht.2.2.2.1 i0 (by omega)
    have e : pe (uP t) i0 = uP t (i0 - 1) := by unfold pe; rw [if_neg (by omega)]
    rw [Nat.add_zero] at h1 h2 ⊢
    rw [wct_0 i0 (Nat.le_refl _)]
    unfold GAPt at g
    rw [e] at h1 g
    have s := wcn_seg (A := uA t) (f := uP t (i0 - 1)) (a := uP t (i0 - 1)) (to - uP t (i0 - 1)) (fun k a1 a2 c => by
      have := blk_n (g.2 k a1 (by omega))
      rw [this] at c
      exact absurd c.2.1 (by decide))
    rw [show uP t (i0 - 1) + (to - uP t (i0 - 1)) = to from by omega, wcn_0 _ (Nat.le_refl _)] at s
    exact s
  | m + 1, hn, hj, to, h1, h2 => by
    have ih := wcn_wct ht h0 m (by omega) (fun u a b => hj u a (by omega)) (uS t (i0 + m)) (ht.2.2.2.1 (i0 + m) (by omega)).1 (Nat.le_refl _)
    rw [show i0 + (m + 1) = i0 + m + 1 from by omega] at h1 h2 hn ⊢
    have e : pe (uP t) (i0 + m + 1) = uP t (i0 + m) := by unfold pe; rw [if_neg (by omega), show i0 + m + 1 - 1 = i0 + m from by omega]
    have g := ht.2.2.2.1 (i0 + m + 1) hn
    unfold GAPt at g
    rw [e] at h1 g
    have tn := tK_n ht (i := i0 + m) (by omega)
    have tl := tk_ltr ht (i := i0 + m) (by omega)
    have fr : uP t (i0 - 1) ≤ uS t (i0 + m) := by
      have mono : ∀ n, i0 + n ≤ uN t → uP t (i0 - 1) ≤ uS t (i0 + n) := by
        intro n
        induction n with
        | zero =>
          intro q
          have := (ht.2.2.2.1 i0 (by omega)).1
          unfold pe at this
          rw [if_neg (by omega)] at this
          exact this
        | succ n ihn =>
          intro q
          have a1 := ihn (by omega)
          have a2 := tK_n ht (i := i0 + n) (by omega)
          have a3 := gap_n ht (i := i0 + n) (by omega)
          rw [show i0 + (n + 1) = i0 + n + 1 from by omega]
          omega
      exact mono m (by omega)
    have gap := wcn_seg (A := uA t) (f := uP t (i0 - 1)) (a := uP t (i0 + m)) (to - uP t (i0 + m)) (fun k a1 a2 c => by
      have := blk_n (g.2 k a1 (by omega))
      rw [this] at c
      exact absurd c.2.1 (by decide))
    rw [show uP t (i0 + m) + (to - uP t (i0 + m)) = to from by omega] at gap
    rw [gap, wct_s (by omega), ← ih]
    have tok := ht.2.2.1 (i0 + m) (by omega)
    unfold wk1
    by_cases k28 : uK t (i0 + m) ≤ 28
    · rw [if_pos k28]
      have nj := hj (i0 + m) (by omega) (by omega) k28
      have allA : ∀ k, uS t (i0 + m) ≤ k → k < uP t (i0 + m) → aln (uA t k) = true := fun k a1 a2 => by
        rw [aln_iff]
        rcases tok.2.2 with u | u | u
        · exact Or.inl (u.2.1.2.1 k a1 a2)
        · exact Or.inr (u.2.1.2.1 k a1 a2)
        · omega
      have first : wcn (uA t) (uP t (i0 - 1)) (uS t (i0 + m) + 1) = wcn (uA t) (uP t (i0 - 1)) (uS t (i0 + m)) + 1 := by
        show wcn (uA t) (uP t (i0 - 1)) (uS t (i0 + m)) + _ = _
        rw [if_pos]
        refine ⟨fr, allA _ (Nat.le_refl _) (by omega), ?_⟩
        by_cases es : uS t (i0 + m) = uP t (i0 - 1)
        · exact Or.inl es
        · right
          have gp := ht.2.2.2.1 (i0 + m) (by omega)
          have ep : pe (uP t) (i0 + m) = uP t (i0 + m - 1) := by unfold pe; rw [if_neg (by omega)]
          unfold GAPt at gp
          rw [ep] at gp
          by_cases eg : uP t (i0 + m - 1) = uS t (i0 + m)
          · have tp := tK_n ht (i := i0 + m - 1) (by omega)
            have tp2 := tk_ltr ht (i := i0 + m - 1) (by omega)
            have k29 : uK t (i0 + m - 1) = 29 := by
              by_cases kp : uK t (i0 + m - 1) ≤ 28
              · exact absurd ⟨by omega, kp, eg.symm, k28⟩ nj
              · omega
            have e1 := tp2.2.2 k29
            rw [show uS t (i0 + m) - 1 = uS t (i0 + m - 1) from by omega, aln_no]
            exact ⟨fun u => by have := tp2.1.mp u; omega, fun u => by have := tp2.2.1.mp u; omega⟩
          · exact blk_n (gp.2 _ (by omega) (by omega))
      have rest := wcn_seg (A := uA t) (f := uP t (i0 - 1)) (a := uS t (i0 + m) + 1) (uP t (i0 + m) - (uS t (i0 + m) + 1)) (fun k a1 a2 c => by
        have := allA (k - 1) (by omega) (by omega)
        rcases c.2.2 with u | u
        · omega
        · rw [this] at u
          exact absurd u (by decide))
      rw [show uS t (i0 + m) + 1 + (uP t (i0 + m) - (uS t (i0 + m) + 1)) = uP t (i0 + m) from by omega] at rest
      rw [rest, first]
    · rw [if_neg k28]
      have k29 : uK t (i0 + m) = 29 := by omega
      have e1 := tl.2.2 k29
      rw [e1]
      show wcn (uA t) (uP t (i0 - 1)) (uS t (i0 + m)) + _ = _
      rw [if_neg]
      intro c
      rcases aln_iff.mp c.2.1 with u | u
      · have := tl.1.mp u; omega
      · have := tl.2.1.mp u; omega
end WP
