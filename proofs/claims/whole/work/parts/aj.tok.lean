/-- a text cut into tokens: its bytes; where each token begins, where it ends, its kind; the length; how many; what was told before -/
abbrev Txt : Type := (Nat → Int) × (Nat → Nat) × (Nat → Nat) × (Nat → Nat) × Nat × Nat × Int
abbrev uA (t : Txt) : Nat → Int := t.1
abbrev uS (t : Txt) : Nat → Nat := t.2.1
abbrev uP (t : Txt) : Nat → Nat := t.2.2.1
abbrev uK (t : Txt) : Nat → Nat := t.2.2.2.1
abbrev uE (t : Txt) : Nat := t.2.2.2.2.1
abbrev uN (t : Txt) : Nat := t.2.2.2.2.2.1
abbrev uO (t : Txt) : Int := t.2.2.2.2.2.2
def dgt (x : Int) : Prop := 48 ≤ x ∧ x ≤ 57
def wln (w : Nat) : Nat := ([6, 6, 4, 4, 5, 5, 2, 4, 4, 6, 7, 4, 2, 5, 3, 4, 2, 3, 3, 3, 6, 4, 3, 5, 6, 3, 3] : List Nat).getD w 0
/-- an own word stands there -/
def SPL (A : Nat → Int) (s p w : Nat) : Prop := p = s + wln w ∧ ∀ k, k < wln w → A (s + k) = ow (8 * w + k)
def KND (A : Nat → Int) (s p k : Nat) : Prop := (k ≤ 26 ∧ SPL A s p k) ∨ (k = 27 ∧ ∀ w, w ≤ 26 → ¬ SPL A s p w)
def TK1 (A : Nat → Int) (e s p k : Nat) : Prop := (s < p ∧ p ≤ e) ∧ ¬ blk (A s) ∧ ((ltr (A s) ∧ RUN ltr A e s p ∧ KND A s p k) ∨ (dgt (A s) ∧ RUN dgt A e s p ∧ k = 28) ∨ (¬ ltr (A s) ∧ ¬ dgt (A s) ∧ p = s + 1 ∧ k = 29))
def pe (P : Nat → Nat) (i : Nat) : Nat := if i = 0 then 0 else P (i - 1)
def GAPt (A : Nat → Int) (S P : Nat → Nat) (i : Nat) : Prop := pe P i ≤ S i ∧ ∀ j, pe P i ≤ j → j < S i → blk (A j)
def TKN (t : Txt) : Prop := (uE t ≤ 1600 ∧ uN t ≤ 1600) ∧ (uS t (uN t) = uE t ∧ uP t (uN t) = uE t ∧ uK t (uN t) = 30) ∧ (∀ i, i < uN t → TK1 (uA t) (uE t) (uS t i) (uP t i) (uK t i)) ∧ (∀ i, i ≤ uN t → GAPt (uA t) (uS t) (uP t) i) ∧ (0 ≤ uO t ∧ uO t ≤ 10000000)
theorem wl_ok : ∀ w, w ≤ 26 → (∀ k, k < wln w → 97 ≤ ow (8 * w + k) ∧ ow (8 * w + k) ≤ 122) ∧ ow (8 * w + wln w) = 32 ∧ (1 < wln w ∧ wln w < 8) ∧ SH0[491 + w]? = some (.inr (3, wln w)) := by
  have : ∀ w, w < 27 → (∀ k, k < wln w → 97 ≤ ow (8 * w + k) ∧ ow (8 * w + k) ≤ 122) ∧ ow (8 * w + wln w) = 32 ∧ (1 < wln w ∧ wln w < 8) ∧ SH0[491 + w]? = some (.inr (3, wln w)) := by decide +kernel
  exact fun w hw => this w (by omega)
theorem wl_u : ∀ w, w < 27 → ∀ w', w' < 27 → wln w = wln w' → (∀ k, k < wln w → ow (8 * w + k) = ow (8 * w' + k)) → w = w' := by decide +kernel
theorem SPL_u {A : Nat → Int} {s p w w' : Nat} (h : SPL A s p w) (g : SPL A s p w') (hw : w ≤ 26) (hw' : w' ≤ 26) : w = w' := by
  have e : wln w = wln w' := by have := h.1; have := g.1; omega
  exact wl_u w (by omega) w' (by omega) e (fun k hk => by rw [← h.2 k hk, g.2 k (by omega)])
section KW
variable {d : Nat} {I : HI} {KI : Int → HI → Prop}
/-- the letters match so far, blank behind -/
theorem kow_23 {s z w : Nat} {a2 : Int} (s16 : s + z ≤ 1600) (z8 : z < 8) (hw : w ≤ 26) (k1 : (∀ k, k < z → ow (8 * w + k) = I 27 (s + k)) → ow (8 * w + z) = 32 → KI (w : Int) I) (k0 : ¬ ((∀ k, k < z → ow (8 * w + k) = I 27 (s + k)) ∧ ow (8 * w + z) = 32) → J none mX7_kindOfWord (d + 5) 0 0 7 [(0, vR 28), (1, vI (s : Int)), (2, vI a2), (3, vI (z : Int)), (4, vI ((w : Int) + 1))] [] (mk I) (PI KI)) : ∀ (m c : Nat), c + m = z → (∀ k, k < c → ow (8 * w + k) = I 27 (s + k)) → J none mX7_kindOfWord (d + 5) 0 0 23 [(0, vR 28), (1, vI (s : Int)), (2, vI a2), (3, vI (z : Int)), (4, vI (w : Int)), (5, vI (c : Int))] [] (mk I) (PI KI)
  | 0, c, e, hc => by
    have ec : c = z := by omega
    subst ec
    refine bk_X7_kindOfWord_23 ⟨fun _ => ⟨fun q => absurd rfl q, fun _ => ⟨by omega, by omega, c0_charAt (by omega) (by omega) ?_⟩⟩, fun q => by omega⟩
    rw [show ((w : Int) * 8 + (c : Int)).toNat = 8 * w + c from by omega]
    exact ⟨fun q => ⟨by omega, k0 (fun u => q u.2)⟩, fun q => PI_i (k1 hc q)⟩
  | m + 1, c, e, hc => by
    have ih := kow_23 (a2 := a2) s16 z8 hw k1 k0 m (c + 1) (by omega)
    refine bk_X7_kindOfWord_23 ⟨fun q => by omega, fun _ => ⟨by omega, by omega, c0_charAt (by omega) (by omega) ?_⟩⟩
    rw [show ((w : Int) * 8 + (c : Int)).toNat = 8 * w + c from by omega, show ((s : Int) + (c : Int)).toNat = s + c from by omega]
    refine ⟨by omega, by omega, fun q => ⟨fun _ => ⟨by omega, k0 (fun u => q (u.1 c (by omega)))⟩, fun q2 => by omega⟩, fun q => ⟨by omega, ?_⟩⟩
    have := ih (fun k hk => by
      by_cases ek : k = c
      · rw [ek]; exact q
      · exact hc k (by omega))
    exact this
theorem kow_7 {s p : Nat} (sp : s < p) (p16 : p ≤ 1600) (hl : ∀ j, s ≤ j → j < p → ltr (I 27 j)) (h : ∀ k : Nat, KND (I 27) s p k → KI (k : Int) I) : ∀ (m w : Nat), w + m = 27 → (∀ w', w' < w → ¬ SPL (I 27) s p w') → J none mX7_kindOfWord (d + 5) 0 0 7 [(0, vR 28), (1, vI (s : Int)), (2, vI (p : Int)), (3, vI (((p - s : Nat) : Nat) : Int)), (4, vI (w : Int))] [] (mk I) (PI KI)
  | 0, w, e, hw => by
    refine bk_X7_kindOfWord_7 ⟨fun _ => PI_i ?_, fun q => by omega⟩
    have := h 27 (Or.inr ⟨rfl, fun w' h' => hw w' (by omega)⟩)
    exact this
  | m + 1, w, e, hw => by
    have ih := kow_7 sp p16 hl h m (w + 1) (by omega)
    obtain ⟨o1, o2, o3, o4⟩ := wl_ok w (by omega)
    refine bk_X7_kindOfWord_7 ⟨fun q => by omega, fun _ => ⟨fun q => PI_i ?_, fun q => ?_⟩⟩
    · have := h 27 (Or.inr ⟨rfl, fun w' h' u => by
        have := (wl_ok w' h').2.2.1
        have := u.1
        omega⟩)
      exact this
    · refine kow_23 (z := p - s) (by omega) (by omega) (by omega) (fun h1 h2 => ?_) (fun h1 => ?_) (p - s) 0 (by omega) (fun k hk => by omega)
      · have ez : p - s = wln w := by
          rcases Nat.lt_trichotomy (p - s) (wln w) with a | a | a
          · have := (o1 (p - s) a).1
            omega
          · exact a
          · have a1 := h1 (wln w) a
            have a2 := hl (s + wln w) (by omega) (by omega)
            unfold ltr at a2
            omega
        exact h w (Or.inl ⟨by omega, by omega, fun k hk => (h1 k (by omega)).symm⟩)
      · have := ih (fun w' h' u => by
          by_cases ew : w' = w
          · subst ew
            exact h1 ⟨fun k hk => (u.2 k (by have := u.1; omega)).symm, by rw [show p - s = wln w' from by have := u.1; omega]; exact o2⟩
          · exact hw w' (by omega) u)
        exact this
theorem c7_kindOfWord {s p : Nat} (sp : s < p) (p16 : p ≤ 1600) (hl : ∀ j, s ≤ j → j < p → ltr (I 27 j)) (h : ∀ k : Nat, KND (I 27) s p k → KI (k : Int) I) : CI mX7_kindOfWord (d + 5) [vR 28, vI (s : Int), vI (p : Int)] I KI := by
  refine bk_X7_kindOfWord_0 ⟨by omega, ?_⟩
  have := kow_7 (d := d) sp p16 hl h 27 0 (by omega) (fun w' h' => by omega)
  rw [show ((p - s : Nat) : Int) = (p : Int) - (s : Int) from by omega] at this
  exact this
end KW
