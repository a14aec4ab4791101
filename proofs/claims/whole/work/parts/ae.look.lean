def blk (x : Int) : Prop := x = 10 ∨ x = 32
/-- only the reference's place in the text has moved -/
def LKf (I Y : HI) (q : Nat) : Prop := (∀ k, k ≠ 489 → Y k = I k) ∧ (∀ j, j ≠ 2 → Y 489 j = I 489 j) ∧ Y 489 2 = q
/-- from p on there are blanks only, up to q, where something stands or the text ends -/
def NXT (A : Nat → Int) (e p q : Nat) : Prop := (p ≤ q ∧ q ≤ e) ∧ (∀ j, p ≤ j → j < q → blk (A j)) ∧ (q = e ∨ ¬ blk (A q))
theorem NXT_u {A : Nat → Int} {e p q q' : Nat} (h : NXT A e p q) (g : NXT A e p q') : q = q' := by
  rcases Nat.lt_trichotomy q q' with w | w | w
  · rcases h.2.2 with u | u
    · have := g.1.2
      omega
    · exact absurd (g.2.1 q h.1.1 w) u
  · exact w
  · rcases g.2.2 with u | u
    · have := h.1.2
      omega
    · exact absurd (h.2.1 q' g.1.1 w) u
theorem NXT_ex (A : Nat → Int) (e : Nat) : ∀ (m p : Nat), p + m = e → ∃ q, NXT A e p q
  | 0, p, h => ⟨p, ⟨Nat.le_refl _, by omega⟩, fun j h1 h2 => by omega, Or.inl (by omega)⟩
  | m + 1, p, h => by
    by_cases b : blk (A p)
    · obtain ⟨q, h1, h2, h3⟩ := NXT_ex A e m (p + 1) (by omega)
      refine ⟨q, ⟨by omega, h1.2⟩, fun j j1 j2 => ?_, h3⟩
      by_cases e' : j = p
      · rw [e']; exact b
      · exact h2 j (by omega) j2
    · exact ⟨p, ⟨Nat.le_refl _, by omega⟩, fun j h1 h2 => by omega, Or.inr b⟩
section LK2
variable {d : Nat} {I : HI} {KI : Int → HI → Prop}
theorem look_lp {e q : Nat} (e16 : e ≤ 1600) (ee : I 489 3 = e) (hn : q = e ∨ ¬ blk (I 490 q)) (qe : q ≤ e) (k1 : q = e → ∀ Y : HI, LKf I Y q → KI (-1) Y) (k0 : q < e → ∀ Y : HI, LKf I Y q → KI (I 490 q) Y) : ∀ (m p : Nat) (X : HI), p + m = q → (∀ j, p ≤ j → j < q → blk (I 490 j)) → LKf I X p → J none mX11_look (d + 1) 0 0 0 [(0, vR 489)] [] (mk X) (PI KI)
  | 0, p, X, h, hb, fX => by
    have ep : p = q := by omega
    subst ep
    have x3 : X 489 3 = e := by rw [fX.2.1 3 (by decide)]; exact ee
    have x90 : X 490 = I 490 := fX.1 490 (by decide)
    refine bk_X11_look_0 ?_
    rw [x3, fX.2.2, Int.toNat_natCast, x90]
    by_cases q1 : p = e
    · exact ⟨fun _ => ⟨fun _ => PI_i (k1 q1 X fX), fun w => by omega⟩, fun w => by omega⟩
    · have nb := hn.resolve_left q1
      unfold blk at nb
      have fin := k0 (by omega) X fX
      refine ⟨fun w => by omega, fun _ => ⟨by omega, fun w => absurd (Or.inl w) nb, fun _ => ⟨by omega, fun _ => ⟨fun w => by omega, fun _ => ⟨by omega, PI_i fin⟩⟩, fun w => absurd (Or.inr w) nb⟩⟩⟩
  | m + 1, p, X, h, hb, fX => by
    have x3 : X 489 3 = e := by rw [fX.2.1 3 (by decide)]; exact ee
    have x90 : X 490 = I 490 := fX.1 490 (by decide)
    have bp := hb p (Nat.le_refl _) (by omega)
    have nx : ∀ Y : HI, Y = up X 489 2 ((p : Int) + 1) → J none mX11_look (d + 1) 0 0 0 [(0, vR 489)] [] (mk Y) (PI KI) := fun Y eY =>
      look_lp e16 ee hn qe k1 k0 m (p + 1) Y (by omega) (fun j j1 j2 => hb j (by omega) j2) ⟨fun k hk => by rw [eY, up_k hk, fX.1 k hk], fun j hj => by rw [eY, up_n (by omega), fX.2.1 j hj], by rw [eY, up_s]; omega⟩
    refine bk_X11_look_0 ?_
    rw [x3, fX.2.2, Int.toNat_natCast, x90]
    refine ⟨fun w => by omega, fun _ => ⟨by omega, fun w => ⟨by omega, fun I1 e1 => nx I1 e1⟩, fun w => ⟨by omega, fun w2 => ?_, fun w2 => ⟨by omega, fun I1 e1 => nx I1 e1⟩⟩⟩⟩
    unfold blk at bp
    omega
theorem c11_look {e p q : Nat} (e16 : e ≤ 1600) (ee : I 489 3 = e) (ep : I 489 2 = p) (hn : NXT (I 490) e p q) (k1 : q = e → ∀ Y : HI, LKf I Y q → KI (-1) Y) (k0 : q < e → ∀ Y : HI, LKf I Y q → KI (I 490 q) Y) : CI mX11_look (d + 1) [vR 489] I KI :=
  look_lp e16 ee hn.2.2 hn.1.2 k1 k0 (q - p) p I (by have := hn.1; omega) hn.2.1 ⟨fun _ _ => rfl, fun _ _ => rfl, ep⟩
end LK2
