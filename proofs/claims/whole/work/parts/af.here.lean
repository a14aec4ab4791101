def ltr (x : Int) : Prop := 97 ≤ x ∧ x ≤ 122
def RUN (P : Int → Prop) (A : Nat → Int) (e q r : Nat) : Prop := (q ≤ r ∧ r ≤ e) ∧ (∀ j, q ≤ j → j < r → P (A j)) ∧ (r = e ∨ ¬ P (A r))
section HE
variable {d : Nat} {I : HI} {KI : Int → HI → Prop}
theorem c11_isLetter {x : Int} (k1 : ltr x → KI 1 I) (k0 : ¬ ltr x → KI 0 I) : CI mX11_isLetter (d + 1) [vI x] I KI := by
  unfold ltr at k1 k0
  exact bk_X11_isLetter_0 ⟨fun q => PI_i (k0 (by omega)), fun q => ⟨fun q2 => PI_i (k0 (by omega)), fun q2 => PI_i (k1 (by omega))⟩⟩
theorem here_76 {a n q : Nat} {a2 : Int} (ha : SH0[a]? = some (.inr (3, n))) (n1 : n ≤ 100) (eq2 : I 489 2 = q) (qn : q + n ≤ 1600) (k1 : (∀ i, i < n → I 490 (q + i) = I a i) → KI 1 I) (k0 : (¬ ∀ i, i < n → I 490 (q + i) = I a i) → KI 0 I) : ∀ (m i : Nat), i + m = n → (∀ j, j < i → I 490 (q + j) = I a j) → J none mX11_isHere (d + 1) 0 0 76 [(0, vR 489), (1, vR a), (2, vI a2), (3, vI (i : Int))] [] (mk I) (PI KI)
  | 0, i, h, hd => bk_X11_isHere_76 ha ⟨by omega, fun _ => PI_i (k1 (fun j hj => hd j (by omega))), fun w => by omega⟩
  | m + 1, i, h, hd => by
    refine bk_X11_isHere_76 ha ?_
    rw [eq2, show ((q : Int) + (i : Int)).toNat = q + i from by omega, Int.toNat_natCast]
    refine ⟨by omega, fun w => by omega, fun _ => ⟨by omega, by omega, by omega, fun w => ⟨by omega, ?_⟩, fun w => PI_i (k0 (fun u => w (u i (by omega))))⟩⟩
    have := here_76 (a2 := a2) ha n1 eq2 qn k1 k0 m (i + 1) (by omega) (fun j hj => by
      by_cases ej : j = i
      · rw [ej]; exact w
      · exact hd j (by omega))
    exact this
theorem here_35 {a n q e r : Nat} (ha : SH0[a]? = some (.inr (3, n))) (n1 : n ≤ 100) (e16 : e ≤ 1600) (ee : I 489 3 = e) (eq2 : I 489 2 = q) (hr : RUN ltr (I 490) e q r) (k1 : (r = q + n ∧ ∀ i, i < n → I 490 (q + i) = I a i) → KI 1 I) (k0 : ¬ (r = q + n ∧ ∀ i, i < n → I 490 (q + i) = I a i) → KI 0 I) : ∀ (m j : Nat), j + m = r → q ≤ j → J none mX11_isHere (d + 2) 0 0 35 [(0, vR 489), (1, vR a), (2, vI (j : Int))] [] (mk I) (PI KI)
  | 0, j, h, qj => by
    have ej : j = r := by omega
    subst ej
    have hb := hr.1
    have fin : ((j : Int) - (q : Int) = (n : Int) → J none mX11_isHere (d + 2) 0 0 76 [(0, vR 489), (1, vR a), (2, vI (j : Int)), (3, vI 0)] [] (mk I) (PI KI)) ∧ (¬ ((j : Int) - (q : Int) = (n : Int)) → PI KI (some (vI 0)) (mk I)) := by
      refine ⟨fun w => ?_, fun w => PI_i (k0 (fun u => w (by omega)))⟩
      have := here_76 (d := d + 1) (KI := KI) (a2 := (j : Int)) ha n1 eq2 (by omega) (fun u => k1 ⟨by omega, u⟩) (fun u => k0 (fun v => u v.2)) n 0 (by omega) (fun i hi => by omega)
      exact this
    refine bk_X11_isHere_35 ha ?_
    rw [ee, eq2, Int.toNat_natCast]
    refine ⟨fun _ => ⟨by omega, by omega, fin⟩, fun w => ⟨by omega, c11_isLetter (fun l => ?_) (fun l => ⟨fun _ => ?_, fun z => absurd rfl z⟩)⟩⟩
    · rcases hr.2.2 with u | u
      · omega
      · exact absurd l u
    · rw [eq2]
      exact ⟨by omega, by omega, fin⟩
  | m + 1, j, h, qj => by
    have ih := here_35 ha n1 e16 ee eq2 hr k1 k0 m (j + 1) (by omega) (by omega)
    have hb := hr.1
    have lj := hr.2.1 j qj (by omega)
    refine bk_X11_isHere_35 ha ?_
    rw [ee, Int.toNat_natCast]
    refine ⟨fun w => by omega, fun _ => ⟨by omega, c11_isLetter (fun l => ⟨fun z => by omega, fun _ => ⟨by omega, ?_⟩⟩) (fun l => absurd lj l)⟩⟩
    exact ih
/-- a word stands here, told apart from the one ahead -/
def HRE (I : HI) (e q r n a : Nat) : Prop := (q < e ∧ ltr (I 490 q)) ∧ (q : Int) ≠ I 489 4 ∧ r = q + n ∧ ∀ i, i < n → I 490 (q + i) = I a i
theorem c11_isHere {a n e p q r : Nat} (ha : SH0[a]? = some (.inr (3, n))) (n1 : n ≤ 100) (a489 : a ≠ 489) (e16 : e ≤ 1600) (ee : I 489 3 = e) (ep : I 489 2 = p) (bad : I 489 5 = 0) (hn : NXT (I 490) e p q) (hr : q < e → RUN ltr (I 490) e q r) (k1 : HRE I e q r n a → ∀ Y : HI, LKf I Y q → KI 1 Y) (k0 : ¬ HRE I e q r n a → ∀ Y : HI, LKf I Y q → KI 0 Y) : CI mX11_isHere (d + 3) [vR 489, vR a] I KI := by
  refine bk_X11_isHere_0 ha ⟨fun w => absurd bad w, fun _ => c11_look e16 ee ep hn (fun qe Y fY => c11_isLetter (fun l => ?_) (fun l => ⟨fun _ => PI_i (k0 (fun u => by have := u.1.1; omega) Y fY), fun z => absurd rfl z⟩)) (fun qe Y fY => c11_isLetter (fun l => ⟨fun z => by omega, fun _ => ?_⟩) (fun l => ⟨fun _ => PI_i (k0 (fun u => l u.1.2) Y fY), fun z => absurd rfl z⟩))⟩
  · unfold ltr at l
    omega
  · rw [fY.2.2, fY.2.1 4 (by decide)]
    refine ⟨fun w => ?_, fun w => PI_i (k0 (fun u => u.2.1 w) Y fY)⟩
    have f90 : Y 490 = I 490 := fY.1 490 (by decide)
    have fa : Y a = I a := fY.1 a a489
    have := here_35 (d := d + 1) (I := Y) (KI := KI) (q := q) (e := e) (r := r) ha n1 e16 (by rw [fY.2.1 3 (by decide)]; exact ee) fY.2.2 (by rw [f90]; exact hr qe) (fun u => k1 ⟨⟨qe, l⟩, w, u.1, by rw [f90, fa] at u; exact u.2⟩ Y fY) (fun u => k0 (fun v => u ⟨v.2.2.1, by rw [f90, fa]; exact v.2.2.2⟩) Y fY) (r - q) q (by have := (hr qe).1; omega) (Nat.le_refl _)
    exact this
end HE
