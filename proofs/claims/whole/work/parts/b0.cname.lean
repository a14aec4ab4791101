def NAs (t : Txt) (i : Nat) : Prop := (uK t i = 27 ∧ ¬ jnd t i) ∧ uP t i ≤ uS t i + 6
def NAf (t : Txt) (i : Nat) (k p : Int) : Prop := (¬ (uK t i = 27 ∧ ¬ jnd t i) ∧ k = 1 ∧ p = uS t i) ∨ ((uK t i = 27 ∧ ¬ jnd t i) ∧ uS t i + 6 < uP t i ∧ k = 1 ∧ p = (uS t i : Int) + 6)
/-- the token's letter k as a number, 0 behind its end -/
def lt6 (t : Txt) (i k : Nat) : Int := if uS t i + k < uP t i then uA t (uS t i + k) - 96 else 0
def nmq (f : Nat → Int) (t : Txt) (i w : Nat) : Prop := ∀ k, k < 6 → f (6 * w + k) = lt6 t i k
/-- the first of these names, -1 if none -/
def NMD (f : Nat → Int) (t : Txt) (i c : Nat) (x : Int) : Prop := (x = -1 ∧ ∀ w, w < c → ¬ nmq f t i w) ∨ (∃ w, w < c ∧ x = (w : Nat) ∧ nmq f t i w ∧ ∀ w', w' < w → ¬ nmq f t i w')
theorem tL_run {t : Txt} (ht : TKN t) {i : Nat} (hk : uK t i ≤ 27) (hi : i ≤ uN t) : RUN ltr (uA t) (uE t) (uS t i) (uP t i) := by
  have kk := tK_e ht hi
  have h := ht.2.2.1 i (by omega)
  rcases h.2.2 with a | a | a
  · exact a.2.1
  · omega
  · omega
section CN2
variable {d : Nat} {I : HI} {K : HI → Prop} {KI : Int → HI → Prop} {t : Txt} {i : Nat}
theorem c7_nameStands (ht : TKN t) (hr : RDk t I i) (k1 : NAs t i → KI 1 I) (k0 : ∀ k p, NAf t i k p → ∀ Y : HI, FLc I Y k p → KI 0 Y) : CI mX7_nameStands (d + 2) [vR 28] I KI := by
  obtain ⟨⟨r1, r2⟩, r3, ⟨r4, r5, r6, r7⟩, r8, r9⟩ := hr
  have kk := tK_e ht r3
  refine bk_X7_nameStands_0 ?_
  rw [r7, r6, r5]
  refine ⟨fun q => c7_fail (fun Y fY => ⟨Or.inl rfl, PI_i (k0 1 _ (Or.inl ⟨fun u => by have := u.1; omega, rfl, rfl⟩) Y fY)⟩), fun q => ⟨fun q2 => ⟨by omega, fun q3 => PI_i (k1 ⟨⟨by omega, fun u => by have := r8.1 u; omega⟩, by omega⟩), fun q3 => ⟨by omega, c7_fail (fun Y fY => ⟨fun _ => PI_i (k0 1 _ (Or.inr ⟨⟨by omega, fun u => by have := r8.1 u; omega⟩, by omega, rfl, rfl⟩) Y fY), fun z => absurd rfl z⟩)⟩⟩, fun q2 => c7_fail (fun Y fY => ⟨Or.inl rfl, PI_i (k0 1 _ (Or.inl ⟨fun u => q2 (r8.2 u.2), rfl, rfl⟩) Y fY)⟩)⟩⟩
theorem c7_letter {k : Nat} (ht : TKN t) (hr : RDk t I i) (k6 : k < 6) (hk : uK t i ≤ 27) (h : KI (lt6 t i k) I) : CI mX7_letterOfToken (d + 1) [vR 28, vI (k : Int)] I KI := by
  obtain ⟨⟨r1, r2⟩, r3, ⟨r4, r5, r6, r7⟩, r8, r9⟩ := hr
  have kk := tK_e ht r3
  have e16 := ht.1.1
  have tn := tK_n ht (i := i) (by omega)
  refine bk_X7_letterOfToken_0 ?_
  rw [r6, r5, show ((uS t i : Int) + (k : Int)).toNat = uS t i + k from by omega, r1]
  unfold lt6 at h
  refine ⟨by omega, fun q => PI_i ?_, fun q => ?_⟩
  · rw [if_neg (by omega)] at h
    exact h
  · rw [if_pos (by omega)] at h
    have hl := (tL_run ht hk r3).2.1 (uS t i + k) (by omega) (by omega)
    unfold ltr at hl
    refine ⟨by omega, by omega, by omega, by omega, PI_i ?_⟩
    rw [show uA t (uS t i + k) - 97 + 1 = uA t (uS t i + k) - 96 from by omega]
    exact h
theorem named_10 {a n1 c w : Nat} (ha : SH0[a]? = some (.inr (0, n1))) (n1k : n1 ≤ 1000) (ht : TKN t) (hr : RDk t I i) (hk : uK t i ≤ 27) (wc : w < c) (cn : 6 * c ≤ n1) (k1 : nmq (I a) t i w → KI (w : Int) I) (k0 : ¬ nmq (I a) t i w → J none mX7_named (d + 2) 0 0 2 [(0, vR 28), (1, vR a), (2, vI (c : Int)), (3, vI ((w : Int) + 1))] [] (mk I) (PI KI)) : ∀ (m u : Nat), u + m = 6 → (∀ k, k < u → I a (6 * w + k) = lt6 t i k) → J none mX7_named (d + 2) 0 0 10 [(0, vR 28), (1, vR a), (2, vI (c : Int)), (3, vI (w : Int)), (4, vI (u : Int))] [] (mk I) (PI KI)
  | 0, u, e, h => bk_X7_named_10 ha ⟨fun _ => ⟨fun z => by omega, fun _ => PI_i (k1 (fun k hk => h k (by omega)))⟩, fun z => by omega⟩
  | m + 1, u, e, h => by
    have ih := named_10 ha n1k ht hr hk wc cn k1 k0 m (u + 1) (by omega)
    refine bk_X7_named_10 ha ⟨fun z => by omega, fun _ => ⟨by omega, by omega, by omega, c7_letter ht hr (by omega) hk ?_⟩⟩
    rw [show ((w : Int) * 6 + (u : Int)).toNat = 6 * w + u from by omega]
    refine ⟨fun q => ⟨fun _ => ⟨by omega, k0 (fun v => q (v u (by omega)))⟩, fun z => by omega⟩, fun q => ⟨by omega, ?_⟩⟩
    have := ih (fun k hk' => by
      by_cases ek : k = u
      · rw [ek]; exact q
      · exact h k (by omega))
    exact this
theorem named_2 {a n1 c : Nat} (ha : SH0[a]? = some (.inr (0, n1))) (n1k : n1 ≤ 1000) (ht : TKN t) (hr : RDk t I i) (hk : uK t i ≤ 27) (cn : 6 * c ≤ n1) (h : ∀ x, NMD (I a) t i c x → KI x I) : ∀ (m w : Nat), w + m = c → (∀ w', w' < w → ¬ nmq (I a) t i w') → J none mX7_named (d + 2) 0 0 2 [(0, vR 28), (1, vR a), (2, vI (c : Int)), (3, vI (w : Int))] [] (mk I) (PI KI)
  | 0, w, e, hw => bk_X7_named_2 ha ⟨fun _ => PI_i (h (-1) (Or.inl ⟨rfl, fun w' h' => hw w' (by omega)⟩)), fun z => by omega⟩
  | m + 1, w, e, hw => by
    have ih := named_2 ha n1k ht hr hk cn h m (w + 1) (by omega)
    refine bk_X7_named_2 ha ⟨fun z => by omega, fun _ => ?_⟩
    have := named_10 (d := d) ha n1k ht hr hk (w := w) (c := c) (by omega) cn (KI := KI) (fun v => h w (Or.inr ⟨w, by omega, rfl, v, hw⟩)) (fun v => by
      have := ih (fun w' h' => by
        by_cases ew : w' = w
        · rw [ew]; exact v
        · exact hw w' (by omega))
      exact this) 6 0 (by omega) (fun k hk' => by omega)
    exact this
theorem c7_named {a n1 c : Nat} (ha : SH0[a]? = some (.inr (0, n1))) (n1k : n1 ≤ 1000) (ht : TKN t) (hr : RDk t I i) (hk : uK t i ≤ 27) (cn : 6 * c ≤ n1) (h : ∀ x, NMD (I a) t i c x → KI x I) : CI mX7_named (d + 2) [vR 28, vR a, vI (c : Int)] I KI := by
  refine bk_X7_named_0 ha ?_
  have := named_2 (d := d) ha n1k ht hr hk cn h c 0 (by omega) (fun w' h' => by omega)
  exact this
/-- a new name: what is written -/
def NWc (I Y : HI) (t : Txt) (i a w : Nat) : Prop := (∀ c, c ≠ 28 → c ≠ a → Y c = I c) ∧ (∀ j, (j < 5 ∨ j = 10 ∨ 11 < j) → Y 28 j = I 28 j) ∧ (∀ k, k < 6 → Y a (6 * w + k) = lt6 t i k) ∧ (∀ j, (j < 6 * w ∨ 6 * w + 6 ≤ j) → Y a j = I a j)
theorem nn_69 {a n1 w : Nat} (ha : SH0[a]? = some (.inr (0, n1))) (a28 : a < 27) (n1k : n1 ≤ 1000) (ht : TKN t) (hr : RDk t I i) (hk : uK t i ≤ 27) (cn : 6 * w + 6 ≤ n1) (h : ∀ Y : HI, NWc I Y t i a w → RDk t Y (i + 1) → Y 28 11 = I 28 11 + 1 → KI 1 Y) : ∀ (m u : Nat) (X : HI), u + m = 6 → (∀ c, c ≠ a → X c = I c) → (∀ k, k < u → X a (6 * w + k) = lt6 t i k) → (∀ j, (j < 6 * w ∨ 6 * w + 6 ≤ j) → X a j = I a j) → J none mX7_newName (d + 2) 0 0 69 [(0, vR 28), (1, vR a), (2, vI (w : Int)), (3, vI (u : Int))] [] (mk X) (PI KI) := by
  have rX : ∀ X : HI, (∀ c, c ≠ a → X c = I c) → RDk t X i := fun X fX => by
    obtain ⟨⟨r1, r2⟩, r3, r4, r5, r6⟩ := hr
    exact ⟨⟨by rw [fX 27 (by omega)]; exact r1, fun u hu => by rw [fX 29 (by omega), fX 30 (by omega), fX 31 (by omega)]; exact r2 u hu⟩, r3, by rw [fX 28 (by omega)]; exact r4, by rw [fX 28 (by omega)]; exact r5, by rw [fX 28 (by omega)]; exact r6⟩
  have kk := tK_e ht hr.2.1
  have hin := hr.2.1
  intro m
  induction m with
  | zero =>
    intro u X e fX gX oX
    refine bk_X7_newName_69 ha ⟨fun _ => c7_advance ht (rX X fX) (by omega) (fun Y fY rY eY => PI_i (h Y ⟨fun c c1 c2 => by rw [fY.1 c c1, fX c c2], fun j hj => by rw [fY.2 j hj, fX 28 (by omega)], fun k hk' => by rw [fY.1 a (by omega)]; exact gX k (by omega), fun j hj => by rw [fY.1 a (by omega)]; exact oX j hj⟩ rY (by rw [eY, fX 28 (by omega)]; unfold wk1; rw [if_pos (by omega)]))), fun z => by omega⟩
  | succ m ih =>
    intro u X e fX gX oX
    refine bk_X7_newName_69 ha ⟨fun z => by omega, fun _ => ⟨by omega, by omega, c7_letter ht (rX X fX) (by omega) hk ⟨by omega, fun I3 e3 => ⟨by omega, ?_⟩⟩⟩⟩
    rw [show ((w : Int) * 6 + (u : Int)).toNat = 6 * w + u from by omega] at e3
    have := ih (u + 1) I3 (by omega) (fun c hc => by rw [e3, up_k hc, fX c hc]) (fun k hk' => by
      by_cases ek : k = u
      · rw [ek, e3, up_s]
      · rw [e3, up_n (by omega)]; exact gX k (by omega)) (fun j hj => by rw [e3, up_n (by omega)]; exact oX j hj)
    exact this
/-- whether a new name can be told -/
def NNs (I : HI) (t : Txt) (i : Nat) : Prop := NAs t i ∧ (∀ w : Nat, (w : Int) < I 15 0 → ¬ nmq (I 16) t i w) ∧ (∀ w : Nat, (w : Int) < I 15 2 → ¬ nmq (I 17) t i w)
def NNf (I : HI) (t : Txt) (i : Nat) (k p : Int) : Prop := NAf t i k p ∨ (NAs t i ∧ k = 3 ∧ p = uS t i ∧ ((∃ w : Nat, (w : Int) < I 15 0 ∧ nmq (I 16) t i w) ∨ (∃ w : Nat, (w : Int) < I 15 2 ∧ nmq (I 17) t i w)))
theorem c7_newName {a n1 w : Nat} (ha : SH0[a]? = some (.inr (0, n1))) (a28 : a < 27) (n1k : n1 ≤ 1000) (ht : TKN t) (hr : RDk t I i) (cn : 6 * w + 6 ≤ n1) (c0 : 0 ≤ I 15 0 ∧ I 15 0 ≤ 10) (c2 : 0 ≤ I 15 2 ∧ I 15 2 ≤ 4) (k1 : NNs I t i → ∀ Y : HI, NWc I Y t i a w → RDk t Y (i + 1) → Y 28 11 = I 28 11 + 1 → KI 1 Y) (k0 : ∀ k p, NNf I t i k p → ∀ Y : HI, FLc I Y k p → KI 0 Y) : CI mX7_newName (d + 3) [vR 28, vR a, vI (w : Int)] I KI := by
  have r5 := hr.2.2.1.2.1
  refine bk_X7_newName_0 ha (c7_nameStands ht hr (fun hn => ⟨fun _ => ?_, fun z => by omega⟩) (fun k p hf Y fY => ⟨fun z => absurd rfl z, fun _ => PI_i (k0 k p (Or.inl hf) Y fY)⟩))
  have hk : uK t i ≤ 27 := by have := hn.1.1; omega
  obtain ⟨q0, e0⟩ : ∃ q0 : Nat, I 15 0 = q0 := ⟨(I 15 0).toNat, by omega⟩
  obtain ⟨q2, e2⟩ : ∃ q2 : Nat, I 15 2 = q2 := ⟨(I 15 2).toNat, by omega⟩
  rw [e0]
  refine c7_named (n1 := 60) rfl (by omega) ht hr hk (by omega) (fun x hx => ?_)
  rcases hx with ⟨ex, nx⟩ | ⟨w1, w1c, ex, hx, _⟩
  · subst ex
    refine ⟨fun z => absurd rfl z, fun _ => ?_⟩
    rw [e2]
    refine c7_named (n1 := 24) rfl (by omega) ht hr hk (by omega) (fun y hy => ?_)
    rcases hy with ⟨ey, ny⟩ | ⟨w2, w2c, ey, hy, _⟩
    · subst ey
      refine ⟨fun _ => ?_, fun z => absurd rfl z⟩
      have := nn_69 (d := d + 1) (KI := KI) ha a28 n1k ht hr hk cn (k1 ⟨hn, fun v hv => nx v (by omega), fun v hv => ny v (by omega)⟩) 6 0 I (by omega) (fun _ _ => rfl) (fun k hk' => by omega) (fun _ _ => rfl)
      exact this
    · refine ⟨fun z => by omega, fun _ => ?_⟩
      rw [r5]
      exact c7_fail (fun Y fY => ⟨Or.inl rfl, PI_i (k0 3 _ (Or.inr ⟨hn, rfl, rfl, Or.inr ⟨w2, by omega, hy⟩⟩) Y fY)⟩)
  · refine ⟨fun _ => ?_, fun z => by omega⟩
    rw [r5]
    exact c7_fail (fun Y fY => ⟨Or.inl rfl, PI_i (k0 3 _ (Or.inr ⟨hn, rfl, rfl, Or.inl ⟨w1, by omega, hx⟩⟩) Y fY)⟩)
/-- a corner that is there, and is free beside another one -/
def ACs (I : HI) (t : Txt) (i : Nat) (first : Int) (w : Nat) : Prop := NAs t i ∧ ((w : Int) < I 15 0 ∧ nmq (I 16) t i w ∧ ∀ w', w' < w → ¬ nmq (I 16) t i w') ∧ (first ≠ -1 → (w : Int) ≠ first ∧ I 25 (first * 10 + w).toNat = -1)
def ACf (I : HI) (t : Txt) (i : Nat) (first : Int) (k p : Int) : Prop := NAf t i k p ∨ (NAs t i ∧ k = 3 ∧ p = uS t i ∧ ((∀ w : Nat, (w : Int) < I 15 0 → ¬ nmq (I 16) t i w) ∨ (first ≠ -1 ∧ ∃ w : Nat, ((w : Int) < I 15 0 ∧ nmq (I 16) t i w ∧ ∀ w', w' < w → ¬ nmq (I 16) t i w') ∧ ((w : Int) = first ∨ I 25 (first * 10 + w).toNat ≠ -1))))
theorem c7_askedCorner {first : Int} (ht : TKN t) (hr : RDk t I i) (c0 : 0 ≤ I 15 0 ∧ I 15 0 ≤ 10) (hf : first = -1 ∨ (0 ≤ first ∧ first < 10)) (k1 : ∀ w : Nat, ACs I t i first w → ∀ Y : HI, AVf I Y → RDk t Y (i + 1) → Y 28 11 = I 28 11 + 1 → KI (w : Int) Y) (k0 : ∀ k p, ACf I t i first k p → ∀ Y : HI, FLc I Y k p → KI (-1) Y) : CI mX7_askedCorner (d + 3) [vR 28, vI first] I KI := by
  have r5 := hr.2.2.1.2.1
  have kk := tK_e ht hr.2.1
  have hin := hr.2.1
  refine bk_X7_askedCorner_0 (c7_nameStands ht hr (fun hn => ⟨fun _ => ?_, fun z => by omega⟩) (fun k p hf Y fY => ⟨fun z => absurd rfl z, fun _ => PI_i (k0 k p (Or.inl hf) Y fY)⟩))
  have hk : uK t i ≤ 27 := by have := hn.1.1; omega
  obtain ⟨q0, e0⟩ : ∃ q0 : Nat, I 15 0 = q0 := ⟨(I 15 0).toNat, by omega⟩
  rw [e0]
  refine c7_named (n1 := 60) rfl (by omega) ht hr hk (by omega) (fun x hx => ?_)
  rw [r5]
  rcases hx with ⟨ex, nx⟩ | ⟨w, wc, ex, hx, nx⟩
  · subst ex
    have bad : CI mX7_fail (d + 2) [vR 28, vI 3, vI (uS t i : Int)] I (fun x3 I3 => PI KI (some (vI (-1))) (mk I3)) := c7_fail (fun Y fY => PI_i (k0 3 _ (Or.inr ⟨hn, rfl, rfl, Or.inl (fun v hv => nx v (by omega))⟩) Y fY))
    exact ⟨fun _ => ⟨fun _ => bad, fun z => absurd rfl z⟩, fun _ => ⟨fun _ => ⟨fun _ => bad, fun z => absurd rfl z⟩, fun z => absurd rfl z⟩⟩
  · subst ex
    have good : (first ≠ -1 → (w : Int) ≠ first ∧ I 25 (first * 10 + w).toNat = -1) → CV mX7_advance (d + 2) [vR 28] I (fun I4 => PI KI (some (vI (w : Int))) (mk I4)) := fun hc => c7_advance ht hr (by omega) (fun Y fY rY eY => PI_i (k1 w ⟨hn, ⟨by omega, hx, nx⟩, hc⟩ Y fY rY (by rw [eY]; unfold wk1; rw [if_pos (by omega)])))
    have bad : first ≠ -1 → ((w : Int) = first ∨ I 25 (first * 10 + w).toNat ≠ -1) → CI mX7_fail (d + 2) [vR 28, vI 3, vI (uS t i : Int)] I (fun x3 I3 => PI KI (some (vI (-1))) (mk I3)) := fun f1 f2 => c7_fail (fun Y fY => PI_i (k0 3 _ (Or.inr ⟨hn, rfl, rfl, Or.inr ⟨f1, w, ⟨by omega, hx, nx⟩, f2⟩⟩) Y fY))
    refine ⟨fun f1 => ⟨fun z => by omega, fun _ => good (fun u => absurd f1 u)⟩, fun f1 => ⟨fun z => by omega, fun _ => ⟨fun f2 => ⟨fun z => by omega, fun _ => bad f1 (Or.inl f2)⟩, fun f2 => ⟨by omega, by omega, by omega, fun f3 => ⟨fun z => by omega, fun _ => good (fun _ => ⟨f2, f3⟩)⟩, fun f3 => ⟨fun z => by omega, fun _ => bad f1 (Or.inr f3)⟩⟩⟩⟩⟩
end CN2
