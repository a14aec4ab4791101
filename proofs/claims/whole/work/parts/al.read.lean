def jnd (t : Txt) (i : Nat) : Prop := 0 < i ∧ uK t (i - 1) ≤ 28 ∧ uS t i = uP t (i - 1) ∧ uK t i ≤ 28
/-- the class reads token i -/
def RDk (t : Txt) (I : HI) (i : Nat) : Prop := (I 27 = uA t ∧ TOA t I) ∧ i ≤ uN t ∧ (I 28 5 = (if uK t i = 30 then (i : Int) else (i : Int) + 1) ∧ I 28 6 = uS t i ∧ I 28 7 = uP t i ∧ I 28 8 = uK t i) ∧ ((jnd t i → I 28 9 = 1) ∧ (¬ jnd t i → I 28 9 = 0)) ∧ (0 ≤ I 28 11 ∧ I 28 11 ≤ uO t + i)
def AVf (I Y : HI) : Prop := (∀ k, k ≠ 28 → Y k = I k) ∧ (∀ j, (j < 5 ∨ j = 10 ∨ 11 < j) → Y 28 j = I 28 j)
def NVf (I Y : HI) : Prop := (∀ k, k ≠ 28 → Y k = I k) ∧ (∀ j, (j < 5 ∨ 11 < j) → Y 28 j = I 28 j)
def FLc (I Y : HI) (k p : Int) : Prop := (∀ c, c ≠ 28 → Y c = I c) ∧ (∀ j, j ≠ 13 → j ≠ 14 → Y 28 j = I 28 j) ∧ Y 28 13 = k ∧ Y 28 14 = p
theorem tK_n {t : Txt} (ht : TKN t) {i : Nat} (hi : i < uN t) : uK t i ≤ 29 ∧ (uS t i < uP t i ∧ uP t i ≤ uE t) := by
  have h := ht.2.2.1 i hi
  refine ⟨?_, h.1⟩
  rcases h.2.2 with a | a | a
  · rcases a.2.2 with b | b <;> omega
  · omega
  · omega
theorem tK_e {t : Txt} (ht : TKN t) {i : Nat} (hi : i ≤ uN t) : uK t i ≤ 30 ∧ (uK t i = 30 ↔ i = uN t) ∧ uS t i ≤ 1600 ∧ uP t i ≤ 1600 ∧ uS t i ≤ uP t i := by
  have e16 := ht.1.1
  by_cases e : i = uN t
  · have := ht.2.1
    rw [e]
    omega
  · have := tK_n ht (i := i) (by omega)
    omega
def sgn (t : Txt) (i : Nat) (c : Int) : Prop := uK t i = 29 ∧ uA t (uS t i) = c
def wk1 (t : Txt) (i : Nat) : Int := if uK t i ≤ 28 then 1 else 0
section RD
variable {d : Nat} {I : HI} {K : HI → Prop} {KI : Int → HI → Prop} {t : Txt} {i : Nat}
theorem adv_34 {X : HI} {a1 a2 : Int} (ht : TKN t) (x27 : X 27 = uA t) (xt : TOA t X) (hi : i + 1 ≤ uN t) (x5 : X 28 5 = (i : Int) + 1) (ha : (jnd t (i + 1) ↔ ¬ (a1 = 0) ∧ (uS t (i + 1) : Int) = a2 ∧ uK t (i + 1) ≤ 28)) (x11 : 0 ≤ X 28 11 ∧ X 28 11 ≤ uO t + (i : Int) + 1) (h : ∀ Y : HI, AVf X Y → RDk t Y (i + 1) → Y 28 11 = X 28 11 → K Y) : J none mX7_advance (d + 1) 0 0 34 [(0, vR 28), (1, vI a1), (2, vI a2)] [] (mk X) (PV K) := by
  obtain ⟨s1, s2, s3⟩ := xt (i + 1) hi
  obtain ⟨k1, k2, k3⟩ := tK_e ht hi
  have n16 := ht.1.2
  refine bk_X7_advance_34 ?_
  have e5 : (X 28 5).toNat = i + 1 := by omega
  rw [x5, show ((i : Int) + 1).toNat = i + 1 from by omega]
  refine ⟨by omega, fun I1 e1 => ?_⟩
  have f5 : I1 28 5 = (i : Int) + 1 := by rw [e1, up_n (by decide), x5]
  rw [f5, show ((i : Int) + 1).toNat = i + 1 from by omega]
  refine ⟨by omega, fun I2 e2 => ?_⟩
  have g5 : I2 28 5 = (i : Int) + 1 := by rw [e2, up_n (by decide), f5]
  rw [g5, show ((i : Int) + 1).toNat = i + 1 from by omega]
  refine ⟨by omega, fun I3 e3 => ?_⟩
  have h6 : I3 28 6 = uS t (i + 1) := by rw [e3, up_n (by decide), e2, up_s, e1, up_k (by decide)]; exact s1
  have h8 : I3 28 8 = uK t (i + 1) := by rw [e3, up_n (by decide), e2, up_n (by decide), e1, up_s]; exact s3
  have h7 : I3 28 7 = uP t (i + 1) := by rw [e3, up_s, e2, up_k (by decide), e1, up_k (by decide)]; exact s2
  have h5 : I3 28 5 = (i : Int) + 1 := by rw [e3, up_n (by decide), g5]
  have hk : ∀ k, k ≠ 28 → I3 k = X k := fun k hk => by rw [e3, up_k hk, e2, up_k hk, e1, up_k hk]
  have hj : ∀ j, j ≠ 6 → j ≠ 7 → j ≠ 8 → I3 28 j = X 28 j := fun j a b c => by rw [e3, up_n (by omega), e2, up_n (by omega), e1, up_n (by omega)]
  have done : ∀ (jv : Int) (Y : HI), (jnd t (i + 1) → jv = 1) → (¬ jnd t (i + 1) → jv = 0) → (∀ k, k ≠ 28 → Y k = I3 k) → (∀ j, j ≠ 5 → j ≠ 9 → Y 28 j = I3 28 j) → Y 28 9 = jv → Y 28 5 = (if uK t (i + 1) = 30 then ((i + 1 : Nat) : Int) else ((i + 1 : Nat) : Int) + 1) → K Y := by
    intro jv Y j1 j0 y1 y2 y9 y5
    refine h Y ⟨fun k hk' => by rw [y1 k hk', hk k hk'], fun j hj' => by rw [y2 j (by omega) (by omega), hj j (by omega) (by omega) (by omega)]⟩ ⟨⟨by rw [y1 27 (by decide), hk 27 (by decide)]; exact x27, fun u hu => ?_⟩, hi, ⟨y5, by rw [y2 6 (by decide) (by decide)]; exact h6, by rw [y2 7 (by decide) (by decide)]; exact h7, by rw [y2 8 (by decide) (by decide)]; exact h8⟩, ⟨fun q => by rw [y9]; exact j1 q, fun q => by rw [y9]; exact j0 q⟩, ?_⟩ ?_
    · rw [y1 29 (by decide), y1 30 (by decide), y1 31 (by decide), hk 29 (by decide), hk 30 (by decide), hk 31 (by decide)]
      exact xt u hu
    · rw [y2 11 (by decide) (by decide), hj 11 (by decide) (by decide) (by decide)]
      exact ⟨x11.1, by have := x11.2; rw [show ((i + 1 : Nat) : Int) = (i : Int) + 1 from by omega]; omega⟩
    · rw [y2 11 (by decide) (by decide), hj 11 (by decide) (by decide) (by decide)]
  have fin : ∀ (jv : Int) (I4 : HI), I4 = up I3 28 9 jv → (jnd t (i + 1) → jv = 1) → (¬ jnd t (i + 1) → jv = 0) → ((I4 28 8 = 30 → PV K none (mk I4)) ∧ (¬ (I4 28 8 = 30) → (-2147483648 ≤ I4 28 5 + 1 ∧ I4 28 5 + 1 ≤ 2147483647) ∧ ∀ I5 : HI, I5 = up I4 28 5 (I4 28 5 + 1) → PV K none (mk I5))) := by
    intro jv I4 e4 j1 j0
    have m8 : I4 28 8 = uK t (i + 1) := by rw [e4, up_n (by decide)]; exact h8
    have m5 : I4 28 5 = (i : Int) + 1 := by rw [e4, up_n (by decide)]; exact h5
    refine ⟨fun q => PV_i (done jv I4 j1 j0 (fun k hk' => by rw [e4, up_k hk']) (fun j _ b => by rw [e4, up_n (by omega)]) (by rw [e4, up_s]) (by rw [m5, if_pos (by omega)]; omega)), fun q => ⟨by omega, fun I5 e5 => PV_i (done jv I5 j1 j0 (fun k hk' => by rw [e5, up_k hk', e4, up_k hk']) (fun j a b => by rw [e5, up_n (by omega), e4, up_n (by omega)]) (by rw [e5, up_n (by decide), e4, up_s]) ?_)⟩⟩
    rw [e5, up_s, m5, if_neg (by omega)]
    omega
  refine ⟨fun q I4 e4 => fin 0 I4 e4 (fun w => absurd q (ha.mp w).1) (fun _ => rfl), fun q => ⟨fun q2 I6 e6 => fin 0 I6 e6 (fun w => absurd (h6.trans (ha.mp w).2.1) q2) (fun _ => rfl), fun q2 => ⟨fun q3 I8 e8 => fin 0 I8 e8 (fun w => by have := (ha.mp w).2.2; omega) (fun _ => rfl), fun q3 I10 e10 => fin 1 I10 e10 (fun _ => rfl) (fun w => absurd (ha.mpr ⟨q, by omega, by omega⟩) w)⟩⟩⟩
theorem c7_advance (ht : TKN t) (hr : RDk t I i) (hi : i < uN t) (h : ∀ Y : HI, AVf I Y → RDk t Y (i + 1) → Y 28 11 = I 28 11 + wk1 t i → K Y) : CV mX7_advance (d + 1) [vR 28] I K := by
  obtain ⟨⟨r1, r2⟩, r3, ⟨r4, r5, r6, r7⟩, r8, r9⟩ := hr
  obtain ⟨k1, k2, k3⟩ := tK_e ht r3
  have hn := tK_n ht hi
  have t0 := ht.2.2.2.2
  have n16 := ht.1.2
  rw [if_neg (by omega)] at r4
  refine bk_X7_advance_0 ?_
  rw [r7, r6]
  refine ⟨fun q => adv_34 ht r1 r2 (by omega) r4 ⟨fun w => by have := w.2.1; rw [show i + 1 - 1 = i from by omega] at this; omega, fun w => absurd rfl w.1⟩ (by omega) (fun Y fY rY eY => h Y fY rY (by rw [eY]; unfold wk1; rw [if_neg (by omega)]; omega)), fun q => ⟨by omega, fun I1 e1 => ?_⟩⟩
  refine adv_34 ht (by rw [e1, up_k (by decide)]; exact r1) (fun u hu => by rw [e1, up_k (by decide), up_k (by decide), up_k (by decide)]; exact r2 u hu) (by omega) (by rw [e1, up_n (by decide)]; exact r4) ⟨fun w => ⟨by decide, by have := w.2.2.1; rw [show i + 1 - 1 = i from by omega] at this; omega, w.2.2.2⟩, fun w => ⟨by omega, by rw [show i + 1 - 1 = i from by omega]; omega, by rw [show i + 1 - 1 = i from by omega]; omega, w.2.2⟩⟩ (by rw [e1, up_s]; omega) (fun Y fY rY eY => h Y ⟨fun k hk => by rw [fY.1 k hk, e1, up_k hk], fun j hj => by rw [fY.2 j hj, e1, up_n (by omega)]⟩ rY ?_)
  rw [eY, e1, up_s]
  unfold wk1
  rw [if_pos (by omega)]
theorem c7_fail {a p : Int} (h : ∀ Y : HI, FLc I Y a p → KI 0 Y) : CI mX7_fail (d + 1) [vR 28, vI a, vI p] I KI :=
  bk_X7_fail_0 (fun I1 e1 I2 e2 => PI_i (h I2 ⟨fun k hk => by rw [e2, up_k hk, e1, up_k hk], fun j a b => by rw [e2, up_n (by omega), e1, up_n (by omega)], by rw [e2, up_n (by decide), e1, up_s], by rw [e2, up_s]⟩))
theorem c7_isSign {c : Int} (ht : TKN t) (hr : RDk t I i) (k1 : sgn t i c → KI 1 I) (k0 : ¬ sgn t i c → KI 0 I) : CI mX7_isSign (d + 1) [vR 28, vI c] I KI := by
  obtain ⟨⟨r1, r2⟩, r3, ⟨r4, r5, r6, r7⟩, r8, r9⟩ := hr
  obtain ⟨kk1, k2, k3⟩ := tK_e ht r3
  refine bk_X7_isSign_0 ?_
  rw [r7, r5, r1, Int.toNat_natCast]
  have e16 := ht.1.1
  refine ⟨fun q => PI_i (k0 (fun u => by have := u.1; omega)), fun q => ⟨?_, fun q2 => PI_i (k0 (fun u => q2 u.2)), fun q2 => PI_i (k1 ⟨by omega, q2⟩)⟩⟩
  have := tK_n ht (i := i) (by omega)
  omega
theorem c7_word {w : Int} (ht : TKN t) (hr : RDk t I i) (w28 : w ≤ 28) (k1 : (uK t i : Int) = w → ¬ jnd t i → ∀ Y : HI, AVf I Y → RDk t Y (i + 1) → Y 28 11 = I 28 11 + 1 → KI 1 Y) (k0 : ¬ ((uK t i : Int) = w ∧ ¬ jnd t i) → ∀ Y : HI, FLc I Y 1 (uS t i) → KI 0 Y) : CI mX7_word (d + 2) [vR 28, vI w] I KI := by
  have hr' := hr
  obtain ⟨⟨r1, r2⟩, r3, ⟨r4, r5, r6, r7⟩, r8, r9⟩ := hr
  obtain ⟨kk1, k2, k3⟩ := tK_e ht r3
  refine bk_X7_word_0 ?_
  rw [r7, r5]
  refine ⟨fun q => c7_fail (fun Y fY => ⟨Or.inl rfl, PI_i (k0 (fun u => q u.1) Y fY)⟩), fun q => ⟨fun q2 => c7_advance ht hr' (by omega) (fun Y fY rY eY => PI_i (k1 q (fun u => by have := r8.1 u; omega) Y fY rY (by rw [eY]; unfold wk1; rw [if_pos (by omega)]))), fun q2 => c7_fail (fun Y fY => ⟨Or.inl rfl, PI_i (k0 (fun u => q2 (r8.2 u.2)) Y fY)⟩)⟩⟩
theorem c7_sign {c : Int} (ht : TKN t) (hr : RDk t I i) (k1 : sgn t i c → ∀ Y : HI, AVf I Y → RDk t Y (i + 1) → Y 28 11 = I 28 11 → KI 1 Y) (k0 : ¬ sgn t i c → ∀ Y : HI, FLc I Y 1 (uS t i) → KI 0 Y) : CI mX7_sign (d + 2) [vR 28, vI c] I KI := by
  have r5 := hr.2.2.1.2.1
  have kk := tK_e ht hr.2.1
  have hin := hr.2.1
  refine bk_X7_sign_0 (c7_isSign ht hr (fun s => ⟨fun _ => c7_advance ht hr (by have := s.1; omega) (fun Y fY rY eY => PI_i (k1 s Y fY rY (by rw [eY]; unfold wk1; rw [if_neg (by have := s.1; omega)]; omega))), fun q => by omega⟩) (fun s => ⟨fun q => absurd rfl q, fun _ => ?_⟩))
  rw [r5]
  exact c7_fail (fun Y fY => ⟨Or.inl rfl, PI_i (k0 s Y fY)⟩)
/-- the first k digits as a number -/
def num (A : Nat → Int) (s : Nat) : Nat → Int
  | 0 => 0
  | k + 1 => num A s k * 10 + A (s + k) - 48
theorem num_rng {A : Nat → Int} {s : Nat} : ∀ (k : Nat), (∀ j, j < k → dgt (A (s + j))) → 0 ≤ num A s k ∧ (k ≤ 0 → num A s k ≤ 0) ∧ (k ≤ 1 → num A s k ≤ 9) ∧ (k ≤ 2 → num A s k ≤ 99) ∧ (k ≤ 3 → num A s k ≤ 999) ∧ (k ≤ 4 → num A s k ≤ 9999)
  | 0, _ => by unfold num; omega
  | k + 1, h => by
    have ih := num_rng k (fun j hj => h j (by omega))
    have hk := h k (by omega)
    unfold dgt at hk
    unfold num
    omega
theorem num_0 {A : Nat → Int} {s k : Nat} (h : k = 0) : num A s k = 0 := by subst h; rfl
def NUs (t : Txt) (i : Nat) (lo hi v : Int) : Prop := (uK t i = 28 ∧ ¬ jnd t i) ∧ uP t i ≤ uS t i + 4 ∧ v = num (uA t) (uS t i) (uP t i - uS t i) ∧ lo ≤ v ∧ v ≤ hi
def NUf (t : Txt) (i : Nat) (lo hi k p : Int) : Prop := (¬ (uK t i = 28 ∧ ¬ jnd t i) ∧ k = 1 ∧ p = uS t i) ∨ ((uK t i = 28 ∧ ¬ jnd t i) ∧ uS t i + 4 < uP t i ∧ k = 1 ∧ p = (uS t i : Int) + 4) ∨ ((uK t i = 28 ∧ ¬ jnd t i) ∧ uP t i ≤ uS t i + 4 ∧ ¬ (lo ≤ num (uA t) (uS t i) (uP t i - uS t i) ∧ num (uA t) (uS t i) (uP t i - uS t i) ≤ hi) ∧ k = 2 ∧ p = uS t i)
theorem tD_run {t : Txt} (ht : TKN t) {i : Nat} (hk : uK t i = 28) (hi : i ≤ uN t) : RUN dgt (uA t) (uE t) (uS t i) (uP t i) := by
  have kk := tK_e ht hi
  have h := ht.2.2.1 i (by omega)
  rcases h.2.2 with a | a | a
  · rcases a.2.2 with b | b <;> omega
  · exact a.2.1
  · omega
theorem num_61 {lo hi : Int} (ht : TKN t) (hr : RDk t I i) (hk : uK t i = 28) (hj : ¬ jnd t i) (h4 : uP t i ≤ uS t i + 4) (k1 : ∀ v Y, NUs t i lo hi v → NVf I Y → Y 28 10 = v → RDk t Y (i + 1) → Y 28 11 = I 28 11 + 1 → KI 1 Y) (k0 : NUf t i lo hi 2 (uS t i) → ∀ X Y : HI, NVf I X → X 28 11 = I 28 11 → FLc X Y 2 (uS t i) → KI 0 Y) : ∀ (m c : Nat) (X : HI), uS t i + c + m = uP t i → (∀ k, k ≠ 28 → X k = I k) → (∀ j, j ≠ 10 → X 28 j = I 28 j) → X 28 10 = num (uA t) (uS t i) c → J none mX7_number (d + 2) 0 0 61 [(0, vR 28), (1, vI lo), (2, vI hi), (3, vI (((uS t i + c : Nat) : Nat) : Int))] [] (mk X) (PI KI) := by
  obtain ⟨⟨r1, r2⟩, r3, ⟨r4, r5, r6, r7⟩, r8, r9⟩ := hr
  have kk := tK_e ht r3
  have run := tD_run ht hk r3
  intro m
  induction m with
  | zero =>
    intro c X ec fX gX vX
    have eP : uP t i = uS t i + c := by omega
    have ev : num (uA t) (uS t i) (uP t i - uS t i) = X 28 10 := by rw [vX]; congr 1; omega
    have rX : RDk t X i := ⟨⟨by rw [fX 27 (by decide)]; exact r1, fun u hu => by rw [fX 29 (by decide), fX 30 (by decide), fX 31 (by decide)]; exact r2 u hu⟩, r3, ⟨by rw [gX 5 (by decide)]; exact r4, by rw [gX 6 (by decide)]; exact r5, by rw [gX 7 (by decide)]; exact r6, by rw [gX 8 (by decide)]; exact r7⟩, by rw [gX 9 (by decide)]; exact r8, by rw [gX 11 (by decide)]; exact r9⟩
    refine bk_X7_number_61 ?_
    rw [gX 7 (by decide), gX 6 (by decide), r6, r5]
    refine ⟨fun _ => ⟨fun q => c7_fail (fun Y fY => ⟨Or.inl rfl, PI_i (k0 (Or.inr (Or.inr ⟨⟨hk, hj⟩, h4, by rw [ev]; omega, rfl, rfl⟩)) X Y ⟨fX, fun j hj' => gX j (by omega)⟩ (gX 11 (by decide)) fY)⟩), fun q => ⟨fun q2 => c7_advance ht rX (by omega) (fun Y fY rY eY => PI_i (k1 (X 28 10) Y ⟨⟨hk, hj⟩, h4, ev.symm, by omega, q2⟩ ⟨fun k hk' => by rw [fY.1 k hk', fX k hk'], fun j hj' => by rw [fY.2 j (by omega), gX j (by omega)]⟩ (fY.2 10 (by omega)) rY (by rw [eY, gX 11 (by decide)]; unfold wk1; rw [if_pos (by omega)]))), fun q2 => c7_fail (fun Y fY => ⟨Or.inl rfl, PI_i (k0 (Or.inr (Or.inr ⟨⟨hk, hj⟩, h4, by rw [ev]; omega, rfl, rfl⟩)) X Y ⟨fX, fun j hj' => gX j (by omega)⟩ (gX 11 (by decide)) fY)⟩)⟩⟩, fun q => by omega⟩
  | succ m ih =>
    intro c X ec fX gX vX
    have hd := run.2.1 (uS t i + c) (by omega) (by omega)
    have rg := num_rng (A := uA t) (s := uS t i) c (fun j hj' => run.2.1 (uS t i + j) (by omega) (by omega))
    unfold dgt at hd
    have e16 := ht.1.1
    have b3 := rg.2.2.2.2.1 (by omega)
    refine bk_X7_number_61 ?_
    rw [gX 7 (by decide), gX 6 (by decide), r6, r5, Int.toNat_natCast, fX 27 (by decide), r1, vX]
    refine ⟨fun q => by omega, fun _ => ⟨by omega, by omega, by omega, by omega, fun I4 e4 => ⟨by omega, ?_⟩⟩⟩
    have := ih (c + 1) I4 (by omega) (fun k hk' => by rw [e4, up_k hk', fX k hk']) (fun j hj' => by rw [e4, up_n (by omega), gX j hj']) (by rw [e4, up_s]; rfl)
    rw [show ((uS t i + (c + 1) : Nat) : Int) = ((uS t i + c : Nat) : Int) + 1 from by omega] at this
    exact this
theorem c7_number {lo hi : Int} (ht : TKN t) (hr : RDk t I i) (k1 : ∀ v Y, NUs t i lo hi v → NVf I Y → Y 28 10 = v → RDk t Y (i + 1) → Y 28 11 = I 28 11 + 1 → KI 1 Y) (k0 : ∀ k p, NUf t i lo hi k p → ∀ X Y : HI, NVf I X → X 28 11 = I 28 11 → FLc X Y k p → KI 0 Y) : CI mX7_number (d + 2) [vR 28, vI lo, vI hi] I KI := by
  have hr' := hr
  obtain ⟨⟨r1, r2⟩, r3, ⟨r4, r5, r6, r7⟩, r8, r9⟩ := hr
  have kk := tK_e ht r3
  have rf : NVf I I := ⟨fun _ _ => rfl, fun _ _ => rfl⟩
  refine bk_X7_number_0 ?_
  rw [r7, r6, r5]
  refine ⟨fun q => c7_fail (fun Y fY => ⟨Or.inl rfl, PI_i (k0 1 _ (Or.inl ⟨fun u => by have := u.1; omega, rfl, rfl⟩) I Y rf rfl fY)⟩), fun q => ⟨fun q2 => ⟨by omega, fun q3 I2 e2 => ?_, fun q3 => ⟨by omega, c7_fail (fun Y fY => ⟨Or.inl rfl, PI_i (k0 1 _ (Or.inr (Or.inl ⟨⟨by omega, fun u => by have := r8.1 u; omega⟩, by omega, rfl, rfl⟩)) I Y rf rfl fY)⟩)⟩⟩, fun q2 => c7_fail (fun Y fY => ⟨Or.inl rfl, PI_i (k0 1 _ (Or.inl ⟨fun u => q2 (r8.2 u.2), rfl, rfl⟩) I Y rf rfl fY)⟩)⟩⟩
  have := num_61 (d := d) (KI := KI) (lo := lo) (hi := hi) ht hr' (by omega) (fun u => by have := r8.1 u; omega) (by omega) k1 (fun a X Y b c e => k0 2 _ a X Y b c e) (uP t i - uS t i) 0 I2 (by omega) (fun k hk => by rw [e2, up_k hk]) (fun j hj => by rw [e2, up_n (by omega)]) (by rw [e2, up_s]; rfl)
  rw [show I2 28 6 = ((uS t i + 0 : Nat) : Int) from by rw [e2, up_n (by decide), r5]; rfl]
  exact this
end RD
