/-- a stack, its top first -/
def STK (f : Nat → Int) : List Int → Prop
  | [] => True
  | x :: S => f S.length = x ∧ STK f S
theorem STK_cg {f g : Nat → Int} : ∀ (S : List Int), (∀ k, k < S.length → g k = f k) → STK f S → STK g S
  | [], _, _ => trivial
  | x :: S, h, hs => ⟨by rw [h _ (by simp only [List.length_cons]; omega)]; exact hs.1, STK_cg S (fun k hk => h k (by simp only [List.length_cons]; omega)) hs.2⟩
theorem STK_at {f : Nat → Int} {x : Int} {R : List Int} : ∀ (W : List Int), STK f (W ++ x :: R) → f R.length = x
  | [], h => h.1
  | _ :: W, h => STK_at W h.2
/-- what the reference has while it reads a test: codes, what waits, what is open -/
def RSc (X0 X : HI) (T : List Int) (b : Nat) (o : Int) (C : List Int) : Prop := (X 489 47 = C.length ∧ ∀ k, k < C.length → X 524 k = C.getD k 0) ∧ (X 489 49 = T.length ∧ STK (X 525) T) ∧ (X 489 54 = b ∧ X 489 50 = o) ∧ ((∀ c, c ≠ 489 → c ≠ 524 → c ≠ 525 → X c = X0 c) ∧ (∀ j, j ≠ 2 → j ≠ 4 → j ≠ 5 → j ≠ 6 → j ≠ 47 → j ≠ 49 → j ≠ 50 → j ≠ 54 → X 489 j = X0 489 j) ∧ (∀ k, 1600 ≤ k → X 524 k = X0 524 k))
/-- a fault in a test -/
def FTm (X0 Y : HI) (k p : Int) (cb : Int) : Prop := ((∀ c, c ≠ 489 → c ≠ 524 → c ≠ 525 → Y c = X0 c) ∧ (∀ j, j ≠ 2 → j ≠ 4 → j ≠ 5 → j ≠ 6 → j ≠ 47 → j ≠ 49 → j ≠ 50 → j ≠ 54 → Y 489 j = X0 489 j) ∧ (∀ k, 1600 ≤ k → Y 524 k = X0 524 k)) ∧ (Y 489 5 = k ∧ Y 489 6 = p ∧ k ≠ 0) ∧ (0 ≤ Y 489 47 ∧ Y 489 47 ≤ cb) ∧ (0 ≤ Y 489 2 ∧ Y 489 2 ≤ 1600)
section MS2
variable {d : Nat} {X X0 : HI} {K : HI → Prop} {KI : Int → HI → Prop} {t : Txt} {i b : Nat} {T C : List Int} {o : Int}
theorem MRk_o {Y : HI} (hm : MRk t X i) (f : ∀ c, c ≠ 489 → c ≠ 524 → c ≠ 525 → Y c = X c) (g : ∀ j, 2 ≤ j → j ≤ 6 → Y 489 j = X 489 j) : MRk t Y i := by
  obtain ⟨⟨a1, a2⟩, a3, a4, a5, a6⟩ := hm
  exact ⟨⟨fun j hj => by rw [f 490 (by decide) (by decide) (by decide)]; exact a1 j hj, fun w hw k hk => by rw [f (491 + w) (by omega) (by omega) (by omega)]; exact a2 w hw k hk⟩, a3, by rw [g 3 (by omega) (by omega), g 5 (by omega) (by omega)]; exact a4, by rw [g 2 (by omega) (by omega), g 6 (by omega) (by omega)]; exact a5, by rw [g 4 (by omega) (by omega)]; exact a6⟩
theorem RSc_m {Y : HI} (h : RSc X0 X T b o C) (f : MFr X Y) : RSc X0 Y T b o C := by
  obtain ⟨h1, h2, h3, h4, h5, h6⟩ := h
  exact ⟨by rw [f.2 47 (by decide) (by decide), f.1 524 (by decide)]; exact h1, by rw [f.2 49 (by decide) (by decide), f.1 525 (by decide)]; exact h2, by rw [f.2 54 (by decide) (by decide), f.2 50 (by decide) (by decide)]; exact h3, fun c a b' e => by rw [f.1 c a, h4 c a b' e], fun j a b' c e e2 e3 e4 e5 => by rw [f.2 j a b', h5 j a b' c e e2 e3 e4 e5], fun k hk => by rw [f.1 524 (by decide), h6 k hk]⟩
theorem FTm_of {Y Z : HI} {k p cb : Int} (h : RSc X0 X T b o C) (f : MFr X Z) (g : FLf Z Y k p) (hk : k ≠ 0) (hb : (C.length : Int) ≤ cb) (b2 : 0 ≤ Z 489 2 ∧ Z 489 2 ≤ 1600) : FTm X0 Y k p cb := by
  obtain ⟨h1, h2, h3, h4, h5, h6⟩ := RSc_m h f
  refine ⟨⟨fun c a b' e => by rw [g.1 c a, h4 c a b' e], fun j a b' c e e2 e3 e4 e5 => by rw [g.2.1 j c e, h5 j a b' c e e2 e3 e4 e5], fun k hk => by rw [g.1 524 (by decide), h6 k hk]⟩, ⟨g.2.2.1, g.2.2.2, hk⟩, ?_, by rw [g.2.1 2 (by decide) (by decide)]; exact b2⟩
  rw [g.2.1 47 (by decide) (by decide), h1.1]
  omega
theorem c11_codeK {x : Int} (hm : MRk t X i) (h : RSc X0 X T b o C) (c16 : C.length < 1600) (g : ∀ Y : HI, MRk t Y i → RSc X0 Y T b o (C ++ [x]) → K Y) : CV mX11_code (d + 1) [vR 489, vI x] X K := by
  obtain ⟨h1, h2, h3, h4, h5, h6⟩ := h
  refine bk_X11_code_0 ?_
  rw [h1.1, show ((0 : Int) + (C.length : Int)).toNat = C.length from by omega]
  refine ⟨by omega, by omega, fun I1 e1 => ?_⟩
  have q1 : I1 489 47 = C.length := by rw [e1, up_k (by decide), h1.1]
  rw [q1]
  refine ⟨by omega, fun I2 e2 => PV_i (g I2 (MRk_o hm (fun c a b' e => by rw [e2, up_k a, e1, up_k b']) (fun j j2 j5 => by rw [e2, up_n (by omega), e1, up_k (by decide)])) ⟨⟨?_, fun k hk => ?_⟩, ?_, ?_, ?_, ?_, ?_⟩)⟩
  · rw [e2, up_s, List.length_append]; simp
  · rw [List.length_append, List.length_cons, List.length_nil] at hk
    rw [e2, up_k (by decide)]
    by_cases ek : k = C.length
    · rw [ek, e1, up_s, gd_r]
    · rw [e1, up_n (by omega), gd_l (by omega)]
      exact h1.2 k (by omega)
  · rw [e2, up_n (by decide), up_k (by decide), e1, up_k (by decide), up_k (by decide)]; exact h2
  · rw [e2, up_n (by decide), up_n (by decide), e1, up_k (by decide)]; exact h3
  · exact fun c a b' e => by rw [e2, up_k a, e1, up_k b', h4 c a b' e]
  · exact fun j a b' c e e2' e3 e4 e5 => by rw [e2, up_n (by omega), e1, up_k (by decide), h5 j a b' c e e2' e3 e4 e5]
  · exact fun k hk => by rw [e2, up_k (by decide), e1, up_n (by omega), h6 k hk]
theorem c11_codeF {x k p cb : Int} (h : FTm X0 X k p cb) (b16 : cb < 1600) (g : ∀ Y : HI, FTm X0 Y k p (cb + 1) → K Y) : CV mX11_code (d + 1) [vR 489, vI x] X K := by
  obtain ⟨⟨h1, h2, h3⟩, h4, h5, h7⟩ := h
  refine bk_X11_code_0 ⟨by omega, by omega, fun I1 e1 => ?_⟩
  have q1 : I1 489 47 = X 489 47 := by rw [e1, up_k (by decide)]
  rw [q1]
  refine ⟨by omega, fun I2 e2 => PV_i (g I2 ⟨⟨fun c a b' e => by rw [e2, up_k a, e1, up_k b', h1 c a b' e], fun j a b' c e e2' e3 e4 e5 => by rw [e2, up_n (by omega), e1, up_k (by decide), h2 j a b' c e e2' e3 e4 e5], fun k hk => by rw [e2, up_k (by decide), e1, up_n (by omega), h3 k hk]⟩, ?_, ?_, ?_⟩)⟩
  · rw [e2, up_n (by decide), up_n (by decide), e1, up_k (by decide)]; exact h4
  · rw [e2, up_s]; omega
  · rw [e2, up_n (by decide), e1, up_k (by decide)]; exact h7
theorem c11_drops {x : Int} {R : List Int} (hm : MRk t X i) (h : RSc X0 X (x :: R) b o C) (c16 : C.length < 1600) (r16 : R.length < 1700) (g : ∀ Y : HI, MRk t Y i → RSc X0 Y R b o (C ++ [x]) → K Y) : CV mX11_drops (d + 2) [vR 489] X K := by
  have h' := h
  obtain ⟨h1, h2, h3, h4, h5, h6⟩ := h
  have l : X 489 49 = (R.length : Int) + 1 := by rw [h2.1, List.length_cons]; omega
  refine bk_X11_drops_0 ?_
  rw [l]
  refine ⟨by omega, fun I1 e1 => ?_⟩
  have q1 : I1 489 49 = (R.length : Int) := by rw [e1, up_s]; omega
  rw [q1, Int.toNat_natCast]
  have q2 : I1 525 R.length = x := by rw [e1, up_k (by decide)]; exact h2.2.1
  rw [q2]
  refine ⟨by omega, c11_codeK (T := R) (X0 := X0) (b := b) (o := o) (C := C) (MRk_o hm (fun c a _ _ => by rw [e1, up_k a]) (fun j j2 j5 => by rw [e1, up_n (by omega)])) ⟨?_, ?_, ?_, ?_, ?_, ?_⟩ c16 (fun Y mY rY => PV_i (g Y mY rY))⟩
  · rw [e1, up_n (by decide), up_k (by decide)]; exact h1
  · exact ⟨q1, by rw [e1, up_k (by decide)]; exact h2.2.2⟩
  · rw [e1, up_n (by decide), up_n (by decide)]; exact h3
  · exact fun c a b' e => by rw [e1, up_k a, h4 c a b' e]
  · exact fun j a b' c e e2' e3 e4 e5 => by rw [e1, up_n (by omega), h5 j a b' c e e2' e3 e4 e5]
  · exact fun k hk => by rw [e1, up_k (by decide), h6 k hk]
theorem RSc_push {v : Int} {Y Z : HI} (hm : MRk t X i) (h : RSc X0 X T b o C) (e1 : Y = up X 525 T.length v) (e2 : Z = up Y 489 49 ((T.length : Int) + 1)) : MRk t Z i ∧ RSc X0 Z (v :: T) b o C := by
  obtain ⟨h1, h2, h3, h4, h5, h6⟩ := h
  refine ⟨MRk_o hm (fun c a _ b' => by rw [e2, up_k a, e1, up_k b']) (fun j j2 j5 => by rw [e2, up_n (by omega), e1, up_k (by decide)]), ?_, ⟨?_, ?_, ?_⟩, ?_, ?_, ?_, ?_⟩
  · rw [e2, up_n (by decide), up_k (by decide), e1, up_k (by decide), up_k (by decide)]; exact h1
  · rw [e2, up_s, List.length_cons]; omega
  · rw [e2, up_k (by decide), e1, up_s]
  · rw [e2, up_k (by decide)]
    exact STK_cg T (fun k hk => by rw [e1, up_n (by omega)]) h2.2
  · rw [e2, up_n (by decide), up_n (by decide), e1, up_k (by decide)]; exact h3
  · exact fun c a b' e => by rw [e2, up_k a, e1, up_k e, h4 c a b' e]
  · exact fun j a b' c e e2' e3 e4 e5 => by rw [e2, up_n (by omega), e1, up_k (by decide), h5 j a b' c e e2' e3 e4 e5]
  · exact fun k hk => by rw [e2, up_k (by decide), e1, up_k (by decide), h6 k hk]
theorem c11_opens {v p : Int} (hm : MRk t X i) (h : RSc X0 X T b o C) (t16 : T.length < 1700) (o0 : 0 ≤ o) (k1 : o ≠ 6 → ∀ Y : HI, MRk t Y i → RSc X0 Y (v :: T) b (o + 1) C → Y 489 2 = X 489 2 → K Y) (k0 : o = 6 → ∀ Y : HI, FLf X Y 4 p → K Y) (o6 : o ≤ 6) : CV mX11_opens (d + 2) [vR 489, vI v, vI p] X K := by
  have h' := h
  obtain ⟨h1, h2, h3, h4, h5, h6⟩ := h
  refine bk_X11_opens_0 ?_
  rw [h3.2]
  refine ⟨fun q => ⟨by omega, fun I1 e1 => ?_⟩, fun q => c11_fail hm.2.2.1.2 (fun Y fY => PV_i (k0 q Y fY))⟩
  have q1 : I1 489 49 = (T.length : Int) := by rw [e1, up_n (by decide), h2.1]
  have m1 : MRk t I1 i := MRk_o hm (fun c a _ _ => by rw [e1, up_k a]) (fun j j2 j5 => by rw [e1, up_n (by omega)])
  have r1 : RSc X0 I1 T b (o + 1) C := by
    refine ⟨?_, ?_, ?_, ?_, ?_, ?_⟩
    · rw [e1, up_n (by decide), up_k (by decide)]; exact h1
    · exact ⟨q1, by rw [e1, up_k (by decide)]; exact h2.2⟩
    · rw [e1, up_n (by decide), up_s]; exact ⟨h3.1, rfl⟩
    · exact fun c a b' e => by rw [e1, up_k a, h4 c a b' e]
    · exact fun j a b' c e e2' e3 e4 e5 => by rw [e1, up_n (by omega), h5 j a b' c e e2' e3 e4 e5]
    · exact fun k hk => by rw [e1, up_k (by decide), h6 k hk]
  rw [q1, Int.toNat_natCast]
  refine ⟨by omega, fun I2 e2 => ?_⟩
  have q2 : I2 489 49 = (T.length : Int) := by rw [e2, up_k (by decide), q1]
  rw [q2]
  refine ⟨by omega, fun I3 e3 => ?_⟩
  obtain ⟨m3, r3⟩ := RSc_push m1 r1 e2 e3
  exact PV_i (k1 q I3 m3 r3 (by rw [e3, up_n (by decide), e2, up_k (by decide), e1, up_n (by decide)]))
theorem c11_isOnY {x y : Int} {R : List Int} (h : RSc X0 X (x :: R) b o C) (r16 : R.length < 1700) (k1 : x = y → KI 1 X) (k0 : x ≠ y → KI 0 X) : CI mX11_isOn (d + 1) [vR 489, vI y] X KI := by
  obtain ⟨h1, h2, h3, h4, h5, h6⟩ := h
  have l : X 489 49 = (R.length : Int) + 1 := by rw [h2.1, List.length_cons]; omega
  refine bk_X11_isOn_0 ?_
  rw [l, show ((R.length : Int) + 1 - 1).toNat = R.length from by omega, h2.2.1]
  exact ⟨fun q => by omega, fun _ => ⟨by omega, by omega, fun q => PI_i (k0 q), fun q => PI_i (k1 q)⟩⟩
theorem c11_isOn0 {y : Int} (h : RSc X0 X [] b o C) (k0 : KI 0 X) : CI mX11_isOn (d + 1) [vR 489, vI y] X KI := by
  refine bk_X11_isOn_0 ?_
  rw [h.2.1.1]
  exact ⟨fun q => PI_i k0, fun q => absurd (by simp) q⟩
/-- the top of what waits is not y -/
def tpn (T : List Int) (y : Int) : Prop := ∀ x R, T = x :: R → x ≠ y
theorem c11_isOnN {y : Int} (h : RSc X0 X T b o C) (t16 : T.length ≤ 1700) (n : tpn T y) (k0 : KI 0 X) : CI mX11_isOn (d + 1) [vR 489, vI y] X KI := by
  cases T with
  | nil => exact c11_isOn0 h k0
  | cons x R => exact c11_isOnY h (by simp only [List.length_cons] at t16; omega) (fun e => absurd e (n x R rfl)) (fun _ => k0)
def mkx (x : Int) : Prop := 20 ≤ x ∧ x ≤ 24
theorem c11_isMark {x : Int} (k1 : mkx x → KI 1 X) (k0 : ¬ mkx x → KI 0 X) : CI mX11_isMark (d + 1) [vR 489, vI x] X KI := by
  unfold mkx at k1 k0
  exact bk_X11_isMark_0 ⟨fun q => PI_i (k0 (by omega)), fun q => ⟨fun q2 => PI_i (k0 (by omega)), fun q2 => PI_i (k1 (by omega))⟩⟩
theorem mark_lp {m : Int} {R : List Int} (h : RSc X0 X T b o C) (t16 : T.length ≤ 1700) (hm : mkx m) (hb : b ≤ R.length) (k : KI m X) : ∀ (W : List Int), (∀ x ∈ W, ¬ mkx x) → STK (X 525) (W ++ m :: R) → (W ++ m :: R).length ≤ T.length → J none mX11_mark (d + 2) 0 0 7 [(0, vR 489), (1, vI (((W ++ m :: R).length : Int) - 1))] [] (mk X) (PI KI)
  | [], hw, hs, hl => by
    have e1 : (([] ++ m :: R : List Int).length : Int) - 1 = (R.length : Int) := by simp
    have hl' : R.length + 1 ≤ T.length := hl
    rw [e1]
    refine bk_X11_mark_7 ?_
    have hs1 : X 525 R.length = m := hs.1
    have h54 := h.2.2.1.1
    rw [Int.toNat_natCast, h.2.2.1.1, hs1]
    exact ⟨fun q => by omega, fun _ => ⟨by omega, c11_isMark (fun _ => ⟨fun _ => ⟨fun q => by omega, fun _ => ⟨by omega, PI_i (by rw [hs1]; exact k)⟩⟩, fun z => by omega⟩) (fun n => absurd hm n)⟩⟩
  | x :: W, hw, hs, hl => by
    have ih := mark_lp h t16 hm hb k W (fun y hy => hw y (List.mem_cons_of_mem _ hy)) hs.2 (by simp only [List.cons_append, List.length_cons] at hl; omega)
    have e1 : ((x :: W ++ m :: R : List Int).length : Int) - 1 = ((W ++ m :: R).length : Int) := by simp
    have ln : (W ++ m :: R).length = W.length + R.length + 1 := by simp only [List.length_append, List.length_cons]; omega
    have hl' : (W ++ m :: R).length + 1 ≤ T.length := hl
    rw [e1]
    refine bk_X11_mark_7 ?_
    rw [Int.toNat_natCast, h.2.2.1.1, show X 525 (W ++ m :: R).length = x from hs.1]
    refine ⟨fun q => by omega, fun _ => ⟨by omega, c11_isMark (fun n => absurd n (hw x List.mem_cons_self)) (fun _ => ⟨fun z => absurd rfl z, fun _ => ⟨by omega, ?_⟩⟩)⟩⟩
    rw [show ((W ++ m :: R).length : Int) + (-1) = ((W ++ m :: R).length : Int) - 1 from by omega]
    exact ih
theorem c11_mark {m : Int} {R W : List Int} (h : RSc X0 X (W ++ m :: R) b o C) (t16 : (W ++ m :: R).length ≤ 1700) (hm : mkx m) (hb : b ≤ R.length) (hw : ∀ x ∈ W, ¬ mkx x) (k : KI m X) : CI mX11_mark (d + 2) [vR 489] X KI := by
  refine bk_X11_mark_0 ?_
  rw [h.2.1.1]
  exact ⟨by omega, mark_lp h t16 hm hb k W hw h.2.1.2 (Nat.le_refl _)⟩
theorem marn_lp {R : List Int} (h : RSc X0 X T b o C) (t16 : T.length ≤ 1700) (hb : b = R.length) (k : KI (-1) X) : ∀ (W : List Int), (∀ x ∈ W, ¬ mkx x) → STK (X 525) (W ++ R) → (W ++ R).length ≤ T.length → J none mX11_mark (d + 2) 0 0 7 [(0, vR 489), (1, vI (((W ++ R).length : Int) - 1))] [] (mk X) (PI KI)
  | [], hw, hs, hl => by
    have e1 : (([] ++ R : List Int).length : Int) = (R.length : Int) := by simp
    rw [e1]
    refine bk_X11_mark_7 ?_
    rw [h.2.2.1.1]
    exact ⟨fun q => ⟨fun _ => PI_i k, fun z => absurd q z⟩, fun q => by omega⟩
  | x :: W, hw, hs, hl => by
    have ih := marn_lp h t16 hb k W (fun y hy => hw y (List.mem_cons_of_mem _ hy)) hs.2 (by simp only [List.cons_append, List.length_cons] at hl; omega)
    have e1 : ((x :: W ++ R : List Int).length : Int) - 1 = ((W ++ R).length : Int) := by simp
    have ln : (W ++ R).length = W.length + R.length := List.length_append
    have hl' : (W ++ R).length + 1 ≤ T.length := hl
    rw [e1]
    refine bk_X11_mark_7 ?_
    rw [Int.toNat_natCast, h.2.2.1.1, show X 525 (W ++ R).length = x from hs.1]
    refine ⟨fun q => by omega, fun _ => ⟨by omega, c11_isMark (fun n => absurd n (hw x List.mem_cons_self)) (fun _ => ⟨fun z => absurd rfl z, fun _ => ⟨by omega, ?_⟩⟩)⟩⟩
    rw [show ((W ++ R).length : Int) + (-1) = ((W ++ R).length : Int) - 1 from by omega]
    exact ih
theorem c11_markN {R W : List Int} (h : RSc X0 X (W ++ R) b o C) (t16 : (W ++ R).length ≤ 1700) (hb : b = R.length) (hw : ∀ x ∈ W, ¬ mkx x) (k : KI (-1) X) : CI mX11_mark (d + 2) [vR 489] X KI := by
  refine bk_X11_mark_0 ?_
  rw [h.2.1.1]
  exact ⟨by omega, marn_lp h t16 hb k W hw h.2.1.2 (Nat.le_refl _)⟩
theorem c11_dropsToMark {m : Int} {R : List Int} (hm : mkx m) (hb : b ≤ R.length) (g : ∀ (Y : HI) (C' : List Int), MRk t Y i → RSc X0 Y (m :: R) b o C' → C' = C ++ T → K Y) : ∀ (W C1 : List Int) (X : HI), C1 ++ W = C ++ T → (∀ x ∈ W, ¬ mkx x) → MRk t X i → RSc X0 X (W ++ m :: R) b o C1 → C1.length + (W ++ m :: R).length ≤ 1600 → CV mX11_dropsToMark (d + 3) [vR 489] X K
  | [], C1, X, e, hw, mX, rX, hl => by
    have l : X 489 49 = (R.length : Int) + 1 := by rw [rX.2.1.1]; simp
    have hl' : C1.length + (R.length + 1) ≤ 1600 := hl
    refine bk_X11_dropsToMark_0 ?_
    rw [l, rX.2.2.1.1, show ((R.length : Int) + 1 - 1).toNat = R.length from by omega, show X 525 R.length = m from rX.2.1.2.1]
    exact ⟨fun q => by omega, fun _ => ⟨by omega, by omega, c11_isMark (fun _ => ⟨fun _ => PV_i (g X C1 mX rX (by rw [← e, List.append_nil])), fun z => by omega⟩) (fun n => absurd hm n)⟩⟩
  | x :: W, C1, X, e, hw, mX, rX, hl => by
    have ih := fun Y => c11_dropsToMark hm hb g W (C1 ++ [x]) Y (by rw [← e]; simp) (fun y hy => hw y (List.mem_cons_of_mem _ hy))
    have ln : (W ++ m :: R).length = W.length + R.length + 1 := by simp only [List.length_append, List.length_cons]; omega
    have l : X 489 49 = ((W ++ m :: R).length : Int) + 1 := by rw [rX.2.1.1]; simp
    have hl' : C1.length + ((W ++ m :: R).length + 1) ≤ 1600 := hl
    refine bk_X11_dropsToMark_0 ?_
    rw [l, rX.2.2.1.1, show (((W ++ m :: R).length : Int) + 1 - 1).toNat = (W ++ m :: R).length from by omega, show X 525 (W ++ m :: R).length = x from rX.2.1.2.1]
    refine ⟨fun q => by omega, fun _ => ⟨by omega, by omega, c11_isMark (fun n => absurd n (hw x List.mem_cons_self)) (fun _ => ⟨fun z => absurd rfl z, fun _ => c11_drops (R := W ++ m :: R) mX rX (by omega) (by omega) (fun Y mY rY => ?_)⟩)⟩⟩
    have := ih Y mY rY (by simp only [List.length_append, List.length_cons, List.length_nil] at *; omega)
    exact this
end MS2
