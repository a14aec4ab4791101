def opt (x : Int) : List Int := if x = 0 then [] else [x]
def mop (t : Txt) (j : Nat) (q : Int) : Prop := (sgn t j 42 ∧ q = 3) ∨ (sgn t j 47 ∧ q = 4)
def aop (t : Txt) (j : Nat) (q : Int) : Prop := (sgn t j 43 ∧ q = 1) ∨ (sgn t j 45 ∧ q = 2)
def anp (t : Txt) (j : Nat) (q : Int) : Prop := (uK t j = 17 ∧ ¬ jnd t j) ∧ q = 14
def orp (t : Txt) (j : Nat) (q : Int) : Prop := (uK t j = 16 ∧ ¬ jnd t j) ∧ q = 15
/-- parts in a row with what joins them: p and a wait; o1 binds closer than o2 -/
def Lps (Pa : Nat → Nat → List Int → Prop) (o1 o2 : Nat → Int → Prop) : Nat → Int → Int → Nat → Nat → List Int → Prop
  | 0, _, _, _, _, _ => False
  | L + 1, p, a, i, j, cs => ∃ (j1 : Nat) (c1 : List Int), Pa i j1 c1 ∧ (((∀ q, ¬ o1 j1 q) ∧ (∀ q, ¬ o2 j1 q) ∧ j = j1 ∧ cs = c1 ++ (opt p ++ opt a)) ∨ (∃ (q : Int) (c2 : List Int), o1 j1 q ∧ Lps Pa o1 o2 L q a (j1 + 1) j c2 ∧ cs = c1 ++ (opt p ++ c2)) ∨ (∃ (q : Int) (c2 : List Int), (∀ q', ¬ o1 j1 q') ∧ o2 j1 q ∧ Lps Pa o1 o2 L 0 q (j1 + 1) j c2 ∧ cs = c1 ++ (opt p ++ (opt a ++ c2))))
def Lpf (Pa : Nat → Nat → List Int → Prop) (Pf : Nat → Int → Int → Prop) (o1 o2 : Nat → Int → Prop) : Nat → Int → Int → Nat → Int → Int → Prop
  | 0, _, _, _, _, _ => False
  | L + 1, p, a, i, k, pl => Pf i k pl ∨ ∃ (j1 : Nat) (c1 : List Int), Pa i j1 c1 ∧ ((∃ q : Int, o1 j1 q ∧ Lpf Pa Pf o1 o2 L q a (j1 + 1) k pl) ∨ (∃ q : Int, (∀ q', ¬ o1 j1 q') ∧ o2 j1 q ∧ Lpf Pa Pf o1 o2 L 0 q (j1 + 1) k pl))
def ask (t : Txt) (i : Nat) (a : Int) : Prop := ((20 ≤ uK t i ∧ uK t i ≤ 24) ∧ ¬ jnd t i) ∧ a = (if uK t i = 24 then 18 else (uK t i : Int) - 13)
def mmk (t : Txt) (i : Nat) (q : Int) : Prop := ((uK t i = 25 ∨ uK t i = 26) ∧ ¬ jnd t i) ∧ q = (uK t i : Int) - 20
def Smp (t : Txt) (i j : Nat) (cs : List Int) : Prop := j = i + 1 ∧ ((∃ a, ask t i a ∧ cs = [a]) ∨ (∃ v, NUs t i 0 9999 v ∧ cs = [1000 + v]))
/-- one part of a sum, D more may be opened -/
def Pts (t : Txt) : Nat → Nat → Nat → List Int → Prop
  | 0, i, j, cs => Smp t i j cs
  | D + 1, i, j, cs => Smp t i j cs ∨ (∃ (L j1 : Nat), sgn t i 40 ∧ Lps (Pts t D) (mop t) (aop t) L 0 0 (i + 1) j1 cs ∧ sgn t j1 41 ∧ j = j1 + 1) ∨ (∃ (q : Int) (L1 j1 : Nat) (c1 : List Int) (L2 j2 : Nat) (c2 : List Int), mmk t i q ∧ sgn t (i + 1) 40 ∧ Lps (Pts t D) (mop t) (aop t) L1 0 0 (i + 2) j1 c1 ∧ sgn t j1 44 ∧ Lps (Pts t D) (mop t) (aop t) L2 0 0 (j1 + 1) j2 c2 ∧ sgn t j2 41 ∧ j = j2 + 1 ∧ cs = c1 ++ (c2 ++ [q]))
def Pbf (t : Txt) (i : Nat) (k p : Int) : Prop := (¬ sgn t i 40 ∧ ¬ (20 ≤ uK t i ∧ uK t i ≤ 26) ∧ NUf t i 0 9999 k p) ∨ ((∃ q, mmk t i q) ∧ ¬ sgn t (i + 1) 40 ∧ k = 1 ∧ p = uS t (i + 1))
def Ptf (t : Txt) : Nat → Nat → Int → Int → Prop
  | 0, i, k, p => Pbf t i k p ∨ (sgn t i 40 ∧ k = 4 ∧ p = uS t i) ∨ ((∃ q, mmk t i q) ∧ sgn t (i + 1) 40 ∧ k = 4 ∧ p = uS t (i + 1))
  | D + 1, i, k, p => Pbf t i k p ∨ (sgn t i 40 ∧ ((∃ L, Lpf (Pts t D) (Ptf t D) (mop t) (aop t) L 0 0 (i + 1) k p) ∨ (∃ (L j1 : Nat) (c1 : List Int), Lps (Pts t D) (mop t) (aop t) L 0 0 (i + 1) j1 c1 ∧ ¬ sgn t j1 41 ∧ k = 1 ∧ p = uS t j1))) ∨ ((∃ q, mmk t i q) ∧ sgn t (i + 1) 40 ∧ ((∃ L, Lpf (Pts t D) (Ptf t D) (mop t) (aop t) L 0 0 (i + 2) k p) ∨ (∃ (L j1 : Nat) (c1 : List Int), Lps (Pts t D) (mop t) (aop t) L 0 0 (i + 2) j1 c1 ∧ ((¬ sgn t j1 44 ∧ k = 1 ∧ p = uS t j1) ∨ (sgn t j1 44 ∧ ((∃ L, Lpf (Pts t D) (Ptf t D) (mop t) (aop t) L 0 0 (j1 + 1) k p) ∨ (∃ (L j2 : Nat) (c2 : List Int), Lps (Pts t D) (mop t) (aop t) L 0 0 (j1 + 1) j2 c2 ∧ ¬ sgn t j2 41 ∧ k = 1 ∧ p = uS t j2)))))))
def Sms (t : Txt) (D : Nat) (i j : Nat) (cs : List Int) : Prop := ∃ L, Lps (Pts t D) (mop t) (aop t) L 0 0 i j cs
def Smf (t : Txt) (D : Nat) (i : Nat) (k p : Int) : Prop := ∃ L, Lpf (Pts t D) (Ptf t D) (mop t) (aop t) L 0 0 i k p
def ncs (t : Txt) (i : Nat) : Prop := uK t i ≠ 18 ∧ uK t i ≠ 19 ∧ ¬ sgn t i 91
def cmk (t : Txt) (j : Nat) (q : Int) : Prop := (sgn t j 60 ∧ q = 11) ∨ (sgn t j 62 ∧ q = 12) ∨ (sgn t j 61 ∧ q = 13)
def Fsm (t : Txt) (D i j : Nat) (cs : List Int) : Prop := ((uK t i = 19 ∧ ¬ jnd t i) ∧ j = i + 1 ∧ cs = [17]) ∨ (ncs t i ∧ ∃ (j1 : Nat) (c1 : List Int) (q : Int) (c2 : List Int), Sms t D i j1 c1 ∧ cmk t j1 q ∧ Sms t D (j1 + 1) j c2 ∧ cs = c1 ++ (c2 ++ [q]))
def Fsf (t : Txt) (D i : Nat) (k p : Int) : Prop := ncs t i ∧ (Smf t D i k p ∨ ∃ (j1 : Nat) (c1 : List Int), Sms t D i j1 c1 ∧ (((∀ q, ¬ cmk t j1 q) ∧ k = 1 ∧ p = uS t j1) ∨ ((∃ q, cmk t j1 q) ∧ Smf t D (j1 + 1) k p)))
/-- one fact of a test -/
def Fts (t : Txt) : Nat → Nat → Nat → List Int → Prop
  | 0, i, j, cs => Fsm t 0 i j cs
  | D + 1, i, j, cs => Fsm t (D + 1) i j cs ∨ (∃ c1, (uK t i = 18 ∧ ¬ jnd t i) ∧ Fts t D (i + 1) j c1 ∧ cs = c1 ++ [16]) ∨ (∃ (L j1 : Nat), sgn t i 91 ∧ Lps (Fts t D) (anp t) (orp t) L 0 0 (i + 1) j1 cs ∧ sgn t j1 93 ∧ j = j1 + 1)
def Ftf (t : Txt) : Nat → Nat → Int → Int → Prop
  | 0, i, k, p => Fsf t 0 i k p ∨ (((uK t i = 18 ∧ ¬ jnd t i) ∨ sgn t i 91) ∧ k = 4 ∧ p = uS t i)
  | D + 1, i, k, p => Fsf t (D + 1) i k p ∨ ((uK t i = 18 ∧ ¬ jnd t i) ∧ Ftf t D (i + 1) k p) ∨ (sgn t i 91 ∧ ((∃ L, Lpf (Fts t D) (Ftf t D) (anp t) (orp t) L 0 0 (i + 1) k p) ∨ (∃ (L j1 : Nat) (c1 : List Int), Lps (Fts t D) (anp t) (orp t) L 0 0 (i + 1) j1 c1 ∧ ¬ sgn t j1 93 ∧ k = 1 ∧ p = uS t j1)))
def Tss (t : Txt) (D i j : Nat) (cs : List Int) : Prop := ∃ L, Lps (Fts t D) (anp t) (orp t) L 0 0 i j cs
def Tsf (t : Txt) (D i : Nat) (k p : Int) : Prop := ∃ L, Lpf (Fts t D) (Ftf t D) (anp t) (orp t) L 0 0 i k p
theorem opt_0 : opt 0 = [] := if_pos rfl
theorem opt_n {x : Int} (h : x ≠ 0) : opt x = [x] := if_neg h
theorem opt_len (x : Int) : (opt x).length ≤ 1 := by unfold opt; split <;> simp
theorem opt_len0 {x : Int} (h : x ≠ 0) : (opt x).length = 1 := by rw [opt_n h]; rfl
/-- a row of parts is as long as its codes, what waited aside -/
theorem Lps_len {Pa : Nat → Nat → List Int → Prop} {o1 o2 : Nat → Int → Prop} (hP : ∀ i j cs, Pa i j cs → i < j ∧ cs.length + i ≤ j) : ∀ (L : Nat) (p a : Int) (i j : Nat) (cs : List Int), Lps Pa o1 o2 L p a i j cs → i < j ∧ cs.length + i ≤ j + (opt p).length + (opt a).length
  | 0, _, _, _, _, _, h => h.elim
  | L + 1, p, a, i, j, cs, h => by
    obtain ⟨j1, c1, h1, h2⟩ := h
    obtain ⟨a1, a2⟩ := hP _ _ _ h1
    rcases h2 with ⟨_, _, e1, e2⟩ | ⟨q, c2, _, h3, e2⟩ | ⟨q, c2, _, _, h3, e2⟩
    · rw [e2, e1]; simp only [List.length_append]; omega
    · have := Lps_len hP L _ _ _ _ _ h3
      have := opt_len q
      rw [e2]; simp only [List.length_append]; omega
    · have w := Lps_len hP L _ _ _ _ _ h3
      have := opt_len q
      rw [opt_0] at w
      rw [e2]; simp only [List.length_append, List.length_nil] at *; omega
theorem Pts_len {t : Txt} : ∀ (D i j : Nat) (cs : List Int), Pts t D i j cs → i < j ∧ cs.length + i ≤ j := by
  have base : ∀ i j cs, Smp t i j cs → i < j ∧ cs.length + i ≤ j := fun i j cs h => by
    obtain ⟨e, h⟩ := h
    rcases h with ⟨a, _, e2⟩ | ⟨v, _, e2⟩ <;> rw [e2, e] <;> simp only [List.length_cons, List.length_nil] <;> omega
  intro D
  induction D with
  | zero => exact base
  | succ D ih =>
    intro i j cs h
    have l := fun L p a i j cs => Lps_len (o1 := mop t) (o2 := aop t) ih L p a i j cs
    rcases h with h | ⟨L, j1, _, h1, _, e⟩ | ⟨q, L1, j1, c1, L2, j2, c2, _, _, h1, _, h2, _, e, e2⟩
    · exact base i j cs h
    · have := l _ _ _ _ _ _ h1
      rw [opt_0] at this; simp only [List.length_nil] at this; omega
    · have a1 := l _ _ _ _ _ _ h1
      have a2 := l _ _ _ _ _ _ h2
      rw [opt_0] at a1 a2
      rw [e2]; simp only [List.length_append, List.length_nil, List.length_cons] at *; omega
theorem Sms_len {t : Txt} {D i j : Nat} {cs : List Int} (h : Sms t D i j cs) : i < j ∧ cs.length + i ≤ j := by
  obtain ⟨L, h⟩ := h
  have := Lps_len (Pts_len D) L _ _ _ _ _ h
  rw [opt_0] at this; simp only [List.length_nil] at this; omega
theorem Fts_len {t : Txt} : ∀ (D i j : Nat) (cs : List Int), Fts t D i j cs → i < j ∧ cs.length + i ≤ j := by
  have base : ∀ D i j cs, Fsm t D i j cs → i < j ∧ cs.length + i ≤ j := fun D i j cs h => by
    rcases h with ⟨_, e, e2⟩ | ⟨_, j1, c1, q, c2, h1, _, h2, e2⟩
    · rw [e2, e]; simp only [List.length_cons, List.length_nil]; omega
    · have a1 := Sms_len h1
      have a2 := Sms_len h2
      rw [e2]; simp only [List.length_append, List.length_nil, List.length_cons]; omega
  intro D
  induction D with
  | zero => exact base 0
  | succ D ih =>
    intro i j cs h
    rcases h with h | ⟨c1, _, h1, e⟩ | ⟨L, j1, _, h1, _, e⟩
    · exact base _ i j cs h
    · have := ih _ _ _ h1
      rw [e]; simp only [List.length_append, List.length_nil, List.length_cons]; omega
    · have := Lps_len (o1 := anp t) (o2 := orp t) ih _ _ _ _ _ _ h1
      rw [opt_0] at this; simp only [List.length_nil] at this; omega
theorem Tss_len {t : Txt} {D i j : Nat} {cs : List Int} (h : Tss t D i j cs) : i < j ∧ cs.length + i ≤ j := by
  obtain ⟨L, h⟩ := h
  have := Lps_len (Fts_len D) L _ _ _ _ _ h
  rw [opt_0] at this; simp only [List.length_nil] at this; omega
