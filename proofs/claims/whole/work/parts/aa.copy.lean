section CO
variable {d : Nat} {I : HI} {K : HI → Prop}
theorem c0_copyRow {a b n : Nat} (h1 : SH0[a]? = some (.inr (0, n))) (h2 : SH0[b]? = some (.inr (0, n))) (hn : n ≤ 100000) (h : K (cpI I a 0 b 0 n)) : CV mX0_copyRow (d + 1) [vR 1, vR a, vR b] I K := by
  refine bk_X0_copyRow_0 h1 h2 ⟨by omega, by omega, ⟨by omega, by omega, by omega, by omega, by omega⟩, fun I1 e1 => PV_i ?_⟩
  rw [show (min (n : Int) (n : Int)).toNat = n from by omega] at e1
  rw [e1]
  exact h
/-- the city taken from the draft -/
def rsz : Nat → Nat
  | 2 => 5 | 3 => 60 | 4 => 24 | 5 => 10 | 6 => 64 | 7 => 16 | 8 => 40 | 9 => 1600 | 10 => 7 | 11 => 6 | 12 => 100 | 13 => 100 | _ => 0
def CPY (I Y : HI) : Prop := (∀ k, (k = 0 ∨ 13 < k) → Y k = I k) ∧ (∀ j, j ≠ 12 → j ≠ 13 → Y 1 j = I 1 j) ∧ (Y 1 12 = I 14 12 ∧ Y 1 13 = I 14 13) ∧ ∀ k j, 2 ≤ k → k ≤ 13 → j < rsz k → Y k j = I (k + 13) j
/-- rows below r are copied -/
def CPp (I X : HI) (r : Nat) : Prop := (∀ k, (k < 2 ∨ r ≤ k) → X k = I k) ∧ ∀ k j, 2 ≤ k → k < r → j < rsz k → X k j = I (k + 13) j
theorem CPp_s {X : HI} {r : Nat} (h : CPp I X r) (r2 : 2 ≤ r) (r13 : r ≤ 13) : CPp I (cpI X (r + 13) 0 r 0 (rsz r)) (r + 1) := by
  refine ⟨fun k hk => ?_, fun k j k2 kr hj => ?_⟩
  · rw [cpI_f (by omega)]
    exact h.1 k (by omega)
  · by_cases e : k = r
    · subst e
      rw [cpI_i (by omega) (by omega), h.1 (k + 13) (by omega)]
      congr 1
      omega
    · rw [cpI_f e]
      exact h.2 k j k2 (by omega) hj
theorem c0_copyFrom (h : ∀ Y : HI, CPY I Y → K Y) : CV mX0_copyFrom (d + 2) [vR 1, vR 14] I K := by
  have p2 : CPp I I 2 := ⟨fun _ _ => rfl, fun k j k2 kr => by omega⟩
  refine bk_X0_copyFrom_0 (c0_copyRow (n := 5) rfl rfl (by omega) ?_)
  have p3 := CPp_s p2 (by omega) (by omega)
  refine c0_copyRow (n := 60) rfl rfl (by omega) ?_
  have p4 := CPp_s p3 (by omega) (by omega)
  refine c0_copyRow (n := 24) rfl rfl (by omega) ?_
  have p5 := CPp_s p4 (by omega) (by omega)
  refine c0_copyRow (n := 10) rfl rfl (by omega) ?_
  have p6 := CPp_s p5 (by omega) (by omega)
  refine c0_copyRow (n := 64) rfl rfl (by omega) ?_
  have p7 := CPp_s p6 (by omega) (by omega)
  refine c0_copyRow (n := 16) rfl rfl (by omega) ?_
  have p8 := CPp_s p7 (by omega) (by omega)
  refine c0_copyRow (n := 40) rfl rfl (by omega) ?_
  have p9 := CPp_s p8 (by omega) (by omega)
  refine c0_copyRow (n := 1600) rfl rfl (by omega) ?_
  have p10 := CPp_s p9 (by omega) (by omega)
  refine c0_copyRow (n := 7) rfl rfl (by omega) ?_
  have p11 := CPp_s p10 (by omega) (by omega)
  refine c0_copyRow (n := 6) rfl rfl (by omega) ?_
  have p12 := CPp_s p11 (by omega) (by omega)
  refine c0_copyRow (n := 100) rfl rfl (by omega) ?_
  have p13 := CPp_s p12 (by omega) (by omega)
  refine c0_copyRow (n := 100) rfl rfl (by omega) ?_
  have p14 := CPp_s p13 (by omega) (by omega)
  refine fun I13 e13 I14 e14 => PV_i (h I14 ?_)
  have q1 := p14.1 14 (by omega)
  have q0 := p14.1 1 (by omega)
  have i13 : I13 14 = I 14 := by
    rw [e13, up_k (by decide)]
    exact q1
  refine ⟨fun k hk => ?_, fun j h12 h13 => ?_, ⟨?_, ?_⟩, fun k j k2 k13 hj => ?_⟩
  · rw [e14, up_k (by omega), e13, up_k (by omega)]
    exact p14.1 k (by omega)
  · rw [e14, up_n (by omega), e13, up_n (by omega)]
    exact congrFun q0 j
  · rw [e14, up_n (by omega), e13, up_s]
    exact congrFun q1 12
  · rw [e14, up_s, i13]
  · rw [e14, up_k (by omega), e13, up_k (by omega)]
    exact p14.2 k j k2 (by omega) hj
end CO
