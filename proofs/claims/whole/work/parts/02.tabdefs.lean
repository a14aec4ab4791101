abbrev MD : Type := MethodName × ByteArray × Nat × Option FieldType
def GT : List Cond := lw_tbl.filter goodWord
theorem gt_in {w : Cond} (i : Nat) (h : lw_tbl[i]? = some w) (hg : goodWord w = true) : w ∈ GT := List.mem_filter.mpr ⟨List.mem_of_getElem? h, hg⟩
theorem gt_good {w : Cond} (h : w ∈ GT) : (w.onTables && w.keeps) = true ∨ ∃ ty, w = .arrayClass ty := good_of_word (List.mem_filter.mp h).2
def flg : List (List Bool) := [
  [true, true, true, true, true, true, true, true, true, true, true, true, false, false],
  [true, true, true, true, true, false, false],
  [true, true, true, true, true, true, true, false, false, false],
  [true, true, true, true, true, false, false, false, false],
  [true, true, true, true, true, false],
  [true, true, true, true, true, true, true, true, true, true, true, false],
  [true, true, true, true, true, true, true, false, false, false, false, false, false, false],
  [true, true, true, true, true, false, false, false, false, false, false, false, false, false, false],
  [true, true, true, true, false, false, false, false],
  [true, true, true, true, true, false, false, false, false, false],
  [true, true, true, true, true, true, true, true, true, true, true, true, false, false, false, false],
  [true, false, false, false, false, false, false, false, false, true, true, true, true, true, true, true, true, true, true, true, true, true, true, true, true, true, true, true, true, true, true, true, true, true, true, true, false, true, true, true, true, true, true, false, false, false, true, false, true, false, false, true, true, true, false, true, false, true, true, true, true, true, true, false, false, true, true, true, true, true, true, false, false, true, true, true, true, true, true, true, true, true, true, false, false, true, true, true, true, true, false]]
def fl (ci : Nat) : List Bool := flg.getD ci []
def CK (ci : Nat) (C : String) (T : u_T) (N : Nat) (ty : Nat → FieldType) : Prop :=
  vwCl[ci]? = some (C, T, N) ∧ (fl ci).length = N ∧ (∀ w ∈ u_ws C T N, w ∈ GT) ∧ (∀ k, k < N → parseFieldDescriptor (T k).2.2.1 = some (ty k)) ∧ (∀ a, a < N → ∀ b, b < N → a ≠ b → (T a).2.1 ≠ (T b).2.1) ∧ (∀ k, k < N → (T k).1 = C)
def MOK (M : MD) (n : Nat) : Prop := Cond.code M.1 M.2.1 M.2.2.1 M.2.2.2 ∈ GT ∧ Cond.initialized M.1.cls ∈ GT ∧ plainName M.1.cls = true ∧ (M.1.cls ≠ "java/lang/invoke/MethodHandle" ∧ M.1.cls ≠ "java/lang/invoke/VarHandle" ∧ (parseMethodDescriptor M.1.desc).map (fun d => d.parameters.length) = some n) ∧ M.2.2.1 ≤ 60
def MV (M : MD) (n ci : Nat) : Prop := MOK M n ∧ Cond.instanceMethod M.1 ∈ GT ∧ Cond.selects M.1.cls M.1 M.1 ∈ GT ∧ ∃ q : vw_C, vwCl[ci]? = some q ∧ q.1 = M.1.cls
def MS (M : MD) (n : Nat) : Prop := MOK M n ∧ Cond.static M.1 ∈ GT
def MI (M : MD) (n : Nat) : Prop := MOK M n ∧ Cond.instanceMethod M.1 ∈ GT ∧ M.1.name = "<init>" ∧ M.2.2.2 = none
