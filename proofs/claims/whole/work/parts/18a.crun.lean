def pset {α : Type} (e : α) : List α → Nat → α → List α
  | [], 0, x => [x]
  | [], n + 1, x => e :: pset e [] n x
  | _ :: t, 0, x => x :: t
  | a :: t, n + 1, x => a :: pset e t n x
theorem pset_get {α : Type} (e : α) : ∀ (l : List α) (j : Nat) (x : α) (b : Nat), (pset e l j x).getD b e = if b = j then x else l.getD b e
  | [], 0, x, 0 => by simp [pset]
  | [], 0, x, b + 1 => by simp [pset]
  | [], n + 1, x, 0 => by simp [pset]
  | [], n + 1, x, b + 1 => by
    have h := pset_get e [] n x b
    simp only [pset, List.getD_cons_succ, h]
    simp
  | a :: t, 0, x, 0 => by simp [pset]
  | a :: t, 0, x, b + 1 => by simp [pset]
  | a :: t, n + 1, x, 0 => by simp [pset]
  | a :: t, n + 1, x, b + 1 => by
    have h := pset_get e t n x b
    simp only [pset, List.getD_cons_succ, h]
    simp
def li (L : List (List Int)) : Nat → Nat → Int := fun a b => (L.getD a []).getD b 0
def lr (L : List (List (Option Nat))) : Nat → Nat → Option Nat := fun a b => (L.getD a []).getD b none
def lup (L : List (List Int)) (k j : Nat) (x : Int) : List (List Int) := pset [] L k (pset 0 (L.getD k []) j x)
def lupR (L : List (List (Option Nat))) (k j : Nat) (x : Option Nat) : List (List (Option Nat)) := pset [] L k (pset none (L.getD k []) j x)
theorem li_up (L : List (List Int)) (k j : Nat) (x : Int) : up (li L) k j x = li (lup L k j x) := by
  funext a b
  unfold up li lup
  rw [pset_get]
  by_cases ha : a = k
  · subst ha
    rw [if_pos rfl, pset_get]
    by_cases hb : b = j <;> simp [hb]
  · rw [if_neg ha, if_neg (fun q => ha q.1)]
theorem lr_up (L : List (List (Option Nat))) (k j : Nat) (x : Option Nat) : upR (lr L) k j x = lr (lupR L k j x) := by
  funext a b
  unfold upR lr lupR
  rw [pset_get]
  by_cases ha : a = k
  · subst ha
    rw [if_pos rfl, pset_get]
    by_cases hb : b = j <;> simp [hb]
  · rw [if_neg ha, if_neg (fun q => ha q.1)]
theorem li_cl {L : List (List Int)} {n : Nat} (h : L.length ≤ n) : clI (li L) n = li L := by
  funext a b
  unfold clI li
  by_cases ha : a = n
  · subst ha
    have e : L.getD a [] = [] := by rw [List.getD_eq_getElem?_getD, List.getElem?_eq_none h]; rfl
    rw [if_pos rfl, e]; simp
  · rw [if_neg ha]
theorem lr_cl {L : List (List (Option Nat))} {n : Nat} (h : L.length ≤ n) : clR (lr L) n = lr L := by
  funext a b
  unfold clR lr
  by_cases ha : a = n
  · subst ha
    have e : L.getD a [] = [] := by rw [List.getD_eq_getElem?_getD, List.getElem?_eq_none h]; rfl
    rw [if_pos rfl, e]; simp
  · rw [if_neg ha]
abbrev CS : Type := List SH × List (List (Option Nat)) × List (List Int)
def ah (s : CS) : AH := (s.1, lr s.2.1, li s.2.2)
abbrev FE : Type := String × Nat × Nat × Nat × Bool × Bool × Bool
def FFk (e : FE) : Prop := ∃ (C : String) (T : u_T) (N : Nat) (ty : Nat → FieldType), CK e.2.2.1 C T N ty ∧ Cond.fieldLink e.1 e.2.1 C (T e.2.2.2.1).2.1 (T e.2.2.2.1).2.2.1 ∈ GT ∧ (fl e.2.2.1)[e.2.2.2.1]? = some e.2.2.2.2.1 ∧
  (T e.2.2.2.1).2.2.2 = e.2.2.2.2.1 ∧ (e.2.2.2.2.1 = true → (∃ n, ty e.2.2.2.1 = .object n) ∨ ∃ t, ty e.2.2.2.1 = .array t) ∧ (e.2.2.2.2.1 = false → ty e.2.2.2.1 = if e.2.2.2.2.2.1 then .boolean else .int) ∧ (e.2.2.2.2.2.2 = true → C = e.1)
abbrev CE : Type := String × Nat × Nat
def CFk (e : CE) : Prop := ∃ (C : String) (T : u_T) (N : Nat) (ty : Nat → FieldType), CK e.2.2 C T N ty ∧ Cond.classLink e.1 e.2.1 C ∈ GT ∧ Cond.instantiable C N ∈ GT ∧ Cond.initialized C ∈ GT ∧ (∀ j, j < N → ∀ r, (fl e.2.2)[j]? = some r → defaultValue (ty j) = if r then .null else .int 0)
abbrev ME : Type := String × Nat × MD × Nat × Nat × Nat
def MFk (e : ME) : Prop := match e.2.2.2.2.1 with
  | 0 => Cond.methodLink e.1 e.2.1 Lib.objectInit ∈ GT
  | 1 => MI e.2.2.1 e.2.2.2.1 ∧ Cond.methodLink e.1 e.2.1 e.2.2.1.1 ∈ GT
  | 2 => MI e.2.2.1 e.2.2.2.1 ∧ ∀ (B : Nat) (E : Nat → Nat) (U : State), KS B E U → va_Nw (.methodLinkNest e.1 e.2.1 e.2.2.1.1 RX10) U
  | 3 => MV e.2.2.1 e.2.2.2.1 e.2.2.2.2.2 ∧ Cond.methodLink e.1 e.2.1 e.2.2.1.1 ∈ GT
  | _ => MS e.2.2.1 e.2.2.2.1 ∧ Cond.methodLink e.1 e.2.1 e.2.2.1.1 ∈ GT
abbrev KE : Type := String × Nat × Int
def KFk (e : KE) : Prop := Cond.constant e.1 e.2.1 (Int32.ofInt e.2.2) ∈ GT ∧ ii e.2.2
abbrev AE : Type := String × Nat × Unit
def AFk (e : AE) : Prop := Cond.classLink e.1 e.2.1 RX8 ∈ GT
abbrev TT : Type := List FE × List CE × List ME × List KE × List AE
def TOK (t : TT) : Prop := (∀ e ∈ t.1, FFk e) ∧ (∀ e ∈ t.2.1, CFk e) ∧ (∀ e ∈ t.2.2.1, MFk e) ∧ (∀ e ∈ t.2.2.2.1, KFk e) ∧ ∀ e ∈ t.2.2.2.2, AFk e
def ffd {β : Type} (t : List (String × Nat × β)) (o : String) (i : Nat) : Option (String × Nat × β) := t.find? (fun e => e.2.1 == i && e.1 == o)
theorem ffd_ok {β : Type} {t : List (String × Nat × β)} {o : String} {i : Nat} {e : String × Nat × β} (h : ffd t o i = some e) : e ∈ t ∧ e.1 = o ∧ e.2.1 = i := by
  unfold ffd at h
  have h1 := List.find?_some h
  simp only [Bool.and_eq_true, beq_iff_eq] at h1
  exact ⟨List.mem_of_find?_eq_some h, h1.2, h1.1⟩
def iiB (x : Int) : Bool := decide (-2147483648 ≤ x) && decide (x ≤ 2147483647)
theorem iiB_ok {x : Int} (h : iiB x = true) : ii x := ii_c h
def atag (a : ArrayType) : Option Nat := match a with
  | .int => some 0
  | .long => some 1
  | .boolean => some 2
  | .char => some 3
  | _ => none
def popn : Nat → List AV → Option (List AV × List AV)
  | 0, st => some ([], st)
  | n + 1, v :: st => match popn n st with
    | some (a, r) => some (a ++ [v], r)
    | none => none
  | _ + 1, [] => none
theorem popn_ok : ∀ (n : Nat) (st a r : List AV), popn n st = some (a, r) → st = a.reverse ++ r ∧ a.length = n
  | 0, st, a, r, h => by cases h; exact ⟨rfl, rfl⟩
  | n + 1, [], a, r, h => by cases h
  | n + 1, v :: st, a, r, h => by
    unfold popn at h
    split at h
    · rename_i a' r' h'
      obtain ⟨h1, h2⟩ := popn_ok n st a' r' h'
      cases h
      subst h1
      exact ⟨by simp, by simp [h2]⟩
    · cases h
