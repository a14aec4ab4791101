noncomputable def iL {α : Type} (p : Prop) (a : List α) : List α := @ite _ p (Classical.propDecidable p) a []
theorem iL_pos {α : Type} {p : Prop} {a : List α} (h : p) : iL p a = a := by
  unfold iL
  rw [if_pos h]
theorem iL_neg {α : Type} {p : Prop} {a : List α} (h : ¬ p) : iL p a = [] := by
  unfold iL
  rw [if_neg h]
/-- all choices for these saints that fit, in an order -/
noncomputable def vis (od : Nat → List Nat) (lw : Nat → Nat → Nat → Nat → Prop) : List Nat → (Nat → Nat → Prop) → List (List Nat)
  | [], _ => [[]]
  | s :: ms, ok => (od s).flatMap (fun x => iL (ok s x) ((vis od lw ms (fun t y => ok t y ∧ lw s x t y)).map (fun ys => x :: ys)))
theorem mem_iL {α : Type} {p : Prop} {a : List α} {z : α} : z ∈ iL p a ↔ p ∧ z ∈ a := by
  by_cases h : p
  · rw [iL_pos h]
    exact ⟨fun g => ⟨h, g⟩, fun g => g.2⟩
  · rw [iL_neg h]
    exact ⟨fun g => (by cases g), fun g => absurd g.1 h⟩
theorem vis_mem {od : Nat → List Nat} {lw : Nat → Nat → Nat → Nat → Prop} : ∀ (ms : List Nat) (ok : Nat → Nat → Prop) (ys : List Nat), ys ∈ vis od lw ms ok ↔ match ms, ys with
    | [], [] => True
    | s :: ms, x :: ys => x ∈ od s ∧ ok s x ∧ ys ∈ vis od lw ms (fun t y => ok t y ∧ lw s x t y)
    | _, _ => False
  | [], ok, ys => by
    cases ys with
    | nil => exact ⟨fun _ => trivial, fun _ => List.mem_singleton.mpr rfl⟩
    | cons y ys => exact ⟨fun h => (by cases List.mem_singleton.mp h), fun h => h.elim⟩
  | s :: ms, ok, ys => by
    show ys ∈ (od s).flatMap _ ↔ _
    rw [List.mem_flatMap]
    constructor
    · rintro ⟨x, hx, h⟩
      rw [mem_iL] at h
      obtain ⟨zs, hz, rfl⟩ := List.mem_map.mp h.2
      exact ⟨hx, h.1, hz⟩
    · cases ys with
      | nil => exact fun h => h.elim
      | cons x ys =>
        rintro ⟨h1, h2, h3⟩
        exact ⟨x, h1, mem_iL.mpr ⟨h2, List.mem_map.mpr ⟨ys, h3, rfl⟩⟩⟩
theorem vis_ok {od : Nat → List Nat} {lw : Nat → Nat → Nat → Nat → Prop} : ∀ (ms : List Nat) (ok : Nat → Nat → Prop) (ys : List Nat), ys ∈ vis od lw ms ok → ys.length = ms.length ∧ ∀ (i t y : Nat), ms[i]? = some t → ys[i]? = some y → ok t y ∧ y ∈ od t
  | [], ok, ys, h => by
    have := (vis_mem [] ok ys).mp h
    cases ys with
    | nil => exact ⟨rfl, fun i t y h1 => by simp at h1⟩
    | cons y ys => exact this.elim
  | s :: ms, ok, ys, h => by
    have g := (vis_mem (s :: ms) ok ys).mp h
    cases ys with
    | nil => exact g.elim
    | cons x ys =>
      obtain ⟨g1, g2, g3⟩ := g
      obtain ⟨l, r⟩ := vis_ok ms _ ys g3
      refine ⟨by simp [l], fun i t y h1 h2 => ?_⟩
      cases i with
      | zero =>
        simp only [List.getElem?_cons_zero, Option.some.injEq] at h1 h2
        rw [← h1, ← h2]
        exact ⟨g2, g1⟩
      | succ i =>
        rw [List.getElem?_cons_succ] at h1 h2
        have := r i t y h1 h2
        exact ⟨this.1.1, this.2⟩
theorem vis_od {od od' : Nat → List Nat} {lw : Nat → Nat → Nat → Nat → Prop} : ∀ (ms : List Nat) (ok : Nat → Nat → Prop) (ys : List Nat), (∀ s ∈ ms, ∀ x, x ∈ od s ↔ x ∈ od' s) → (ys ∈ vis od lw ms ok ↔ ys ∈ vis od' lw ms ok)
  | [], ok, ys, h => Iff.rfl
  | s :: ms, ok, ys, h => by
    rw [vis_mem, vis_mem]
    cases ys with
    | nil => exact Iff.rfl
    | cons x ys => exact and_congr (h s List.mem_cons_self x) (and_congr Iff.rfl (vis_od ms _ ys (fun t ht => h t (List.mem_cons_of_mem _ ht))))
theorem flatMap_congr' {α β : Type} {f g : α → List β} : ∀ (l : List α), (∀ x ∈ l, f x = g x) → l.flatMap f = l.flatMap g
  | [], h => rfl
  | x :: l, h => by
    rw [List.flatMap_cons, List.flatMap_cons, h x List.mem_cons_self, flatMap_congr' l (fun y hy => h y (List.mem_cons_of_mem _ hy))]
theorem vis_congr {od : Nat → List Nat} {lw lw' : Nat → Nat → Nat → Nat → Prop} : ∀ (ms : List Nat) (ok ok' : Nat → Nat → Prop), (∀ s x, ok s x ↔ ok' s x) → (∀ s x t y, s ∈ ms → t ∈ ms → x ∈ od s → y ∈ od t → ok s x → ok t y → (lw s x t y ↔ lw' s x t y)) → vis od lw ms ok = vis od lw' ms ok'
  | [], ok, ok', h, g => rfl
  | s :: ms, ok, ok', h, g => by
    show (od s).flatMap _ = (od s).flatMap _
    refine flatMap_congr' _ (fun x hx => ?_)
    by_cases q : ok s x
    · rw [iL_pos q, iL_pos ((h s x).mp q)]
      have e1 : vis od lw ms (fun t y => ok t y ∧ lw s x t y) = vis od lw' ms (fun t y => ok t y ∧ lw s x t y) := vis_congr ms _ _ (fun _ _ => Iff.rfl) (fun s' x' t y h1 h2 h3 h4 h5 h6 => g s' x' t y (List.mem_cons_of_mem _ h1) (List.mem_cons_of_mem _ h2) h3 h4 h5.1 h6.1)
      rw [e1, vis_ok' ms _ _ (fun t ht y hy => ?_)]
      refine ⟨fun z => ⟨(h t y).mp z.1, (g s x t y List.mem_cons_self (List.mem_cons_of_mem _ ht) hx hy q z.1).mp z.2⟩, fun z => ⟨(h t y).mpr z.1, (g s x t y List.mem_cons_self (List.mem_cons_of_mem _ ht) hx hy q ((h t y).mpr z.1)).mpr z.2⟩⟩
    · rw [iL_neg q, iL_neg (fun z => q ((h s x).mpr z))]
where
  vis_ok' {lw' : Nat → Nat → Nat → Nat → Prop} : ∀ (ms : List Nat) (ok ok' : Nat → Nat → Prop), (∀ s ∈ ms, ∀ x ∈ od s, (ok s x ↔ ok' s x)) → vis od lw' ms ok = vis od lw' ms ok'
    | [], ok, ok', h => rfl
    | s :: ms, ok, ok', h => by
      show (od s).flatMap _ = (od s).flatMap _
      refine flatMap_congr' _ (fun x hx => ?_)
      by_cases q : ok s x
      · rw [iL_pos q, iL_pos ((h s List.mem_cons_self x hx).mp q), vis_ok' ms _ _ (fun t ht y hy => and_congr (h t (List.mem_cons_of_mem _ ht) y hy) Iff.rfl)]
      · rw [iL_neg q, iL_neg (fun z => q ((h s List.mem_cons_self x hx).mpr z))]
def cst (prc : Nat → Nat → Int) : List Nat → List Nat → Int
  | s :: ms, x :: xs => prc s x + cst prc ms xs
  | _, _ => 0
theorem cst_nn {prc : Nat → Nat → Int} (h : ∀ s x, 0 ≤ prc s x) : ∀ ms xs, 0 ≤ cst prc ms xs
  | [], xs => by cases xs <;> exact Int.le_refl _
  | s :: ms, [] => Int.le_refl _
  | s :: ms, x :: xs => by
    have := h s x
    have := cst_nn h ms xs
    show 0 ≤ prc s x + cst prc ms xs
    omega
theorem cst_el {prc : Nat → Nat → Int} (h : ∀ s x, 0 ≤ prc s x) : ∀ (ms xs : List Nat) (i t y : Nat), ms[i]? = some t → xs[i]? = some y → prc t y ≤ cst prc ms xs
  | [], xs, i, t, y, h1, h2 => by simp at h1
  | s :: ms, [], i, t, y, h1, h2 => by simp at h2
  | s :: ms, x :: xs, i, t, y, h1, h2 => by
    have p0 := h s x
    have p1 := cst_nn h ms xs
    show prc t y ≤ prc s x + cst prc ms xs
    cases i with
    | zero =>
      simp only [List.getElem?_cons_zero, Option.some.injEq] at h1 h2
      rw [← h1, ← h2]
      omega
    | succ i =>
      rw [List.getElem?_cons_succ] at h1 h2
      have := cst_el h ms xs i t y h1 h2
      omega
theorem cst_up {prc : Nat → Nat → Int} {M : Int} (h : ∀ s x, prc s x ≤ M) (m0 : 0 ≤ M) : ∀ ms xs : List Nat, cst prc ms xs ≤ M * ms.length
  | [], xs => by cases xs <;> simp [cst]
  | s :: ms, [] => by
    simp only [cst, List.length_cons]
    have : 0 ≤ M * ((ms.length + 1 : Nat) : Int) := Int.mul_nonneg m0 (by omega)
    exact this
  | s :: ms, x :: xs => by
    have h1 := h s x
    have h2 := cst_up h m0 ms xs
    show prc s x + cst prc ms xs ≤ M * ((ms.length + 1 : Nat) : Int)
    have : M * ((ms.length + 1 : Nat) : Int) = M * ms.length + M := by
      rw [Int.natCast_add, Int.mul_add]
      simp
    omega
/-- what is written at the saints -/
def wrs (A : Nat → Int) : List Nat → List Nat → (Nat → Int)
  | s :: ms, x :: xs => wrs (fun j => if j = s then (x : Int) else A j) ms xs
  | _, _ => A
theorem wrs_o : ∀ (ms xs : List Nat) (A : Nat → Int) (j : Nat), j ∉ ms → wrs A ms xs j = A j
  | [], xs, A, j, h => by cases xs <;> rfl
  | s :: ms, [], A, j, h => rfl
  | s :: ms, x :: xs, A, j, h => by
    show wrs _ ms xs j = _
    rw [wrs_o ms xs _ j (fun z => h (List.mem_cons_of_mem _ z))]
    rw [if_neg (fun z => h (by rw [z]; exact List.mem_cons_self))]
theorem wrs_get : ∀ (ms xs : List Nat) (A : Nat → Int) (i t y : Nat), ms.Nodup → ms[i]? = some t → xs[i]? = some y → wrs A ms xs t = y
  | [], xs, A, i, t, y, hn, h1, h2 => by simp at h1
  | s :: ms, [], A, i, t, y, hn, h1, h2 => by simp at h2
  | s :: ms, x :: xs, A, i, t, y, hn, h1, h2 => by
    obtain ⟨hn1, hn2⟩ := List.nodup_cons.mp hn
    show wrs _ ms xs t = _
    cases i with
    | zero =>
      simp only [List.getElem?_cons_zero, Option.some.injEq] at h1 h2
      rw [← h1, wrs_o ms xs _ s hn1, if_pos rfl, h2]
    | succ i =>
      rw [List.getElem?_cons_succ] at h1 h2
      exact wrs_get ms xs _ i t y hn2 h1 h2
abbrev Bst : Type := Int × (Nat → Int)
def bup (bn : Int) (tot : List Nat → Int) (ms P : List Nat) (st : Bst) (ys : List Nat) : Bst := if tot ys < st.1 then ((if bn = 0 then tot ys else 0), wrs st.2 ms (P ++ ys)) else st
theorem bup_skip {bn : Int} {tot : List Nat → Int} {ms P : List Nat} : ∀ (L : List (List Nat)) (st : Bst), (∀ ys ∈ L, st.1 ≤ tot ys) → L.foldl (bup bn tot ms P) st = st
  | [], st, h => rfl
  | y :: L, st, h => by
    have e : bup bn tot ms P st y = st := by
      unfold bup
      rw [if_neg (by have := h y List.mem_cons_self; omega)]
    rw [List.foldl_cons, e]
    exact bup_skip L st (fun z hz => h z (List.mem_cons_of_mem _ hz))
theorem bup_le {bn : Int} {tot : List Nat → Int} {ms P : List Nat} : ∀ (L : List (List Nat)) (st : Bst), (∀ ys ∈ L, 0 ≤ tot ys) → (L.foldl (bup bn tot ms P) st).1 ≤ st.1 ∧ (0 ≤ st.1 → 0 ≤ (L.foldl (bup bn tot ms P) st).1)
  | [], st, h => ⟨Int.le_refl _, fun z => z⟩
  | y :: L, st, h => by
    rw [List.foldl_cons]
    have := bup_le (bn := bn) (ms := ms) (P := P) L (bup bn tot ms P st y) (fun z hz => h z (List.mem_cons_of_mem _ hz))
    have h0 := h y List.mem_cons_self
    have e : (bup bn tot ms P st y).1 ≤ st.1 ∧ (0 ≤ st.1 → 0 ≤ (bup bn tot ms P st y).1) := by
      unfold bup
      split
      · split
        · refine ⟨?_, fun _ => ?_⟩ <;> simp only <;> omega
        · refine ⟨?_, fun _ => ?_⟩ <;> simp only <;> omega
      · exact ⟨Int.le_refl _, fun z => z⟩
    exact ⟨by omega, fun z => this.2 (e.2 z)⟩
/-- the first one of the least -/
def FMn (L : List (List Nat)) (tot : List Nat → Int) (xs : List Nat) : Prop := ∃ l1 l2, L = l1 ++ xs :: l2 ∧ (∀ ys ∈ l1, tot xs < tot ys) ∧ (∀ ys ∈ l2, tot xs ≤ tot ys)
theorem FMn_mem {L : List (List Nat)} {tot : List Nat → Int} {xs : List Nat} (h : FMn L tot xs) : xs ∈ L ∧ ∀ ys ∈ L, tot xs ≤ tot ys := by
  obtain ⟨l1, l2, e, h1, h2⟩ := h
  subst e
  refine ⟨by simp, fun ys hy => ?_⟩
  rcases List.mem_append.mp hy with hy | hy
  · have := h1 ys hy
    omega
  · rcases List.mem_cons.mp hy with rfl | hy
    · exact Int.le_refl _
    · exact h2 ys hy
theorem FMn_cons {L : List (List Nat)} {tot : List Nat → Int} {xs y : List Nat} (h : FMn (y :: L) tot xs) : (xs = y ∧ ∀ ys ∈ L, tot xs ≤ tot ys) ∨ (tot xs < tot y ∧ FMn L tot xs) := by
  obtain ⟨l1, l2, e, h1, h2⟩ := h
  cases l1 with
  | nil =>
    rw [List.nil_append] at e
    injection e with e1 e2
    subst e1 e2
    exact Or.inl ⟨rfl, h2⟩
  | cons z l1 =>
    rw [List.cons_append] at e
    injection e with e1 e2
    subst e1 e2
    exact Or.inr ⟨h1 _ List.mem_cons_self, l1, l2, rfl, fun ys hy => h1 ys (List.mem_cons_of_mem _ hy), h2⟩
theorem FMn_u {tot : List Nat → Int} {xs zs : List Nat} : ∀ (L : List (List Nat)), FMn L tot xs → FMn L tot zs → xs = zs
  | [], h, g => by
    obtain ⟨l1, l2, e, _⟩ := h
    simp at e
  | y :: L, h, g => by
    rcases FMn_cons h with ⟨h1, h2⟩ | ⟨h1, h2⟩ <;> rcases FMn_cons g with ⟨g1, g2⟩ | ⟨g1, g2⟩
    · rw [h1, g1]
    · have := h2 zs (FMn_mem g2).1
      rw [h1] at this
      omega
    · have := g2 xs (FMn_mem h2).1
      rw [g1] at this
      omega
    · exact FMn_u L h2 g2
theorem FMn_tot {tot tot' : List Nat → Int} {L : List (List Nat)} {xs : List Nat} (h : FMn L tot xs) (e : ∀ ys ∈ L, tot ys = tot' ys) : FMn L tot' xs := by
  obtain ⟨l1, l2, e0, h1, h2⟩ := h
  subst e0
  refine ⟨l1, l2, rfl, fun ys hy => ?_, fun ys hy => ?_⟩
  · rw [← e ys (by simp [hy]), ← e xs (by simp)]
    exact h1 ys hy
  · rw [← e ys (by simp [hy]), ← e xs (by simp)]
    exact h2 ys hy
/-- the least, by a first look -/
theorem fold_min {tot : List Nat → Int} {ms P : List Nat} : ∀ (L : List (List Nat)) (st : Bst), (L.foldl (bup 0 tot ms P) st).1 ≤ st.1 ∧ (∀ ys ∈ L, (L.foldl (bup 0 tot ms P) st).1 ≤ tot ys) ∧ ((L.foldl (bup 0 tot ms P) st).1 = st.1 ∨ ∃ ys ∈ L, tot ys = (L.foldl (bup 0 tot ms P) st).1)
  | [], st => ⟨Int.le_refl _, fun ys hy => (by cases hy), Or.inl rfl⟩
  | y :: L, st => by
    rw [List.foldl_cons]
    obtain ⟨h1, h2, h3⟩ := fold_min (ms := ms) (P := P) L (bup 0 tot ms P st y)
    have e : ((bup 0 tot ms P st y).1 = tot y ∧ tot y < st.1) ∨ ((bup 0 tot ms P st y).1 = st.1 ∧ st.1 ≤ tot y) := by
      by_cases q : tot y < st.1
      · refine Or.inl ⟨?_, q⟩
        unfold bup
        rw [if_pos q, if_pos rfl]
      · refine Or.inr ⟨?_, by omega⟩
        unfold bup
        rw [if_neg q]
    generalize bup 0 tot ms P st y = u at *
    generalize List.foldl (bup 0 tot ms P) u L = w at *
    refine ⟨by omega, fun ys hy => ?_, ?_⟩
    · rcases List.mem_cons.mp hy with rfl | hy
      · omega
      · exact h2 ys hy
    · rcases h3 with h3 | ⟨ys, hy, h3⟩
      · rcases e with e | e
        · exact Or.inr ⟨y, List.mem_cons_self, by omega⟩
        · exact Or.inl (by omega)
      · exact Or.inr ⟨ys, List.mem_cons_of_mem _ hy, h3⟩
/-- the first one of the least, by a second look -/
theorem fold_first {tot : List Nat → Int} {ms P : List Nat} {B : Int} (b0 : 0 < B) : ∀ (L : List (List Nat)) (A : Nat → Int), (∀ ys ∈ L, 0 ≤ tot ys) → (∀ ys ∈ L, B - 1 ≤ tot ys) → (∃ ys ∈ L, tot ys = B - 1) → ∃ xs, FMn L tot xs ∧ tot xs = B - 1 ∧ L.foldl (bup 1 tot ms P) (B, A) = (0, wrs A ms (P ++ xs))
  | [], A, h0, h1, h2 => by
    obtain ⟨ys, hy, _⟩ := h2
    cases hy
  | y :: L, A, h0, h1, h2 => by
    rw [List.foldl_cons]
    by_cases e : tot y < B
    · have ey : tot y = B - 1 := by
        have := h1 y List.mem_cons_self
        omega
      refine ⟨y, ⟨[], L, rfl, fun ys hy => (by cases hy), fun ys hy => ?_⟩, ey, ?_⟩
      · rw [ey]
        exact h1 ys (List.mem_cons_of_mem _ hy)
      · have eu : bup 1 tot ms P (B, A) y = (0, wrs A ms (P ++ y)) := by
          unfold bup
          rw [if_pos e, if_neg (by decide)]
        rw [eu, bup_skip L _ (fun ys hy => h0 ys (List.mem_cons_of_mem _ hy))]
    · have eu : bup 1 tot ms P (B, A) y = (B, A) := by
        unfold bup
        rw [if_neg e]
      rw [eu]
      obtain ⟨ys, hy, h3⟩ := h2
      rcases List.mem_cons.mp hy with rfl | hy
      · omega
      · obtain ⟨xs, ⟨l1, l2, e0, f1, f2⟩, g2, g3⟩ := fold_first b0 L A (fun z hz => h0 z (List.mem_cons_of_mem _ hz)) (fun z hz => h1 z (List.mem_cons_of_mem _ hz)) ⟨ys, hy, h3⟩
        refine ⟨xs, ⟨y :: l1, l2, by rw [e0]; rfl, fun z hz => ?_, f2⟩, g2, g3⟩
        rcases List.mem_cons.mp hz with rfl | hz
        · omega
        · exact f1 z hz
