/-- what a choice leaves: petals, lanes gone by, out or not -/
abbrev Chd : Type := Int × Int × Int
def pin (p : Int) : Prop := 0 ≤ p ∧ p < 65536
def sbs (lim p : Int) : Prop := oA p (oX lim (-1)) = 0
def sD (F : Int → Int) : List Chd → Int
  | [] => 0
  | x :: D => F x.1 + sD F D
def sH (F : Int → Int) (L S : Nat → Int) (b : Nat) : Nat → Int
  | 0 => 0
  | k + 1 => sH F L S b k + S (b + k) * F (L (b + k))
def HPI (lim : Int) (L S G O : Nat → Int) (b k : Nat) (D : List Chd) : Prop := (∀ F : Int → Int, (∀ p, pin p → ¬ sbs lim p → F p = 0) → sD F D = sH F L S b k) ∧ (∀ Q : Int → Prop, (∀ p, pin p → Q p → sbs lim p) → (∀ l : Int, (∀ x ∈ D, Q x.1 → bit x.2.1 l = true) ↔ ∀ i, i < k → Q (L (b + i)) → bit (G (b + i)) l = true) ∧ ((∃ x ∈ D, Q x.1 ∧ x.2.2 = 1) ↔ ∃ i, i < k ∧ Q (L (b + i)) ∧ O (b + i) = 1) ∧ ((∃ x ∈ D, Q x.1) ↔ ∃ i, i < k ∧ Q (L (b + i)))) ∧ (k ≤ D.length ∧ ∀ i, i < k → (1 ≤ S (b + i) ∧ S (b + i) ≤ D.length) ∧ pin (G (b + i)) ∧ pin (L (b + i)) ∧ (O (b + i) = 0 ∨ O (b + i) = 1))
theorem sD_app {F : Int → Int} {x : Chd} : ∀ D : List Chd, sD F (D ++ [x]) = sD F D + F x.1
  | [] => by
    show F x.1 + 0 = 0 + F x.1
    omega
  | y :: D => by
    show F y.1 + sD F (D ++ [x]) = F y.1 + sD F D + F x.1
    rw [sD_app D]
    omega
theorem sD_congr {F F' : Int → Int} : ∀ D : List Chd, (∀ x ∈ D, F x.1 = F' x.1) → sD F D = sD F' D
  | [], _ => rfl
  | y :: D, h => by
    show F y.1 + sD F D = F' y.1 + sD F' D
    rw [h y List.mem_cons_self, sD_congr D (fun x hx => h x (List.mem_cons_of_mem _ hx))]
theorem sD_0 {F : Int → Int} : ∀ D : List Chd, (∀ x ∈ D, F x.1 = 0) → sD F D = 0
  | [], _ => rfl
  | y :: D, h => by
    show F y.1 + sD F D = 0
    rw [h y List.mem_cons_self, sD_0 D (fun x hx => h x (List.mem_cons_of_mem _ hx))]
    rfl
theorem sD_le {F : Int → Int} {M : Int} : ∀ D : List Chd, (∀ x ∈ D, 0 ≤ F x.1 ∧ F x.1 ≤ M) → 0 ≤ sD F D ∧ sD F D ≤ M * D.length
  | [], _ => by
    show (0 : Int) ≤ 0 ∧ (0 : Int) ≤ M * ((0 : Nat) : Int)
    rw [Int.natCast_zero, Int.mul_zero]
    omega
  | y :: D, h => by
    have a := h y List.mem_cons_self
    have b := sD_le D (fun x hx => h x (List.mem_cons_of_mem _ hx))
    show 0 ≤ F y.1 + sD F D ∧ F y.1 + sD F D ≤ M * ((D.length + 1 : Nat) : Int)
    rw [Int.natCast_add, Int.mul_add, Int.natCast_one, Int.mul_one]
    omega
theorem sH_congr {F F' : Int → Int} {L S : Nat → Int} {b : Nat} : ∀ k, (∀ i, i < k → F (L (b + i)) = F' (L (b + i))) → sH F L S b k = sH F' L S b k
  | 0, _ => rfl
  | k + 1, h => by
    show sH F L S b k + S (b + k) * F (L (b + k)) = sH F' L S b k + S (b + k) * F' (L (b + k))
    rw [sH_congr k (fun i hi => h i (by omega)), h k (by omega)]
theorem sH_ar {F : Int → Int} {L S L' S' : Nat → Int} {b b' : Nat} : ∀ k, (∀ i, i < k → L' (b' + i) = L (b + i) ∧ S' (b' + i) = S (b + i)) → sH F L' S' b' k = sH F L S b k
  | 0, _ => rfl
  | k + 1, h => by
    show sH F L' S' b' k + S' (b' + k) * F (L' (b' + k)) = sH F L S b k + S (b + k) * F (L (b + k))
    rw [sH_ar k (fun i hi => h i (by omega)), (h k (by omega)).1, (h k (by omega)).2]
theorem sH_up {F : Int → Int} {L S S' : Nat → Int} {b i0 : Nat} : ∀ k, (∀ i, i < k → i ≠ i0 → S' (b + i) = S (b + i)) → (i0 < k → S' (b + i0) = S (b + i0) + 1) → sH F L S' b k = sH F L S b k + (if i0 < k then F (L (b + i0)) else 0)
  | 0, _, _ => by
    rw [if_neg (by omega)]
    rfl
  | k + 1, h1, h2 => by
    show sH F L S' b k + S' (b + k) * F (L (b + k)) = sH F L S b k + S (b + k) * F (L (b + k)) + _
    rw [sH_up k (fun i hi => h1 i (by omega)) (fun hi => h2 (by omega))]
    by_cases e : i0 = k
    · subst e
      rw [if_neg (by omega), if_pos (by omega), h2 (by omega), Int.add_mul, Int.one_mul]
      omega
    · rw [h1 k (by omega) (by omega)]
      by_cases w : i0 < k
      · rw [if_pos w, if_pos (by omega)]
        omega
      · rw [if_neg w, if_neg (by omega)]
        omega
theorem sH_0 {F : Int → Int} {L S : Nat → Int} {b : Nat} : ∀ k, (∀ i, i < k → F (L (b + i)) = 0) → sH F L S b k = 0
  | 0, _ => rfl
  | k + 1, h => by
    show sH F L S b k + S (b + k) * F (L (b + k)) = 0
    rw [sH_0 k (fun i hi => h i (by omega)), h k (by omega), Int.mul_zero]
    rfl
theorem sH_mono {F : Int → Int} {L S : Nat → Int} {b : Nat} : ∀ (m k : Nat), (∀ i, i < k + m → 0 ≤ S (b + i) ∧ 0 ≤ F (L (b + i))) → sH F L S b k ≤ sH F L S b (k + m)
  | 0, k, _ => Int.le_refl _
  | m + 1, k, h => by
    have a := sH_mono m k (fun i hi => h i (by omega))
    have c := h (k + m) (by omega)
    have : 0 ≤ S (b + (k + m)) * F (L (b + (k + m))) := Int.mul_nonneg c.1 c.2
    show sH F L S b k ≤ sH F L S b (k + m) + S (b + (k + m)) * F (L (b + (k + m)))
    omega
theorem HPI_nil {lim : Int} {L S G O : Nat → Int} {b : Nat} : HPI lim L S G O b 0 [] := by
  refine ⟨fun F _ => rfl, fun Q _ => ⟨fun l => ⟨fun _ i hi => by omega, fun _ x hx => by cases hx⟩, ⟨fun ⟨x, hx, _⟩ => (by cases hx), fun ⟨i, hi, _⟩ => by omega⟩, ⟨fun ⟨x, hx, _⟩ => (by cases hx), fun ⟨i, hi, _⟩ => by omega⟩⟩, Nat.le_refl _, fun i hi => by omega⟩
theorem HPI_skip {lim : Int} {L S G O : Nat → Int} {b k : Nat} {D : List Chd} {x : Chd} (h : HPI lim L S G O b k D) (px : pin x.1) (nx : ¬ sbs lim x.1) : HPI lim L S G O b k (D ++ [x]) := by
  obtain ⟨h1, h2, h3, h4⟩ := h
  have len : (D ++ [x]).length = D.length + 1 := by simp
  refine ⟨fun F hF => ?_, fun Q hQ => ?_, by omega, fun i hi => ?_⟩
  · rw [sD_app, hF x.1 px nx, h1 F hF]
    omega
  · obtain ⟨g1, g2, g3⟩ := h2 Q hQ
    have nQ : ¬ Q x.1 := fun w => nx (hQ x.1 px w)
    refine ⟨fun l => ?_, ?_, ?_⟩
    · rw [← g1 l]
      simp only [List.mem_append, List.mem_singleton]
      exact ⟨fun w y hy => w y (Or.inl hy), fun w y hy hq => hy.elim (fun u => w y u hq) (fun u => absurd (u ▸ hq) nQ)⟩
    · rw [← g2]
      simp only [List.mem_append, List.mem_singleton]
      exact ⟨fun ⟨y, hy, hq⟩ => hy.elim (fun u => ⟨y, u, hq⟩) (fun u => absurd (u ▸ hq.1) nQ), fun ⟨y, hy, hq⟩ => ⟨y, Or.inl hy, hq⟩⟩
    · rw [← g3]
      simp only [List.mem_append, List.mem_singleton]
      exact ⟨fun ⟨y, hy, hq⟩ => hy.elim (fun u => ⟨y, u, hq⟩) (fun u => absurd (u ▸ hq) nQ), fun ⟨y, hy, hq⟩ => ⟨y, Or.inl hy, hq⟩⟩
  · obtain ⟨a, c⟩ := h4 i hi
    exact ⟨by omega, c⟩
theorem oO_o {o x : Int} (ho : o = 0 ∨ o = 1) (hx : x = 0 ∨ x = 1) : (oO o x = 0 ∨ oO o x = 1) ∧ (oO o x = 1 ↔ o = 1 ∨ x = 1) := by
  rcases ho with rfl | rfl <;> rcases hx with rfl | rfl <;> decide +kernel
theorem oA_pin {x y : Int} (hx : pin x) (hy : pin y) : pin (oA x y) := by
  obtain ⟨a, rfl⟩ := Int.eq_ofNat_of_zero_le hx.1
  obtain ⟨b, rfl⟩ := Int.eq_ofNat_of_zero_le hy.1
  have h1 := hx.2
  have h2 := hy.2
  rw [oA_nat a b (by omega) (by omega)]
  have : a &&& b ≤ a := Nat.and_le_left
  exact ⟨by omega, by omega⟩
theorem HPI_old {lim : Int} {L S G O S' G' O' : Nat → Int} {b k i0 : Nat} {D : List Chd} {x : Chd} (h : HPI lim L S G O b k D) (i1 : i0 < k) (eL : L (b + i0) = x.1) (pg : pin x.2.1) (po : x.2.2 = 0 ∨ x.2.2 = 1) (hS : S' (b + i0) = S (b + i0) + 1) (hG : G' (b + i0) = oA (G (b + i0)) x.2.1) (hO : O' (b + i0) = oO (O (b + i0)) x.2.2) (hs : ∀ i, i < k → i ≠ i0 → S' (b + i) = S (b + i) ∧ G' (b + i) = G (b + i) ∧ O' (b + i) = O (b + i)) : HPI lim L S' G' O' b k (D ++ [x]) := by
  obtain ⟨h1, h2, h3, h4⟩ := h
  have len : (D ++ [x]).length = D.length + 1 := by simp
  have q0 := h4 i0 i1
  refine ⟨fun F hF => ?_, fun Q hQ => ?_, by omega, fun i hi => ?_⟩
  · rw [sD_app, h1 F hF, sH_up (S := S) (S' := S') (i0 := i0) k (fun i hi ne => (hs i hi ne).1) (fun _ => hS), if_pos i1, eL]
  · obtain ⟨g1, g2, g3⟩ := h2 Q hQ
    refine ⟨fun l => ?_, ?_, ?_⟩
    · have bg : bit (G' (b + i0)) l = (bit (G (b + i0)) l && bit x.2.1 l) := by
        rw [hG]
        have := q0.2.1
        unfold pin at this pg
        exact bit_and (by omega) (by omega) (by omega) (by omega)
      simp only [List.mem_append, List.mem_singleton]
      constructor
      · intro w i hi hq
        have gi := (g1 l).mp (fun y hy => w y (Or.inl hy)) i hi hq
        by_cases e : i = i0
        · subst e
          rw [bg, gi, w x (Or.inr rfl) (by rw [← eL]; exact hq)]
          rfl
        · rw [(hs i hi e).2.1]
          exact gi
      · intro w y hy hq
        rcases hy with u | u
        · refine (g1 l).mpr (fun i hi hqi => ?_) y u hq
          have := w i hi hqi
          by_cases e : i = i0
          · subst e
            rw [bg, Bool.and_eq_true] at this
            exact this.1
          · rw [(hs i hi e).2.1] at this
            exact this
        · subst u
          have := w i0 i1 (by rw [eL]; exact hq)
          rw [bg, Bool.and_eq_true] at this
          exact this.2
    · have oo := oO_o q0.2.2.2 po
      simp only [List.mem_append, List.mem_singleton]
      constructor
      · rintro ⟨y, hy, hq⟩
        rcases hy with u | u
        · obtain ⟨i, hi, hq1, hq2⟩ := g2.mp ⟨y, u, hq⟩
          by_cases e : i = i0
          · subst e
            exact ⟨i, hi, hq1, by rw [hO]; exact oo.2.mpr (Or.inl hq2)⟩
          · exact ⟨i, hi, hq1, by rw [(hs i hi e).2.2]; exact hq2⟩
        · subst u
          exact ⟨i0, i1, by rw [eL]; exact hq.1, by rw [hO]; exact oo.2.mpr (Or.inr hq.2)⟩
      · rintro ⟨i, hi, hq1, hq2⟩
        by_cases e : i = i0
        · subst e
          rw [hO] at hq2
          rcases oo.2.mp hq2 with u | u
          · obtain ⟨y, hy, hq⟩ := g2.mpr ⟨i, hi, hq1, u⟩
            exact ⟨y, Or.inl hy, hq⟩
          · exact ⟨x, Or.inr rfl, by rw [← eL]; exact hq1, u⟩
        · rw [(hs i hi e).2.2] at hq2
          obtain ⟨y, hy, hq⟩ := g2.mpr ⟨i, hi, hq1, hq2⟩
          exact ⟨y, Or.inl hy, hq⟩
    · rw [← g3]
      simp only [List.mem_append, List.mem_singleton]
      constructor
      · rintro ⟨y, hy, hq⟩
        rcases hy with u | u
        · exact ⟨y, u, hq⟩
        · subst u
          exact g3.mpr ⟨i0, i1, by rw [eL]; exact hq⟩
      · rintro ⟨y, hy, hq⟩
        exact ⟨y, Or.inl hy, hq⟩
  · obtain ⟨a, c1, c2, c3⟩ := h4 i hi
    by_cases e : i = i0
    · subst e
      rw [hS, hG, hO]
      exact ⟨by omega, oA_pin c1 pg, c2, (oO_o c3 po).1⟩
    · obtain ⟨u1, u2, u3⟩ := hs i hi e
      rw [u1, u2, u3]
      exact ⟨by omega, c1, c2, c3⟩
theorem HPI_new {lim : Int} {L S G O L' S' G' O' : Nat → Int} {b k : Nat} {D : List Chd} {x : Chd} (h : HPI lim L S G O b k D) (pl : pin x.1) (pg : pin x.2.1) (po : x.2.2 = 0 ∨ x.2.2 = 1) (hL : L' (b + k) = x.1) (hS : S' (b + k) = 1) (hG : G' (b + k) = x.2.1) (hO : O' (b + k) = x.2.2) (hs : ∀ i, i < k → L' (b + i) = L (b + i) ∧ S' (b + i) = S (b + i) ∧ G' (b + i) = G (b + i) ∧ O' (b + i) = O (b + i)) : HPI lim L' S' G' O' b (k + 1) (D ++ [x]) := by
  obtain ⟨h1, h2, h3, h4⟩ := h
  have len : (D ++ [x]).length = D.length + 1 := by simp
  refine ⟨fun F hF => ?_, fun Q hQ => ?_, by omega, fun i hi => ?_⟩
  · show _ = sH F L' S' b k + S' (b + k) * F (L' (b + k))
    rw [sD_app, h1 F hF, hS, hL, Int.one_mul, sH_ar (L := L) (S := S) (b := b) k (fun i hi => ⟨(hs i hi).1, (hs i hi).2.1⟩)]
  · obtain ⟨g1, g2, g3⟩ := h2 Q hQ
    refine ⟨fun l => ?_, ?_, ?_⟩
    · simp only [List.mem_append, List.mem_singleton]
      constructor
      · intro w i hi hq
        by_cases e : i = k
        · subst e
          rw [hG]
          exact w x (Or.inr rfl) (by rw [← hL]; exact hq)
        · obtain ⟨u1, u2, u3, u4⟩ := hs i (by omega)
          rw [u3]
          rw [u1] at hq
          exact (g1 l).mp (fun y hy => w y (Or.inl hy)) i (by omega) hq
      · intro w y hy hq
        rcases hy with u | u
        · refine (g1 l).mpr (fun i hi hqi => ?_) y u hq
          obtain ⟨u1, u2, u3, u4⟩ := hs i hi
          have := w i (by omega) (by rw [u1]; exact hqi)
          rw [u3] at this
          exact this
        · subst u
          have := w k (by omega) (by rw [hL]; exact hq)
          rw [hG] at this
          exact this
    · simp only [List.mem_append, List.mem_singleton]
      constructor
      · rintro ⟨y, hy, hq⟩
        rcases hy with u | u
        · obtain ⟨i, hi, hq1, hq2⟩ := g2.mp ⟨y, u, hq⟩
          obtain ⟨u1, u2, u3, u4⟩ := hs i hi
          exact ⟨i, by omega, by rw [u1]; exact hq1, by rw [u4]; exact hq2⟩
        · subst u
          exact ⟨k, by omega, by rw [hL]; exact hq.1, by rw [hO]; exact hq.2⟩
      · rintro ⟨i, hi, hq1, hq2⟩
        by_cases e : i = k
        · subst e
          exact ⟨x, Or.inr rfl, by rw [← hL]; exact hq1, by rw [← hO]; exact hq2⟩
        · obtain ⟨u1, u2, u3, u4⟩ := hs i (by omega)
          rw [u1] at hq1
          rw [u4] at hq2
          obtain ⟨y, hy, hq⟩ := g2.mpr ⟨i, by omega, hq1, hq2⟩
          exact ⟨y, Or.inl hy, hq⟩
    · simp only [List.mem_append, List.mem_singleton]
      constructor
      · rintro ⟨y, hy, hq⟩
        rcases hy with u | u
        · obtain ⟨i, hi, hq1⟩ := g3.mp ⟨y, u, hq⟩
          exact ⟨i, by omega, by rw [(hs i hi).1]; exact hq1⟩
        · subst u
          exact ⟨k, by omega, by rw [hL]; exact hq⟩
      · rintro ⟨i, hi, hq1⟩
        by_cases e : i = k
        · subst e
          exact ⟨x, Or.inr rfl, by rw [← hL]; exact hq1⟩
        · rw [(hs i (by omega)).1] at hq1
          obtain ⟨y, hy, hq⟩ := g3.mpr ⟨i, by omega, hq1⟩
          exact ⟨y, Or.inl hy, hq⟩
  · by_cases e : i = k
    · subst e
      rw [hS, hG, hO, hL]
      exact ⟨by omega, pg, pl, po⟩
    · obtain ⟨a, c1, c2, c3⟩ := h4 i (by omega)
      obtain ⟨u1, u2, u3, u4⟩ := hs i (by omega)
      rw [u1, u2, u3, u4]
      exact ⟨by omega, c1, c2, c3⟩
