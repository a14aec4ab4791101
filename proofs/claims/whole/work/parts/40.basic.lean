theorem up_k {I : HI} {k j k' : Nat} {x : Int} (h : k' ≠ k) : up I k j x k' = I k' := by
  funext b
  simp [up, h]
theorem up_j {I : HI} {k j j' : Nat} {x : Int} (h : j' ≠ j) : up I k j x k j' = I k j' := by simp [up, h]
theorem PI_i {K : Int → HI → Prop} {x : Int} {I : HI} (h : K x I) : PI K (some (vI x)) (mk I) := ⟨x, I, rfl, rfl, h⟩
theorem PL_i {K : Int → HI → Prop} {x : Int} {I : HI} (h : K x I) : PL K (some (vL x)) (mk I) := ⟨x, I, rfl, rfl, h⟩
theorem PV_i {K : HI → Prop} {I : HI} (h : K I) : PV K none (mk I) := ⟨I, rfl, rfl, h⟩
theorem PR_i {K : Nat → Nat → HI → Prop} {x n : Nat} {I : HI} (ht : TR x n) (h : K x n I) : PR K (some (vR x)) (mk I) := ⟨x, n, I, rfl, rfl, ht, h⟩
theorem c11_isIn {d : Nat} {I : HI} {v lo hi : Int} {K : Int → HI → Prop} (h1 : lo ≤ v → v ≤ hi → K 1 I) (h0 : (v < lo ∨ hi < v) → K 0 I) : CI mX11_isIn (d + 1) [vL v, vL lo, vL hi] I K :=
  bk_X11_isIn_0 ⟨fun c => PI_i (h0 (Or.inl c)), fun c => ⟨fun c2 => PI_i (h0 (Or.inr c2)), fun c2 => PI_i (h1 (by omega) (by omega))⟩⟩
theorem c11_corners {d : Nat} {I : HI} {K : Int → HI → Prop} (h : K (I 518 5) I) : CI mX11_corners (d + 1) [vR 489] I K := bk_X11_corners_0 (PI_i h)
theorem c11_saintMany {d : Nat} {I : HI} {K : Int → HI → Prop} (h : K (I 518 6) I) : CI mX11_saintMany (d + 1) [vR 489] I K := bk_X11_saintMany_0 (PI_i h)
theorem c11_laneMany {d : Nat} {I : HI} {K : Int → HI → Prop} (h : K (I 518 7) I) : CI mX11_laneMany (d + 1) [vR 489] I K := bk_X11_laneMany_0 (PI_i h)
theorem c11_exceptions {d : Nat} {I : HI} {K : Int → HI → Prop} (h : K (I 518 9) I) : CI mX11_exceptions (d + 1) [vR 489] I K := bk_X11_exceptions_0 (PI_i h)
theorem c11_isSaint {d : Nat} {I : HI} {a : Int} {K : Int → HI → Prop} (hb : 0 ≤ I 518 6 ∧ I 518 6 ≤ 4) (h1 : 0 ≤ a → a < I 518 6 → K 1 I) (h0 : (a < 0 ∨ I 518 6 ≤ a) → K 0 I) : CI mX11_isSaint (d + 2) [vR 489, vI a] I K :=
  bk_X11_isSaint_0 (c11_saintMany ⟨by omega, c11_isIn (fun g1 g2 => ⟨Or.inr rfl, PI_i (h1 g1 (by omega))⟩) (fun g => ⟨Or.inl rfl, PI_i (h0 (by omega))⟩)⟩)
theorem c11_isCorner {d : Nat} {I : HI} {a : Int} {K : Int → HI → Prop} (hb : 0 ≤ I 518 5 ∧ I 518 5 ≤ 10) (h1 : 0 ≤ a → a < I 518 5 → K 1 I) (h0 : (a < 0 ∨ I 518 5 ≤ a) → K 0 I) : CI mX11_isCorner (d + 2) [vR 489, vI a] I K :=
  bk_X11_isCorner_0 (c11_corners ⟨by omega, c11_isIn (fun g1 g2 => ⟨Or.inr rfl, PI_i (h1 g1 (by omega))⟩) (fun g => ⟨Or.inl rfl, PI_i (h0 (by omega))⟩)⟩)
theorem c11_isLane {d : Nat} {I : HI} {a : Int} {K : Int → HI → Prop} (hb : 0 ≤ I 518 7 ∧ I 518 7 ≤ 16) (h1 : 0 ≤ a → a < I 518 7 → K 1 I) (h0 : (a < 0 ∨ I 518 7 ≤ a) → K 0 I) : CI mX11_isLane (d + 2) [vR 489, vI a] I K :=
  bk_X11_isLane_0 (c11_laneMany ⟨by omega, c11_isIn (fun g1 g2 => ⟨Or.inr rfl, PI_i (h1 g1 (by omega))⟩) (fun g => ⟨Or.inl rfl, PI_i (h0 (by omega))⟩)⟩)
theorem c10_isSaint {d : Nat} {I : HI} {a : Int} {K : Int → HI → Prop} (h1 : 0 ≤ a → a < I 2 2 → K 1 I) (h0 : (a < 0 ∨ I 2 2 ≤ a) → K 0 I) : CI mX10_isSaint (d + 1) [vR 0, vI a] I K :=
  bk_X10_isSaint_0 ⟨fun c => PI_i (h0 (Or.inl c)), fun c => ⟨fun c2 => PI_i (h0 (Or.inr c2)), fun c2 => PI_i (h1 (by omega) (by omega))⟩⟩
theorem c10_isCorner {d : Nat} {I : HI} {a : Int} {K : Int → HI → Prop} (h1 : 0 ≤ a → a < I 2 0 → K 1 I) (h0 : (a < 0 ∨ I 2 0 ≤ a) → K 0 I) : CI mX10_isCorner (d + 1) [vR 0, vI a] I K :=
  bk_X10_isCorner_0 ⟨fun c => PI_i (h0 (Or.inl c)), fun c => ⟨fun c2 => PI_i (h0 (Or.inr c2)), fun c2 => PI_i (h1 (by omega) (by omega))⟩⟩
theorem c10_isLane {d : Nat} {I : HI} {a : Int} {K : Int → HI → Prop} (h1 : 0 ≤ a → a < I 2 1 → K 1 I) (h0 : (a < 0 ∨ I 2 1 ≤ a) → K 0 I) : CI mX10_isLane (d + 1) [vR 0, vI a] I K :=
  bk_X10_isLane_0 ⟨fun c => PI_i (h0 (Or.inl c)), fun c => ⟨fun c2 => PI_i (h0 (Or.inr c2)), fun c2 => PI_i (h1 (by omega) (by omega))⟩⟩
theorem c10_isMinute {d : Nat} {I : HI} {a : Int} {K : Int → HI → Prop} (h1 : 0 ≤ a → a ≤ 999 → K 1 I) (h0 : (a < 0 ∨ 999 < a) → K 0 I) : CI mX10_isMinute (d + 1) [vR 0, vI a] I K :=
  bk_X10_isMinute_0 ⟨fun c => PI_i (h0 (Or.inl c)), fun c => ⟨fun c2 => PI_i (h0 (Or.inr c2)), fun c2 => PI_i (h1 (by omega) (by omega))⟩⟩
theorem c10_end {d : Nat} {I : HI} {a : Int} {K : Int → HI → Prop} (h0 : (a < 0 ∨ I 0 12 < a) → K 0 I) (h1 : 0 ≤ a → a ≤ I 0 12 → K 1 (up I 0 12 a)) : CI mX10_end (d + 1) [vR 0, vI a] I K :=
  bk_X10_end_0 ⟨fun c => PI_i (h0 (Or.inl c)), fun c => ⟨fun c2 I1 e => by subst e; exact PI_i (h1 (by omega) c2), fun c2 => PI_i (h0 (by omega))⟩⟩
theorem c11_end {d : Nat} {I : HI} {a : Int} {K : Int → HI → Prop} (h0 : (a < 0 ∨ I 489 1 < a) → K 0 I) (h1 : 0 ≤ a → a ≤ I 489 1 → K 1 (up I 489 1 a)) : CI mX11_end (d + 1) [vR 489, vI a] I K :=
  bk_X11_end_0 ⟨fun c => PI_i (h0 (Or.inl c)), fun c => ⟨fun c2 I1 e => by subst e; exact PI_i (h1 (by omega) c2), fun c2 => PI_i (h0 (by omega))⟩⟩
def RTape (n1 : Int) (t1 : Nat → Int) (n2 : Int) (t2 : Nat → Int) : Prop := n1 = n2 ∧ 0 ≤ n1 ∧ n1 ≤ 1600 ∧ ∀ j : Nat, (j : Int) < n1 → t1 j = t2 j ∧ 0 ≤ t1 j ∧ t1 j ≤ 255
theorem op_end {d : Nat} {I : HI} {a : Int} {K : Int → Int → HI → Prop} (ht : RTape (I 0 12) (I 27) (I 489 1) (I 490)) (h0 : K 0 0 I) (h1 : 0 ≤ a → a ≤ I 0 12 → K 1 1 (up (up I 0 12 a) 489 1 a)) : CI mX10_end (d + 1) [vR 0, vI a] I (fun x1 I1 => CI mX11_end (d + 1) [vR 489, vI a] I1 (fun x2 I2 => K x1 x2 I2)) := by
  have e := ht.1
  refine c10_end (fun c => c11_end (fun c2 => h0) (fun g1 g2 => by omega)) (fun g1 g2 => c11_end (fun c2 => ?_) (fun q1 q2 => h1 g1 g2))
  rw [up_k (by decide)] at c2
  omega
theorem c10_fault {d : Nat} {I : HI} {a : Int} {K : Int → HI → Prop} (h : K (if a = 0 then I 0 14 else if a = 1 then I 0 15 else -1) I) : CI mX10_fault (d + 1) [vR 0, vI a] I K := by
  refine bk_X10_fault_0 ⟨fun c => PI_i ?_, fun c => PI_i ?_, fun c => PI_i ?_⟩
  · simpa [c] using h
  · simpa [c] using h
  · simpa [c.1, c.2] using h
theorem c11_fault {d : Nat} {I : HI} {a : Int} {K : Int → HI → Prop} (h : K (if a = 0 then I 489 7 else if a = 1 then I 489 8 else -1) I) : CI mX11_fault (d + 1) [vR 489, vI a] I K := by
  refine bk_X11_fault_0 ⟨fun c => ?_, fun c => ?_⟩
  · refine ⟨fun c2 => PI_i ?_, fun c2 => PI_i ?_⟩ <;> simpa [c, c2] using h
  · exact PI_i (by simpa [c] using h)
