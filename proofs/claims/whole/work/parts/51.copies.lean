/-- three rows copied side by side -/
def cp3 (I : HI) (s0 s1 s2 so d0 d1 d2 o n : Nat) : HI := fun a j => if a = d0 ∧ o ≤ j ∧ j < o + n then I s0 (so + (j - o)) else if a = d1 ∧ o ≤ j ∧ j < o + n then I s1 (so + (j - o)) else if a = d2 ∧ o ≤ j ∧ j < o + n then I s2 (so + (j - o)) else I a j
theorem cp3_0 (I : HI) (s0 s1 s2 so d0 d1 d2 o : Nat) : cp3 I s0 s1 s2 so d0 d1 d2 o 0 = I := by
  funext a j
  unfold cp3
  rw [if_neg (by omega), if_neg (by omega), if_neg (by omega)]
theorem cp3_f {I : HI} {s0 s1 s2 so d0 d1 d2 o n a : Nat} (h0 : a ≠ d0) (h1 : a ≠ d1) (h2 : a ≠ d2) : cp3 I s0 s1 s2 so d0 d1 d2 o n a = I a := by
  funext j
  unfold cp3
  rw [if_neg (by omega), if_neg (by omega), if_neg (by omega)]
theorem cp3_o {I : HI} {s0 s1 s2 so d0 d1 d2 o n a j : Nat} (h : j < o ∨ o + n ≤ j) : cp3 I s0 s1 s2 so d0 d1 d2 o n a j = I a j := by
  unfold cp3
  rw [if_neg (by omega), if_neg (by omega), if_neg (by omega)]
theorem cp3_a {I : HI} {s0 s1 s2 so d0 d1 d2 o n j : Nat} (h0 : o ≤ j) (h1 : j < o + n) : cp3 I s0 s1 s2 so d0 d1 d2 o n d0 j = I s0 (so + (j - o)) := by
  unfold cp3
  rw [if_pos ⟨rfl, h0, h1⟩]
theorem cp3_b {I : HI} {s0 s1 s2 so d0 d1 d2 o n j : Nat} (h : d1 ≠ d0) (h0 : o ≤ j) (h1 : j < o + n) : cp3 I s0 s1 s2 so d0 d1 d2 o n d1 j = I s1 (so + (j - o)) := by
  unfold cp3
  rw [if_neg (fun q => h q.1), if_pos ⟨rfl, h0, h1⟩]
theorem cp3_c {I : HI} {s0 s1 s2 so d0 d1 d2 o n j : Nat} (h : d2 ≠ d0) (h' : d2 ≠ d1) (h0 : o ≤ j) (h1 : j < o + n) : cp3 I s0 s1 s2 so d0 d1 d2 o n d2 j = I s2 (so + (j - o)) := by
  unfold cp3
  rw [if_neg (fun q => h q.1), if_neg (fun q => h' q.1), if_pos ⟨rfl, h0, h1⟩]
theorem cp3_s {I : HI} {s0 s1 s2 so d0 d1 d2 o k : Nat} (h1 : d1 ≠ d0) (h2 : d2 ≠ d0) (h3 : d2 ≠ d1) : up (up (up (cp3 I s0 s1 s2 so d0 d1 d2 o k) d0 (o + k) (I s0 (so + k))) d1 (o + k) (I s1 (so + k))) d2 (o + k) (I s2 (so + k)) = cp3 I s0 s1 s2 so d0 d1 d2 o (k + 1) := by
  funext a j
  by_cases hj : j = o + k
  · subst hj
    have e : so + (o + k - o) = so + k := by omega
    have q : o ≤ o + k ∧ o + k < o + (k + 1) := by omega
    simp only [up, cp3, e, and_true]
    by_cases g2 : a = d2
    · subst g2
      rw [if_pos rfl, if_neg (fun q => h2 q.1), if_neg (fun q => h3 q.1), if_pos ⟨rfl, q⟩]
    · rw [if_neg g2]
      by_cases g1 : a = d1
      · subst g1
        rw [if_pos rfl, if_neg (fun q => h1 q.1), if_pos ⟨rfl, q⟩]
      · rw [if_neg g1]
        by_cases g0 : a = d0
        · subst g0
          rw [if_pos rfl, if_pos ⟨rfl, q⟩]
        · rw [if_neg g0, if_neg (fun q => g0 q.1), if_neg (fun q => g1 q.1), if_neg (fun q => g2 q.1), if_neg (fun q => g0 q.1), if_neg (fun q => g1 q.1), if_neg (fun q => g2 q.1)]
  · have e1 : ∀ (X : HI) (u : Nat) (x : Int), up X u (o + k) x a j = X a j := fun X u x => by
      unfold up
      rw [if_neg (fun q => hj q.2)]
    rw [e1, e1, e1]
    have e2 : (o ≤ j ∧ j < o + (k + 1)) ↔ (o ≤ j ∧ j < o + k) := by omega
    simp only [cp3, e2]
theorem cp1_0 (I : HI) (k0 so k1 o : Nat) : cpI I k0 so k1 o 0 = I := by
  funext a j
  unfold cpI
  rw [if_neg (by omega)]
theorem cp1_s {I : HI} {k0 so k1 o k : Nat} : up (cpI I k0 so k1 o k) k1 (o + k) (I k0 (so + k)) = cpI I k0 so k1 o (k + 1) := by
  funext a j
  by_cases hj : j = o + k
  · subst hj
    have e : so + (o + k - o) = so + k := by omega
    have q : o ≤ o + k ∧ o + k < o + (k + 1) := by omega
    simp only [up, cpI, e, and_true]
    by_cases g1 : a = k1
    · subst g1
      rw [if_pos rfl, if_pos ⟨rfl, q⟩]
    · rw [if_neg g1, if_neg (fun q => g1 q.1), if_neg (fun q => g1 q.1)]
  · have e1 : ∀ (X : HI) (u : Nat) (x : Int), up X u (o + k) x a j = X a j := fun X u x => by
      unfold up
      rw [if_neg (fun q => hj q.2)]
    rw [e1]
    have e2 : (o ≤ j ∧ j < o + (k + 1)) ↔ (o ≤ j ∧ j < o + k) := by omega
    simp only [cpI, e2]
theorem cpI_f {I : HI} {k0 so k1 o n a : Nat} (h : a ≠ k1) : cpI I k0 so k1 o n a = I a := by
  funext j
  unfold cpI
  rw [if_neg (fun q => h q.1)]
theorem cpI_i {I : HI} {k0 so k1 o n j : Nat} (h0 : o ≤ j) (h1 : j < o + n) : cpI I k0 so k1 o n k1 j = I k0 (so + (j - o)) := by
  unfold cpI
  rw [if_pos ⟨rfl, h0, h1⟩]
theorem cpI_o {I : HI} {k0 so k1 o n a j : Nat} (h : j < o ∨ o + n ≤ j) : cpI I k0 so k1 o n a j = I a j := by
  unfold cpI
  rw [if_neg (by omega)]
/-- the model's ways set aside -/
def rmb (I : HI) : HI := cp3 (cpI I 532 0 542 0 4) 533 534 535 0 543 544 545 0 96
/-- the place in the model's past for the next one kept -/
def nxN (I : HI) : Nat := ((I 489 72 + 1) % 20).toNat
def ka1 (I : HI) : HI := cp3 (cpI (up I 489 72 ((I 489 72 + 1) % 20)) 542 0 536 (4 * nxN I) 4) 543 544 545 0 537 538 539 (96 * nxN I) 96
def ka2 (I : HI) : HI := up (up (ka1 I) 540 (nxN I) (I 489 63)) 541 (nxN I) (I 489 64)
def kas (I : HI) : HI := if 20 ≤ I 489 71 then ka2 I else up (ka2 I) 489 71 (I 489 71 + 1)
def und (I : HI) : HI :=
  up (up (up (up (cp3 (cpI I 536 (4 * (I 489 72).toNat) 532 0 4) 537 538 539 (96 * (I 489 72).toNat) 533 534 535 0 96) 489 63 (I 540 (I 489 72).toNat)) 489 64 (I 541 (I 489 72).toNat)) 489 72 ((I 489 72 + 19) % 20)) 489 71 (I 489 71 - 1)
section CP
variable {d : Nat} {I : HI} {K : HI → Prop} {KI : Int → HI → Prop}
theorem remembers_b : ∀ (n k : Nat), k + n = 96 → K (cp3 I 533 534 535 0 543 544 545 0 96) → J none mX11_remembers (d + 1) 0 0 27 [(0, vR 489), (1, vI (k : Int))] [] (mk (cp3 I 533 534 535 0 543 544 545 0 k)) (PV K)
  | 0, k, e, h => by
    have e2 : k = 96 := by omega
    subst e2
    refine bk_X11_remembers_27 ⟨fun _ => PV_i h, fun c => by omega⟩
  | n + 1, k, e, h => by
    refine bk_X11_remembers_27 ⟨fun c => by omega, fun _ => ⟨by omega, by omega, fun I1 e1 => ⟨by omega, by omega, fun I2 e2 => ⟨by omega, by omega, fun I3 e3 => ⟨by omega, ?_⟩⟩⟩⟩⟩
    have ih := remembers_b n (k + 1) (by omega) h
    rw [← cp3_s (by decide) (by decide) (by decide)] at ih
    subst e1 e2 e3
    rw [up_k (by decide), up_k (by decide), up_k (by decide), cp3_f (by decide) (by decide) (by decide), cp3_f (by decide) (by decide) (by decide), cp3_f (by decide) (by decide) (by decide)]
    simpa using ih
theorem remembers_a : ∀ (n k : Nat), k + n = 4 → K (rmb I) → J none mX11_remembers (d + 1) 0 0 2 [(0, vR 489), (1, vI (k : Int))] [] (mk (cpI I 532 0 542 0 k)) (PV K)
  | 0, k, e, h => by
    have e2 : k = 4 := by omega
    subst e2
    refine bk_X11_remembers_2 ⟨fun _ => ?_, fun c => by omega⟩
    have h5 := remembers_b (d := d) (I := cpI I 532 0 542 0 4) 96 0 rfl h
    rw [cp3_0] at h5
    exact h5
  | n + 1, k, e, h => by
    refine bk_X11_remembers_2 ⟨fun c => by omega, fun _ => ⟨by omega, by omega, fun I1 e1 => ⟨by omega, ?_⟩⟩⟩
    have ih := remembers_a n (k + 1) (by omega) h
    rw [← cp1_s] at ih
    subst e1
    rw [cpI_f (by decide)]
    simpa using ih
theorem c11_remembers (h : K (rmb I)) : CV mX11_remembers (d + 1) [vR 489] I K := by
  have h5 := remembers_a (d := d) 4 0 rfl h
  rw [cp1_0] at h5
  exact bk_X11_remembers_0 h5
theorem keepsAside_b {z : Nat} (hz : I 489 72 = z) (hz1 : z < 20) (h71 : 0 ≤ I 489 71) : ∀ (n k : Nat), k + n = 96 → K (let X := up (up (cp3 I 543 544 545 0 537 538 539 (96 * z) 96) 540 z (I 489 63)) 541 z (I 489 64); if 20 ≤ I 489 71 then X else up X 489 71 (I 489 71 + 1)) → J none mX11_keepsAside (d + 1) 0 0 47 [(0, vR 489), (1, vI (k : Int))] [] (mk (cp3 I 543 544 545 0 537 538 539 (96 * z) k)) (PV K)
  | 0, k, e, h => by
    have e2 : k = 96 := by omega
    subst e2
    refine bk_X11_keepsAside_47 ⟨fun _ => ?_, fun c => by omega⟩
    rw [cp3_f (by decide) (by decide) (by decide), hz]
    refine ⟨by omega, fun I1 e1 => ?_⟩
    subst e1
    rw [up_k (by decide), cp3_f (by decide) (by decide) (by decide), hz]
    refine ⟨by omega, fun I2 e2 => ?_⟩
    subst e2
    rw [up_k (by decide), up_k (by decide), cp3_f (by decide) (by decide) (by decide)]
    simp only [Int.toNat_natCast]
    refine ⟨fun c => PV_i ?_, fun c => ⟨by omega, fun I3 e3 => PV_i ?_⟩⟩
    · simpa only [if_pos c] using h
    · subst e3
      simpa only [if_neg c] using h
  | n + 1, k, e, h => by
    have ih := keepsAside_b hz hz1 h71 n (k + 1) (by omega) h
    rw [← cp3_s (by decide) (by decide) (by decide)] at ih
    have q : ∀ X : HI, X 489 = I 489 → X 489 72 = z := fun X g => by rw [g, hz]
    have q0 := q (cp3 I 543 544 545 0 537 538 539 (96 * z) k) (cp3_f (by decide) (by decide) (by decide))
    have t : ((96 * (z : Int)) + k).toNat = 96 * z + k := by omega
    have t2 : ((k : Int)).toNat = 0 + k := by omega
    refine bk_X11_keepsAside_47 ⟨fun c => by omega, fun _ => ?_⟩
    rw [q0, t, t2]
    refine ⟨by omega, by omega, by omega, by omega, fun I4 e4 => ?_⟩
    subst e4
    rw [up_k (by decide), q0, t]
    refine ⟨by omega, by omega, by omega, by omega, fun I5 e5 => ?_⟩
    subst e5
    rw [up_k (by decide), up_k (by decide), q0, t]
    refine ⟨by omega, by omega, by omega, by omega, fun I6 e6 => ⟨by omega, ?_⟩⟩
    subst e6
    rw [up_k (by decide), up_k (by decide), up_k (by decide), cp3_f (by decide) (by decide) (by decide), cp3_f (by decide) (by decide) (by decide), cp3_f (by decide) (by decide) (by decide)]
    simpa using ih
theorem keepsAside_a {z : Nat} (hz : I 489 72 = z) (hz1 : z < 20) (h71 : 0 ≤ I 489 71) : ∀ (n k : Nat), k + n = 4 → K (let X := up (up (cp3 (cpI I 542 0 536 (4 * z) 4) 543 544 545 0 537 538 539 (96 * z) 96) 540 z (I 489 63)) 541 z (I 489 64); if 20 ≤ I 489 71 then X else up X 489 71 (I 489 71 + 1)) → J none mX11_keepsAside (d + 1) 0 0 15 [(0, vR 489), (1, vI (k : Int))] [] (mk (cpI I 542 0 536 (4 * z) k)) (PV K)
  | 0, k, e, h => by
    have e2 : k = 4 := by omega
    subst e2
    refine bk_X11_keepsAside_15 ⟨fun _ => ?_, fun c => by omega⟩
    have q : cpI I 542 0 536 (4 * z) 4 489 = I 489 := cpI_f (by decide)
    have h5 := keepsAside_b (d := d) (K := K) (I := cpI I 542 0 536 (4 * z) 4) (z := z) (by rw [q, hz]) hz1 (by rw [q]; exact h71) 96 0 rfl (by rw [q]; exact h)
    rw [cp3_0] at h5
    exact h5
  | n + 1, k, e, h => by
    have ih := keepsAside_a hz hz1 h71 n (k + 1) (by omega) h
    rw [← cp1_s] at ih
    have q0 : cpI I 542 0 536 (4 * z) k 489 72 = z := by rw [cpI_f (by decide), hz]
    have t : ((4 * (z : Int)) + k).toNat = 4 * z + k := by omega
    have t2 : ((k : Int)).toNat = 0 + k := by omega
    refine bk_X11_keepsAside_15 ⟨fun c => by omega, fun _ => ?_⟩
    rw [q0, t, t2]
    refine ⟨by omega, by omega, by omega, by omega, fun I1 e1 => ⟨by omega, ?_⟩⟩
    subst e1
    rw [cpI_f (by decide)]
    simpa using ih
theorem c11_keepsAside (h0 : 0 ≤ I 489 72 ∧ I 489 72 < 20) (h1 : 0 ≤ I 489 71) (h : K (kas I)) : CV mX11_keepsAside (d + 1) [vR 489] I K := by
  refine bk_X11_keepsAside_0 ⟨by omega, fun I1 e1 => ?_⟩
  subst e1
  rw [oM_mod (by omega) (by omega) (by omega) (by omega)]
  have e : (I 489 72 + 1) % 20 = (nxN I : Nat) := by unfold nxN; omega
  have h5 := keepsAside_a (d := d) (K := K) (I := up I 489 72 ((I 489 72 + 1) % 20)) (z := nxN I) (by simp only [up, and_self, if_true]; exact e) (by unfold nxN; omega) (by rw [up_j (by decide)]; exact h1) 4 0 rfl (by
    rw [up_j (by decide), up_j (by decide), up_j (by decide)]
    exact h)
  rw [cp1_0] at h5
  exact h5
theorem c11_keeps (h0 : 0 ≤ I 489 72 ∧ I 489 72 < 20) (h1 : 0 ≤ I 489 71) (h : K (kas (rmb I))) : CV mX11_keeps (d + 2) [vR 489] I K := by
  have q : rmb I 489 = I 489 := by
    unfold rmb
    rw [cp3_f (by decide) (by decide) (by decide), cpI_f (by decide)]
  exact bk_X11_keeps_0 (c11_remembers (c11_keepsAside (by rw [q]; exact h0) (by rw [q]; exact h1) (PV_i h)))
theorem undo_b {z : Nat} (hz : I 489 72 = z) (hz1 : z < 20) (h71 : 1 ≤ I 489 71) (h72 : I 489 71 ≤ 20) : ∀ (n k : Nat), k + n = 96 → KI 1 (up (up (up (up (cp3 I 537 538 539 (96 * z) 533 534 535 0 96) 489 63 (I 540 z)) 489 64 (I 541 z)) 489 72 ((I 489 72 + 19) % 20)) 489 71 (I 489 71 - 1)) → J none mX11_undo (d + 1) 0 0 43 [(0, vR 489), (1, vI (k : Int))] [] (mk (cp3 I 537 538 539 (96 * z) 533 534 535 0 k)) (PI KI)
  | 0, k, e, h => by
    have e2 : k = 96 := by omega
    subst e2
    refine bk_X11_undo_43 ⟨fun _ => ?_, fun c => by omega⟩
    rw [cp3_f (by decide) (by decide) (by decide), cp3_f (by decide) (by decide) (by decide), hz]
    refine ⟨by omega, fun I1 e1 => ?_⟩
    subst e1
    rw [up_j (by decide), up_k (by decide), cp3_f (by decide) (by decide) (by decide), cp3_f (by decide) (by decide) (by decide), hz]
    refine ⟨by omega, fun I2 e2 => ?_⟩
    subst e2
    rw [up_j (by decide), up_j (by decide), cp3_f (by decide) (by decide) (by decide), hz]
    simp only [Int.toNat_natCast]
    refine ⟨by omega, by omega, fun I3 e3 => ?_⟩
    subst e3
    rw [up_j (by decide), up_j (by decide), up_j (by decide), cp3_f (by decide) (by decide) (by decide), oM_mod (by omega) (by omega) (by omega) (by omega)]
    refine ⟨by omega, fun I4 e4 => PI_i ?_⟩
    subst e4
    rw [hz] at h
    rw [show (z : Int) + 20 - 1 = z + 19 from by omega]
    exact h
  | n + 1, k, e, h => by
    have ih := undo_b hz hz1 h71 h72 n (k + 1) (by omega) h
    rw [← cp3_s (by decide) (by decide) (by decide)] at ih
    have q0 : cp3 I 537 538 539 (96 * z) 533 534 535 0 k 489 72 = z := by rw [cp3_f (by decide) (by decide) (by decide), hz]
    have t : ((96 * (z : Int)) + k).toNat = 96 * z + k := by omega
    have t2 : ((k : Int)).toNat = 0 + k := by omega
    refine bk_X11_undo_43 ⟨fun c => by omega, fun _ => ?_⟩
    rw [q0, t, t2]
    refine ⟨by omega, by omega, by omega, by omega, fun I4 e4 => ?_⟩
    subst e4
    rw [up_k (by decide), q0, t]
    refine ⟨by omega, by omega, by omega, by omega, fun I5 e5 => ?_⟩
    subst e5
    rw [up_k (by decide), up_k (by decide), q0, t]
    refine ⟨by omega, by omega, by omega, by omega, fun I6 e6 => ⟨by omega, ?_⟩⟩
    subst e6
    rw [up_k (by decide), up_k (by decide), up_k (by decide), cp3_f (by decide) (by decide) (by decide), cp3_f (by decide) (by decide) (by decide), cp3_f (by decide) (by decide) (by decide)]
    simpa using ih
theorem undo_a {z : Nat} (hz : I 489 72 = z) (hz1 : z < 20) (h71 : 1 ≤ I 489 71) (h72 : I 489 71 ≤ 20) : ∀ (n k : Nat), k + n = 4 → KI 1 (up (up (up (up (cp3 (cpI I 536 (4 * z) 532 0 4) 537 538 539 (96 * z) 533 534 535 0 96) 489 63 (I 540 z)) 489 64 (I 541 z)) 489 72 ((I 489 72 + 19) % 20)) 489 71 (I 489 71 - 1)) → J none mX11_undo (d + 1) 0 0 11 [(0, vR 489), (1, vI (k : Int))] [] (mk (cpI I 536 (4 * z) 532 0 k)) (PI KI)
  | 0, k, e, h => by
    have e2 : k = 4 := by omega
    subst e2
    refine bk_X11_undo_11 ⟨fun _ => ?_, fun c => by omega⟩
    have q : cpI I 536 (4 * z) 532 0 4 489 = I 489 := cpI_f (by decide)
    have h5 := undo_b (d := d) (KI := KI) (I := cpI I 536 (4 * z) 532 0 4) (z := z) (by rw [q, hz]) hz1 (by rw [q]; exact h71) (by rw [q]; exact h72) 96 0 rfl (by
      rw [q, cpI_f (by decide), cpI_f (by decide)]
      exact h)
    rw [cp3_0] at h5
    exact h5
  | n + 1, k, e, h => by
    have ih := undo_a hz hz1 h71 h72 n (k + 1) (by omega) h
    rw [← cp1_s] at ih
    have q0 : cpI I 536 (4 * z) 532 0 k 489 72 = z := by rw [cpI_f (by decide), hz]
    have t : ((4 * (z : Int)) + k).toNat = 4 * z + k := by omega
    have t2 : ((k : Int)).toNat = 0 + k := by omega
    refine bk_X11_undo_11 ⟨fun c => by omega, fun _ => ?_⟩
    rw [q0, t, t2]
    refine ⟨by omega, by omega, by omega, by omega, fun I1 e1 => ⟨by omega, ?_⟩⟩
    subst e1
    rw [cpI_f (by decide)]
    simpa using ih
theorem c11_undo (h0 : 0 ≤ I 489 72 ∧ I 489 72 < 20) (h1 : 0 ≤ I 489 71 ∧ I 489 71 ≤ 20) (k0 : I 489 71 = 0 → KI 0 I) (k1 : I 489 71 ≠ 0 → KI 1 (und I)) : CI mX11_undo (d + 1) [vR 489] I KI := by
  refine bk_X11_undo_0 ⟨fun c => ?_, fun c => PI_i (k0 c)⟩
  have h5 := undo_a (d := d) (KI := KI) (I := I) (z := (I 489 72).toNat) (by omega) (by omega) (by omega) (by omega) 4 0 rfl (k1 c)
  rw [cp1_0] at h5
  exact h5
end CP
