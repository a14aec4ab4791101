def cp1 (I : HI) (x : Int) : HI := up (up I 0 12 (I 0 12 + 1)) 27 (I 0 12).toNat x
def mp1 (I : HI) (x : Int) : HI := up (up I 490 (I 489 1).toNat x) 489 1 (up I 490 (I 489 1).toNat x 489 1 + 1)
theorem cp1_n (I : HI) (x : Int) : cp1 I x 0 12 = I 0 12 + 1 := by simp [cp1, up]
theorem mp1_n (I : HI) (x : Int) : mp1 I x 489 1 = I 489 1 + 1 := by simp [mp1, up]
theorem cp1_f (I : HI) (x : Int) {k : Nat} (h0 : k ≠ 0) (h1 : k ≠ 27) : cp1 I x k = I k := by unfold cp1; rw [up_k h1, up_k h0]
theorem mp1_f (I : HI) (x : Int) {k : Nat} (h0 : k ≠ 489) (h1 : k ≠ 490) : mp1 I x k = I k := by unfold mp1; rw [up_k h0, up_k h1]
theorem cp1_j (I : HI) (x : Int) {j : Nat} (h : j ≠ 12) : cp1 I x 0 j = I 0 j := by unfold cp1; rw [up_k (by decide), up_j h]
theorem mp1_j (I : HI) (x : Int) {j : Nat} (h : j ≠ 1) : mp1 I x 489 j = I 489 j := by unfold mp1; rw [up_j h, up_k (by decide)]
theorem cp1_t (I : HI) (x : Int) : cp1 I x 27 = fun j => if j = (I 0 12).toNat then x else I 27 j := by
  funext j
  simp [cp1, up]
theorem mp1_t (I : HI) (x : Int) : mp1 I x 490 = fun j => if j = (I 489 1).toNat then x else I 490 j := by
  funext j
  simp [mp1, up]
def cps (I : HI) : List Int → HI
  | [] => I
  | x :: l => cps (cp1 I x) l
def mps (I : HI) : List Int → HI
  | [] => I
  | x :: l => mps (mp1 I x) l
theorem cps_n : ∀ (l : List Int) (I : HI), cps I l 0 12 = I 0 12 + l.length
  | [], I => by simp [cps]
  | x :: l, I => by
    simp only [cps, List.length_cons]
    rw [cps_n l, cp1_n]
    omega
theorem mps_n : ∀ (l : List Int) (I : HI), mps I l 489 1 = I 489 1 + l.length
  | [], I => by simp [mps]
  | x :: l, I => by
    simp only [mps, List.length_cons]
    rw [mps_n l, mp1_n]
    omega
theorem cps_f {k : Nat} (h0 : k ≠ 0) (h1 : k ≠ 27) : ∀ (l : List Int) (I : HI), cps I l k = I k
  | [], I => rfl
  | x :: l, I => by simp only [cps]; rw [cps_f h0 h1 l, cp1_f I x h0 h1]
theorem mps_f {k : Nat} (h0 : k ≠ 489) (h1 : k ≠ 490) : ∀ (l : List Int) (I : HI), mps I l k = I k
  | [], I => rfl
  | x :: l, I => by simp only [mps]; rw [mps_f h0 h1 l, mp1_f I x h0 h1]
theorem cps_j {j : Nat} (h : j ≠ 12) : ∀ (l : List Int) (I : HI), cps I l 0 j = I 0 j
  | [], I => rfl
  | x :: l, I => by simp only [cps]; rw [cps_j h l, cp1_j I x h]
theorem mps_j {j : Nat} (h : j ≠ 1) : ∀ (l : List Int) (I : HI), mps I l 489 j = I 489 j
  | [], I => rfl
  | x :: l, I => by simp only [mps]; rw [mps_j h l, mp1_j I x h]
theorem RTape_push {n1 n2 x : Int} {t1 t2 : Nat → Int} (h : RTape n1 t1 n2 t2) (hn : n1 < 1600) (hx : 0 ≤ x ∧ x ≤ 255) : RTape (n1 + 1) (fun j => if j = n1.toNat then x else t1 j) (n2 + 1) (fun j => if j = n2.toNat then x else t2 j) := by
  obtain ⟨e, h0, h1, h2⟩ := h
  subst e
  refine ⟨rfl, by omega, by omega, fun j hj => ?_⟩
  by_cases hq : j = n1.toNat
  · simp only [hq, if_true]
    exact ⟨trivial, hx⟩
  · simp only [hq, if_false]
    exact h2 j (by omega)
theorem RTape_feed : ∀ (l : List Int) (Ic Im : HI), (∀ x ∈ l, 0 ≤ x ∧ x ≤ 255) → RTape (Ic 0 12) (Ic 27) (Im 489 1) (Im 490) → Ic 0 12 + l.length ≤ 1600 → RTape (cps Ic l 0 12) (cps Ic l 27) (mps Im l 489 1) (mps Im l 490)
  | [], Ic, Im, _, h, _ => h
  | x :: l, Ic, Im, hx, h, hn => by
    simp only [List.length_cons] at hn
    simp only [cps, mps]
    refine RTape_feed l (cp1 Ic x) (mp1 Im x) (fun y hy => hx y (List.mem_cons_of_mem _ hy)) ?_ (by rw [cp1_n]; omega)
    rw [cp1_n, mp1_n, cp1_t, mp1_t]
    exact RTape_push h (by omega) (hx x List.mem_cons_self)
section FD
variable {d : Nat} {I : HI} {Q : Option AV → AH → Prop}
theorem tn_step {w s : Int} (hs : 0 ≤ s) (hs2 : s ≤ 24) (hn : 0 ≤ I 0 12) (h : I 0 12 < 1600) (k : J none mX10_tapeNumber (d + 1) 0 0 3 [(0, vR 0), (1, vI w), (2, vI (s + (-8)))] [] (mk (cp1 I (oA (oUr w s) 255))) Q) : J none mX10_tapeNumber (d + 1) 0 0 3 [(0, vR 0), (1, vI w), (2, vI s)] [] (mk I) Q :=
  bk_X10_tapeNumber_3 ⟨fun c => absurd c (by omega), fun _ => ⟨fun c => absurd c (by omega), fun _ => ⟨by omega, fun I1 e1 => ⟨by omega, fun I2 e2 => ⟨by omega, by subst e1; subst e2; exact k⟩⟩⟩⟩⟩
def wb (w : Int) : List Int := [oA (oUr w 24) 255, oA (oUr w 16) 255, oA (oUr w 8) 255, oA (oUr w 0) 255]
theorem c10_tapeNumber {w : Int} {K : HI → Prop} (hn : 0 ≤ I 0 12) (h : I 0 12 + 4 ≤ 1600) (hk : K (cps I (wb w))) : CV mX10_tapeNumber (d + 1) [vR 0, vI w] I K := by
  refine bk_X10_tapeNumber_0 ?_
  refine tn_step (by decide) (by decide) hn (by omega) ?_
  refine tn_step (by decide) (by decide) (by rw [cp1_n]; omega) (by rw [cp1_n]; omega) ?_
  refine tn_step (by decide) (by decide) (by rw [cp1_n, cp1_n]; omega) (by rw [cp1_n, cp1_n]; omega) ?_
  refine tn_step (by decide) (by decide) (by rw [cp1_n, cp1_n, cp1_n]; omega) (by rw [cp1_n, cp1_n, cp1_n]; omega) ?_
  exact bk_X10_tapeNumber_3 ⟨fun _ => PV_i hk, fun c => absurd (by decide) c⟩
theorem cps_app : ∀ (l m : List Int) (I : HI), cps (cps I l) m = cps I (l ++ m)
  | [], m, I => rfl
  | x :: l, m, I => by simp only [cps, List.cons_append]; exact cps_app l m _
theorem c10_feed {a b c e f : Int} {K : Int → HI → Prop} (hn : 0 ≤ I 0 12) (h1 : I 0 12 ≤ 1600) (h0 : 1600 < I 0 12 + 20 → K (-1) I) (hk : I 0 12 + 20 ≤ 1600 → K (I 0 12 + 20) (cps I (wb a ++ (wb b ++ (wb c ++ (wb e ++ wb f)))))) : CI mX10_feed (d + 2) [vR 0, vI a, vI b, vI c, vI e, vI f] I K := by
  refine bk_X10_feed_0 ⟨by omega, fun q => ?_, fun q => PI_i (h0 (by omega))⟩
  have hl : ∀ w, (wb w).length = 4 := fun w => rfl
  refine c10_tapeNumber hn (by omega) ?_
  refine c10_tapeNumber (by rw [cps_n, hl]; omega) (by rw [cps_n, hl]; omega) ?_
  refine c10_tapeNumber (by rw [cps_n, cps_n, hl, hl]; omega) (by rw [cps_n, cps_n, hl, hl]; omega) ?_
  refine c10_tapeNumber (by rw [cps_n, cps_n, cps_n, hl, hl, hl]; omega) (by rw [cps_n, cps_n, cps_n, hl, hl, hl]; omega) ?_
  refine c10_tapeNumber (by rw [cps_n, cps_n, cps_n, cps_n, hl, hl, hl, hl]; omega) (by rw [cps_n, cps_n, cps_n, cps_n, hl, hl, hl, hl]; omega) ?_
  refine PI_i ?_
  have hk2 := hk q
  rw [cps_app, cps_app, cps_app, cps_app]
  have e2 : cps I (wb a ++ (wb b ++ (wb c ++ (wb e ++ wb f)))) 0 12 = I 0 12 + 20 := by
    rw [cps_n]
    simp [hl]
  rw [e2]
  exact hk2
def wd (a b c e f k : Int) : Int := if 4 ≤ k then (if 8 ≤ k then (if 12 ≤ k then (if 16 ≤ k then f else e) else c) else b) else a
def bm (a b c e f k : Int) : Int := oA (oSr (wd a b c e f k) (8 * (3 - oM k 4))) 255
theorem fm_step {a b c e f k : Int} (hk0 : 0 ≤ k) (hk : k < 20) (hn : 0 ≤ I 489 1) (hn1 : I 489 1 < 1600) (hh : J none mX11_feed (d + 1) 0 0 18 [(0, vR 489), (1, vI a), (2, vI b), (3, vI c), (4, vI e), (5, vI f), (6, vI (k + 1))] [] (mk (mp1 I (bm a b c e f k))) Q) : J none mX11_feed (d + 1) 0 0 18 [(0, vR 489), (1, vI a), (2, vI b), (3, vI c), (4, vI e), (5, vI f), (6, vI k)] [] (mk I) Q := by
  have hM : oM k 4 = k % 4 := oM_mod hk0 (by omega) (by decide) (by decide)
  have hin : ∀ x : Int, up I 490 (I 489 1).toNat x 489 1 = I 489 1 := fun x => by rw [up_k (by decide)]
  refine bk_X11_feed_18 ⟨fun q => absurd q (by omega), fun _ => ⟨fun c4 => ⟨fun c8 => ⟨fun c12 => ⟨fun c16 => ?_, fun c16 => ?_⟩, fun c12 => ?_⟩, fun c8 => ?_⟩, fun c4 => ?_⟩⟩
  · refine ⟨by rw [hM]; omega, by rw [hM]; omega, by omega, fun I1 e1 => ⟨by subst e1; rw [hin]; omega, fun I2 e2 => ⟨by omega, ?_⟩⟩⟩
    subst e1; subst e2
    simpa [bm, wd, mp1, c4, c8, c12, c16] using hh
  · refine ⟨by rw [hM]; omega, by rw [hM]; omega, by omega, fun I1 e1 => ⟨by subst e1; rw [hin]; omega, fun I2 e2 => ⟨by omega, ?_⟩⟩⟩
    subst e1; subst e2
    simpa [bm, wd, mp1, c4, c8, c12, c16] using hh
  · refine ⟨by rw [hM]; omega, by rw [hM]; omega, by omega, fun I1 e1 => ⟨by subst e1; rw [hin]; omega, fun I2 e2 => ⟨by omega, ?_⟩⟩⟩
    subst e1; subst e2
    simpa [bm, wd, mp1, c4, c8, c12] using hh
  · refine ⟨by rw [hM]; omega, by rw [hM]; omega, by omega, fun I1 e1 => ⟨by subst e1; rw [hin]; omega, fun I2 e2 => ⟨by omega, ?_⟩⟩⟩
    subst e1; subst e2
    simpa [bm, wd, mp1, c4, c8] using hh
  · refine ⟨by rw [hM]; omega, by rw [hM]; omega, by omega, fun I1 e1 => ⟨by subst e1; rw [hin]; omega, fun I2 e2 => ⟨by omega, ?_⟩⟩⟩
    subst e1; subst e2
    simpa [bm, wd, mp1, c4] using hh
def bms (a b c e f : Int) : Nat → Nat → List Int
  | _, 0 => []
  | k, n + 1 => bm a b c e f k :: bms a b c e f (k + 1) n
theorem fm_loop {a b c e f : Int} {K : Int → HI → Prop} : ∀ (n k : Nat) (I : HI), k + n = 20 → 0 ≤ I 489 1 → I 489 1 + n ≤ 1600 → K (mps I (bms a b c e f k n) 489 1) (mps I (bms a b c e f k n)) → J none mX11_feed (d + 1) 0 0 18 [(0, vR 489), (1, vI a), (2, vI b), (3, vI c), (4, vI e), (5, vI f), (6, vI (k : Int))] [] (mk I) (PI K)
  | 0, k, I, hk, hn, hn1, h => bk_X11_feed_18 ⟨fun _ => PI_i h, fun q => absurd (by omega) q⟩
  | n + 1, k, I, hk, hn, hn1, h => by
    refine fm_step (by omega) (by omega) hn (by omega) ?_
    have e1 : ((k : Int) + 1) = ((k + 1 : Nat) : Int) := by omega
    rw [e1]
    exact fm_loop n (k + 1) _ (by omega) (by rw [mp1_n]; omega) (by rw [mp1_n]; omega) h
theorem bms_eq (a b c e f : Int) : bms a b c e f 0 20 = wb a ++ (wb b ++ (wb c ++ (wb e ++ wb f))) := by
  have h : ∀ k : Nat, k < 20 → bm a b c e f k = oA (oUr (wd a b c e f k) (8 * (3 - (k % 4 : Nat)) : Int)) 255 := by
    intro k hk
    unfold bm
    rw [oM_mod (by omega) (by omega) (by decide) (by decide)]
    have e1 : (8 * (3 - (k : Int) % 4)) = ((8 * (3 - k % 4) : Nat) : Int) := by omega
    have e2 : (8 * (3 - ((k % 4 : Nat) : Int)) : Int) = ((8 * (3 - k % 4) : Nat) : Int) := by omega
    rw [e1, e2]
    exact byte_eq _ (3 - k % 4) (by omega) rfl
  simp only [bms]
  rw [h 0 (by decide), h (0 + 1) (by decide), h (0 + 1 + 1) (by decide), h (0 + 1 + 1 + 1) (by decide), h (0 + 1 + 1 + 1 + 1) (by decide), h (0 + 1 + 1 + 1 + 1 + 1) (by decide), h (0 + 1 + 1 + 1 + 1 + 1 + 1) (by decide), h (0 + 1 + 1 + 1 + 1 + 1 + 1 + 1) (by decide), h (0 + 1 + 1 + 1 + 1 + 1 + 1 + 1 + 1) (by decide), h (0 + 1 + 1 + 1 + 1 + 1 + 1 + 1 + 1 + 1) (by decide), h (0 + 1 + 1 + 1 + 1 + 1 + 1 + 1 + 1 + 1 + 1) (by decide), h (0 + 1 + 1 + 1 + 1 + 1 + 1 + 1 + 1 + 1 + 1 + 1) (by decide), h (0 + 1 + 1 + 1 + 1 + 1 + 1 + 1 + 1 + 1 + 1 + 1 + 1) (by decide), h (0 + 1 + 1 + 1 + 1 + 1 + 1 + 1 + 1 + 1 + 1 + 1 + 1 + 1) (by decide), h (0 + 1 + 1 + 1 + 1 + 1 + 1 + 1 + 1 + 1 + 1 + 1 + 1 + 1 + 1) (by decide), h (0 + 1 + 1 + 1 + 1 + 1 + 1 + 1 + 1 + 1 + 1 + 1 + 1 + 1 + 1 + 1) (by decide), h (0 + 1 + 1 + 1 + 1 + 1 + 1 + 1 + 1 + 1 + 1 + 1 + 1 + 1 + 1 + 1 + 1) (by decide), h (0 + 1 + 1 + 1 + 1 + 1 + 1 + 1 + 1 + 1 + 1 + 1 + 1 + 1 + 1 + 1 + 1 + 1) (by decide), h (0 + 1 + 1 + 1 + 1 + 1 + 1 + 1 + 1 + 1 + 1 + 1 + 1 + 1 + 1 + 1 + 1 + 1 + 1) (by decide), h (0 + 1 + 1 + 1 + 1 + 1 + 1 + 1 + 1 + 1 + 1 + 1 + 1 + 1 + 1 + 1 + 1 + 1 + 1 + 1) (by decide)]
  rfl
theorem c11_feed {a b c e f : Int} {K : Int → HI → Prop} (hn : 0 ≤ I 489 1) (h1 : I 489 1 ≤ 1600) (h0 : 1600 < I 489 1 + 20 → K (-1) I) (hk : I 489 1 + 20 ≤ 1600 → K (I 489 1 + 20) (mps I (wb a ++ (wb b ++ (wb c ++ (wb e ++ wb f)))))) : CI mX11_feed (d + 1) [vR 489, vI a, vI b, vI c, vI e, vI f] I K := by
  refine bk_X11_feed_0 ⟨by omega, fun q => ?_, fun q => PI_i (h0 (by omega))⟩
  refine fm_loop 20 0 I rfl hn (by omega) ?_
  rw [bms_eq, mps_n]
  exact hk q
theorem wb_rng (w : Int) : ∀ x ∈ wb w, 0 ≤ x ∧ x ≤ 255 := by
  intro x hx
  simp only [wb, List.mem_cons, List.not_mem_nil, or_false] at hx
  rcases hx with rfl | rfl | rfl | rfl <;> exact byte_rng _
end FD
def fd5 (a b c e f : Int) : List Int := wb a ++ (wb b ++ (wb c ++ (wb e ++ wb f)))
theorem fd5_rng (a b c e f : Int) : ∀ x ∈ fd5 a b c e f, 0 ≤ x ∧ x ≤ 255 := by
  intro x hx
  simp only [fd5, List.mem_append] at hx
  rcases hx with h | h | h | h | h <;> exact wb_rng _ x h
theorem op_feed {d : Nat} {I : HI} {a b c e f : Int} {K : Int → Int → HI → Prop} (ht : RTape (I 0 12) (I 27) (I 489 1) (I 490)) (h0 : K (-1) (-1) I) (h1 : I 0 12 + 20 ≤ 1600 → K (I 0 12 + 20) (I 0 12 + 20) (mps (cps I (fd5 a b c e f)) (fd5 a b c e f))) : CI mX10_feed (d + 2) [vR 0, vI a, vI b, vI c, vI e, vI f] I (fun x1 I1 => CI mX11_feed (d + 2) [vR 489, vI a, vI b, vI c, vI e, vI f] I1 (fun x2 I2 => K x1 x2 I2)) := by
  have e1 := ht.1
  have e2 := ht.2.1
  have e3 := ht.2.2.1
  refine c10_feed e2 e3 (fun q => c11_feed (by omega) (by omega) (fun _ => h0) (fun q2 => by omega)) (fun q => ?_)
  have g : cps I (fd5 a b c e f) 489 = I 489 := cps_f (by decide) (by decide) _ _
  refine c11_feed (I := cps I (fd5 a b c e f)) (by rw [g]; omega) (by rw [g]; omega) (fun q2 => by rw [g] at q2; omega) (fun q2 => ?_)
  rw [g, ← e1]
  exact h1 q
theorem op_feed_tape {I : HI} {a b c e f : Int} (ht : RTape (I 0 12) (I 27) (I 489 1) (I 490)) (hn : I 0 12 + 20 ≤ 1600) : RTape (mps (cps I (fd5 a b c e f)) (fd5 a b c e f) 0 12) (mps (cps I (fd5 a b c e f)) (fd5 a b c e f) 27) (mps (cps I (fd5 a b c e f)) (fd5 a b c e f) 489 1) (mps (cps I (fd5 a b c e f)) (fd5 a b c e f) 490) := by
  rw [mps_f (k := 0) (by decide) (by decide), mps_f (k := 27) (by decide) (by decide)]
  refine RTape_feed _ I (cps I (fd5 a b c e f)) (fd5_rng a b c e f) ?_ (by rw [show (fd5 a b c e f).length = 20 from rfl]; omega)
  rw [cps_f (k := 489) (by decide) (by decide), cps_f (k := 490) (by decide) (by decide)]
  exact ht
