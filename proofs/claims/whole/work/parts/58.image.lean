/-- a list written into a row from p on -/
def putL (I : HI) (k p : Nat) (l : List Int) : HI := fun a j => if a = k ∧ p ≤ j ∧ j < p + l.length then l.getD (j - p) 0 else I a j
theorem put_0 (I : HI) (k p : Nat) : putL I k p [] = I := by
  funext a j
  unfold putL
  rw [if_neg (by simp)]
theorem put_f {I : HI} {k p a : Nat} {l : List Int} (h : a ≠ k) : putL I k p l a = I a := by
  funext j
  unfold putL
  rw [if_neg (fun q => h q.1)]
theorem put_i {I : HI} {k p j : Nat} {l : List Int} (h0 : p ≤ j) (h1 : j < p + l.length) : putL I k p l k j = l.getD (j - p) 0 := by
  unfold putL
  rw [if_pos ⟨rfl, h0, h1⟩]
theorem put_s (I : HI) (k p : Nat) (l : List Int) (x : Int) : up (putL I k p l) k (p + l.length) x = putL I k p (l ++ [x]) := by
  funext a j
  unfold up putL
  by_cases ha : a = k
  · subst ha
    by_cases hj : j = p + l.length
    · subst hj
      rw [if_pos ⟨rfl, rfl⟩, if_pos ⟨rfl, by omega, by simp⟩, Nat.add_sub_cancel_left, List.getD_eq_getElem?_getD]
      simp
    · rw [if_neg (fun q => hj q.2)]
      by_cases h2 : p ≤ j ∧ j < p + l.length
      · rw [if_pos ⟨rfl, h2⟩, if_pos ⟨rfl, h2.1, by simp; omega⟩, List.getD_eq_getElem?_getD, List.getD_eq_getElem?_getD, List.getElem?_append_left (by omega)]
      · rw [if_neg (fun q => h2 q.2), if_neg (fun q => h2 ⟨q.2.1, by have := q.2.2; simp at this; omega⟩)]
  · rw [if_neg (fun q => ha q.1), if_neg (fun q => ha q.1), if_neg (fun q => ha q.1)]
/-- the model's octets written -/
def wrL (I : HI) (l : List Int) : HI := up (putL I 556 0 l) 489 90 l.length
theorem wrL_f {I : HI} {k : Nat} {l : List Int} (h : k ≠ 489) (h1 : k ≠ 556) : wrL I l k = I k := by
  unfold wrL
  rw [up_k h, put_f h1]
theorem wrL_j {I : HI} {j : Nat} {l : List Int} (h : j ≠ 90) : wrL I l 489 j = I 489 j := by
  unfold wrL
  rw [up_j h, put_f (by decide)]
theorem wrL_n {I : HI} {l : List Int} : wrL I l 489 90 = l.length := by
  unfold wrL
  exact up_e
theorem wrL_s (I : HI) (l : List Int) (x : Int) : up (up (wrL I l) 556 l.length x) 489 90 ((l.length : Int) + 1) = wrL I (l ++ [x]) := by
  unfold wrL
  rw [← put_s I 556 0 l x, Nat.zero_add]
  funext a j
  simp only [up, List.length_append, List.length_cons, List.length_nil]
  by_cases h1 : a = 489 ∧ j = 90
  · rw [if_pos h1, if_pos h1]
    simp
  · rw [if_neg h1, if_neg h1, if_neg h1]
/-- the sum over a row of bytes -/
def chk (A : Nat → Int) : Nat → Nat → Int → Int
  | 0, _, c => c
  | n + 1, i, c => chk A n (i + 1) ((3 * c + A i) % 247)
theorem chk_eq {A B : Nat → Int} : ∀ (n i : Nat) (c : Int), (∀ j, i ≤ j → j < i + n → A j = B j) → chk A n i c = chk B n i c
  | 0, i, c, h => rfl
  | n + 1, i, c, h => by
    unfold chk
    rw [h i (by omega) (by omega)]
    exact chk_eq n (i + 1) _ (fun j j0 j1 => h j (by omega) (by omega))
theorem chk_rng {A : Nat → Int} : ∀ (n i : Nat) (c : Int), 0 ≤ c → c < 247 → 0 ≤ chk A n i c ∧ chk A n i c < 247
  | 0, i, c, h0, h1 => ⟨h0, h1⟩
  | n + 1, i, c, h0, h1 => by
    unfold chk
    exact chk_rng n (i + 1) _ (by omega) (by omega)
/-- the bytes of the ways, n saints from s on -/
def imS (cs : Int → List Int) : Nat → Int → List Int
  | 0, _ => []
  | n + 1, s => ((cs s).length : Int) :: cs s ++ imS cs n (s + 1)
theorem imS_len {cs : Int → List Int} : ∀ (n : Nat) (s : Int), (∀ u : Int, s ≤ u → u < s + n → (cs u).length ≤ 24) → (imS cs n s).length ≤ 25 * n
  | 0, s, h => by simp [imS]
  | n + 1, s, h => by
    have := imS_len n (s + 1) (fun u u0 u1 => h u (by omega) (by omega))
    have := h s (by omega) (by omega)
    simp only [imS, List.length_cons, List.length_append, List.cons_append]
    omega
theorem okC_rng {I : HI} (hb : I 518 5 ≤ 10) : ∀ (cs : List Int) (c : Int), okC I c cs → ∀ x ∈ cs, 0 ≤ x ∧ x ≤ 130
  | [], c, h, x, hx => by simp at hx
  | y :: cs, c, h, x, hx => by
    unfold okC at h
    split at h
    · rcases List.mem_cons.mp hx with rfl | hx
      · omega
      · exact okC_rng hb cs c h.2 x hx
    · rcases List.mem_cons.mp hx with rfl | hx
      · omega
      · exact okC_rng hb cs y h.2 x hx
theorem imS_rng {cs : Int → List Int} : ∀ (n : Nat) (s : Int), (∀ u : Int, s ≤ u → u < s + n → (cs u).length ≤ 24 ∧ ∀ x ∈ cs u, 0 ≤ x ∧ x ≤ 130) → ∀ x ∈ imS cs n s, 0 ≤ x ∧ x ≤ 255
  | 0, s, h, x, hx => by simp [imS] at hx
  | n + 1, s, h, x, hx => by
    obtain ⟨h1, h2⟩ := h s (by omega) (by omega)
    simp only [imS, List.cons_append, List.mem_cons, List.mem_append] at hx
    rcases hx with rfl | hx | hx
    · omega
    · have := h2 x hx
      omega
    · exact imS_rng n (s + 1) (fun u u0 u1 => h u (by omega) (by omega)) x hx
theorem getD_mem {l : List Int} {j : Nat} (h : j < l.length) : l.getD j 0 ∈ l := by
  rw [List.getD_eq_getElem?_getD, List.getElem?_eq_getElem h]
  exact List.getElem_mem h
section IM
variable {d : Nat} {I : HI} {Q : Option AV → AH → Prop} {K : HI → Prop} {KI : Int → HI → Prop} {K2 : Int → Int → HI → Prop} {cs : Int → List Int} {H : List Sn}
theorem sumOf_lp {a n1 m : Nat} (ha : SH0[a]? = some (.inr (0, n1))) (hm : m ≤ n1) (hn : n1 ≤ 10000) (hr : ∀ j, j < m → 0 ≤ I a j ∧ I a j ≤ 255) : ∀ (n i : Nat) (c : Int), i + n = m → 0 ≤ c → c < 247 → KI (chk (I a) n i c) I → J none mX9_sumOf (d + 1) 0 0 6 [(0, vR 32), (1, vR a), (2, vI (m : Int)), (3, vI c), (4, vI (i : Int))] [] (mk I) (PI KI)
  | 0, i, c, e, c0, c1, h => bk_X9_sumOf_6 ha ⟨fun _ => PI_i h, fun q => by omega⟩
  | n + 1, i, c, e, c0, c1, h => by
    have r := hr i (by omega)
    have ih := sumOf_lp ha hm hn hr n (i + 1) ((3 * c + I a i) % 247) (by omega) (by omega) (by omega) h
    refine bk_X9_sumOf_6 ha ⟨fun q => by omega, fun _ => ⟨by omega, by omega, ?_⟩⟩
    rw [Int.toNat_natCast, oM_mod (by omega) (by omega) (by omega) (by omega)]
    exact ⟨by omega, by omega, ih⟩
theorem c9_sumOf {a n1 m : Nat} (ha : SH0[a]? = some (.inr (0, n1))) (hm : m ≤ n1) (hn : n1 ≤ 10000) (hr : ∀ j, j < m → 0 ≤ I a j ∧ I a j ≤ 255) (h : KI (chk (I a) m 0 83) I) : CI mX9_sumOf (d + 1) [vR 32, vR a, vI (m : Int)] I KI :=
  bk_X9_sumOf_0 ha (sumOf_lp ha hm hn hr m 0 83 (by omega) (by omega) (by omega) h)
theorem checked_lp {a n1 m : Nat} (ha : SH0[a]? = some (.inr (0, n1))) (hm : m ≤ n1) (hn : n1 ≤ 10000) (hr : ∀ j, j < m → 0 ≤ I a j ∧ I a j ≤ 255) : ∀ (n i : Nat) (c : Int), i + n = m → 0 ≤ c → c < 247 → KI (chk (I a) n i c) I → J none mX11_checked (d + 1) 0 0 5 [(0, vR a), (1, vI (m : Int)), (2, vI c), (3, vI (i : Int))] [] (mk I) (PI KI)
  | 0, i, c, e, c0, c1, h => bk_X11_checked_5 ha ⟨fun _ => PI_i h, fun q => by omega⟩
  | n + 1, i, c, e, c0, c1, h => by
    have r := hr i (by omega)
    have ih := checked_lp ha hm hn hr n (i + 1) ((3 * c + I a i) % 247) (by omega) (by omega) (by omega) h
    refine bk_X11_checked_5 ha ⟨fun q => by omega, fun _ => ⟨by omega, by omega, ?_⟩⟩
    rw [Int.toNat_natCast, oM_mod (by omega) (by omega) (by omega) (by omega)]
    exact ⟨by omega, by omega, ih⟩
theorem c11_checked {a n1 m : Nat} (ha : SH0[a]? = some (.inr (0, n1))) (hm : m ≤ n1) (hn : n1 ≤ 10000) (hr : ∀ j, j < m → 0 ≤ I a j ∧ I a j ≤ 255) (h : KI (chk (I a) m 0 83) I) : CI mX11_checked (d + 1) [vR a, vI (m : Int)] I KI :=
  bk_X11_checked_0 ha (checked_lp ha hm hn hr m 0 83 (by omega) (by omega) (by omega) h)
theorem draw_b {s : Int} {v : List Int} (hE : EC (I 33) 0 s v) (s0 : 0 ≤ s) (s1 : s < 4) (hv : v.length ≤ 24) : ∀ (c2 c1 l : List Int), v = c1 ++ c2 → l.length + c2.length ≤ 100 → J none mX9_draw (d + 2) 0 0 4 [(0, vR 32), (1, vR 488), (2, vI ((l ++ c2).length : Nat)), (3, vI (s + 1))] [] (mk (putL I 488 0 (l ++ c2))) Q → J none mX9_draw (d + 2) 0 0 32 [(0, vR 32), (1, vR 488), (2, vI (l.length : Int)), (3, vI s), (4, vI (c1.length : Int))] [] (mk (putL I 488 0 l)) Q
  | [], c1, l, e, hl, h => by
    rw [List.append_nil] at e h
    subst e
    have en := hE.1
    rw [Nat.zero_add] at en
    refine bk_X9_draw_32 sh_488 ?_
    rw [put_f (by decide), en]
    exact ⟨by omega, fun _ => ⟨by omega, h⟩, fun q => by omega⟩
  | x :: c2, c1, l, e, hl, h => by
    have en := hE.1
    rw [Nat.zero_add] at en
    have el : v.length = c1.length + (c2.length + 1) := by rw [e]; simp
    have ex : I 33 (4 + s * 24 + (c1.length : Int)).toNat = x := by
      have := hE.2 c1.length (by omega)
      rw [Nat.zero_add] at this
      rw [this, e]
      simp
    simp only [List.length_cons] at hl
    have ih := draw_b hE s0 s1 hv c2 (c1 ++ [x]) (l ++ [x]) (by rw [e]; simp) (by simp; omega) (by
      rw [List.append_assoc]
      exact h)
    rw [show (((l ++ [x]).length : Nat) : Int) = (l.length : Int) + 1 from by simp, show (((c1 ++ [x]).length : Nat) : Int) = (c1.length : Int) + 1 from by simp, ← put_s I 488 0 l x, Nat.zero_add] at ih
    refine bk_X9_draw_32 sh_488 ?_
    rw [put_f (by decide), en, ex]
    refine ⟨by omega, fun q => by omega, fun _ => ⟨by omega, by omega, by omega, by omega, by omega, by omega, fun I1 e1 => ⟨by omega, ?_⟩⟩⟩
    subst e1
    rw [Int.toNat_natCast]
    exact ih
theorem draw_a {n0 : Int} (hn : I 2 2 = n0) (h4 : n0 ≤ 4) (hE : ∀ s : Int, 0 ≤ s → s < n0 → EC (I 33) 0 s (cs s) ∧ (cs s).length ≤ 24) : ∀ (n : Nat) (s : Int) (l : List Int), 0 ≤ s → s + n = n0 → l.length ≤ 25 * s.toNat → J none mX9_draw (d + 2) 0 0 4 [(0, vR 32), (1, vR 488), (2, vI ((l ++ imS cs n s).length : Nat)), (3, vI n0)] [] (mk (putL I 488 0 (l ++ imS cs n s))) Q → J none mX9_draw (d + 2) 0 0 4 [(0, vR 32), (1, vR 488), (2, vI (l.length : Int)), (3, vI s)] [] (mk (putL I 488 0 l)) Q
  | 0, s, l, s0, e, hl, h => by
    have e2 : s = n0 := by omega
    subst e2
    simp only [imS, List.append_nil] at h
    exact h
  | n + 1, s, l, s0, e, hl, h => by
    obtain ⟨e1, e2⟩ := hE s s0 (by omega)
    have en := e1.1
    rw [Nat.zero_add] at en
    have ih := draw_a hn h4 hE n (s + 1) (l ++ ((cs s).length : Int) :: cs s) (by omega) (by omega) (by simp; omega) (by
      simp only [imS] at h
      rw [List.append_assoc]
      exact h)
    have b := draw_b (d := d) e1 s0 (by omega) e2 (cs s) [] (l ++ [((cs s).length : Int)]) rfl (by simp; omega) (by
      rw [List.append_assoc]
      exact ih)
    rw [show (((l ++ [((cs s).length : Int)]).length : Nat) : Int) = (l.length : Int) + 1 from by simp, ← put_s I 488 0 l, Nat.zero_add] at b
    refine bk_X9_draw_4 sh_488 ?_
    rw [put_f (by decide), put_f (by decide), hn, en]
    refine ⟨fun q => by omega, fun _ => ⟨by omega, by omega, by omega, fun I6 e6 => ?_⟩⟩
    subst e6
    rw [Int.toNat_natCast]
    exact b
theorem c9_draw (hc : CN I) (hw : ClW I cs) (hok : ∀ s : Int, 0 ≤ s → s < I 518 6 → OkW I s (cs s)) (sr : 0 ≤ I 33 100 ∧ I 33 100 < 65536) (or : 0 ≤ I 33 101 ∧ I 33 101 < 64) (h : ∀ L : List Int, L = imS cs (I 518 6).toNat 0 ++ [I 33 100 / 256, I 33 100 % 256, I 33 101] → KI ((L.length : Int) + 1) (putL I 488 0 (L ++ [chk (fun j => L.getD j 0) L.length 0 83]))) : CI mX9_draw (d + 2) [vR 32, vR 488] I KI := by
  have c2 := hc.1.2.2.1
  have b0 := hc.2.1
  have b1 := hc.2.2.1
  have nn : ((I 518 6).toNat : Int) = I 518 6 := by omega
  have hlen := imS_len (cs := cs) (I 518 6).toNat 0 (fun u u0 u1 => (hok u u0 (by omega)).2.1)
  have hrng := imS_rng (cs := cs) (I 518 6).toNat 0 (fun u u0 u1 => ⟨(hok u u0 (by omega)).2.1, okC_rng b0.2 _ _ (hok u u0 (by omega)).1⟩)
  have fin := draw_a (d := d) (I := I) (Q := PI KI) (cs := cs) c2 b1.2 (fun s s0 s1 => ⟨(hw s s0 s1).1, (hok s s0 s1).2.1⟩) (I 518 6).toNat 0 [] (by omega) (by omega) (by simp)
  rw [List.nil_append, put_0] at fin
  refine bk_X9_draw_0 sh_488 (fin ?_)
  revert hlen hrng
  generalize imS cs (I 518 6).toNat 0 = l at *
  intro hlen hrng
  have o1 : oSr (I 33 100) 8 = I 33 100 / 256 := by
    rw [oSr_div sr.1 (by omega) (by omega) (by omega)]
    show (((I 33 100).toNat / 256 : Nat) : Int) = I 33 100 / 256
    omega
  have o2 : oA (I 33 100) 255 = I 33 100 % 256 := oA_255 sr.1 (by omega)
  have hk := h _ rfl
  refine bk_X9_draw_4 sh_488 ⟨fun _ => ?_, fun q => ?_⟩
  · rw [put_f (by decide), o1]
    refine ⟨by omega, by omega, fun I1 e1 => ?_⟩
    have g1 : I1 = putL I 488 0 (l ++ [I 33 100 / 256]) := by
      rw [e1, Int.toNat_natCast, ← put_s, Nat.zero_add]
    rw [g1, put_f (by decide), o2]
    refine ⟨by omega, by omega, fun I2 e2 => ?_⟩
    have g2 : I2 = putL I 488 0 ((l ++ [I 33 100 / 256]) ++ [I 33 100 % 256]) := by
      rw [e2, show ((l.length : Int) + 1).toNat = 0 + (l ++ [I 33 100 / 256]).length from by simp, put_s]
    rw [g2, put_f (by decide)]
    refine ⟨by omega, by omega, fun I3 e3 => ?_⟩
    have g3 : I3 = putL I 488 0 (l ++ [I 33 100 / 256, I 33 100 % 256, I 33 101]) := by
      rw [e3, show ((l.length : Int) + 1 + 1).toNat = 0 + ((l ++ [I 33 100 / 256]) ++ [I 33 100 % 256]).length from by simp; omega, put_s]
      simp
    have le : (((l ++ [I 33 100 / 256, I 33 100 % 256, I 33 101]).length : Nat) : Int) = (l.length : Int) + 1 + 1 + 1 := by simp; omega
    have mem : ∀ x ∈ l ++ [I 33 100 / 256, I 33 100 % 256, I 33 101], 0 ≤ x ∧ x ≤ 255 := by
      intro x hx
      simp only [List.mem_append, List.mem_cons, List.not_mem_nil, or_false] at hx
      rcases hx with hx | rfl | rfl | rfl
      · exact hrng x hx
      · omega
      · omega
      · omega
    rw [← le, g3]
    revert mem le hk
    generalize l ++ [I 33 100 / 256, I 33 100 % 256, I 33 101] = L
    intro hk le mem
    have rd : ∀ j, j < L.length → putL I 488 0 L 488 j = L.getD j 0 := fun j hj => by
      rw [put_i (by omega) (by omega), Nat.sub_zero]
    refine c9_sumOf sh_488 (by omega) (by omega) (fun j hj => ?_) ?_
    · rw [rd j hj]
      exact mem _ (getD_mem hj)
    · refine ⟨by omega, fun I5 e5 => ⟨by omega, PI_i ?_⟩⟩
      have g5 : I5 = putL I 488 0 (L ++ [chk (fun j => L.getD j 0) L.length 0 83]) := by
        rw [e5, Int.toNat_natCast, ← put_s, Nat.zero_add, chk_eq (B := fun j => L.getD j 0) L.length 0 83 (fun j j0 j1 => rd j (by omega))]
      rw [g5]
      exact hk
  · rw [put_f (by decide), c2] at q
    omega
theorem c11_writes {l : List Int} {x : Int} (hl : l.length < 104) (h : K (wrL I (l ++ [x]))) : CV mX11_writes (d + 1) [vR 489, vI x] (wrL I l) K := by
  refine bk_X11_writes_0 ?_
  rw [wrL_n]
  refine ⟨by omega, fun I1 e1 => ?_⟩
  have g : I1 489 90 = l.length := by rw [e1, up_k (by decide), wrL_n]
  rw [g]
  refine ⟨by omega, fun I2 e2 => PV_i ?_⟩
  subst e1 e2
  rw [Int.toNat_natCast, wrL_s]
  exact h
theorem image_b {s : Int} (hb : I 518 5 ≤ 10) (hm6 : ∀ c x, laneM I c x ≠ -1 → True) (s0 : 0 ≤ s) (s1 : s < 4) : ∀ (c2 : List Int) (c t : Int) (k : Nat) (l : List Int), SL I s k (runW I s c t c2) → Pre I s k c t → okC I c c2 → okW c t (runW I s c t c2) → 0 ≤ t → endS t (runW I s c t c2) ≤ 999 → k + c2.length ≤ 24 → l.length + c2.length ≤ 100 → J none mX11_image (d + 3) 0 0 7 [(0, vR 489), (1, vI (s + 1))] [] (mk (wrL I (l ++ c2))) Q → J none mX11_image (d + 3) 0 0 27 [(0, vR 489), (1, vI s), (2, vI (k : Int))] [] (mk (wrL I l)) Q
  | [], c, t, k, l, hs, hp, ho, hw, t0, he, hk, hl, h => by
    have e := SL_len _ _ hs
    simp only [runW, List.length_nil] at e
    rw [List.append_nil] at h
    refine bk_X11_image_27 ?_
    rw [wrL_f (by decide) (by decide)]
    exact ⟨by omega, fun _ => ⟨by omega, h⟩, fun q => by omega⟩
  | x :: c2, c, t, k, l, hs, hp, ho, hw, t0, he, hk, hl, h => by
    have e := SL_len _ _ hs
    rw [run_len] at e
    simp only [List.length_cons] at e hk hl
    have i24 : ((24 * s) + (k : Int)).toNat = ((24 * s) + (k : Int)).toNat := rfl
    refine bk_X11_image_27 ?_
    rw [wrL_f (by decide) (by decide), wrL_f (by decide) (by decide), wrL_f (by decide) (by decide), wrL_f (by decide) (by decide)]
    unfold okC at ho
    unfold runW at hs hw he
    split at ho
    · rename_i hx
      rw [if_pos hx] at hs hw he
      have hp2 := Pre_s (by omega) hs
      obtain ⟨g1, g2, g3, g4, g5⟩ := hs
      obtain ⟨v1, v2, v3, v4⟩ := hw
      simp only at g2 g3 g4 g5 v1 v4 hp2
      have ge := end_ge _ _ _ v4
      simp only [endS] at he
      rw [g3, g4]
      have ih := image_b hb hm6 s0 s1 c2 c (t + (x - 100)) (k + 1) (l ++ [x]) (by
        rw [show ((k + 1 : Nat) : Int) = (k : Int) + 1 from by omega]
        exact g5) (by
        rw [show ((k + 1 : Nat) : Int) = (k : Int) + 1 from by omega]
        exact hp2) ho.2 v4 (by omega) he (by omega) (by simp; omega) (by
        rw [List.append_assoc]
        exact h)
      rw [show ((k + 1 : Nat) : Int) = (k : Int) + 1 from by omega] at ih
      refine ⟨by omega, fun q => by omega, fun _ => ⟨by omega, by omega, by omega, fun q => absurd rfl q, fun _ => ⟨by omega, by omega, ?_⟩⟩⟩
      have hp' : Pre (wrL I l) s k c t := by
        unfold Pre hm at hp ⊢
        rw [wrL_f (by decide) (by decide), wrL_f (by decide) (by decide), wrL_f (by decide) (by decide)]
        exact hp
      refine c11_leaves s0 (by omega) (by omega) (by omega) hp' ?_
      rw [show 100 + (t + (x - 100)) - t = x from by omega]
      exact ⟨by omega, c11_writes (by omega) ⟨by omega, ih⟩⟩
    · rename_i hx
      rw [if_neg hx] at hs hw he
      have hp2 := Pre_s (by omega) hs
      obtain ⟨g1, g2, g3, g4, g5⟩ := hs
      obtain ⟨v1, v2, v3, v4⟩ := hw
      simp only at g2 g3 g4 g5 v1 v4 hp2
      have ge := end_ge _ _ _ v4
      simp only [endS] at he
      rw [g2, g3]
      have ih := image_b hb hm6 s0 s1 c2 x (t + miM I s (laneM I c x)) (k + 1) (l ++ [x]) (by
        rw [show ((k + 1 : Nat) : Int) = (k : Int) + 1 from by omega]
        exact g5) (by
        rw [show ((k + 1 : Nat) : Int) = (k : Int) + 1 from by omega]
        exact hp2) ho.2 v4 (by omega) he (by omega) (by simp; omega) (by
        rw [List.append_assoc]
        exact h)
      rw [show ((k + 1 : Nat) : Int) = (k : Int) + 1 from by omega] at ih
      exact ⟨by omega, fun q => by omega, fun _ => ⟨by omega, by omega, by omega, fun _ => ⟨by omega, c11_writes (by omega) ⟨by omega, ih⟩⟩, fun q => absurd q ho.1.2.2⟩⟩
theorem image_a (hc : CN I) (hs : CSa I) (hl : CLa I) (hw : MoW I cs) (hok : ∀ s : Int, 0 ≤ s → s < I 518 6 → OkW I s (cs s)) : ∀ (n : Nat) (s : Int) (l : List Int), 0 ≤ s → s + n = I 518 6 → l.length ≤ 25 * s.toNat → J none mX11_image (d + 3) 0 0 7 [(0, vR 489), (1, vI (I 518 6))] [] (mk (wrL I (l ++ imS cs n s))) Q → J none mX11_image (d + 3) 0 0 7 [(0, vR 489), (1, vI s)] [] (mk (wrL I l)) Q
  | 0, s, l, s0, e, hn, h => by
    have e2 : s = I 518 6 := by omega
    simp only [imS, List.append_nil] at h
    rw [e2]
    exact h
  | n + 1, s, l, s0, e, hn, h => by
    have b0 := hc.2.1
    have b1 := hc.2.2.1
    have ok := hok s s0 (by omega)
    have okw := wy_ok hc hs hl s0 (by omega) ok.1
    have sl := hw s s0 (by omega)
    have sn := SL_len _ _ sl
    rw [wy_len] at sn
    have ih := image_a hc hs hl hw hok n (s + 1) (l ++ ((cs s).length : Int) :: cs s) (by omega) (by omega) (by have := ok.2.1; simp; omega) (by
      simp only [imS] at h
      rw [List.append_assoc]
      exact h)
    have pr : Pre I s 0 (hm I s) 0 := by
      have := Pre_0 I s
      rw [sof_s (by omega)] at this
      exact this
    have b := image_b (d := d) (Q := Q) (I := I) b0.2 (fun _ _ _ => trivial) s0 (by omega) (cs s) (hm I s) 0 0 (l ++ [((cs s).length : Int)]) sl pr ok.1 okw (by omega) ok.2.2 (by have := ok.2.1; omega) (by have := ok.2.1; simp; omega) (by
      rw [List.append_assoc]
      exact ih)
    refine bk_X11_image_7 (c11_saintMany ?_)
    rw [wrL_f (k := 518) (by decide) (by decide), wrL_f (k := 532) (by decide) (by decide), sn, Int.zero_add]
    exact ⟨fun q => by omega, fun _ => ⟨by omega, c11_writes (by have := ok.2.1; omega) b⟩⟩
theorem c11_image (hc : CN I) (hs : CSa I) (hl : CLa I) (hw : MoW I cs) (hok : ∀ s : Int, 0 ≤ s → s < I 518 6 → OkW I s (cs s)) (sr : 0 ≤ I 489 63 ∧ I 489 63 < 65536) (or : 0 ≤ I 489 64 ∧ I 489 64 < 64) (h : ∀ L : List Int, L = imS cs (I 518 6).toNat 0 ++ [I 489 63 / 256, I 489 63 % 256, I 489 64] → KI ((L.length : Int) + 1) (wrL I (L ++ [chk (fun j => L.getD j 0) L.length 0 83]))) : CI mX11_image (d + 3) [vR 489] I KI := by
  have b0 := hc.2.1
  have b1 := hc.2.2.1
  have hlen := imS_len (cs := cs) (I 518 6).toNat 0 (fun u u0 u1 => (hok u u0 (by omega)).2.1)
  have hrng := imS_rng (cs := cs) (I 518 6).toNat 0 (fun u u0 u1 => ⟨(hok u u0 (by omega)).2.1, okC_rng b0.2 _ _ (hok u u0 (by omega)).1⟩)
  have fin := image_a (d := d) (Q := PI KI) hc hs hl hw hok (I 518 6).toNat 0 [] (by omega) (by omega) (by simp)
  rw [List.nil_append] at fin
  have z : wrL I [] = up I 489 90 0 := by
    unfold wrL
    rw [put_0]
    rfl
  refine bk_X11_image_0 (fun I1 e1 => ?_)
  rw [e1, ← z]
  refine fin ?_
  revert hlen hrng
  generalize imS cs (I 518 6).toNat 0 = l at *
  intro hlen hrng
  have hk := h _ rfl
  refine bk_X11_image_7 (c11_saintMany ?_)
  rw [wrL_f (by decide) (by decide), wrL_j (by decide), oD_div sr.1 (by omega) (by omega) (by omega)]
  refine ⟨fun _ => c11_writes (by omega) ?_, fun q => by omega⟩
  rw [wrL_j (by decide), oM_mod sr.1 (by omega) (by omega) (by omega)]
  refine c11_writes (by simp; omega) ?_
  rw [wrL_j (by decide)]
  refine c11_writes (by simp; omega) ?_
  rw [wrL_n]
  have mem : ∀ x ∈ l ++ [I 489 63 / 256, I 489 63 % 256, I 489 64], 0 ≤ x ∧ x ≤ 255 := by
    intro x hx
    simp only [List.mem_append, List.mem_cons, List.not_mem_nil, or_false] at hx
    rcases hx with hx | rfl | rfl | rfl
    · exact hrng x hx
    · omega
    · omega
    · omega
  rw [show l ++ [I 489 63 / 256] ++ [I 489 63 % 256] ++ [I 489 64] = l ++ [I 489 63 / 256, I 489 63 % 256, I 489 64] from by simp]
  have le : (l ++ [I 489 63 / 256, I 489 63 % 256, I 489 64]).length = l.length + 3 := by simp
  revert mem le hk
  generalize l ++ [I 489 63 / 256, I 489 63 % 256, I 489 64] = L
  intro hk mem le
  have rd : ∀ j, j < L.length → wrL I L 556 j = L.getD j 0 := fun j hj => by
    unfold wrL
    rw [up_k (by decide), put_i (by omega) (by omega), Nat.sub_zero]
  refine c11_checked sh_556 (by omega) (by omega) (fun j hj => ?_) ?_
  · rw [rd j hj]
    exact mem _ (getD_mem hj)
  · rw [chk_eq (B := fun j => L.getD j 0) L.length 0 83 (fun j j0 j1 => rd j (by omega))]
    refine c11_writes (by omega) (PI_i ?_)
    rw [wrL_n]
    simp only [List.length_append, List.length_cons, List.length_nil]
    exact hk
theorem op_image (hc : CN I) (hs : CSa I) (hl : CLa I) (hw : WRel I cs H) (h : ∀ x I', RIm I' → (∀ k, k ≠ 0 → k ≠ 488 → k ≠ 489 → k ≠ 556 → I' k = I k) → (∀ j, j ≠ 13 → I' 0 j = I 0 j) → (∀ j, j ≠ 90 → I' 489 j = I 489 j) → K2 x x I') : CI mX10_image (d + 4) [vR 0] I (fun x1 I1 => CI mX11_image (d + 4) [vR 489] I1 (K2 x1)) := by
  have b1 := hc.2.2.1
  obtain ⟨w1, w2, w3, w4, w5, w6, w7⟩ := hw
  have sr := w3.2.1
  have or : 0 ≤ I 489 64 ∧ I 489 64 < 64 := by
    have b4 := hc.2.2.2.2.2
    have p := p2_le b4.1 b4.2
    have q := w3.2.2
    simp only at q
    omega
  have hlen := imS_len (cs := cs) (I 518 6).toNat 0 (fun u u0 u1 => (w3.1 u u0 (by omega)).2.1)
  refine bk_X10_image_0 (c9_draw hc w1 w3.1 (by rw [w4.1]; exact sr) (by rw [w4.2]; exact or) (fun L hL I2 e2 => ?_))
  rw [w4.1, w4.2] at hL
  have g13 : I2 0 13 = (L.length : Int) + 1 := by rw [e2, up_e]
  rw [g13]
  refine PI_i ?_
  have f2 : ∀ k, k ≠ 0 → k ≠ 488 → I2 k = I k := fun k k1 k2 => by rw [e2, up_k k1, put_f k2]
  have f518 := f2 518 (by decide) (by decide)
  have f521 := f2 521 (by decide) (by decide)
  have f522 := f2 522 (by decide) (by decide)
  have f489 := f2 489 (by decide) (by decide)
  have Ll : L.length ≤ 103 := by
    rw [hL]
    simp
    omega
  refine c11_image (cs := cs) (CN_fr hc (f2 2 (by decide) (by decide)) f518) (CSa_fr hs (f2 7 (by decide) (by decide)) f518 f522) (CLa_fr hl (f2 6 (by decide) (by decide)) (f2 12 (by decide) (by decide)) f518 f521) ?_ (fun s s0 s1 => OkW_fr f518 f521 f522 (w3.1 s s0 (by rw [f518] at s1; exact s1))) (by rw [f489]; exact sr) (by rw [f489]; exact or) (fun L2 hL2 => ?_)
  · intro s s0 s1
    rw [f518] at s1
    rw [wy_fr f518 f521 f522]
    exact SL_fr s0 (w2 s s0 s1) (f2 532 (by decide) (by decide)) (f2 533 (by decide) (by decide)) (f2 534 (by decide) (by decide)) (f2 535 (by decide) (by decide))
  · rw [f518, f489, ← hL] at hL2
    subst hL2
    have q0 : ∀ j, wrL I2 (L2 ++ [chk (fun j => L2.getD j 0) L2.length 0 83]) 0 j = I2 0 j := fun j => by rw [wrL_f (by decide) (by decide)]
    refine h _ _ ⟨?_, ?_, ?_, fun k k0 k1 => ?_⟩ (fun k k1 k2 k3 k4 => ?_) (fun j hj => ?_) (fun j hj => ?_)
    · rw [q0, g13, wrL_n]
      simp
    · rw [wrL_n]
      omega
    · rw [wrL_n]
      simp
      omega
    · rw [wrL_n] at k1
      rw [wrL_f (by decide) (by decide), e2, up_k (by decide), put_i (by omega) (by omega)]
      unfold wrL
      rw [up_k (by decide), put_i (by omega) (by omega)]
    · rw [wrL_f k3 k4, f2 k k1 k2]
    · rw [q0, e2, up_j hj, put_f (by decide)]
    · rw [wrL_j hj, f489]
end IM
