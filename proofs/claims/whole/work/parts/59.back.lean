/-- a row filled -/
def flI (I : HI) (a n : Nat) (x : Int) : HI := fun b j => if b = a ∧ j < n then x else I b j
theorem flI_0 (I : HI) (a : Nat) (x : Int) : flI I a 0 x = I := by
  funext b j
  unfold flI
  rw [if_neg (by omega)]
theorem flI_s (I : HI) (a n : Nat) (x : Int) : up (flI I a n x) a n x = flI I a (n + 1) x := by
  funext b j
  unfold up flI
  by_cases hb : b = a
  · subst hb
    by_cases hj : j = n
    · subst hj
      rw [if_pos ⟨rfl, rfl⟩, if_pos ⟨rfl, by omega⟩]
    · rw [if_neg (fun q => hj q.2)]
      by_cases h2 : j < n
      · rw [if_pos ⟨rfl, h2⟩, if_pos ⟨rfl, by omega⟩]
      · rw [if_neg (fun q => h2 q.2), if_neg (fun q => h2 (by omega))]
  · rw [if_neg (fun q => hb q.1), if_neg (fun q => hb q.1), if_neg (fun q => hb q.1)]
theorem flI_f {I : HI} {a n k : Nat} {x : Int} (h : k ≠ a) : flI I a n x k = I k := by
  funext j
  unfold flI
  rw [if_neg (fun q => h q.1)]
theorem flI_i {I : HI} {a n j : Nat} {x : Int} (h : j < n) : flI I a n x a j = x := by
  unfold flI
  rw [if_pos ⟨rfl, h⟩]
/-- bytes as a list -/
def bl (B : Nat → Int) : Nat → Nat → List Int
  | _, 0 => []
  | p, n + 1 => B p :: bl B (p + 1) n
theorem bl_len (B : Nat → Int) : ∀ (n p : Nat), (bl B p n).length = n
  | 0, p => rfl
  | n + 1, p => by simp [bl, bl_len B n]
theorem bl_get (B : Nat → Int) : ∀ (n p k : Nat), k < n → (bl B p n).getD k 0 = B (p + k)
  | 0, p, k, h => by omega
  | n + 1, p, 0, h => rfl
  | n + 1, p, k + 1, h => by
    show (bl B (p + 1) n).getD k 0 = B (p + (k + 1))
    rw [bl_get B n (p + 1) k (by omega)]
    congr 1
    omega
theorem bl_mem (B : Nat → Int) : ∀ (n p : Nat), ∀ x ∈ bl B p n, ∃ j, p ≤ j ∧ j < p + n ∧ x = B j
  | 0, p, x, hx => by simp [bl] at hx
  | n + 1, p, x, hx => by
    rcases List.mem_cons.mp hx with rfl | hx
    · exact ⟨p, by omega, by omega, rfl⟩
    · obtain ⟨j, j0, j1, e⟩ := bl_mem B n (p + 1) x hx
      exact ⟨j, by omega, by omega, e⟩
theorem bl_eq {B B' : Nat → Int} : ∀ (n p : Nat), (∀ j, p ≤ j → j < p + n → B j = B' j) → bl B p n = bl B' p n
  | 0, p, h => rfl
  | n + 1, p, h => by
    unfold bl
    rw [h p (by omega) (by omega), bl_eq n (p + 1) (fun j j0 j1 => h j (by omega) (by omega))]
/-- the codes told from p on -/
def tv (B : Nat → Int) (p : Nat) : List Int := bl B (p + 1) (B p).toNat
def pls (B : Nat → Int) : Nat → Nat
  | 0 => 0
  | n + 1 => pls B n + 1 + (B (pls B n)).toNat
theorem pls_mono (B : Nat → Int) : ∀ (k n : Nat), pls B n ≤ pls B (n + k)
  | 0, n => Nat.le_refl _
  | k + 1, n => by
    have := pls_mono B k n
    show pls B n ≤ pls B (n + k) + 1 + (B (pls B (n + k))).toNat
    omega
def csT (B : Nat → Int) : Int → List Int := fun s => tv B (pls B s.toNat)
/-- n bytes B are an image -/
def Good (I : HI) (B : Nat → Int) (n : Nat) : Prop := (∀ s : Int, 0 ≤ s → s < I 518 6 → B (pls B s.toNat) ≤ 24 ∧ OkW I s (csT B s)) ∧ pls B (I 518 6).toNat + 4 = n ∧ 256 * B (n - 4) + B (n - 3) < oSl 1 (I 518 7) ∧ B (n - 2) < oSl 1 (I 518 9) ∧ B (n - 1) = chk B (n - 1) 0 83
theorem Good_at {I : HI} {B : Nat → Int} {n : Nat} (h : Good I B n) {s : Int} (s0 : 0 ≤ s) (s1 : s < I 518 6) : pls B s.toNat + 1 + (B (pls B s.toNat)).toNat + 4 ≤ n := by
  have e : (I 518 6).toNat = (s.toNat + 1) + ((I 518 6).toNat - (s.toNat + 1)) := by omega
  have m := pls_mono B ((I 518 6).toNat - (s.toNat + 1)) (s.toNat + 1)
  rw [← e] at m
  have q := h.2.1
  have r : pls B (s.toNat + 1) = pls B s.toNat + 1 + (B (pls B s.toNat)).toNat := rfl
  omega
theorem OkW_pre {I : HI} {s : Int} {c1 c2 : List Int} (hc : CN I) (hs : CSa I) (hl : CLa I) (s0 : 0 ≤ s) (s1 : s < I 518 6) (h : OkW I s (c1 ++ c2)) : OkW I s c1 := by
  obtain ⟨h1, h2, h3⟩ := h
  have g := (okC_app I s c2 c1 (hm I s) 0).mp h1
  have w2 : okW (lastS (hm I s) (wy I s c1)) (endS 0 (wy I s c1)) (runW I s (lastS (hm I s) (wy I s c1)) (endS 0 (wy I s c1)) c2) := run_ok hc hs hl s0 s1 c2 _ (endS 0 (wy I s c1)) g.2
  have e : wy I s (c1 ++ c2) = wy I s c1 ++ runW I s (lastS (hm I s) (wy I s c1)) (endS 0 (wy I s c1)) c2 := run_app I s c2 c1 (hm I s) 0
  rw [e, endS_app] at h3
  have e2 := end_ge _ _ _ w2
  simp only [List.length_append] at h2
  exact ⟨g.1, by omega, by omega⟩
theorem or_byte {a b : Int} (a0 : 0 ≤ a) (a1 : a ≤ 255) (b0 : 0 ≤ b) (b1 : b ≤ 255) : oO (oSl a 8) b = 256 * a + b := by
  have ea : a = (a.toNat : Int) := by omega
  have eb : b = (b.toNat : Int) := by omega
  rw [ea, eb, show (8 : Int) = ((8 : Nat) : Int) from rfl, oSl_nat _ 8 (by decide) (by omega), oO_nat _ _ (by omega) (by omega)]
  have h := Nat.shiftLeft_add_eq_or_of_lt (show b.toNat < 2 ^ 8 by omega) a.toNat
  rw [Nat.shiftLeft_eq] at h
  rw [← h]
  omega
section BK
variable {d : Nat} {I : HI} {Q : Option AV → AH → Prop} {K : HI → Prop} {KI : Int → HI → Prop} {K2 : Int → Int → HI → Prop} {cs : Int → List Int} {H : List Sn}
theorem fill_lp {a n0 : Nat} {x : Int} (ha : SH0[a]? = some (.inr (0, n0))) (hn : n0 ≤ 100000) : ∀ (n k : Nat), k + n = n0 → K (flI I a n0 x) → J none mJ7_fill_53178 (d + 1) 0 0 5 [(0, vR a), (1, vI x), (2, vI (k : Int)), (3, vI (n0 : Int))] [] (mk (flI I a k x)) (PV K)
  | 0, k, e, h => by
    have e2 : k = n0 := by omega
    subst e2
    exact bk_J7_fill_53178_5 ha ⟨fun _ => PV_i h, fun q => by omega⟩
  | n + 1, k, e, h => by
    have ih := fill_lp ha hn n (k + 1) (by omega) h
    rw [← flI_s, show ((k + 1 : Nat) : Int) = (k : Int) + 1 from by omega] at ih
    refine bk_J7_fill_53178_5 ha ⟨fun q => by omega, fun _ => ⟨by omega, fun I1 e1 => ⟨by omega, ?_⟩⟩⟩
    subst e1
    rw [Int.toNat_natCast]
    exact ih
theorem c_fill {a n0 : Nat} {x : Int} (ha : SH0[a]? = some (.inr (0, n0))) (hn : n0 ≤ 100000) (h : K (flI I a n0 x)) : CV mJ7_fill_53178 (d + 1) [vR a, vI x] I K := by
  have f := fill_lp (d := d) (I := I) (K := K) (x := x) ha hn n0 0 (by omega) h
  rw [flI_0] at f
  exact bk_J7_fill_53178_0 ha ⟨by omega, f⟩
/-- what the class asks of a saint's bytes -/
def TC (I : HI) (B : Nat → Int) (s : Int) (p n : Nat) : Prop := p < n ∧ B p ≤ 24 ∧ p + B p < n ∧ OkW I s (tv B p)
theorem tryWay_lp {s : Int} {p n : Nat} (hc : CN I) (hs : CSa I) (hl : CLa I) (s0 : 0 ≤ s) (s1 : s < I 518 6) (hn : n ≤ 1600) (hp : p + (I 27 p).toNat < n) (hB : ∀ j, j < n → 0 ≤ I 27 j ∧ I 27 j ≤ 255) (h24 : I 27 p ≤ 24) (k0 : ∀ I' : HI, (∀ k, k ≠ 34 → I' k = I k) → ¬ OkW I s (tv (I 27) p) → KI (-1) I') (k1 : ∀ I' : HI, (∀ k, k ≠ 34 → I' k = I k) → OkW I s (tv (I 27) p) → EC (I' 34) 0 s (tv (I 27) p) → (∀ j : Nat, j ≠ s.toNat → (j < 4 + 24 * s.toNat ∨ 28 + 24 * s.toNat ≤ j) → I' 34 j = I 34 j) → KI ((p : Int) + 1 + I 27 p) I') : ∀ (c2 c1 : List Int) (X : HI), tv (I 27) p = c1 ++ c2 → (∀ k, k ≠ 34 → X k = I k) → X 34 s.toNat = I 27 p → (∀ k : Nat, k < c1.length → X 34 (4 + s * 24 + k).toNat = c1.getD k 0) → (∀ j : Nat, j ≠ s.toNat → (j < 4 + 24 * s.toNat ∨ 28 + 24 * s.toNat ≤ j) → X 34 j = I 34 j) → okC I (hm I s) c1 → endS 0 (wy I s c1) ≤ 45 * c1.length → J none mX9_tryWay (d + 2) 0 0 54 [(0, vR 32), (1, vI s), (2, vR 27), (3, vI (p : Int)), (4, vI (n : Int)), (5, vI (lastS (hm I s) (wy I s c1))), (6, vI (endS 0 (wy I s c1))), (7, vI (c1.length : Int))] [] (mk X) (PI KI)
  | [], c1, X, e, hf, h34, hE, ho, hok, hen => by
    rw [List.append_nil] at e
    have b1 := hc.2.2.1
    have B0 := hB p (by omega)
    have el : (tv (I 27) p).length = (I 27 p).toNat := bl_len _ _ _
    rw [e] at el
    refine bk_X9_tryWay_54 sh_27 ?_
    rw [h34]
    refine ⟨by omega, fun _ => ⟨fun q => ⟨by omega, by omega, by omega, PI_i ?_⟩, fun q => PI_i ?_⟩, fun q => by omega⟩
    · refine k1 X hf ?_ ?_ ho
      · rw [e]
        exact ⟨hok, by omega, q⟩
      · rw [e]
        unfold EC
        simp only [Nat.zero_add]
        exact ⟨by rw [h34]; omega, hE⟩
    · refine k0 X hf (fun z => q ?_)
      rw [e] at z
      exact z.2.2
  | x :: c2, c1, X, e, hf, h34, hE, ho, hok, hen => by
    have c20 := hc.1.1
    have b0 := hc.2.1
    have b1 := hc.2.2.1
    have b7 := hc.2.2.2.1
    have B0 := hB p (by omega)
    have el : (tv (I 27) p).length = (I 27 p).toNat := bl_len _ _ _
    have el2 : (I 27 p).toNat = c1.length + (c2.length + 1) := by
      rw [← el, e]
      simp
    have ex : x = I 27 (p + 1 + c1.length) := by
      have := bl_get (I 27) (I 27 p).toNat (p + 1) c1.length (by omega)
      rw [← this]
      show x = (tv (I 27) p).getD c1.length 0
      rw [e]
      simp
    have xr := hB (p + 1 + c1.length) (by omega)
    rw [← ex] at xr
    have et : ((p : Int) + 1 + (c1.length : Int)).toNat = p + 1 + c1.length := by omega
    have okw := wy_ok hc hs hl s0 s1 hok
    have hr := hm_rng hs s0 s1
    have hi := run_in (s := s) c1 _ 0 hr.1 hr.2 hok
    have lr : 0 ≤ lastS (hm I s) (wy I s c1) ∧ lastS (hm I s) (wy I s c1) < I 518 5 := lastS_in _ _ hr.1 hr.2 hi
    have ge := end_ge _ _ _ okw
    have f27 := hf 27 (by decide)
    have ys := wy_snoc I s c1 x
    have ih := tryWay_lp hc hs hl s0 s1 hn hp hB h24 k0 k1 c2 (c1 ++ [x])
    have len1 : (((c1 ++ [x]).length : Nat) : Int) = (c1.length : Int) + 1 := by simp
    rw [len1, ys, lastS_app, endS_app] at ih
    have put : ∀ Y : HI, Y = up X 34 (4 + s * 24 + (c1.length : Int)).toNat x → (∀ k, k ≠ 34 → Y k = I k) ∧ Y 34 s.toNat = I 27 p ∧ (∀ k : Nat, k < (c1 ++ [x]).length → Y 34 (4 + s * 24 + k).toNat = (c1 ++ [x]).getD k 0) ∧ (∀ j : Nat, j ≠ s.toNat → (j < 4 + 24 * s.toNat ∨ 28 + 24 * s.toNat ≤ j) → Y 34 j = I 34 j) := by
      intro Y hY
      subst hY
      refine ⟨fun k hk => by rw [up_k hk, hf k hk], by rw [up_j (by omega)]; exact h34, fun k hk => ?_, fun j j1 j2 => by rw [up_j (by omega)]; exact ho j j1 j2⟩
      simp only [List.length_append, List.length_cons, List.length_nil] at hk
      by_cases hk2 : k < c1.length
      · rw [up_j (by omega), hE k hk2, List.getD_eq_getElem?_getD, List.getD_eq_getElem?_getD, List.getElem?_append_left hk2]
      · have e2 : k = c1.length := by omega
        subst e2
        rw [up_e, List.getD_eq_getElem?_getD]
        simp
    have bad : (∀ (h : okC I (lastS (hm I s) (wy I s c1)) (x :: c2)), False) → ¬ OkW I s (tv (I 27) p) := fun hh z => by
      rw [e] at z
      exact hh ((okC_app I s (x :: c2) c1 (hm I s) 0).mp z.1).2
    refine bk_X9_tryWay_54 sh_27 ?_
    rw [h34, f27, et, ← ex]
    refine ⟨by omega, fun q => by omega, fun _ => ⟨by omega, by omega, by omega, fun hx => ?_, fun hx => ⟨fun hx2 => ?_, fun hx2 => ?_⟩⟩⟩
    · rw [if_neg (by omega)] at ih
      refine c9_laneTo lr.1 (by omega) (by rw [hf 2 (by decide)]; omega) (fun q => ?_) (fun q1 q2 => ?_)
      · rw [hf 2 (by decide)] at q
        refine ⟨fun q2 => by omega, fun _ => PI_i (k0 X hf (bad (fun z => ?_)))⟩
        unfold okC at z
        rw [if_neg (by omega)] at z
        omega
      · rw [hf 2 (by decide), c20] at q2
        rw [hf 12 (by decide), hl.2.2 _ _ lr.1 lr.2 q1 q2]
        refine ⟨fun q3 => ?_, fun q3 => PI_i (k0 X hf (bad (fun z => ?_)))⟩
        · have ar := laneM_rng (I := I) (by omega) q3
          have mr := miM_rng hs hl s0 s1 ar.1 ar.2
          have me : X 6 (laneM I (lastS (hm I s) (wy I s c1)) x * 4 + 2).toNat * X 7 (s * 4 + 1).toNat = miM I s (laneM I (lastS (hm I s) (wy I s c1)) x) := by
            rw [hf 6 (by decide), hf 7 (by decide), hl.1 _ 2 ar.1 ar.2 (by omega) (by omega), hs.1 s 1 s0 s1 (by omega) (by omega)]
            exact (miM_e ar.1).symm
          refine c0_minutesOf s0 (by omega) ar.1 (by omega) (by rw [me]; omega) ?_
          rw [me]
          refine ⟨by omega, by omega, by omega, by omega, by omega, fun I3 e3 => ⟨by omega, ?_⟩⟩
          obtain ⟨g1, g2, g3, g4⟩ := put I3 e3
          exact ih I3 (by rw [e]; simp) g1 g2 g3 g4 ((okC_app I s [x] c1 (hm I s) 0).mpr ⟨hok, by
            unfold okC
            rw [if_neg (by omega)]
            exact ⟨⟨q1, q2, q3⟩, trivial⟩⟩) (by simp only [endS]; omega)
        · unfold okC at z
          rw [if_neg (by omega)] at z
          exact z.1.2.2 q3
    · refine c9_laneTo lr.1 (by omega) (by rw [hf 2 (by decide)]; omega) (fun q => ?_) (fun q1 q2 => ?_)
      · refine ⟨fun q2 => by omega, fun _ => PI_i (k0 X hf (bad (fun z => ?_)))⟩
        unfold okC at z
        rw [if_pos (by omega)] at z
        omega
      · rw [hf 2 (by decide), c20] at q2
        omega
    · rw [if_pos (by omega)] at ih
      refine ⟨by omega, by omega, by omega, by omega, by omega, by omega, fun I3 e3 => ⟨by omega, ?_⟩⟩
      obtain ⟨g1, g2, g3, g4⟩ := put I3 e3
      exact ih I3 (by rw [e]; simp) g1 g2 g3 g4 ((okC_app I s [x] c1 (hm I s) 0).mpr ⟨hok, by
        unfold okC
        rw [if_pos (by omega)]
        exact ⟨by omega, trivial⟩⟩) (by simp only [endS]; omega)
theorem c9_tryWay {s : Int} {p n : Nat} (hc : CN I) (hs : CSa I) (hl : CLa I) (s0 : 0 ≤ s) (s1 : s < I 518 6) (hn : n ≤ 1600) (hB : ∀ j, j < n → 0 ≤ I 27 j ∧ I 27 j ≤ 255) (k0 : ∀ I' : HI, (∀ k, k ≠ 34 → I' k = I k) → ¬ TC I (I 27) s p n → KI (-1) I') (k1 : ∀ I' : HI, (∀ k, k ≠ 34 → I' k = I k) → TC I (I 27) s p n → EC (I' 34) 0 s (tv (I 27) p) → (∀ j : Nat, j ≠ s.toNat → (j < 4 + 24 * s.toNat ∨ 28 + 24 * s.toNat ≤ j) → I' 34 j = I 34 j) → KI ((p : Int) + 1 + I 27 p) I') : CI mX9_tryWay (d + 2) [vR 32, vI s, vR 27, vI (p : Int), vI (n : Int)] I KI := by
  have b1 := hc.2.2.1
  have id0 : ∀ k, k ≠ 34 → I k = I k := fun _ _ => rfl
  refine bk_X9_tryWay_0 sh_27 ⟨fun q => PI_i (k0 I id0 (fun z => by have := z.1; omega)), fun q => ?_⟩
  have B0 := hB p (by omega)
  rw [Int.toNat_natCast]
  refine ⟨by omega, fun q2 => PI_i (k0 I id0 (fun z => by have := z.2.1; omega)), fun q2 => ⟨by omega, by omega, fun q3 => ⟨by omega, by omega, by omega, by omega, fun I1 e1 => ?_⟩, fun q3 => PI_i (k0 I id0 (fun z => by have := z.2.2.1; omega))⟩⟩
  have e7 : I 7 (s * 4).toNat = hm I s := by
    have := hs.1 s 0 s0 s1 (by omega) (by omega)
    rw [Int.add_zero, Int.add_zero] at this
    exact this
  rw [e7]
  refine tryWay_lp hc hs hl s0 s1 hn (by omega) hB (by omega) (fun I' hf z => k0 I' hf (fun w => z w.2.2.2)) (fun I' hf z hE ho => k1 I' hf ⟨by omega, by omega, by omega, z⟩ hE ho) (tv (I 27) p) [] I1 rfl (fun k hk => by rw [e1, up_k hk]) (by rw [e1, up_e]) (fun k hk => by simp at hk) (fun j j1 j2 => by rw [e1, up_j j1]) trivial (by simp [wy, runW, endS])
end BK
