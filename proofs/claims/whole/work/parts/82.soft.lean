/-- the exceptions that hold for a clash, as bits -/
def HS (I : HI) (a b m so fa n : Int) : Prop := ∀ u : Int, 0 ≤ u → u < 6 → (bit n u = true ↔ u < I 518 9 ∧ Hld I u m so fa a b)
/-- a clash of either sort -/
def C3 (I : HI) (cs : Int → List Int) (a b m so fa : Int) : Prop := (so = 0 ∧ DRw I a b (hm I a) (hm I b) (wy I a (cs a)) (wy I b (cs b)) m fa) ∨ (so = 1 ∧ fa = 0 ∧ ∃ l, UPw I b (wy I a (cs a)) (wy I b (cs b)) m l ∨ UPw I a (wy I b (cs b)) (wy I a (cs a)) m l)
def SE (I : HI) (D : Int → Int → Int → Int → Int → Prop) (v : Int) : Prop := (∀ n : Nat, n < 64 → lb v n = true → ∃ a b m so fa, D a b m so fa ∧ HS I a b m so fa n) ∧ (∀ a b m so fa, D a b m so fa → ∃ n : Nat, n < 64 ∧ lb v n = true ∧ HS I a b m so fa n)
theorem SE_iff {I : HI} {D E : Int → Int → Int → Int → Int → Prop} {v : Int} (h : SE I D v) (e : ∀ a b m so fa, D a b m so fa ↔ E a b m so fa) : SE I E v := by
  refine ⟨fun n hn hb => ?_, fun a b m so fa hE => h.2 a b m so fa ((e a b m so fa).mpr hE)⟩
  obtain ⟨a, b, m, so, fa, z1, z2⟩ := h.1 n hn hb
  exact ⟨a, b, m, so, fa, (e a b m so fa).mp z1, z2⟩
theorem SE_add {I : HI} {D : Int → Int → Int → Int → Int → Prop} {v a b m so fa n : Int} (h : SE I D v) (n0 : 0 ≤ n) (n1 : n < 64) (g : HS I a b m so fa n) : SE I (fun a' b' m' so' fa' => D a' b' m' so' fa' ∨ (a' = a ∧ b' = b ∧ m' = m ∧ so' = so ∧ fa' = fa)) (lO v (lSl 1 n)) := by
  have e : ∀ k : Nat, k < 64 → lb (lO v (lSl 1 n)) k = (lb v k || decide (k = n.toNat)) := fun k hk => by rw [lb_O, lb_p2 n0 n1 hk]
  have en : ((n.toNat : Nat) : Int) = n := Int.toNat_of_nonneg n0
  refine ⟨fun k hk hb => ?_, fun a' b' m' so' fa' hD => ?_⟩
  · rw [e k hk, Bool.or_eq_true, decide_eq_true_eq] at hb
    rcases hb with hb | hb
    · obtain ⟨a', b', m', so', fa', z1, z2⟩ := h.1 k hk hb
      exact ⟨a', b', m', so', fa', Or.inl z1, z2⟩
    · refine ⟨a, b, m, so, fa, Or.inr ⟨rfl, rfl, rfl, rfl, rfl⟩, ?_⟩
      rw [hb, en]
      exact g
  · rcases hD with hD | ⟨rfl, rfl, rfl, rfl, rfl⟩
    · obtain ⟨k, k1, k2, k3⟩ := h.2 _ _ _ _ _ hD
      exact ⟨k, k1, by rw [e k k1, k2, Bool.true_or], k3⟩
    · refine ⟨n.toNat, by omega, by rw [e _ (by omega)]; simp, ?_⟩
      rw [en]
      exact g
theorem SE_or {I : HI} {D E : Int → Int → Int → Int → Int → Prop} {v w : Int} (h : SE I D v) (g : SE I E w) : SE I (fun a b m so fa => D a b m so fa ∨ E a b m so fa) (lO v w) := by
  refine ⟨fun k hk hb => ?_, fun a' b' m' so' fa' hD => ?_⟩
  · rw [lb_O, Bool.or_eq_true] at hb
    rcases hb with hb | hb
    · obtain ⟨a', b', m', so', fa', z1, z2⟩ := h.1 k hk hb
      exact ⟨a', b', m', so', fa', Or.inl z1, z2⟩
    · obtain ⟨a', b', m', so', fa', z1, z2⟩ := g.1 k hk hb
      exact ⟨a', b', m', so', fa', Or.inr z1, z2⟩
  · rcases hD with hD | hD
    · obtain ⟨k, k1, k2, k3⟩ := h.2 _ _ _ _ _ hD
      exact ⟨k, k1, by rw [lb_O, k2, Bool.true_or], k3⟩
    · obtain ⟨k, k1, k2, k3⟩ := g.2 _ _ _ _ _ hD
      exact ⟨k, k1, by rw [lb_O, k2, Bool.or_true], k3⟩
/-- words of a set -/
def wds (f : Int → Int) (st : Int) : Nat → Int → Int → Int
  | 0, _, a => a
  | n + 1, k, a => wds f st n (k + 1) (if bit st k then a + f k else a)
theorem wds_fr {f g : Int → Int} {st : Int} : ∀ (n : Nat) (k a : Int), (∀ u, k ≤ u → u < k + n → f u = g u) → wds f st n k a = wds g st n k a
  | 0, k, a, h => rfl
  | n + 1, k, a, h => by
    unfold wds
    rw [h k (by omega) (by omega)]
    exact wds_fr n _ _ (fun u u0 u1 => h u (by omega) (by omega))
def wdM (I : HI) (st : Int) : Int := wds (fun k => I 528 (6 + k).toNat) st (I 518 9).toNat 0 0
/-- the best set of those below k -/
def BE (P : Int → Prop) (wd : Int → Int) (k v : Int) : Prop := (v = -1 ∧ ∀ u, 0 ≤ u → u < k → ¬ P u) ∨ ((0 ≤ v ∧ v < k) ∧ P v ∧ ∀ u, 0 ≤ u → u < k → P u → (wd v < wd u ∨ (wd v = wd u ∧ v ≤ u)))
theorem BE_u {P : Int → Prop} {wd : Int → Int} {k v w : Int} (h : BE P wd k v) (g : BE P wd k w) : v = w := by
  rcases h with ⟨h1, h2⟩ | ⟨h1, h2, h3⟩ <;> rcases g with ⟨g1, g2⟩ | ⟨g1, g2, g3⟩
  · omega
  · exact absurd g2 (h2 w g1.1 g1.2)
  · exact absurd h2 (g2 v h1.1 h1.2)
  · have := h3 w g1.1 g1.2 g2
    have := g3 v h1.1 h1.2 h2
    omega
theorem BE_n {P : Int → Prop} {wd : Int → Int} {k v : Int} (h : BE P wd k v) (n : ¬ P k) : BE P wd (k + 1) v := by
  rcases h with ⟨h1, h2⟩ | ⟨h1, h2, h3⟩
  · refine Or.inl ⟨h1, fun u u0 u1 => ?_⟩
    by_cases e : u = k
    · rw [e]; exact n
    · exact h2 u u0 (by omega)
  · refine Or.inr ⟨by omega, h2, fun u u0 u1 pu => ?_⟩
    by_cases e : u = k
    · rw [e] at pu; exact absurd pu n
    · exact h3 u u0 (by omega) pu
theorem BE_0 {P : Int → Prop} {wd : Int → Int} {k : Int} (k0 : 0 ≤ k) (h : BE P wd k (-1)) (p : P k) : BE P wd (k + 1) k := by
  rcases h with ⟨h1, h2⟩ | ⟨h1, h2, h3⟩
  · refine Or.inr ⟨by omega, p, fun u u0 u1 pu => ?_⟩
    by_cases e : u = k
    · rw [e]; omega
    · exact absurd pu (h2 u u0 (by omega))
  · omega
theorem BE_l {P : Int → Prop} {wd : Int → Int} {k v : Int} (hv : v ≠ -1) (h : BE P wd k v) (w : wd v ≤ wd k) : BE P wd (k + 1) v := by
  rcases h with ⟨h1, h2⟩ | ⟨h1, h2, h3⟩
  · exact absurd h1 hv
  · refine Or.inr ⟨by omega, h2, fun u u0 u1 pu => ?_⟩
    by_cases e : u = k
    · rw [e]; omega
    · exact h3 u u0 (by omega) pu
theorem BE_g {P : Int → Prop} {wd : Int → Int} {k v : Int} (hv : v ≠ -1) (h : BE P wd k v) (w : wd k < wd v) (p : P k) : BE P wd (k + 1) k := by
  rcases h with ⟨h1, h2⟩ | ⟨h1, h2, h3⟩
  · exact absurd h1 hv
  · refine Or.inr ⟨by omega, p, fun u u0 u1 pu => ?_⟩
    by_cases e : u = k
    · rw [e]; omega
    · have := h3 u u0 (by omega) pu
      omega
theorem BE_rng {P : Int → Prop} {wd : Int → Int} {k v : Int} (h : BE P wd k v) (hv : v ≠ -1) : 0 ≤ v ∧ v < k := by
  rcases h with ⟨h1, h2⟩ | ⟨h1, h2, h3⟩
  · exact absurd h1 hv
  · exact h1
theorem BE_iff {P Q : Int → Prop} {wd : Int → Int} {k v : Int} (h : BE P wd k v) (e : ∀ u, 0 ≤ u → u < k → (P u ↔ Q u)) : BE Q wd k v := by
  rcases h with ⟨h1, h2⟩ | ⟨h1, h2, h3⟩
  · exact Or.inl ⟨h1, fun u u0 u1 q => h2 u u0 u1 ((e u u0 u1).mpr q)⟩
  · exact Or.inr ⟨h1, (e v h1.1 h1.2).mp h2, fun u u0 u1 q => h3 u u0 u1 ((e u u0 u1).mpr q)⟩
theorem oA_ne {x y : Int} (x0 : 0 ≤ x) (x1 : x < 64) (y0 : 0 ≤ y) (y1 : y < 64) : oA x y ≠ 0 ↔ ∃ u : Int, 0 ≤ u ∧ u < 6 ∧ bit x u = true ∧ bit y u = true := by
  have r := and_rng (x := x) (y := y) x0 (by omega) y0 (by omega)
  refine ⟨fun h => Classical.byContradiction fun n => h ?_, fun h z => ?_⟩
  · refine bit_ext 6 r.1 (by omega) (by omega) (by omega) (fun j j0 j1 => ?_)
    rw [bit_and x0 (by omega) y0 (by omega), bit_zero]
    cases e1 : bit x j
    · rfl
    · cases e2 : bit y j
      · rfl
      · exact absurd ⟨j, j0, j1, e1, e2⟩ n
  · obtain ⟨u, u0, u1, b1, b2⟩ := h
    have : bit (oA x y) u = true := by rw [bit_and x0 (by omega) y0 (by omega), b1, b2]; rfl
    rw [z, bit_zero] at this
    cases this
section SO
variable {d : Nat} {I : HI} {K : HI → Prop} {KI : Int → HI → Prop} {K2 : Int → Int → HI → Prop} {cs : Int → List Int} {H : List Sn}
theorem held_m {X0 : HI} {a b : Int} {i : Nat} {x : Spn} {L : List Spn} {D : Int → Int → Int → Int → Int → Prop} (hT : CTY I) (a0 : 0 ≤ a) (ab : a < b) (b4 : b < 4) (f0 : LFr I X0) (mX : MSp X0 L) (hi : L[i]? = some x) (len : L.length ≤ 1201) (x0 : 0 ≤ x.1) (x1 : x.2.1 ≤ 999) (x2 : 0 ≤ x.2.2.1 ∧ x.2.2.1 ≤ 21) (h : ∀ (Y : HI) (v : Int), UFr X0 Y → RCu Y → SE I (fun a' b' m so fa => D a' b' m so fa ∨ (a' = a ∧ b' = b ∧ (x.1 ≤ m ∧ m ≤ x.2.1) ∧ so = soS x.2.2.1 ∧ fa = faS x.2.2.1)) v → J none mX4_heldSets (d + 5) 0 0 21 [(0, vR 67), (1, vI a), (2, vI b), (3, vL v), (5, vI ((i : Int) + 1))] [] (mk Y) (PL KI)) : ∀ (n : Nat) (m v : Int) (X : HI), x.1 ≤ m → m ≤ x.2.1 + 1 → x.2.1 + 1 - m ≤ n → UFr X0 X → RCu X → SE I (fun a' b' m' so fa => D a' b' m' so fa ∨ (a' = a ∧ b' = b ∧ (x.1 ≤ m' ∧ m' < m) ∧ so = soS x.2.2.1 ∧ fa = faS x.2.2.1)) v → J none mX4_heldSets (d + 5) 0 0 45 [(0, vR 67), (1, vI a), (2, vI b), (3, vL v), (5, vI (i : Int)), (6, vI m)] [] (mk X) (PL KI)
  | 0, m, v, X, m0, m1, e, uX, rX, hv => by
    obtain ⟨e5, eL⟩ := mX
    obtain ⟨q1, q2, q3, q4⟩ := eL i x hi
    have il := ge_lt hi
    refine bk_X4_heldSets_45 ?_
    rw [Int.toNat_natCast, uX.1 59 (by omega), q2]
    refine ⟨by omega, fun _ => ⟨by omega, h X v uX rX (SE_iff hv (fun a' b' m' so fa => ?_))⟩, fun q => by omega⟩
    refine or_congr Iff.rfl (and_congr Iff.rfl (and_congr Iff.rfl (and_congr ?_ Iff.rfl)))
    omega
  | n + 1, m, v, X, m0, m1, e, uX, rX, hv => by
    obtain ⟨e5, eL⟩ := mX
    obtain ⟨q1, q2, q3, q4⟩ := eL i x hi
    have il := ge_lt hi
    have fX : LFr I X := LFr_tr f0 (LFr_u uX)
    have hX := CTY_fr hT (CF_l fX)
    have A := LFr_A fX
    refine bk_X4_heldSets_45 ?_
    rw [Int.toNat_natCast, uX.1 59 (by omega), uX.1 60 (by omega), q2, q3]
    refine ⟨by omega, fun q => ⟨by omega, h X v uX rX (SE_iff hv (fun a' b' m' so fa => ?_))⟩, fun q => ⟨by omega, ?_⟩⟩
    · refine or_congr Iff.rfl (and_congr Iff.rfl (and_congr Iff.rfl (and_congr ?_ Iff.rfl)))
      omega
    · refine c1_holding hX.1 hX.2.2.2.2.2.1 rX a0 ab b4 x2.1 x2.2 (by omega) (by omega) (fun Y s uY rY s0 s1 hs => ⟨by omega, ?_⟩)
      have hs' : HS I a b m (soS x.2.2.1) (faS x.2.2.1) s := fun u u0 u1 => by
        have := hs u u0 u1
        rw [A.1, Hld_fr A.2.2.2.2.2.2.1 A.2.2.2.2.2.2.2.1 A.2.2.2.2.2.2.2.2] at this
        exact this
      refine held_m hT a0 ab b4 f0 ⟨e5, eL⟩ hi len x0 x1 x2 h n (m + 1) _ Y (by omega) (by omega) (by omega) (UFr_tr uX uY) rY (SE_iff (SE_add hv s0 s1 hs') (fun a' b' m' so fa => ?_))
      constructor
      · rintro ((z | ⟨z1, z2, z3, z4, z5⟩) | ⟨z1, z2, z3, z4, z5⟩)
        · exact Or.inl z
        · exact Or.inr ⟨z1, z2, by omega, z4, z5⟩
        · exact Or.inr ⟨z1, z2, by omega, z4, z5⟩
      · rintro (z | ⟨z1, z2, z3, z4, z5⟩)
        · exact Or.inl (Or.inl z)
        · by_cases em : m' = m
          · exact Or.inr ⟨z1, z2, em, z4, z5⟩
          · exact Or.inl (Or.inr ⟨z1, z2, by omega, z4, z5⟩)
theorem held_s {X0 : HI} {a b : Int} {L : List Spn} (hT : CTY I) (a0 : 0 ≤ a) (ab : a < b) (b4 : b < 4) (f0 : LFr I X0) (mX : MSp X0 L) (len : L.length ≤ 1201) (rL : ∀ x ∈ L, 0 ≤ x.1 ∧ x.1 ≤ x.2.1 ∧ x.2.1 ≤ 999 ∧ 0 ≤ x.2.2.1 ∧ x.2.2.1 ≤ 21) (h : ∀ (Y : HI) (v : Int), UFr X0 Y → RCu Y → SE I (fun a' b' m so fa => a' = a ∧ b' = b ∧ ∃ x ∈ L, (x.1 ≤ m ∧ m ≤ x.2.1) ∧ so = soS x.2.2.1 ∧ fa = faS x.2.2.1) v → KI v Y) : ∀ (n i : Nat) (v : Int) (X : HI), i + n = L.length → UFr X0 X → RCu X → SE I (fun a' b' m so fa => a' = a ∧ b' = b ∧ ∃ (j : Nat) (x : Spn), j < i ∧ L[j]? = some x ∧ (x.1 ≤ m ∧ m ≤ x.2.1) ∧ so = soS x.2.2.1 ∧ fa = faS x.2.2.1) v → J none mX4_heldSets (d + 5) 0 0 21 [(0, vR 67), (1, vI a), (2, vI b), (3, vL v), (5, vI (i : Int))] [] (mk X) (PL KI)
  | 0, i, v, X, e, uX, rX, hv => by
    refine bk_X4_heldSets_21 ?_
    rw [uX.1 57 (by omega), mX.1]
    refine ⟨fun _ => PL_i (h X v uX rX (SE_iff hv (fun a' b' m so fa => ?_))), fun q => by omega⟩
    refine and_congr Iff.rfl (and_congr Iff.rfl ⟨fun z => ?_, fun z => ?_⟩)
    · obtain ⟨j, x, z1, z2, z3⟩ := z
      exact ⟨x, List.mem_of_getElem? z2, z3⟩
    · obtain ⟨x, z1, z2⟩ := z
      obtain ⟨j, hj⟩ := List.getElem?_of_mem z1
      have := ge_lt hj
      exact ⟨j, x, by omega, hj, z2⟩
  | n + 1, i, v, X, e, uX, rX, hv => by
    obtain ⟨x, hi⟩ : ∃ x, L[i]? = some x := ⟨_, List.getElem?_eq_getElem (by omega)⟩
    have rx := rL x (List.mem_of_getElem? hi)
    refine bk_X4_heldSets_21 ?_
    rw [uX.1 57 (by omega), mX.1]
    refine ⟨fun q => by omega, fun _ => ⟨by omega, ?_⟩⟩
    rw [Int.toNat_natCast, uX.1 58 (by omega), (mX.2 i x hi).1]
    refine held_m (D := fun a' b' m so fa => a' = a ∧ b' = b ∧ ∃ (j : Nat) (x : Spn), j < i ∧ L[j]? = some x ∧ (x.1 ≤ m ∧ m ≤ x.2.1) ∧ so = soS x.2.2.1 ∧ fa = faS x.2.2.1) hT a0 ab b4 f0 mX hi len rx.1 rx.2.2.1 rx.2.2.2 (fun Y w uY rY hw => ?_) 1001 x.1 v X (Int.le_refl _) (by omega) (by omega) uX rX (SE_iff hv (fun a' b' m so fa => ⟨Or.inl, fun z => z.elim id (fun z => by omega)⟩))
    refine held_s hT a0 ab b4 f0 mX len rL h n (i + 1) w Y (by omega) uY rY (SE_iff hw (fun a' b' m so fa => ?_))
    constructor
    · rintro (⟨z1, z2, j, y, z3, z4⟩ | ⟨z1, z2, z3⟩)
      · exact ⟨z1, z2, j, y, by omega, z4⟩
      · exact ⟨z1, z2, i, x, by omega, hi, z3⟩
    · rintro ⟨z1, z2, j, y, z3, z4, z5⟩
      by_cases ej : j = i
      · subst ej
        rw [hi] at z4
        cases z4
        exact Or.inr ⟨z1, z2, z5⟩
      · exact Or.inl ⟨z1, z2, j, y, by omega, z4, z5⟩
theorem c4_heldSets {a b : Int} (hT : CTY I) (hR : RCu I) (w1 : ClW I cs) (ok : ∀ s : Int, 0 ≤ s → s < I 518 6 → OkW I s (cs s)) (a0 : 0 ≤ a) (ab : a < b) (b1 : b < I 518 6) (h : ∀ (Y : HI) (v : Int), LFr I Y → RCu Y → SE I (fun a' b' m so fa => a' = a ∧ b' = b ∧ C3 I cs a b m so fa) v → KI v Y) : CL mX4_heldSets (d + 5) [vR 67, vI a, vI b] I KI := by
  obtain ⟨hc, hs, hl, hso, hr, hC, hpa, hpb, hwo⟩ := id hT
  have n6 := hc.2.2.1
  refine bk_X4_heldSets_0 (c3_scanAll hc hs hso hr a0 (by omega) (by omega) b1 (w1 a a0 (by omega)).2 (w1 b (by omega) b1).2 (SW_of hc hs hl a0 (by omega) (ok a a0 (by omega))) (SW_of hc hs hl (by omega) b1 (ok b (by omega) b1)) (fun X L fX x7 x8 mX len sL cp => ?_))
  have lX : LFr I X := ⟨fun k hk => fX k (by omega), fun j _ => by rw [fX 62 (by omega)]⟩
  have rX : RCu X := RCu_fr hR (fun k k1 k2 => fX k (by omega)) (fX 518 (by omega)) (fX 524 (by omega)) (fX 526 (by omega)) (fX 527 (by omega))
  have lou : loudM I a b ≤ 20 := by
    have g1 := (hs.2 a a0 (by omega)).2.2.1
    have g2 := (hs.2 b (by omega) b1).2.2.1
    unfold loudM
    omega
  refine held_s hT a0 ab (by omega) lX mX len (fun x hx => ?_) (fun Y v uY rY hv => h Y v (LFr_tr lX (LFr_u uY)) rY (SE_iff hv (fun a' b' m so fa => ?_))) L.length 0 0 X (by omega) (UFr_rfl X) rX ⟨fun n hn z => ?_, fun a' b' m so fa z => ?_⟩
  · obtain ⟨g1, g2⟩ := sL x hx
    rcases g2 with g2 | g2
    · exact ⟨g1.1, g1.2.1, g1.2.2, by omega, by omega⟩
    · exact ⟨g1.1, g1.2.1, g1.2.2, by omega, by omega⟩
  · refine and_congr Iff.rfl (and_congr Iff.rfl ⟨fun z => ?_, fun z => ?_⟩)
    · obtain ⟨x, hx, ⟨m0, m1⟩, e1, e2⟩ := z
      obtain ⟨g1, g2⟩ := sL x hx
      rcases g2 with ⟨g2, g3, g4⟩ | ⟨g2, g3, g4⟩
      · refine Or.inl ⟨by rw [e1]; unfold soS; rw [if_neg (by omega)], ?_⟩
        have := g4 m m0 m1
        rw [e2]
        unfold faS
        rw [if_neg (by omega)]
        exact this
      · refine Or.inr ⟨by rw [e1]; unfold soS; rw [if_pos g2], by rw [e2]; unfold faS; rw [if_pos g2], x.2.2.2, g4 m m0 m1⟩
    · rcases z with ⟨e1, z⟩ | ⟨e1, e2, l, z⟩
      · obtain ⟨x, hx, g1, g2⟩ := cp.1 m fa z
        have := z.2.2.2.2.2.2
        refine ⟨x, hx, g2, ?_, ?_⟩
        · rw [e1]
          unfold soS
          rw [if_neg (by omega)]
        · unfold faS
          rw [if_neg (by omega), g1]
      · obtain ⟨x, hx, g1, g2, g3⟩ := cp.2 m l z
        refine ⟨x, hx, g3, ?_, ?_⟩
        · rw [e1]
          unfold soS
          rw [if_pos g1]
        · rw [e2]
          unfold faS
          rw [if_pos g1]
  · rw [lb_0] at z
    cases z
  · obtain ⟨_, _, j, x, z1, _⟩ := z
    omega
theorem exc_lp2 {b v : Int} (b0 : 0 ≤ b) (b1 : b < 64) (k1 : (∀ n : Nat, n < 64 → lb v n = true → oA n b ≠ 0) → KI 1 I) (k0 : (¬ ∀ n : Nat, n < 64 → lb v n = true → oA n b ≠ 0) → KI 0 I) : ∀ (n i : Nat), i + n = 64 → (∀ j : Nat, j < i → lb v j = true → oA j b ≠ 0) → J none mX4_excuses (d + 1) 0 0 3 [(0, vR 67), (1, vI b), (2, vL v), (4, vI (i : Int))] [] (mk I) (PI KI)
  | 0, i, e, hd => bk_X4_excuses_3 ⟨fun _ => PI_i (k1 (fun n hn => hd n (by omega))), fun q => by omega⟩
  | n + 1, i, e, hd => by
    have st : (lb v i = true → oA i b ≠ 0) → J none mX4_excuses (d + 1) 0 0 3 [(0, vR 67), (1, vI b), (2, vL v), (4, vI ((i : Int) + 1))] [] (mk I) (PI KI) := fun g => by
      have := exc_lp2 b0 b1 k1 k0 n (i + 1) (by omega) (fun j hj hb => by
        by_cases ej : j = i
        · subst ej
          exact g hb
        · exact hd j (by omega) hb)
      exact this
    refine bk_X4_excuses_3 ⟨fun q => by omega, fun _ => ?_⟩
    rw [lu_1 (by omega) (by omega), Int.toNat_natCast]
    by_cases hb : lb v i = true
    · rw [if_pos hb]
      exact ⟨fun q => by omega, fun _ => ⟨fun q => ⟨by omega, st (fun _ => q)⟩, fun q => PI_i (k0 (fun z => z i (by omega) hb q))⟩⟩
    · rw [if_neg hb]
      exact ⟨fun _ => ⟨by omega, st (fun z => absurd z hb)⟩, fun q => absurd rfl q⟩
theorem c4_excuses {b v : Int} (b0 : 0 ≤ b) (b1 : b < 64) (k1 : (∀ n : Nat, n < 64 → lb v n = true → oA n b ≠ 0) → KI 1 I) (k0 : (¬ ∀ n : Nat, n < 64 → lb v n = true → oA n b ≠ 0) → KI 0 I) : CI mX4_excuses (d + 1) [vR 67, vI b, vL v] I KI :=
  bk_X4_excuses_0 (exc_lp2 b0 b1 k1 k0 64 0 rfl (fun j hj => by omega))
theorem wdc_lp {st : Int} (hT : CTY I) (s0 : 0 ≤ st) (s1 : st < 64) : ∀ (n : Nat) (k a : Int), 0 ≤ k → k + n = I 518 9 → 0 ≤ a → a ≤ 1600 * k → KI (wds (fun k => I 528 (6 + k).toNat) st n k a) I → J none mX0_wordsOf (d + 1) 0 0 4 [(0, vR 1), (1, vI st), (2, vI a), (3, vI k)] [] (mk I) (PI KI)
  | 0, k, a, k0, e, a0, a1, h => by
    refine bk_X0_wordsOf_4 ?_
    rw [hT.1.1.2.2.2.2]
    exact ⟨fun _ => PI_i h, fun q => by omega⟩
  | n + 1, k, a, k0, e, a0, a1, h => by
    have n9 := hT.1.2.2.2.2.2
    have cw := hT.2.2.2.2.2.2.2.2 k k0 (by omega)
    refine bk_X0_wordsOf_4 ?_
    rw [hT.1.1.2.2.2.2, cw.1, bit_01 s0 (by omega) k0 (by omega)]
    unfold wds at h
    refine ⟨fun q => by omega, fun _ => ?_⟩
    by_cases b : bit st k = true
    · rw [if_pos b] at h ⊢
      exact ⟨fun q => by omega, fun _ => ⟨by omega, by omega, by omega, wdc_lp hT s0 s1 n (k + 1) _ (by omega) (by omega) (by omega) (by omega) h⟩⟩
    · rw [if_neg b] at h ⊢
      exact ⟨fun _ => ⟨by omega, wdc_lp hT s0 s1 n (k + 1) _ (by omega) (by omega) (by omega) (by omega) h⟩, fun q => absurd rfl q⟩
theorem c0_wordsOf {st : Int} (hT : CTY I) (s0 : 0 ≤ st) (s1 : st < 64) (h : KI (wdM I st) I) : CI mX0_wordsOf (d + 1) [vR 1, vI st] I KI :=
  bk_X0_wordsOf_0 (wdc_lp hT s0 s1 (I 518 9).toNat 0 0 (by omega) (by have := hT.1.2.2.2.2.2; omega) (by omega) (by omega) h)
theorem wdm_lp {st : Int} (hT : CTY I) (s0 : 0 ≤ st) (s1 : st < 64) : ∀ (n : Nat) (k a : Int), 0 ≤ k → k + n = I 518 9 → 0 ≤ a → a ≤ 1600 * k → KI (wds (fun k => I 528 (6 + k).toNat) st n k a) I → J none mX11_wordsOf (d + 2) 0 0 4 [(0, vR 489), (1, vI st), (2, vI a), (3, vI k)] [] (mk I) (PI KI)
  | 0, k, a, k0, e, a0, a1, h => by
    refine bk_X11_wordsOf_4 (c11_exceptions ?_)
    exact ⟨fun _ => PI_i h, fun q => by omega⟩
  | n + 1, k, a, k0, e, a0, a1, h => by
    have n9 := hT.1.2.2.2.2.2
    have cw := hT.2.2.2.2.2.2.2.2 k k0 (by omega)
    refine bk_X11_wordsOf_4 (c11_exceptions ?_)
    rw [bit_01 s0 (by omega) k0 (by omega)]
    unfold wds at h
    refine ⟨fun q => by omega, fun _ => ?_⟩
    by_cases b : bit st k = true
    · rw [if_pos b] at h ⊢
      exact ⟨fun q => absurd rfl q, fun _ => ⟨by omega, by omega, by omega, by omega, wdm_lp hT s0 s1 n (k + 1) _ (by omega) (by omega) (by omega) (by omega) h⟩⟩
    · rw [if_neg b] at h ⊢
      exact ⟨fun _ => ⟨by omega, wdm_lp hT s0 s1 n (k + 1) _ (by omega) (by omega) (by omega) (by omega) h⟩, fun q => by omega⟩
theorem c11_wordsOf {st : Int} (hT : CTY I) (s0 : 0 ≤ st) (s1 : st < 64) (h : KI (wdM I st) I) : CI mX11_wordsOf (d + 2) [vR 489, vI st] I KI :=
  bk_X11_wordsOf_0 (wdm_lp hT s0 s1 (I 518 9).toNat 0 0 (by omega) (by have := hT.1.2.2.2.2.2; omega) (by omega) (by omega) h)
end SO
