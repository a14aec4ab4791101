/-- how many of the first n have P -/
noncomputable def smP (P : Nat → Prop) : Nat → Int
  | 0 => 0
  | n + 1 => smP P n + iF (P n) 1 0
theorem smP_iff {P Q : Nat → Prop} : ∀ n : Nat, (∀ m, m < n → (P m ↔ Q m)) → smP P n = smP Q n
  | 0, h => rfl
  | n + 1, h => by
    unfold smP
    rw [smP_iff n (fun m hm => h m (by omega)), iF_iff (h n (by omega))]
theorem smP_0 {P : Nat → Prop} : ∀ n : Nat, (∀ m, m < n → ¬ P m) → smP P n = 0
  | 0, h => rfl
  | n + 1, h => by
    unfold smP
    rw [smP_0 n (fun m hm => h m (by omega)), iF_neg (h n (by omega))]
    rfl
theorem smP_rng (P : Nat → Prop) : ∀ n : Nat, 0 ≤ smP P n ∧ smP P n ≤ n
  | 0 => ⟨Int.le_refl _, Int.le_refl _⟩
  | n + 1 => by
    have ih := smP_rng P n
    unfold smP
    by_cases h : P n
    · rw [iF_pos h]
      omega
    · rw [iF_neg h]
      omega
/-- one more has P -/
theorem smP_add {P Q : Nat → Prop} {j : Nat} (hj : ¬ P j) (hq : Q j) (h : ∀ m, m ≠ j → (Q m ↔ P m)) : ∀ n : Nat, smP Q n = smP P n + (if j < n then 1 else 0)
  | 0 => by simp [smP]
  | n + 1 => by
    have ih := smP_add hj hq h n
    unfold smP
    rw [ih]
    by_cases e : n = j
    · subst e
      rw [iF_pos hq, iF_neg hj, if_neg (by omega), if_pos (by omega)]
    · rw [iF_iff (h n e)]
      by_cases g : j < n
      · rw [if_pos g, if_pos (by omega)]
        omega
      · rw [if_neg g, if_neg (by omega)]
        omega
/-- sums over the pairs -/
def rS (g : Int → Int → Int) (a : Int) : Int → Nat → Int
  | _, 0 => 0
  | b, k + 1 => g a b + rS g a (b + 1) k
def tS (g : Int → Int → Int) (n : Int) : Int → Nat → Int
  | _, 0 => 0
  | a, k + 1 => rS g a (a + 1) (n - (a + 1)).toNat + tS g n (a + 1) k
theorem rS_add (g h : Int → Int → Int) (a : Int) : ∀ (k : Nat) (b : Int), rS (fun x y => g x y + h x y) a b k = rS g a b k + rS h a b k
  | 0, b => rfl
  | k + 1, b => by
    unfold rS
    rw [rS_add g h a k]
    omega
theorem tS_add (g h : Int → Int → Int) (n : Int) : ∀ (k : Nat) (a : Int), tS (fun x y => g x y + h x y) n a k = tS g n a k + tS h n a k
  | 0, a => rfl
  | k + 1, a => by
    unfold tS
    rw [tS_add g h n k, rS_add]
    omega
theorem rS_z (a : Int) : ∀ (k : Nat) (b : Int), rS (fun _ _ => 0) a b k = 0
  | 0, b => rfl
  | k + 1, b => by
    unfold rS
    rw [rS_z a k]
    rfl
theorem tS_z (n : Int) : ∀ (k : Nat) (a : Int), tS (fun _ _ => 0) n a k = 0
  | 0, a => rfl
  | k + 1, a => by
    unfold tS
    rw [tS_z n k, rS_z]
    rfl
/-- sums over minutes of sums over pairs -/
noncomputable def mS (C : Int → Int → Nat → Prop) (n : Int) : Nat → Int
  | 0 => 0
  | m + 1 => mS C n m + tS (fun a b => iF (C a b m) 1 0) n 0 n.toNat
theorem mS_eq (C : Int → Int → Nat → Prop) (n : Int) : ∀ k : Nat, mS C n k = tS (fun a b => smP (C a b) k) n 0 n.toNat
  | 0 => by
    unfold mS smP
    rw [tS_z]
  | k + 1 => by
    unfold mS
    rw [mS_eq C n k]
    show _ = tS (fun a b => smP (C a b) k + iF (C a b k) 1 0) n 0 n.toNat
    rw [tS_add]
theorem rS_rng {g : Int → Int → Int} {M : Int} (hM : 0 ≤ M) (hg : ∀ a b, 0 ≤ g a b ∧ g a b ≤ M) (a : Int) : ∀ (k : Nat) (b : Int), 0 ≤ rS g a b k ∧ rS g a b k ≤ M * k
  | 0, b => by simp [rS]
  | k + 1, b => by
    have ih := rS_rng hM hg a k (b + 1)
    have := hg a b
    unfold rS
    rw [show ((k + 1 : Nat) : Int) = (k : Int) + 1 from by omega, Int.mul_add]
    omega
/-- which minutes clash, by sort -/
def CSo2 (I : HI) (cs : Int → List Int) (so : Int) (a b : Int) (m : Nat) : Prop := if so = 0 then ∃ f, DRw I a b (hm I a) (hm I b) (wy I a (cs a)) (wy I b (cs b)) m f else ∃ l, UPw I b (wy I a (cs a)) (wy I b (cs b)) m l ∨ UPw I a (wy I b (cs b)) (wy I a (cs a)) m l
/-- the night's marks -/
def RNi (I : HI) : Prop := 0 ≤ I 67 5 ∧ ∀ j : Nat, j < 1000 → I 68 j ≤ I 67 5
/-- what the night's looks change -/
def NFr (I X : HI) : Prop := (∀ k, (k < 57 ∨ 61 < k) → k ≠ 67 → k ≠ 68 → X k = I k) ∧ (∀ j, j ≠ 5 → X 67 j = I 67 j)
theorem NFr_rfl (I : HI) : NFr I I := ⟨fun _ _ _ _ => rfl, fun _ _ => rfl⟩
theorem NFr_tr {I X Y : HI} (h : NFr I X) (g : NFr X Y) : NFr I Y := ⟨fun k k1 k2 k3 => by rw [g.1 k k1 k2 k3, h.1 k k1 k2 k3], fun j hj => by rw [g.2 j hj, h.2 j hj]⟩
section TL
variable {d : Nat} {I : HI} {K : HI → Prop} {KI : Int → HI → Prop} {K2 : Int → Int → HI → Prop} {cs : Int → List Int} {H : List Sn}
theorem tally_c {a b so i fr to mk' : Int} {I0 : HI} (i0 : 0 ≤ i) (i1 : i < 1201) (fr0 : 0 ≤ fr) (to1 : to ≤ 999) (h59 : I0 59 i.toNat = to) (hmk : I0 67 5 = mk') (mk0 : 0 ≤ mk') (h : ∀ X : HI, (∀ k, k ≠ 68 → X k = I0 k) → (∀ u : Nat, X 68 u = mk' ∨ X 68 u = I0 68 u) → (∀ m : Nat, m < 1000 → (X 68 m = mk' ↔ I0 68 m = mk' ∨ (fr ≤ m ∧ (m : Int) ≤ to))) → J none mX4_tallyOf (d + 1) 0 0 32 [(0, vR 67), (1, vI a), (2, vI b), (3, vI so), (4, vI (smP (fun m => X 68 m = mk') 1000)), (5, vI (i + 1))] [] (mk X) (PI KI)) : ∀ (n : Nat) (m : Int) (X : HI), fr ≤ m → m + n = 1000 → (∀ k, k ≠ 68 → X k = I0 k) → (∀ u : Nat, X 68 u = mk' ∨ X 68 u = I0 68 u) → (∀ u : Nat, u < 1000 → (X 68 u = mk' ↔ I0 68 u = mk' ∨ (fr ≤ u ∧ (u : Int) ≤ to ∧ (u : Int) < m))) → J none mX4_tallyOf (d + 1) 0 0 83 [(0, vR 67), (1, vI a), (2, vI b), (3, vI so), (4, vI (smP (fun m => X 68 m = mk') 1000)), (5, vI i), (6, vI m)] [] (mk X) (PI KI)
  | 0, m, X, m0, e, f, ho, hX => by
    refine bk_X4_tallyOf_83 ?_
    rw [f 59 (by decide), h59]
    refine ⟨by omega, fun _ => ⟨by omega, h X f ho (fun u hu => by rw [hX u hu]; constructor <;> (rintro (z | z); exact Or.inl z; exact Or.inr (by omega)))⟩, fun q => by omega⟩
  | n + 1, m, X, m0, e, f, ho, hX => by
    have ih := tally_c (a := a) (b := b) (so := so) i0 i1 fr0 to1 h59 hmk mk0 h n (m + 1)
    have sr := smP_rng (fun m => X 68 m = mk') 1000
    refine bk_X4_tallyOf_83 ?_
    rw [f 59 (by decide), h59, f 67 (by decide), hmk]
    refine ⟨by omega, fun q => ⟨by omega, h X f ho (fun u hu => by rw [hX u hu]; constructor <;> (rintro (z | z); exact Or.inl z; exact Or.inr (by omega)))⟩, fun q => ⟨fun q2 => by omega, fun _ => ⟨by omega, fun q3 => ⟨by omega, ?_⟩, fun q3 => ⟨by omega, fun I1 e1 => ⟨by omega, by omega, ?_⟩⟩⟩⟩⟩
    · refine ih X (by omega) (by omega) f ho (fun u hu => ?_)
      rw [hX u hu]
      constructor
      · rintro (z | z)
        · exact Or.inl z
        · exact Or.inr (by omega)
      · rintro (z | z)
        · exact Or.inl z
        · by_cases eu : (u : Int) = m
          · have := (hX u hu).mp (by rw [show m.toNat = u from by omega] at q3; exact q3)
            exact this
          · exact Or.inr (by omega)
    · have sm := smP_add (P := fun m => X 68 m = mk') (Q := fun m => I1 68 m = mk') (j := m.toNat) q3 (by show I1 68 m.toNat = mk'; rw [e1, up_e]) (fun u hu => by show I1 68 u = mk' ↔ X 68 u = mk'; rw [e1, up_j hu]) 1000
      rw [if_pos (by omega)] at sm
      rw [← sm]
      refine ih I1 (by omega) (by omega) (fun k hk => by rw [e1, up_k hk, f k hk]) (fun u => ?_) (fun u hu => ?_)
      · by_cases eu : u = m.toNat
        · subst eu
          exact Or.inl (by rw [e1, up_e])
        · rw [e1, up_j eu]
          exact ho u
      by_cases eu : u = m.toNat
      · subst eu
        rw [e1, up_e]
        exact ⟨fun _ => Or.inr (by omega), fun _ => rfl⟩
      · rw [e1, up_j eu, hX u hu]
        constructor
        · rintro (z | z)
          · exact Or.inl z
          · exact Or.inr (by omega)
        · rintro (z | z)
          · exact Or.inl z
          · exact Or.inr (by omega)
theorem tally_b {a b so mk' : Int} {I0 : HI} {L : List Spn} (hso : so = 0 ∨ so = 1) (mI : MSp I0 L) (len : L.length ≤ 1201) (hL : ∀ x ∈ L, 0 ≤ x.1 ∧ x.1 ≤ x.2.1 ∧ x.2.1 ≤ 999) (hmk : I0 67 5 = mk') (mk0 : 0 ≤ mk') (h : ∀ X : HI, (∀ k, k ≠ 68 → X k = I0 k) → (∀ u : Nat, X 68 u = mk' ∨ X 68 u = I0 68 u) → (∀ m : Nat, m < 1000 → (X 68 m = mk' ↔ I0 68 m = mk' ∨ ∃ x ∈ L, (x.2.2.1 = 21 ↔ so = 1) ∧ x.1 ≤ m ∧ (m : Int) ≤ x.2.1)) → KI (smP (fun m => X 68 m = mk') 1000) X) : ∀ (n i : Nat) (X : HI), i + n = L.length → (∀ k, k ≠ 68 → X k = I0 k) → (∀ u : Nat, X 68 u = mk' ∨ X 68 u = I0 68 u) → (∀ m : Nat, m < 1000 → (X 68 m = mk' ↔ I0 68 m = mk' ∨ ∃ (j : Nat) (x : Spn), j < i ∧ L[j]? = some x ∧ (x.2.2.1 = 21 ↔ so = 1) ∧ x.1 ≤ m ∧ (m : Int) ≤ x.2.1)) → J none mX4_tallyOf (d + 1) 0 0 32 [(0, vR 67), (1, vI a), (2, vI b), (3, vI so), (4, vI (smP (fun m => X 68 m = mk') 1000)), (5, vI (i : Int))] [] (mk X) (PI KI)
  | 0, i, X, e, f, ho, hX => by
    refine bk_X4_tallyOf_32 ?_
    rw [f 57 (by decide), mI.1]
    refine ⟨fun _ => PI_i (h X f ho (fun m hm => ?_)), fun q => by omega⟩
    rw [hX m hm]
    constructor
    · rintro (z | ⟨j, x, _, hj, g⟩)
      · exact Or.inl z
      · exact Or.inr ⟨x, List.mem_of_getElem? hj, g⟩
    · rintro (z | ⟨x, hx, g⟩)
      · exact Or.inl z
      · obtain ⟨j, hj2, e2⟩ := List.mem_iff_getElem.mp hx
        exact Or.inr ⟨j, x, by omega, by rw [List.getElem?_eq_getElem hj2, e2], g⟩
  | n + 1, i, X, e, f, ho, hX => by
    have hi : i < L.length := by omega
    have gi := mI.2 i L[i] (List.getElem?_eq_getElem hi)
    have mem : L[i] ∈ L := List.getElem_mem hi
    have r := hL _ mem
    have ih := tally_b (a := a) (b := b) hso mI len hL hmk mk0 h n (i + 1)
    rw [show ((i + 1 : Nat) : Int) = (i : Int) + 1 from by omega] at ih
    have skip : ¬ ((L[i]).2.2.1 = 21 ↔ so = 1) → J none mX4_tallyOf (d + 1) 0 0 32 [(0, vR 67), (1, vI a), (2, vI b), (3, vI so), (4, vI (smP (fun m => X 68 m = mk') 1000)), (5, vI ((i : Int) + 1))] [] (mk X) (PI KI) := fun ns => by
      refine ih X (by omega) f ho (fun m hm => ?_)
      rw [hX m hm]
      constructor
      · rintro (z | ⟨j, x, j1, j2, g⟩)
        · exact Or.inl z
        · exact Or.inr ⟨j, x, by omega, j2, g⟩
      · rintro (z | ⟨j, x, j1, j2, g⟩)
        · exact Or.inl z
        · by_cases ej : j = i
          · subst ej
            rw [List.getElem?_eq_getElem hi] at j2
            simp only [Option.some.injEq] at j2
            rw [← j2] at g
            exact absurd g.1 ns
          · exact Or.inr ⟨j, x, by omega, j2, g⟩
    have take : ((L[i]).2.2.1 = 21 ↔ so = 1) → J none mX4_tallyOf (d + 1) 0 0 83 [(0, vR 67), (1, vI a), (2, vI b), (3, vI so), (4, vI (smP (fun m => X 68 m = mk') 1000)), (5, vI (i : Int)), (6, vI (L[i]).1)] [] (mk X) (PI KI) := fun ys => by
      refine tally_c (I0 := X) (fr := (L[i]).1) (to := (L[i]).2.1) (mk' := mk') (by omega) (by omega) r.1 r.2.2 (by rw [f 59 (by decide), Int.toNat_natCast]; exact gi.2.1) (by rw [f 67 (by decide)]; exact hmk) mk0 (fun Y fY oY hY => ?_) (1000 - (L[i]).1.toNat) (L[i]).1 X (by omega) (by omega) (fun _ _ => rfl) (fun _ => Or.inr rfl) (fun u hu => ?_)
      · refine ih Y (by omega) (fun k hk => by rw [fY k hk, f k hk]) (fun u => ?_) (fun m hm => ?_)
        · rcases oY u with z | z
          · exact Or.inl z
          · rw [z]
            exact ho u
        rw [hY m hm, hX m hm]
        constructor
        · rintro ((z | ⟨j, x, j1, j2, g⟩) | z)
          · exact Or.inl z
          · exact Or.inr ⟨j, x, by omega, j2, g⟩
          · exact Or.inr ⟨i, L[i], by omega, List.getElem?_eq_getElem hi, ys, z.1, z.2⟩
        · rintro (z | ⟨j, x, j1, j2, g⟩)
          · exact Or.inl (Or.inl z)
          · by_cases ej : j = i
            · subst ej
              rw [List.getElem?_eq_getElem hi] at j2
              simp only [Option.some.injEq] at j2
              rw [← j2] at g
              exact Or.inr g.2
            · exact Or.inl (Or.inr ⟨j, x, by omega, j2, g⟩)
      · constructor
        · intro z
          exact Or.inl z
        · rintro (z | z)
          · exact z
          · omega
    refine bk_X4_tallyOf_32 ?_
    rw [f 57 (by decide), mI.1, f 60 (by decide), f 58 (by decide), Int.toNat_natCast, gi.2.2.1, gi.1]
    refine ⟨fun q => by omega, fun _ => ⟨by omega, fun q => ⟨fun q2 => ⟨by omega, take ⟨fun z => absurd z q, fun z => by omega⟩⟩, fun q2 => ⟨by omega, skip (fun z => q (z.mpr (by omega)))⟩⟩, fun q => ⟨fun q2 => ⟨by omega, take ⟨fun _ => q2.symm, fun _ => q⟩⟩, fun q2 => ⟨by omega, skip (fun z => q2 (z.mp q).symm)⟩⟩⟩⟩
theorem c4_tallyOf {a b so : Int} (hc : CN I) (hs : CSa I) (hl : CLa I) (hcs : CSo I) (hr : CRa I) (a0 : 0 ≤ a) (a1 : a < I 518 6) (b0 : 0 ≤ b) (b1 : b < I 518 6) (w1 : ClW I cs) (ok : ∀ s : Int, 0 ≤ s → s < I 518 6 → OkW I s (cs s)) (hN : RNi I) (bd : I 67 5 ≤ 1000000) (hso : so = 0 ∨ so = 1) (h : ∀ X : HI, NFr I X → RNi X → X 67 5 = I 67 5 + 1 → KI (smP (CSo2 I cs so a b) 1000) X) : CI mX4_tallyOf (d + 5) [vR 67, vI a, vI b, vI so] I KI := by
  have sA := SW_of hc hs hl a0 a1 (ok a a0 a1)
  have sB := SW_of hc hs hl b0 b1 (ok b b0 b1)
  have hN1 := hN.1
  have n6 := hc.2.2.1
  refine bk_X4_tallyOf_0 ⟨by omega, fun I1 e1 => ?_⟩
  have f : ∀ k, k ≠ 67 → I1 k = I k := fun k hk => by rw [e1, up_k hk]
  have f518 := f 518 (by decide)
  have f522 := f 522 (by decide)
  have f531 := f 531 (by decide)
  have f489 := f 489 (by decide)
  have hmf : ∀ s, hm I1 s = hm I s := fun s => hm_fr f522 s
  have swf : ∀ s W, SW I s W → SW I1 s W := fun s W g => by
    unfold SW at g ⊢
    rw [hmf, f518]
    exact g
  have tA := (w1 a a0 a1).2
  have tB := (w1 b b0 b1).2
  refine c3_scanAll (CN_fr hc (f 2 (by decide)) f518) (CSa_fr hs (f 7 (by decide)) f518 f522) (by
    unfold CSo at hcs ⊢
    rw [f518, f531, f 13 (by decide)]
    exact hcs) (CRa_fr hr (f 1 (by decide)) f489) a0 (by rw [f518]; exact a1) b0 (by rw [f518]; exact b1) (by rw [hmf]; exact TW_fr tA (fun k k1 k2 => f k (by omega))) (by rw [hmf]; exact TW_fr tB (fun k k1 k2 => f k (by omega))) (swf a _ sA) (swf b _ sB) (fun X L x1 x2 x3 x4 x5 x6 x7 => ?_)
  rw [hmf, hmf] at x6 x7
  have x6' : ∀ x ∈ L, SpS I a b (hm I a) (hm I b) (wy I a (cs a)) (wy I b (cs b)) x := fun x hx => (SpS_fr f531 f522 f489 _ _ _ _ _ _ _).mp (x6 x hx)
  have x7' := (CpS_fr f531 f522 f489 _ _ _ _ _ _ _).mp x7
  have m67 : X 67 5 = I 67 5 + 1 := by rw [x1 67 (by decide), e1, up_e]
  have nomark : ∀ m : Nat, m < 1000 → ¬ X 68 m = I 67 5 + 1 := fun m hm => by
    rw [x1 68 (by decide), f 68 (by decide)]
    have := hN.2 m hm
    omega
  have z0 : smP (fun m => X 68 m = I 67 5 + 1) 1000 = 0 := smP_0 1000 (fun m hm => nomark m hm)
  have l := tally_b (d := d + 4) (KI := KI) (a := a) (b := b) (so := so) (mk' := I 67 5 + 1) (I0 := X) hso x4 x5 (fun x hx => (x6' x hx).1) m67 (by omega) (fun Y fY oY hY => ?_) L.length 0 X (by omega) (fun _ _ => rfl) (fun _ => Or.inr rfl) (fun m hm => ⟨fun z => Or.inl z, fun z => by rcases z with z | ⟨j, x, j1, _⟩; exact z; omega⟩)
  · rw [z0] at l
    exact l
  · have key : ∀ m : Nat, m < 1000 → (Y 68 m = I 67 5 + 1 ↔ CSo2 I cs so a b m) := fun m hm => by
      rw [hY m hm]
      unfold CSo2
      constructor
      · rintro (z | ⟨x, hx, g1, g2, g3⟩)
        · exact absurd z (nomark m hm)
        · have sx := (x6' x hx).2
          rcases hso with rfl | rfl
          · rw [if_pos rfl]
            rcases sx with ⟨s1, s2, s3⟩ | ⟨s1, s2, s3⟩
            · exact ⟨_, s3 m g2 g3⟩
            · have := g1.mp s1
              omega
          · rw [if_neg (by omega)]
            rcases sx with ⟨s1, s2, s3⟩ | ⟨s1, s2, s3⟩
            · have := g1.mpr rfl
              omega
            · exact ⟨_, s3 m g2 g3⟩
      · intro z
        rcases hso with rfl | rfl
        · rw [if_pos rfl] at z
          obtain ⟨f', z⟩ := z
          obtain ⟨x, hx, g1, g2, g3⟩ := x7'.1 m f' z
          refine Or.inr ⟨x, hx, ⟨fun q => ?_, fun q => by omega⟩, g2, g3⟩
          have lg := z.2.2.2.2.2.2
          have la := (hs.2 a a0 a1).2.2.1
          have lb' := (hs.2 b b0 b1).2.2.1
          unfold loudM at lg
          omega
        · rw [if_neg (by omega)] at z
          obtain ⟨l', z⟩ := z
          obtain ⟨x, hx, g1, g2, g3, g4⟩ := x7'.2 m l' z
          exact Or.inr ⟨x, hx, ⟨fun _ => rfl, fun _ => g1⟩, g3, g4⟩
    rw [smP_iff 1000 key]
    have fin : ∀ k, k ≠ 68 → Y k = X k := fY
    refine h Y ⟨fun k k1 k2 k3 => by rw [fY k k3, x1 k k1, f k k2], fun j hj => by rw [fY 67 (by decide), x1 67 (by decide), e1, up_j hj]⟩ ⟨by rw [fY 67 (by decide), m67]; omega, fun j hj => ?_⟩ (by rw [fY 67 (by decide), m67])
    rw [fY 67 (by decide), m67]
    rcases oY j with z | z
    · omega
    · rw [z, x1 68 (by decide), f 68 (by decide)]
      have := hN.2 j hj
      omega
end TL
