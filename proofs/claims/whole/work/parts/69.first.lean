theorem on_lt {on n e : Int} (n0 : 0 ≤ n) (n6 : n ≤ 6) (h0 : 0 ≤ on) (h : on < oSl 1 n) (hb : bit on e = true) : e < n := by
  rcases Int.lt_or_le e n with q | q
  · exact q
  · rw [oSl_1 n0 (by omega)] at h
    have := bit_hi (x := on) (j := e) n.toNat h0 (by exact_mod_cast h) (by omega)
    rw [this] at hb
    exact absurd hb (by decide)
section FI
variable {d : Nat} {I : HI} {K : HI → Prop} {KI : Int → HI → Prop}
theorem first_b {sp on fr to w p : Int} (e6 : I 518 9 ≤ 6 ∧ 0 ≤ I 518 9) (a b sl : Int) (on0 : 0 ≤ on) (on1 : on < oSl 1 (I 518 9)) (w0 : 0 ≤ w) (w1 : w < 16) (p0 : 0 ≤ p) (p1 : p < 12667) (to1 : -1 ≤ to ∧ to ≤ 1000) {X : HI} (hp : ∀ u : Int, 0 ≤ u → bit on u = true → u < I 518 9 → ∀ j : Nat, j < 64 → (lb (X 63 (p + u).toNat) j = true ↔ Hld I u (w * 64 + j) (soS sl) (faS sl) a b)) (hz : (∀ j : Nat, j < 64 → fr ≤ w * 64 + j → ∃ u : Int, 0 ≤ u ∧ u < I 518 9 ∧ bit on u = true ∧ Hld I u (w * 64 + j) (soS sl) (faS sl) a b) → J none mX1_firstUnexcused (d + 4) 0 0 23 [(0, vR 62), (1, vR 57), (2, vI sp), (3, vI on), (4, vI fr), (5, vI to), (6, vI (w + 1))] [] (mk X) (PI KI)) (hk : ∀ k : Nat, k < 64 → fr ≤ w * 64 + k → (∀ u : Int, 0 ≤ u → u < I 518 9 → bit on u = true → ¬ Hld I u (w * 64 + k) (soS sl) (faS sl) a b) → (∀ j : Nat, j < k → fr ≤ w * 64 + j → ∃ u : Int, 0 ≤ u ∧ u < I 518 9 ∧ bit on u = true ∧ Hld I u (w * 64 + j) (soS sl) (faS sl) a b) → KI (min (w * 64 + k) (to + 1)) X) : ∀ (n : Nat) (e v : Int), 0 ≤ e → e + n = 6 → lrg v → (∀ i : Nat, i < 64 → (lb v i = true ↔ (fr ≤ w * 64 + i ∧ ∀ u : Int, 0 ≤ u → u < e → bit on u = true → ¬ Hld I u (w * 64 + i) (soS sl) (faS sl) a b))) → J none mX1_firstUnexcused (d + 4) 0 0 100 [(0, vR 62), (1, vR 57), (2, vI sp), (3, vI on), (4, vI fr), (5, vI to), (6, vI w), (7, vL v), (9, vI p), (10, vI e)] [] (mk X) (PI KI)
  | 0, e, v, e0, he, hr, hv => by
    have ex : ∀ i : Nat, i < 64 → lb v i = false → fr ≤ w * 64 + i → ∃ u : Int, 0 ≤ u ∧ u < I 518 9 ∧ bit on u = true ∧ Hld I u (w * 64 + i) (soS sl) (faS sl) a b := by
      intro i hi hf hfr
      by_cases g : ∃ u : Int, 0 ≤ u ∧ u < I 518 9 ∧ bit on u = true ∧ Hld I u (w * 64 + i) (soS sl) (faS sl) a b
      · exact g
      · exfalso
        have := (hv i hi).mpr ⟨hfr, fun u u0 u1 u2 u3 => g ⟨u, u0, on_lt e6.2 e6.1 on0 on1 u2, u2, u3⟩⟩
        rw [hf] at this
        exact absurd this (by decide)
    refine bk_X1_firstUnexcused_100 ⟨fun _ => ⟨fun q => ⟨by omega, hz (fun j hj hfr => ex j hj (by rw [q, lb_0]) hfr)⟩, fun q => ⟨by omega, ?_⟩⟩, fun q => by omega⟩
    obtain ⟨k, k0, k1, k2⟩ := lb_least hr q
    refine c_ntz64 k0 k1 k2 ⟨by omega, by omega, PI_i ?_⟩
    have g := (hv k k0).mp k1
    exact hk k k0 g.1 (fun u u0 u1 u2 => g.2 u u0 (by omega) u2) (fun j hj hfr => ex j (by omega) (k2 j hj) hfr)
  | n + 1, e, v, e0, he, hr, hv => by
    have p2 := p2_le e6.2 e6.1
    have ih := first_b e6 a b sl on0 on1 w0 w1 p0 p1 to1 hp hz hk n (e + 1)
    refine bk_X1_firstUnexcused_100 ⟨fun q => by omega, fun _ => ⟨fun q => ⟨by omega, ?_⟩, fun q => ⟨by omega, by omega, by omega, ?_⟩⟩⟩
    · have nb := (sb_0 on0 (by omega) e0 (by omega)).mp q
      refine ih v (by omega) (by omega) hr (fun i hi => ?_)
      rw [hv i hi]
      constructor
      · rintro ⟨z1, z2⟩
        refine ⟨z1, fun u u0 u1 u2 => ?_⟩
        by_cases eu : u = e
        · subst eu
          rw [nb] at u2
          exact absurd u2 (by decide)
        · exact z2 u u0 (by omega) u2
      · rintro ⟨z1, z2⟩
        exact ⟨z1, fun u u0 u1 u2 => z2 u u0 (by omega) u2⟩
    · have bt : bit on e = true := by
        cases hb : bit on e with
        | true => rfl
        | false => exact absurd ((sb_0 on0 (by omega) e0 (by omega)).mpr hb) q
      have el := on_lt e6.2 e6.1 on0 on1 bt
      refine ih _ (by omega) (by omega) (lrg_A _ _) (fun i hi => ?_)
      rw [lb_A, Bool.and_eq_true, hv i hi, lb_N _ hi]
      have hh := hp e e0 bt el i hi
      constructor
      · rintro ⟨⟨z1, z2⟩, z3⟩
        refine ⟨z1, fun u u0 u1 u2 u3 => ?_⟩
        by_cases eu : u = e
        · subst eu
          rw [hh.mpr u3] at z3
          exact absurd z3 (by decide)
        · exact z2 u u0 (by omega) u2 u3
      · rintro ⟨z1, z2⟩
        refine ⟨⟨z1, fun u u0 u1 u2 => z2 u u0 (by omega) u2⟩, ?_⟩
        cases hb : lb (X 63 (p + e).toNat) i with
        | false => rfl
        | true => exact absurd (hh.mp hb) (z2 e e0 (by omega) bt)
/-- the first minute of a span that isn't excepted -/
theorem first_a {sp fr to : Int} (hc : CN I) (hC : CCo I) (sp0 : 0 ≤ sp) (sp1 : sp < 1201) (on0 : 0 ≤ I 489 64) (on1 : I 489 64 < oSl 1 (I 518 9)) (a0 : 0 ≤ I 57 7) (ab : I 57 7 < I 57 8) (b4 : I 57 8 < 4) (s0 : 0 ≤ I 60 sp.toNat) (s1 : I 60 sp.toNat ≤ 21) (fr0 : 0 ≤ fr) (frto : fr ≤ to) (to1 : to ≤ 999) (h : ∀ (X : HI) (r : Int), UFr I X → RCu X → fr ≤ r → r ≤ to + 1 → (∀ m, fr ≤ m → m < r → Exc I m (soS (I 60 sp.toNat)) (faS (I 60 sp.toNat)) (I 57 7) (I 57 8)) → (r ≤ to → ¬ Exc I r (soS (I 60 sp.toNat)) (faS (I 60 sp.toNat)) (I 57 7) (I 57 8)) → KI r X) : ∀ (n : Nat) (w : Int) (X : HI), fr / 64 ≤ w → w + n = 16 → UFr I X → RCu X → (∀ m, fr ≤ m → m < w * 64 → Exc I m (soS (I 60 sp.toNat)) (faS (I 60 sp.toNat)) (I 57 7) (I 57 8)) → J none mX1_firstUnexcused (d + 4) 0 0 23 [(0, vR 62), (1, vR 57), (2, vI sp), (3, vI (I 489 64)), (4, vI fr), (5, vI to), (6, vI w)] [] (mk X) (PI KI)
  | 0, w, X, hw, e, hu, hr, hex => by
    refine bk_X1_firstUnexcused_23 ?_
    rw [oD_div (x := to) (by omega) (by omega) (by omega) (by omega)]
    refine ⟨fun _ => ⟨by omega, PI_i (h X _ hu hr (by omega) (by omega) (fun m m0 m1 => hex m m0 (by omega)) (fun q => by omega))⟩, fun q => by omega⟩
  | n + 1, w, X, hw, e, hu, hr, hex => by
    have e6 := hc.2.2.2.2.2
    have p2 := p2_le e6.1 e6.2
    have ih := first_a hc hC sp0 sp1 on0 on1 a0 ab b4 s0 s1 fr0 frto to1 h n (w + 1)
    have f57 := hu.1 57 (by decide)
    have f60 := hu.1 60 (by decide)
    have f518 := hu.1 518 (by decide)
    have f524 := hu.1 524 (by decide)
    have f526 := hu.1 526 (by decide)
    have f527 := hu.1 527 (by decide)
    -- a word of minutes, from any start of its bits
    have word : ∀ (Y : HI) (v p : Int), UFr I Y → RCu Y → lrg v → 0 ≤ p → p < 12667 → (∀ i : Nat, i < 64 → (lb v i = true ↔ fr ≤ w * 64 + i)) → (∀ u : Int, 0 ≤ u → bit (I 489 64) u = true → u < I 518 9 → ∀ j : Nat, j < 64 → (lb (Y 63 (p + u).toNat) j = true ↔ Hld I u (w * 64 + j) (soS (I 60 sp.toNat)) (faS (I 60 sp.toNat)) (I 57 7) (I 57 8))) → J none mX1_firstUnexcused (d + 4) 0 0 100 [(0, vR 62), (1, vR 57), (2, vI sp), (3, vI (I 489 64)), (4, vI fr), (5, vI to), (6, vI w), (7, vL v), (9, vI p), (10, vI 0)] [] (mk Y) (PI KI) := by
      intro Y v p hY rY lv p0 p1 hv hp
      refine first_b ⟨e6.2, e6.1⟩ (I 57 7) (I 57 8) (I 60 sp.toNat) on0 on1 (by omega) (by omega) p0 p1 (by omega) hp (fun z => ?_) (fun k k0 k1 k2 k3 => ?_) 6 0 v (by omega) (by omega) lv (fun i hi => ?_)
      · refine ih Y (by omega) (by omega) hY rY (fun m m0 m1 => ?_)
        by_cases q : m < w * 64
        · exact hex m m0 q
        · obtain ⟨u, u0, u1, u2, u3⟩ := z (m - w * 64).toNat (by omega) (by omega)
          rw [show w * 64 + (((m - w * 64).toNat : Nat) : Int) = m from by omega] at u3
          exact ⟨u, u0, u1, u2, u3⟩
      · refine h Y _ hY rY (by omega) (by omega) (fun m m0 m1 => ?_) (fun q => ?_)
        · by_cases q : m < w * 64
          · exact hex m m0 q
          · obtain ⟨u, u0, u1, u2, u3⟩ := k3 (m - w * 64).toNat (by omega) (by omega)
            rw [show w * 64 + (((m - w * 64).toNat : Nat) : Int) = m from by omega] at u3
            exact ⟨u, u0, u1, u2, u3⟩
        · rw [show min (w * 64 + (k : Int)) (to + 1) = w * 64 + k from by omega]
          rintro ⟨u, u0, u1, u2, u3⟩
          exact k2 u u0 u1 u2 u3
      · rw [hv i hi]
        exact ⟨fun z => ⟨z, fun u u0 u1 => by omega⟩, fun z => z.1⟩
    have two : ∀ v, lrg v → (∀ i : Nat, i < 64 → (lb v i = true ↔ fr ≤ w * 64 + i)) → (((I 489 64) ≠ 0 → ((0 : Int) ≤ sp ∧ (sp : Int) < 1201) ∧ CI mX1_wordsOf (d + 3) [vR 62, vI (X 57 7), vI (X 57 8), vI (X 60 sp.toNat), vI w] X (fun x1 I1 => J none mX1_firstUnexcused (d + 4) 0 0 100 [(0, vR 62), (1, vR 57), (2, vI sp), (3, vI (I 489 64)), (4, vI fr), (5, vI to), (6, vI w), (7, vL v), (9, vI x1), (10, vI 0)] [] (mk I1) (PI KI))) ∧ ((I 489 64) = 0 → J none mX1_firstUnexcused (d + 4) 0 0 100 [(0, vR 62), (1, vR 57), (2, vI sp), (3, vI (I 489 64)), (4, vI fr), (5, vI to), (6, vI w), (7, vL v), (9, vI 0), (10, vI 0)] [] (mk X) (PI KI))) := by
      intro v lv hv
      refine ⟨fun q => ⟨by omega, ?_⟩, fun q => word X v 0 hu hr lv (by omega) (by omega) hv (fun u u0 u1 => ?_)⟩
      · rw [f57, f60]
        have hCX : CCo X := by
          unfold CCo at hC ⊢
          simp only [mcode_fr f524 f526 f527]
          rw [f518, f526, f527, hu.1 10 (by decide), hu.1 9 (by decide)]
          exact hC
        have pr := plc_rng a0 ab b4 s0 s1 (w := w) (by omega) (by omega)
        refine c1_wordsOf (CN_fr hc (hu.1 2 (by decide)) f518) hCX hr a0 ab b4 s0 s1 (by omega) (by omega) (fun Y uY rY hY => ?_)
        refine word Y v _ (UFr_tr hu uY) rY lv (by omega) (by omega) hv (fun u u0 u1 u2 j hj => ?_)
        rw [hY u u0 (by rw [f518]; exact u2) j hj]
        exact Hld_fr f524 f526 f527 _ _ _ _ _ _
      · rw [q, bit_zero] at u1
        exact absurd u1 (by decide)
    refine bk_X1_firstUnexcused_23 ?_
    rw [oD_div (x := to) (by omega) (by omega) (by omega) (by omega), oD_div (x := fr) (by omega) (by omega) (by omega) (by omega), oM_mod (x := fr) (by omega) (by omega) (by omega) (by omega)]
    refine ⟨fun q => ⟨by omega, PI_i (h X _ hu hr (by omega) (by omega) (fun m m0 m1 => hex m m0 (by omega)) (fun q => by omega))⟩, fun q => ⟨fun q2 => by omega, fun _ => ⟨fun q3 => ?_, fun q3 => ?_⟩⟩⟩
    · exact two (-1) ⟨by omega, by omega⟩ (fun i hi => by rw [lb_m1 hi]; exact ⟨fun _ => by omega, fun _ => rfl⟩)
    · refine two _ (lrg_Sl _ _) (fun i hi => ?_)
      rw [lb_Sl (by omega) (by omega) hi, Bool.and_eq_true, decide_eq_true_iff, lb_m1 (by omega)]
      constructor
      · rintro ⟨z, _⟩
        omega
      · intro z
        exact ⟨by omega, rfl⟩
theorem c1_firstUnexcused {sp : Int} (hc : CN I) (hC : CCo I) (hR : RCu I) (sp0 : 0 ≤ sp) (sp1 : sp < 1201) (on0 : 0 ≤ I 489 64) (on1 : I 489 64 < oSl 1 (I 518 9)) (a0 : 0 ≤ I 57 7) (ab : I 57 7 < I 57 8) (b4 : I 57 8 < 4) (s0 : 0 ≤ I 60 sp.toNat) (s1 : I 60 sp.toNat ≤ 21) (fr0 : 0 ≤ I 58 sp.toNat) (frto : I 58 sp.toNat ≤ I 59 sp.toNat) (to1 : I 59 sp.toNat ≤ 999) (h : ∀ (X : HI) (r : Int), UFr I X → RCu X → I 58 sp.toNat ≤ r → r ≤ I 59 sp.toNat + 1 → (∀ m, I 58 sp.toNat ≤ m → m < r → Exc I m (soS (I 60 sp.toNat)) (faS (I 60 sp.toNat)) (I 57 7) (I 57 8)) → (r ≤ I 59 sp.toNat → ¬ Exc I r (soS (I 60 sp.toNat)) (faS (I 60 sp.toNat)) (I 57 7) (I 57 8)) → KI r X) : CI mX1_firstUnexcused (d + 4) [vR 62, vR 57, vI sp, vI (I 489 64)] I KI := by
  refine bk_X1_firstUnexcused_0 ⟨by omega, by omega, ?_⟩
  rw [oD_div (x := I 58 sp.toNat) (by omega) (by omega) (by omega) (by omega)]
  exact first_a hc hC sp0 sp1 on0 on1 a0 ab b4 s0 s1 fr0 frto to1 h (16 - (I 58 sp.toNat / 64).toNat) (I 58 sp.toNat / 64) I (by omega) (by omega) (UFr_rfl I) hR (fun m m0 m1 => by omega)
theorem holding_lp {a b sl m p : Int} (e6 : I 518 9 ≤ 6) (c24 : I 2 4 = I 518 9) (m0 : 0 ≤ m) (m1 : m ≤ 1000) (p0 : 0 ≤ p) (p1 : p < 12667) {G : Int → Prop} (hG : ∀ e : Int, 0 ≤ e → e < I 518 9 → (lb (I 63 (p + e).toNat) (m % 64).toNat = true ↔ G e)) (h : ∀ v : Int, 0 ≤ v → v < 64 → (∀ u : Int, 0 ≤ u → u < 6 → (bit v u = true ↔ u < I 518 9 ∧ G u)) → KI v I) : ∀ (n : Nat) (e v : Int), 0 ≤ e → e + n = I 518 9 → 0 ≤ v → v < 64 → (∀ u : Int, 0 ≤ u → u < 6 → (bit v u = true ↔ u < e ∧ G u)) → J none mX1_holding (d + 4) 0 0 20 [(0, vR 62), (1, vI a), (2, vI b), (3, vI sl), (4, vI m), (5, vI p), (6, vI v), (7, vI e)] [] (mk I) (PI KI)
  | 0, e, v, e0, he, v0, v1, hv => by
    refine bk_X1_holding_20 ⟨fun _ => PI_i (h v v0 v1 (fun u u0 u1 => ?_)), fun q => by omega⟩
    rw [hv u u0 u1, show e = I 518 9 from by omega]
  | n + 1, e, v, e0, he, v0, v1, hv => by
    have ih := holding_lp (a := a) (b := b) (sl := sl) e6 c24 m0 m1 p0 p1 hG h n (e + 1)
    have g := hG e e0 (by omega)
    have ee : oSl (l2 (lA (lUr (I 63 (p + e).toNat) (m % 64)) 1)) e = if lb (I 63 (p + e).toNat) (m % 64).toNat then oSl 1 e else 0 := by
      rw [lu_1 (by omega) (by omega)]
      split
      · rw [l2_id (by omega) (by omega)]
      · rw [l2_id (by omega) (by omega)]
        have ce : e = 0 ∨ e = 1 ∨ e = 2 ∨ e = 3 ∨ e = 4 ∨ e = 5 := by omega
        rcases ce with rfl | rfl | rfl | rfl | rfl | rfl <;> decide
    have pr := p2_rng (k := e) 6 (by omega) e0 (by omega)
    refine bk_X1_holding_20 ⟨fun q => by omega, fun _ => ⟨by omega, by omega, by omega, ?_⟩⟩
    rw [oM_mod (x := m) (by omega) (by omega) (by omega) (by omega), ee]
    split
    · rename_i q
      have r := or_rng 6 (by omega) (x := v) (y := oSl 1 e) v0 (by omega) (by omega) pr.2
      refine ih _ (by omega) (by omega) r.1 (by have := r.2; omega) (fun u u0 u1 => ?_)
      rw [bit_or v0 (by omega) (by omega) (by have := pr.2; omega), Bool.or_eq_true, hv u u0 u1, bit_p2 e0 (by omega) u0, decide_eq_true_iff]
      constructor
      · rintro (z | z)
        · exact ⟨by omega, z.2⟩
        · subst z
          exact ⟨by omega, g.mp q⟩
      · rintro ⟨z1, z2⟩
        by_cases eu : u = e
        · exact Or.inr eu
        · exact Or.inl ⟨by omega, z2⟩
    · rename_i q
      have e0' : oO v 0 = v := by
        rw [oO_or v0 (by omega) (by omega) (by omega)]
        simp
        omega
      rw [e0']
      refine ih v (by omega) (by omega) v0 v1 (fun u u0 u1 => ?_)
      rw [hv u u0 u1]
      constructor
      · rintro ⟨z1, z2⟩
        exact ⟨by omega, z2⟩
      · rintro ⟨z1, z2⟩
        by_cases eu : u = e
        · subst eu
          exact absurd (g.mpr z2) q
        · exact ⟨by omega, z2⟩
theorem c1_holding {a b sl m : Int} (hc : CN I) (hC : CCo I) (hR : RCu I) (a0 : 0 ≤ a) (ab : a < b) (b4 : b < 4) (s0 : 0 ≤ sl) (s1 : sl ≤ 21) (m0 : 0 ≤ m) (m1 : m ≤ 999) (h : ∀ (X : HI) (v : Int), UFr I X → RCu X → 0 ≤ v → v < 64 → (∀ u : Int, 0 ≤ u → u < 6 → (bit v u = true ↔ u < I 518 9 ∧ Hld I u m (soS sl) (faS sl) a b)) → KI v X) : CI mX1_holding (d + 4) [vR 62, vI a, vI b, vI sl, vI m] I KI := by
  have e6 := hc.2.2.2.2.2
  have c24 := hc.1.2.2.2.2
  refine bk_X1_holding_0 ?_
  rw [oD_div (by omega) (by omega) (by omega) (by omega)]
  have pr := plc_rng a0 ab b4 s0 s1 (w := m / 64) (by omega) (by omega)
  refine c1_wordsOf hc hC hR a0 ab b4 s0 s1 (by omega) (by omega) (fun X uX rX hX => ?_)
  have f518 := uX.1 518 (by decide)
  refine holding_lp (I := X) (G := fun u => Hld I u m (soS sl) (faS sl) a b) (by rw [f518]; exact e6.2) (by rw [f518, uX.1 2 (by decide)]; exact c24) m0 (by omega) (by omega) (by omega) (fun e e0 e1 => ?_) (fun v v0 v1 hv => h X v uX rX v0 v1 (fun u u0 u1 => by rw [hv u u0 u1, f518])) (X 518 9).toNat 0 0 (by omega) (by rw [f518]; omega) (by omega) (by omega) (fun u u0 u1 => ?_)
  · rw [hX e e0 (by rw [← f518]; exact e1) (m % 64).toNat (by omega), show m / 64 * 64 + (((m % 64).toNat : Nat) : Int) = m from by omega]
  · rw [bit_zero]
    constructor
    · intro z
      exact absurd z (by decide)
    · rintro ⟨z, _⟩
      omega
end FI
