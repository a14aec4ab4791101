section OE
variable {d : Nat} {I : HI} {K : Int → HI → Prop} {K2 : Int → Int → HI → Prop} {cs : Int → List Int}
/-- the value of passes -/
def passV (I : HI) (s p : Int) (W : List Sp) : Int := if W = [] then -1 else if I 520 (10 + hm I s).toNat = p then 0 else passS (I 520) p W
theorem passes_m {s p : Int} (s0 : 0 ≤ s) (s1 : s < 4) (hb : I 518 5 ≤ 10) : ∀ (W : List Sp) (k : Int), SL I s k W → 0 ≤ k → k + W.length ≤ 24 → (∀ x ∈ W, 0 ≤ x.1 ∧ x.1 < I 518 5) → K (passS (I 520) p W) I → J none mX11_passes (d + 1) 0 0 55 [(0, vR 489), (1, vI s), (2, vI p), (3, vI (24 * s + k))] [] (mk I) (PI K)
  | [], k, hs, hk, hl, hx, h => by
    have e := SL_len _ _ hs
    simp at e
    refine bk_X11_passes_55 ?_
    (repeat' (with_reducible first | refine And.intro ?_ ?_ | intro _ | refine PI_i ?_ | refine PV_i ?_ | refine PL_i ?_)) <;> first | omega | exact h
  | x :: W, k, hs, hk, hl, hx, h => by
    have e := SL_len _ _ hs
    simp only [List.length_cons] at e hl
    obtain ⟨g1, g2, g3, g4, g5⟩ := hs
    have x1 := hx x List.mem_cons_self
    have ih := passes_m (p := p) s0 s1 hb W (k + 1) g5 (by omega) (by omega) (fun y hy => hx y (List.mem_cons_of_mem _ hy))
    refine bk_X11_passes_55 ?_
    rw [g2, g4, show 24 * s + k + 1 = 24 * s + (k + 1) from by omega]
    unfold passS at h
    (repeat' (with_reducible first | refine And.intro ?_ ?_ | intro _ | refine PI_i ?_ | refine PV_i ?_ | refine PL_i ?_)) <;> first | omega | skip
    · rw [if_neg (by assumption)] at h
      exact ih h
    · rw [if_pos (by assumption)] at h
      exact h
theorem firstIn_c {s p : Int} {t n : Nat} (hp : CPa I) (hc : CN I) (ht : TR t n) (hn : n ≤ 25) (h7 : I t 7 = 1) : ∀ (L : List Lg) (i : Int), AL I t 0 i L → 0 < i → i + L.length ≤ n → (∀ x ∈ L, 0 ≤ x.1 ∧ x.1 < I 518 5) → K (passL (I 520) p L) I → J none mX4_firstIn (d + 1) 0 0 13 [(0, vR 67), (1, vI s), (2, vI p), (3, vR t), (4, vI i)] [] (mk I) (PI K)
  | [], i, ha, hi, hl, hx, h => by
    have e := AL_len _ _ ha
    simp at e
    refine bk_X4_firstIn_13 ht ?_
    (repeat' (with_reducible first | refine And.intro ?_ ?_ | intro _ | refine PI_i ?_ | refine PV_i ?_ | refine PL_i ?_)) <;> first | omega | exact h
  | x :: L, i, ha, hi, hl, hx, h => by
    have e := AL_len _ _ ha
    simp only [List.length_cons] at e hl
    obtain ⟨g1, g2, g3, g4, g5, g6⟩ := ha
    have x1 := hx x List.mem_cons_self
    have x2 := hp x.1 x1.1 x1.2
    have b0 := hc.2.1
    have ih := firstIn_c (s := s) (p := p) hp hc ht hn h7 L (i + 1) g6 (by omega) (by omega) (fun y hy => hx y (List.mem_cons_of_mem _ hy))
    refine bk_X4_firstIn_13 ht ?_
    rw [g2, x2.1]
    unfold passL at h
    (repeat' (with_reducible first | refine And.intro ?_ ?_ | intro _ | refine PI_i ?_ | refine PV_i ?_ | refine PL_i ?_)) <;> first | omega | skip
    · rw [if_neg (by assumption)] at h
      exact ih h
    · rw [if_pos (by assumption)] at h
      refine K_eq h ?_
      omega
theorem op_passes {a b : Int} (hc : CN I) (hs : CSa I) (hl : CLa I) (hp : CPa I) (hw : RWy I cs) (h : ∀ x, K2 x x I) : CI mX10_passes (d + 3) [vR 0, vI a, vI b] I (fun x1 I1 => CI mX11_passes (d + 3) [vR 489, vI a, vI b] I1 (K2 x1)) := by
  have hc0 := hc
  obtain ⟨⟨c0, c1, c2, c3, c4⟩, b0, b1, b2, b3, b4⟩ := hc
  refine bk_X10_passes_0 (c10_isSaint (fun g1 g2 => ⟨fun q => by omega, fun q => ?_⟩) (fun g => ⟨fun q => PI_i ?_, fun q => by omega⟩))
  · have hW := hw a g1 (by omega)
    obtain ⟨w1, w2, w3, w4, w5, w6, w7⟩ := hw a g1 (by omega)
    have ok := wy_ok hc0 hs hl g1 (by omega) w1
    have ln := run_len I a (cs a) (hm I a) 0
    have ln2 := SL_len _ _ w4
    have hh := hm_rng hs g1 (by omega)
    have hin := run_in (s := a) (cs a) _ 0 hh.1 hh.2 w1
    have hh2 := hp _ hh.1 hh.2
    have key : CI mX11_passes (d + 3) [vR 489, vI a, vI b] I (K2 (if 1 ≤ b ∧ b ≤ 9 then passV I a b (wy I a (cs a)) else -1)) := by
      refine bk_X11_passes_0 (c11_isSaint b1 (fun _ _ => ⟨fun q => by omega, fun q => c11_isIn (fun p1 p2 => ⟨fun q => by omega, fun q => ⟨by omega, fun e => ?_, fun e => PI_i ?_⟩⟩) (fun p1 => ⟨fun q => PI_i ?_, fun q => by omega⟩)⟩) (fun g => by omega))
      · refine c11_homeOf g1 (by omega) ⟨by omega, by omega, fun z => ⟨by omega, ?_⟩, fun z => PI_i ?_⟩
        · have h5 := passes_m (d := d + 2) (p := b) (K := K2 (if 1 ≤ b ∧ b ≤ 9 then passV I a b (wy I a (cs a)) else -1)) g1 (by omega) (by omega) (wy I a (cs a)) 0 w4 (by omega) (by unfold wy; omega) hin ?_
          · rwa [show 24 * a + 0 = 24 * a from by omega] at h5
          · refine K2_eq h ?_
            rw [if_pos (by omega)]
            unfold passV
            rw [if_neg (by intro y; rw [y] at ln2; simp at ln2; exact e ln2), if_neg z]
        · refine K2_eq h ?_
          rw [if_pos (by omega)]
          unfold passV
          rw [if_neg (by intro y; rw [y] at ln2; simp at ln2; exact e ln2), if_pos z]
      · refine K2_eq h ?_
        rw [if_pos (by omega)]
        unfold passV
        rw [if_pos]
        exact List.length_eq_zero_iff.mp (by omega)
      · refine K2_eq h ?_
        rw [if_neg (by omega)]
    obtain ⟨⟨k1, k2, k3, k4, k5⟩, t2, t3, t4, t5⟩ := w7
    have pl := AL_len _ _ k3
    have hlg := legs_in _ 0 _ hin
    refine bk_X4_firstIn_0 ⟨by omega, bk_X4_firstIn_13 k1 ?_⟩
    rw [show (0 : Int).toNat = 0 from rfl, k2, hh2.1]
    refine ⟨fun e => PI_i (PI_i ?_), fun e => ⟨fun q => by omega, fun q => ⟨by omega, by omega, fun z => ⟨by omega, ?_⟩, fun z => ⟨fun q => absurd rfl q, fun _ => PI_i (PI_i ?_)⟩⟩⟩⟩
    · have hE : wy I a (cs a) = [] := by
        apply Classical.byContradiction
        intro q
        rcases t4.mpr q with q | q
        · exact q e
        · exact q rfl
      rw [hE] at key
      simp only [passV, if_true] at key
      simpa using key
    · have hE : wy I a (cs a) ≠ [] := t4.mp (Or.inl e)
      refine firstIn_c hp hc0 k1 k5 (by omega) (legs 0 (wy I a (cs a))) (0 + 1) k3 (by omega) (by omega) hlg ?_
      refine PI_i ?_
      by_cases hb : 1 ≤ b ∧ b ≤ 9
      · rw [if_pos hb] at key
        unfold passV at key
        rw [if_neg hE, if_neg z, pass_eq _ _ _ _ _ ok z] at key
        exact key
      · rw [if_neg hb] at key
        rw [passL_no]
        · exact key
        · intro x hx q
          have := hlg x hx
          have := hp x.1 this.1 this.2
          omega
    · have hE : wy I a (cs a) ≠ [] := t4.mp (Or.inl e)
      rw [if_pos (by omega)] at key
      unfold passV at key
      rw [if_neg hE, if_pos z] at key
      exact key
  · refine bk_X11_passes_0 (c11_isSaint b1 (fun _ _ => by omega) (fun g => ⟨fun q => PI_i (h _), fun q => by omega⟩))
end OE
