/-- what both cities are read by, for ways -/
def CtF (I I0 : HI) : Prop := I 2 = I0 2 ∧ I 6 = I0 6 ∧ I 7 = I0 7 ∧ I 12 = I0 12 ∧ I 518 = I0 518 ∧ I 521 = I0 521 ∧ I 522 = I0 522
theorem laneM_fr {I I0 : HI} (h1 : I 518 = I0 518) (h2 : I 521 = I0 521) (a b : Int) : laneM I a b = laneM I0 a b := by
  unfold laneM
  rw [h1, h2]
theorem miM_fr {I I0 : HI} (h2 : I 521 = I0 521) (h3 : I 522 = I0 522) (s l : Int) : miM I s l = miM I0 s l := by
  unfold miM
  rw [h2, h3]
theorem hm_fr {I I0 : HI} (h3 : I 522 = I0 522) (s : Int) : hm I s = hm I0 s := by
  unfold hm
  rw [h3]
theorem run_fr {I I0 : HI} (h1 : I 518 = I0 518) (h2 : I 521 = I0 521) (h3 : I 522 = I0 522) (s : Int) : ∀ (cs : List Int) (c t : Int), runW I s c t cs = runW I0 s c t cs
  | [], c, t => rfl
  | x :: cs, c, t => by
    unfold runW
    rw [laneM_fr h1 h2, miM_fr h2 h3, run_fr h1 h2 h3 s cs, run_fr h1 h2 h3 s cs]
theorem wy_fr {I I0 : HI} (h1 : I 518 = I0 518) (h2 : I 521 = I0 521) (h3 : I 522 = I0 522) (s : Int) (cs : List Int) : wy I s cs = wy I0 s cs := by
  unfold wy
  rw [hm_fr h3, run_fr h1 h2 h3]
theorem okC_fr {I I0 : HI} (h1 : I 518 = I0 518) (h2 : I 521 = I0 521) : ∀ (cs : List Int) (c : Int), okC I c cs ↔ okC I0 c cs
  | [], c => Iff.rfl
  | x :: cs, c => by
    unfold okC
    rw [laneM_fr h1 h2, okC_fr h1 h2 cs, okC_fr h1 h2 cs, h1]
/-- codes of a saint in a row of the class that begins at b -/
def EC (A : Nat → Int) (b : Nat) (s : Int) (cs : List Int) : Prop := A (b + s.toNat) = cs.length ∧ ∀ k : Nat, k < cs.length → A (b + (4 + s * 24 + k).toNat) = cs.getD k 0
/-- codes that can be walked -/
def OkW (I : HI) (s : Int) (cs : List Int) : Prop := okC I (hm I s) cs ∧ cs.length ≤ 24 ∧ endS 0 (wy I s cs) ≤ 999
theorem OkW_fr {I I0 : HI} (h1 : I 518 = I0 518) (h2 : I 521 = I0 521) (h3 : I 522 = I0 522) {s : Int} {cs : List Int} (h : OkW I0 s cs) : OkW I s cs := by
  unfold OkW at h ⊢
  rw [wy_fr h1 h2 h3, okC_fr h1 h2, hm_fr h3]
  exact h
theorem RW_iff {I : HI} {s : Int} {cs : List Int} : RW I s cs ↔ OkW I s cs ∧ SL I s 0 (wy I s cs) ∧ EC (I 33) 0 s cs ∧ TW I (37 + 5 * s.toNat) 25 0 (hm I s) (wy I s cs) := by
  unfold RW OkW EC
  simp only [Nat.zero_add]
  constructor
  · rintro ⟨h1, h2, h3, h4, h5, h6, h7⟩
    exact ⟨⟨h1, h2, h3⟩, h4, ⟨h5, h6⟩, h7⟩
  · rintro ⟨⟨h1, h2, h3⟩, h4, ⟨h5, h6⟩, h7⟩
    exact ⟨h1, h2, h3, h4, h5, h6, h7⟩
/-- what is needed to walk on by one code -/
theorem wy_snoc (I : HI) (s : Int) (cs : List Int) (x : Int) : wy I s (cs ++ [x]) = wy I s cs ++ [if 100 < x then (lastS (hm I s) (wy I s cs), -1, endS 0 (wy I s cs) + (x - 100)) else (x, laneM I (lastS (hm I s) (wy I s cs)) x, endS 0 (wy I s cs) + miM I s (laneM I (lastS (hm I s) (wy I s cs)) x))] := by
  unfold wy
  rw [run_app]
  congr 1
  simp only [runW]
  split <;> rfl
theorem lastS_in {n : Int} : ∀ (W : List Sp) (c : Int), 0 ≤ c → c < n → (∀ x ∈ W, 0 ≤ x.1 ∧ x.1 < n) → 0 ≤ lastS c W ∧ lastS c W < n
  | [], c, h0, h1, h => ⟨h0, h1⟩
  | y :: W, c, h0, h1, h => by
    have := h y List.mem_cons_self
    exact lastS_in W y.1 this.1 this.2 (fun x hx => h x (List.mem_cons_of_mem _ hx))
/-- codes c1 ++ x :: c2 that can be walked, looked at before x -/
theorem ok_mid {I : HI} {s x : Int} {c1 c2 : List Int} (hc : CN I) (hs : CSa I) (hl : CLa I) (s0 : 0 ≤ s) (s1 : s < I 518 6) (h : OkW I s (c1 ++ x :: c2)) : okC I (hm I s) c1 ∧ okW (hm I s) 0 (wy I s c1) ∧ (0 ≤ lastS (hm I s) (wy I s c1) ∧ lastS (hm I s) (wy I s c1) < I 518 5) ∧ (0 ≤ endS 0 (wy I s c1) ∧ endS 0 (wy I s c1) ≤ 999) ∧ c1.length < 24 ∧ (if 100 < x then x ≤ 130 else (0 ≤ x ∧ x < I 518 5 ∧ laneM I (lastS (hm I s) (wy I s c1)) x ≠ -1)) := by
  obtain ⟨h1, h2, h3⟩ := h
  have g := (okC_app I s (x :: c2) c1 (hm I s) 0).mp h1
  have w1 := wy_ok hc hs hl s0 s1 g.1
  have hr := hm_rng hs s0 s1
  have hi := run_in (s := s) c1 _ 0 hr.1 hr.2 g.1
  have w2 : okW (lastS (hm I s) (wy I s c1)) (endS 0 (wy I s c1)) (runW I s (lastS (hm I s) (wy I s c1)) (endS 0 (wy I s c1)) (x :: c2)) := run_ok hc hs hl s0 s1 (x :: c2) _ (endS 0 (wy I s c1)) g.2
  have e : wy I s (c1 ++ x :: c2) = wy I s c1 ++ runW I s (lastS (hm I s) (wy I s c1)) (endS 0 (wy I s c1)) (x :: c2) := run_app I s (x :: c2) c1 (hm I s) 0
  rw [e, endS_app] at h3
  have e1 := end_ge _ _ _ w1
  have e2 := end_ge _ _ _ w2
  refine ⟨g.1, w1, lastS_in _ _ hr.1 hr.2 hi, ⟨e1, by omega⟩, ?_, ?_⟩
  · simp only [List.length_append, List.length_cons] at h2
    omega
  · have g2 := g.2
    unfold okC at g2
    split at g2
    · rename_i q
      rw [if_pos q]
      exact g2.1
    · rename_i q
      rw [if_neg q]
      exact g2.1
section RP
variable {d : Nat} {K : HI → Prop} {KI : Int → HI → Prop}
theorem replay_lp {I0 : HI} {s : Int} {cs : List Int} (hc : CN I0) (hs : CSa I0) (hl : CLa I0) (s0 : 0 ≤ s) (s1 : s < I0 518 6) (hec : EC (I0 33) 0 s cs) (hok : OkW I0 s cs) (h : ∀ I' : HI, (∀ k, (k < 37 + 5 * s.toNat ∨ 41 + 5 * s.toNat < k) → I' k = I0 k) → TW I' (37 + 5 * s.toNat) 25 0 (hm I0 s) (wy I0 s cs) → K I') : ∀ (c2 c1 : List Int) (I : HI), cs = c1 ++ c2 → (∀ k, (k < 37 + 5 * s.toNat ∨ 41 + 5 * s.toNat < k) → I k = I0 k) → TW I (37 + 5 * s.toNat) 25 0 (hm I0 s) (wy I0 s c1) → J none mX9_replay (d + 2) 0 0 24 [(0, vR 32), (1, vI s), (2, vR (37 + 5 * s.toNat)), (3, vI (c1.length : Int))] [] (mk I) (PV K)
  | [], c1, I, hcs, hf, hw => by
    rw [List.append_nil] at hcs
    subst hcs
    have b1 := hc.2.2.1
    have f33 := hf 33 (by omega)
    have e := hec.1
    rw [Nat.zero_add] at e
    have e2 := hok.2.1
    refine bk_X9_replay_24 hw.1.1 ⟨by omega, fun _ => PV_i (h I hf hw), fun g => ?_⟩
    rw [f33, e] at g
    omega
  | x :: c2, c1, I, hcs, hf, hw => by
    have b1 := hc.2.2.1
    have b0 := hc.2.1
    have b2 := hc.2.2.2.1
    have c20 := hc.1.1
    have hok' := hok
    rw [hcs] at hok'
    obtain ⟨g1, g2, g3, g4, g5, g6⟩ := ok_mid hc hs hl s0 s1 hok'
    have f2 := hf 2 (by omega)
    have f6 := hf 6 (by omega)
    have f7 := hf 7 (by omega)
    have f12 := hf 12 (by omega)
    have f33 := hf 33 (by omega)
    have el : (c1.length : Int) < cs.length := by
      rw [hcs]
      simp only [List.length_append, List.length_cons]
      omega
    have e := hec.1
    rw [Nat.zero_add] at e
    have ex : I0 33 (4 + s * 24 + (c1.length : Int)).toNat = x := by
      have := hec.2 c1.length (by omega)
      rw [Nat.zero_add] at this
      rw [this, hcs]
      simp
    have ww := wy_snoc I0 s c1 x
    have tp := AL_len _ _ hw.1.2.2.1
    have tl := legs_len (wy I0 s c1) 0
    have tn : (wy I0 s c1).length = c1.length := run_len I0 s c1 _ 0
    have fin := hw.2.1
    have lc : lastL (hm I0 s) (legs 0 (wy I0 s c1)) = lastS (hm I0 s) (wy I0 s c1) := (last_eq _ _ _ g2).symm
    have ih := replay_lp hc hs hl s0 s1 hec hok h c2 (c1 ++ [x])
    have len1 : (((c1 ++ [x]).length : Nat) : Int) = (c1.length : Int) + 1 := by simp
    rw [len1, ww] at ih
    refine bk_X9_replay_24 hw.1.1 ⟨by omega, fun g => ?_, fun _ => ⟨fun g => by omega, fun _ => ⟨by omega, by omega, by omega, by omega, ?_⟩⟩⟩
    · rw [f33, e] at g
      omega
    rw [f33, ex]
    refine ⟨fun hx => ?_, fun hx => ?_⟩
    · rw [if_neg (by omega)] at g6 ih
      obtain ⟨q1, q2, q3⟩ := g6
      refine c8_lastCorner hw.1 ?_
      rw [lc]
      have lr := laneM_rng (I := I0) (by omega) q3
      refine c9_laneTo g3.1 (by omega) (by rw [f2]; omega) (fun q => ?_) (fun _ _ => ?_)
      · rw [f2] at q
        omega
      · rw [f12, hl.2.2 _ _ g3.1 g3.2 q1 q2]
        refine ⟨fun q => absurd q q3, fun _ => ?_⟩
        have mr := miM_rng hs hl s0 s1 lr.1 lr.2
        have me : I 6 (laneM I0 (lastS (hm I0 s) (wy I0 s c1)) x * 4 + 2).toNat * I 7 (s * 4 + 1).toNat = miM I0 s (laneM I0 (lastS (hm I0 s) (wy I0 s c1)) x) := by
          rw [f6, f7, hl.1 _ 2 lr.1 lr.2 (by omega) (by omega), hs.1 s 1 s0 s1 (by omega) (by omega)]
          exact (miM_e lr.1).symm
        refine c0_minutesOf s0 (by omega) lr.1 (by omega) (by rw [me]; omega) ?_
        rw [me]
        refine c8_walkBy hw.1.1 (by omega) (by omega) (by omega) (by omega) (by omega) ⟨by omega, ?_⟩
        refine ih _ (by rw [hcs]; simp) (fun k hk => ?_) (TW_w hw (by omega) lr.1 (by omega))
        rw [wkb_f (by omega), hf k hk]
    · rw [if_pos (by omega)] at g6 ih
      refine ⟨by omega, c8_stay hw.1.1 (by omega) (by omega) ⟨by omega, ?_⟩⟩
      refine ih _ (by rw [hcs]; simp) (fun k hk => ?_) (TW_s hw)
      rw [sty_f (by omega), hf k hk]
theorem c9_replay {I : HI} {s : Int} {cs : List Int} (hc : CN I) (hs : CSa I) (hl : CLa I) (s0 : 0 ≤ s) (s1 : s < I 518 6) (hec : EC (I 33) 0 s cs) (hok : OkW I s cs) (h : ∀ I' : HI, (∀ k, (k < 37 + 5 * s.toNat ∨ 41 + 5 * s.toNat < k) → I' k = I k) → TW I' (37 + 5 * s.toNat) 25 0 (hm I s) (wy I s cs) → K I') : CV mX9_replay (d + 2) [vR 32, vI s] I K := by
  have b1 := hc.2.2.1
  have e : I 7 (s * 4).toNat = hm I s := by
    have := hs.1 s 0 s0 s1 (by omega) (by omega)
    rw [Int.add_zero, Int.add_zero] at this
    exact this
  have tr := TRw s0 (by omega)
  refine bk_X9_replay_0 ⟨by omega, by omega, by omega, c8_start tr (by omega) (by omega) ?_⟩
  rw [e]
  exact replay_lp hc hs hl s0 s1 hec hok h cs [] _ rfl (fun k hk => st0_f (by omega)) (TW_0 tr (by omega) (by omega))
theorem replayAll_lp {I0 : HI} {cs : Int → List Int} (hc : CN I0) (hs : CSa I0) (hl : CLa I0) (hec : ∀ s, 0 ≤ s → s < I0 518 6 → EC (I0 33) 0 s (cs s)) (hok : ∀ s, 0 ≤ s → s < I0 518 6 → OkW I0 s (cs s)) (h : ∀ I' : HI, (∀ k, k ≠ 32 → (k < 37 ∨ 56 < k) → I' k = I0 k) → (∀ j, j ≠ 7 → j ≠ 8 → j ≠ 9 → I' 32 j = I0 32 j) → I' 32 7 = 1 → I' 32 8 = 1 → I' 32 9 = 1 → (∀ s, 0 ≤ s → s < I0 518 6 → TW I' (37 + 5 * s.toNat) 25 0 (hm I0 s) (wy I0 s (cs s))) → K I') : ∀ (n : Nat) (s : Int) (I : HI), 0 ≤ s → s + n = I0 518 6 → (∀ k, (k < 37 ∨ 56 < k) → I k = I0 k) → (∀ u, 0 ≤ u → u < s → TW I (37 + 5 * u.toNat) 25 0 (hm I0 u) (wy I0 u (cs u))) → J none mX9_replayAll (d + 3) 0 0 2 [(0, vR 32), (1, vI s)] [] (mk I) (PV K)
  | 0, s, I, h0, h1, hf, hw => by
    have e := hc.1.2.2.1
    have f2 := hf 2 (by omega)
    refine bk_X9_replayAll_2 ⟨fun _ I1 e1 I2 e2 I3 e3 => PV_i ?_, fun g => ?_⟩
    · subst e1 e2 e3
      refine h _ (fun k k1 k2 => ?_) (fun j j1 j2 j3 => ?_) ?_ ?_ ?_ (fun u u0 u1 => TW_fr (hw u u0 (by omega)) (fun k k1 k2 => ?_))
      · rw [up_k k1, up_k k1, up_k k1, hf k k2]
      · rw [up_j j3, up_j j2, up_j j1, hf 32 (by omega)]
      · rw [up_j (by decide), up_j (by decide), up_e]
      · rw [up_j (by decide), up_e]
      · rw [up_e]
      · rw [up_k (by omega), up_k (by omega), up_k (by omega)]
    · rw [f2] at g
      omega
  | n + 1, s, I, h0, h1, hf, hw => by
    have b1 := hc.2.2.1
    have e := hc.1.2.2.1
    have f2 := hf 2 (by omega)
    have f518 := hf 518 (by omega)
    have f521 := hf 521 (by omega)
    have f522 := hf 522 (by omega)
    have ih := replayAll_lp hc hs hl hec hok h n (s + 1)
    refine bk_X9_replayAll_2 ⟨fun g => ?_, fun _ => ?_⟩
    · rw [f2] at g
      omega
    have hcI : CN I := by
      unfold CN at hc ⊢
      rw [f2, f518]
      exact hc
    have hsI : CSa I := by
      unfold CSa at hs ⊢
      rw [hf 7 (by omega), f518, f522]
      exact hs
    have hlI : CLa I := by
      unfold CLa at hl ⊢
      simp only [laneM_fr f518 f521]
      rw [hf 6 (by omega), hf 12 (by omega), f518, f521]
      exact hl
    have t1 := hec s h0 (by omega)
    rw [← hf 33 (by omega)] at t1
    refine c9_replay hcI hsI hlI h0 (by rw [f518]; omega) t1 (OkW_fr f518 f521 f522 (hok s h0 (by omega))) (fun I' hf' hw' => ⟨by omega, ?_⟩)
    refine ih I' (by omega) (by omega) (fun k hk => ?_) (fun u u0 u1 => ?_)
    · rw [hf' k (by omega), hf k hk]
    · rw [wy_fr f518 f521 f522, hm_fr f522] at hw'
      by_cases eu : u = s
      · subst eu
        exact hw'
      · exact TW_fr (hw u u0 (by omega)) (fun k k1 k2 => hf' k (by omega))
theorem c9_replayAll {I : HI} {cs : Int → List Int} (hc : CN I) (hs : CSa I) (hl : CLa I) (hec : ∀ s, 0 ≤ s → s < I 518 6 → EC (I 33) 0 s (cs s)) (hok : ∀ s, 0 ≤ s → s < I 518 6 → OkW I s (cs s)) (h : ∀ I' : HI, (∀ k, k ≠ 32 → (k < 37 ∨ 56 < k) → I' k = I k) → (∀ j, j ≠ 7 → j ≠ 8 → j ≠ 9 → I' 32 j = I 32 j) → I' 32 7 = 1 → I' 32 8 = 1 → I' 32 9 = 1 → (∀ s, 0 ≤ s → s < I 518 6 → TW I' (37 + 5 * s.toNat) 25 0 (hm I s) (wy I s (cs s))) → K I') : CV mX9_replayAll (d + 3) [vR 32] I K := by
  have b1 := hc.2.2.1
  exact bk_X9_replayAll_0 (replayAll_lp hc hs hl hec hok h (I 518 6).toNat 0 I (by omega) (by omega) (fun k hk => rfl) (fun u u0 u1 => by omega))
end RP
