/-- only the reference's draft differs -/
def UPD (I X : HI) : Prop := (∀ k, (k < 518 ∨ 528 < k) → X k = I k) ∧ ((∀ u, 5 ≤ u → X 518 u = I 518 u) ∧ (∀ u, 20 ≤ u → X 519 u = I 519 u) ∧ (∀ u, 10 ≤ u → X 520 u = I 520 u) ∧ (∀ u, 64 ≤ u → X 521 u = I 521 u) ∧ (∀ u, 16 ≤ u → X 522 u = I 522 u) ∧ (∀ u, 40 ≤ u → X 523 u = I 523 u) ∧ (∀ u, 1600 ≤ u → X 524 u = I 524 u) ∧ (∀ u, 6 ≤ u → X 526 u = I 526 u) ∧ (∀ u, 6 ≤ u → X 527 u = I 527 u) ∧ (∀ u, 6 ≤ u → X 528 u = I 528 u))
theorem lnS_u {L L' : Nat → Int} (h : ∀ u, 64 ≤ u → L' u = L u) (a b : Int) : ∀ (n : Nat) (l : Int), 0 ≤ l → lnS L' a b n l = lnS L a b n l
  | 0, _, _ => rfl
  | n + 1, l, l0 => by
    unfold lnS
    rw [h (64 + 4 * l).toNat (by omega), h (64 + 4 * l + 1).toNat (by omega), lnS_u h a b n (l + 1) (by omega)]
theorem laneM_u {I X : HI} (f : UPD I X) (a b : Int) : laneM X a b = laneM I a b := by
  unfold laneM
  rw [f.2.1 7 (by omega)]
  exact lnS_u f.2.2.2.2.1 a b _ 0 (by omega)
theorem miM_u {I X : HI} (f : UPD I X) {s : Int} (s0 : 0 ≤ s) (l : Int) : miM X s l = miM I s l := by
  unfold miM
  by_cases q : l < 0
  · rw [if_pos q, if_pos q]
  · rw [if_neg q, if_neg q, f.2.2.2.2.1 (64 + 4 * l + 2).toNat (by omega), f.2.2.2.2.2.1 (16 + 4 * s + 1).toNat (by omega)]
theorem hm_u {I X : HI} (f : UPD I X) {s : Int} (s0 : 0 ≤ s) : hm X s = hm I s := f.2.2.2.2.2.1 (16 + 4 * s).toNat (by omega)
theorem run_u {I X : HI} (f : UPD I X) {s : Int} (s0 : 0 ≤ s) : ∀ (cs : List Int) (c t : Int), runW X s c t cs = runW I s c t cs
  | [], _, _ => rfl
  | x :: cs, c, t => by
    unfold runW
    rw [laneM_u f, miM_u f s0, run_u f s0 cs, run_u f s0 cs]
theorem wy_u {I X : HI} (f : UPD I X) {s : Int} (s0 : 0 ≤ s) (cs : List Int) : wy X s cs = wy I s cs := by
  unfold wy
  rw [hm_u f s0, run_u f s0]
theorem okC_u {I X : HI} (f : UPD I X) : ∀ (cs : List Int) (c : Int), okC X c cs ↔ okC I c cs
  | [], _ => Iff.rfl
  | x :: cs, c => by
    unfold okC
    rw [laneM_u f, okC_u f cs, okC_u f cs, f.2.1 5 (by omega)]
theorem OkW_u {I X : HI} (f : UPD I X) {s : Int} (s0 : 0 ≤ s) {cs : List Int} (h : OkW I s cs) : OkW X s cs := by
  unfold OkW at h ⊢
  rw [wy_u f s0, okC_u f, hm_u f s0]
  exact h
theorem VSn_u {I X : HI} (f : UPD I X) {x : Sn} (h : VSn I x) : VSn X x := by
  obtain ⟨h1, h2, h3⟩ := h
  refine ⟨fun s s0 s1 => OkW_u f s0 (h1 s s0 (by rw [← f.2.1 6 (by omega)]; exact s1)), h2, ?_⟩
  rw [f.2.1 9 (by omega)]
  exact h3
theorem WRel_u {I X : HI} {cs : Int → List Int} {H : List Sn} (f : UPD I X) (n4 : I 518 6 ≤ 4) (h : WRel I cs H) : WRel X cs H := by
  obtain ⟨h1, h2, h3, h4, h5, h6, h7⟩ := h
  have e6 : X 518 6 = I 518 6 := f.2.1 6 (by omega)
  have e489 := f.1 489 (by omega)
  refine ⟨fun s s0 s1 => ?_, fun s s0 s1 => ?_, ?_, ?_, ?_, ?_, fun x hx => VSn_u f (h7 x hx)⟩
  · rw [e6] at s1
    rw [hm_u f s0, wy_u f s0, f.1 33 (by omega)]
    exact ⟨(h1 s s0 s1).1, TW_fr (h1 s s0 s1).2 (fun k k1 k2 => f.1 k (by omega))⟩
  · rw [e6] at s1
    rw [wy_u f s0]
    exact SL_fr s0 (h2 s s0 s1) (f.1 532 (by omega)) (f.1 533 (by omega)) (f.1 534 (by omega)) (f.1 535 (by omega))
  · rw [e489]
    exact VSn_u f h3
  · rw [e489, f.1 33 (by omega)]
    exact h4
  · unfold ClH SnC at h5 ⊢
    rw [f.1 32 (by omega), f.1 35 (by omega), e6]
    exact h5
  · obtain ⟨g1, g2, g3, g4, g5⟩ := h6
    refine ⟨by rw [e489]; exact g1, g2, by rw [e489]; exact g3, by rw [e489]; exact g4, fun i x hx => ?_⟩
    rw [e489]
    obtain ⟨q1, q2, q3⟩ := g5 i x hx
    refine ⟨by rw [f.1 540 (by omega)]; exact q1, by rw [f.1 541 (by omega)]; exact q2, fun s s0 s1 => ?_⟩
    rw [e6] at s1
    rw [wy_u f s0, f.1 536 (by omega), f.1 537 (by omega), f.1 538 (by omega), f.1 539 (by omega)]
    exact q3 s s0 s1
theorem parM_u {I X : HI} (f : UPD I X) : parM X = parM I := by
  unfold parM
  rw [f.2.1 5 (by omega)]
  exact parS_cg _ 0 0 (by omega) (fun k k0 k1 => f.2.2.2.1 (10 + k).toNat (by omega))
theorem par_u {I X : HI} (f : UPD I X) {x : Int} (x0 : 0 ≤ x) : par X x = par I x := f.2.2.2.1 (10 + x).toNat (by omega)
theorem exA_u {g g' : Int → List (List Int)} {p p' : Int → Bool} (hg : ∀ x, 0 ≤ x → g x = g' x) (hp : ∀ x, 0 ≤ x → p x = p' x) : ∀ (n : Nat) (x : Int), 0 ≤ x → exA g p n x = exA g' p' n x
  | 0, _, _ => rfl
  | n + 1, x, x0 => by
    unfold exA
    rw [hg x x0, hp x x0, exA_u hg hp n (x + 1) (by omega)]
theorem exD_u {I X : HI} (f : UPD I X) : ∀ (n : Nat) (c s : Int), exD X n c s = exD I n c s
  | 0, _, _ => rfl
  | n + 1, c, s => by
    unfold exD
    rw [parM_u f, f.2.1 5 (by omega)]
    congr 1
    refine exA_u (fun x x0 => ?_) (fun x x0 => ?_) _ _ (by omega)
    · rw [exD_u f n]
      unfold pb
      rw [par_u f x0]
    · unfold opn
      rw [f.1 489 (by omega), par_u f x0, laneM_u f]
theorem rts_u {I X : HI} (f : UPD I X) {s : Int} (s0 : 0 ≤ s) (h0 : 0 ≤ hm I s) : rts X s = rts I s := by
  unfold rts pb
  rw [exD_u f, hm_u f s0, par_u f h0]
theorem opc_u {I X : HI} (f : UPD I X) {s : Int} (s0 : 0 ≤ s) (h0 : 0 ≤ hm I s) (o : Nat) : opc X s o = opc I s o := by
  unfold opc
  rw [rts_u f s0 h0]
theorem chw_u {I X : HI} (f : UPD I X) {s : Int} (s0 : 0 ≤ s) (h0 : 0 ≤ hm I s) (cs : Int → List Int) (x : Nat) : chw X cs s x = chw I cs s x := by
  unfold chw chc
  rw [wy_u f s0, opc_u f s0 h0]
theorem mcode_u {I X : HI} (f : UPD I X) {k : Int} (k0 : 0 ≤ k) : mcode X k = mcode I k := by
  unfold mcode
  rw [f.2.2.2.2.2.2.2.2.1 (6 + k).toNat (by omega), f.2.2.2.2.2.2.2.2.2.1 (6 + k).toNat (by omega)]
  exact bl_eq _ _ (fun j j1 j2 => f.2.2.2.2.2.2.2.1 j (by omega))
theorem Hld_u {I X : HI} (f : UPD I X) {k : Int} (k0 : 0 ≤ k) (m so fa a b : Int) : Hld X k m so fa a b ↔ Hld I k m so fa a b := by
  unfold Hld
  rw [mcode_u f k0]
theorem ExS_u {I X : HI} (f : UPD I X) (a b m so fa : Int) : ExS X a b m so fa ↔ ExS I a b m so fa := by
  unfold ExS Exc
  rw [f.2.1 9 (by omega), f.1 489 (by omega)]
  exact ⟨fun ⟨k, k0, k1, k2, k3⟩ => ⟨k, k0, k1, k2, (Hld_u f k0 _ _ _ _ _).mp k3⟩, fun ⟨k, k0, k1, k2, k3⟩ => ⟨k, k0, k1, k2, (Hld_u f k0 _ _ _ _ _).mpr k3⟩⟩
theorem DRw_u {I X : HI} (f : UPD I X) {a b : Int} (a0 : 0 ≤ a) (b0 : 0 ≤ b) (ca cb : Int) (W V : List Sp) (m g : Int) : DRw X a b ca cb W V m g ↔ DRw I a b ca cb W V m g := by
  unfold DRw snd loudM
  rw [f.1 531 (by omega), f.2.2.2.2.2.1 (16 + 4 * a + 2).toNat (by omega), f.2.2.2.2.2.1 (16 + 4 * b + 2).toNat (by omega)]
theorem UPw_u {I X : HI} (f : UPD I X) {b : Int} (b0 : 0 ≤ b) (W V : List Sp) (m l : Int) : UPw X b W V m l ↔ UPw I b W V m l := by
  unfold UPw petS lies
  rw [f.2.2.2.2.2.1 (16 + 4 * b + 3).toNat (by omega), f.1 489 (by omega)]
theorem LAW_u {I X : HI} (f : UPD I X) {a b : Int} (a0 : 0 ≤ a) (b0 : 0 ≤ b) (W V : List Sp) : LAW X a b W V ↔ LAW I a b W V := by
  unfold LAW QTs OFs
  simp only [DRw_u f a0 b0, UPw_u f a0, UPw_u f b0, ExS_u f]
  rw [hm_u f a0, hm_u f b0]
theorem LW_u {I X : HI} (f : UPD I X) (cs : Int → List Int) {s o : Nat} (hs : 0 ≤ hm I s) (ho : 0 ≤ hm I o) (x y : Nat) : LW X cs s x o y ↔ LW I cs s x o y := by
  unfold LW
  rw [LAW_u f (by omega) (by omega), chw_u f (by omega) hs, chw_u f (by omega) ho]
theorem vis_odm {od od' : Nat → List Nat} {lw : Nat → Nat → Nat → Nat → Prop} : ∀ (ms : List Nat) (ok : Nat → Nat → Prop), (∀ s ∈ ms, od s = od' s) → vis od lw ms ok = vis od' lw ms ok
  | [], _, _ => rfl
  | s :: ms, ok, h => by
    show (od s).flatMap _ = (od' s).flatMap _
    rw [h s List.mem_cons_self]
    refine flatMap_congr' _ (fun x hx => ?_)
    rw [vis_odm ms _ (fun t ht => h t (List.mem_cons_of_mem _ ht))]
theorem cst_cg {p q : Nat → Nat → Int} : ∀ (ms xs : List Nat), (∀ s ∈ ms, ∀ x, p s x = q s x) → cst p ms xs = cst q ms xs
  | [], xs, _ => by cases xs <;> rfl
  | s :: ms, [], _ => rfl
  | s :: ms, x :: xs, h => by
    show p s x + cst p ms xs = q s x + cst q ms xs
    rw [h s List.mem_cons_self, cst_cg ms xs (fun t ht => h t (List.mem_cons_of_mem _ ht))]
theorem LL_u {I X : HI} (f : UPD I X) (cs : Int → List Int) (st : Int) (ms : List Nat) (hh : ∀ t ∈ ms, 0 ≤ hm I (t : Int)) : LL X cs st ms = LL I cs st ms := by
  unfold LL
  rw [vis_odm (od' := odn I) ms _ (fun s hs => by unfold odn; rw [rts_u f (by omega) (hh s hs)])]
  refine vis_congr ms _ _ (fun s x => ?_) (fun s x t y hs ht _ _ _ _ => LW_u f cs (hh s hs) (hh t ht) x y)
  unfold dmo WHL
  rw [wy_u f (by omega), f.1 489 (by omega)]
theorem SOL_u {I X : HI} (f : UPD I X) {cs : Int → List Int} {st r : Int} {ms : List Nat} {A : Nat → Int} (hh : ∀ t ∈ ms, 0 ≤ hm I (t : Int)) (h : SOL I cs st ms r A) : SOL X cs st ms r A := by
  have e : cst (prc X cs st) ms = cst (prc I cs st) ms := by
    funext xs
    refine cst_cg ms xs (fun s hs x => ?_)
    unfold prc
    rw [chw_u f (by omega) (hh s hs)]
  unfold SOL at h ⊢
  rw [LL_u f cs st ms hh, e]
  exact h
