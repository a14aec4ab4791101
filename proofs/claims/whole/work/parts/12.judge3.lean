theorem va_P1 {D : va_G} {q : Nat × va_E} {H : Heap} (h : va_at D vwCl q H) : va_P D vwCl [q] H := by
  intro k x hx
  match k, hx with
  | 0, hx => cases hx; exact h
  | k + 1, hx => simp at hx
theorem va_P2 {D : va_G} {q q' : Nat × va_E} {H : Heap} (h : va_at D vwCl q H) (h' : va_at D vwCl q' H) : va_P D vwCl [q, q'] H := by
  intro k x hx
  match k, hx with
  | 0, hx => cases hx; exact h
  | 1, hx => cases hx; exact h'
  | k + 2, hx => simp at hx
theorem fvs_at {B : Nat} {R : Nat → Nat → Option Nat} {I : Nat → Nat → Int} {k ci j : Nat} {r : Bool} (h : (fl ci)[j]? = some r) : (fvs B R I k ci)[j]? = some (fV B R I k j r) := by
  simp [fvs, List.getElem?_mapIdx, h]
theorem fvs_len {B : Nat} {R : Nat → Nat → Option Nat} {I : Nat → Nat → Int} {k ci : Nat} : (fvs B R I k ci).length = (fl ci).length := by
  simp [fvs]
theorem fl_get {ci j N : Nat} {r : Bool} (hn : (fl ci).length = N) (h : (fl ci)[j]? = some r) : j < N := hn ▸ (List.getElem?_eq_some_iff.mp h).1
def up (I : Nat → Nat → Int) (k j : Nat) (x : Int) : Nat → Nat → Int := fun a b => if a = k ∧ b = j then x else I a b
def upR (R : Nat → Nat → Option Nat) (k j : Nat) (x : Option Nat) : Nat → Nat → Option Nat := fun a b => if a = k ∧ b = j then x else R a b
theorem enc_cong {B : Nat} {dA : Nat → ClassId} {R R' : Nat → Nat → Option Nat} {I I' : Nat → Nat → Int} {k : Nat} {sh : SH} (h1 : ∀ j, R' k j = R k j) (h2 : ∀ j, I' k j = I k j) : enc B dA R' I' k sh = enc B dA R I k sh := by
  have e1 : R' k = R k := funext h1
  have e2 : I' k = I k := funext h2
  have e3 : ∀ ci, fvs B R' I' k ci = fvs B R I k ci := by
    intro ci
    unfold fvs fV
    simp only [e1, e2]
  unfold enc
  simp only [e1, e2, e3]
theorem HR_set {D : va_G} {B : Nat} {dA : Nat → ClassId} {σ σ' : AH} {H H1 : Heap} {k : Nat} {sh0 : SH} (hH : HR D B dA σ H) (h1 : σ'.1 = σ.1) (hs : σ.1[k]? = some sh0) (hz : H1.size = H.size) (ho : ∀ q : Nat, q ≠ B + k → H1[q]? = H[q]?)
    (hk : va_at D vwCl (B + k, enc B dA σ'.2.1 σ'.2.2 k sh0) H1) (hR : ∀ k', k' ≠ k → ∀ j, σ'.2.1 k' j = σ.2.1 k' j) (hI : ∀ k', k' ≠ k → ∀ j, σ'.2.2 k' j = σ.2.2 k' j) (hw : ∀ j, shr sh0 (σ'.2.2 k j)) : HR D B dA σ' H1 := by
  obtain ⟨a1, a2, a3⟩ := hH
  refine ⟨fun q sh hq => ?_, by rw [hz, a2, h1], fun q sh hq => ?_⟩
  · rw [h1] at hq
    by_cases e : q = k
    · subst e
      cases hs.symm.trans hq
      exact hk
    · rw [enc_cong (hR q e) (hI q e)]
      exact (a1 q sh hq).kept (ho (B + q) (by omega))
  · rw [h1] at hq
    by_cases e : q = k
    · subst e
      cases hs.symm.trans hq
      exact hw
    · intro j
      rw [hI q e j]
      exact a3 q sh hq j
theorem S_put {B k i : Nat} {H0 H H1 : Heap} {locs : List Loc} (h : va_S (fun q => B ≤ q) H0 H locs) (z : H1.size = H.size) (ho : ∀ q : Nat, q ≠ B + k → H1[q]? = H[q]?) : va_S (fun q => B ≤ q) H0 H1 (locs ++ [⟨B + k, i⟩]) :=
  va_S.put h z ho (Nat.le_add_right B k)
theorem up_s {I : Nat → Nat → Int} {k j : Nat} {x : Int} : up I k j x k j = x := by simp [up]
theorem up_n {I : Nat → Nat → Int} {k j k' j' : Nat} {x : Int} (h : ¬ (k' = k ∧ j' = j)) : up I k j x k' j' = I k' j' := by simp [up, h]
section JH
variable {X : Option (Nat × (Nat → Int32))} {M : MD} {d mc ms pc : Nat} {ls : List (Nat × AV)} {st : List AV} {σ : AH} {Q : Option AV → AH → Prop}
theorem J_getI {idx j ci k : Nat} {C : String} {T : u_T} {N : Nat} {ty : Nat → FieldType} (hd : decode M.2.1 pc = .ok (.getfield idx, 3)) (ck : CK ci C T N ty) (hw : Cond.fieldLink M.1.cls idx C (T j).2.1 (T j).2.2.1 ∈ GT) (hf : (fl ci)[j]? = some false) (hs : σ.1[k]? = some (.inl ci)) (kk : J X M d mc ms (pc + 3) ls (vI (σ.2.2 k j) :: st) σ Q) : J X M d mc ms pc ls (vR k :: st) σ Q := by
  intro p l e R s m args below meth c D B b dA E C0 S0 Z cx hR he H locs cells slots lsC hH hS h1 h2 hl hol hos
  have hj := fl_get ck.2.1 hf
  have hP := va_P1 (hH.1 k _ hs)
  have hok : ii (σ.2.2 k j) := hH.2.2 k _ hs j
  exact va_get (C := C) (T := T) (N := N) cx.1 cx.2.1 cx.2.2.2.2.1 ck.2.2.1 cx.2.2.2.1 cx.2.2.2.2.2.1 hP 0 rfl ck.1 j hj (cx.2.2.2.2.1 _ hw) (fun x hx => by rw [ck.2.2.2.2.2 j hj] at hx; exact hx) (fvs_at hf) hd (kk p l e R s m args below meth c D B b dA E C0 S0 Z cx hR he H locs cells slots lsC hH hS h1 h2 hl hol (ok_ci hok (ok_t hos)))
theorem J_getR {idx j ci k : Nat} {v : Nat} {C : String} {T : u_T} {N : Nat} {ty : Nat → FieldType} (hd : decode M.2.1 pc = .ok (.getfield idx, 3)) (ck : CK ci C T N ty) (hw : Cond.fieldLink M.1.cls idx C (T j).2.1 (T j).2.2.1 ∈ GT) (hf : (fl ci)[j]? = some true) (hs : σ.1[k]? = some (.inl ci)) (hv : σ.2.1 k j = some v) (kk : J X M d mc ms (pc + 3) ls (vR v :: st) σ Q) : J X M d mc ms pc ls (vR k :: st) σ Q := by
  intro p l e R s m args below meth c D B b dA E C0 S0 Z cx hR he H locs cells slots lsC hH hS h1 h2 hl hol hos
  have hj := fl_get ck.2.1 hf
  have hP := va_P1 (hH.1 k _ hs)
  exact va_get (C := C) (T := T) (N := N) (v := .ref (B + v)) cx.1 cx.2.1 cx.2.2.2.2.1 ck.2.2.1 cx.2.2.2.1 cx.2.2.2.2.2.1 hP 0 rfl ck.1 j hj (cx.2.2.2.2.1 _ hw) (fun x hx => by rw [ck.2.2.2.2.2 j hj] at hx; exact hx) ((fvs_at hf).trans (by simp [fV, hv, rfv])) hd (kk p l e R s m args below meth c D B b dA E C0 S0 Z cx hR he H locs cells slots lsC hH hS h1 h2 hl hol (ok_c trivial (ok_t hos)))
theorem fvs_set {B : Nat} {R : Nat → Nat → Option Nat} {I : Nat → Nat → Int} {k ci j : Nat} {x : Int} (hf : (fl ci)[j]? = some false) : (fvs B R I k ci).set j (.int (Int32.ofInt x)) = fvs B R (up I k j x) k ci := by
  apply List.ext_getElem?
  intro i
  rw [List.getElem?_set]
  have hl : j < (fvs B R I k ci).length := by rw [fvs_len]; exact (List.getElem?_eq_some_iff.mp hf).1
  by_cases e : j = i
  · subst e
    rw [if_pos rfl, if_pos hl, fvs_at hf]
    simp [fV, up]
  · rw [if_neg e]
    simp only [fvs, List.getElem?_mapIdx]
    congr 1
    funext r
    have e' : ¬ i = j := fun q => e q.symm
    simp [fV, up, e']
theorem fvs_setR {B : Nat} {R : Nat → Nat → Option Nat} {I : Nat → Nat → Int} {k ci j v : Nat} (hf : (fl ci)[j]? = some true) : (fvs B R I k ci).set j (.ref (B + v)) = fvs B (upR R k j (some v)) I k ci := by
  apply List.ext_getElem?
  intro i
  rw [List.getElem?_set]
  have hl : j < (fvs B R I k ci).length := by rw [fvs_len]; exact (List.getElem?_eq_some_iff.mp hf).1
  by_cases e : j = i
  · subst e
    rw [if_pos rfl, if_pos hl, fvs_at hf]
    simp [fV, upR, rfv]
  · rw [if_neg e]
    simp only [fvs, List.getElem?_mapIdx]
    congr 1
    funext r
    have e' : ¬ i = j := fun q => e q.symm
    simp [fV, upR, e']
def okf (t : FieldType) (x : Int) : Prop := t = .int ∨ (t = .boolean ∧ (x = 0 ∨ x = 1))
theorem okf_n {t : FieldType} {x : Int} (h : okf t x) : narrow t (.int (Int32.ofInt x)) = .int (Int32.ofInt x) ∧ fits t (.int (Int32.ofInt x)) = true := by
  rcases h with rfl | ⟨rfl, rfl | rfl⟩ <;> exact ⟨rfl, rfl⟩
theorem J_putI {idx j ci k : Nat} {x : Int} {C : String} {T : u_T} {N : Nat} {ty : Nat → FieldType} (hd : decode M.2.1 pc = .ok (.putfield idx, 3)) (ck : CK ci C T N ty) (hw : Cond.fieldLink M.1.cls idx C (T j).2.1 (T j).2.2.1 ∈ GT) (hf : (fl ci)[j]? = some false) (hfin : (T j).2.2.2 = false) (ho : okf (ty j) x) (hs : σ.1[k]? = some (.inl ci)) (kk : J X M d mc ms (pc + 3) ls st (σ.1, σ.2.1, up σ.2.2 k j x) Q) : J X M d mc ms pc ls (vI x :: vR k :: st) σ Q := by
  intro p l e R s m args below meth c D B b dA E C0 S0 Z cx hR he H locs cells slots lsC hH hS h1 h2 hl hol hos
  have hj := fl_get ck.2.1 hf
  have hK := cx.2.2.2.2.2.1
  have hts := cx.2.2.2.2.1
  obtain ⟨hC, hN, hin, hty, hnm, hown1⟩ := ck
  have hap := va_apart (own := M.1.cls) hts hin ty hty hnm hK hC
  obtain ⟨r, g1, cell, q1, q2, q3, q4⟩ := hH.1 k _ hs
  have hr : r = (C, T, N) := Option.some.inj (g1.symm.trans hC)
  subst hr
  obtain ⟨hSl, hfc, kC, hkC, hkind⟩ := hK.1 ci _ hC
  obtain ⟨cf, kf, fi, f, hi, hsl⟩ := hSl j hj
  have hlay := hts _ (hin _ (u_in_lay hj))
  unfold u_lay at hlay
  rw [if_neg (by rw [hfin]; decide)] at hlay
  have hst := (u_facts hfc hkC (u_lays hts hin hj) hi).1
  have h6 := u_store hfc hkC hkind hlay hi (hty j hj) (okf_n ho).1 (okf_n ho).2
  refine W.putK cx.1 cx.2.1 (f := f) ⟨cx.2.2.2.1, hts _ hw, ⟨_, _, _, by rw [hown1 j hj] at hi; exact hi⟩, hst⟩ (by rw [q2]; exact h6) q1 q3 (by rw [hsl]; exact k2_hasslot (q4 j hj)) rfl rfl hd fun H' e1 e2 e3 => ?_
  rw [hsl] at e1 ⊢
  have hl5 : j < (fvs B σ.2.1 σ.2.2 k ci).length := by rw [fvs_len, hN]; exact hj
  refine kk p l e R s m args below meth c D B b dA E C0 S0 Z cx hR he H' _ cells slots lsC (HR_set (σ' := (σ.1, σ.2.1, up σ.2.2 k j x)) hH rfl hs e2 e3 ?_ (fun _ _ _ => rfl) (fun k' hk' j' => up_n (fun q => hk' q.1)) ?_) (S_put hS e2 e3) h1 h2 hl hol (ok_t (ok_t hos))
  · refine ⟨_, hC, ?_⟩
    have h7 := t_OB.to (V := updV (vp_V (fvs B σ.2.1 σ.2.2 k ci)) j (.int (Int32.ofInt x))) ⟨_, e1, q2, q3, t_set q4 hap hj (.int (Int32.ofInt x))⟩ (fun i _ => vp_updV_set hl5 (.int (Int32.ofInt x)) i)
    rw [fvs_set hf] at h7
    exact h7
  · intro j'
    by_cases e : j' = j
    · subst e
      show ii (up σ.2.2 k j' x k j')
      rw [up_s]; exact ok_h hos
    · show ii (up σ.2.2 k j x k j')
      rw [up_n (fun q => e q.2)]; exact hH.2.2 k _ hs j'
theorem J_iald {i : Int} {k n : Nat} (hd : decode M.2.1 pc = .ok (.iaload, 1)) (hs : σ.1[k]? = some (.inr (0, n))) (h0 : 0 ≤ i) (hn : i < n) (kk : J X M d mc ms (pc + 1) ls (vI (σ.2.2 k i.toNat) :: st) σ Q) : J X M d mc ms pc ls (vI i :: vR k :: st) σ Q := by
  intro p l e R s m args below meth c D B b dA E C0 S0 Z cx hR he H locs cells slots lsC hH hS h1 h2 hl hol hos
  have hP := va_P1 (hH.1 k _ hs)
  have hok : ii (σ.2.2 k i.toNat) := hH.2.2 k _ hs _
  have hi : ii i := ok_h hos
  refine va_iald cx.1 cx.2.1 cx.2.2.2.2.2.1 hP 0 0 rfl rfl (io_in hi h0 hn) hd ?_
  rw [io_cl hi]
  exact kk p l e R s m args below meth c D B b dA E C0 S0 Z cx hR he H locs cells slots lsC hH hS h1 h2 hl hol (ok_ci hok (ok_t (ok_t hos)))
theorem J_lald {i : Int} {k n : Nat} (hd : decode M.2.1 pc = .ok (.laload, 1)) (hs : σ.1[k]? = some (.inr (1, n))) (h0 : 0 ≤ i) (hn : i < n) (kk : J X M d mc ms (pc + 1) ls (vL (σ.2.2 k i.toNat) :: st) σ Q) : J X M d mc ms pc ls (vI i :: vR k :: st) σ Q := by
  intro p l e R s m args below meth c D B b dA E C0 S0 Z cx hR he H locs cells slots lsC hH hS h1 h2 hl hol hos
  have hP := va_P1 (hH.1 k _ hs)
  have hok : ll (σ.2.2 k i.toNat) := hH.2.2 k _ hs _
  have hi : ii i := ok_h hos
  refine va_lald cx.1 cx.2.1 cx.2.2.2.2.2.1 hP 0 1 rfl rfl (io_in hi h0 hn) hd ?_
  rw [io_cl hi]
  exact kk p l e R s m args below meth c D B b dA E C0 S0 Z cx hR he H locs cells slots lsC hH hS h1 h2 hl hol (ok_cl hok (ok_t (ok_t hos)))
theorem J_zald {i : Int} {k n : Nat} (hd : decode M.2.1 pc = .ok (.baload, 1)) (hs : σ.1[k]? = some (.inr (2, n))) (h0 : 0 ≤ i) (hn : i < n) (kk : J X M d mc ms (pc + 1) ls (vI (σ.2.2 k i.toNat) :: st) σ Q) : J X M d mc ms pc ls (vI i :: vR k :: st) σ Q := by
  intro p l e R s m args below meth c D B b dA E C0 S0 Z cx hR he H locs cells slots lsC hH hS h1 h2 hl hol hos
  have hP := va_P1 (hH.1 k _ hs)
  have hok : ii (σ.2.2 k i.toNat) := hH.2.2 k _ hs _
  have hi : ii i := ok_h hos
  refine va_zald cx.1 cx.2.1 cx.2.2.2.2.2.1 hP 0 2 rfl rfl (io_in hi h0 hn) hd ?_
  rw [io_cl hi]
  exact kk p l e R s m args below meth c D B b dA E C0 S0 Z cx hR he H locs cells slots lsC hH hS h1 h2 hl hol (ok_ci hok (ok_t (ok_t hos)))
theorem J_cald {i : Int} {k n : Nat} (hd : decode M.2.1 pc = .ok (.caload, 1)) (hs : σ.1[k]? = some (.inr (3, n))) (h0 : 0 ≤ i) (hn : i < n) (kk : J X M d mc ms (pc + 1) ls (vI (σ.2.2 k i.toNat) :: st) σ Q) : J X M d mc ms pc ls (vI i :: vR k :: st) σ Q := by
  intro p l e R s m args below meth c D B b dA E C0 S0 Z cx hR he H locs cells slots lsC hH hS h1 h2 hl hol hos
  have hP := va_P1 (hH.1 k _ hs)
  have hok : ii (σ.2.2 k i.toNat) := hH.2.2 k _ hs _
  have hi : ii i := ok_h hos
  refine va_cald cx.1 cx.2.1 cx.2.2.2.2.2.1 hP 0 3 rfl rfl (io_in hi h0 hn) hd ?_
  rw [io_cl hi]
  exact kk p l e R s m args below meth c D B b dA E C0 S0 Z cx hR he H locs cells slots lsC hH hS h1 h2 hl hol (ok_ci hok (ok_t (ok_t hos)))
theorem J_aald {i : Int} {k n v : Nat} (hd : decode M.2.1 pc = .ok (.aaload, 1)) (hs : σ.1[k]? = some (.inr (4, n))) (h0 : 0 ≤ i) (hn : i < n) (hv : σ.2.1 k i.toNat = some v) (kk : J X M d mc ms (pc + 1) ls (vR v :: st) σ Q) : J X M d mc ms pc ls (vI i :: vR k :: st) σ Q := by
  intro p l e R s m args below meth c D B b dA E C0 S0 Z cx hR he H locs cells slots lsC hH hS h1 h2 hl hol hos
  have hP := va_P1 (hH.1 k _ hs)
  have hi : ii i := ok_h hos
  refine va_aldq (C := RX8) cx.1 cx.2.1 cx.2.2.2.2.2.1 hP 0 4 rfl rfl (io_in hi h0 hn) hd ?_
  rw [io_cl hi, hv]
  exact kk p l e R s m args below meth c D B b dA E C0 S0 Z cx hR he H locs cells slots lsC hH hS h1 h2 hl hol (ok_c trivial (ok_t (ok_t hos)))
end JH
