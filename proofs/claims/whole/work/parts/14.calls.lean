theorem KS_eq {B : Nat} {E : Nat → Nat} {s U : State} (hv : U.vm = s.vm) (hh : U.heap = s.heap) (h : KS B E s) : KS B E U := by
  obtain ⟨a1, a2, a3, a4, a5, a6, a7⟩ := h
  have hal : s.vm.Alike U.vm := by rw [hv]; exact Vm.Alike.refl _
  refine ⟨vk_R.same hv a1, ?_, ?_, va_AO.moved hal a4, va_Nw.same rfl hv.symm a5, va_Nw.same rfl hv.symm a6, va_Nw.same rfl hv.symm a7⟩
  · rw [hh]; exact vk_S.moved hal a2
  · rw [hh]; exact ⟨va_Z.moved hal a3.1, a3.2.imp (va_Z.moved hal) (va_Z.moved hal)⟩
theorem KS_mv {B : Nat} {E : Nat → Nat} {s U : State} {H : Heap} {locs : List Loc} (hW : s.WarmedH U.vm) (hU : U.heap = H) (hS : va_S (fun q => B ≤ q) s.heap H locs) (h : KS B E s) : KS B E U := by
  obtain ⟨a1, a2, a3, a4, a5, a6, a7⟩ := h
  refine ⟨vk_R.warm hW a1, ?_, ?_, va_AO.moved hW.alike a4, va_Nw.warmM hW a5, va_Nw.warmM hW a6, va_Nw.warmM hW a7⟩
  · rw [hU]; exact vk_S.moved hW.alike (a2.kept (fun a ha hA => hS.2.1 a ha hA))
  · rw [hU]; exact ⟨va_Z.moved hW.alike (a3.1.kept (fun a ha hA => hS.2.1 a ha hA)), a3.2.imp (fun q => va_Z.moved hW.alike (q.kept (fun a ha hA => hS.2.1 a ha hA))) (fun q => va_Z.moved hW.alike (q.kept (fun a ha hA => hS.2.1 a ha hA)))⟩
def ent : Nat → List AV → List (Nat × AV)
  | _, [] => []
  | i, v :: vs => (i, v) :: ent (i + ct v) vs
theorem ct_12 (v : AV) : ct v = 1 ∨ ct v = 2 := by rcases v with x | x | _ | _ <;> simp [ct]
theorem ent_args (B : Nat) (b : Nat → Nat) : ∀ (vs : List AV) (i : Nat), (ent i vs).map (fun q => (q.1, cv B b q.2)) = lv_args i (vs.map (cv B b))
  | [], _ => rfl
  | v :: vs, i => by
    show (i, cv B b v) :: (ent (i + ct v) vs).map _ = (i, cv B b v) :: lv_args (if (cv B b v).category = 2 then i + 2 else i + 1) (vs.map (cv B b))
    rw [ent_args B b vs, cv_ct]
    rcases ct_12 v with h | h <;> simp [h]
theorem lg_len (B : Nat) (b : Nat → Nat) : ∀ (vs : List AV), (lg_sl (vs.map (cv B b))).length = (vs.map ct).sum
  | [] => rfl
  | v :: vs => by
    have ih := lg_len B b vs
    show ((if (cv B b v).category = 2 then [Slot.val (cv B b v), Slot.second] else [Slot.val (cv B b v)]) ++ lg_sl (vs.map (cv B b))).length = ct v + (vs.map ct).sum
    rw [List.length_append, ih, cv_ct]
    rcases ct_12 v with h | h <;> simp [h]
theorem ent_ok : ∀ (vs : List AV) (i : Nat), (∀ v ∈ vs, okv v) → ∀ q ∈ ent i vs, okv q.2
  | [], _, _, q, hq => by cases hq
  | v :: vs, i, h, q, hq => by
    rcases List.mem_cons.mp hq with e | e
    · rw [e]; exact ok_h h
    · exact ent_ok vs _ (ok_t h) q e
theorem cat_sum (B : Nat) (b : Nat → Nat) : ∀ (vs : List AV), ((vs.map (cv B b)).map fun v => v.category).sum = (vs.map ct).sum
  | [] => rfl
  | v :: vs => by
    simp only [List.map_cons, List.sum_cons, cv_ct, cat_sum B b vs]
def QJ (D : va_G) (B : Nat) (b : Nat → Nat) (dA : Nat → ClassId) (M : MD) (Q : Option AV → AH → Prop) : Array Value → State → Outcome → State → Prop := fun _ st oc t =>
  ∃ (r : Option AV) (σ : AH), oc = .returned (r.map (cv B b)) ∧ Q r σ ∧ okr M.2.2.2 r ∧ HR D B dA σ t.heap ∧ va_F (fun q => B ≤ q) st t
theorem okr_ok {t : Option FieldType} {r : Option AV} (h : okr t r) : ∀ v ∈ r.toList, okv v := by
  intro v hv
  cases r with
  | none => cases hv
  | some w =>
    have e : v = w := by simpa using hv
    subst e
    rcases v with x | x | _ | _
    · unfold okr at h
      split at h <;> simp_all [okv, ii]
      · rcases h with rfl | rfl <;> omega
      · omega
    · unfold okr at h
      split at h <;> simp_all [okv]
    · trivial
    · trivial
set_option maxHeartbeats 1000000 in
theorem Met_of_J {M : MD} {d mc ms : Nat} {as : List AV} {σ : AH} {Q : Option AV → AH → Prop} (l : Launch) (D : va_G) (B : Nat) (b : Nat → Nat) (dA : Nat → ClassId) (E : Nat → Nat) (hp : plainName M.1.cls = true) (hn : (as.map ct).sum ≤ M.2.2.1) (hok : ∀ v ∈ as, okv v) (hJ : J none M d mc ms 0 (ent 0 as) [] σ Q) :
    Met l M.1 (Cond.code M.1 M.2.1 M.2.2.1 M.2.2.2 :: GT) ({ frames := d, cells := mc, slots := ms, locals := 100 * d }) (va_Pc (as.map (cv B b)) (fun U => HR D B dA σ U.heap ∧ va_K D vwCl (tyl dA) U ∧ B ≤ U.heap.size ∧ KS B b U)) (QJ D B b dA M Q) mc ms (fun q => B ≤ q) := by
  refine Met.ofW (cc := M.2.1) (maxL := M.2.2.1) (ret := M.2.2.2) hp rfl ?_
  intro p e s m args below meth c s₁ Bd hml hv
  obtain ⟨rfl, hH, hK, hB, hks⟩ := hv
  have hts := atoms_spec (ws := Cond.code M.1 M.2.1 M.2.2.1 M.2.2.2 :: GT) Bd.pre
  have hown : s.vm.findClass M.1.cls = some m.cls := findClass_of_methodNamed Bd.named
  have hnm : meth.name = M.1.name := (name_of_methodNamed Bd.named Bd.method).1
  have hlocks : meth.locks = false := Bd.notSynchronized
  have hr := Bd.returns
  rw [lg_entry_eq]
  have hl := lv_entry (as.map (cv B b)) (n := M.2.2.1) (by rw [lg_len]; exact hn)
  rw [← ent_args B b as 0] at hl
  refine hJ p l e _ s m _ below meth c D B b dA E mc ms _ ⟨Bd.exec, Bd.bytes, hml, hown, fun w hw => hts w (List.mem_cons_of_mem _ hw), hK, hB, hnm, hks, trivial⟩ ⟨Nat.le_refl _, Nat.le_refl _, Nat.le_refl _, Nat.le_refl _⟩ ?_ s.heap [] 0 0 _ hH va_S.rf (by omega) (by omega) hl (ent_ok as 0 hok) (fun v hv => by cases hv)
  intro H locs cells slots pc lsC r σ' hH' hS' h1 h2 hor hq hd
  refine W.widen (k := mc) (n := ms) h1 h2 ?_
  have hfin : ∀ t : State, t.heap = H → s.WarmedH t.vm → QJ D B b dA M Q (as.map (cv B b)).toArray s (.returned (r.map (cv B b))) t := fun t ht _ => ⟨r, σ', rfl, hq, hor, by rw [ht]; exact hH', hS'.F ht⟩
  obtain ⟨my, mcode, mn, mret⟩ := M
  dsimp only at *
  rcases r with _ | x | x | (_ | k) | _
  · cases mret with
    | none => exact W.vret Bd.exec Bd.bytes hr hfin hS'.2.2 hd
    | some t => cases t <;> exact hor.elim
  · cases mret with
    | none => exact hor.elim
    | some t =>
      cases t with
      | int => exact W.iret Bd.exec Bd.bytes hr hfin hS'.2.2 hd
      | boolean => exact W.zret Bd.exec Bd.bytes hr (okf_n (t := .boolean) (Or.inr ⟨rfl, hor⟩)).1 hfin hS'.2.2 hd
      | char => exact W.zret Bd.exec Bd.bytes hr (nar_c hor.1 hor.2) hfin hS'.2.2 hd
      | _ => exact hor.elim
  · cases mret with
    | none => exact hor.elim
    | some t =>
      cases t with
      | long => exact W.lret Bd.exec Bd.bytes hr hfin hS'.2.2 hd
      | _ => exact hor.elim
  · cases mret with
    | none => exact hor.elim
    | some t => cases t <;> exact hor.elim
  · cases mret with
    | none => exact hor.elim
    | some t =>
      cases t with
      | object C => exact W.aret (v := .ref (B + k)) Bd.exec Bd.bytes hr (Or.inl ⟨_, rfl⟩) (Or.inr ⟨_, rfl⟩) hfin hS'.2.2 hd
      | _ => exact hor.elim
  · cases mret with
    | none => exact hor.elim
    | some t => cases t <;> exact hor.elim
theorem gt_gin {M : MD} {n : Nat} (h : MOK M n) : GoodIn GT (Cond.code M.1 M.2.1 M.2.2.1 M.2.2.2 :: GT) := by
  intro w hw
  rcases List.mem_cons.mp hw with e | e
  · rw [e]; exact ⟨h.1, gt_good h.1⟩
  · exact ⟨e, gt_good e⟩
theorem PcBlind {as : List Value} {D : va_G} {B : Nat} {dA : Nat → ClassId} {E : Nat → Nat} {σ : AH} : FrameBlind (va_Pc as (fun U => HR D B dA σ U.heap ∧ va_K D vwCl (tyl dA) U ∧ B ≤ U.heap.size ∧ KS B E U)) := by
  intro a U g mk q
  obtain ⟨q0, q1, q2, q3, q4⟩ := q
  exact ⟨q0, q1, va_K.moved (u := U) (U := U.calling g mk a) (Vm.Alike.refl U.vm) q2, q3, KS_eq (s := U) (U := U.calling g mk a) rfl rfl q4⟩
section JC
variable {X : Option (Nat × (Nat → Int32))} {M M' : MD} {d mc ms pc : Nat} {ls : List (Nat × AV)} {st : List AV} {σ : AH} {Q Q1 : Option AV → AH → Prop}
theorem J_run {p : Program} {l : Launch} {e : Env} {R : Room} {s : State} {m : MethodId} {args : Array Value} {below : List Frame} {meth : Method} {c : Code} {D : va_G} {B : Nat} {b : Nat → Nat} {dA : Nat → ClassId} {E : Nat → Nat} {C0 S0 : Nat} {Z : State → Prop} {H : Heap} {locs : List Loc} {cells slots mc1 ms1 : Nat} {lsC : Array Slot} {st0 : List Value} {a : Array Value}
    (hr : va_Run p l e R s m args below meth c H locs cells slots mc1 ms1 (F0 m pc lsC st0) (st.map (cv B b)) (QJ D B b dA M' Q1 a) (fun q => B ≤ q))
    (cx : Cx X M p s m args meth c D B b dA E) (hR : d ≤ R.frames ∧ 100 * d ≤ R.locals ∧ C0 ≤ R.cells ∧ S0 ≤ R.slots) (he : Hend M p l e R s m args below meth c D B b dA C0 S0 Q Z) (hS : va_S (fun q => B ≤ q) s.heap H locs) (h1 : cells + (mc1 + mc) ≤ C0) (h2 : slots + (ms1 + ms) ≤ S0) (hl : lv_has lsC M.2.2.1 (ls.map (fun q => (q.1, cv B b q.2)))) (hol : ∀ q ∈ ls, okv q.2) (hos : ∀ v ∈ st, okv v)
    (kk : ∀ (r : Option AV) (σ' : AH), Q1 r σ' → okr M'.2.2.2 r → J X M d mc ms (pc + 3) ls (r.toList ++ st) σ' Q) : W p l e R s m args below meth c H locs cells slots Z (F0 m pc lsC st0) := by
  intro T hT XX
  obtain ⟨v, st₀, t, T', L, h0, X', hL, e1, e2, ⟨r, σ', hv, hq, hor, hH', hz, hk⟩, stp⟩ := hr T hT XX
  have hv' : v = r.map (cv B b) := by cases hv; rfl
  subst hv'
  rw [h0] at hz hk
  have hS' : va_S (fun q => B ≤ q) s.heap T'.heap (locs ++ L) := by
    refine ⟨Nat.le_trans hS.1 (by rw [e1]; exact hz), fun q g1 g2 => ?_, fun q hq => ?_⟩
    · rw [e1, hk q (Nat.lt_of_lt_of_le g1 hS.1) g2]; exact hS.2.1 q g1 g2
    · rcases List.mem_append.mp hq with h | h
      · exact hS.2.2 q h
      · exact hL q h
  have hosn : ∀ v ∈ r.toList ++ st, okv v := by
    intro v hv
    rcases List.mem_append.mp hv with h | h
    · exact okr_ok hor v h
    · exact hos v h
  have hw := kk r σ' hq hor p l e R s m args below meth c D B b dA E C0 S0 Z cx hR he T'.heap (locs ++ L) (cells + mc1) (slots + ms1) lsC (by rw [e1]; exact hH') hS' (by omega) (by omega) hl hol hosn
  have est : (r.toList ++ st).map (cv B b) = (r.map (cv B b)).toList ++ st.map (cv B b) := by cases r <;> simp
  rw [est] at hw
  obtain ⟨t2, a1, b1⟩ := hw T' rfl X'
  exact ⟨t2, stp t2 a1, b1⟩
theorem rev_map (B : Nat) (b : Nat → Nat) (as : List AV) (rest : List AV) : (as.reverse ++ rest).map (cv B b) = (as.map (cv B b)).reverse ++ rest.map (cv B b) := by simp
set_option maxHeartbeats 1000000 in
theorem J_callV {idx n ci k mc1 ms1 : Nat} {as : List AV} (hd : decode M.2.1 pc = .ok (.invokevirtual idx, 3)) (hm : MV M' n ci) (hlink : Cond.methodLink M.1.cls idx M'.1 ∈ GT) (hs : σ.1[k]? = some (.inl ci)) (hlen : as.length = n) (hct : ((vR k :: as).map ct).sum ≤ M'.2.2.1) (hrest : (st.map ct).sum ≤ 8)
    (hJ : J none M' d mc1 ms1 0 (ent 0 (vR k :: as)) [] σ Q1) (kk : ∀ (r : Option AV) (σ' : AH), Q1 r σ' → okr M'.2.2.2 r → J X M (d + 1) mc ms (pc + 3) ls (r.toList ++ st) σ' Q) : J X M (d + 1) (mc1 + mc) (ms1 + ms) pc ls (as.reverse ++ vR k :: st) σ Q := by
  intro p l e R s m args below meth c D B b dA E C0 S0 Z cx hR he H locs cells slots lsC hH hS h1 h2 hl hol hos
  obtain ⟨hmk, hin, hsel, q, hq1, hq2⟩ := hm
  have hos1 : ∀ v ∈ vR k :: as, okv v := by
    refine ok_c trivial (fun v hv => hos v (List.mem_append.mpr (Or.inl (List.mem_reverse.mpr hv))))
  have hos2 : ∀ v ∈ st, okv v := fun v hv => hos v (List.mem_append.mpr (Or.inr (List.mem_cons_of_mem _ hv)))
  have hM := Met_of_J l D B b dA E hmk.2.2.1 hct hos1 hJ
  have hts := cx.2.2.2.2.1
  have hK := cx.2.2.2.2.2.1
  have hrc := va_recv (q0 := 0) hK (va_P1 (hH.1 k _ hs)) hq1 rfl
  rw [hq2] at hrc
  have hrun := va_runV (cells := cells) (slots := slots) (As := as.map (cv B b)) (rest := st.map (cv B b)) (n := n) (g := F0 m pc lsC ((as.reverse ++ vR k :: st).map (cv B b))) ⟨cx.1, cx.2.1, cx.2.2.1, cx.2.2.2.1, hts⟩ hM
    ⟨callB_of n hts (gt_gin hmk) rfl rfl rfl (hts _ hmk.2.1) (hts _ hlink) hmk.2.2.2.1 ⟨hR.1, by have := hR.2.1; have := hmk.2.2.2.2; show 8 + (M'.2.2.1 + 11) + 100 * d ≤ R.locals; omega⟩, hts _ hin, hts _ hsel⟩
    (H := H) ⟨PcBlind, hrc, fun U hU hW => ⟨rfl, by rw [hU]; exact hH, va_K.moved hW.alike hK, by rw [hU]; exact Nat.le_trans cx.2.2.2.2.2.2.1 hS.1, KS_mv hW hU hS cx.2.2.2.2.2.2.2.2.1⟩⟩ rfl (by rw [List.length_map]; exact hlen) hl.1 (by show (as.reverse ++ vR k :: st).map (cv B b) = _; rw [rev_map]; rfl) (lv_room (by rw [cat_sum]; exact hrest)) hd (locs := locs) (below := below) (meth := meth) (e := e) ⟨by have := hR.2.2.1; omega, by have := hR.2.2.2; omega⟩
  exact J_run hrun cx hR he hS h1 h2 hl hol hos2 kk
end JC
