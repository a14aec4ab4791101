theorem Met_ofWf {l : Launch} {y : MethodName} {ws ws' : List Cond} {rm : Room} {Pc : Array Value → State → Prop} {Qc : Array Value → State → Outcome → State → Prop} {mc ms : Nat} {free : Addr → Prop} {cc : ByteArray} {maxL : Nat} {ret : Option FieldType}
    (hy : plainFor y = true) (hw : ws = Cond.code y cc maxL ret :: ws')
    (body : ∀ p e s m args below meth c s₁, BodyLoose p l y (headSpec ws rm) cc maxL ret e s m args below meth c s₁ → c.maxLocals = maxL → Pc args s →
      W p l e (headSpec ws rm).room s m args below meth c s.heap [] 0 0 (MQ below Qc args s mc ms free) (entryFrame m args maxL)) : Met l y ws rm Pc Qc mc ms free := by
  refine MetFree.of_bodySF (code := cc) (maxLocals := maxL) (ret := ret) hy ?_ ?_
  · intro args s m h hn
    obtain ⟨meth, c, h1, h2, h3, h4, h5, h6, -, -⟩ := Cond.code_spec hn (atoms_spec (ws := ws) h _ (by rw [hw]; exact List.mem_cons_self))
    exact ⟨meth, c, h1, h2, h3, h4, h5, h6⟩
  · intro p e s m args below meth c s₁ B hml hP _
    have hh0 : s₁.heap = s.heap := by rw [B.state]; rfl
    obtain ⟨t, a1, o, b1, b2, b3⟩ := body p e s m args below meth c s₁ B hml hP s₁ hh0 (Stand.of_body B)
    exact ⟨t, o, a1, b1, b2, ⟨b3.1, b3.2⟩⟩
set_option maxHeartbeats 1000000 in
theorem Met_of_Jf {M : MD} {d mc ms : Nat} {as : List AV} {σ : AH} {Q : Option AV → AH → Prop} (l : Launch) (D : va_G) (B : Nat) (b : Nat → Nat) (dA : Nat → ClassId) (E : Nat → Nat) (hp : plainFor M.1 = true) (hn : (as.map ct).sum ≤ M.2.2.1) (hok : ∀ v ∈ as, okv v) (hJ : J none M d mc ms 0 (ent 0 as) [] σ Q) :
    Met l M.1 (Cond.code M.1 M.2.1 M.2.2.1 M.2.2.2 :: GT) ({ frames := d, cells := mc, slots := ms, locals := 100 * d }) (va_Pc (as.map (cv B b)) (fun U => HR D B dA σ U.heap ∧ va_K D vwCl (tyl dA) U ∧ B ≤ U.heap.size ∧ KS B b U)) (QJ D B b dA M Q) mc ms (fun q => B ≤ q) := by
  refine Met_ofWf (cc := M.2.1) (maxL := M.2.2.1) (ret := M.2.2.2) hp rfl ?_
  intro p e s m args below meth c s₁ Bd hml hv
  obtain ⟨rfl, hH, hK, hB, hks⟩ := hv
  have hts := atoms_spec (ws := Cond.code M.1 M.2.1 M.2.2.1 M.2.2.2 :: GT) Bd.pre
  have hown : s.vm.findClass M.1.cls = some m.cls := findClass_of_methodNamed Bd.named
  have hnm : meth.name = M.1.name := (name_of_methodNamed Bd.named Bd.method).1
  have hlocks : meth.locks = false := Bd.notSynchronized
  have hr := Bd.returns
  rw [lg_entry_eq]
  have hl := lv_entry (as.map (cv B b)) (n := M.2.2.1) (by rw [lg_len]; exact hn)
  rw [← ent_args B b as 0] at hl
  refine hJ p l e _ s m _ below meth c D B b dA E mc ms _ ⟨Bd.exec, Bd.bytes, hml, hown, fun w hw => hts w (List.mem_cons_of_mem _ hw), hK, hB, hnm, hks, trivial⟩ ⟨Nat.le_refl _, Nat.le_refl _, Nat.le_refl _, Nat.le_refl _⟩ ?_ s.heap [] 0 0 _ hH va_S.rf (by omega) (by omega) hl (ent_ok as 0 hok) (fun v hv => by cases hv)
  intro H locs cells slots pc lsC r σ' hH' hS' h1 h2 hor hq hd
  refine W.widen (k := mc) (n := ms) h1 h2 ?_
  have hfin : ∀ t : State, t.heap = H → s.WarmedH t.vm → QJ D B b dA M Q (as.map (cv B b)).toArray s (.returned (r.map (cv B b))) t := fun t ht _ => ⟨r, σ', rfl, hq, hor, by rw [ht]; exact hH', hS'.F ht⟩
  obtain ⟨my, mcode, mn, mret⟩ := M
  dsimp only at *
  rcases r with _ | x | x | (_ | k) | _
  · cases mret with
    | none => exact W.vret Bd.exec Bd.bytes hr hfin hS'.2.2 hd
    | some t => cases t <;> exact hor.elim
  · cases mret with
    | none => exact hor.elim
    | some t =>
      cases t with
      | int => exact W.iret Bd.exec Bd.bytes hr hfin hS'.2.2 hd
      | boolean => exact W.zret Bd.exec Bd.bytes hr (okf_n (t := .boolean) (Or.inr ⟨rfl, hor⟩)).1 hfin hS'.2.2 hd
      | char => exact W.zret Bd.exec Bd.bytes hr (nar_c hor.1 hor.2) hfin hS'.2.2 hd
      | _ => exact hor.elim
  · cases mret with
    | none => exact hor.elim
    | some t =>
      cases t with
      | long => exact W.lret Bd.exec Bd.bytes hr hfin hS'.2.2 hd
      | _ => exact hor.elim
  · cases mret with
    | none => exact hor.elim
    | some t => cases t <;> exact hor.elim
  · cases mret with
    | none => exact hor.elim
    | some t =>
      cases t with
      | object C => exact W.aret (v := .ref (B + k)) Bd.exec Bd.bytes hr (Or.inl ⟨_, rfl⟩) (Or.inr ⟨_, rfl⟩) hfin hS'.2.2 hd
      | _ => exact hor.elim
  · cases mret with
    | none => exact hor.elim
    | some t => cases t <;> exact hor.elim
def MOKf (M : MD) (n : Nat) : Prop := Cond.code M.1 M.2.1 M.2.2.1 M.2.2.2 ∈ GT ∧ Cond.initialized M.1.cls ∈ GT ∧ plainFor M.1 = true ∧ (M.1.cls ≠ "java/lang/invoke/MethodHandle" ∧ M.1.cls ≠ "java/lang/invoke/VarHandle" ∧ (parseMethodDescriptor M.1.desc).map (fun d => d.parameters.length) = some n) ∧ M.2.2.1 ≤ 60
theorem gt_ginf {M : MD} {n : Nat} (h : MOKf M n) : GoodIn GT (Cond.code M.1 M.2.1 M.2.2.1 M.2.2.2 :: GT) := by
  intro w hw
  rcases List.mem_cons.mp hw with e | e
  · rw [e]; exact ⟨h.1, gt_good h.1⟩
  · exact ⟨e, gt_good e⟩
def MSf (M : MD) (n : Nat) : Prop := MOKf M n ∧ Cond.static M.1 ∈ GT
section JF
variable {X : Option (Nat × (Nat → Int32))} {M M' : MD} {d mc ms pc : Nat} {ls : List (Nat × AV)} {st : List AV} {σ : AH} {Q Q1 : Option AV → AH → Prop}
set_option maxHeartbeats 1000000 in
theorem J_callSf {idx n mc1 ms1 : Nat} {as : List AV} (hd : decode M.2.1 pc = .ok (.invokestatic idx, 3)) (hm : MSf M' n) (hlink : Cond.methodLink M.1.cls idx M'.1 ∈ GT) (hlen : as.length = n) (hct : (as.map ct).sum ≤ M'.2.2.1) (hrest : (st.map ct).sum ≤ 8)
    (hJ : J none M' d mc1 ms1 0 (ent 0 as) [] σ Q1) (kk : ∀ (r : Option AV) (σ' : AH), Q1 r σ' → okr M'.2.2.2 r → J X M (d + 1) mc ms (pc + 3) ls (r.toList ++ st) σ' Q) : J X M (d + 1) (mc1 + mc) (ms1 + ms) pc ls (as.reverse ++ st) σ Q := by
  intro p l e R s m args below meth c D B b dA E C0 S0 Z cx hR he H locs cells slots lsC hH hS h1 h2 hl hol hos
  obtain ⟨hmk, hstt⟩ := hm
  have hos1 : ∀ v ∈ as, okv v := fun v hv => hos v (List.mem_append.mpr (Or.inl (List.mem_reverse.mpr hv)))
  have hos2 : ∀ v ∈ st, okv v := fun v hv => hos v (List.mem_append.mpr (Or.inr hv))
  have hM := Met_of_Jf l D B b dA E hmk.2.2.1 hct hos1 hJ
  have hts := cx.2.2.2.2.1
  have hK := cx.2.2.2.2.2.1
  have hrun := va_runS (cells := cells) (slots := slots) (As := as.map (cv B b)) (rest := st.map (cv B b)) (n := n) (g := F0 m pc lsC ((as.reverse ++ st).map (cv B b))) ⟨cx.1, cx.2.1, cx.2.2.1, cx.2.2.2.1, hts⟩ hM
    ⟨callB_of n hts (gt_ginf hmk) rfl rfl rfl (hts _ hmk.2.1) (hts _ hlink) hmk.2.2.2.1 ⟨hR.1, by have := hR.2.1; have := hmk.2.2.2.2; show 8 + (M'.2.2.1 + 11) + 100 * d ≤ R.locals; omega⟩, hts _ hstt⟩
    (H := H) ⟨PcBlind, fun U hU hW => ⟨rfl, by rw [hU]; exact hH, va_K.moved hW.alike hK, by rw [hU]; exact Nat.le_trans cx.2.2.2.2.2.2.1 hS.1, KS_mv hW hU hS cx.2.2.2.2.2.2.2.2.1⟩⟩ rfl (by rw [List.length_map]; exact hlen) hl.1 (by show (as.reverse ++ st).map (cv B b) = _; rw [rev_map]) (lv_room (by rw [cat_sum]; exact hrest)) hd (locs := locs) (below := below) (meth := meth) (e := e) ⟨by have := hR.2.2.1; omega, by have := hR.2.2.2; omega⟩
  exact J_run hrun cx hR he hS h1 h2 hl hol hos2 kk
set_option maxHeartbeats 1000000 in
theorem J_callVF {idx n mc1 ms1 : Nat} {as : List AV} (hd : decode M.2.1 pc = .ok (.invokevirtual idx, 3)) (hm : MOK M' n ∧ Cond.instanceMethod M'.1 ∈ GT ∧ Cond.selects M'.1.cls M'.1 M'.1 ∈ GT ∧ M'.1.cls = "java/lang/String") (hlink : Cond.methodLink M.1.cls idx M'.1 ∈ GT) (hlen : as.length = n) (hct : ((vS :: as).map ct).sum ≤ M'.2.2.1) (hrest : (st.map ct).sum ≤ 8)
    (hJ : J none M' d mc1 ms1 0 (ent 0 (vS :: as)) [] σ Q1) (kk : ∀ (r : Option AV) (σ' : AH), Q1 r σ' → okr M'.2.2.2 r → J X M (d + 1) mc ms (pc + 3) ls (r.toList ++ st) σ' Q) : J X M (d + 1) (mc1 + mc) (ms1 + ms) pc ls (as.reverse ++ vS :: st) σ Q := by
  intro p l e R s m args below meth c D B b dA E C0 S0 Z cx hR he H locs cells slots lsC hH hS h1 h2 hl hol hos
  obtain ⟨hmk, hin, hsel, hq2⟩ := hm
  have hos1 : ∀ v ∈ vS :: as, okv v := by
    refine ok_c trivial (fun v hv => hos v (List.mem_append.mpr (Or.inl (List.mem_reverse.mpr hv))))
  have hos2 : ∀ v ∈ st, okv v := fun v hv => hos v (List.mem_append.mpr (Or.inr (List.mem_cons_of_mem _ hv)))
  have hM := Met_of_J l D B b dA E hmk.2.2.1 hct hos1 hJ
  have hts := cx.2.2.2.2.1
  have hK := cx.2.2.2.2.2.1
  have hks := cx.2.2.2.2.2.2.2.2.1
  have hrc := vk_recv (i := 0) hks.2.1 (by omega) hS
  rw [← hq2] at hrc
  have hrun := va_runV (cells := cells) (slots := slots) (As := as.map (cv B b)) (rest := st.map (cv B b)) (n := n) (g := F0 m pc lsC ((as.reverse ++ vS :: st).map (cv B b))) ⟨cx.1, cx.2.1, cx.2.2.1, cx.2.2.2.1, hts⟩ hM
    ⟨callB_of n hts (gt_gin hmk) rfl rfl rfl (hts _ hmk.2.1) (hts _ hlink) hmk.2.2.2.1 ⟨hR.1, by have := hR.2.1; have := hmk.2.2.2.2; show 8 + (M'.2.2.1 + 11) + 100 * d ≤ R.locals; omega⟩, hts _ hin, hts _ hsel⟩
    (H := H) ⟨PcBlind, hrc, fun U hU hW => ⟨rfl, by rw [hU]; exact hH, va_K.moved hW.alike hK, by rw [hU]; exact Nat.le_trans cx.2.2.2.2.2.2.1 hS.1, KS_mv hW hU hS cx.2.2.2.2.2.2.2.2.1⟩⟩ rfl (by rw [List.length_map]; exact hlen) hl.1 (by show (as.reverse ++ vS :: st).map (cv B b) = _; rw [rev_map]; rfl) (lv_room (by rw [cat_sum]; exact hrest)) hd (locs := locs) (below := below) (meth := meth) (e := e) ⟨by have := hR.2.2.1; omega, by have := hR.2.2.2; omega⟩
  exact J_run hrun cx hR he hS h1 h2 hl hol hos2 kk
theorem J_iincWN {x n : Int} {i : Nat} (hd : decode M.2.1 pc = .ok (.iinc i n, 6)) (hg : lget ls i = some (vI x)) (hn : i < M.2.2.1) (h : -2147483648 ≤ x + n ∧ x + n ≤ 2147483647) (k : J X M d mc ms (pc + 6) (lset ls i (vI (x + n))) st σ Q) : J X M d mc ms pc ls st σ Q :=
  J_iincW hd hg hn (by rw [wr_id h.1 h.2]; exact k)
theorem J_fload_n {f i : Nat} {n : Fin 4} (hd : decode M.2.1 pc = .ok (.aload_n n, 1)) (hi : (n : Nat) = i) (hg : lget ls i = some (.inr (.inr (.inr f)))) (k : J X M d mc ms (pc + 1) ls (.inr (.inr (.inr f)) :: st) σ Q) : J X M d mc ms pc ls st σ Q := by
  intro p l e R s m args below meth c D B b dA E C0 S0 Z cx hR he H locs cells slots lsC hH hS h1 h2 hl hol hos
  exact lv_aload_n cx.1 cx.2.1 hd hi (lat hl hg) (k p l e R s m args below meth c D B b dA E C0 S0 Z cx hR he H locs cells slots lsC hH hS h1 h2 hl hol (ok_c trivial hos))
theorem J_ldcS (hd : decode M.2.1 pc = .ok (.ldc 68, 2)) (hc : M.1.cls = RX7) (k : J X M d mc ms (pc + 2) ls (vS :: st) σ Q) : J X M d mc ms pc ls st σ Q := by
  intro p l e R s m args below meth c D B b dA E C0 S0 Z cx hR he H locs cells slots lsC hH hS h1 h2 hl hol hos
  have hks := cx.2.2.2.2.2.2.2.2.1
  exact va_ldcS cx.1 cx.2.1 (own := RX7) (by rw [← hc]; exact cx.2.2.2.1) hks.1 hd (k p l e R s m args below meth c D B b dA E C0 S0 Z cx hR he H locs cells slots lsC hH hS h1 h2 hl hol (ok_c trivial hos))
theorem J_getSc {idx : Nat} (hd : decode M.2.1 pc = .ok (.getfield idx, 3)) (hw : Cond.fieldLink M.1.cls idx "java/lang/String" "coder" "B" ∈ GT) (k : J X M d mc ms (pc + 3) ls (vI 0 :: st) σ Q) : J X M d mc ms pc ls (vS :: st) σ Q := by
  intro p l e R s m args below meth c D B b dA E C0 S0 Z cx hR he H locs cells slots lsC hH hS h1 h2 hl hol hos
  have hks := cx.2.2.2.2.2.2.2.2.1
  exact vk_getf cx.1 cx.2.1 ((hks.2.1.1 0 (by omega)).2.1) hS cx.2.2.2.1 (cx.2.2.2.2.1 _ hw) (fun x hx => hx) hd (k p l e R s m args below meth c D B b dA E C0 S0 Z cx hR he H locs cells slots lsC hH hS h1 h2 hl hol (ok_ci ii_0 (ok_t hos)))
theorem J_getSv {idx : Nat} (hd : decode M.2.1 pc = .ok (.getfield idx, 3)) (hw : Cond.fieldLink M.1.cls idx "java/lang/String" "value" "[B" ∈ GT) (k : J X M d mc ms (pc + 3) ls (vY :: st) σ Q) : J X M d mc ms pc ls (vS :: st) σ Q := by
  intro p l e R s m args below meth c D B b dA E C0 S0 Z cx hR he H locs cells slots lsC hH hS h1 h2 hl hol hos
  have hks := cx.2.2.2.2.2.2.2.2.1
  exact vk_getf cx.1 cx.2.1 ((hks.2.1.1 0 (by omega)).2.2.1) hS cx.2.2.2.1 (cx.2.2.2.2.1 _ hw) (fun x hx => hx) hd (k p l e R s m args below meth c D B b dA E C0 S0 Z cx hR he H locs cells slots lsC hH hS h1 h2 hl hol (ok_c trivial (ok_t hos)))
theorem J_getst {idx : Nat} (hd : decode M.2.1 pc = .ok (.getstatic idx, 3)) (hw : Cond.fieldLink M.1.cls idx "java/lang/String" "COMPACT_STRINGS" "Z" ∈ GT) (k : J X M d mc ms (pc + 3) ls (vI 1 :: st) σ Q) : J X M d mc ms pc ls st σ Q := by
  intro p l e R s m args below meth c D B b dA E C0 S0 Z cx hR he H locs cells slots lsC hH hS h1 h2 hl hol hos
  have hks := cx.2.2.2.2.2.2.2.2.1
  exact va_gets cx.1 cx.2.1 hks.2.2.1.1 hS cx.2.2.2.1 (cx.2.2.2.2.1 _ hw) (fun x hx => hx) hd (k p l e R s m args below meth c D B b dA E C0 S0 Z cx hR he H locs cells slots lsC hH hS h1 h2 hl hol (ok_ci (ii_c rfl) hos))
theorem J_flen (hd : decode M.2.1 pc = .ok (.arraylength, 1)) (k : J X M d mc ms (pc + 1) ls (vI 216 :: st) σ Q) : J X M d mc ms pc ls (vY :: st) σ Q := by
  intro p l e R s m args below meth c D B b dA E C0 S0 Z cx hR he H locs cells slots lsC hH hS h1 h2 hl hol hos
  have hks := cx.2.2.2.2.2.2.2.2.1
  exact va_tlen cx.1 cx.2.1 ((hks.2.1.1 0 (by omega)).2.2.2) hS (v := Int32.ofInt 216) (by decide) hd (k p l e R s m args below meth c D B b dA E C0 S0 Z cx hR he H locs cells slots lsC hH hS h1 h2 hl hol (ok_ci (ii_c rfl) (ok_t hos)))
theorem J_fbald {i : Int} (hd : decode M.2.1 pc = .ok (.baload, 1)) (h0 : 0 ≤ i) (hn : i < 216) (k : J X M d mc ms (pc + 1) ls (vI (ownB.getD i.toNat 0).toInt :: st) σ Q) : J X M d mc ms pc ls (vI i :: vY :: st) σ Q := by
  intro p l e R s m args below meth c D B b dA E C0 S0 Z cx hR he H locs cells slots lsC hH hS h1 h2 hl hol hos
  have hks := cx.2.2.2.2.2.2.2.2.1
  have hi : ii i := ok_h hos
  have k2 := k p l e R s m args below meth c D B b dA E C0 S0 Z cx hR he H locs cells slots lsC hH hS h1 h2 hl hol (ok_ci (ii_of _) (ok_t (ok_t hos)))
  simp only [List.map, cv, Int32.ofInt_toInt] at k2
  exact va_tb cx.1 cx.2.1 ((hks.2.1.1 0 (by omega)).2.2.2) hS (io_in (n := 216) hi h0 hn) (by rw [io_cl hi]; rfl) hd k2
def oC (x : Int) : Int := ((Int32.ofInt x).toUInt32 % 65536).toInt32.toInt
theorem J_i2c {x : Int} (hd : decode M.2.1 pc = .ok (.i2c, 1)) (k : J X M d mc ms (pc + 1) ls (vI (oC x) :: st) σ Q) : J X M d mc ms pc ls (vI x :: st) σ Q :=
  J_q k (fun B b hx hb _ _ ho kk => lv_i2c hx hb hd (Int32.ofInt_toInt _).symm kk) (fun h => ok_ci (ii_of _) (ok_t h))
theorem J_retc {x : Int} (hd : decode M.2.1 pc = .ok (.ireturn, 1)) (hr : M.2.2.2 = some .char) (hx : 0 ≤ x ∧ x ≤ 65535) (hq : Q (some (vI x)) σ) : J X M d mc ms pc ls [vI x] σ Q :=
  J_ret (r := some (vI x)) hd (by rw [hr]; exact hx) rfl hq
end JF
abbrev mJ0_charAt_5068e : MD := (yJ0_charAt_5068e, cJ0_charAt_5068e, 2, (some .char))
theorem dJ0_charAt_5068e_0 : decode cJ0_charAt_5068e 0 = .ok (.aload_n 0, 1) := by decide +kernel
theorem dJ0_charAt_5068e_1 : decode cJ0_charAt_5068e 1 = .ok (.invokevirtual 492, 3) := by decide +kernel
theorem dJ0_charAt_5068e_4 : decode cJ0_charAt_5068e 4 = .ok (.ifCond .eq 12, 3) := by decide +kernel
theorem dJ0_charAt_5068e_7 : decode cJ0_charAt_5068e 7 = .ok (.aload_n 0, 1) := by decide +kernel
theorem dJ0_charAt_5068e_8 : decode cJ0_charAt_5068e 8 = .ok (.getfield 9, 3) := by decide +kernel
theorem dJ0_charAt_5068e_11 : decode cJ0_charAt_5068e 11 = .ok (.iload_n 1, 1) := by decide +kernel
theorem dJ0_charAt_5068e_12 : decode cJ0_charAt_5068e 12 = .ok (.invokestatic 495, 3) := by decide +kernel
theorem dJ0_charAt_5068e_15 : decode cJ0_charAt_5068e 15 = .ok (.ireturn, 1) := by decide +kernel
theorem dJ0_charAt_5068e_16 : decode cJ0_charAt_5068e 16 = .ok (.aload_n 0, 1) := by decide +kernel
theorem dJ0_charAt_5068e_17 : decode cJ0_charAt_5068e 17 = .ok (.getfield 9, 3) := by decide +kernel
theorem dJ0_charAt_5068e_20 : decode cJ0_charAt_5068e 20 = .ok (.iload_n 1, 1) := by decide +kernel
theorem dJ0_charAt_5068e_21 : decode cJ0_charAt_5068e 21 = .ok (.invokestatic 498, 3) := by decide +kernel
theorem dJ0_charAt_5068e_24 : decode cJ0_charAt_5068e 24 = .ok (.ireturn, 1) := by decide +kernel
set_option maxRecDepth 100000 in
theorem xw_J0_charAt_5068e : Cond.code yJ0_charAt_5068e cJ0_charAt_5068e 2 (some .char) ∈ GT := gt_in 816 rfl (by decide +kernel)
theorem ok_J0_charAt_5068e : MOK mJ0_charAt_5068e 1 := ⟨xw_J0_charAt_5068e, iw_java_lang_String, by decide +kernel, by decide +kernel, by decide⟩
theorem mv_J0_charAt_5068e : MOK mJ0_charAt_5068e 1 ∧ Cond.instanceMethod yJ0_charAt_5068e ∈ GT ∧ Cond.selects yJ0_charAt_5068e.cls yJ0_charAt_5068e yJ0_charAt_5068e ∈ GT ∧ yJ0_charAt_5068e.cls = "java/lang/String" := ⟨ok_J0_charAt_5068e, gt_in 814 (by decide +kernel) (by decide +kernel), gt_in 815 (by decide +kernel) (by decide +kernel), rfl⟩
abbrev mJ0_isLatin1_aae02 : MD := (yJ0_isLatin1_aae02, cJ0_isLatin1_aae02, 1, (some .boolean))
theorem dJ0_isLatin1_aae02_0 : decode cJ0_isLatin1_aae02 0 = .ok (.getstatic 38, 3) := by decide +kernel
theorem dJ0_isLatin1_aae02_3 : decode cJ0_isLatin1_aae02 3 = .ok (.ifCond .eq 14, 3) := by decide +kernel
theorem dJ0_isLatin1_aae02_6 : decode cJ0_isLatin1_aae02 6 = .ok (.aload_n 0, 1) := by decide +kernel
theorem dJ0_isLatin1_aae02_7 : decode cJ0_isLatin1_aae02 7 = .ok (.getfield 15, 3) := by decide +kernel
theorem dJ0_isLatin1_aae02_10 : decode cJ0_isLatin1_aae02 10 = .ok (.ifCond .ne 7, 3) := by decide +kernel
theorem dJ0_isLatin1_aae02_13 : decode cJ0_isLatin1_aae02 13 = .ok (.iconst 1, 1) := by decide +kernel
theorem dJ0_isLatin1_aae02_14 : decode cJ0_isLatin1_aae02 14 = .ok (.goto 4, 3) := by decide +kernel
theorem dJ0_isLatin1_aae02_17 : decode cJ0_isLatin1_aae02 17 = .ok (.iconst 0, 1) := by decide +kernel
theorem dJ0_isLatin1_aae02_18 : decode cJ0_isLatin1_aae02 18 = .ok (.ireturn, 1) := by decide +kernel
set_option maxRecDepth 100000 in
theorem xw_J0_isLatin1_aae02 : Cond.code yJ0_isLatin1_aae02 cJ0_isLatin1_aae02 1 (some .boolean) ∈ GT := gt_in 820 rfl (by decide +kernel)
theorem ok_J0_isLatin1_aae02 : MOK mJ0_isLatin1_aae02 0 := ⟨xw_J0_isLatin1_aae02, iw_java_lang_String, by decide +kernel, by decide +kernel, by decide⟩
theorem mv_J0_isLatin1_aae02 : MOK mJ0_isLatin1_aae02 0 ∧ Cond.instanceMethod yJ0_isLatin1_aae02 ∈ GT ∧ Cond.selects yJ0_isLatin1_aae02.cls yJ0_isLatin1_aae02 yJ0_isLatin1_aae02 ∈ GT ∧ yJ0_isLatin1_aae02.cls = "java/lang/String" := ⟨ok_J0_isLatin1_aae02, gt_in 818 (by decide +kernel) (by decide +kernel), gt_in 819 (by decide +kernel) (by decide +kernel), rfl⟩
abbrev mJ1_charAt_3b067 : MD := (yJ1_charAt_3b067, cJ1_charAt_3b067, 2, (some .char))
theorem dJ1_charAt_3b067_0 : decode cJ1_charAt_3b067 0 = .ok (.iload_n 1, 1) := by decide +kernel
theorem dJ1_charAt_3b067_1 : decode cJ1_charAt_3b067 1 = .ok (.aload_n 0, 1) := by decide +kernel
theorem dJ1_charAt_3b067_2 : decode cJ1_charAt_3b067 2 = .ok (.arraylength, 1) := by decide +kernel
theorem dJ1_charAt_3b067_3 : decode cJ1_charAt_3b067 3 = .ok (.invokestatic 9, 3) := by decide +kernel
theorem dJ1_charAt_3b067_6 : decode cJ1_charAt_3b067 6 = .ok (.aload_n 0, 1) := by decide +kernel
theorem dJ1_charAt_3b067_7 : decode cJ1_charAt_3b067 7 = .ok (.iload_n 1, 1) := by decide +kernel
theorem dJ1_charAt_3b067_8 : decode cJ1_charAt_3b067 8 = .ok (.baload, 1) := by decide +kernel
theorem dJ1_charAt_3b067_9 : decode cJ1_charAt_3b067 9 = .ok (.sipush 255, 3) := by decide +kernel
theorem dJ1_charAt_3b067_12 : decode cJ1_charAt_3b067 12 = .ok (.iand, 1) := by decide +kernel
theorem dJ1_charAt_3b067_13 : decode cJ1_charAt_3b067 13 = .ok (.i2c, 1) := by decide +kernel
theorem dJ1_charAt_3b067_14 : decode cJ1_charAt_3b067 14 = .ok (.ireturn, 1) := by decide +kernel
set_option maxRecDepth 100000 in
theorem xw_J1_charAt_3b067 : Cond.code yJ1_charAt_3b067 cJ1_charAt_3b067 2 (some .char) ∈ GT := gt_in 825 rfl (by decide +kernel)
theorem ok_J1_charAt_3b067 : MOK mJ1_charAt_3b067 2 := ⟨xw_J1_charAt_3b067, iw_java_lang_StringLatin1, by decide +kernel, by decide +kernel, by decide⟩
theorem ms_J1_charAt_3b067 : MS mJ1_charAt_3b067 2 := ⟨ok_J1_charAt_3b067, gt_in 824 (by decide +kernel) (by decide +kernel)⟩
abbrev mJ9_floorDiv_7cf53 : MD := (yJ9_floorDiv_7cf53, cJ9_floorDiv_7cf53, 3, (some .int))
theorem dJ9_floorDiv_7cf53_0 : decode cJ9_floorDiv_7cf53 0 = .ok (.iload_n 0, 1) := by decide +kernel
theorem dJ9_floorDiv_7cf53_1 : decode cJ9_floorDiv_7cf53 1 = .ok (.iload_n 1, 1) := by decide +kernel
theorem dJ9_floorDiv_7cf53_2 : decode cJ9_floorDiv_7cf53 2 = .ok (.idiv, 1) := by decide +kernel
theorem dJ9_floorDiv_7cf53_3 : decode cJ9_floorDiv_7cf53 3 = .ok (.istore_n 2, 1) := by decide +kernel
theorem dJ9_floorDiv_7cf53_4 : decode cJ9_floorDiv_7cf53 4 = .ok (.iload_n 0, 1) := by decide +kernel
theorem dJ9_floorDiv_7cf53_5 : decode cJ9_floorDiv_7cf53 5 = .ok (.iload_n 1, 1) := by decide +kernel
theorem dJ9_floorDiv_7cf53_6 : decode cJ9_floorDiv_7cf53 6 = .ok (.ixor, 1) := by decide +kernel
theorem dJ9_floorDiv_7cf53_7 : decode cJ9_floorDiv_7cf53 7 = .ok (.ifCond .ge 14, 3) := by decide +kernel
theorem dJ9_floorDiv_7cf53_10 : decode cJ9_floorDiv_7cf53 10 = .ok (.iload_n 2, 1) := by decide +kernel
theorem dJ9_floorDiv_7cf53_11 : decode cJ9_floorDiv_7cf53 11 = .ok (.iload_n 1, 1) := by decide +kernel
theorem dJ9_floorDiv_7cf53_12 : decode cJ9_floorDiv_7cf53 12 = .ok (.imul, 1) := by decide +kernel
theorem dJ9_floorDiv_7cf53_13 : decode cJ9_floorDiv_7cf53 13 = .ok (.iload_n 0, 1) := by decide +kernel
theorem dJ9_floorDiv_7cf53_14 : decode cJ9_floorDiv_7cf53 14 = .ok (.if_icmp .eq 7, 3) := by decide +kernel
theorem dJ9_floorDiv_7cf53_17 : decode cJ9_floorDiv_7cf53 17 = .ok (.iload_n 2, 1) := by decide +kernel
theorem dJ9_floorDiv_7cf53_18 : decode cJ9_floorDiv_7cf53 18 = .ok (.iconst 1, 1) := by decide +kernel
theorem dJ9_floorDiv_7cf53_19 : decode cJ9_floorDiv_7cf53 19 = .ok (.isub, 1) := by decide +kernel
theorem dJ9_floorDiv_7cf53_20 : decode cJ9_floorDiv_7cf53 20 = .ok (.ireturn, 1) := by decide +kernel
theorem dJ9_floorDiv_7cf53_21 : decode cJ9_floorDiv_7cf53 21 = .ok (.iload_n 2, 1) := by decide +kernel
theorem dJ9_floorDiv_7cf53_22 : decode cJ9_floorDiv_7cf53 22 = .ok (.ireturn, 1) := by decide +kernel
set_option maxRecDepth 100000 in
theorem xw_J9_floorDiv_7cf53 : Cond.code yJ9_floorDiv_7cf53 cJ9_floorDiv_7cf53 3 (some .int) ∈ GT := gt_in 1186 rfl (by decide +kernel)
theorem ms_J9_floorDiv_7cf53 : MSf mJ9_floorDiv_7cf53 2 := ⟨⟨xw_J9_floorDiv_7cf53, iw_java_lang_Math, by decide +kernel, by decide +kernel, by decide⟩, gt_in 1185 (by decide +kernel) (by decide +kernel)⟩
theorem lk_X7_70 : Cond.methodLink RX7 70 yJ0_charAt_5068e ∈ GT := gt_in 813 (by decide +kernel) (by decide +kernel)
theorem lk_J0_492 : Cond.methodLink RJ0 492 yJ0_isLatin1_aae02 ∈ GT := gt_in 817 (by decide +kernel) (by decide +kernel)
theorem lk_J0_495 : Cond.methodLink RJ0 495 yJ1_charAt_3b067 ∈ GT := gt_in 823 (by decide +kernel) (by decide +kernel)
theorem fw_J0_9 : Cond.fieldLink RJ0 9 "java/lang/String" "value" "[B" ∈ GT := gt_in 2410 (by decide +kernel) (by decide +kernel)
theorem fw_J0_15 : Cond.fieldLink RJ0 15 "java/lang/String" "coder" "B" ∈ GT := gt_in 2409 (by decide +kernel) (by decide +kernel)
theorem fw_J0_38 : Cond.fieldLink RJ0 38 "java/lang/String" "COMPACT_STRINGS" "Z" ∈ GT := gt_in 821 (by decide +kernel) (by decide +kernel)
