section JD
variable {X : Option (Nat × (Nat → Int32))} {M M' : MD} {d mc ms pc : Nat} {ls : List (Nat × AV)} {st : List AV} {σ : AH} {Q Q1 : Option AV → AH → Prop}
set_option maxHeartbeats 1000000 in
theorem J_callS {idx n mc1 ms1 : Nat} {as : List AV} (hd : decode M.2.1 pc = .ok (.invokestatic idx, 3)) (hm : MS M' n) (hlink : Cond.methodLink M.1.cls idx M'.1 ∈ GT) (hlen : as.length = n) (hct : (as.map ct).sum ≤ M'.2.2.1) (hrest : (st.map ct).sum ≤ 8)
    (hJ : J none M' d mc1 ms1 0 (ent 0 as) [] σ Q1) (kk : ∀ (r : Option AV) (σ' : AH), Q1 r σ' → okr M'.2.2.2 r → J X M (d + 1) mc ms (pc + 3) ls (r.toList ++ st) σ' Q) : J X M (d + 1) (mc1 + mc) (ms1 + ms) pc ls (as.reverse ++ st) σ Q := by
  intro p l e R s m args below meth c D B b dA E C0 S0 Z cx hR he H locs cells slots lsC hH hS h1 h2 hl hol hos
  obtain ⟨hmk, hstt⟩ := hm
  have hos1 : ∀ v ∈ as, okv v := fun v hv => hos v (List.mem_append.mpr (Or.inl (List.mem_reverse.mpr hv)))
  have hos2 : ∀ v ∈ st, okv v := fun v hv => hos v (List.mem_append.mpr (Or.inr hv))
  have hM := Met_of_J l D B b dA E hmk.2.2.1 hct hos1 hJ
  have hts := cx.2.2.2.2.1
  have hK := cx.2.2.2.2.2.1
  have hrun := va_runS (cells := cells) (slots := slots) (As := as.map (cv B b)) (rest := st.map (cv B b)) (n := n) (g := F0 m pc lsC ((as.reverse ++ st).map (cv B b))) ⟨cx.1, cx.2.1, cx.2.2.1, cx.2.2.2.1, hts⟩ hM
    ⟨callB_of n hts (gt_gin hmk) rfl rfl rfl (hts _ hmk.2.1) (hts _ hlink) hmk.2.2.2.1 ⟨hR.1, by have := hR.2.1; have := hmk.2.2.2.2; show 8 + (M'.2.2.1 + 11) + 100 * d ≤ R.locals; omega⟩, hts _ hstt⟩
    (H := H) ⟨PcBlind, fun U hU hW => ⟨rfl, by rw [hU]; exact hH, va_K.moved hW.alike hK, by rw [hU]; exact Nat.le_trans cx.2.2.2.2.2.2.1 hS.1, KS_mv hW hU hS cx.2.2.2.2.2.2.2.2.1⟩⟩ rfl (by rw [List.length_map]; exact hlen) hl.1 (by show (as.reverse ++ st).map (cv B b) = _; rw [rev_map]) (lv_room (by rw [cat_sum]; exact hrest)) hd (locs := locs) (below := below) (meth := meth) (e := e) ⟨by have := hR.2.2.1; omega, by have := hR.2.2.2; omega⟩
  exact J_run hrun cx hR he hS h1 h2 hl hol hos2 kk
set_option maxHeartbeats 1000000 in
theorem J_callI {idx n k mc1 ms1 : Nat} {as : List AV} (hd : decode M.2.1 pc = .ok (.invokespecial idx, 3)) (hm : MI M' n) (hlink : Cond.methodLink M.1.cls idx M'.1 ∈ GT) (hlen : as.length = n) (hct : ((vR k :: as).map ct).sum ≤ M'.2.2.1) (hrest : (st.map ct).sum ≤ 8)
    (hJ : J none M' d mc1 ms1 0 (ent 0 (vR k :: as)) [] σ Q1) (kk : ∀ (r : Option AV) (σ' : AH), Q1 r σ' → okr M'.2.2.2 r → J X M (d + 1) mc ms (pc + 3) ls (r.toList ++ st) σ' Q) : J X M (d + 1) (mc1 + mc) (ms1 + ms) pc ls (as.reverse ++ vR k :: st) σ Q := by
  intro p l e R s m args below meth c D B b dA E C0 S0 Z cx hR he H locs cells slots lsC hH hS h1 h2 hl hol hos
  obtain ⟨hmk, hin, hnm, hrt⟩ := hm
  have hos1 : ∀ v ∈ vR k :: as, okv v := by
    refine ok_c trivial (fun v hv => hos v (List.mem_append.mpr (Or.inl (List.mem_reverse.mpr hv))))
  have hos2 : ∀ v ∈ st, okv v := fun v hv => hos v (List.mem_append.mpr (Or.inr (List.mem_cons_of_mem _ hv)))
  have hM := Met_of_J l D B b dA E hmk.2.2.1 hct hos1 hJ
  have hts := cx.2.2.2.2.1
  have hK := cx.2.2.2.2.2.1
  have hG := gt_gin hmk
  rw [hrt] at hM hG
  have hrun := va_runI (cells := cells) (slots := slots) (b := B + k) (As := as.map (cv B b)) (rest := st.map (cv B b)) (n := n) (g := F0 m pc lsC ((as.reverse ++ vR k :: st).map (cv B b))) ⟨cx.1, cx.2.1, cx.2.2.1, cx.2.2.2.1, hts⟩ hM
    ⟨callB_of n hts hG rfl rfl rfl (hts _ hmk.2.1) (hts _ hlink) hmk.2.2.2.1 ⟨hR.1, by have := hR.2.1; have := hmk.2.2.2.2; show 8 + (M'.2.2.1 + 11) + 100 * d ≤ R.locals; omega⟩, hnm, hts _ hin⟩
    (H := H) ⟨PcBlind, fun U hU hW => ⟨rfl, by rw [hU]; exact hH, va_K.moved hW.alike hK, by rw [hU]; exact Nat.le_trans cx.2.2.2.2.2.2.1 hS.1, KS_mv hW hU hS cx.2.2.2.2.2.2.2.2.1⟩⟩ rfl (by rw [List.length_map]; exact hlen) hl.1 (by show (as.reverse ++ vR k :: st).map (cv B b) = _; rw [rev_map]; rfl) (lv_room (by rw [cat_sum]; exact hrest)) hd (locs := locs) (below := below) (meth := meth) (e := e) ⟨by have := hR.2.2.1; omega, by have := hR.2.2.2; omega⟩
  exact J_run hrun cx hR he hS h1 h2 hl hol hos2 kk
set_option maxHeartbeats 1000000 in
theorem J_callSN {idx n mc1 ms1 : Nat} {as : List AV} {host : String} (hd : decode M.2.1 pc = .ok (.invokestatic idx, 3)) (hm : MS M' n) (hlink : ∀ (B : Nat) (E : Nat → Nat) (U : State), KS B E U → va_Nw (.methodLinkNest M.1.cls idx M'.1 host) U) (hlen : as.length = n) (hct : (as.map ct).sum ≤ M'.2.2.1) (hrest : (st.map ct).sum ≤ 8)
    (hJ : J none M' d mc1 ms1 0 (ent 0 as) [] σ Q1) (kk : ∀ (r : Option AV) (σ' : AH), Q1 r σ' → okr M'.2.2.2 r → J X M (d + 1) mc ms (pc + 3) ls (r.toList ++ st) σ' Q) : J X M (d + 1) (mc1 + mc) (ms1 + ms) pc ls (as.reverse ++ st) σ Q := by
  intro p l e R s m args below meth c D B b dA E C0 S0 Z cx hR he H locs cells slots lsC hH hS h1 h2 hl hol hos
  obtain ⟨hmk, hstt⟩ := hm
  have hos1 : ∀ v ∈ as, okv v := fun v hv => hos v (List.mem_append.mpr (Or.inl (List.mem_reverse.mpr hv)))
  have hos2 : ∀ v ∈ st, okv v := fun v hv => hos v (List.mem_append.mpr (Or.inr hv))
  have hM := Met_of_J l D B b dA E hmk.2.2.1 hct hos1 hJ
  have hts := cx.2.2.2.2.1
  have hK := cx.2.2.2.2.2.1
  have hks := cx.2.2.2.2.2.2.2.2.1
  have hrun := va_runSN (cells := cells) (slots := slots) (host := host) (As := as.map (cv B b)) (rest := st.map (cv B b)) (n := n) (g := F0 m pc lsC ((as.reverse ++ st).map (cv B b))) ⟨cx.1, cx.2.1, cx.2.2.1, cx.2.2.2.1, hts⟩ hM
    ⟨va_cnB n hts (gt_gin hmk) rfl rfl rfl (hlink B b s hks) (hts _ hmk.2.1) hmk.2.2.2.1 ⟨hR.1, by have := hR.2.1; have := hmk.2.2.2.2; show 8 + (M'.2.2.1 + 11) + 100 * d ≤ R.locals; omega⟩, hts _ hstt, trivial⟩
    (H := H) ⟨PcBlind, fun U hU hW => ⟨rfl, by rw [hU]; exact hH, va_K.moved hW.alike hK, by rw [hU]; exact Nat.le_trans cx.2.2.2.2.2.2.1 hS.1, KS_mv hW hU hS hks⟩⟩ rfl (by rw [List.length_map]; exact hlen) hl.1 (by show (as.reverse ++ st).map (cv B b) = _; rw [rev_map]) (lv_room (by rw [cat_sum]; exact hrest)) hd (locs := locs) (below := below) (meth := meth) (e := e) ⟨by have := hR.2.2.1; omega, by have := hR.2.2.2; omega⟩
  exact J_run hrun cx hR he hS h1 h2 hl hol hos2 kk
set_option maxHeartbeats 1000000 in
theorem J_callIN {idx n k mc1 ms1 : Nat} {as : List AV} {host : String} (hd : decode M.2.1 pc = .ok (.invokespecial idx, 3)) (hm : MI M' n) (hlink : ∀ (B : Nat) (E : Nat → Nat) (U : State), KS B E U → va_Nw (.methodLinkNest M.1.cls idx M'.1 host) U) (hlen : as.length = n) (hct : ((vR k :: as).map ct).sum ≤ M'.2.2.1) (hrest : (st.map ct).sum ≤ 8)
    (hJ : J none M' d mc1 ms1 0 (ent 0 (vR k :: as)) [] σ Q1) (kk : ∀ (r : Option AV) (σ' : AH), Q1 r σ' → okr M'.2.2.2 r → J X M (d + 1) mc ms (pc + 3) ls (r.toList ++ st) σ' Q) : J X M (d + 1) (mc1 + mc) (ms1 + ms) pc ls (as.reverse ++ vR k :: st) σ Q := by
  intro p l e R s m args below meth c D B b dA E C0 S0 Z cx hR he H locs cells slots lsC hH hS h1 h2 hl hol hos
  obtain ⟨hmk, hin, hnm, hrt⟩ := hm
  have hos1 : ∀ v ∈ vR k :: as, okv v := by
    refine ok_c trivial (fun v hv => hos v (List.mem_append.mpr (Or.inl (List.mem_reverse.mpr hv))))
  have hos2 : ∀ v ∈ st, okv v := fun v hv => hos v (List.mem_append.mpr (Or.inr (List.mem_cons_of_mem _ hv)))
  have hM := Met_of_J l D B b dA E hmk.2.2.1 hct hos1 hJ
  have hts := cx.2.2.2.2.1
  have hK := cx.2.2.2.2.2.1
  have hks := cx.2.2.2.2.2.2.2.2.1
  have hG := gt_gin hmk
  rw [hrt] at hM hG
  have hrun := va_runIN (cells := cells) (slots := slots) (host := host) (b := B + k) (As := as.map (cv B b)) (rest := st.map (cv B b)) (n := n) (g := F0 m pc lsC ((as.reverse ++ vR k :: st).map (cv B b))) ⟨cx.1, cx.2.1, cx.2.2.1, cx.2.2.2.1, hts⟩ hM
    ⟨va_cnB n hts hG rfl rfl rfl (hlink B b s hks) (hts _ hmk.2.1) hmk.2.2.2.1 ⟨hR.1, by have := hR.2.1; have := hmk.2.2.2.2; show 8 + (M'.2.2.1 + 11) + 100 * d ≤ R.locals; omega⟩, hnm, hts _ hin⟩
    (H := H) ⟨PcBlind, fun U hU hW => ⟨rfl, by rw [hU]; exact hH, va_K.moved hW.alike hK, by rw [hU]; exact Nat.le_trans cx.2.2.2.2.2.2.1 hS.1, KS_mv hW hU hS hks⟩⟩ rfl (by rw [List.length_map]; exact hlen) hl.1 (by show (as.reverse ++ vR k :: st).map (cv B b) = _; rw [rev_map]; rfl) (lv_room (by rw [cat_sum]; exact hrest)) hd (locs := locs) (below := below) (meth := meth) (e := e) ⟨by have := hR.2.2.1; omega, by have := hR.2.2.2; omega⟩
  exact J_run hrun cx hR he hS h1 h2 hl hol hos2 kk
theorem J_obj {idx k : Nat} (hd : decode M.2.1 pc = .ok (.invokespecial idx, 3)) (hw1 : Cond.methodLink M.1.cls idx Lib.objectInit ∈ GT) (hw2 : Cond.instanceMethod Lib.objectInit ∈ GT) (hw3 : Cond.code Lib.objectInit ⟨#[0xb1]⟩ 1 none ∈ GT) (hrest : (st.map ct).sum ≤ 8) (kk : J X M (d + 1) mc ms (pc + 3) ls st σ Q) : J X M (d + 1) mc ms pc ls (vR k :: st) σ Q := by
  intro p l e R s m args below meth c D B b dA E C0 S0 Z cx hR he H locs cells slots lsC hH hS h1 h2 hl hol hos
  have hts := cx.2.2.2.2.1
  refine W.objInit cx.1 cx.2.1 cx.2.2.2.1 (hts _ hw1) (hts _ hw2) (hts _ hw3) rfl (by rw [cx.2.2.1]; exact hl.1) rfl hd (by have := hR.1; omega) ?_ ?_
  · show 2 * 0 + ((st.map (cv B b)).map fun v => v.category).sum + 12 ≤ R.locals
    rw [cat_sum]
    have := hR.2.1
    omega
  · exact kk p l e R s m args below meth c D B b dA E C0 S0 Z cx hR he H locs cells slots lsC hH hS h1 h2 hl hol (ok_t hos)
end JD
