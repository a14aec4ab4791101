theorem df_10 : ∀ j, j < 16 → ∀ r, (fl 10)[j]? = some r → defaultValue (tyX10 j) = if r then .null else .int 0 := by
  have h : ∀ j, j < 16 → defaultValue (tyX10 j) = if (fl 10).getD j false then .null else .int 0 := by decide +kernel
  intro j hj r hr
  rw [h j hj, List.getD_eq_getElem?_getD, hr]
  rfl
theorem df_11 : ∀ j, j < 91 → ∀ r, (fl 11)[j]? = some r → defaultValue (tyX11 j) = if r then .null else .int 0 := by
  have h : ∀ j, j < 91 → defaultValue (tyX11 j) = if (fl 11).getD j false then .null else .int 0 := by decide +kernel
  intro j hj r hr
  rw [h j hj, List.getD_eq_getElem?_getD, hr]
  rfl
theorem J_st {X : Option (Nat × (Nat → Int32))} {M : MD} {d mc ms pc : Nat} {ls : List (Nat × AV)} {st : List AV} {σ σ' : AH} {Q : Option AV → AH → Prop} (h : σ = σ') (k : J X M d mc ms pc ls st σ' Q) : J X M d mc ms pc ls st σ Q := h ▸ k
theorem J_dep {X : Option (Nat × (Nat → Int32))} {M : MD} {d d' mc ms pc : Nat} {ls : List (Nat × AV)} {st : List AV} {σ : AH} {Q : Option AV → AH → Prop} (h : d ≤ d') (k : J X M d mc ms pc ls st σ Q) : J X M d' mc ms pc ls st σ Q := by
  intro p l e R s m args below meth c D B b dA E C0 S0 Z cx hR he
  exact k p l e R s m args below meth c D B b dA E C0 S0 Z cx ⟨by omega, by omega, hR.2.2.1, hR.2.2.2⟩ he
def iE : HI := li csE11.2.2
theorem rE : lr csE11.2.1 = RR0 := by
  have h : RRL = csE11.2.1 ++ List.replicate (RRL.length - csE11.2.1.length) [] := by decide +kernel
  funext k j
  unfold lr RR0
  rw [h]
  generalize csE11.2.1 = L
  generalize RRL.length - L.length = m
  have e : (L ++ List.replicate m []).getD k [] = L.getD k [] := by
    rw [List.getD_eq_getElem?_getD, List.getD_eq_getElem?_getD]
    by_cases hk : k < L.length
    · rw [List.getElem?_append_left hk]
    · rw [List.getElem?_append_right (by omega), List.getElem?_eq_none (by omega : L.length ≤ k)]
      rw [List.getElem?_replicate]
      split <;> rfl
  rw [e]
theorem sE : csE11.1 = SH0 := by decide +kernel
theorem aE : ah csE11 = mk iE := by
  unfold ah mk iE
  rw [rE, sE]
set_option maxRecDepth 100000 in
set_option maxHeartbeats 4000000 in
theorem law_start {Rel : Nat → HI → Prop} {d L : Nat} {xs : Nat → Int32} (hL : L ≤ 3072) (hd : 20 ≤ d) (ops : OPS Rel d) (h0 : ∀ n, n ≤ 3073 → Rel n iE) : J (some (L, xs)) mL_law (d + 1) 557 133732 0 [(0, vX)] [] (ah ([], [], [])) (fun r _ => r = some (vI 1)) := by
  refine J_mcs (mc := 488 + (67 + 0 + 1) + 1) (ms := 40042 + (93583 + 0 + 91) + 16) rfl rfl ?_
  refine J_new dL_law_0 ck_10 cw_L_7 nw_10 iw_NineSaints df_10 ?_
  refine J_st (σ' := ah csA10) ?_ ?_
  · show (_, clR (lr []) 0, clI (li []) 0) = _
    rw [lr_cl (Nat.le_refl 0), li_cl (Nat.le_refl 0)]
    rfl
  refine J_dup dL_law_3 rfl ?_
  refine J_callI (as := []) (Q1 := fun r σ => r = none ∧ σ = ah csE10) dL_law_4 mi_X10_init lk_L_9 rfl (Nat.le_of_ble_eq_true rfl) (Nat.le_of_ble_eq_true rfl) (J_dep hd (ini_X10 ⟨rfl, rfl⟩)) (fun r σ' hr _ => ?_)
  obtain ⟨rfl, rfl⟩ := hr
  change J _ _ _ _ _ _ _ [vR 0] _ _
  refine J_astore_n dL_law_7 rfl (by decide) ?_
  refine J_new dL_law_8 ck_11 cw_L_10 nw_11 iw_NineSaintsModel df_11 ?_
  have hz : (ah csE10).1.length = 489 := by decide +kernel
  rw [hz]
  refine J_st (σ' := ah csA11) ?_ ?_
  · show (_, clR (lr csE10.2.1) 489, clI (li csE10.2.2) 489) = _
    rw [lr_cl (by decide +kernel), li_cl (by decide +kernel)]
    have e : csE10.1 ++ [.inl 11] = csA11.1 := by decide +kernel
    show (csE10.1 ++ [.inl 11], _, _) = _
    rw [e]
    rfl
  refine J_dup dL_law_11 rfl ?_
  refine J_callI (as := []) (k := 489) (st := [vR 489]) (mc1 := 67) (ms1 := 93583) (mc := 0) (ms := 0) (Q1 := fun r σ => r = none ∧ σ = ah csE11) dL_law_12 mi_X11_init lk_L_12 rfl (Nat.le_of_ble_eq_true rfl) (Nat.le_of_ble_eq_true rfl) (J_dep hd (ini_X11 ⟨rfl, rfl⟩)) (fun r σ' hr _ => ?_)
  obtain ⟨rfl, rfl⟩ := hr
  change J _ _ _ _ _ _ _ [vR 489] _ _
  refine J_astore_n dL_law_15 rfl (by decide) ?_
  refine J_iconst dL_law_16 (ii_c rfl) ?_
  refine J_istore_n dL_law_17 rfl (by decide) ?_
  rw [aE]
  exact law_loop hL ops (L + 1) 0 iE (by omega) (by omega) (by omega) (h0 _ (by omega))
