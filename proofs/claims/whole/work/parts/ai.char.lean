abbrev mJ0_checkIndex_df160 : MD := (yJ0_checkIndex_df160, cJ0_checkIndex_df160, 2, none)
theorem dJ0_checkIndex_df160_0 : decode cJ0_checkIndex_df160 0 = .ok (.iload_n 0, 1) := by decide +kernel
theorem dJ0_checkIndex_df160_1 : decode cJ0_checkIndex_df160 1 = .ok (.iload_n 1, 1) := by decide +kernel
theorem dJ0_checkIndex_df160_2 : decode cJ0_checkIndex_df160 2 = .ok (.getstatic 1053, 3) := by decide +kernel
theorem dJ0_checkIndex_df160_5 : decode cJ0_checkIndex_df160 5 = .ok (.invokestatic 1059, 3) := by decide +kernel
theorem dJ0_checkIndex_df160_8 : decode cJ0_checkIndex_df160 8 = .ok (.pop, 1) := by decide +kernel
theorem dJ0_checkIndex_df160_9 : decode cJ0_checkIndex_df160 9 = .ok (.return_, 1) := by decide +kernel
set_option maxRecDepth 100000 in
theorem xw_J0_checkIndex_df160 : Cond.code yJ0_checkIndex_df160 cJ0_checkIndex_df160 2 none ∈ GT := gt_in 828 rfl (by decide +kernel)
theorem ok_J0_checkIndex_df160 : MOK mJ0_checkIndex_df160 2 := ⟨xw_J0_checkIndex_df160, iw_java_lang_String, by decide +kernel, by decide +kernel, by decide⟩
theorem ms_J0_checkIndex_df160 : MS mJ0_checkIndex_df160 2 := ⟨ok_J0_checkIndex_df160, gt_in 827 (by decide +kernel) (by decide +kernel)⟩
abbrev mJ3_checkIndex_8e157 : MD := (yJ3_checkIndex_8e157, cJ3_checkIndex_8e157, 3, (some .int))
theorem dJ3_checkIndex_8e157_0 : decode cJ3_checkIndex_8e157 0 = .ok (.iload_n 0, 1) := by decide +kernel
theorem dJ3_checkIndex_8e157_1 : decode cJ3_checkIndex_8e157 1 = .ok (.ifCond .lt 8, 3) := by decide +kernel
theorem dJ3_checkIndex_8e157_4 : decode cJ3_checkIndex_8e157 4 = .ok (.iload_n 0, 1) := by decide +kernel
theorem dJ3_checkIndex_8e157_5 : decode cJ3_checkIndex_8e157 5 = .ok (.iload_n 1, 1) := by decide +kernel
theorem dJ3_checkIndex_8e157_6 : decode cJ3_checkIndex_8e157 6 = .ok (.if_icmp .lt 10, 3) := by decide +kernel
theorem dJ3_checkIndex_8e157_16 : decode cJ3_checkIndex_8e157 16 = .ok (.iload_n 0, 1) := by decide +kernel
theorem dJ3_checkIndex_8e157_17 : decode cJ3_checkIndex_8e157 17 = .ok (.ireturn, 1) := by decide +kernel
set_option maxRecDepth 100000 in
theorem xw_J3_checkIndex_8e157 : Cond.code yJ3_checkIndex_8e157 cJ3_checkIndex_8e157 3 (some .int) ∈ GT := gt_in 833 rfl (by decide +kernel)
theorem ok_J3_checkIndex_8e157 : MOK mJ3_checkIndex_8e157 3 := ⟨xw_J3_checkIndex_8e157, iw_jdk_internal_util_Preconditions, by decide +kernel, by decide +kernel, by decide⟩
theorem ms_J3_checkIndex_8e157 : MS mJ3_checkIndex_8e157 3 := ⟨ok_J3_checkIndex_8e157, gt_in 832 (by decide +kernel) (by decide +kernel)⟩
theorem lk_J1_9 : Cond.methodLink RJ1 9 yJ0_checkIndex_df160 ∈ GT := gt_in 826 (by decide +kernel) (by decide +kernel)
theorem lk_J0_1059 : Cond.methodLink RJ0 1059 yJ3_checkIndex_8e157 ∈ GT := gt_in 831 (by decide +kernel) (by decide +kernel)
theorem fw_J0_1053 : Cond.fieldLink RJ0 1053 "jdk/internal/util/Preconditions" "SIOOBE_FORMATTER" "Ljava/util/function/BiFunction;" ∈ GT := gt_in 829 (by decide +kernel) (by decide +kernel)
section CHA
variable {X : Option (Nat × (Nat → Int32))} {M : MD} {d mc ms pc : Nat} {ls : List (Nat × AV)} {st : List AV} {σ : AH} {Q : Option AV → AH → Prop} {I : HI} {K : Int → HI → Prop}
theorem J_getF {idx : Nat} (hd : decode M.2.1 pc = .ok (.getstatic idx, 3)) (hw : Cond.fieldLink M.1.cls idx "jdk/internal/util/Preconditions" "SIOOBE_FORMATTER" "Ljava/util/function/BiFunction;" ∈ GT) (k0 : J X M d mc ms (pc + 3) ls (vN :: st) σ Q) (k1 : J X M d mc ms (pc + 3) ls (.inr (.inr (.inr 3)) :: st) σ Q) : J X M d mc ms pc ls st σ Q := by
  intro p l e R s m args below meth c D B b dA E C0 S0 Z cx hR he H locs cells slots lsC hH hS h1 h2 hl hol hos
  have hks := cx.2.2.2.2.2.2.2.2.1
  rcases hks.2.2.1.2 with hz | hz
  · exact va_gets cx.1 cx.2.1 hz hS cx.2.2.2.1 (cx.2.2.2.2.1 _ hw) (fun x hx => hx) hd (k0 p l e R s m args below meth c D B b dA E C0 S0 Z cx hR he H locs cells slots lsC hH hS h1 h2 hl hol (ok_c trivial hos))
  · exact va_gets cx.1 cx.2.1 hz hS cx.2.2.2.1 (cx.2.2.2.2.1 _ hw) (fun x hx => hx) hd (k1 p l e R s m args below meth c D B b dA E C0 S0 Z cx hR he H locs cells slots lsC hH hS h1 h2 hl hol (ok_c trivial hos))
theorem J3_ck {i n : Int} {v : AV} (h0 : 0 ≤ i) (h1 : i < n) (h : Q (some (vI i)) σ) : J none mJ3_checkIndex_8e157 (d + 1) 0 0 0 [(0, vI i), (1, vI n), (2, v)] [] σ Q := by
  refine J_iload_n (x := i) dJ3_checkIndex_8e157_0 rfl rfl ?_
  refine J_if_lt (tgt := 9) dJ3_checkIndex_8e157_1 (by decide) (fun c => absurd c (by omega)) (fun c => ?_)
  refine J_iload_n (x := i) dJ3_checkIndex_8e157_4 rfl rfl ?_
  refine J_iload_n (x := n) dJ3_checkIndex_8e157_5 rfl rfl ?_
  refine J_ic_lt (tgt := 16) dJ3_checkIndex_8e157_6 (by decide) (fun c => ?_) (fun c => absurd h1 c)
  refine J_iload_n (x := i) dJ3_checkIndex_8e157_16 rfl rfl ?_
  exact J_reti dJ3_checkIndex_8e157_17 rfl h
theorem J0_ck {i n : Int} (h0 : 0 ≤ i) (h1 : i < n) (h : Q none σ) : J none mJ0_checkIndex_df160 (d + 2) 0 0 0 [(0, vI i), (1, vI n)] [] σ Q := by
  refine J_iload_n (x := i) dJ0_checkIndex_df160_0 rfl rfl ?_
  refine J_iload_n (x := n) dJ0_checkIndex_df160_1 rfl rfl ?_
  refine J_getF dJ0_checkIndex_df160_2 fw_J0_1053 ?_ ?_
  · refine J_callS (as := [vI i, vI n, vN]) (mc1 := 0) (ms1 := 0) (mc := 0) (ms := 0) dJ0_checkIndex_df160_5 ms_J3_checkIndex_8e157 lk_J0_1059 rfl (Nat.le_of_ble_eq_true rfl) (Nat.le_of_ble_eq_true rfl) (J3_ck (Q := fun r σ' => r = some (vI i) ∧ σ' = σ) h0 h1 ⟨rfl, rfl⟩) (fun r σ' hq _ => ?_)
    obtain ⟨rfl, rfl⟩ := hq
    change J _ _ _ _ _ _ _ [vI i] _ _
    exact J_pop dJ0_checkIndex_df160_8 rfl (J_retv dJ0_checkIndex_df160_9 rfl h)
  · refine J_callS (as := [vI i, vI n, .inr (.inr (.inr 3))]) (mc1 := 0) (ms1 := 0) (mc := 0) (ms := 0) dJ0_checkIndex_df160_5 ms_J3_checkIndex_8e157 lk_J0_1059 rfl (Nat.le_of_ble_eq_true rfl) (Nat.le_of_ble_eq_true rfl) (J3_ck (Q := fun r σ' => r = some (vI i) ∧ σ' = σ) h0 h1 ⟨rfl, rfl⟩) (fun r σ' hq _ => ?_)
    obtain ⟨rfl, rfl⟩ := hq
    change J _ _ _ _ _ _ _ [vI i] _ _
    exact J_pop dJ0_checkIndex_df160_8 rfl (J_retv dJ0_checkIndex_df160_9 rfl h)
def ow (i : Nat) : Int := (ownB.getD i 0).toInt
theorem ow_ch : ∀ i, i < 216 → oC (oA (ow i) 255) = ow i ∧ 0 ≤ ow i ∧ ow i ≤ 65535 := by decide +kernel
theorem J1_ch {i : Int} (h0 : 0 ≤ i) (h1 : i < 216) (h : Q (some (vI (ow i.toNat))) σ) : J none mJ1_charAt_3b067 (d + 3) 0 0 0 [(0, vY), (1, vI i)] [] σ Q := by
  refine J_iload_n (x := i) dJ1_charAt_3b067_0 rfl rfl ?_
  refine J_fload_n (f := 2) dJ1_charAt_3b067_1 rfl rfl ?_
  refine J_flen dJ1_charAt_3b067_2 ?_
  refine J_callS (as := [vI i, vI 216]) (mc1 := 0) (ms1 := 0) (mc := 0) (ms := 0) dJ1_charAt_3b067_3 ms_J0_checkIndex_df160 lk_J1_9 rfl (Nat.le_of_ble_eq_true rfl) (Nat.le_of_ble_eq_true rfl) (J0_ck (Q := fun r σ' => r = none ∧ σ' = σ) h0 h1 ⟨rfl, rfl⟩) (fun r σ' hq _ => ?_)
  obtain ⟨rfl, rfl⟩ := hq
  change J _ _ _ _ _ _ _ [] _ _
  refine J_fload_n (f := 2) dJ1_charAt_3b067_6 rfl rfl ?_
  refine J_iload_n (x := i) dJ1_charAt_3b067_7 rfl rfl ?_
  refine J_fbald dJ1_charAt_3b067_8 h0 h1 ?_
  refine J_sipush dJ1_charAt_3b067_9 (ii_c rfl) (by decide) ?_
  refine J_iand dJ1_charAt_3b067_12 ?_
  refine J_i2c dJ1_charAt_3b067_13 ?_
  have q := ow_ch i.toNat (by omega)
  have q1 := q.1
  unfold ow at q1
  rw [q1]
  exact J_retc dJ1_charAt_3b067_14 rfl ⟨q.2.1, q.2.2⟩ h
theorem J0_l1 (h : Q (some (vI 1)) σ) : J none mJ0_isLatin1_aae02 (d + 1) 0 0 0 [(0, vS)] [] σ Q := by
  refine J_getst dJ0_isLatin1_aae02_0 fw_J0_38 ?_
  refine J_if_eq (tgt := 17) dJ0_isLatin1_aae02_3 (by decide) (fun c => absurd c (by decide)) (fun c => ?_)
  refine J_fload_n (f := 1) dJ0_isLatin1_aae02_6 rfl rfl ?_
  refine J_getSc dJ0_isLatin1_aae02_7 fw_J0_15 ?_
  refine J_if_ne (tgt := 17) dJ0_isLatin1_aae02_10 (by decide) (fun c => absurd rfl c) (fun c => ?_)
  refine J_iconst dJ0_isLatin1_aae02_13 (ii_c rfl) ?_
  refine J_goto (tgt := 18) dJ0_isLatin1_aae02_14 (by decide) ?_
  exact J_retz dJ0_isLatin1_aae02_18 rfl (Or.inr rfl) h
theorem c0_charAt {i : Int} (h0 : 0 ≤ i) (h1 : i < 216) (h : K (ow i.toNat) I) : CI mJ0_charAt_5068e (d + 4) [vS, vI i] I K := by
  show J none mJ0_charAt_5068e (d + 4) 0 0 0 [(0, vS), (1, vI i)] [] (mk I) (PI K)
  refine J_fload_n (f := 1) dJ0_charAt_5068e_0 rfl rfl ?_
  refine J_callVF (as := []) (mc1 := 0) (ms1 := 0) (mc := 0) (ms := 0) dJ0_charAt_5068e_1 mv_J0_isLatin1_aae02 lk_J0_492 rfl (Nat.le_of_ble_eq_true rfl) (Nat.le_of_ble_eq_true rfl) (J0_l1 (Q := fun r σ' => r = some (vI 1) ∧ σ' = mk I) ⟨rfl, rfl⟩) (fun r σ' hq _ => ?_)
  obtain ⟨rfl, rfl⟩ := hq
  change J _ _ _ _ _ _ _ [vI 1] _ _
  refine J_if_eq (tgt := 16) dJ0_charAt_5068e_4 (by decide) (fun c => absurd c (by decide)) (fun c => ?_)
  refine J_fload_n (f := 1) dJ0_charAt_5068e_7 rfl rfl ?_
  refine J_getSv dJ0_charAt_5068e_8 fw_J0_9 ?_
  refine J_iload_n (x := i) dJ0_charAt_5068e_11 rfl rfl ?_
  refine J_callS (as := [vY, vI i]) (mc1 := 0) (ms1 := 0) (mc := 0) (ms := 0) dJ0_charAt_5068e_12 ms_J1_charAt_3b067 lk_J0_495 rfl (Nat.le_of_ble_eq_true rfl) (Nat.le_of_ble_eq_true rfl) (J1_ch (Q := fun r σ' => r = some (vI (ow i.toNat)) ∧ σ' = mk I) h0 h1 ⟨rfl, rfl⟩) (fun r σ' hq _ => ?_)
  obtain ⟨rfl, rfl⟩ := hq
  change J _ _ _ _ _ _ _ [vI (ow i.toNat)] _ _
  exact J_retc dJ0_charAt_5068e_15 rfl (ow_ch i.toNat (by omega)).2 (PI_i h)
end CHA
