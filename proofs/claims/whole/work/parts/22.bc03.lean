set_option maxRecDepth 20000 in
set_option maxHeartbeats 2000000 in
theorem bk_X4_tallyOf_0 {d : Nat} {I : HI} {Q : Option AV → AH → Prop} {a1 : Int} {a2 : Int} {a3 : Int}  (h : (-2147483648 ≤ (I 67 5) + 1 ∧ (I 67 5) + 1 ≤ 2147483647) ∧ (∀ I1 : HI, I1 = up I 67 5 ((I 67 5) + 1) → CV mX3_scanAll d [vR 57, vI a1, vI a2, vR 36] I1 (fun I2 => J none mX4_tallyOf (d + 1) 0 0 32 [(0, vR 67), (1, vI a1), (2, vI a2), (3, vI a3), (4, vI 0), (5, vI 0)] [] (mk I2) Q))) : J none mX4_tallyOf (d + 1) 0 0 0 [(0, vR 67), (1, vI a1), (2, vI a2), (3, vI a3)] [] (mk I) Q := by
  refine J_iconst dX4_tallyOf_0 (ii_c rfl) ?_
  refine J_istore dX4_tallyOf_1 (by decide) ?_
  change J _ _ _ _ _ _ [(0, _), (1, _), (2, _), (3, _), (4, _)] _ _ _
  refine J_aload_n dX4_tallyOf_3 rfl rfl ?_
  refine J_dup dX4_tallyOf_4 rfl ?_
  refine J_getI dX4_tallyOf_5 ck_4 fw_X4_102 rfl sh_67 ?_
  refine J_iconst dX4_tallyOf_8 (ii_c rfl) ?_
  refine J_iaddN dX4_tallyOf_9 h.1 ?_
  replace h := h.2
  refine J_putI dX4_tallyOf_10 ck_4 fw_X4_102 rfl rfl (Or.inl rfl) sh_67 ?_
  replace h := h _ rfl
  refine J_aload_n dX4_tallyOf_13 rfl rfl ?_
  refine J_getR dX4_tallyOf_14 ck_4 fw_X4_23 rfl sh_67 rr_67_2 ?_
  refine J_iload_n dX4_tallyOf_17 rfl rfl ?_
  refine J_iload_n dX4_tallyOf_18 rfl rfl ?_
  refine J_aload_n dX4_tallyOf_19 rfl rfl ?_
  refine J_getR dX4_tallyOf_20 ck_4 fw_X4_19 rfl sh_67 rr_67_1 ?_
  refine J_getR dX4_tallyOf_23 ck_9 fw_X4_31 rfl sh_32 rr_32_4 ?_
  refine J_callV (as := [_, _, _]) (mc1 := 0) (ms1 := 0) (mc := 0) (ms := 0) dX4_tallyOf_26 mv_X3_scanAll lk_X4_65 sh_57 rfl (Nat.le_of_ble_eq_true rfl) (Nat.le_of_ble_eq_true rfl) h (fun r σ hq _ => ?_)
  obtain ⟨I2, rfl, rfl, h⟩ := hq
  change J _ _ _ _ _ _ _ [] _ _
  refine J_iconst dX4_tallyOf_29 (ii_c rfl) ?_
  refine J_istore dX4_tallyOf_30 (by decide) ?_
  change J _ _ _ _ _ _ [(0, _), (1, _), (2, _), (3, _), (4, _), (5, _)] _ _ _
  exact h
set_option maxRecDepth 20000 in
set_option maxHeartbeats 2000000 in
theorem bk_X4_tallyOf_32 {d : Nat} {I : HI} {Q : Option AV → AH → Prop} {a1 : Int} {a2 : Int} {a3 : Int} {a4 : Int} {a5 : Int}  (h : (((I 57 5) ≤ a5 → Q (some (vI a4)) (mk I)) ∧ (¬ ((I 57 5) ≤ a5) → ((0 : Int) ≤ a5 ∧ (a5 : Int) < 1201) ∧ (((I 60 a5.toNat) ≠ 21 → ((0 = a3 → ((0 : Int) ≤ a5 ∧ (a5 : Int) < 1201) ∧ J none mX4_tallyOf (d + 1) 0 0 83 [(0, vR 67), (1, vI a1), (2, vI a2), (3, vI a3), (4, vI a4), (5, vI a5), (6, vI (I 58 a5.toNat))] [] (mk I) Q) ∧ (¬ (0 = a3) → (-2147483648 ≤ a5 + 1 ∧ a5 + 1 ≤ 2147483647) ∧ J none mX4_tallyOf (d + 1) 0 0 32 [(0, vR 67), (1, vI a1), (2, vI a2), (3, vI a3), (4, vI a4), (5, vI (a5 + 1))] [] (mk I) Q))) ∧ ((I 60 a5.toNat) = 21 → ((1 = a3 → ((0 : Int) ≤ a5 ∧ (a5 : Int) < 1201) ∧ J none mX4_tallyOf (d + 1) 0 0 83 [(0, vR 67), (1, vI a1), (2, vI a2), (3, vI a3), (4, vI a4), (5, vI a5), (6, vI (I 58 a5.toNat))] [] (mk I) Q) ∧ (¬ (1 = a3) → (-2147483648 ≤ a5 + 1 ∧ a5 + 1 ≤ 2147483647) ∧ J none mX4_tallyOf (d + 1) 0 0 32 [(0, vR 67), (1, vI a1), (2, vI a2), (3, vI a3), (4, vI a4), (5, vI (a5 + 1))] [] (mk I) Q))))))) : J none mX4_tallyOf (d + 1) 0 0 32 [(0, vR 67), (1, vI a1), (2, vI a2), (3, vI a3), (4, vI a4), (5, vI a5)] [] (mk I) Q := by
  refine J_iload dX4_tallyOf_32 rfl ?_
  refine J_aload_n dX4_tallyOf_34 rfl rfl ?_
  refine J_getR dX4_tallyOf_35 ck_4 fw_X4_23 rfl sh_67 rr_67_2 ?_
  refine J_getI dX4_tallyOf_38 ck_3 fw_X4_71 rfl sh_57 ?_
  refine J_ic_ge (tgt := 146) dX4_tallyOf_41 (by decide) (fun c => ?_) (fun c => ?_)
  · replace h := h.1 c
    refine J_iload dX4_tallyOf_146 rfl ?_
    exact J_reti dX4_tallyOf_148 rfl h
  · replace h := h.2 c
    refine J_aload_n dX4_tallyOf_44 rfl rfl ?_
    refine J_getR dX4_tallyOf_45 ck_4 fw_X4_23 rfl sh_67 rr_67_2 ?_
    refine J_getR dX4_tallyOf_48 ck_3 fw_X4_74 rfl sh_57 rr_57_3 ?_
    refine J_iload dX4_tallyOf_51 rfl ?_
    refine J_iald dX4_tallyOf_53 sh_60 h.1.1 h.1.2 ?_
    replace h := h.2
    refine J_bipush dX4_tallyOf_54 (ii_c rfl) (by decide) ?_
    refine J_ic_ne (tgt := 63) dX4_tallyOf_56 (by decide) (fun c => ?_) (fun c => ?_)
    · replace h := h.1 c
      refine J_iconst dX4_tallyOf_63 (ii_c rfl) ?_
      refine J_iload_n dX4_tallyOf_64 rfl rfl ?_
      refine J_ic_eq (tgt := 71) dX4_tallyOf_65 (by decide) (fun c => ?_) (fun c => ?_)
      · replace h := h.1 c
        refine J_aload_n dX4_tallyOf_71 rfl rfl ?_
        refine J_getR dX4_tallyOf_72 ck_4 fw_X4_23 rfl sh_67 rr_67_2 ?_
        refine J_getR dX4_tallyOf_75 ck_3 fw_X4_77 rfl sh_57 rr_57_1 ?_
        refine J_iload dX4_tallyOf_78 rfl ?_
        refine J_iald dX4_tallyOf_80 sh_58 h.1.1 h.1.2 ?_
        replace h := h.2
        refine J_istore dX4_tallyOf_81 (by decide) ?_
        change J _ _ _ _ _ _ [(0, _), (1, _), (2, _), (3, _), (4, _), (5, _), (6, _)] _ _ _
        exact h
      · replace h := h.2 c
        refine J_goto (tgt := 140) dX4_tallyOf_68 (by decide) ?_
        refine J_iincN dX4_tallyOf_140 rfl (by decide) h.1 ?_
        replace h := h.2
        change J _ _ _ _ _ _ [(0, _), (1, _), (2, _), (3, _), (4, _), (5, _)] _ _ _
        refine J_goto (tgt := 32) dX4_tallyOf_143 (by decide) ?_
        exact h
    · replace h := h.2 c
      refine J_iconst dX4_tallyOf_59 (ii_c rfl) ?_
      refine J_goto (tgt := 64) dX4_tallyOf_60 (by decide) ?_
      refine J_iload_n dX4_tallyOf_64 rfl rfl ?_
      refine J_ic_eq (tgt := 71) dX4_tallyOf_65 (by decide) (fun c => ?_) (fun c => ?_)
      · replace h := h.1 c
        refine J_aload_n dX4_tallyOf_71 rfl rfl ?_
        refine J_getR dX4_tallyOf_72 ck_4 fw_X4_23 rfl sh_67 rr_67_2 ?_
        refine J_getR dX4_tallyOf_75 ck_3 fw_X4_77 rfl sh_57 rr_57_1 ?_
        refine J_iload dX4_tallyOf_78 rfl ?_
        refine J_iald dX4_tallyOf_80 sh_58 h.1.1 h.1.2 ?_
        replace h := h.2
        refine J_istore dX4_tallyOf_81 (by decide) ?_
        change J _ _ _ _ _ _ [(0, _), (1, _), (2, _), (3, _), (4, _), (5, _), (6, _)] _ _ _
        exact h
      · replace h := h.2 c
        refine J_goto (tgt := 140) dX4_tallyOf_68 (by decide) ?_
        refine J_iincN dX4_tallyOf_140 rfl (by decide) h.1 ?_
        replace h := h.2
        change J _ _ _ _ _ _ [(0, _), (1, _), (2, _), (3, _), (4, _), (5, _)] _ _ _
        refine J_goto (tgt := 32) dX4_tallyOf_143 (by decide) ?_
        exact h
set_option maxRecDepth 20000 in
set_option maxHeartbeats 2000000 in
theorem bk_X4_tallyOf_83 {d : Nat} {I : HI} {Q : Option AV → AH → Prop} {a1 : Int} {a2 : Int} {a3 : Int} {a4 : Int} {a5 : Int} {a6 : Int}  (h : ((0 : Int) ≤ a5 ∧ (a5 : Int) < 1201) ∧ (((I 59 a5.toNat) < a6 → (-2147483648 ≤ a5 + 1 ∧ a5 + 1 ≤ 2147483647) ∧ J none mX4_tallyOf (d + 1) 0 0 32 [(0, vR 67), (1, vI a1), (2, vI a2), (3, vI a3), (4, vI a4), (5, vI (a5 + 1))] [] (mk I) Q) ∧ (¬ ((I 59 a5.toNat) < a6) → ((1000 ≤ a6 → (-2147483648 ≤ a5 + 1 ∧ a5 + 1 ≤ 2147483647) ∧ J none mX4_tallyOf (d + 1) 0 0 32 [(0, vR 67), (1, vI a1), (2, vI a2), (3, vI a3), (4, vI a4), (5, vI (a5 + 1))] [] (mk I) Q) ∧ (¬ (1000 ≤ a6) → ((0 : Int) ≤ a6 ∧ (a6 : Int) < 1000) ∧ (((I 68 a6.toNat) = (I 67 5) → (-2147483648 ≤ a6 + 1 ∧ a6 + 1 ≤ 2147483647) ∧ J none mX4_tallyOf (d + 1) 0 0 83 [(0, vR 67), (1, vI a1), (2, vI a2), (3, vI a3), (4, vI a4), (5, vI a5), (6, vI (a6 + 1))] [] (mk I) Q) ∧ (¬ ((I 68 a6.toNat) = (I 67 5)) → ((0 : Int) ≤ a6 ∧ (a6 : Int) < 1000) ∧ (∀ I1 : HI, I1 = up I 68 a6.toNat (I 67 5) → (-2147483648 ≤ a4 + 1 ∧ a4 + 1 ≤ 2147483647) ∧ (-2147483648 ≤ a6 + 1 ∧ a6 + 1 ≤ 2147483647) ∧ J none mX4_tallyOf (d + 1) 0 0 83 [(0, vR 67), (1, vI a1), (2, vI a2), (3, vI a3), (4, vI (a4 + 1)), (5, vI a5), (6, vI (a6 + 1))] [] (mk I1) Q)))))))) : J none mX4_tallyOf (d + 1) 0 0 83 [(0, vR 67), (1, vI a1), (2, vI a2), (3, vI a3), (4, vI a4), (5, vI a5), (6, vI a6)] [] (mk I) Q := by
  refine J_iload dX4_tallyOf_83 rfl ?_
  refine J_aload_n dX4_tallyOf_85 rfl rfl ?_
  refine J_getR dX4_tallyOf_86 ck_4 fw_X4_23 rfl sh_67 rr_67_2 ?_
  refine J_getR dX4_tallyOf_89 ck_3 fw_X4_90 rfl sh_57 rr_57_2 ?_
  refine J_iload dX4_tallyOf_92 rfl ?_
  refine J_iald dX4_tallyOf_94 sh_59 h.1.1 h.1.2 ?_
  replace h := h.2
  refine J_ic_gt (tgt := 140) dX4_tallyOf_95 (by decide) (fun c => ?_) (fun c => ?_)
  · replace h := h.1 c
    refine J_iincN dX4_tallyOf_140 rfl (by decide) h.1 ?_
    replace h := h.2
    change J _ _ _ _ _ _ [(0, _), (1, _), (2, _), (3, _), (4, _), (5, _), (6, _)] _ _ _
    refine J_goto (tgt := 32) dX4_tallyOf_143 (by decide) ?_
    exact J_loc (ls_sub [0, 1, 2, 3, 4, 5] rfl) h
  · replace h := h.2 c
    refine J_iload dX4_tallyOf_98 rfl ?_
    refine J_sipush dX4_tallyOf_100 (ii_c rfl) (by decide) ?_
    refine J_ic_ge (tgt := 140) dX4_tallyOf_103 (by decide) (fun c => ?_) (fun c => ?_)
    · replace h := h.1 c
      refine J_iincN dX4_tallyOf_140 rfl (by decide) h.1 ?_
      replace h := h.2
      change J _ _ _ _ _ _ [(0, _), (1, _), (2, _), (3, _), (4, _), (5, _), (6, _)] _ _ _
      refine J_goto (tgt := 32) dX4_tallyOf_143 (by decide) ?_
      exact J_loc (ls_sub [0, 1, 2, 3, 4, 5] rfl) h
    · replace h := h.2 c
      refine J_aload_n dX4_tallyOf_106 rfl rfl ?_
      refine J_getR dX4_tallyOf_107 ck_4 fw_X4_9 rfl sh_67 rr_67_4 ?_
      refine J_iload dX4_tallyOf_110 rfl ?_
      refine J_iald dX4_tallyOf_112 sh_68 h.1.1 h.1.2 ?_
      replace h := h.2
      refine J_aload_n dX4_tallyOf_113 rfl rfl ?_
      refine J_getI dX4_tallyOf_114 ck_4 fw_X4_102 rfl sh_67 ?_
      refine J_ic_eq (tgt := 134) dX4_tallyOf_117 (by decide) (fun c => ?_) (fun c => ?_)
      · replace h := h.1 c
        refine J_iincN dX4_tallyOf_134 rfl (by decide) h.1 ?_
        replace h := h.2
        change J _ _ _ _ _ _ [(0, _), (1, _), (2, _), (3, _), (4, _), (5, _), (6, _)] _ _ _
        refine J_goto (tgt := 83) dX4_tallyOf_137 (by decide) ?_
        exact h
      · replace h := h.2 c
        refine J_aload_n dX4_tallyOf_120 rfl rfl ?_
        refine J_getR dX4_tallyOf_121 ck_4 fw_X4_9 rfl sh_67 rr_67_4 ?_
        refine J_iload dX4_tallyOf_124 rfl ?_
        refine J_aload_n dX4_tallyOf_126 rfl rfl ?_
        refine J_getI dX4_tallyOf_127 ck_4 fw_X4_102 rfl sh_67 ?_
        refine J_iast dX4_tallyOf_130 sh_68 h.1.1 h.1.2 ?_
        replace h := h.2 _ rfl
        refine J_iincN dX4_tallyOf_131 rfl (by decide) h.1 ?_
        replace h := h.2
        change J _ _ _ _ _ _ [(0, _), (1, _), (2, _), (3, _), (4, _), (5, _), (6, _)] _ _ _
        refine J_iincN dX4_tallyOf_134 rfl (by decide) h.1 ?_
        replace h := h.2
        change J _ _ _ _ _ _ [(0, _), (1, _), (2, _), (3, _), (4, _), (5, _), (6, _)] _ _ _
        refine J_goto (tgt := 83) dX4_tallyOf_137 (by decide) ?_
        exact h
set_option maxRecDepth 20000 in
set_option maxHeartbeats 2000000 in
theorem bk_X4_firstMeeting_0 {d : Nat} {I : HI} {Q : Option AV → AH → Prop} {a1 : Int} {a2 : Int}  (h : CV mX3_scanAll d [vR 57, vI a1, vI a2, vR 36] I (fun I1 => J none mX4_firstMeeting (d + 1) 0 0 23 [(0, vR 67), (1, vI a1), (2, vI a2), (3, vI 1000), (4, vI 0)] [] (mk I1) Q)) : J none mX4_firstMeeting (d + 1) 0 0 0 [(0, vR 67), (1, vI a1), (2, vI a2)] [] (mk I) Q := by
  refine J_sipush dX4_firstMeeting_0 (ii_c rfl) (by decide) ?_
  refine J_istore_n dX4_firstMeeting_3 rfl (by decide) ?_
  change J _ _ _ _ _ _ [(0, _), (1, _), (2, _), (3, _)] _ _ _
  refine J_aload_n dX4_firstMeeting_4 rfl rfl ?_
  refine J_getR dX4_firstMeeting_5 ck_4 fw_X4_23 rfl sh_67 rr_67_2 ?_
  refine J_iload_n dX4_firstMeeting_8 rfl rfl ?_
  refine J_iload_n dX4_firstMeeting_9 rfl rfl ?_
  refine J_aload_n dX4_firstMeeting_10 rfl rfl ?_
  refine J_getR dX4_firstMeeting_11 ck_4 fw_X4_19 rfl sh_67 rr_67_1 ?_
  refine J_getR dX4_firstMeeting_14 ck_9 fw_X4_31 rfl sh_32 rr_32_4 ?_
  refine J_callV (as := [_, _, _]) (mc1 := 0) (ms1 := 0) (mc := 0) (ms := 0) dX4_firstMeeting_17 mv_X3_scanAll lk_X4_65 sh_57 rfl (Nat.le_of_ble_eq_true rfl) (Nat.le_of_ble_eq_true rfl) h (fun r σ hq _ => ?_)
  obtain ⟨I1, rfl, rfl, h⟩ := hq
  change J _ _ _ _ _ _ _ [] _ _
  refine J_iconst dX4_firstMeeting_20 (ii_c rfl) ?_
  refine J_istore dX4_firstMeeting_21 (by decide) ?_
  change J _ _ _ _ _ _ [(0, _), (1, _), (2, _), (3, _), (4, _)] _ _ _
  exact h
set_option maxRecDepth 20000 in
set_option maxHeartbeats 2000000 in
theorem bk_X4_firstMeeting_23 {d : Nat} {I : HI} {Q : Option AV → AH → Prop} {a1 : Int} {a2 : Int} {a3 : Int} {a4 : Int}  (h : (((I 57 5) ≤ a4 → ((1000 ≤ a3 → Q (some (vI (-1))) (mk I)) ∧ (¬ (1000 ≤ a3) → Q (some (vI a3)) (mk I)))) ∧ (¬ ((I 57 5) ≤ a4) → ((0 : Int) ≤ a4 ∧ (a4 : Int) < 1201) ∧ (-2147483648 ≤ a4 + 1 ∧ a4 + 1 ≤ 2147483647) ∧ J none mX4_firstMeeting (d + 1) 0 0 23 [(0, vR 67), (1, vI a1), (2, vI a2), (3, vI (min a3 (I 58 a4.toNat))), (4, vI (a4 + 1))] [] (mk I) Q))) : J none mX4_firstMeeting (d + 1) 0 0 23 [(0, vR 67), (1, vI a1), (2, vI a2), (3, vI a3), (4, vI a4)] [] (mk I) Q := by
  refine J_iload dX4_firstMeeting_23 rfl ?_
  refine J_aload_n dX4_firstMeeting_25 rfl rfl ?_
  refine J_getR dX4_firstMeeting_26 ck_4 fw_X4_23 rfl sh_67 rr_67_2 ?_
  refine J_getI dX4_firstMeeting_29 ck_3 fw_X4_71 rfl sh_57 ?_
  refine J_ic_ge (tgt := 56) dX4_firstMeeting_32 (by decide) (fun c => ?_) (fun c => ?_)
  · replace h := h.1 c
    refine J_iload_n dX4_firstMeeting_56 rfl rfl ?_
    refine J_sipush dX4_firstMeeting_57 (ii_c rfl) (by decide) ?_
    refine J_ic_ge (tgt := 67) dX4_firstMeeting_60 (by decide) (fun c => ?_) (fun c => ?_)
    · replace h := h.1 c
      refine J_iconst dX4_firstMeeting_67 (ii_c rfl) ?_
      exact J_reti dX4_firstMeeting_68 rfl h
    · replace h := h.2 c
      refine J_iload_n dX4_firstMeeting_63 rfl rfl ?_
      refine J_goto (tgt := 68) dX4_firstMeeting_64 (by decide) ?_
      exact J_reti dX4_firstMeeting_68 rfl h
  · replace h := h.2 c
    refine J_iload_n dX4_firstMeeting_35 rfl rfl ?_
    refine J_aload_n dX4_firstMeeting_36 rfl rfl ?_
    refine J_getR dX4_firstMeeting_37 ck_4 fw_X4_23 rfl sh_67 rr_67_2 ?_
    refine J_getR dX4_firstMeeting_40 ck_3 fw_X4_77 rfl sh_57 rr_57_1 ?_
    refine J_iload dX4_firstMeeting_43 rfl ?_
    refine J_iald dX4_firstMeeting_45 sh_58 h.1.1 h.1.2 ?_
    replace h := h.2
    refine J_min dX4_firstMeeting_46 lk_X4_93 (Nat.le_of_ble_eq_true rfl) ?_
    refine J_istore_n dX4_firstMeeting_49 rfl (by decide) ?_
    change J _ _ _ _ _ _ [(0, _), (1, _), (2, _), (3, _), (4, _)] _ _ _
    refine J_iincN dX4_firstMeeting_50 rfl (by decide) h.1 ?_
    replace h := h.2
    change J _ _ _ _ _ _ [(0, _), (1, _), (2, _), (3, _), (4, _)] _ _ _
    refine J_goto (tgt := 23) dX4_firstMeeting_53 (by decide) ?_
    exact h
set_option maxRecDepth 20000 in
set_option maxHeartbeats 2000000 in
theorem bk_X4_joy_0 {d : Nat} {I : HI} {Q : Option AV → AH → Prop}   (h : J none mX4_joy (d + 1) 0 0 4 [(0, vR 67), (1, vI 0), (2, vI 0)] [] (mk I) Q) : J none mX4_joy (d + 1) 0 0 0 [(0, vR 67)] [] (mk I) Q := by
  refine J_iconst dX4_joy_0 (ii_c rfl) ?_
  refine J_istore_n dX4_joy_1 rfl (by decide) ?_
  change J _ _ _ _ _ _ [(0, _), (1, _)] _ _ _
  refine J_iconst dX4_joy_2 (ii_c rfl) ?_
  refine J_istore_n dX4_joy_3 rfl (by decide) ?_
  change J _ _ _ _ _ _ [(0, _), (1, _), (2, _)] _ _ _
  exact h
set_option maxRecDepth 20000 in
set_option maxHeartbeats 2000000 in
theorem bk_X4_joy_4 {d : Nat} {I : HI} {Q : Option AV → AH → Prop} {a1 : Int} {a2 : Int}  (h : (((I 2 3) ≤ a2 → Q (some (vI a1)) (mk I)) ∧ (¬ ((I 2 3) ≤ a2) → J none mX4_joy (d + 1) 0 0 22 [(0, vR 67), (1, vI a1), (2, vI a2), (3, vI 0), (4, vI 0)] [] (mk I) Q))) : J none mX4_joy (d + 1) 0 0 4 [(0, vR 67), (1, vI a1), (2, vI a2)] [] (mk I) Q := by
  refine J_iload_n dX4_joy_4 rfl rfl ?_
  refine J_aload_n dX4_joy_5 rfl rfl ?_
  refine J_getR dX4_joy_6 ck_4 fw_X4_15 rfl sh_67 rr_67_0 ?_
  refine J_getR dX4_joy_9 ck_0 fw_X4_58 rfl sh_1 rr_1_0 ?_
  refine J_iconst dX4_joy_12 (ii_c rfl) ?_
  refine J_iald dX4_joy_13 sh_2 (by decide) (by decide) ?_
  refine J_ic_ge (tgt := 86) dX4_joy_14 (by decide) (fun c => ?_) (fun c => ?_)
  · replace h := h.1 c
    refine J_iload_n dX4_joy_86 rfl rfl ?_
    exact J_reti dX4_joy_87 rfl h
  · replace h := h.2 c
    refine J_iconst dX4_joy_17 (ii_c rfl) ?_
    refine J_istore_n dX4_joy_18 rfl (by decide) ?_
    change J _ _ _ _ _ _ [(0, _), (1, _), (2, _), (3, _)] _ _ _
    refine J_iconst dX4_joy_19 (ii_c rfl) ?_
    refine J_istore dX4_joy_20 (by decide) ?_
    change J _ _ _ _ _ _ [(0, _), (1, _), (2, _), (3, _), (4, _)] _ _ _
    exact h
set_option maxRecDepth 20000 in
set_option maxHeartbeats 2000000 in
theorem bk_X4_joy_22 {d : Nat} {I : HI} {Q : Option AV → AH → Prop} {a1 : Int} {a2 : Int} {a3 : Int} {a4 : Int}  (h : (((I 2 2) ≤ a4 → ((a3 = 0 → (-2147483648 ≤ a1 + 0 ∧ a1 + 0 ≤ 2147483647) ∧ (-2147483648 ≤ a2 + 1 ∧ a2 + 1 ≤ 2147483647) ∧ J none mX4_joy (d + 1) 0 0 4 [(0, vR 67), (1, vI (a1 + 0)), (2, vI (a2 + 1))] [] (mk I) Q) ∧ (¬ (a3 = 0) → (-2147483648 ≤ a2 * 4 ∧ a2 * 4 ≤ 2147483647) ∧ (-2147483648 ≤ (a2 * 4) + 3 ∧ (a2 * 4) + 3 ≤ 2147483647) ∧ ((0 : Int) ≤ ((a2 * 4) + 3) ∧ ((a2 * 4) + 3 : Int) < 40) ∧ (-2147483648 ≤ a1 + (I 8 ((a2 * 4) + 3).toNat) ∧ a1 + (I 8 ((a2 * 4) + 3).toNat) ≤ 2147483647) ∧ (-2147483648 ≤ a2 + 1 ∧ a2 + 1 ≤ 2147483647) ∧ J none mX4_joy (d + 1) 0 0 4 [(0, vR 67), (1, vI (a1 + (I 8 ((a2 * 4) + 3).toNat))), (2, vI (a2 + 1))] [] (mk I) Q))) ∧ (¬ ((I 2 2) ≤ a4) → ((a3 ≠ 0 → ((a3 = 0 → (-2147483648 ≤ a1 + 0 ∧ a1 + 0 ≤ 2147483647) ∧ (-2147483648 ≤ a2 + 1 ∧ a2 + 1 ≤ 2147483647) ∧ J none mX4_joy (d + 1) 0 0 4 [(0, vR 67), (1, vI (a1 + 0)), (2, vI (a2 + 1))] [] (mk I) Q) ∧ (¬ (a3 = 0) → (-2147483648 ≤ a2 * 4 ∧ a2 * 4 ≤ 2147483647) ∧ (-2147483648 ≤ (a2 * 4) + 3 ∧ (a2 * 4) + 3 ≤ 2147483647) ∧ ((0 : Int) ≤ ((a2 * 4) + 3) ∧ ((a2 * 4) + 3 : Int) < 40) ∧ (-2147483648 ≤ a1 + (I 8 ((a2 * 4) + 3).toNat) ∧ a1 + (I 8 ((a2 * 4) + 3).toNat) ≤ 2147483647) ∧ (-2147483648 ≤ a2 + 1 ∧ a2 + 1 ≤ 2147483647) ∧ J none mX4_joy (d + 1) 0 0 4 [(0, vR 67), (1, vI (a1 + (I 8 ((a2 * 4) + 3).toNat))), (2, vI (a2 + 1))] [] (mk I) Q))) ∧ (a3 = 0 → (-2147483648 ≤ a2 * 4 ∧ a2 * 4 ≤ 2147483647) ∧ CI mX4_pleases d [vR 67, vI a4, vI (a2 * 4)] I (fun x1 I1 => (-2147483648 ≤ a4 + 1 ∧ a4 + 1 ≤ 2147483647) ∧ J none mX4_joy (d + 1) 0 0 22 [(0, vR 67), (1, vI a1), (2, vI a2), (3, vI x1), (4, vI (a4 + 1))] [] (mk I1) Q)))))) : J none mX4_joy (d + 1) 0 0 22 [(0, vR 67), (1, vI a1), (2, vI a2), (3, vI a3), (4, vI a4)] [] (mk I) Q := by
  refine J_iload dX4_joy_22 rfl ?_
  refine J_aload_n dX4_joy_24 rfl rfl ?_
  refine J_getR dX4_joy_25 ck_4 fw_X4_15 rfl sh_67 rr_67_0 ?_
  refine J_getR dX4_joy_28 ck_0 fw_X4_58 rfl sh_1 rr_1_0 ?_
  refine J_iconst dX4_joy_31 (ii_c rfl) ?_
  refine J_iald dX4_joy_32 sh_2 (by decide) (by decide) ?_
  refine J_ic_ge (tgt := 56) dX4_joy_33 (by decide) (fun c => ?_) (fun c => ?_)
  · replace h := h.1 c
    refine J_iload_n dX4_joy_56 rfl rfl ?_
    refine J_iload_n dX4_joy_57 rfl rfl ?_
    refine J_if_eq (tgt := 77) dX4_joy_58 (by decide) (fun c => ?_) (fun c => ?_)
    · replace h := h.1 c
      refine J_iconst dX4_joy_77 (ii_c rfl) ?_
      refine J_iaddN dX4_joy_78 h.1 ?_
      replace h := h.2
      refine J_istore_n dX4_joy_79 rfl (by decide) ?_
      change J _ _ _ _ _ _ [(0, _), (1, _), (2, _), (3, _), (4, _)] _ _ _
      refine J_iincN dX4_joy_80 rfl (by decide) h.1 ?_
      replace h := h.2
      change J _ _ _ _ _ _ [(0, _), (1, _), (2, _), (3, _), (4, _)] _ _ _
      refine J_goto (tgt := 4) dX4_joy_83 (by decide) ?_
      exact J_loc (ls_sub [0, 1, 2] rfl) h
    · replace h := h.2 c
      refine J_aload_n dX4_joy_61 rfl rfl ?_
      refine J_getR dX4_joy_62 ck_4 fw_X4_15 rfl sh_67 rr_67_0 ?_
      refine J_getR dX4_joy_65 ck_0 fw_X4_109 rfl sh_1 rr_1_6 ?_
      refine J_iload_n dX4_joy_68 rfl rfl ?_
      refine J_iconst dX4_joy_69 (ii_c rfl) ?_
      refine J_imulN dX4_joy_70 h.1 ?_
      replace h := h.2
      refine J_iconst dX4_joy_71 (ii_c rfl) ?_
      refine J_iaddN dX4_joy_72 h.1 ?_
      replace h := h.2
      refine J_iald dX4_joy_73 sh_8 h.1.1 h.1.2 ?_
      replace h := h.2
      refine J_goto (tgt := 78) dX4_joy_74 (by decide) ?_
      refine J_iaddN dX4_joy_78 h.1 ?_
      replace h := h.2
      refine J_istore_n dX4_joy_79 rfl (by decide) ?_
      change J _ _ _ _ _ _ [(0, _), (1, _), (2, _), (3, _), (4, _)] _ _ _
      refine J_iincN dX4_joy_80 rfl (by decide) h.1 ?_
      replace h := h.2
      change J _ _ _ _ _ _ [(0, _), (1, _), (2, _), (3, _), (4, _)] _ _ _
      refine J_goto (tgt := 4) dX4_joy_83 (by decide) ?_
      exact J_loc (ls_sub [0, 1, 2] rfl) h
  · replace h := h.2 c
    refine J_iload_n dX4_joy_36 rfl rfl ?_
    refine J_if_ne (tgt := 56) dX4_joy_37 (by decide) (fun c => ?_) (fun c => ?_)
    · replace h := h.1 c
      refine J_iload_n dX4_joy_56 rfl rfl ?_
      refine J_iload_n dX4_joy_57 rfl rfl ?_
      refine J_if_eq (tgt := 77) dX4_joy_58 (by decide) (fun c => ?_) (fun c => ?_)
      · replace h := h.1 c
        refine J_iconst dX4_joy_77 (ii_c rfl) ?_
        refine J_iaddN dX4_joy_78 h.1 ?_
        replace h := h.2
        refine J_istore_n dX4_joy_79 rfl (by decide) ?_
        change J _ _ _ _ _ _ [(0, _), (1, _), (2, _), (3, _), (4, _)] _ _ _
        refine J_iincN dX4_joy_80 rfl (by decide) h.1 ?_
        replace h := h.2
        change J _ _ _ _ _ _ [(0, _), (1, _), (2, _), (3, _), (4, _)] _ _ _
        refine J_goto (tgt := 4) dX4_joy_83 (by decide) ?_
        exact J_loc (ls_sub [0, 1, 2] rfl) h
      · replace h := h.2 c
        refine J_aload_n dX4_joy_61 rfl rfl ?_
        refine J_getR dX4_joy_62 ck_4 fw_X4_15 rfl sh_67 rr_67_0 ?_
        refine J_getR dX4_joy_65 ck_0 fw_X4_109 rfl sh_1 rr_1_6 ?_
        refine J_iload_n dX4_joy_68 rfl rfl ?_
        refine J_iconst dX4_joy_69 (ii_c rfl) ?_
        refine J_imulN dX4_joy_70 h.1 ?_
        replace h := h.2
        refine J_iconst dX4_joy_71 (ii_c rfl) ?_
        refine J_iaddN dX4_joy_72 h.1 ?_
        replace h := h.2
        refine J_iald dX4_joy_73 sh_8 h.1.1 h.1.2 ?_
        replace h := h.2
        refine J_goto (tgt := 78) dX4_joy_74 (by decide) ?_
        refine J_iaddN dX4_joy_78 h.1 ?_
        replace h := h.2
        refine J_istore_n dX4_joy_79 rfl (by decide) ?_
        change J _ _ _ _ _ _ [(0, _), (1, _), (2, _), (3, _), (4, _)] _ _ _
        refine J_iincN dX4_joy_80 rfl (by decide) h.1 ?_
        replace h := h.2
        change J _ _ _ _ _ _ [(0, _), (1, _), (2, _), (3, _), (4, _)] _ _ _
        refine J_goto (tgt := 4) dX4_joy_83 (by decide) ?_
        exact J_loc (ls_sub [0, 1, 2] rfl) h
    · replace h := h.2 c
      refine J_aload_n dX4_joy_40 rfl rfl ?_
      refine J_iload dX4_joy_41 rfl ?_
      refine J_iload_n dX4_joy_43 rfl rfl ?_
      refine J_iconst dX4_joy_44 (ii_c rfl) ?_
      refine J_imulN dX4_joy_45 h.1 ?_
      replace h := h.2
      refine J_callV (as := [_, _]) (mc1 := 0) (ms1 := 0) (mc := 0) (ms := 0) dX4_joy_46 mv_X4_pleases lk_X4_105 sh_67 rfl (Nat.le_of_ble_eq_true rfl) (Nat.le_of_ble_eq_true rfl) h (fun r σ hq _ => ?_)
      obtain ⟨x1, I1, rfl, rfl, h⟩ := hq
      change J _ _ _ _ _ _ _ [vI x1] _ _
      refine J_istore_n dX4_joy_49 rfl (by decide) ?_
      change J _ _ _ _ _ _ [(0, _), (1, _), (2, _), (3, _), (4, _)] _ _ _
      refine J_iincN dX4_joy_50 rfl (by decide) h.1 ?_
      replace h := h.2
      change J _ _ _ _ _ _ [(0, _), (1, _), (2, _), (3, _), (4, _)] _ _ _
      refine J_goto (tgt := 22) dX4_joy_53 (by decide) ?_
      exact h
set_option maxRecDepth 20000 in
set_option maxHeartbeats 2000000 in
theorem bk_X4_pleases_0 {d : Nat} {I : HI} {Q : Option AV → AH → Prop} {a1 : Int} {a2 : Int}  (h : ((0 : Int) ≤ a1 ∧ (a1 : Int) < 4) ∧ J none mX4_pleases (d + 1) 0 0 13 [(0, vR 67), (1, vI a1), (2, vI a2), (3, vR (37 + 5 * a1.toNat)), (4, vI 0)] [] (mk I) Q) : J none mX4_pleases (d + 1) 0 0 0 [(0, vR 67), (1, vI a1), (2, vI a2)] [] (mk I) Q := by
  refine J_aload_n dX4_pleases_0 rfl rfl ?_
  refine J_getR dX4_pleases_1 ck_4 fw_X4_19 rfl sh_67 rr_67_1 ?_
  refine J_getR dX4_pleases_4 ck_9 fw_X4_31 rfl sh_32 rr_32_4 ?_
  refine J_iload_n dX4_pleases_7 rfl rfl ?_
  have hb1 := h.1
  refine J_aald dX4_pleases_8 sh_36 h.1.1 h.1.2 (RRw h.1.1 h.1.2) ?_
  replace h := h.2
  refine J_astore_n dX4_pleases_9 rfl (by decide) ?_
  change J _ _ _ _ _ _ [(0, _), (1, _), (2, _), (3, _)] _ _ _
  refine J_iconst dX4_pleases_10 (ii_c rfl) ?_
  refine J_istore dX4_pleases_11 (by decide) ?_
  change J _ _ _ _ _ _ [(0, _), (1, _), (2, _), (3, _), (4, _)] _ _ _
  exact h
set_option maxRecDepth 20000 in
set_option maxHeartbeats 2000000 in
theorem bk_X4_pleases_13 {d : Nat} {I : HI} {Q : Option AV → AH → Prop} {a1 : Int} {a2 : Int} {a3 ka3 : Nat} {a4 : Int} (ha3 : TR a3 ka3) (h : (((I a3 7) = 0 → Q (some (vI 0)) (mk I)) ∧ (¬ ((I a3 7) = 0) → (((I a3 4) ≤ a4 → Q (some (vI 0)) (mk I)) ∧ (¬ ((I a3 4) ≤ a4) → ((a4 ≠ 0 → ((0 : Int) ≤ a4 ∧ (a4 : Int) < ka3) ∧ ((0 : Int) ≤ a4 ∧ (a4 : Int) < ka3) ∧ ((0 : Int) ≤ a2 ∧ (a2 : Int) < 40) ∧ (((I (a3 + 1) a4.toNat) ≠ (I 8 a2.toNat) → (-2147483648 ≤ a4 + 1 ∧ a4 + 1 ≤ 2147483647) ∧ J none mX4_pleases (d + 1) 0 0 13 [(0, vR 67), (1, vI a1), (2, vI a2), (3, vR a3), (4, vI (a4 + 1))] [] (mk I) Q) ∧ ((I (a3 + 1) a4.toNat) = (I 8 a2.toNat) → (-2147483648 ≤ a2 + 1 ∧ a2 + 1 ≤ 2147483647) ∧ ((0 : Int) ≤ (a2 + 1) ∧ (a2 + 1 : Int) < 40) ∧ (((I (a3 + 4) a4.toNat) < (I 8 (a2 + 1).toNat) → (-2147483648 ≤ a4 + 1 ∧ a4 + 1 ≤ 2147483647) ∧ J none mX4_pleases (d + 1) 0 0 13 [(0, vR 67), (1, vI a1), (2, vI a2), (3, vR a3), (4, vI (a4 + 1))] [] (mk I) Q) ∧ (¬ ((I (a3 + 4) a4.toNat) < (I 8 (a2 + 1).toNat)) → (-2147483648 ≤ a2 + 2 ∧ a2 + 2 ≤ 2147483647) ∧ ((0 : Int) ≤ (a2 + 2) ∧ (a2 + 2 : Int) < 40) ∧ (((I 8 (a2 + 2).toNat) < (I (a3 + 4) a4.toNat) → (-2147483648 ≤ a4 + 1 ∧ a4 + 1 ≤ 2147483647) ∧ J none mX4_pleases (d + 1) 0 0 13 [(0, vR 67), (1, vI a1), (2, vI a2), (3, vR a3), (4, vI (a4 + 1))] [] (mk I) Q) ∧ (¬ ((I 8 (a2 + 2).toNat) < (I (a3 + 4) a4.toNat)) → Q (some (vI 1)) (mk I)))))))) ∧ (a4 = 0 → ((0 : Int) ≤ a4 ∧ (a4 : Int) < ka3) ∧ ((0 : Int) ≤ a2 ∧ (a2 : Int) < 40) ∧ (((I (a3 + 1) a4.toNat) ≠ (I 8 a2.toNat) → (-2147483648 ≤ a4 + 1 ∧ a4 + 1 ≤ 2147483647) ∧ J none mX4_pleases (d + 1) 0 0 13 [(0, vR 67), (1, vI a1), (2, vI a2), (3, vR a3), (4, vI (a4 + 1))] [] (mk I) Q) ∧ ((I (a3 + 1) a4.toNat) = (I 8 a2.toNat) → (-2147483648 ≤ a2 + 1 ∧ a2 + 1 ≤ 2147483647) ∧ ((0 : Int) ≤ (a2 + 1) ∧ (a2 + 1 : Int) < 40) ∧ ((0 < (I 8 (a2 + 1).toNat) → (-2147483648 ≤ a4 + 1 ∧ a4 + 1 ≤ 2147483647) ∧ J none mX4_pleases (d + 1) 0 0 13 [(0, vR 67), (1, vI a1), (2, vI a2), (3, vR a3), (4, vI (a4 + 1))] [] (mk I) Q) ∧ (¬ (0 < (I 8 (a2 + 1).toNat)) → (-2147483648 ≤ a2 + 2 ∧ a2 + 2 ≤ 2147483647) ∧ ((0 : Int) ≤ (a2 + 2) ∧ (a2 + 2 : Int) < 40) ∧ (((I 8 (a2 + 2).toNat) < 0 → (-2147483648 ≤ a4 + 1 ∧ a4 + 1 ≤ 2147483647) ∧ J none mX4_pleases (d + 1) 0 0 13 [(0, vR 67), (1, vI a1), (2, vI a2), (3, vR a3), (4, vI (a4 + 1))] [] (mk I) Q) ∧ (¬ ((I 8 (a2 + 2).toNat) < 0) → Q (some (vI 1)) (mk I)))))))))))))) : J none mX4_pleases (d + 1) 0 0 13 [(0, vR 67), (1, vI a1), (2, vI a2), (3, vR a3), (4, vI a4)] [] (mk I) Q := by
  refine J_aload_n dX4_pleases_13 rfl rfl ?_
  refine J_getI dX4_pleases_14 ck_8 fw_X4_37 rfl ha3.1 ?_
  refine J_if_eq (tgt := 106) dX4_pleases_17 (by decide) (fun c => ?_) (fun c => ?_)
  · replace h := h.1 c
    refine J_iconst dX4_pleases_106 (ii_c rfl) ?_
    exact J_retz dX4_pleases_107 rfl (Or.inl rfl) h
  · replace h := h.2 c
    refine J_iload dX4_pleases_20 rfl ?_
    refine J_aload_n dX4_pleases_22 rfl rfl ?_
    refine J_getI dX4_pleases_23 ck_8 fw_X4_43 rfl ha3.1 ?_
    refine J_ic_ge (tgt := 106) dX4_pleases_26 (by decide) (fun c => ?_) (fun c => ?_)
    · replace h := h.1 c
      refine J_iconst dX4_pleases_106 (ii_c rfl) ?_
      exact J_retz dX4_pleases_107 rfl (Or.inl rfl) h
    · replace h := h.2 c
      refine J_iload dX4_pleases_29 rfl ?_
      refine J_if_ne (tgt := 38) dX4_pleases_31 (by decide) (fun c => ?_) (fun c => ?_)
      · replace h := h.1 c
        refine J_aload_n dX4_pleases_38 rfl rfl ?_
        refine J_getR dX4_pleases_39 ck_8 fw_X4_55 rfl ha3.1 ha3.2.2.2.2.1 ?_
        refine J_iload dX4_pleases_42 rfl ?_
        refine J_iald dX4_pleases_44 ha3.2.2.2.2.2.2.2.2 h.1.1 h.1.2 ?_
        replace h := h.2
        refine J_istore dX4_pleases_45 (by decide) ?_
        change J _ _ _ _ _ _ [(0, _), (1, _), (2, _), (3, _), (4, _), (5, _)] _ _ _
        refine J_aload_n dX4_pleases_47 rfl rfl ?_
        refine J_getR dX4_pleases_48 ck_8 fw_X4_52 rfl ha3.1 ha3.2.1 ?_
        refine J_iload dX4_pleases_51 rfl ?_
        refine J_iald dX4_pleases_53 ha3.2.2.2.2.2.1 h.1.1 h.1.2 ?_
        replace h := h.2
        refine J_aload_n dX4_pleases_54 rfl rfl ?_
        refine J_getR dX4_pleases_55 ck_4 fw_X4_15 rfl sh_67 rr_67_0 ?_
        refine J_getR dX4_pleases_58 ck_0 fw_X4_109 rfl sh_1 rr_1_6 ?_
        refine J_iload_n dX4_pleases_61 rfl rfl ?_
        refine J_iald dX4_pleases_62 sh_8 h.1.1 h.1.2 ?_
        replace h := h.2
        refine J_ic_ne (tgt := 100) dX4_pleases_63 (by decide) (fun c => ?_) (fun c => ?_)
        · replace h := h.1 c
          refine J_iincN dX4_pleases_100 rfl (by decide) h.1 ?_
          replace h := h.2
          change J _ _ _ _ _ _ [(0, _), (1, _), (2, _), (3, _), (4, _), (5, _)] _ _ _
          refine J_goto (tgt := 13) dX4_pleases_103 (by decide) ?_
          exact J_loc (ls_sub [0, 1, 2, 3, 4] rfl) h
        · replace h := h.2 c
          refine J_iload dX4_pleases_66 rfl ?_
          refine J_aload_n dX4_pleases_68 rfl rfl ?_
          refine J_getR dX4_pleases_69 ck_4 fw_X4_15 rfl sh_67 rr_67_0 ?_
          refine J_getR dX4_pleases_72 ck_0 fw_X4_109 rfl sh_1 rr_1_6 ?_
          refine J_iload_n dX4_pleases_75 rfl rfl ?_
          refine J_iconst dX4_pleases_76 (ii_c rfl) ?_
          refine J_iaddN dX4_pleases_77 h.1 ?_
          replace h := h.2
          refine J_iald dX4_pleases_78 sh_8 h.1.1 h.1.2 ?_
          replace h := h.2
          refine J_ic_lt (tgt := 100) dX4_pleases_79 (by decide) (fun c => ?_) (fun c => ?_)
          · replace h := h.1 c
            refine J_iincN dX4_pleases_100 rfl (by decide) h.1 ?_
            replace h := h.2
            change J _ _ _ _ _ _ [(0, _), (1, _), (2, _), (3, _), (4, _), (5, _)] _ _ _
            refine J_goto (tgt := 13) dX4_pleases_103 (by decide) ?_
            exact J_loc (ls_sub [0, 1, 2, 3, 4] rfl) h
          · replace h := h.2 c
            refine J_iload dX4_pleases_82 rfl ?_
            refine J_aload_n dX4_pleases_84 rfl rfl ?_
            refine J_getR dX4_pleases_85 ck_4 fw_X4_15 rfl sh_67 rr_67_0 ?_
            refine J_getR dX4_pleases_88 ck_0 fw_X4_109 rfl sh_1 rr_1_6 ?_
            refine J_iload_n dX4_pleases_91 rfl rfl ?_
            refine J_iconst dX4_pleases_92 (ii_c rfl) ?_
            refine J_iaddN dX4_pleases_93 h.1 ?_
            replace h := h.2
            refine J_iald dX4_pleases_94 sh_8 h.1.1 h.1.2 ?_
            replace h := h.2
            refine J_ic_gt (tgt := 100) dX4_pleases_95 (by decide) (fun c => ?_) (fun c => ?_)
            · replace h := h.1 c
              refine J_iincN dX4_pleases_100 rfl (by decide) h.1 ?_
              replace h := h.2
              change J _ _ _ _ _ _ [(0, _), (1, _), (2, _), (3, _), (4, _), (5, _)] _ _ _
              refine J_goto (tgt := 13) dX4_pleases_103 (by decide) ?_
              exact J_loc (ls_sub [0, 1, 2, 3, 4] rfl) h
            · replace h := h.2 c
              refine J_iconst dX4_pleases_98 (ii_c rfl) ?_
              exact J_retz dX4_pleases_99 rfl (Or.inr rfl) h
      · replace h := h.2 c
        refine J_iconst dX4_pleases_34 (ii_c rfl) ?_
        refine J_goto (tgt := 45) dX4_pleases_35 (by decide) ?_
        refine J_istore dX4_pleases_45 (by decide) ?_
        change J _ _ _ _ _ _ [(0, _), (1, _), (2, _), (3, _), (4, _), (5, _)] _ _ _
        refine J_aload_n dX4_pleases_47 rfl rfl ?_
        refine J_getR dX4_pleases_48 ck_8 fw_X4_52 rfl ha3.1 ha3.2.1 ?_
        refine J_iload dX4_pleases_51 rfl ?_
        refine J_iald dX4_pleases_53 ha3.2.2.2.2.2.1 h.1.1 h.1.2 ?_
        replace h := h.2
        refine J_aload_n dX4_pleases_54 rfl rfl ?_
        refine J_getR dX4_pleases_55 ck_4 fw_X4_15 rfl sh_67 rr_67_0 ?_
        refine J_getR dX4_pleases_58 ck_0 fw_X4_109 rfl sh_1 rr_1_6 ?_
        refine J_iload_n dX4_pleases_61 rfl rfl ?_
        refine J_iald dX4_pleases_62 sh_8 h.1.1 h.1.2 ?_
        replace h := h.2
        refine J_ic_ne (tgt := 100) dX4_pleases_63 (by decide) (fun c => ?_) (fun c => ?_)
        · replace h := h.1 c
          refine J_iincN dX4_pleases_100 rfl (by decide) h.1 ?_
          replace h := h.2
          change J _ _ _ _ _ _ [(0, _), (1, _), (2, _), (3, _), (4, _), (5, _)] _ _ _
          refine J_goto (tgt := 13) dX4_pleases_103 (by decide) ?_
          exact J_loc (ls_sub [0, 1, 2, 3, 4] rfl) h
        · replace h := h.2 c
          refine J_iload dX4_pleases_66 rfl ?_
          refine J_aload_n dX4_pleases_68 rfl rfl ?_
          refine J_getR dX4_pleases_69 ck_4 fw_X4_15 rfl sh_67 rr_67_0 ?_
          refine J_getR dX4_pleases_72 ck_0 fw_X4_109 rfl sh_1 rr_1_6 ?_
          refine J_iload_n dX4_pleases_75 rfl rfl ?_
          refine J_iconst dX4_pleases_76 (ii_c rfl) ?_
          refine J_iaddN dX4_pleases_77 h.1 ?_
          replace h := h.2
          refine J_iald dX4_pleases_78 sh_8 h.1.1 h.1.2 ?_
          replace h := h.2
          refine J_ic_lt (tgt := 100) dX4_pleases_79 (by decide) (fun c => ?_) (fun c => ?_)
          · replace h := h.1 c
            refine J_iincN dX4_pleases_100 rfl (by decide) h.1 ?_
            replace h := h.2
            change J _ _ _ _ _ _ [(0, _), (1, _), (2, _), (3, _), (4, _), (5, _)] _ _ _
            refine J_goto (tgt := 13) dX4_pleases_103 (by decide) ?_
            exact J_loc (ls_sub [0, 1, 2, 3, 4] rfl) h
          · replace h := h.2 c
            refine J_iload dX4_pleases_82 rfl ?_
            refine J_aload_n dX4_pleases_84 rfl rfl ?_
            refine J_getR dX4_pleases_85 ck_4 fw_X4_15 rfl sh_67 rr_67_0 ?_
            refine J_getR dX4_pleases_88 ck_0 fw_X4_109 rfl sh_1 rr_1_6 ?_
            refine J_iload_n dX4_pleases_91 rfl rfl ?_
            refine J_iconst dX4_pleases_92 (ii_c rfl) ?_
            refine J_iaddN dX4_pleases_93 h.1 ?_
            replace h := h.2
            refine J_iald dX4_pleases_94 sh_8 h.1.1 h.1.2 ?_
            replace h := h.2
            refine J_ic_gt (tgt := 100) dX4_pleases_95 (by decide) (fun c => ?_) (fun c => ?_)
            · replace h := h.1 c
              refine J_iincN dX4_pleases_100 rfl (by decide) h.1 ?_
              replace h := h.2
              change J _ _ _ _ _ _ [(0, _), (1, _), (2, _), (3, _), (4, _), (5, _)] _ _ _
              refine J_goto (tgt := 13) dX4_pleases_103 (by decide) ?_
              exact J_loc (ls_sub [0, 1, 2, 3, 4] rfl) h
            · replace h := h.2 c
              refine J_iconst dX4_pleases_98 (ii_c rfl) ?_
              exact J_retz dX4_pleases_99 rfl (Or.inr rfl) h
set_option maxRecDepth 20000 in
set_option maxHeartbeats 2000000 in
theorem bk_X4_softest_0 {d : Nat} {I : HI} {Q : Option AV → AH → Prop}   (h : J none mX4_softest (d + 1) 0 0 4 [(0, vR 67), (1, vL 0), (3, vI 0)] [] (mk I) Q) : J none mX4_softest (d + 1) 0 0 0 [(0, vR 67)] [] (mk I) Q := by
  refine J_lconst 0 dX4_softest_0 (ll_c rfl) (by decide) ?_
  refine J_lstore_n dX4_softest_1 rfl (by decide) ?_
  change J _ _ _ _ _ _ [(0, _), (1, _)] _ _ _
  refine J_iconst dX4_softest_2 (ii_c rfl) ?_
  refine J_istore_n dX4_softest_3 rfl (by decide) ?_
  change J _ _ _ _ _ _ [(0, _), (1, _), (3, _)] _ _ _
  exact h
set_option maxRecDepth 20000 in
set_option maxHeartbeats 2000000 in
theorem bk_X4_softest_4 {d : Nat} {I : HI} {Q : Option AV → AH → Prop} {a1 : Int} {a3 : Int}  (h : (((I 2 2) ≤ a3 → J none mX4_softest (d + 1) 0 0 63 [(0, vR 67), (1, vL a1), (3, vI (-1)), (4, vI 0)] [] (mk I) Q) ∧ (¬ ((I 2 2) ≤ a3) → (-2147483648 ≤ a3 + 1 ∧ a3 + 1 ≤ 2147483647) ∧ J none mX4_softest (d + 1) 0 0 22 [(0, vR 67), (1, vL a1), (3, vI a3), (4, vI (a3 + 1))] [] (mk I) Q))) : J none mX4_softest (d + 1) 0 0 4 [(0, vR 67), (1, vL a1), (3, vI a3)] [] (mk I) Q := by
  refine J_iload_n dX4_softest_4 rfl rfl ?_
  refine J_aload_n dX4_softest_5 rfl rfl ?_
  refine J_getR dX4_softest_6 ck_4 fw_X4_15 rfl sh_67 rr_67_0 ?_
  refine J_getR dX4_softest_9 ck_0 fw_X4_58 rfl sh_1 rr_1_0 ?_
  refine J_iconst dX4_softest_12 (ii_c rfl) ?_
  refine J_iald dX4_softest_13 sh_2 (by decide) (by decide) ?_
  refine J_ic_ge (tgt := 58) dX4_softest_14 (by decide) (fun c => ?_) (fun c => ?_)
  · replace h := h.1 c
    refine J_iconst dX4_softest_58 (ii_c rfl) ?_
    refine J_istore_n dX4_softest_59 rfl (by decide) ?_
    change J _ _ _ _ _ _ [(0, _), (1, _), (3, _)] _ _ _
    refine J_iconst dX4_softest_60 (ii_c rfl) ?_
    refine J_istore dX4_softest_61 (by decide) ?_
    change J _ _ _ _ _ _ [(0, _), (1, _), (3, _), (4, _)] _ _ _
    exact h
  · replace h := h.2 c
    refine J_iload_n dX4_softest_17 rfl rfl ?_
    refine J_iconst dX4_softest_18 (ii_c rfl) ?_
    refine J_iaddN dX4_softest_19 h.1 ?_
    replace h := h.2
    refine J_istore dX4_softest_20 (by decide) ?_
    change J _ _ _ _ _ _ [(0, _), (1, _), (3, _), (4, _)] _ _ _
    exact h
set_option maxRecDepth 20000 in
set_option maxHeartbeats 2000000 in
theorem bk_X4_softest_22 {d : Nat} {I : HI} {Q : Option AV → AH → Prop} {a1 : Int} {a3 : Int} {a4 : Int}  (h : (((I 2 2) ≤ a4 → (-2147483648 ≤ a3 + 1 ∧ a3 + 1 ≤ 2147483647) ∧ J none mX4_softest (d + 1) 0 0 4 [(0, vR 67), (1, vL a1), (3, vI (a3 + 1))] [] (mk I) Q) ∧ (¬ ((I 2 2) ≤ a4) → CL mX4_heldSets d [vR 67, vI a3, vI a4] I (fun x1 I1 => (-2147483648 ≤ a4 + 1 ∧ a4 + 1 ≤ 2147483647) ∧ J none mX4_softest (d + 1) 0 0 22 [(0, vR 67), (1, vL (lO a1 x1)), (3, vI a3), (4, vI (a4 + 1))] [] (mk I1) Q)))) : J none mX4_softest (d + 1) 0 0 22 [(0, vR 67), (1, vL a1), (3, vI a3), (4, vI a4)] [] (mk I) Q := by
  refine J_iload dX4_softest_22 rfl ?_
  refine J_aload_n dX4_softest_24 rfl rfl ?_
  refine J_getR dX4_softest_25 ck_4 fw_X4_15 rfl sh_67 rr_67_0 ?_
  refine J_getR dX4_softest_28 ck_0 fw_X4_58 rfl sh_1 rr_1_0 ?_
  refine J_iconst dX4_softest_31 (ii_c rfl) ?_
  refine J_iald dX4_softest_32 sh_2 (by decide) (by decide) ?_
  refine J_ic_ge (tgt := 52) dX4_softest_33 (by decide) (fun c => ?_) (fun c => ?_)
  · replace h := h.1 c
    refine J_iincN dX4_softest_52 rfl (by decide) h.1 ?_
    replace h := h.2
    change J _ _ _ _ _ _ [(0, _), (1, _), (3, _), (4, _)] _ _ _
    refine J_goto (tgt := 4) dX4_softest_55 (by decide) ?_
    exact J_loc (ls_sub [0, 1, 2] rfl) h
  · replace h := h.2 c
    refine J_lload_n dX4_softest_36 rfl rfl ?_
    refine J_aload_n dX4_softest_37 rfl rfl ?_
    refine J_iload_n dX4_softest_38 rfl rfl ?_
    refine J_iload dX4_softest_39 rfl ?_
    refine J_callV (as := [_, _]) (mc1 := 0) (ms1 := 0) (mc := 0) (ms := 0) dX4_softest_41 mv_X4_heldSets lk_X4_112 sh_67 rfl (Nat.le_of_ble_eq_true rfl) (Nat.le_of_ble_eq_true rfl) h (fun r σ hq _ => ?_)
    obtain ⟨x1, I1, rfl, rfl, h⟩ := hq
    change J _ _ _ _ _ _ _ [vL x1, _] _ _
    refine J_lor dX4_softest_44 ?_
    refine J_lstore_n dX4_softest_45 rfl (by decide) ?_
    change J _ _ _ _ _ _ [(0, _), (1, _), (3, _), (4, _)] _ _ _
    refine J_iincN dX4_softest_46 rfl (by decide) h.1 ?_
    replace h := h.2
    change J _ _ _ _ _ _ [(0, _), (1, _), (3, _), (4, _)] _ _ _
    refine J_goto (tgt := 22) dX4_softest_49 (by decide) ?_
    exact h
set_option maxRecDepth 20000 in
set_option maxHeartbeats 2000000 in
theorem bk_X4_softest_63 {d : Nat} {I : HI} {Q : Option AV → AH → Prop} {a1 : Int} {a3 : Int} {a4 : Int}  (h : (((oSl 1 (I 2 4)) ≤ a4 → Q (some (vI a3)) (mk I)) ∧ (¬ ((oSl 1 (I 2 4)) ≤ a4) → CI mX4_excuses d [vR 67, vI a4, vL a1] I (fun x1 I1 => ((x1 = 0 → (-2147483648 ≤ a4 + 1 ∧ a4 + 1 ≤ 2147483647) ∧ J none mX4_softest (d + 1) 0 0 63 [(0, vR 67), (1, vL a1), (3, vI a3), (4, vI (a4 + 1))] [] (mk I1) Q) ∧ (¬ (x1 = 0) → ((a3 = (-1) → (-2147483648 ≤ a4 + 1 ∧ a4 + 1 ≤ 2147483647) ∧ J none mX4_softest (d + 1) 0 0 63 [(0, vR 67), (1, vL a1), (3, vI a4), (4, vI (a4 + 1))] [] (mk I1) Q) ∧ (¬ (a3 = (-1)) → CI mX0_wordsOf d [vR 1, vI a4] I1 (fun x2 I2 => CI mX0_wordsOf d [vR 1, vI a3] I2 (fun x3 I3 => ((x3 ≤ x2 → (-2147483648 ≤ a4 + 1 ∧ a4 + 1 ≤ 2147483647) ∧ J none mX4_softest (d + 1) 0 0 63 [(0, vR 67), (1, vL a1), (3, vI a3), (4, vI (a4 + 1))] [] (mk I3) Q) ∧ (¬ (x3 ≤ x2) → (-2147483648 ≤ a4 + 1 ∧ a4 + 1 ≤ 2147483647) ∧ J none mX4_softest (d + 1) 0 0 63 [(0, vR 67), (1, vL a1), (3, vI a4), (4, vI (a4 + 1))] [] (mk I3) Q)))))))))))) : J none mX4_softest (d + 1) 0 0 63 [(0, vR 67), (1, vL a1), (3, vI a3), (4, vI a4)] [] (mk I) Q := by
  refine J_iload dX4_softest_63 rfl ?_
  refine J_iconst dX4_softest_65 (ii_c rfl) ?_
  refine J_aload_n dX4_softest_66 rfl rfl ?_
  refine J_getR dX4_softest_67 ck_4 fw_X4_15 rfl sh_67 rr_67_0 ?_
  refine J_getR dX4_softest_70 ck_0 fw_X4_58 rfl sh_1 rr_1_0 ?_
  refine J_iconst dX4_softest_73 (ii_c rfl) ?_
  refine J_iald dX4_softest_74 sh_2 (by decide) (by decide) ?_
  refine J_ishl dX4_softest_75 ?_
  refine J_ic_ge (tgt := 123) dX4_softest_76 (by decide) (fun c => ?_) (fun c => ?_)
  · replace h := h.1 c
    refine J_iload_n dX4_softest_123 rfl rfl ?_
    exact J_reti dX4_softest_124 rfl h
  · replace h := h.2 c
    refine J_aload_n dX4_softest_79 rfl rfl ?_
    refine J_iload dX4_softest_80 rfl ?_
    refine J_lload_n dX4_softest_82 rfl rfl ?_
    refine J_callV (as := [_, _]) (mc1 := 0) (ms1 := 0) (mc := 0) (ms := 0) dX4_softest_83 mv_X4_excuses lk_X4_116 sh_67 rfl (Nat.le_of_ble_eq_true rfl) (Nat.le_of_ble_eq_true rfl) h (fun r σ hq _ => ?_)
    obtain ⟨x1, I1, rfl, rfl, h⟩ := hq
    change J _ _ _ _ _ _ _ [vI x1] _ _
    refine J_if_eq (tgt := 117) dX4_softest_86 (by decide) (fun c => ?_) (fun c => ?_)
    · replace h := h.1 c
      refine J_iincN dX4_softest_117 rfl (by decide) h.1 ?_
      replace h := h.2
      change J _ _ _ _ _ _ [(0, _), (1, _), (3, _), (4, _)] _ _ _
      refine J_goto (tgt := 63) dX4_softest_120 (by decide) ?_
      exact h
    · replace h := h.2 c
      refine J_iload_n dX4_softest_89 rfl rfl ?_
      refine J_iconst dX4_softest_90 (ii_c rfl) ?_
      refine J_ic_eq (tgt := 114) dX4_softest_91 (by decide) (fun c => ?_) (fun c => ?_)
      · replace h := h.1 c
        refine J_iload dX4_softest_114 rfl ?_
        refine J_istore_n dX4_softest_116 rfl (by decide) ?_
        change J _ _ _ _ _ _ [(0, _), (1, _), (3, _), (4, _)] _ _ _
        refine J_iincN dX4_softest_117 rfl (by decide) h.1 ?_
        replace h := h.2
        change J _ _ _ _ _ _ [(0, _), (1, _), (3, _), (4, _)] _ _ _
        refine J_goto (tgt := 63) dX4_softest_120 (by decide) ?_
        exact h
      · replace h := h.2 c
        refine J_aload_n dX4_softest_94 rfl rfl ?_
        refine J_getR dX4_softest_95 ck_4 fw_X4_15 rfl sh_67 rr_67_0 ?_
        refine J_iload dX4_softest_98 rfl ?_
        refine J_callV (as := [_]) (mc1 := 0) (ms1 := 0) (mc := 0) (ms := 0) dX4_softest_100 mv_X0_wordsOf lk_X4_120 sh_1 rfl (Nat.le_of_ble_eq_true rfl) (Nat.le_of_ble_eq_true rfl) h (fun r σ hq _ => ?_)
        obtain ⟨x2, I2, rfl, rfl, h⟩ := hq
        change J _ _ _ _ _ _ _ [vI x2] _ _
        refine J_aload_n dX4_softest_103 rfl rfl ?_
        refine J_getR dX4_softest_104 ck_4 fw_X4_15 rfl sh_67 rr_67_0 ?_
        refine J_iload_n dX4_softest_107 rfl rfl ?_
        refine J_callV (as := [_]) (mc1 := 0) (ms1 := 0) (mc := 0) (ms := 0) dX4_softest_108 mv_X0_wordsOf lk_X4_120 sh_1 rfl (Nat.le_of_ble_eq_true rfl) (Nat.le_of_ble_eq_true rfl) h (fun r σ hq _ => ?_)
        obtain ⟨x3, I3, rfl, rfl, h⟩ := hq
        change J _ _ _ _ _ _ _ [vI x3, vI x2] _ _
        refine J_ic_ge (tgt := 117) dX4_softest_111 (by decide) (fun c => ?_) (fun c => ?_)
        · replace h := h.1 c
          refine J_iincN dX4_softest_117 rfl (by decide) h.1 ?_
          replace h := h.2
          change J _ _ _ _ _ _ [(0, _), (1, _), (3, _), (4, _)] _ _ _
          refine J_goto (tgt := 63) dX4_softest_120 (by decide) ?_
          exact h
        · replace h := h.2 c
          refine J_iload dX4_softest_114 rfl ?_
          refine J_istore_n dX4_softest_116 rfl (by decide) ?_
          change J _ _ _ _ _ _ [(0, _), (1, _), (3, _), (4, _)] _ _ _
          refine J_iincN dX4_softest_117 rfl (by decide) h.1 ?_
          replace h := h.2
          change J _ _ _ _ _ _ [(0, _), (1, _), (3, _), (4, _)] _ _ _
          refine J_goto (tgt := 63) dX4_softest_120 (by decide) ?_
          exact h
set_option maxRecDepth 20000 in
set_option maxHeartbeats 2000000 in
theorem bk_X4_heldSets_0 {d : Nat} {I : HI} {Q : Option AV → AH → Prop} {a1 : Int} {a2 : Int}  (h : CV mX3_scanAll d [vR 57, vI a1, vI a2, vR 36] I (fun I1 => J none mX4_heldSets (d + 1) 0 0 21 [(0, vR 67), (1, vI a1), (2, vI a2), (3, vL 0), (5, vI 0)] [] (mk I1) Q)) : J none mX4_heldSets (d + 1) 0 0 0 [(0, vR 67), (1, vI a1), (2, vI a2)] [] (mk I) Q := by
  refine J_lconst 0 dX4_heldSets_0 (ll_c rfl) (by decide) ?_
  refine J_lstore_n dX4_heldSets_1 rfl (by decide) ?_
  change J _ _ _ _ _ _ [(0, _), (1, _), (2, _), (3, _)] _ _ _
  refine J_aload_n dX4_heldSets_2 rfl rfl ?_
  refine J_getR dX4_heldSets_3 ck_4 fw_X4_23 rfl sh_67 rr_67_2 ?_
  refine J_iload_n dX4_heldSets_6 rfl rfl ?_
  refine J_iload_n dX4_heldSets_7 rfl rfl ?_
  refine J_aload_n dX4_heldSets_8 rfl rfl ?_
  refine J_getR dX4_heldSets_9 ck_4 fw_X4_19 rfl sh_67 rr_67_1 ?_
  refine J_getR dX4_heldSets_12 ck_9 fw_X4_31 rfl sh_32 rr_32_4 ?_
  refine J_callV (as := [_, _, _]) (mc1 := 0) (ms1 := 0) (mc := 0) (ms := 0) dX4_heldSets_15 mv_X3_scanAll lk_X4_65 sh_57 rfl (Nat.le_of_ble_eq_true rfl) (Nat.le_of_ble_eq_true rfl) h (fun r σ hq _ => ?_)
  obtain ⟨I1, rfl, rfl, h⟩ := hq
  change J _ _ _ _ _ _ _ [] _ _
  refine J_iconst dX4_heldSets_18 (ii_c rfl) ?_
  refine J_istore dX4_heldSets_19 (by decide) ?_
  change J _ _ _ _ _ _ [(0, _), (1, _), (2, _), (3, _), (5, _)] _ _ _
  exact h
set_option maxRecDepth 20000 in
set_option maxHeartbeats 2000000 in
theorem bk_X4_heldSets_21 {d : Nat} {I : HI} {Q : Option AV → AH → Prop} {a1 : Int} {a2 : Int} {a3 : Int} {a5 : Int}  (h : (((I 57 5) ≤ a5 → Q (some (vL a3)) (mk I)) ∧ (¬ ((I 57 5) ≤ a5) → ((0 : Int) ≤ a5 ∧ (a5 : Int) < 1201) ∧ J none mX4_heldSets (d + 1) 0 0 45 [(0, vR 67), (1, vI a1), (2, vI a2), (3, vL a3), (5, vI a5), (6, vI (I 58 a5.toNat))] [] (mk I) Q))) : J none mX4_heldSets (d + 1) 0 0 21 [(0, vR 67), (1, vI a1), (2, vI a2), (3, vL a3), (5, vI a5)] [] (mk I) Q := by
  refine J_iload dX4_heldSets_21 rfl ?_
  refine J_aload_n dX4_heldSets_23 rfl rfl ?_
  refine J_getR dX4_heldSets_24 ck_4 fw_X4_23 rfl sh_67 rr_67_2 ?_
  refine J_getI dX4_heldSets_27 ck_3 fw_X4_71 rfl sh_57 ?_
  refine J_ic_ge (tgt := 98) dX4_heldSets_30 (by decide) (fun c => ?_) (fun c => ?_)
  · replace h := h.1 c
    refine J_lload_n dX4_heldSets_98 rfl rfl ?_
    exact J_retl dX4_heldSets_99 rfl h
  · replace h := h.2 c
    refine J_aload_n dX4_heldSets_33 rfl rfl ?_
    refine J_getR dX4_heldSets_34 ck_4 fw_X4_23 rfl sh_67 rr_67_2 ?_
    refine J_getR dX4_heldSets_37 ck_3 fw_X4_77 rfl sh_57 rr_57_1 ?_
    refine J_iload dX4_heldSets_40 rfl ?_
    refine J_iald dX4_heldSets_42 sh_58 h.1.1 h.1.2 ?_
    replace h := h.2
    refine J_istore dX4_heldSets_43 (by decide) ?_
    change J _ _ _ _ _ _ [(0, _), (1, _), (2, _), (3, _), (5, _), (6, _)] _ _ _
    exact h
set_option maxRecDepth 20000 in
set_option maxHeartbeats 2000000 in
theorem bk_X4_heldSets_45 {d : Nat} {I : HI} {Q : Option AV → AH → Prop} {a1 : Int} {a2 : Int} {a3 : Int} {a5 : Int} {a6 : Int}  (h : ((0 : Int) ≤ a5 ∧ (a5 : Int) < 1201) ∧ (((I 59 a5.toNat) < a6 → (-2147483648 ≤ a5 + 1 ∧ a5 + 1 ≤ 2147483647) ∧ J none mX4_heldSets (d + 1) 0 0 21 [(0, vR 67), (1, vI a1), (2, vI a2), (3, vL a3), (5, vI (a5 + 1))] [] (mk I) Q) ∧ (¬ ((I 59 a5.toNat) < a6) → ((0 : Int) ≤ a5 ∧ (a5 : Int) < 1201) ∧ CI mX1_holding d [vR 62, vI a1, vI a2, vI (I 60 a5.toNat), vI a6] I (fun x1 I1 => (-2147483648 ≤ a6 + 1 ∧ a6 + 1 ≤ 2147483647) ∧ J none mX4_heldSets (d + 1) 0 0 45 [(0, vR 67), (1, vI a1), (2, vI a2), (3, vL (lO a3 (lSl 1 x1))), (5, vI a5), (6, vI (a6 + 1))] [] (mk I1) Q)))) : J none mX4_heldSets (d + 1) 0 0 45 [(0, vR 67), (1, vI a1), (2, vI a2), (3, vL a3), (5, vI a5), (6, vI a6)] [] (mk I) Q := by
  refine J_iload dX4_heldSets_45 rfl ?_
  refine J_aload_n dX4_heldSets_47 rfl rfl ?_
  refine J_getR dX4_heldSets_48 ck_4 fw_X4_23 rfl sh_67 rr_67_2 ?_
  refine J_getR dX4_heldSets_51 ck_3 fw_X4_90 rfl sh_57 rr_57_2 ?_
  refine J_iload dX4_heldSets_54 rfl ?_
  refine J_iald dX4_heldSets_56 sh_59 h.1.1 h.1.2 ?_
  replace h := h.2
  refine J_ic_gt (tgt := 92) dX4_heldSets_57 (by decide) (fun c => ?_) (fun c => ?_)
  · replace h := h.1 c
    refine J_iincN dX4_heldSets_92 rfl (by decide) h.1 ?_
    replace h := h.2
    change J _ _ _ _ _ _ [(0, _), (1, _), (2, _), (3, _), (5, _), (6, _)] _ _ _
    refine J_goto (tgt := 21) dX4_heldSets_95 (by decide) ?_
    exact J_loc (ls_sub [0, 1, 2, 3, 4] rfl) h
  · replace h := h.2 c
    refine J_lload_n dX4_heldSets_60 rfl rfl ?_
    refine J_lconst 1 dX4_heldSets_61 (ll_c rfl) (by decide) ?_
    refine J_aload_n dX4_heldSets_62 rfl rfl ?_
    refine J_getR dX4_heldSets_63 ck_4 fw_X4_27 rfl sh_67 rr_67_3 ?_
    refine J_iload_n dX4_heldSets_66 rfl rfl ?_
    refine J_iload_n dX4_heldSets_67 rfl rfl ?_
    refine J_aload_n dX4_heldSets_68 rfl rfl ?_
    refine J_getR dX4_heldSets_69 ck_4 fw_X4_23 rfl sh_67 rr_67_2 ?_
    refine J_getR dX4_heldSets_72 ck_3 fw_X4_74 rfl sh_57 rr_57_3 ?_
    refine J_iload dX4_heldSets_75 rfl ?_
    refine J_iald dX4_heldSets_77 sh_60 h.1.1 h.1.2 ?_
    replace h := h.2
    refine J_iload dX4_heldSets_78 rfl ?_
    refine J_callV (as := [_, _, _, _]) (mc1 := 0) (ms1 := 0) (mc := 0) (ms := 0) dX4_heldSets_80 mv_X1_holding lk_X4_124 sh_62 rfl (Nat.le_of_ble_eq_true rfl) (Nat.le_of_ble_eq_true rfl) h (fun r σ hq _ => ?_)
    obtain ⟨x1, I1, rfl, rfl, h⟩ := hq
    change J _ _ _ _ _ _ _ [vI x1, _, _] _ _
    refine J_lshl dX4_heldSets_83 ?_
    refine J_lor dX4_heldSets_84 ?_
    refine J_lstore_n dX4_heldSets_85 rfl (by decide) ?_
    change J _ _ _ _ _ _ [(0, _), (1, _), (2, _), (3, _), (5, _), (6, _)] _ _ _
    refine J_iincN dX4_heldSets_86 rfl (by decide) h.1 ?_
    replace h := h.2
    change J _ _ _ _ _ _ [(0, _), (1, _), (2, _), (3, _), (5, _), (6, _)] _ _ _
    refine J_goto (tgt := 45) dX4_heldSets_89 (by decide) ?_
    exact h
set_option maxRecDepth 20000 in
set_option maxHeartbeats 2000000 in
theorem bk_X4_excuses_0 {d : Nat} {I : HI} {Q : Option AV → AH → Prop} {a1 : Int} {a2 : Int}  (h : J none mX4_excuses (d + 1) 0 0 3 [(0, vR 67), (1, vI a1), (2, vL a2), (4, vI 0)] [] (mk I) Q) : J none mX4_excuses (d + 1) 0 0 0 [(0, vR 67), (1, vI a1), (2, vL a2)] [] (mk I) Q := by
  refine J_iconst dX4_excuses_0 (ii_c rfl) ?_
  refine J_istore dX4_excuses_1 (by decide) ?_
  change J _ _ _ _ _ _ [(0, _), (1, _), (2, _), (4, _)] _ _ _
  exact h
set_option maxRecDepth 20000 in
set_option maxHeartbeats 2000000 in
theorem bk_X4_excuses_3 {d : Nat} {I : HI} {Q : Option AV → AH → Prop} {a1 : Int} {a2 : Int} {a4 : Int}  (h : ((64 ≤ a4 → Q (some (vI 1)) (mk I)) ∧ (¬ (64 ≤ a4) → (((lA (lUr a2 a4) 1) = 0 → (-2147483648 ≤ a4 + 1 ∧ a4 + 1 ≤ 2147483647) ∧ J none mX4_excuses (d + 1) 0 0 3 [(0, vR 67), (1, vI a1), (2, vL a2), (4, vI (a4 + 1))] [] (mk I) Q) ∧ (¬ ((lA (lUr a2 a4) 1) = 0) → (((oA a4 a1) ≠ 0 → (-2147483648 ≤ a4 + 1 ∧ a4 + 1 ≤ 2147483647) ∧ J none mX4_excuses (d + 1) 0 0 3 [(0, vR 67), (1, vI a1), (2, vL a2), (4, vI (a4 + 1))] [] (mk I) Q) ∧ ((oA a4 a1) = 0 → Q (some (vI 0)) (mk I)))))))) : J none mX4_excuses (d + 1) 0 0 3 [(0, vR 67), (1, vI a1), (2, vL a2), (4, vI a4)] [] (mk I) Q := by
  refine J_iload dX4_excuses_3 rfl ?_
  refine J_bipush dX4_excuses_5 (ii_c rfl) (by decide) ?_
  refine J_ic_ge (tgt := 36) dX4_excuses_7 (by decide) (fun c => ?_) (fun c => ?_)
  · replace h := h.1 c
    refine J_iconst dX4_excuses_36 (ii_c rfl) ?_
    exact J_retz dX4_excuses_37 rfl (Or.inr rfl) h
  · replace h := h.2 c
    refine J_lload_n dX4_excuses_10 rfl rfl ?_
    refine J_iload dX4_excuses_11 rfl ?_
    refine J_lushr dX4_excuses_13 ?_
    refine J_lconst 1 dX4_excuses_14 (ll_c rfl) (by decide) ?_
    refine J_land dX4_excuses_15 ?_
    refine J_lconst 0 dX4_excuses_16 (ll_c rfl) (by decide) ?_
    refine J_lcmp dX4_excuses_17 ?_
    refine J_if_eq (tgt := 30) dX4_excuses_18 (by decide) (fun c => ?_) (fun c => ?_)
    · replace h := h.1 (lC_eq.mp c)
      refine J_iincN dX4_excuses_30 rfl (by decide) h.1 ?_
      replace h := h.2
      change J _ _ _ _ _ _ [(0, _), (1, _), (2, _), (4, _)] _ _ _
      refine J_goto (tgt := 3) dX4_excuses_33 (by decide) ?_
      exact h
    · replace h := h.2 (fun w => c (lC_eq.mpr w))
      refine J_iload dX4_excuses_21 rfl ?_
      refine J_iload_n dX4_excuses_23 rfl rfl ?_
      refine J_iand dX4_excuses_24 ?_
      refine J_if_ne (tgt := 30) dX4_excuses_25 (by decide) (fun c => ?_) (fun c => ?_)
      · replace h := h.1 c
        refine J_iincN dX4_excuses_30 rfl (by decide) h.1 ?_
        replace h := h.2
        change J _ _ _ _ _ _ [(0, _), (1, _), (2, _), (4, _)] _ _ _
        refine J_goto (tgt := 3) dX4_excuses_33 (by decide) ?_
        exact h
      · replace h := h.2 c
        refine J_iconst dX4_excuses_28 (ii_c rfl) ?_
        exact J_retz dX4_excuses_29 rfl (Or.inl rfl) h
set_option maxRecDepth 20000 in
set_option maxHeartbeats 2000000 in
theorem bk_X4_foul_0 {d : Nat} {I : HI} {Q : Option AV → AH → Prop}   (h : J none mX4_foul (d + 1) 0 0 4 [(0, vR 67), (1, vI 0), (2, vI 0)] [] (mk I) Q) : J none mX4_foul (d + 1) 0 0 0 [(0, vR 67)] [] (mk I) Q := by
  refine J_iconst dX4_foul_0 (ii_c rfl) ?_
  refine J_istore_n dX4_foul_1 rfl (by decide) ?_
  change J _ _ _ _ _ _ [(0, _), (1, _)] _ _ _
  refine J_iconst dX4_foul_2 (ii_c rfl) ?_
  refine J_istore_n dX4_foul_3 rfl (by decide) ?_
  change J _ _ _ _ _ _ [(0, _), (1, _), (2, _)] _ _ _
  exact h
set_option maxRecDepth 20000 in
set_option maxHeartbeats 2000000 in
theorem bk_X4_foul_4 {d : Nat} {I : HI} {Q : Option AV → AH → Prop} {a1 : Int} {a2 : Int}  (h : (((I 2 2) ≤ a2 → Q (some (vI a1)) (mk I)) ∧ (¬ ((I 2 2) ≤ a2) → (-2147483648 ≤ a2 + 1 ∧ a2 + 1 ≤ 2147483647) ∧ J none mX4_foul (d + 1) 0 0 21 [(0, vR 67), (1, vI a1), (2, vI a2), (3, vI (a2 + 1))] [] (mk I) Q))) : J none mX4_foul (d + 1) 0 0 4 [(0, vR 67), (1, vI a1), (2, vI a2)] [] (mk I) Q := by
  refine J_iload_n dX4_foul_4 rfl rfl ?_
  refine J_aload_n dX4_foul_5 rfl rfl ?_
  refine J_getR dX4_foul_6 ck_4 fw_X4_15 rfl sh_67 rr_67_0 ?_
  refine J_getR dX4_foul_9 ck_0 fw_X4_58 rfl sh_1 rr_1_0 ?_
  refine J_iconst dX4_foul_12 (ii_c rfl) ?_
  refine J_iald dX4_foul_13 sh_2 (by decide) (by decide) ?_
  refine J_ic_ge (tgt := 146) dX4_foul_14 (by decide) (fun c => ?_) (fun c => ?_)
  · replace h := h.1 c
    refine J_iload_n dX4_foul_146 rfl rfl ?_
    exact J_reti dX4_foul_147 rfl h
  · replace h := h.2 c
    refine J_iload_n dX4_foul_17 rfl rfl ?_
    refine J_iconst dX4_foul_18 (ii_c rfl) ?_
    refine J_iaddN dX4_foul_19 h.1 ?_
    replace h := h.2
    refine J_istore_n dX4_foul_20 rfl (by decide) ?_
    change J _ _ _ _ _ _ [(0, _), (1, _), (2, _), (3, _)] _ _ _
    exact h
set_option maxRecDepth 20000 in
set_option maxHeartbeats 2000000 in
theorem bk_X4_foul_21 {d : Nat} {I : HI} {Q : Option AV → AH → Prop} {a1 : Int} {a2 : Int} {a3 : Int}  (h : (((I 2 2) ≤ a3 → (-2147483648 ≤ a2 + 1 ∧ a2 + 1 ≤ 2147483647) ∧ J none mX4_foul (d + 1) 0 0 4 [(0, vR 67), (1, vI a1), (2, vI (a2 + 1))] [] (mk I) Q) ∧ (¬ ((I 2 2) ≤ a3) → CV mX3_scanAll d [vR 57, vI a2, vI a3, vR 36] I (fun I1 => J none mX4_foul (d + 1) 0 0 53 [(0, vR 67), (1, vI a1), (2, vI a2), (3, vI a3), (4, vI 0)] [] (mk I1) Q)))) : J none mX4_foul (d + 1) 0 0 21 [(0, vR 67), (1, vI a1), (2, vI a2), (3, vI a3)] [] (mk I) Q := by
  refine J_iload_n dX4_foul_21 rfl rfl ?_
  refine J_aload_n dX4_foul_22 rfl rfl ?_
  refine J_getR dX4_foul_23 ck_4 fw_X4_15 rfl sh_67 rr_67_0 ?_
  refine J_getR dX4_foul_26 ck_0 fw_X4_58 rfl sh_1 rr_1_0 ?_
  refine J_iconst dX4_foul_29 (ii_c rfl) ?_
  refine J_iald dX4_foul_30 sh_2 (by decide) (by decide) ?_
  refine J_ic_ge (tgt := 140) dX4_foul_31 (by decide) (fun c => ?_) (fun c => ?_)
  · replace h := h.1 c
    refine J_iincN dX4_foul_140 rfl (by decide) h.1 ?_
    replace h := h.2
    change J _ _ _ _ _ _ [(0, _), (1, _), (2, _), (3, _)] _ _ _
    refine J_goto (tgt := 4) dX4_foul_143 (by decide) ?_
    exact J_loc (ls_sub [0, 1, 2] rfl) h
  · replace h := h.2 c
    refine J_aload_n dX4_foul_34 rfl rfl ?_
    refine J_getR dX4_foul_35 ck_4 fw_X4_23 rfl sh_67 rr_67_2 ?_
    refine J_iload_n dX4_foul_38 rfl rfl ?_
    refine J_iload_n dX4_foul_39 rfl rfl ?_
    refine J_aload_n dX4_foul_40 rfl rfl ?_
    refine J_getR dX4_foul_41 ck_4 fw_X4_19 rfl sh_67 rr_67_1 ?_
    refine J_getR dX4_foul_44 ck_9 fw_X4_31 rfl sh_32 rr_32_4 ?_
    refine J_callV (as := [_, _, _]) (mc1 := 0) (ms1 := 0) (mc := 0) (ms := 0) dX4_foul_47 mv_X3_scanAll lk_X4_65 sh_57 rfl (Nat.le_of_ble_eq_true rfl) (Nat.le_of_ble_eq_true rfl) h (fun r σ hq _ => ?_)
    obtain ⟨I1, rfl, rfl, h⟩ := hq
    change J _ _ _ _ _ _ _ [] _ _
    refine J_iconst dX4_foul_50 (ii_c rfl) ?_
    refine J_istore dX4_foul_51 (by decide) ?_
    change J _ _ _ _ _ _ [(0, _), (1, _), (2, _), (3, _), (4, _)] _ _ _
    exact h
set_option maxRecDepth 20000 in
set_option maxHeartbeats 2000000 in
theorem bk_X4_foul_53 {d : Nat} {I : HI} {Q : Option AV → AH → Prop} {a1 : Int} {a2 : Int} {a3 : Int} {a4 : Int}  (h : (((I 57 5) ≤ a4 → (-2147483648 ≤ a3 + 1 ∧ a3 + 1 ≤ 2147483647) ∧ J none mX4_foul (d + 1) 0 0 21 [(0, vR 67), (1, vI a1), (2, vI a2), (3, vI (a3 + 1))] [] (mk I) Q) ∧ (¬ ((I 57 5) ≤ a4) → ((0 : Int) ≤ a4 ∧ (a4 : Int) < 1201) ∧ (((I 60 a4.toNat) ≠ 21 → (-2147483648 ≤ a4 + 1 ∧ a4 + 1 ≤ 2147483647) ∧ J none mX4_foul (d + 1) 0 0 53 [(0, vR 67), (1, vI a1), (2, vI a2), (3, vI a3), (4, vI (a4 + 1))] [] (mk I) Q) ∧ ((I 60 a4.toNat) = 21 → CI mX9_onBits d [vR 32] I (fun x1 I1 => CI mX1_firstUnexcused d [vR 62, vR 57, vI a4, vI x1] I1 (fun x2 I2 => ((0 : Int) ≤ a4 ∧ (a4 : Int) < 1201) ∧ (((I2 59 a4.toNat) < x2 → (-2147483648 ≤ a4 + 1 ∧ a4 + 1 ≤ 2147483647) ∧ J none mX4_foul (d + 1) 0 0 53 [(0, vR 67), (1, vI a1), (2, vI a2), (3, vI a3), (4, vI (a4 + 1))] [] (mk I2) Q) ∧ (¬ ((I2 59 a4.toNat) < x2) → ((0 : Int) ≤ a4 ∧ (a4 : Int) < 1201) ∧ (-2147483648 ≤ a4 + 1 ∧ a4 + 1 ≤ 2147483647) ∧ J none mX4_foul (d + 1) 0 0 53 [(0, vR 67), (1, vI (oO a1 (oSl 1 (I2 61 a4.toNat)))), (2, vI a2), (3, vI a3), (4, vI (a4 + 1))] [] (mk I2) Q))))))))) : J none mX4_foul (d + 1) 0 0 53 [(0, vR 67), (1, vI a1), (2, vI a2), (3, vI a3), (4, vI a4)] [] (mk I) Q := by
  refine J_iload dX4_foul_53 rfl ?_
  refine J_aload_n dX4_foul_55 rfl rfl ?_
  refine J_getR dX4_foul_56 ck_4 fw_X4_23 rfl sh_67 rr_67_2 ?_
  refine J_getI dX4_foul_59 ck_3 fw_X4_71 rfl sh_57 ?_
  refine J_ic_ge (tgt := 134) dX4_foul_62 (by decide) (fun c => ?_) (fun c => ?_)
  · replace h := h.1 c
    refine J_iincN dX4_foul_134 rfl (by decide) h.1 ?_
    replace h := h.2
    change J _ _ _ _ _ _ [(0, _), (1, _), (2, _), (3, _), (4, _)] _ _ _
    refine J_goto (tgt := 21) dX4_foul_137 (by decide) ?_
    exact J_loc (ls_sub [0, 1, 2, 3] rfl) h
  · replace h := h.2 c
    refine J_aload_n dX4_foul_65 rfl rfl ?_
    refine J_getR dX4_foul_66 ck_4 fw_X4_23 rfl sh_67 rr_67_2 ?_
    refine J_getR dX4_foul_69 ck_3 fw_X4_74 rfl sh_57 rr_57_3 ?_
    refine J_iload dX4_foul_72 rfl ?_
    refine J_iald dX4_foul_74 sh_60 h.1.1 h.1.2 ?_
    replace h := h.2
    refine J_bipush dX4_foul_75 (ii_c rfl) (by decide) ?_
    refine J_ic_ne (tgt := 128) dX4_foul_77 (by decide) (fun c => ?_) (fun c => ?_)
    · replace h := h.1 c
      refine J_iincN dX4_foul_128 rfl (by decide) h.1 ?_
      replace h := h.2
      change J _ _ _ _ _ _ [(0, _), (1, _), (2, _), (3, _), (4, _)] _ _ _
      refine J_goto (tgt := 53) dX4_foul_131 (by decide) ?_
      exact h
    · replace h := h.2 c
      refine J_aload_n dX4_foul_80 rfl rfl ?_
      refine J_getR dX4_foul_81 ck_4 fw_X4_27 rfl sh_67 rr_67_3 ?_
      refine J_aload_n dX4_foul_84 rfl rfl ?_
      refine J_getR dX4_foul_85 ck_4 fw_X4_23 rfl sh_67 rr_67_2 ?_
      refine J_iload dX4_foul_88 rfl ?_
      refine J_aload_n dX4_foul_90 rfl rfl ?_
      refine J_getR dX4_foul_91 ck_4 fw_X4_19 rfl sh_67 rr_67_1 ?_
      refine J_callV (as := []) (mc1 := 0) (ms1 := 0) (mc := 0) (ms := 0) dX4_foul_94 mv_X9_onBits lk_X4_80 sh_32 rfl (Nat.le_of_ble_eq_true rfl) (Nat.le_of_ble_eq_true rfl) h (fun r σ hq _ => ?_)
      obtain ⟨x1, I1, rfl, rfl, h⟩ := hq
      change J _ _ _ _ _ _ _ [vI x1, _, _, _] _ _
      refine J_callV (as := [_, _, _]) (mc1 := 0) (ms1 := 0) (mc := 0) (ms := 0) dX4_foul_97 mv_X1_firstUnexcused lk_X4_84 sh_62 rfl (Nat.le_of_ble_eq_true rfl) (Nat.le_of_ble_eq_true rfl) h (fun r σ hq _ => ?_)
      obtain ⟨x2, I2, rfl, rfl, h⟩ := hq
      change J _ _ _ _ _ _ _ [vI x2] _ _
      refine J_aload_n dX4_foul_100 rfl rfl ?_
      refine J_getR dX4_foul_101 ck_4 fw_X4_23 rfl sh_67 rr_67_2 ?_
      refine J_getR dX4_foul_104 ck_3 fw_X4_90 rfl sh_57 rr_57_2 ?_
      refine J_iload dX4_foul_107 rfl ?_
      refine J_iald dX4_foul_109 sh_59 h.1.1 h.1.2 ?_
      replace h := h.2
      refine J_ic_gt (tgt := 128) dX4_foul_110 (by decide) (fun c => ?_) (fun c => ?_)
      · replace h := h.1 c
        refine J_iincN dX4_foul_128 rfl (by decide) h.1 ?_
        replace h := h.2
        change J _ _ _ _ _ _ [(0, _), (1, _), (2, _), (3, _), (4, _)] _ _ _
        refine J_goto (tgt := 53) dX4_foul_131 (by decide) ?_
        exact h
      · replace h := h.2 c
        refine J_iload_n dX4_foul_113 rfl rfl ?_
        refine J_iconst dX4_foul_114 (ii_c rfl) ?_
        refine J_aload_n dX4_foul_115 rfl rfl ?_
        refine J_getR dX4_foul_116 ck_4 fw_X4_23 rfl sh_67 rr_67_2 ?_
        refine J_getR dX4_foul_119 ck_3 fw_X4_128 rfl sh_57 rr_57_4 ?_
        refine J_iload dX4_foul_122 rfl ?_
        refine J_iald dX4_foul_124 sh_61 h.1.1 h.1.2 ?_
        replace h := h.2
        refine J_ishl dX4_foul_125 ?_
        refine J_ior dX4_foul_126 ?_
        refine J_istore_n dX4_foul_127 rfl (by decide) ?_
        change J _ _ _ _ _ _ [(0, _), (1, _), (2, _), (3, _), (4, _)] _ _ _
        refine J_iincN dX4_foul_128 rfl (by decide) h.1 ?_
        replace h := h.2
        change J _ _ _ _ _ _ [(0, _), (1, _), (2, _), (3, _), (4, _)] _ _ _
        refine J_goto (tgt := 53) dX4_foul_131 (by decide) ?_
        exact h
set_option maxRecDepth 20000 in
set_option maxHeartbeats 2000000 in
theorem bk_X5_prepare_0 {d : Nat} {I : HI} {Q : Option AV → AH → Prop}   (h : (((I 32 8) = 0 → J none mX5_prepare (d + 1) 0 0 82 [(0, vR 69)] [] (mk I) Q) ∧ (¬ ((I 32 8) = 0) → J none mX5_prepare (d + 1) 0 0 12 [(0, vR 69), (1, vI 0)] [] (mk I) Q))) : J none mX5_prepare (d + 1) 0 0 0 [(0, vR 69)] [] (mk I) Q := by
  refine J_aload_n dX5_prepare_0 rfl rfl ?_
  refine J_getR dX5_prepare_1 ck_5 fw_X5_41 rfl sh_69 rr_69_1 ?_
  refine J_getI dX5_prepare_4 ck_9 fw_X5_56 rfl sh_32 ?_
  refine J_if_eq (tgt := 82) dX5_prepare_7 (by decide) (fun c => ?_) (fun c => ?_)
  · replace h := h.1 c
    exact h
  · replace h := h.2 c
    refine J_iconst dX5_prepare_10 (ii_c rfl) ?_
    refine J_istore_n dX5_prepare_11 rfl (by decide) ?_
    change J _ _ _ _ _ _ [(0, _), (1, _)] _ _ _
    exact h
set_option maxRecDepth 20000 in
set_option maxHeartbeats 2000000 in
theorem bk_X5_prepare_12 {d : Nat} {I : HI} {Q : Option AV → AH → Prop} {a1 : Int}  (h : (((I 2 2) ≤ a1 → J none mX5_prepare (d + 1) 0 0 82 [(0, vR 69)] [] (mk I) Q) ∧ (¬ ((I 2 2) ≤ a1) → ((0 : Int) ≤ a1 ∧ (a1 : Int) < 4) ∧ (∀ I1 : HI, I1 = up I 71 a1.toNat 0 → (-2147483648 ≤ a1 * 4 ∧ a1 * 4 ≤ 2147483647) ∧ ((0 : Int) ≤ (a1 * 4) ∧ (a1 * 4 : Int) < 16) ∧ (∀ I2 : HI, I2 = up I1 74 0 (I1 7 (a1 * 4).toNat) → ((0 : Int) ≤ (I2 74 0) ∧ (I2 74 0 : Int) < 10) ∧ CV mX5_explore d [vR 69, vI a1, vI 0, vI (oSl 1 (I2 5 (I2 74 0).toNat))] I2 (fun I3 => CV mX5_rank d [vR 69, vI a1] I3 (fun I4 => (-2147483648 ≤ a1 + 1 ∧ a1 + 1 ≤ 2147483647) ∧ J none mX5_prepare (d + 1) 0 0 12 [(0, vR 69), (1, vI (a1 + 1))] [] (mk I4) Q))))))) : J none mX5_prepare (d + 1) 0 0 12 [(0, vR 69), (1, vI a1)] [] (mk I) Q := by
  refine J_iload_n dX5_prepare_12 rfl rfl ?_
  refine J_aload_n dX5_prepare_13 rfl rfl ?_
  refine J_getR dX5_prepare_14 ck_5 fw_X5_37 rfl sh_69 rr_69_0 ?_
  refine J_getR dX5_prepare_17 ck_0 fw_X5_62 rfl sh_1 rr_1_0 ?_
  refine J_iconst dX5_prepare_20 (ii_c rfl) ?_
  refine J_iald dX5_prepare_21 sh_2 (by decide) (by decide) ?_
  refine J_ic_ge (tgt := 82) dX5_prepare_22 (by decide) (fun c => ?_) (fun c => ?_)
  · replace h := h.1 c
    exact J_loc (ls_sub [0] rfl) h
  · replace h := h.2 c
    refine J_aload_n dX5_prepare_25 rfl rfl ?_
    refine J_getR dX5_prepare_26 ck_5 fw_X5_17 rfl sh_69 rr_69_5 ?_
    refine J_iload_n dX5_prepare_29 rfl rfl ?_
    refine J_iconst dX5_prepare_30 (ii_c rfl) ?_
    refine J_iast dX5_prepare_31 sh_71 h.1.1 h.1.2 ?_
    replace h := h.2 _ rfl
    refine J_aload_n dX5_prepare_32 rfl rfl ?_
    refine J_getR dX5_prepare_33 ck_5 fw_X5_27 rfl sh_69 rr_69_8 ?_
    refine J_iconst dX5_prepare_36 (ii_c rfl) ?_
    refine J_aload_n dX5_prepare_37 rfl rfl ?_
    refine J_getR dX5_prepare_38 ck_5 fw_X5_37 rfl sh_69 rr_69_0 ?_
    refine J_getR dX5_prepare_41 ck_0 fw_X5_67 rfl sh_1 rr_1_5 ?_
    refine J_iload_n dX5_prepare_44 rfl rfl ?_
    refine J_iconst dX5_prepare_45 (ii_c rfl) ?_
    refine J_imulN dX5_prepare_46 h.1 ?_
    replace h := h.2
    refine J_iald dX5_prepare_47 sh_7 h.1.1 h.1.2 ?_
    replace h := h.2
    refine J_iast dX5_prepare_48 sh_74 (by decide) (by decide) ?_
    replace h := h _ rfl
    refine J_aload_n dX5_prepare_49 rfl rfl ?_
    refine J_iload_n dX5_prepare_50 rfl rfl ?_
    refine J_iconst dX5_prepare_51 (ii_c rfl) ?_
    refine J_iconst dX5_prepare_52 (ii_c rfl) ?_
    refine J_aload_n dX5_prepare_53 rfl rfl ?_
    refine J_getR dX5_prepare_54 ck_5 fw_X5_37 rfl sh_69 rr_69_0 ?_
    refine J_getR dX5_prepare_57 ck_0 fw_X5_70 rfl sh_1 rr_1_3 ?_
    refine J_aload_n dX5_prepare_60 rfl rfl ?_
    refine J_getR dX5_prepare_61 ck_5 fw_X5_27 rfl sh_69 rr_69_8 ?_
    refine J_iconst dX5_prepare_64 (ii_c rfl) ?_
    refine J_iald dX5_prepare_65 sh_74 (by decide) (by decide) ?_
    refine J_iald dX5_prepare_66 sh_5 h.1.1 h.1.2 ?_
    replace h := h.2
    refine J_ishl dX5_prepare_67 ?_
    refine J_callV (as := [_, _, _]) (mc1 := 0) (ms1 := 0) (mc := 0) (ms := 0) dX5_prepare_68 mv_X5_explore lk_X5_73 sh_69 rfl (Nat.le_of_ble_eq_true rfl) (Nat.le_of_ble_eq_true rfl) h (fun r σ hq _ => ?_)
    obtain ⟨I3, rfl, rfl, h⟩ := hq
    change J _ _ _ _ _ _ _ [] _ _
    refine J_aload_n dX5_prepare_71 rfl rfl ?_
    refine J_iload_n dX5_prepare_72 rfl rfl ?_
    refine J_callV (as := [_]) (mc1 := 0) (ms1 := 0) (mc := 0) (ms := 0) dX5_prepare_73 mv_X5_rank lk_X5_77 sh_69 rfl (Nat.le_of_ble_eq_true rfl) (Nat.le_of_ble_eq_true rfl) h (fun r σ hq _ => ?_)
    obtain ⟨I4, rfl, rfl, h⟩ := hq
    change J _ _ _ _ _ _ _ [] _ _
    refine J_iincN dX5_prepare_76 rfl (by decide) h.1 ?_
    replace h := h.2
    change J _ _ _ _ _ _ [(0, _), (1, _)] _ _ _
    refine J_goto (tgt := 12) dX5_prepare_79 (by decide) ?_
    exact h
set_option maxRecDepth 20000 in
set_option maxHeartbeats 2000000 in
theorem bk_X5_prepare_82 {d : Nat} {I : HI} {Q : Option AV → AH → Prop}   (h : (((I 32 8) ≠ 0 → CV mJ7_fill_d0a16 d [vR 75, vL 0] I (fun I1 => CV mJ7_fill_d0a16 d [vR 76, vL 0] I1 (fun I2 => (-2147483648 ≤ (I2 69 11) + 1 ∧ (I2 69 11) + 1 ≤ 2147483647) ∧ (∀ I3 : HI, I3 = up I2 69 11 ((I2 69 11) + 1) → (∀ I4 : HI, I4 = up I3 32 8 0 → (∀ I5 : HI, I5 = up I4 32 9 0 → (∀ I6 : HI, I6 = up I5 32 7 0 → Q none (mk I6)))))))) ∧ ((I 32 8) = 0 → (((I 32 9) = 0 → (((I 32 7) = 0 → (∀ I7 : HI, I7 = up I 32 8 0 → (∀ I8 : HI, I8 = up I7 32 9 0 → (∀ I9 : HI, I9 = up I8 32 7 0 → Q none (mk I9))))) ∧ (¬ ((I 32 7) = 0) → CV mX5_forgetWays d [vR 69] I (fun I10 => (∀ I11 : HI, I11 = up I10 32 8 0 → (∀ I12 : HI, I12 = up I11 32 9 0 → (∀ I13 : HI, I13 = up I12 32 7 0 → Q none (mk I13)))))))) ∧ (¬ ((I 32 9) = 0) → CV mJ7_fill_d0a16 d [vR 75, vL 0] I (fun I14 => CV mJ7_fill_d0a16 d [vR 76, vL 0] I14 (fun I15 => (-2147483648 ≤ (I15 69 11) + 1 ∧ (I15 69 11) + 1 ≤ 2147483647) ∧ (∀ I16 : HI, I16 = up I15 69 11 ((I15 69 11) + 1) → (∀ I17 : HI, I17 = up I16 32 8 0 → (∀ I18 : HI, I18 = up I17 32 9 0 → (∀ I19 : HI, I19 = up I18 32 7 0 → Q none (mk I19)))))))))))) : J none mX5_prepare (d + 1) 0 0 82 [(0, vR 69)] [] (mk I) Q := by
  refine J_aload_n dX5_prepare_82 rfl rfl ?_
  refine J_getR dX5_prepare_83 ck_5 fw_X5_41 rfl sh_69 rr_69_1 ?_
  refine J_getI dX5_prepare_86 ck_9 fw_X5_56 rfl sh_32 ?_
  refine J_if_ne (tgt := 102) dX5_prepare_89 (by decide) (fun c => ?_) (fun c => ?_)
  · replace h := h.1 c
    refine J_aload_n dX5_prepare_102 rfl rfl ?_
    refine J_getR dX5_prepare_103 ck_5 fw_X5_30 rfl sh_69 rr_69_9 ?_
    refine J_lconst 0 dX5_prepare_106 (ll_c rfl) (by decide) ?_
    refine J_callS (as := [_, _]) (mc1 := 0) (ms1 := 0) (mc := 0) (ms := 0) dX5_prepare_107 ms_J7_fill_d0a16 lk_X5_83 rfl (Nat.le_of_ble_eq_true rfl) (Nat.le_of_ble_eq_true rfl) h (fun r σ hq _ => ?_)
    obtain ⟨I1, rfl, rfl, h⟩ := hq
    change J _ _ _ _ _ _ _ [] _ _
    refine J_aload_n dX5_prepare_110 rfl rfl ?_
    refine J_getR dX5_prepare_111 ck_5 fw_X5_34 rfl sh_69 rr_69_10 ?_
    refine J_lconst 0 dX5_prepare_114 (ll_c rfl) (by decide) ?_
    refine J_callS (as := [_, _]) (mc1 := 0) (ms1 := 0) (mc := 0) (ms := 0) dX5_prepare_115 ms_J7_fill_d0a16 lk_X5_83 rfl (Nat.le_of_ble_eq_true rfl) (Nat.le_of_ble_eq_true rfl) h (fun r σ hq _ => ?_)
    obtain ⟨I2, rfl, rfl, h⟩ := hq
    change J _ _ _ _ _ _ _ [] _ _
    refine J_aload_n dX5_prepare_118 rfl rfl ?_
    refine J_dup dX5_prepare_119 rfl ?_
    refine J_getI dX5_prepare_120 ck_5 fw_X5_89 rfl sh_69 ?_
    refine J_iconst dX5_prepare_123 (ii_c rfl) ?_
    refine J_iaddN dX5_prepare_124 h.1 ?_
    replace h := h.2
    refine J_putI dX5_prepare_125 ck_5 fw_X5_89 rfl rfl (Or.inl rfl) sh_69 ?_
    replace h := h _ rfl
    refine J_goto (tgt := 145) dX5_prepare_128 (by decide) ?_
    refine J_aload_n dX5_prepare_145 rfl rfl ?_
    refine J_getR dX5_prepare_146 ck_5 fw_X5_41 rfl sh_69 rr_69_1 ?_
    refine J_iconst dX5_prepare_149 (ii_c rfl) ?_
    refine J_putI dX5_prepare_150 ck_9 fw_X5_56 rfl rfl (Or.inr ⟨rfl, Or.inl rfl⟩) sh_32 ?_
    replace h := h _ rfl
    refine J_aload_n dX5_prepare_153 rfl rfl ?_
    refine J_getR dX5_prepare_154 ck_5 fw_X5_41 rfl sh_69 rr_69_1 ?_
    refine J_iconst dX5_prepare_157 (ii_c rfl) ?_
    refine J_putI dX5_prepare_158 ck_9 fw_X5_80 rfl rfl (Or.inr ⟨rfl, Or.inl rfl⟩) sh_32 ?_
    replace h := h _ rfl
    refine J_aload_n dX5_prepare_161 rfl rfl ?_
    refine J_getR dX5_prepare_162 ck_5 fw_X5_41 rfl sh_69 rr_69_1 ?_
    refine J_iconst dX5_prepare_165 (ii_c rfl) ?_
    refine J_putI dX5_prepare_166 ck_9 fw_X5_93 rfl rfl (Or.inr ⟨rfl, Or.inl rfl⟩) sh_32 ?_
    replace h := h _ rfl
    exact J_retv dX5_prepare_169 rfl h
  · replace h := h.2 c
    refine J_aload_n dX5_prepare_92 rfl rfl ?_
    refine J_getR dX5_prepare_93 ck_5 fw_X5_41 rfl sh_69 rr_69_1 ?_
    refine J_getI dX5_prepare_96 ck_9 fw_X5_80 rfl sh_32 ?_
    refine J_if_eq (tgt := 131) dX5_prepare_99 (by decide) (fun c => ?_) (fun c => ?_)
    · replace h := h.1 c
      refine J_aload_n dX5_prepare_131 rfl rfl ?_
      refine J_getR dX5_prepare_132 ck_5 fw_X5_41 rfl sh_69 rr_69_1 ?_
      refine J_getI dX5_prepare_135 ck_9 fw_X5_93 rfl sh_32 ?_
      refine J_if_eq (tgt := 145) dX5_prepare_138 (by decide) (fun c => ?_) (fun c => ?_)
      · replace h := h.1 c
        refine J_aload_n dX5_prepare_145 rfl rfl ?_
        refine J_getR dX5_prepare_146 ck_5 fw_X5_41 rfl sh_69 rr_69_1 ?_
        refine J_iconst dX5_prepare_149 (ii_c rfl) ?_
        refine J_putI dX5_prepare_150 ck_9 fw_X5_56 rfl rfl (Or.inr ⟨rfl, Or.inl rfl⟩) sh_32 ?_
        replace h := h _ rfl
        refine J_aload_n dX5_prepare_153 rfl rfl ?_
        refine J_getR dX5_prepare_154 ck_5 fw_X5_41 rfl sh_69 rr_69_1 ?_
        refine J_iconst dX5_prepare_157 (ii_c rfl) ?_
        refine J_putI dX5_prepare_158 ck_9 fw_X5_80 rfl rfl (Or.inr ⟨rfl, Or.inl rfl⟩) sh_32 ?_
        replace h := h _ rfl
        refine J_aload_n dX5_prepare_161 rfl rfl ?_
        refine J_getR dX5_prepare_162 ck_5 fw_X5_41 rfl sh_69 rr_69_1 ?_
        refine J_iconst dX5_prepare_165 (ii_c rfl) ?_
        refine J_putI dX5_prepare_166 ck_9 fw_X5_93 rfl rfl (Or.inr ⟨rfl, Or.inl rfl⟩) sh_32 ?_
        replace h := h _ rfl
        exact J_retv dX5_prepare_169 rfl h
      · replace h := h.2 c
        refine J_aload_n dX5_prepare_141 rfl rfl ?_
        refine J_callV (as := []) (mc1 := 0) (ms1 := 0) (mc := 0) (ms := 0) dX5_prepare_142 mv_X5_forgetWays lk_X5_96 sh_69 rfl (Nat.le_of_ble_eq_true rfl) (Nat.le_of_ble_eq_true rfl) h (fun r σ hq _ => ?_)
        obtain ⟨I10, rfl, rfl, h⟩ := hq
        change J _ _ _ _ _ _ _ [] _ _
        refine J_aload_n dX5_prepare_145 rfl rfl ?_
        refine J_getR dX5_prepare_146 ck_5 fw_X5_41 rfl sh_69 rr_69_1 ?_
        refine J_iconst dX5_prepare_149 (ii_c rfl) ?_
        refine J_putI dX5_prepare_150 ck_9 fw_X5_56 rfl rfl (Or.inr ⟨rfl, Or.inl rfl⟩) sh_32 ?_
        replace h := h _ rfl
        refine J_aload_n dX5_prepare_153 rfl rfl ?_
        refine J_getR dX5_prepare_154 ck_5 fw_X5_41 rfl sh_69 rr_69_1 ?_
        refine J_iconst dX5_prepare_157 (ii_c rfl) ?_
        refine J_putI dX5_prepare_158 ck_9 fw_X5_80 rfl rfl (Or.inr ⟨rfl, Or.inl rfl⟩) sh_32 ?_
        replace h := h _ rfl
        refine J_aload_n dX5_prepare_161 rfl rfl ?_
        refine J_getR dX5_prepare_162 ck_5 fw_X5_41 rfl sh_69 rr_69_1 ?_
        refine J_iconst dX5_prepare_165 (ii_c rfl) ?_
        refine J_putI dX5_prepare_166 ck_9 fw_X5_93 rfl rfl (Or.inr ⟨rfl, Or.inl rfl⟩) sh_32 ?_
        replace h := h _ rfl
        exact J_retv dX5_prepare_169 rfl h
    · replace h := h.2 c
      refine J_aload_n dX5_prepare_102 rfl rfl ?_
      refine J_getR dX5_prepare_103 ck_5 fw_X5_30 rfl sh_69 rr_69_9 ?_
      refine J_lconst 0 dX5_prepare_106 (ll_c rfl) (by decide) ?_
      refine J_callS (as := [_, _]) (mc1 := 0) (ms1 := 0) (mc := 0) (ms := 0) dX5_prepare_107 ms_J7_fill_d0a16 lk_X5_83 rfl (Nat.le_of_ble_eq_true rfl) (Nat.le_of_ble_eq_true rfl) h (fun r σ hq _ => ?_)
      obtain ⟨I14, rfl, rfl, h⟩ := hq
      change J _ _ _ _ _ _ _ [] _ _
      refine J_aload_n dX5_prepare_110 rfl rfl ?_
      refine J_getR dX5_prepare_111 ck_5 fw_X5_34 rfl sh_69 rr_69_10 ?_
      refine J_lconst 0 dX5_prepare_114 (ll_c rfl) (by decide) ?_
      refine J_callS (as := [_, _]) (mc1 := 0) (ms1 := 0) (mc := 0) (ms := 0) dX5_prepare_115 ms_J7_fill_d0a16 lk_X5_83 rfl (Nat.le_of_ble_eq_true rfl) (Nat.le_of_ble_eq_true rfl) h (fun r σ hq _ => ?_)
      obtain ⟨I15, rfl, rfl, h⟩ := hq
      change J _ _ _ _ _ _ _ [] _ _
      refine J_aload_n dX5_prepare_118 rfl rfl ?_
      refine J_dup dX5_prepare_119 rfl ?_
      refine J_getI dX5_prepare_120 ck_5 fw_X5_89 rfl sh_69 ?_
      refine J_iconst dX5_prepare_123 (ii_c rfl) ?_
      refine J_iaddN dX5_prepare_124 h.1 ?_
      replace h := h.2
      refine J_putI dX5_prepare_125 ck_5 fw_X5_89 rfl rfl (Or.inl rfl) sh_69 ?_
      replace h := h _ rfl
      refine J_goto (tgt := 145) dX5_prepare_128 (by decide) ?_
      refine J_aload_n dX5_prepare_145 rfl rfl ?_
      refine J_getR dX5_prepare_146 ck_5 fw_X5_41 rfl sh_69 rr_69_1 ?_
      refine J_iconst dX5_prepare_149 (ii_c rfl) ?_
      refine J_putI dX5_prepare_150 ck_9 fw_X5_56 rfl rfl (Or.inr ⟨rfl, Or.inl rfl⟩) sh_32 ?_
      replace h := h _ rfl
      refine J_aload_n dX5_prepare_153 rfl rfl ?_
      refine J_getR dX5_prepare_154 ck_5 fw_X5_41 rfl sh_69 rr_69_1 ?_
      refine J_iconst dX5_prepare_157 (ii_c rfl) ?_
      refine J_putI dX5_prepare_158 ck_9 fw_X5_80 rfl rfl (Or.inr ⟨rfl, Or.inl rfl⟩) sh_32 ?_
      replace h := h _ rfl
      refine J_aload_n dX5_prepare_161 rfl rfl ?_
      refine J_getR dX5_prepare_162 ck_5 fw_X5_41 rfl sh_69 rr_69_1 ?_
      refine J_iconst dX5_prepare_165 (ii_c rfl) ?_
      refine J_putI dX5_prepare_166 ck_9 fw_X5_93 rfl rfl (Or.inr ⟨rfl, Or.inl rfl⟩) sh_32 ?_
      replace h := h _ rfl
      exact J_retv dX5_prepare_169 rfl h
set_option maxRecDepth 20000 in
set_option maxHeartbeats 2000000 in
theorem bk_X5_forgetWays_0 {d : Nat} {I : HI} {Q : Option AV → AH → Prop}   (h : J none mX5_forgetWays (d + 1) 0 0 2 [(0, vR 69), (1, vI 0)] [] (mk I) Q) : J none mX5_forgetWays (d + 1) 0 0 0 [(0, vR 69)] [] (mk I) Q := by
  refine J_iconst dX5_forgetWays_0 (ii_c rfl) ?_
  refine J_istore_n dX5_forgetWays_1 rfl (by decide) ?_
  change J _ _ _ _ _ _ [(0, _), (1, _)] _ _ _
  exact h
set_option maxRecDepth 20000 in
set_option maxHeartbeats 2000000 in
theorem bk_X5_forgetWays_2 {d : Nat} {I : HI} {Q : Option AV → AH → Prop} {a1 : Int}  (h : ((6 ≤ a1 → Q none (mk I)) ∧ (¬ (6 ≤ a1) → (-2147483648 ≤ a1 * 61 ∧ a1 * 61 ≤ 2147483647) ∧ ((0 : Int) ≤ (a1 * 61) ∧ (a1 * 61 : Int) < 366) ∧ (∀ I1 : HI, I1 = up I 75 (a1 * 61).toNat 0 → (-2147483648 ≤ a1 * 61 ∧ a1 * 61 ≤ 2147483647) ∧ ((0 : Int) ≤ (a1 * 61) ∧ (a1 * 61 : Int) < 366) ∧ (∀ I2 : HI, I2 = up I1 76 (a1 * 61).toNat 0 → J none mX5_forgetWays (d + 1) 0 0 30 [(0, vR 69), (1, vI a1), (2, vI 1)] [] (mk I2) Q))))) : J none mX5_forgetWays (d + 1) 0 0 2 [(0, vR 69), (1, vI a1)] [] (mk I) Q := by
  refine J_iload_n dX5_forgetWays_2 rfl rfl ?_
  refine J_bipush dX5_forgetWays_3 (ii_c rfl) (by decide) ?_
  refine J_ic_ge (tgt := 82) dX5_forgetWays_5 (by decide) (fun c => ?_) (fun c => ?_)
  · replace h := h.1 c
    exact J_retv dX5_forgetWays_82 rfl h
  · replace h := h.2 c
    refine J_aload_n dX5_forgetWays_8 rfl rfl ?_
    refine J_getR dX5_forgetWays_9 ck_5 fw_X5_30 rfl sh_69 rr_69_9 ?_
    refine J_iload_n dX5_forgetWays_12 rfl rfl ?_
    refine J_bipush dX5_forgetWays_13 (ii_c rfl) (by decide) ?_
    refine J_imulN dX5_forgetWays_15 h.1 ?_
    replace h := h.2
    refine J_lconst 0 dX5_forgetWays_16 (ll_c rfl) (by decide) ?_
    refine J_last dX5_forgetWays_17 sh_75 h.1.1 h.1.2 ?_
    replace h := h.2 _ rfl
    refine J_aload_n dX5_forgetWays_18 rfl rfl ?_
    refine J_getR dX5_forgetWays_19 ck_5 fw_X5_34 rfl sh_69 rr_69_10 ?_
    refine J_iload_n dX5_forgetWays_22 rfl rfl ?_
    refine J_bipush dX5_forgetWays_23 (ii_c rfl) (by decide) ?_
    refine J_imulN dX5_forgetWays_25 h.1 ?_
    replace h := h.2
    refine J_lconst 0 dX5_forgetWays_26 (ll_c rfl) (by decide) ?_
    refine J_last dX5_forgetWays_27 sh_76 h.1.1 h.1.2 ?_
    replace h := h.2 _ rfl
    refine J_iconst dX5_forgetWays_28 (ii_c rfl) ?_
    refine J_istore_n dX5_forgetWays_29 rfl (by decide) ?_
    change J _ _ _ _ _ _ [(0, _), (1, _), (2, _)] _ _ _
    exact h
set_option maxRecDepth 20000 in
set_option maxHeartbeats 2000000 in
theorem bk_X5_forgetWays_30 {d : Nat} {I : HI} {Q : Option AV → AH → Prop} {a1 : Int} {a2 : Int}  (h : ((61 ≤ a2 → (-2147483648 ≤ a1 + 1 ∧ a1 + 1 ≤ 2147483647) ∧ J none mX5_forgetWays (d + 1) 0 0 2 [(0, vR 69), (1, vI (a1 + 1))] [] (mk I) Q) ∧ (¬ (61 ≤ a2) → (-2147483648 ≤ a1 * 61 ∧ a1 * 61 ≤ 2147483647) ∧ (-2147483648 ≤ (a1 * 61) + a2 ∧ (a1 * 61) + a2 ≤ 2147483647) ∧ ((0 : Int) ≤ ((a1 * 61) + a2) ∧ ((a1 * 61) + a2 : Int) < 366) ∧ ((0 : Int) ≤ ((a1 * 61) + a2) ∧ ((a1 * 61) + a2 : Int) < 366) ∧ (∀ I1 : HI, I1 = up I 75 ((a1 * 61) + a2).toNat (lA (I 75 ((a1 * 61) + a2).toNat) (-2)) → (-2147483648 ≤ a1 * 61 ∧ a1 * 61 ≤ 2147483647) ∧ (-2147483648 ≤ (a1 * 61) + a2 ∧ (a1 * 61) + a2 ≤ 2147483647) ∧ ((0 : Int) ≤ ((a1 * 61) + a2) ∧ ((a1 * 61) + a2 : Int) < 366) ∧ ((0 : Int) ≤ ((a1 * 61) + a2) ∧ ((a1 * 61) + a2 : Int) < 366) ∧ (∀ I2 : HI, I2 = up I1 76 ((a1 * 61) + a2).toNat (lA (I1 76 ((a1 * 61) + a2).toNat) (-2)) → (-2147483648 ≤ a2 + 1 ∧ a2 + 1 ≤ 2147483647) ∧ J none mX5_forgetWays (d + 1) 0 0 30 [(0, vR 69), (1, vI a1), (2, vI (a2 + 1))] [] (mk I2) Q))))) : J none mX5_forgetWays (d + 1) 0 0 30 [(0, vR 69), (1, vI a1), (2, vI a2)] [] (mk I) Q := by
  refine J_iload_n dX5_forgetWays_30 rfl rfl ?_
  refine J_bipush dX5_forgetWays_31 (ii_c rfl) (by decide) ?_
  refine J_ic_ge (tgt := 76) dX5_forgetWays_33 (by decide) (fun c => ?_) (fun c => ?_)
  · replace h := h.1 c
    refine J_iincN dX5_forgetWays_76 rfl (by decide) h.1 ?_
    replace h := h.2
    change J _ _ _ _ _ _ [(0, _), (1, _), (2, _)] _ _ _
    refine J_goto (tgt := 2) dX5_forgetWays_79 (by decide) ?_
    exact J_loc (ls_sub [0, 1] rfl) h
  · replace h := h.2 c
    refine J_aload_n dX5_forgetWays_36 rfl rfl ?_
    refine J_getR dX5_forgetWays_37 ck_5 fw_X5_30 rfl sh_69 rr_69_9 ?_
    refine J_iload_n dX5_forgetWays_40 rfl rfl ?_
    refine J_bipush dX5_forgetWays_41 (ii_c rfl) (by decide) ?_
    refine J_imulN dX5_forgetWays_43 h.1 ?_
    replace h := h.2
    refine J_iload_n dX5_forgetWays_44 rfl rfl ?_
    refine J_iaddN dX5_forgetWays_45 h.1 ?_
    replace h := h.2
    refine J_dup2 dX5_forgetWays_46 rfl rfl ?_
    refine J_lald dX5_forgetWays_47 sh_75 h.1.1 h.1.2 ?_
    replace h := h.2
    refine J_ldc2 (-2) dX5_forgetWays_48 kw_X5_99 (ll_c rfl) ?_
    refine J_land dX5_forgetWays_51 ?_
    refine J_last dX5_forgetWays_52 sh_75 h.1.1 h.1.2 ?_
    replace h := h.2 _ rfl
    refine J_aload_n dX5_forgetWays_53 rfl rfl ?_
    refine J_getR dX5_forgetWays_54 ck_5 fw_X5_34 rfl sh_69 rr_69_10 ?_
    refine J_iload_n dX5_forgetWays_57 rfl rfl ?_
    refine J_bipush dX5_forgetWays_58 (ii_c rfl) (by decide) ?_
    refine J_imulN dX5_forgetWays_60 h.1 ?_
    replace h := h.2
    refine J_iload_n dX5_forgetWays_61 rfl rfl ?_
    refine J_iaddN dX5_forgetWays_62 h.1 ?_
    replace h := h.2
    refine J_dup2 dX5_forgetWays_63 rfl rfl ?_
    refine J_lald dX5_forgetWays_64 sh_76 h.1.1 h.1.2 ?_
    replace h := h.2
    refine J_ldc2 (-2) dX5_forgetWays_65 kw_X5_99 (ll_c rfl) ?_
    refine J_land dX5_forgetWays_68 ?_
    refine J_last dX5_forgetWays_69 sh_76 h.1.1 h.1.2 ?_
    replace h := h.2 _ rfl
    refine J_iincN dX5_forgetWays_70 rfl (by decide) h.1 ?_
    replace h := h.2
    change J _ _ _ _ _ _ [(0, _), (1, _), (2, _)] _ _ _
    refine J_goto (tgt := 30) dX5_forgetWays_73 (by decide) ?_
    exact h
set_option maxRecDepth 20000 in
set_option maxHeartbeats 2000000 in
theorem bk_X5_explore_0 {d : Nat} {I : HI} {Q : Option AV → AH → Prop} {a1 : Int} {a2 : Int} {a3 : Int}  (h : ((a3 ≠ (I 1 12) → J none mX5_explore (d + 1) 0 0 21 [(0, vR 69), (1, vI a1), (2, vI a2), (3, vI a3), (4, vI 0)] [] (mk I) Q) ∧ (a3 = (I 1 12) → CV mX5_record d [vR 69, vI a1, vI a2] I (fun I1 => Q none (mk I1))))) : J none mX5_explore (d + 1) 0 0 0 [(0, vR 69), (1, vI a1), (2, vI a2), (3, vI a3)] [] (mk I) Q := by
  refine J_iload_n dX5_explore_0 rfl rfl ?_
  refine J_aload_n dX5_explore_1 rfl rfl ?_
  refine J_getR dX5_explore_2 ck_5 fw_X5_37 rfl sh_69 rr_69_0 ?_
  refine J_getI dX5_explore_5 ck_0 fw_X5_101 rfl sh_1 ?_
  refine J_ic_ne (tgt := 18) dX5_explore_8 (by decide) (fun c => ?_) (fun c => ?_)
  · replace h := h.1 c
    refine J_iconst dX5_explore_18 (ii_c rfl) ?_
    refine J_istore dX5_explore_19 (by decide) ?_
    change J _ _ _ _ _ _ [(0, _), (1, _), (2, _), (3, _), (4, _)] _ _ _
    exact h
  · replace h := h.2 c
    refine J_aload_n dX5_explore_11 rfl rfl ?_
    refine J_iload_n dX5_explore_12 rfl rfl ?_
    refine J_iload_n dX5_explore_13 rfl rfl ?_
    refine J_callV (as := [_, _]) (mc1 := 0) (ms1 := 0) (mc := 0) (ms := 0) dX5_explore_14 mv_X5_record lk_X5_104 sh_69 rfl (Nat.le_of_ble_eq_true rfl) (Nat.le_of_ble_eq_true rfl) h (fun r σ hq _ => ?_)
    obtain ⟨I1, rfl, rfl, h⟩ := hq
    change J _ _ _ _ _ _ _ [] _ _
    exact J_retv dX5_explore_17 rfl h
set_option maxRecDepth 20000 in
set_option maxHeartbeats 2000000 in
theorem bk_X5_explore_21 {d : Nat} {I : HI} {Q : Option AV → AH → Prop} {a1 : Int} {a2 : Int} {a3 : Int} {a4 : Int}  (h : (((I 2 0) ≤ a4 → Q none (mk I)) ∧ (¬ ((I 2 0) ≤ a4) → (-2147483648 ≤ a2 + 1 ∧ a2 + 1 ≤ 2147483647) ∧ ((10 ≤ (a2 + 1) → Q none (mk I)) ∧ (¬ (10 ≤ (a2 + 1)) → ((0 : Int) ≤ a2 ∧ (a2 : Int) < 10) ∧ (-2147483648 ≤ (I 74 a2.toNat) * 10 ∧ (I 74 a2.toNat) * 10 ≤ 2147483647) ∧ (-2147483648 ≤ ((I 74 a2.toNat) * 10) + a4 ∧ ((I 74 a2.toNat) * 10) + a4 ≤ 2147483647) ∧ ((0 : Int) ≤ (((I 74 a2.toNat) * 10) + a4) ∧ (((I 74 a2.toNat) * 10) + a4 : Int) < 100) ∧ ((0 : Int) ≤ a4 ∧ (a4 : Int) < 10) ∧ (((I 12 (((I 74 a2.toNat) * 10) + a4).toNat) = (-1) → (-2147483648 ≤ a4 + 1 ∧ a4 + 1 ≤ 2147483647) ∧ J none mX5_explore (d + 1) 0 0 21 [(0, vR 69), (1, vI a1), (2, vI a2), (3, vI a3), (4, vI (a4 + 1))] [] (mk I) Q) ∧ (¬ ((I 12 (((I 74 a2.toNat) * 10) + a4).toNat) = (-1)) → CI mX9_shutBits d [vR 32] I (fun x1 I1 => (((oA (oSr x1 (I 12 (((I 74 a2.toNat) * 10) + a4).toNat)) 1) ≠ 0 → (-2147483648 ≤ a4 + 1 ∧ a4 + 1 ≤ 2147483647) ∧ J none mX5_explore (d + 1) 0 0 21 [(0, vR 69), (1, vI a1), (2, vI a2), (3, vI a3), (4, vI (a4 + 1))] [] (mk I1) Q) ∧ ((oA (oSr x1 (I 12 (((I 74 a2.toNat) * 10) + a4).toNat)) 1) = 0 → (((oA a3 (oSl 1 (I 5 a4.toNat))) ≠ 0 → (-2147483648 ≤ a4 + 1 ∧ a4 + 1 ≤ 2147483647) ∧ J none mX5_explore (d + 1) 0 0 21 [(0, vR 69), (1, vI a1), (2, vI a2), (3, vI a3), (4, vI (a4 + 1))] [] (mk I1) Q) ∧ ((oA a3 (oSl 1 (I 5 a4.toNat))) = 0 → ((0 : Int) ≤ a1 ∧ (a1 : Int) < 4) ∧ ((20 ≤ (I1 71 a1.toNat) → (-2147483648 ≤ a4 + 1 ∧ a4 + 1 ≤ 2147483647) ∧ J none mX5_explore (d + 1) 0 0 21 [(0, vR 69), (1, vI a1), (2, vI a2), (3, vI a3), (4, vI (a4 + 1))] [] (mk I1) Q) ∧ (¬ (20 ≤ (I1 71 a1.toNat)) → (-2147483648 ≤ a2 + 1 ∧ a2 + 1 ≤ 2147483647) ∧ ((0 : Int) ≤ (a2 + 1) ∧ (a2 + 1 : Int) < 10) ∧ (∀ I2 : HI, I2 = up I1 74 (a2 + 1).toNat a4 → (-2147483648 ≤ a2 + 1 ∧ a2 + 1 ≤ 2147483647) ∧ CV mX5_explore d [vR 69, vI a1, vI (a2 + 1), vI (oO a3 (oSl 1 (I 5 a4.toNat)))] I2 (fun I3 => (-2147483648 ≤ a4 + 1 ∧ a4 + 1 ≤ 2147483647) ∧ J none mX5_explore (d + 1) 0 0 21 [(0, vR 69), (1, vI a1), (2, vI a2), (3, vI a3), (4, vI (a4 + 1))] [] (mk I3) Q)))))))))))))))) : J none mX5_explore (d + 1) 0 0 21 [(0, vR 69), (1, vI a1), (2, vI a2), (3, vI a3), (4, vI a4)] [] (mk I) Q := by
  refine J_iload dX5_explore_21 rfl ?_
  refine J_aload_n dX5_explore_23 rfl rfl ?_
  refine J_getR dX5_explore_24 ck_5 fw_X5_37 rfl sh_69 rr_69_0 ?_
  refine J_getR dX5_explore_27 ck_0 fw_X5_62 rfl sh_1 rr_1_0 ?_
  refine J_iconst dX5_explore_30 (ii_c rfl) ?_
  refine J_iald dX5_explore_31 sh_2 (by decide) (by decide) ?_
  refine J_ic_ge (tgt := 158) dX5_explore_32 (by decide) (fun c => ?_) (fun c => ?_)
  · replace h := h.1 c
    exact J_retv dX5_explore_158 rfl h
  · replace h := h.2 c
    refine J_iload_n dX5_explore_35 rfl rfl ?_
    refine J_iconst dX5_explore_36 (ii_c rfl) ?_
    refine J_iaddN dX5_explore_37 h.1 ?_
    replace h := h.2
    refine J_bipush dX5_explore_38 (ii_c rfl) (by decide) ?_
    refine J_ic_ge (tgt := 158) dX5_explore_40 (by decide) (fun c => ?_) (fun c => ?_)
    · replace h := h.1 c
      exact J_retv dX5_explore_158 rfl h
    · replace h := h.2 c
      refine J_aload_n dX5_explore_43 rfl rfl ?_
      refine J_getR dX5_explore_44 ck_5 fw_X5_37 rfl sh_69 rr_69_0 ?_
      refine J_getR dX5_explore_47 ck_0 fw_X5_108 rfl sh_1 rr_1_10 ?_
      refine J_aload_n dX5_explore_50 rfl rfl ?_
      refine J_getR dX5_explore_51 ck_5 fw_X5_27 rfl sh_69 rr_69_8 ?_
      refine J_iload_n dX5_explore_54 rfl rfl ?_
      refine J_iald dX5_explore_55 sh_74 h.1.1 h.1.2 ?_
      replace h := h.2
      refine J_bipush dX5_explore_56 (ii_c rfl) (by decide) ?_
      refine J_imulN dX5_explore_58 h.1 ?_
      replace h := h.2
      refine J_iload dX5_explore_59 rfl ?_
      refine J_iaddN dX5_explore_61 h.1 ?_
      replace h := h.2
      refine J_iald dX5_explore_62 sh_12 h.1.1 h.1.2 ?_
      replace h := h.2
      refine J_istore dX5_explore_63 (by decide) ?_
      change J _ _ _ _ _ _ [(0, _), (1, _), (2, _), (3, _), (4, _), (5, _)] _ _ _
      refine J_iconst dX5_explore_65 (ii_c rfl) ?_
      refine J_aload_n dX5_explore_66 rfl rfl ?_
      refine J_getR dX5_explore_67 ck_5 fw_X5_37 rfl sh_69 rr_69_0 ?_
      refine J_getR dX5_explore_70 ck_0 fw_X5_70 rfl sh_1 rr_1_3 ?_
      refine J_iload dX5_explore_73 rfl ?_
      refine J_iald dX5_explore_75 sh_5 h.1.1 h.1.2 ?_
      replace h := h.2
      refine J_ishl dX5_explore_76 ?_
      refine J_istore dX5_explore_77 (by decide) ?_
      change J _ _ _ _ _ _ [(0, _), (1, _), (2, _), (3, _), (4, _), (5, _), (6, _)] _ _ _
      refine J_iload dX5_explore_79 rfl ?_
      refine J_iconst dX5_explore_81 (ii_c rfl) ?_
      refine J_ic_eq (tgt := 104) dX5_explore_82 (by decide) (fun c => ?_) (fun c => ?_)
      · replace h := h.1 c
        refine J_iconst dX5_explore_104 (ii_c rfl) ?_
        refine J_istore dX5_explore_105 (by decide) ?_
        change J _ _ _ _ _ _ [(0, _), (1, _), (2, _), (3, _), (4, _), (5, _), (6, _), (7, _)] _ _ _
        refine J_iload dX5_explore_107 rfl ?_
        refine J_if_eq (tgt := 152) dX5_explore_109 (by decide) (fun _ => ?_) (fun c => absurd (by decide) c)
        refine J_iincN dX5_explore_152 rfl (by decide) h.1 ?_
        replace h := h.2
        change J _ _ _ _ _ _ [(0, _), (1, _), (2, _), (3, _), (4, _), (5, _), (6, _), (7, _)] _ _ _
        refine J_goto (tgt := 21) dX5_explore_155 (by decide) ?_
        exact J_loc (ls_sub [0, 1, 2, 3, 4] rfl) h
      · replace h := h.2 c
        refine J_aload_n dX5_explore_85 rfl rfl ?_
        refine J_getR dX5_explore_86 ck_5 fw_X5_41 rfl sh_69 rr_69_1 ?_
        refine J_callV (as := []) (mc1 := 0) (ms1 := 0) (mc := 0) (ms := 0) dX5_explore_89 mv_X9_shutBits lk_X5_111 sh_32 rfl (Nat.le_of_ble_eq_true rfl) (Nat.le_of_ble_eq_true rfl) h (fun r σ hq _ => ?_)
        obtain ⟨x1, I1, rfl, rfl, h⟩ := hq
        change J _ _ _ _ _ _ _ [vI x1] _ _
        refine J_iload dX5_explore_92 rfl ?_
        refine J_ishr dX5_explore_94 ?_
        refine J_iconst dX5_explore_95 (ii_c rfl) ?_
        refine J_iand dX5_explore_96 ?_
        refine J_if_ne (tgt := 104) dX5_explore_97 (by decide) (fun c => ?_) (fun c => ?_)
        · replace h := h.1 c
          refine J_iconst dX5_explore_104 (ii_c rfl) ?_
          refine J_istore dX5_explore_105 (by decide) ?_
          change J _ _ _ _ _ _ [(0, _), (1, _), (2, _), (3, _), (4, _), (5, _), (6, _), (7, _)] _ _ _
          refine J_iload dX5_explore_107 rfl ?_
          refine J_if_eq (tgt := 152) dX5_explore_109 (by decide) (fun _ => ?_) (fun c => absurd (by decide) c)
          refine J_iincN dX5_explore_152 rfl (by decide) h.1 ?_
          replace h := h.2
          change J _ _ _ _ _ _ [(0, _), (1, _), (2, _), (3, _), (4, _), (5, _), (6, _), (7, _)] _ _ _
          refine J_goto (tgt := 21) dX5_explore_155 (by decide) ?_
          exact J_loc (ls_sub [0, 1, 2, 3, 4] rfl) h
        · replace h := h.2 c
          refine J_iconst dX5_explore_100 (ii_c rfl) ?_
          refine J_goto (tgt := 105) dX5_explore_101 (by decide) ?_
          refine J_istore dX5_explore_105 (by decide) ?_
          change J _ _ _ _ _ _ [(0, _), (1, _), (2, _), (3, _), (4, _), (5, _), (6, _), (7, _)] _ _ _
          refine J_iload dX5_explore_107 rfl ?_
          refine J_if_eq (tgt := 152) dX5_explore_109 (by decide) (fun c => absurd c (by decide)) (fun _ => ?_)
          refine J_iload_n dX5_explore_112 rfl rfl ?_
          refine J_iload dX5_explore_113 rfl ?_
          refine J_iand dX5_explore_115 ?_
          refine J_if_ne (tgt := 152) dX5_explore_116 (by decide) (fun c => ?_) (fun c => ?_)
          · replace h := h.1 c
            refine J_iincN dX5_explore_152 rfl (by decide) h.1 ?_
            replace h := h.2
            change J _ _ _ _ _ _ [(0, _), (1, _), (2, _), (3, _), (4, _), (5, _), (6, _), (7, _)] _ _ _
            refine J_goto (tgt := 21) dX5_explore_155 (by decide) ?_
            exact J_loc (ls_sub [0, 1, 2, 3, 4] rfl) h
          · replace h := h.2 c
            refine J_aload_n dX5_explore_119 rfl rfl ?_
            refine J_getR dX5_explore_120 ck_5 fw_X5_17 rfl sh_69 rr_69_5 ?_
            refine J_iload_n dX5_explore_123 rfl rfl ?_
            refine J_iald dX5_explore_124 sh_71 h.1.1 h.1.2 ?_
            replace h := h.2
            refine J_bipush dX5_explore_125 (ii_c rfl) (by decide) ?_
            refine J_ic_ge (tgt := 152) dX5_explore_127 (by decide) (fun c => ?_) (fun c => ?_)
            · replace h := h.1 c
              refine J_iincN dX5_explore_152 rfl (by decide) h.1 ?_
              replace h := h.2
              change J _ _ _ _ _ _ [(0, _), (1, _), (2, _), (3, _), (4, _), (5, _), (6, _), (7, _)] _ _ _
              refine J_goto (tgt := 21) dX5_explore_155 (by decide) ?_
              exact J_loc (ls_sub [0, 1, 2, 3, 4] rfl) h
            · replace h := h.2 c
              refine J_aload_n dX5_explore_130 rfl rfl ?_
              refine J_getR dX5_explore_131 ck_5 fw_X5_27 rfl sh_69 rr_69_8 ?_
              refine J_iload_n dX5_explore_134 rfl rfl ?_
              refine J_iconst dX5_explore_135 (ii_c rfl) ?_
              refine J_iaddN dX5_explore_136 h.1 ?_
              replace h := h.2
              refine J_iload dX5_explore_137 rfl ?_
              refine J_iast dX5_explore_139 sh_74 h.1.1 h.1.2 ?_
              replace h := h.2 _ rfl
              refine J_aload_n dX5_explore_140 rfl rfl ?_
              refine J_iload_n dX5_explore_141 rfl rfl ?_
              refine J_iload_n dX5_explore_142 rfl rfl ?_
              refine J_iconst dX5_explore_143 (ii_c rfl) ?_
              refine J_iaddN dX5_explore_144 h.1 ?_
              replace h := h.2
              refine J_iload_n dX5_explore_145 rfl rfl ?_
              refine J_iload dX5_explore_146 rfl ?_
              refine J_ior dX5_explore_148 ?_
              refine J_callV (as := [_, _, _]) (mc1 := 0) (ms1 := 0) (mc := 0) (ms := 0) dX5_explore_149 mv_X5_explore lk_X5_73 sh_69 rfl (Nat.le_of_ble_eq_true rfl) (Nat.le_of_ble_eq_true rfl) h (fun r σ hq _ => ?_)
              obtain ⟨I3, rfl, rfl, h⟩ := hq
              change J _ _ _ _ _ _ _ [] _ _
              refine J_iincN dX5_explore_152 rfl (by decide) h.1 ?_
              replace h := h.2
              change J _ _ _ _ _ _ [(0, _), (1, _), (2, _), (3, _), (4, _), (5, _), (6, _), (7, _)] _ _ _
              refine J_goto (tgt := 21) dX5_explore_155 (by decide) ?_
              exact J_loc (ls_sub [0, 1, 2, 3, 4] rfl) h
set_option maxRecDepth 20000 in
set_option maxHeartbeats 2000000 in
theorem bk_X5_record_0 {d : Nat} {I : HI} {Q : Option AV → AH → Prop} {a1 : Int} {a2 : Int}  (h : (-2147483648 ≤ a1 * 20 ∧ a1 * 20 ≤ 2147483647) ∧ ((0 : Int) ≤ a1 ∧ (a1 : Int) < 4) ∧ (-2147483648 ≤ (a1 * 20) + (I 71 a1.toNat) ∧ (a1 * 20) + (I 71 a1.toNat) ≤ 2147483647) ∧ ((0 : Int) ≤ ((a1 * 20) + (I 71 a1.toNat)) ∧ ((a1 * 20) + (I 71 a1.toNat) : Int) < 80) ∧ ((0 : Int) ≤ a1 ∧ (a1 : Int) < 4) ∧ (-2147483648 ≤ (I 71 a1.toNat) + 1 ∧ (I 71 a1.toNat) + 1 ≤ 2147483647) ∧ ((0 : Int) ≤ a1 ∧ (a1 : Int) < 4) ∧ (∀ I1 : HI, I1 = up I 71 a1.toNat ((I 71 a1.toNat) + 1) → CV mX8_start d [vR (77 + 5 * ((a1 * 20) + (I 71 a1.toNat)).toNat), vI (I1 74 0)] I1 (fun I2 => J none mX5_record (d + 1) 0 0 40 [(0, vR 69), (1, vI a1), (2, vI a2), (3, vR (77 + 5 * ((a1 * 20) + (I 71 a1.toNat)).toNat)), (4, vI 1)] [] (mk I2) Q))) : J none mX5_record (d + 1) 0 0 0 [(0, vR 69), (1, vI a1), (2, vI a2)] [] (mk I) Q := by
  refine J_aload_n dX5_record_0 rfl rfl ?_
  refine J_getR dX5_record_1 ck_5 fw_X5_13 rfl sh_69 rr_69_4 ?_
  refine J_iload_n dX5_record_4 rfl rfl ?_
  refine J_bipush dX5_record_5 (ii_c rfl) (by decide) ?_
  refine J_imulN dX5_record_7 h.1 ?_
  replace h := h.2
  refine J_aload_n dX5_record_8 rfl rfl ?_
  refine J_getR dX5_record_9 ck_5 fw_X5_17 rfl sh_69 rr_69_5 ?_
  refine J_iload_n dX5_record_12 rfl rfl ?_
  refine J_iald dX5_record_13 sh_71 h.1.1 h.1.2 ?_
  replace h := h.2
  refine J_iaddN dX5_record_14 h.1 ?_
  replace h := h.2
  have hb1 := h.1
  refine J_aald dX5_record_15 sh_70 h.1.1 h.1.2 (RRo h.1.1 h.1.2) ?_
  replace h := h.2
  refine J_astore_n dX5_record_16 rfl (by decide) ?_
  change J _ _ _ _ _ _ [(0, _), (1, _), (2, _), (3, _)] _ _ _
  refine J_aload_n dX5_record_17 rfl rfl ?_
  refine J_getR dX5_record_18 ck_5 fw_X5_17 rfl sh_69 rr_69_5 ?_
  refine J_iload_n dX5_record_21 rfl rfl ?_
  refine J_dup2 dX5_record_22 rfl rfl ?_
  refine J_iald dX5_record_23 sh_71 h.1.1 h.1.2 ?_
  replace h := h.2
  refine J_iconst dX5_record_24 (ii_c rfl) ?_
  refine J_iaddN dX5_record_25 h.1 ?_
  replace h := h.2
  refine J_iast dX5_record_26 sh_71 h.1.1 h.1.2 ?_
  replace h := h.2 _ rfl
  refine J_aload_n dX5_record_27 rfl rfl ?_
  refine J_aload_n dX5_record_28 rfl rfl ?_
  refine J_getR dX5_record_29 ck_5 fw_X5_27 rfl sh_69 rr_69_8 ?_
  refine J_iconst dX5_record_32 (ii_c rfl) ?_
  refine J_iald dX5_record_33 sh_74 (by decide) (by decide) ?_
  refine J_callV (as := [_]) (mc1 := 0) (ms1 := 0) (mc := 0) (ms := 0) dX5_record_34 mv_X8_start lk_X5_115 ((TRo hb1.1 hb1.2).1) rfl (Nat.le_of_ble_eq_true rfl) (Nat.le_of_ble_eq_true rfl) h (fun r σ hq _ => ?_)
  obtain ⟨I2, rfl, rfl, h⟩ := hq
  change J _ _ _ _ _ _ _ [] _ _
  refine J_iconst dX5_record_37 (ii_c rfl) ?_
  refine J_istore dX5_record_38 (by decide) ?_
  change J _ _ _ _ _ _ [(0, _), (1, _), (2, _), (3, _), (4, _)] _ _ _
  exact h
set_option maxRecDepth 20000 in
set_option maxHeartbeats 2000000 in
theorem bk_X5_record_40 {d : Nat} {I : HI} {Q : Option AV → AH → Prop} {a1 : Int} {a2 : Int} {a3 ka3 : Nat} {a4 : Int} (ha3 : TR a3 ka3) (h : ((a2 < a4 → Q none (mk I)) ∧ (¬ (a2 < a4) → (-2147483648 ≤ a4 - 1 ∧ a4 - 1 ≤ 2147483647) ∧ ((0 : Int) ≤ (a4 - 1) ∧ (a4 - 1 : Int) < 10) ∧ (-2147483648 ≤ (I 74 (a4 - 1).toNat) * 10 ∧ (I 74 (a4 - 1).toNat) * 10 ≤ 2147483647) ∧ ((0 : Int) ≤ a4 ∧ (a4 : Int) < 10) ∧ (-2147483648 ≤ ((I 74 (a4 - 1).toNat) * 10) + (I 74 a4.toNat) ∧ ((I 74 (a4 - 1).toNat) * 10) + (I 74 a4.toNat) ≤ 2147483647) ∧ ((0 : Int) ≤ (((I 74 (a4 - 1).toNat) * 10) + (I 74 a4.toNat)) ∧ (((I 74 (a4 - 1).toNat) * 10) + (I 74 a4.toNat) : Int) < 100) ∧ ((0 : Int) ≤ a4 ∧ (a4 : Int) < 10) ∧ CI mX0_minutesOf d [vR 1, vI a1, vI (I 12 (((I 74 (a4 - 1).toNat) * 10) + (I 74 a4.toNat)).toNat)] I (fun x1 I1 => CV mX8_walkBy d [vR a3, vI (I 12 (((I 74 (a4 - 1).toNat) * 10) + (I 74 a4.toNat)).toNat), vI (I 74 a4.toNat), vI x1] I1 (fun I2 => (-2147483648 ≤ a4 + 1 ∧ a4 + 1 ≤ 2147483647) ∧ J none mX5_record (d + 1) 0 0 40 [(0, vR 69), (1, vI a1), (2, vI a2), (3, vR a3), (4, vI (a4 + 1))] [] (mk I2) Q))))) : J none mX5_record (d + 1) 0 0 40 [(0, vR 69), (1, vI a1), (2, vI a2), (3, vR a3), (4, vI a4)] [] (mk I) Q := by
  refine J_iload dX5_record_40 rfl ?_
  refine J_iload_n dX5_record_42 rfl rfl ?_
  refine J_ic_gt (tgt := 105) dX5_record_43 (by decide) (fun c => ?_) (fun c => ?_)
  · replace h := h.1 c
    exact J_retv dX5_record_105 rfl h
  · replace h := h.2 c
    refine J_aload_n dX5_record_46 rfl rfl ?_
    refine J_getR dX5_record_47 ck_5 fw_X5_37 rfl sh_69 rr_69_0 ?_
    refine J_getR dX5_record_50 ck_0 fw_X5_108 rfl sh_1 rr_1_10 ?_
    refine J_aload_n dX5_record_53 rfl rfl ?_
    refine J_getR dX5_record_54 ck_5 fw_X5_27 rfl sh_69 rr_69_8 ?_
    refine J_iload dX5_record_57 rfl ?_
    refine J_iconst dX5_record_59 (ii_c rfl) ?_
    refine J_isubN dX5_record_60 h.1 ?_
    replace h := h.2
    refine J_iald dX5_record_61 sh_74 h.1.1 h.1.2 ?_
    replace h := h.2
    refine J_bipush dX5_record_62 (ii_c rfl) (by decide) ?_
    refine J_imulN dX5_record_64 h.1 ?_
    replace h := h.2
    refine J_aload_n dX5_record_65 rfl rfl ?_
    refine J_getR dX5_record_66 ck_5 fw_X5_27 rfl sh_69 rr_69_8 ?_
    refine J_iload dX5_record_69 rfl ?_
    refine J_iald dX5_record_71 sh_74 h.1.1 h.1.2 ?_
    replace h := h.2
    refine J_iaddN dX5_record_72 h.1 ?_
    replace h := h.2
    refine J_iald dX5_record_73 sh_12 h.1.1 h.1.2 ?_
    replace h := h.2
    refine J_istore dX5_record_74 (by decide) ?_
    change J _ _ _ _ _ _ [(0, _), (1, _), (2, _), (3, _), (4, _), (5, _)] _ _ _
    refine J_aload_n dX5_record_76 rfl rfl ?_
    refine J_iload dX5_record_77 rfl ?_
    refine J_aload_n dX5_record_79 rfl rfl ?_
    refine J_getR dX5_record_80 ck_5 fw_X5_27 rfl sh_69 rr_69_8 ?_
    refine J_iload dX5_record_83 rfl ?_
    refine J_iald dX5_record_85 sh_74 h.1.1 h.1.2 ?_
    replace h := h.2
    refine J_aload_n dX5_record_86 rfl rfl ?_
    refine J_getR dX5_record_87 ck_5 fw_X5_37 rfl sh_69 rr_69_0 ?_
    refine J_iload_n dX5_record_90 rfl rfl ?_
    refine J_iload dX5_record_91 rfl ?_
    refine J_callV (as := [_, _]) (mc1 := 0) (ms1 := 0) (mc := 0) (ms := 0) dX5_record_93 mv_X0_minutesOf lk_X5_118 sh_1 rfl (Nat.le_of_ble_eq_true rfl) (Nat.le_of_ble_eq_true rfl) h (fun r σ hq _ => ?_)
    obtain ⟨x1, I1, rfl, rfl, h⟩ := hq
    change J _ _ _ _ _ _ _ [vI x1, _, _, _] _ _
    refine J_callV (as := [_, _, _]) (mc1 := 0) (ms1 := 0) (mc := 0) (ms := 0) dX5_record_96 mv_X8_walkBy lk_X5_122 ha3.1 rfl (Nat.le_of_ble_eq_true rfl) (Nat.le_of_ble_eq_true rfl) h (fun r σ hq _ => ?_)
    obtain ⟨I2, rfl, rfl, h⟩ := hq
    change J _ _ _ _ _ _ _ [] _ _
    refine J_iincN dX5_record_99 rfl (by decide) h.1 ?_
    replace h := h.2
    change J _ _ _ _ _ _ [(0, _), (1, _), (2, _), (3, _), (4, _), (5, _)] _ _ _
    refine J_goto (tgt := 40) dX5_record_102 (by decide) ?_
    exact J_loc (ls_sub [0, 1, 2, 3, 4] rfl) h
set_option maxRecDepth 20000 in
set_option maxHeartbeats 2000000 in
theorem bk_X5_rank_0 {d : Nat} {I : HI} {Q : Option AV → AH → Prop} {a1 : Int}  (h : (-2147483648 ≤ a1 * 61 ∧ a1 * 61 ≤ 2147483647) ∧ ((0 : Int) ≤ (a1 * 61) ∧ (a1 * 61 : Int) < 244) ∧ (∀ I1 : HI, I1 = up I 73 (a1 * 61).toNat 0 → J none mX5_rank (d + 1) 0 0 14 [(0, vR 69), (1, vI a1), (2, vI (a1 * 61)), (3, vI 1)] [] (mk I1) Q)) : J none mX5_rank (d + 1) 0 0 0 [(0, vR 69), (1, vI a1)] [] (mk I) Q := by
  refine J_iload_n dX5_rank_0 rfl rfl ?_
  refine J_bipush dX5_rank_1 (ii_c rfl) (by decide) ?_
  refine J_imulN dX5_rank_3 h.1 ?_
  replace h := h.2
  refine J_istore_n dX5_rank_4 rfl (by decide) ?_
  change J _ _ _ _ _ _ [(0, _), (1, _), (2, _)] _ _ _
  refine J_aload_n dX5_rank_5 rfl rfl ?_
  refine J_getR dX5_rank_6 ck_5 fw_X5_24 rfl sh_69 rr_69_7 ?_
  refine J_iload_n dX5_rank_9 rfl rfl ?_
  refine J_iconst dX5_rank_10 (ii_c rfl) ?_
  refine J_iast dX5_rank_11 sh_73 h.1.1 h.1.2 ?_
  replace h := h.2 _ rfl
  refine J_iconst dX5_rank_12 (ii_c rfl) ?_
  refine J_istore_n dX5_rank_13 rfl (by decide) ?_
  change J _ _ _ _ _ _ [(0, _), (1, _), (2, _), (3, _)] _ _ _
  exact h
set_option maxRecDepth 20000 in
set_option maxHeartbeats 2000000 in
theorem bk_X5_rank_14 {d : Nat} {I : HI} {Q : Option AV → AH → Prop} {a1 : Int} {a2 : Int} {a3 : Int}  (h : ((0 : Int) ≤ a1 ∧ (a1 : Int) < 4) ∧ (-2147483648 ≤ 3 * (I 71 a1.toNat) ∧ 3 * (I 71 a1.toNat) ≤ 2147483647) ∧ (((3 * (I 71 a1.toNat)) < a3 → Q none (mk I)) ∧ (¬ ((3 * (I 71 a1.toNat)) < a3) → CR mX5_trackOf d [vR 69, vI a1, vI a3] I (fun x1 kx1 I1 => CI mX5_lateOf d [vR 69, vI a3] I1 (fun x2 I2 => (-2147483648 ≤ (I1 x1 5) + x2 ∧ (I1 x1 5) + x2 ≤ 2147483647) ∧ (-2147483648 ≤ a2 + a3 ∧ a2 + a3 ≤ 2147483647) ∧ ((0 : Int) ≤ (a2 + a3) ∧ (a2 + a3 : Int) < 244) ∧ (∀ I3 : HI, I3 = up I2 72 (a2 + a3).toNat ((I1 x1 5) + x2) → J none mX5_rank (d + 1) 0 0 56 [(0, vR 69), (1, vI a1), (2, vI a2), (3, vI a3), (4, vI a3), (5, vI ((I1 x1 5) + x2))] [] (mk I3) Q)))))) : J none mX5_rank (d + 1) 0 0 14 [(0, vR 69), (1, vI a1), (2, vI a2), (3, vI a3)] [] (mk I) Q := by
  refine J_iload_n dX5_rank_14 rfl rfl ?_
  refine J_iconst dX5_rank_15 (ii_c rfl) ?_
  refine J_aload_n dX5_rank_16 rfl rfl ?_
  refine J_getR dX5_rank_17 ck_5 fw_X5_17 rfl sh_69 rr_69_5 ?_
  refine J_iload_n dX5_rank_20 rfl rfl ?_
  refine J_iald dX5_rank_21 sh_71 h.1.1 h.1.2 ?_
  replace h := h.2
  refine J_imulN dX5_rank_22 h.1 ?_
  replace h := h.2
  refine J_ic_gt (tgt := 127) dX5_rank_23 (by decide) (fun c => ?_) (fun c => ?_)
  · replace h := h.1 c
    exact J_retv dX5_rank_127 rfl h
  · replace h := h.2 c
    refine J_iload_n dX5_rank_26 rfl rfl ?_
    refine J_istore dX5_rank_27 (by decide) ?_
    change J _ _ _ _ _ _ [(0, _), (1, _), (2, _), (3, _), (4, _)] _ _ _
    refine J_aload_n dX5_rank_29 rfl rfl ?_
    refine J_iload_n dX5_rank_30 rfl rfl ?_
    refine J_iload_n dX5_rank_31 rfl rfl ?_
    refine J_callV (as := [_, _]) (mc1 := 0) (ms1 := 0) (mc := 0) (ms := 0) dX5_rank_32 mv_X5_trackOf lk_X5_125 sh_69 rfl (Nat.le_of_ble_eq_true rfl) (Nat.le_of_ble_eq_true rfl) h (fun r σ hq _ => ?_)
    obtain ⟨x1, kx1, I1, rfl, rfl, hx1, h⟩ := hq
    change J _ _ _ _ _ _ _ [vR x1] _ _
    refine J_getI dX5_rank_35 ck_8 fw_X5_129 rfl hx1.1 ?_
    refine J_aload_n dX5_rank_38 rfl rfl ?_
    refine J_iload_n dX5_rank_39 rfl rfl ?_
    refine J_callV (as := [_]) (mc1 := 0) (ms1 := 0) (mc := 0) (ms := 0) dX5_rank_40 mv_X5_lateOf lk_X5_132 sh_69 rfl (Nat.le_of_ble_eq_true rfl) (Nat.le_of_ble_eq_true rfl) h (fun r σ hq _ => ?_)
    obtain ⟨x2, I2, rfl, rfl, h⟩ := hq
    change J _ _ _ _ _ _ _ [vI x2, _] _ _
    refine J_iaddN dX5_rank_43 h.1 ?_
    replace h := h.2
    refine J_istore dX5_rank_44 (by decide) ?_
    change J _ _ _ _ _ _ [(0, _), (1, _), (2, _), (3, _), (4, _), (5, _)] _ _ _
    refine J_aload_n dX5_rank_46 rfl rfl ?_
    refine J_getR dX5_rank_47 ck_5 fw_X5_21 rfl sh_69 rr_69_6 ?_
    refine J_iload_n dX5_rank_50 rfl rfl ?_
    refine J_iload_n dX5_rank_51 rfl rfl ?_
    refine J_iaddN dX5_rank_52 h.1 ?_
    replace h := h.2
    refine J_iload dX5_rank_53 rfl ?_
    refine J_iast dX5_rank_55 sh_72 h.1.1 h.1.2 ?_
    replace h := h.2 _ rfl
    exact h
set_option maxRecDepth 20000 in
set_option maxHeartbeats 2000000 in
theorem bk_X5_rank_56 {d : Nat} {I : HI} {Q : Option AV → AH → Prop} {a1 : Int} {a2 : Int} {a3 : Int} {a4 : Int} {a5 : Int}  (h : ((a4 ≤ 1 → (-2147483648 ≤ a2 + a4 ∧ a2 + a4 ≤ 2147483647) ∧ ((0 : Int) ≤ (a2 + a4) ∧ (a2 + a4 : Int) < 244) ∧ (∀ I1 : HI, I1 = up I 73 (a2 + a4).toNat a3 → (-2147483648 ≤ a3 + 1 ∧ a3 + 1 ≤ 2147483647) ∧ J none mX5_rank (d + 1) 0 0 14 [(0, vR 69), (1, vI a1), (2, vI a2), (3, vI (a3 + 1))] [] (mk I1) Q)) ∧ (¬ (a4 ≤ 1) → (-2147483648 ≤ a2 + a4 ∧ a2 + a4 ≤ 2147483647) ∧ (-2147483648 ≤ (a2 + a4) - 1 ∧ (a2 + a4) - 1 ≤ 2147483647) ∧ ((0 : Int) ≤ ((a2 + a4) - 1) ∧ ((a2 + a4) - 1 : Int) < 244) ∧ (-2147483648 ≤ a2 + (I 73 ((a2 + a4) - 1).toNat) ∧ a2 + (I 73 ((a2 + a4) - 1).toNat) ≤ 2147483647) ∧ ((0 : Int) ≤ (a2 + (I 73 ((a2 + a4) - 1).toNat)) ∧ (a2 + (I 73 ((a2 + a4) - 1).toNat) : Int) < 244) ∧ (((I 72 (a2 + (I 73 ((a2 + a4) - 1).toNat)).toNat) ≤ a5 → (-2147483648 ≤ a2 + a4 ∧ a2 + a4 ≤ 2147483647) ∧ ((0 : Int) ≤ (a2 + a4) ∧ (a2 + a4 : Int) < 244) ∧ (∀ I2 : HI, I2 = up I 73 (a2 + a4).toNat a3 → (-2147483648 ≤ a3 + 1 ∧ a3 + 1 ≤ 2147483647) ∧ J none mX5_rank (d + 1) 0 0 14 [(0, vR 69), (1, vI a1), (2, vI a2), (3, vI (a3 + 1))] [] (mk I2) Q)) ∧ (¬ ((I 72 (a2 + (I 73 ((a2 + a4) - 1).toNat)).toNat) ≤ a5) → (-2147483648 ≤ a2 + a4 ∧ a2 + a4 ≤ 2147483647) ∧ (-2147483648 ≤ a2 + a4 ∧ a2 + a4 ≤ 2147483647) ∧ (-2147483648 ≤ (a2 + a4) - 1 ∧ (a2 + a4) - 1 ≤ 2147483647) ∧ ((0 : Int) ≤ ((a2 + a4) - 1) ∧ ((a2 + a4) - 1 : Int) < 244) ∧ ((0 : Int) ≤ (a2 + a4) ∧ (a2 + a4 : Int) < 244) ∧ (∀ I3 : HI, I3 = up I 73 (a2 + a4).toNat (I 73 ((a2 + a4) - 1).toNat) → (-2147483648 ≤ a4 + (-1) ∧ a4 + (-1) ≤ 2147483647) ∧ J none mX5_rank (d + 1) 0 0 56 [(0, vR 69), (1, vI a1), (2, vI a2), (3, vI a3), (4, vI (a4 + (-1))), (5, vI a5)] [] (mk I3) Q)))))) : J none mX5_rank (d + 1) 0 0 56 [(0, vR 69), (1, vI a1), (2, vI a2), (3, vI a3), (4, vI a4), (5, vI a5)] [] (mk I) Q := by
  refine J_iload dX5_rank_56 rfl ?_
  refine J_iconst dX5_rank_58 (ii_c rfl) ?_
  refine J_ic_le (tgt := 111) dX5_rank_59 (by decide) (fun c => ?_) (fun c => ?_)
  · replace h := h.1 c
    refine J_aload_n dX5_rank_111 rfl rfl ?_
    refine J_getR dX5_rank_112 ck_5 fw_X5_24 rfl sh_69 rr_69_7 ?_
    refine J_iload_n dX5_rank_115 rfl rfl ?_
    refine J_iload dX5_rank_116 rfl ?_
    refine J_iaddN dX5_rank_118 h.1 ?_
    replace h := h.2
    refine J_iload_n dX5_rank_119 rfl rfl ?_
    refine J_iast dX5_rank_120 sh_73 h.1.1 h.1.2 ?_
    replace h := h.2 _ rfl
    refine J_iincN dX5_rank_121 rfl (by decide) h.1 ?_
    replace h := h.2
    change J _ _ _ _ _ _ [(0, _), (1, _), (2, _), (3, _), (4, _), (5, _)] _ _ _
    refine J_goto (tgt := 14) dX5_rank_124 (by decide) ?_
    exact J_loc (ls_sub [0, 1, 2, 3] rfl) h
  · replace h := h.2 c
    refine J_aload_n dX5_rank_62 rfl rfl ?_
    refine J_getR dX5_rank_63 ck_5 fw_X5_21 rfl sh_69 rr_69_6 ?_
    refine J_iload_n dX5_rank_66 rfl rfl ?_
    refine J_aload_n dX5_rank_67 rfl rfl ?_
    refine J_getR dX5_rank_68 ck_5 fw_X5_24 rfl sh_69 rr_69_7 ?_
    refine J_iload_n dX5_rank_71 rfl rfl ?_
    refine J_iload dX5_rank_72 rfl ?_
    refine J_iaddN dX5_rank_74 h.1 ?_
    replace h := h.2
    refine J_iconst dX5_rank_75 (ii_c rfl) ?_
    refine J_isubN dX5_rank_76 h.1 ?_
    replace h := h.2
    refine J_iald dX5_rank_77 sh_73 h.1.1 h.1.2 ?_
    replace h := h.2
    refine J_iaddN dX5_rank_78 h.1 ?_
    replace h := h.2
    refine J_iald dX5_rank_79 sh_72 h.1.1 h.1.2 ?_
    replace h := h.2
    refine J_iload dX5_rank_80 rfl ?_
    refine J_ic_le (tgt := 111) dX5_rank_82 (by decide) (fun c => ?_) (fun c => ?_)
    · replace h := h.1 c
      refine J_aload_n dX5_rank_111 rfl rfl ?_
      refine J_getR dX5_rank_112 ck_5 fw_X5_24 rfl sh_69 rr_69_7 ?_
      refine J_iload_n dX5_rank_115 rfl rfl ?_
      refine J_iload dX5_rank_116 rfl ?_
      refine J_iaddN dX5_rank_118 h.1 ?_
      replace h := h.2
      refine J_iload_n dX5_rank_119 rfl rfl ?_
      refine J_iast dX5_rank_120 sh_73 h.1.1 h.1.2 ?_
      replace h := h.2 _ rfl
      refine J_iincN dX5_rank_121 rfl (by decide) h.1 ?_
      replace h := h.2
      change J _ _ _ _ _ _ [(0, _), (1, _), (2, _), (3, _), (4, _), (5, _)] _ _ _
      refine J_goto (tgt := 14) dX5_rank_124 (by decide) ?_
      exact J_loc (ls_sub [0, 1, 2, 3] rfl) h
    · replace h := h.2 c
      refine J_aload_n dX5_rank_85 rfl rfl ?_
      refine J_getR dX5_rank_86 ck_5 fw_X5_24 rfl sh_69 rr_69_7 ?_
      refine J_iload_n dX5_rank_89 rfl rfl ?_
      refine J_iload dX5_rank_90 rfl ?_
      refine J_iaddN dX5_rank_92 h.1 ?_
      replace h := h.2
      refine J_aload_n dX5_rank_93 rfl rfl ?_
      refine J_getR dX5_rank_94 ck_5 fw_X5_24 rfl sh_69 rr_69_7 ?_
      refine J_iload_n dX5_rank_97 rfl rfl ?_
      refine J_iload dX5_rank_98 rfl ?_
      refine J_iaddN dX5_rank_100 h.1 ?_
      replace h := h.2
      refine J_iconst dX5_rank_101 (ii_c rfl) ?_
      refine J_isubN dX5_rank_102 h.1 ?_
      replace h := h.2
      refine J_iald dX5_rank_103 sh_73 h.1.1 h.1.2 ?_
      replace h := h.2
      refine J_iast dX5_rank_104 sh_73 h.1.1 h.1.2 ?_
      replace h := h.2 _ rfl
      refine J_iincN dX5_rank_105 rfl (by decide) h.1 ?_
      replace h := h.2
      change J _ _ _ _ _ _ [(0, _), (1, _), (2, _), (3, _), (4, _), (5, _)] _ _ _
      refine J_goto (tgt := 56) dX5_rank_108 (by decide) ?_
      exact h
set_option maxRecDepth 20000 in
set_option maxHeartbeats 2000000 in
theorem bk_X5_routesOf_0 {d : Nat} {I : HI} {Q : Option AV → AH → Prop} {a1 : Int}  (h : CV mX5_prepare d [vR 69] I (fun I1 => ((0 : Int) ≤ a1 ∧ (a1 : Int) < 4) ∧ Q (some (vI (I1 71 a1.toNat))) (mk I1))) : J none mX5_routesOf (d + 1) 0 0 0 [(0, vR 69), (1, vI a1)] [] (mk I) Q := by
  refine J_aload_n dX5_routesOf_0 rfl rfl ?_
  refine J_callV (as := []) (mc1 := 0) (ms1 := 0) (mc := 0) (ms := 0) dX5_routesOf_1 mv_X5_prepare lk_X5_136 sh_69 rfl (Nat.le_of_ble_eq_true rfl) (Nat.le_of_ble_eq_true rfl) h (fun r σ hq _ => ?_)
  obtain ⟨I1, rfl, rfl, h⟩ := hq
  change J _ _ _ _ _ _ _ [] _ _
  refine J_aload_n dX5_routesOf_4 rfl rfl ?_
  refine J_getR dX5_routesOf_5 ck_5 fw_X5_17 rfl sh_69 rr_69_5 ?_
  refine J_iload_n dX5_routesOf_8 rfl rfl ?_
  refine J_iald dX5_routesOf_9 sh_71 h.1.1 h.1.2 ?_
  replace h := h.2
  exact J_reti dX5_routesOf_10 rfl h
set_option maxRecDepth 20000 in
set_option maxHeartbeats 2000000 in
theorem bk_X5_trackOf_0 {d : Nat} {I : HI} {Q : Option AV → AH → Prop} {a1 : Int} {a2 : Int}  (h : ((a2 ≠ 0 → (-2147483648 ≤ a1 * 20 ∧ a1 * 20 ≤ 2147483647) ∧ (-2147483648 ≤ a2 - 1 ∧ a2 - 1 ≤ 2147483647) ∧ (-2147483648 ≤ (a1 * 20) + (oD (a2 - 1) 3) ∧ (a1 * 20) + (oD (a2 - 1) 3) ≤ 2147483647) ∧ ((0 : Int) ≤ ((a1 * 20) + (oD (a2 - 1) 3)) ∧ ((a1 * 20) + (oD (a2 - 1) 3) : Int) < 80) ∧ Q (some (vR (77 + 5 * ((a1 * 20) + (oD (a2 - 1) 3)).toNat))) (mk I)) ∧ (a2 = 0 → ((0 : Int) ≤ a1 ∧ (a1 : Int) < 4) ∧ Q (some (vR (37 + 5 * a1.toNat))) (mk I)))) : J none mX5_trackOf (d + 1) 0 0 0 [(0, vR 69), (1, vI a1), (2, vI a2)] [] (mk I) Q := by
  refine J_iload_n dX5_trackOf_0 rfl rfl ?_
  refine J_if_ne (tgt := 16) dX5_trackOf_1 (by decide) (fun c => ?_) (fun c => ?_)
  · replace h := h.1 c
    refine J_aload_n dX5_trackOf_16 rfl rfl ?_
    refine J_getR dX5_trackOf_17 ck_5 fw_X5_13 rfl sh_69 rr_69_4 ?_
    refine J_iload_n dX5_trackOf_20 rfl rfl ?_
    refine J_bipush dX5_trackOf_21 (ii_c rfl) (by decide) ?_
    refine J_imulN dX5_trackOf_23 h.1 ?_
    replace h := h.2
    refine J_iload_n dX5_trackOf_24 rfl rfl ?_
    refine J_iconst dX5_trackOf_25 (ii_c rfl) ?_
    refine J_isubN dX5_trackOf_26 h.1 ?_
    replace h := h.2
    refine J_iconst dX5_trackOf_27 (ii_c rfl) ?_
    refine J_idiv dX5_trackOf_28 (by decide) ?_
    refine J_iaddN dX5_trackOf_29 h.1 ?_
    replace h := h.2
    have hb1 := h.1
    refine J_aald dX5_trackOf_30 sh_70 h.1.1 h.1.2 (RRo h.1.1 h.1.2) ?_
    replace h := h.2
    exact J_reta dX5_trackOf_31 rfl h
  · replace h := h.2 c
    refine J_aload_n dX5_trackOf_4 rfl rfl ?_
    refine J_getR dX5_trackOf_5 ck_5 fw_X5_41 rfl sh_69 rr_69_1 ?_
    refine J_getR dX5_trackOf_8 ck_9 fw_X5_139 rfl sh_32 rr_32_4 ?_
    refine J_iload_n dX5_trackOf_11 rfl rfl ?_
    have hb2 := h.1
    refine J_aald dX5_trackOf_12 sh_36 h.1.1 h.1.2 (RRw h.1.1 h.1.2) ?_
    replace h := h.2
    refine J_goto (tgt := 31) dX5_trackOf_13 (by decide) ?_
    exact J_reta dX5_trackOf_31 rfl h
set_option maxRecDepth 20000 in
set_option maxHeartbeats 2000000 in
theorem bk_X5_lateOf_0 {d : Nat} {I : HI} {Q : Option AV → AH → Prop} {a1 : Int}  (h : ((a1 ≠ 0 → (-2147483648 ≤ a1 - 1 ∧ a1 - 1 ≤ 2147483647) ∧ (-2147483648 ≤ (oM (a1 - 1) 3) * 5 ∧ (oM (a1 - 1) 3) * 5 ≤ 2147483647) ∧ Q (some (vI ((oM (a1 - 1) 3) * 5))) (mk I)) ∧ (a1 = 0 → Q (some (vI 0)) (mk I)))) : J none mX5_lateOf (d + 1) 0 0 0 [(0, vR 69), (1, vI a1)] [] (mk I) Q := by
  refine J_iload_n dX5_lateOf_0 rfl rfl ?_
  refine J_if_ne (tgt := 8) dX5_lateOf_1 (by decide) (fun c => ?_) (fun c => ?_)
  · replace h := h.1 c
    refine J_iload_n dX5_lateOf_8 rfl rfl ?_
    refine J_iconst dX5_lateOf_9 (ii_c rfl) ?_
    refine J_isubN dX5_lateOf_10 h.1 ?_
    replace h := h.2
    refine J_iconst dX5_lateOf_11 (ii_c rfl) ?_
    refine J_irem dX5_lateOf_12 (by decide) ?_
    refine J_iconst dX5_lateOf_13 (ii_c rfl) ?_
    refine J_imulN dX5_lateOf_14 h.1 ?_
    replace h := h.2
    exact J_reti dX5_lateOf_15 rfl h
  · replace h := h.2 c
    refine J_iconst dX5_lateOf_4 (ii_c rfl) ?_
    refine J_goto (tgt := 15) dX5_lateOf_5 (by decide) ?_
    exact J_reti dX5_lateOf_15 rfl h
set_option maxRecDepth 20000 in
set_option maxHeartbeats 2000000 in
theorem bk_X5_endOf_0 {d : Nat} {I : HI} {Q : Option AV → AH → Prop} {a1 : Int} {a2 : Int}  (h : ((a2 ≠ 0 → (-2147483648 ≤ a1 * 61 ∧ a1 * 61 ≤ 2147483647) ∧ (-2147483648 ≤ (a1 * 61) + a2 ∧ (a1 * 61) + a2 ≤ 2147483647) ∧ ((0 : Int) ≤ ((a1 * 61) + a2) ∧ ((a1 * 61) + a2 : Int) < 244) ∧ Q (some (vI (I 72 ((a1 * 61) + a2).toNat))) (mk I)) ∧ (a2 = 0 → ((0 : Int) ≤ a1 ∧ (a1 : Int) < 4) ∧ Q (some (vI (I (37 + 5 * a1.toNat) 5))) (mk I)))) : J none mX5_endOf (d + 1) 0 0 0 [(0, vR 69), (1, vI a1), (2, vI a2)] [] (mk I) Q := by
  refine J_iload_n dX5_endOf_0 rfl rfl ?_
  refine J_if_ne (tgt := 19) dX5_endOf_1 (by decide) (fun c => ?_) (fun c => ?_)
  · replace h := h.1 c
    refine J_aload_n dX5_endOf_19 rfl rfl ?_
    refine J_getR dX5_endOf_20 ck_5 fw_X5_21 rfl sh_69 rr_69_6 ?_
    refine J_iload_n dX5_endOf_23 rfl rfl ?_
    refine J_bipush dX5_endOf_24 (ii_c rfl) (by decide) ?_
    refine J_imulN dX5_endOf_26 h.1 ?_
    replace h := h.2
    refine J_iload_n dX5_endOf_27 rfl rfl ?_
    refine J_iaddN dX5_endOf_28 h.1 ?_
    replace h := h.2
    refine J_iald dX5_endOf_29 sh_72 h.1.1 h.1.2 ?_
    replace h := h.2
    exact J_reti dX5_endOf_30 rfl h
  · replace h := h.2 c
    refine J_aload_n dX5_endOf_4 rfl rfl ?_
    refine J_getR dX5_endOf_5 ck_5 fw_X5_41 rfl sh_69 rr_69_1 ?_
    refine J_getR dX5_endOf_8 ck_9 fw_X5_139 rfl sh_32 rr_32_4 ?_
    refine J_iload_n dX5_endOf_11 rfl rfl ?_
    have hb1 := h.1
    refine J_aald dX5_endOf_12 sh_36 h.1.1 h.1.2 (RRw h.1.1 h.1.2) ?_
    replace h := h.2
    refine J_getI dX5_endOf_13 ck_8 fw_X5_129 rfl ((TRw hb1.1 hb1.2).1) ?_
    refine J_goto (tgt := 30) dX5_endOf_16 (by decide) ?_
    exact J_reti dX5_endOf_30 rfl h
set_option maxRecDepth 20000 in
set_option maxHeartbeats 2000000 in
theorem bk_X5_optionBits_0 {d : Nat} {I : HI} {Q : Option AV → AH → Prop} {a1 : Int}  (h : ((0 : Int) ≤ a1 ∧ (a1 : Int) < 4) ∧ (-2147483648 ≤ 3 * (I 71 a1.toNat) ∧ 3 * (I 71 a1.toNat) ≤ 2147483647) ∧ (-9223372036854775808 ≤ (lSl 1 (3 * (I 71 a1.toNat))) - 1 ∧ (lSl 1 (3 * (I 71 a1.toNat))) - 1 ≤ 9223372036854775807) ∧ Q (some (vL (lSl ((lSl 1 (3 * (I 71 a1.toNat))) - 1) 1))) (mk I)) : J none mX5_optionBits (d + 1) 0 0 0 [(0, vR 69), (1, vI a1)] [] (mk I) Q := by
  refine J_lconst 1 dX5_optionBits_0 (ll_c rfl) (by decide) ?_
  refine J_iconst dX5_optionBits_1 (ii_c rfl) ?_
  refine J_aload_n dX5_optionBits_2 rfl rfl ?_
  refine J_getR dX5_optionBits_3 ck_5 fw_X5_17 rfl sh_69 rr_69_5 ?_
  refine J_iload_n dX5_optionBits_6 rfl rfl ?_
  refine J_iald dX5_optionBits_7 sh_71 h.1.1 h.1.2 ?_
  replace h := h.2
  refine J_imulN dX5_optionBits_8 h.1 ?_
  replace h := h.2
  refine J_lshl dX5_optionBits_9 ?_
  refine J_lconst 1 dX5_optionBits_10 (ll_c rfl) (by decide) ?_
  refine J_lsubN dX5_optionBits_11 h.1 ?_
  replace h := h.2
  refine J_iconst dX5_optionBits_12 (ii_c rfl) ?_
  refine J_lshl dX5_optionBits_13 ?_
  exact J_retl dX5_optionBits_14 rfl h
set_option maxRecDepth 20000 in
set_option maxHeartbeats 2000000 in
theorem bk_X5_fitting_0 {d : Nat} {I : HI} {Q : Option AV → AH → Prop} {a1 : Int} {a2 : Int} {a3 : Int} {a4 : Int}  (h : ((a3 ≤ a1 → CI mX10_pairOf d [vI a3, vI a1] I (fun x1 I1 => (-2147483648 ≤ x1 * 61 ∧ x1 * 61 ≤ 2147483647) ∧ (-2147483648 ≤ (x1 * 61) + a2 ∧ (x1 * 61) + a2 ≤ 2147483647) ∧ J none mX5_fitting (d + 1) 0 0 86 [(0, vR 69), (1, vI a1), (2, vI a2), (3, vI a3), (4, vL a4), (6, vI 0), (7, vI x1), (8, vI ((x1 * 61) + a2)), (9, vL a4), (11, vL 0), (13, vI 0)] [] (mk I1) Q)) ∧ (¬ (a3 ≤ a1) → CI mX10_pairOf d [vI a1, vI a3] I (fun x2 I2 => (-2147483648 ≤ x2 * 61 ∧ x2 * 61 ≤ 2147483647) ∧ (-2147483648 ≤ (x2 * 61) + a2 ∧ (x2 * 61) + a2 ≤ 2147483647) ∧ ((0 : Int) ≤ ((x2 * 61) + a2) ∧ ((x2 * 61) + a2 : Int) < 366) ∧ (((lA a4 (lX (I2 75 ((x2 * 61) + a2).toNat) (-1))) ≠ 0 → J none mX5_fitting (d + 1) 0 0 86 [(0, vR 69), (1, vI a1), (2, vI a2), (3, vI a3), (4, vL a4), (6, vI 1), (7, vI x2), (8, vI ((x2 * 61) + a2)), (9, vL a4), (11, vL 0), (13, vI 0)] [] (mk I2) Q) ∧ ((lA a4 (lX (I2 75 ((x2 * 61) + a2).toNat) (-1))) = 0 → ((0 : Int) ≤ ((x2 * 61) + a2) ∧ ((x2 * 61) + a2 : Int) < 366) ∧ Q (some (vL (lA a4 (I2 76 ((x2 * 61) + a2).toNat)))) (mk I2))))))) : J none mX5_fitting (d + 1) 0 0 0 [(0, vR 69), (1, vI a1), (2, vI a2), (3, vI a3), (4, vL a4)] [] (mk I) Q := by
  refine J_iload_n dX5_fitting_0 rfl rfl ?_
  refine J_iload_n dX5_fitting_1 rfl rfl ?_
  refine J_ic_ge (tgt := 9) dX5_fitting_2 (by decide) (fun c => ?_) (fun c => ?_)
  · replace h := h.1 c
    refine J_iconst dX5_fitting_9 (ii_c rfl) ?_
    refine J_istore dX5_fitting_10 (by decide) ?_
    change J _ _ _ _ _ _ [(0, _), (1, _), (2, _), (3, _), (4, _), (6, _)] _ _ _
    refine J_iload dX5_fitting_12 rfl ?_
    refine J_if_eq (tgt := 25) dX5_fitting_14 (by decide) (fun _ => ?_) (fun c => absurd (by decide) c)
    refine J_iload_n dX5_fitting_25 rfl rfl ?_
    refine J_iload_n dX5_fitting_26 rfl rfl ?_
    refine J_callSN (as := [_, _]) (mc1 := 0) (ms1 := 0) (mc := 0) (ms := 0) dX5_fitting_27 ms_X10_pairOf (fun _ _ _ hk => hk.2.2.2.2.2.1) rfl (Nat.le_of_ble_eq_true rfl) (Nat.le_of_ble_eq_true rfl) h (fun r σ hq _ => ?_)
    obtain ⟨x1, I1, rfl, rfl, h⟩ := hq
    change J _ _ _ _ _ _ _ [vI x1] _ _
    refine J_istore dX5_fitting_30 (by decide) ?_
    change J _ _ _ _ _ _ [(0, _), (1, _), (2, _), (3, _), (4, _), (6, _), (7, _)] _ _ _
    refine J_iload dX5_fitting_32 rfl ?_
    refine J_bipush dX5_fitting_34 (ii_c rfl) (by decide) ?_
    refine J_imulN dX5_fitting_36 h.1 ?_
    replace h := h.2
    refine J_iload_n dX5_fitting_37 rfl rfl ?_
    refine J_iaddN dX5_fitting_38 h.1 ?_
    replace h := h.2
    refine J_istore dX5_fitting_39 (by decide) ?_
    change J _ _ _ _ _ _ [(0, _), (1, _), (2, _), (3, _), (4, _), (6, _), (7, _), (8, _)] _ _ _
    refine J_iload dX5_fitting_41 rfl ?_
    refine J_if_eq (tgt := 76) dX5_fitting_43 (by decide) (fun _ => ?_) (fun c => absurd (by decide) c)
    refine J_lload dX5_fitting_76 rfl ?_
    refine J_lstore dX5_fitting_78 (by decide) ?_
    change J _ _ _ _ _ _ [(0, _), (1, _), (2, _), (3, _), (4, _), (6, _), (7, _), (8, _), (9, _)] _ _ _
    refine J_lconst 0 dX5_fitting_80 (ll_c rfl) (by decide) ?_
    refine J_lstore dX5_fitting_81 (by decide) ?_
    change J _ _ _ _ _ _ [(0, _), (1, _), (2, _), (3, _), (4, _), (6, _), (7, _), (8, _), (9, _), (11, _)] _ _ _
    refine J_iconst dX5_fitting_83 (ii_c rfl) ?_
    refine J_istore dX5_fitting_84 (by decide) ?_
    change J _ _ _ _ _ _ [(0, _), (1, _), (2, _), (3, _), (4, _), (6, _), (7, _), (8, _), (9, _), (11, _), (13, _)] _ _ _
    exact h
  · replace h := h.2 c
    refine J_iconst dX5_fitting_5 (ii_c rfl) ?_
    refine J_goto (tgt := 10) dX5_fitting_6 (by decide) ?_
    refine J_istore dX5_fitting_10 (by decide) ?_
    change J _ _ _ _ _ _ [(0, _), (1, _), (2, _), (3, _), (4, _), (6, _)] _ _ _
    refine J_iload dX5_fitting_12 rfl ?_
    refine J_if_eq (tgt := 25) dX5_fitting_14 (by decide) (fun c => absurd c (by decide)) (fun _ => ?_)
    refine J_iload_n dX5_fitting_17 rfl rfl ?_
    refine J_iload_n dX5_fitting_18 rfl rfl ?_
    refine J_callSN (as := [_, _]) (mc1 := 0) (ms1 := 0) (mc := 0) (ms := 0) dX5_fitting_19 ms_X10_pairOf (fun _ _ _ hk => hk.2.2.2.2.2.1) rfl (Nat.le_of_ble_eq_true rfl) (Nat.le_of_ble_eq_true rfl) h (fun r σ hq _ => ?_)
    obtain ⟨x2, I2, rfl, rfl, h⟩ := hq
    change J _ _ _ _ _ _ _ [vI x2] _ _
    refine J_goto (tgt := 30) dX5_fitting_22 (by decide) ?_
    refine J_istore dX5_fitting_30 (by decide) ?_
    change J _ _ _ _ _ _ [(0, _), (1, _), (2, _), (3, _), (4, _), (6, _), (7, _)] _ _ _
    refine J_iload dX5_fitting_32 rfl ?_
    refine J_bipush dX5_fitting_34 (ii_c rfl) (by decide) ?_
    refine J_imulN dX5_fitting_36 h.1 ?_
    replace h := h.2
    refine J_iload_n dX5_fitting_37 rfl rfl ?_
    refine J_iaddN dX5_fitting_38 h.1 ?_
    replace h := h.2
    refine J_istore dX5_fitting_39 (by decide) ?_
    change J _ _ _ _ _ _ [(0, _), (1, _), (2, _), (3, _), (4, _), (6, _), (7, _), (8, _)] _ _ _
    refine J_iload dX5_fitting_41 rfl ?_
    refine J_if_eq (tgt := 76) dX5_fitting_43 (by decide) (fun c => absurd c (by decide)) (fun _ => ?_)
    refine J_lload dX5_fitting_46 rfl ?_
    refine J_aload_n dX5_fitting_48 rfl rfl ?_
    refine J_getR dX5_fitting_49 ck_5 fw_X5_30 rfl sh_69 rr_69_9 ?_
    refine J_iload dX5_fitting_52 rfl ?_
    refine J_lald dX5_fitting_54 sh_75 h.1.1 h.1.2 ?_
    replace h := h.2
    refine J_ldc2 (-1) dX5_fitting_55 kw_X5_143 (ll_c rfl) ?_
    refine J_lxor dX5_fitting_58 ?_
    refine J_land dX5_fitting_59 ?_
    refine J_lconst 0 dX5_fitting_60 (ll_c rfl) (by decide) ?_
    refine J_lcmp dX5_fitting_61 ?_
    refine J_if_ne (tgt := 76) dX5_fitting_62 (by decide) (fun c => ?_) (fun c => ?_)
    · replace h := h.1 (fun w => c (lC_eq.mpr w))
      refine J_lload dX5_fitting_76 rfl ?_
      refine J_lstore dX5_fitting_78 (by decide) ?_
      change J _ _ _ _ _ _ [(0, _), (1, _), (2, _), (3, _), (4, _), (6, _), (7, _), (8, _), (9, _)] _ _ _
      refine J_lconst 0 dX5_fitting_80 (ll_c rfl) (by decide) ?_
      refine J_lstore dX5_fitting_81 (by decide) ?_
      change J _ _ _ _ _ _ [(0, _), (1, _), (2, _), (3, _), (4, _), (6, _), (7, _), (8, _), (9, _), (11, _)] _ _ _
      refine J_iconst dX5_fitting_83 (ii_c rfl) ?_
      refine J_istore dX5_fitting_84 (by decide) ?_
      change J _ _ _ _ _ _ [(0, _), (1, _), (2, _), (3, _), (4, _), (6, _), (7, _), (8, _), (9, _), (11, _), (13, _)] _ _ _
      exact h
    · replace h := h.2 (lC_eq.mp c)
      refine J_lload dX5_fitting_65 rfl ?_
      refine J_aload_n dX5_fitting_67 rfl rfl ?_
      refine J_getR dX5_fitting_68 ck_5 fw_X5_34 rfl sh_69 rr_69_10 ?_
      refine J_iload dX5_fitting_71 rfl ?_
      refine J_lald dX5_fitting_73 sh_76 h.1.1 h.1.2 ?_
      replace h := h.2
      refine J_land dX5_fitting_74 ?_
      exact J_retl dX5_fitting_75 rfl h
set_option maxRecDepth 20000 in
set_option maxHeartbeats 2000000 in
theorem bk_X5_fitting_86 {d : Nat} {I : HI} {Q : Option AV → AH → Prop} {a1 : Int} {a2 : Int} {a3 : Int} {a4 : Int} {a6 : Int} {a7 : Int} {a8 : Int} {a9 : Int} {a11 : Int} {a13 : Int}  (h : ((61 ≤ a13 → Q (some (vL a11)) (mk I)) ∧ (¬ (61 ≤ a13) → ((a9 = 0 → Q (some (vL a11)) (mk I)) ∧ (¬ (a9 = 0) → CI mJ13_numberOfTrailingZeros_95d88 d [vL a9] I (fun x1 I1 => (-9223372036854775808 ≤ a9 - 1 ∧ a9 - 1 ≤ 9223372036854775807) ∧ ((a6 = 0 → CI mX5_judged d [vR 69, vI a3, vI x1, vI a1, vI a2] I1 (fun x2 I2 => ((x2 = 0 → (-2147483648 ≤ a13 + 1 ∧ a13 + 1 ≤ 2147483647) ∧ J none mX5_fitting (d + 1) 0 0 86 [(0, vR 69), (1, vI a1), (2, vI a2), (3, vI a3), (4, vL a4), (6, vI a6), (7, vI a7), (8, vI a8), (9, vL (lA a9 (a9 - 1))), (11, vL (lO a11 0)), (13, vI (a13 + 1))] [] (mk I2) Q) ∧ (¬ (x2 = 0) → (-2147483648 ≤ a13 + 1 ∧ a13 + 1 ≤ 2147483647) ∧ J none mX5_fitting (d + 1) 0 0 86 [(0, vR 69), (1, vI a1), (2, vI a2), (3, vI a3), (4, vL a4), (6, vI a6), (7, vI a7), (8, vI a8), (9, vL (lA a9 (a9 - 1))), (11, vL (lO a11 (lSl 1 x1))), (13, vI (a13 + 1))] [] (mk I2) Q)))) ∧ (¬ (a6 = 0) → CI mX5_judged d [vR 69, vI a1, vI a2, vI a3, vI x1] I1 (fun x3 I3 => ((x3 = 0 → (-2147483648 ≤ a13 + 1 ∧ a13 + 1 ≤ 2147483647) ∧ J none mX5_fitting (d + 1) 0 0 86 [(0, vR 69), (1, vI a1), (2, vI a2), (3, vI a3), (4, vL a4), (6, vI a6), (7, vI a7), (8, vI a8), (9, vL (lA a9 (a9 - 1))), (11, vL (lO a11 0)), (13, vI (a13 + 1))] [] (mk I3) Q) ∧ (¬ (x3 = 0) → (-2147483648 ≤ a13 + 1 ∧ a13 + 1 ≤ 2147483647) ∧ J none mX5_fitting (d + 1) 0 0 86 [(0, vR 69), (1, vI a1), (2, vI a2), (3, vI a3), (4, vL a4), (6, vI a6), (7, vI a7), (8, vI a8), (9, vL (lA a9 (a9 - 1))), (11, vL (lO a11 (lSl 1 x1))), (13, vI (a13 + 1))] [] (mk I3) Q))))))))))) : J none mX5_fitting (d + 1) 0 0 86 [(0, vR 69), (1, vI a1), (2, vI a2), (3, vI a3), (4, vL a4), (6, vI a6), (7, vI a7), (8, vI a8), (9, vL a9), (11, vL a11), (13, vI a13)] [] (mk I) Q := by
  refine J_iload dX5_fitting_86 rfl ?_
  refine J_bipush dX5_fitting_88 (ii_c rfl) (by decide) ?_
  refine J_ic_ge (tgt := 168) dX5_fitting_90 (by decide) (fun c => ?_) (fun c => ?_)
  · replace h := h.1 c
    refine J_lload dX5_fitting_168 rfl ?_
    exact J_retl dX5_fitting_170 rfl h
  · replace h := h.2 c
    refine J_lload dX5_fitting_93 rfl ?_
    refine J_lconst 0 dX5_fitting_95 (ll_c rfl) (by decide) ?_
    refine J_lcmp dX5_fitting_96 ?_
    refine J_if_eq (tgt := 168) dX5_fitting_97 (by decide) (fun c => ?_) (fun c => ?_)
    · replace h := h.1 (lC_eq.mp c)
      refine J_lload dX5_fitting_168 rfl ?_
      exact J_retl dX5_fitting_170 rfl h
    · replace h := h.2 (fun w => c (lC_eq.mpr w))
      refine J_lload dX5_fitting_100 rfl ?_
      refine J_callS (as := [_]) (mc1 := 0) (ms1 := 0) (mc := 0) (ms := 0) dX5_fitting_102 ms_J13_numberOfTrailingZeros_95d88 lk_X5_145 rfl (Nat.le_of_ble_eq_true rfl) (Nat.le_of_ble_eq_true rfl) h (fun r σ hq _ => ?_)
      obtain ⟨x1, I1, rfl, rfl, h⟩ := hq
      change J _ _ _ _ _ _ _ [vI x1] _ _
      refine J_istore dX5_fitting_105 (by decide) ?_
      change J _ _ _ _ _ _ [(0, _), (1, _), (2, _), (3, _), (4, _), (6, _), (7, _), (8, _), (9, _), (11, _), (13, _), (14, _)] _ _ _
      refine J_lload dX5_fitting_107 rfl ?_
      refine J_lload dX5_fitting_109 rfl ?_
      refine J_lconst 1 dX5_fitting_111 (ll_c rfl) (by decide) ?_
      refine J_lsubN dX5_fitting_112 h.1 ?_
      replace h := h.2
      refine J_land dX5_fitting_113 ?_
      refine J_lstore dX5_fitting_114 (by decide) ?_
      change J _ _ _ _ _ _ [(0, _), (1, _), (2, _), (3, _), (4, _), (6, _), (7, _), (8, _), (9, _), (11, _), (13, _), (14, _)] _ _ _
      refine J_iload dX5_fitting_116 rfl ?_
      refine J_if_eq (tgt := 133) dX5_fitting_118 (by decide) (fun c => ?_) (fun c => ?_)
      · replace h := h.1 c
        refine J_aload_n dX5_fitting_133 rfl rfl ?_
        refine J_iload_n dX5_fitting_134 rfl rfl ?_
        refine J_iload dX5_fitting_135 rfl ?_
        refine J_iload_n dX5_fitting_137 rfl rfl ?_
        refine J_iload_n dX5_fitting_138 rfl rfl ?_
        refine J_callV (as := [_, _, _, _]) (mc1 := 0) (ms1 := 0) (mc := 0) (ms := 0) dX5_fitting_139 mv_X5_judged lk_X5_151 sh_69 rfl (Nat.le_of_ble_eq_true rfl) (Nat.le_of_ble_eq_true rfl) h (fun r σ hq _ => ?_)
        obtain ⟨x2, I2, rfl, rfl, h⟩ := hq
        change J _ _ _ _ _ _ _ [vI x2] _ _
        refine J_istore dX5_fitting_142 (by decide) ?_
        change J _ _ _ _ _ _ [(0, _), (1, _), (2, _), (3, _), (4, _), (6, _), (7, _), (8, _), (9, _), (11, _), (13, _), (14, _), (15, _)] _ _ _
        refine J_lload dX5_fitting_144 rfl ?_
        refine J_iload dX5_fitting_146 rfl ?_
        refine J_if_eq (tgt := 158) dX5_fitting_148 (by decide) (fun c => ?_) (fun c => ?_)
        · replace h := h.1 c
          refine J_lconst 0 dX5_fitting_158 (ll_c rfl) (by decide) ?_
          refine J_lor dX5_fitting_159 ?_
          refine J_lstore dX5_fitting_160 (by decide) ?_
          change J _ _ _ _ _ _ [(0, _), (1, _), (2, _), (3, _), (4, _), (6, _), (7, _), (8, _), (9, _), (11, _), (13, _), (14, _), (15, _)] _ _ _
          refine J_iincN dX5_fitting_162 rfl (by decide) h.1 ?_
          replace h := h.2
          change J _ _ _ _ _ _ [(0, _), (1, _), (2, _), (3, _), (4, _), (6, _), (7, _), (8, _), (9, _), (11, _), (13, _), (14, _), (15, _)] _ _ _
          refine J_goto (tgt := 86) dX5_fitting_165 (by decide) ?_
          exact J_loc (ls_sub [0, 1, 2, 3, 4, 5, 6, 7, 8, 9, 10] rfl) h
        · replace h := h.2 c
          refine J_lconst 1 dX5_fitting_151 (ll_c rfl) (by decide) ?_
          refine J_iload dX5_fitting_152 rfl ?_
          refine J_lshl dX5_fitting_154 ?_
          refine J_goto (tgt := 159) dX5_fitting_155 (by decide) ?_
          refine J_lor dX5_fitting_159 ?_
          refine J_lstore dX5_fitting_160 (by decide) ?_
          change J _ _ _ _ _ _ [(0, _), (1, _), (2, _), (3, _), (4, _), (6, _), (7, _), (8, _), (9, _), (11, _), (13, _), (14, _), (15, _)] _ _ _
          refine J_iincN dX5_fitting_162 rfl (by decide) h.1 ?_
          replace h := h.2
          change J _ _ _ _ _ _ [(0, _), (1, _), (2, _), (3, _), (4, _), (6, _), (7, _), (8, _), (9, _), (11, _), (13, _), (14, _), (15, _)] _ _ _
          refine J_goto (tgt := 86) dX5_fitting_165 (by decide) ?_
          exact J_loc (ls_sub [0, 1, 2, 3, 4, 5, 6, 7, 8, 9, 10] rfl) h
      · replace h := h.2 c
        refine J_aload_n dX5_fitting_121 rfl rfl ?_
        refine J_iload_n dX5_fitting_122 rfl rfl ?_
        refine J_iload_n dX5_fitting_123 rfl rfl ?_
        refine J_iload_n dX5_fitting_124 rfl rfl ?_
        refine J_iload dX5_fitting_125 rfl ?_
        refine J_callV (as := [_, _, _, _]) (mc1 := 0) (ms1 := 0) (mc := 0) (ms := 0) dX5_fitting_127 mv_X5_judged lk_X5_151 sh_69 rfl (Nat.le_of_ble_eq_true rfl) (Nat.le_of_ble_eq_true rfl) h (fun r σ hq _ => ?_)
        obtain ⟨x3, I3, rfl, rfl, h⟩ := hq
        change J _ _ _ _ _ _ _ [vI x3] _ _
        refine J_goto (tgt := 142) dX5_fitting_130 (by decide) ?_
        refine J_istore dX5_fitting_142 (by decide) ?_
        change J _ _ _ _ _ _ [(0, _), (1, _), (2, _), (3, _), (4, _), (6, _), (7, _), (8, _), (9, _), (11, _), (13, _), (14, _), (15, _)] _ _ _
        refine J_lload dX5_fitting_144 rfl ?_
        refine J_iload dX5_fitting_146 rfl ?_
        refine J_if_eq (tgt := 158) dX5_fitting_148 (by decide) (fun c => ?_) (fun c => ?_)
        · replace h := h.1 c
          refine J_lconst 0 dX5_fitting_158 (ll_c rfl) (by decide) ?_
          refine J_lor dX5_fitting_159 ?_
          refine J_lstore dX5_fitting_160 (by decide) ?_
          change J _ _ _ _ _ _ [(0, _), (1, _), (2, _), (3, _), (4, _), (6, _), (7, _), (8, _), (9, _), (11, _), (13, _), (14, _), (15, _)] _ _ _
          refine J_iincN dX5_fitting_162 rfl (by decide) h.1 ?_
          replace h := h.2
          change J _ _ _ _ _ _ [(0, _), (1, _), (2, _), (3, _), (4, _), (6, _), (7, _), (8, _), (9, _), (11, _), (13, _), (14, _), (15, _)] _ _ _
          refine J_goto (tgt := 86) dX5_fitting_165 (by decide) ?_
          exact J_loc (ls_sub [0, 1, 2, 3, 4, 5, 6, 7, 8, 9, 10] rfl) h
        · replace h := h.2 c
          refine J_lconst 1 dX5_fitting_151 (ll_c rfl) (by decide) ?_
          refine J_iload dX5_fitting_152 rfl ?_
          refine J_lshl dX5_fitting_154 ?_
          refine J_goto (tgt := 159) dX5_fitting_155 (by decide) ?_
          refine J_lor dX5_fitting_159 ?_
          refine J_lstore dX5_fitting_160 (by decide) ?_
          change J _ _ _ _ _ _ [(0, _), (1, _), (2, _), (3, _), (4, _), (6, _), (7, _), (8, _), (9, _), (11, _), (13, _), (14, _), (15, _)] _ _ _
          refine J_iincN dX5_fitting_162 rfl (by decide) h.1 ?_
          replace h := h.2
          change J _ _ _ _ _ _ [(0, _), (1, _), (2, _), (3, _), (4, _), (6, _), (7, _), (8, _), (9, _), (11, _), (13, _), (14, _), (15, _)] _ _ _
          refine J_goto (tgt := 86) dX5_fitting_165 (by decide) ?_
          exact J_loc (ls_sub [0, 1, 2, 3, 4, 5, 6, 7, 8, 9, 10] rfl) h
