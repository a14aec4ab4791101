set_option maxRecDepth 20000 in
set_option maxHeartbeats 2000000 in
theorem bk_X1_wordsOf_0 {d : Nat} {I : HI} {Q : Option AV → AH → Prop} {a1 : Int} {a2 : Int} {a3 : Int} {a4 : Int}  (h : CI mX10_pairOf d [vI a1, vI a2] I (fun x1 I1 => (-2147483648 ≤ x1 * 22 ∧ x1 * 22 ≤ 2147483647) ∧ (-2147483648 ≤ (x1 * 22) + a3 ∧ (x1 * 22) + a3 ≤ 2147483647) ∧ (-2147483648 ≤ ((x1 * 22) + a3) * 16 ∧ ((x1 * 22) + a3) * 16 ≤ 2147483647) ∧ (-2147483648 ≤ (((x1 * 22) + a3) * 16) + a4 ∧ (((x1 * 22) + a3) * 16) + a4 ≤ 2147483647) ∧ ((0 : Int) ≤ ((((x1 * 22) + a3) * 16) + a4) ∧ ((((x1 * 22) + a3) * 16) + a4 : Int) < 2112) ∧ (((I1 64 ((((x1 * 22) + a3) * 16) + a4).toNat) ≠ (I1 62 5) → ((0 : Int) ≤ ((((x1 * 22) + a3) * 16) + a4) ∧ ((((x1 * 22) + a3) * 16) + a4 : Int) < 2112) ∧ (∀ I2 : HI, I2 = up I1 64 ((((x1 * 22) + a3) * 16) + a4).toNat (I1 62 5) → ((a3 ≠ 21 → (∀ I3 : HI, I3 = up I2 66 1 0 → ((a3 ≠ 21 → (∀ I4 : HI, I4 = up I3 66 2 a3 → (∀ I5 : HI, I5 = up I4 66 3 a1 → (∀ I6 : HI, I6 = up I5 66 4 a2 → J none mX1_wordsOf (d + 1) 0 0 100 [(0, vR 62), (1, vI a1), (2, vI a2), (3, vI a3), (4, vI a4), (5, vI ((((x1 * 22) + a3) * 16) + a4)), (6, vI 0)] [] (mk I6) Q)))) ∧ (a3 = 21 → (∀ I7 : HI, I7 = up I3 66 2 0 → (∀ I8 : HI, I8 = up I7 66 3 a1 → (∀ I9 : HI, I9 = up I8 66 4 a2 → J none mX1_wordsOf (d + 1) 0 0 100 [(0, vR 62), (1, vI a1), (2, vI a2), (3, vI a3), (4, vI a4), (5, vI ((((x1 * 22) + a3) * 16) + a4)), (6, vI 0)] [] (mk I9) Q))))))) ∧ (a3 = 21 → (∀ I10 : HI, I10 = up I2 66 1 1 → ((a3 ≠ 21 → (∀ I11 : HI, I11 = up I10 66 2 a3 → (∀ I12 : HI, I12 = up I11 66 3 a1 → (∀ I13 : HI, I13 = up I12 66 4 a2 → J none mX1_wordsOf (d + 1) 0 0 100 [(0, vR 62), (1, vI a1), (2, vI a2), (3, vI a3), (4, vI a4), (5, vI ((((x1 * 22) + a3) * 16) + a4)), (6, vI 0)] [] (mk I13) Q)))) ∧ (a3 = 21 → (∀ I14 : HI, I14 = up I10 66 2 0 → (∀ I15 : HI, I15 = up I14 66 3 a1 → (∀ I16 : HI, I16 = up I15 66 4 a2 → J none mX1_wordsOf (d + 1) 0 0 100 [(0, vR 62), (1, vI a1), (2, vI a2), (3, vI a3), (4, vI a4), (5, vI ((((x1 * 22) + a3) * 16) + a4)), (6, vI 0)] [] (mk I16) Q)))))))))) ∧ ((I1 64 ((((x1 * 22) + a3) * 16) + a4).toNat) = (I1 62 5) → (-2147483648 ≤ ((((x1 * 22) + a3) * 16) + a4) * 6 ∧ ((((x1 * 22) + a3) * 16) + a4) * 6 ≤ 2147483647) ∧ Q (some (vI (((((x1 * 22) + a3) * 16) + a4) * 6))) (mk I1))))) : J none mX1_wordsOf (d + 1) 0 0 0 [(0, vR 62), (1, vI a1), (2, vI a2), (3, vI a3), (4, vI a4)] [] (mk I) Q := by
  refine J_iload_n dX1_wordsOf_0 rfl rfl ?_
  refine J_iload_n dX1_wordsOf_1 rfl rfl ?_
  refine J_callSN (as := [_, _]) (mc1 := 0) (ms1 := 0) (mc := 0) (ms := 0) dX1_wordsOf_2 ms_X10_pairOf (fun _ _ _ hk => hk.2.2.2.2.2.2) rfl (Nat.le_of_ble_eq_true rfl) (Nat.le_of_ble_eq_true rfl) h (fun r σ hq _ => ?_)
  obtain ⟨x1, I1, rfl, rfl, h⟩ := hq
  change J _ _ _ _ _ _ _ [vI x1] _ _
  refine J_bipush dX1_wordsOf_5 (ii_c rfl) (by decide) ?_
  refine J_imulN dX1_wordsOf_7 h.1 ?_
  replace h := h.2
  refine J_iload_n dX1_wordsOf_8 rfl rfl ?_
  refine J_iaddN dX1_wordsOf_9 h.1 ?_
  replace h := h.2
  refine J_bipush dX1_wordsOf_10 (ii_c rfl) (by decide) ?_
  refine J_imulN dX1_wordsOf_12 h.1 ?_
  replace h := h.2
  refine J_iload dX1_wordsOf_13 rfl ?_
  refine J_iaddN dX1_wordsOf_15 h.1 ?_
  replace h := h.2
  refine J_istore dX1_wordsOf_16 (by decide) ?_
  change J _ _ _ _ _ _ [(0, _), (1, _), (2, _), (3, _), (4, _), (5, _)] _ _ _
  refine J_aload_n dX1_wordsOf_18 rfl rfl ?_
  refine J_getR dX1_wordsOf_19 ck_1 fw_X1_17 rfl sh_62 rr_62_2 ?_
  refine J_iload dX1_wordsOf_22 rfl ?_
  refine J_iald dX1_wordsOf_24 sh_64 h.1.1 h.1.2 ?_
  replace h := h.2
  refine J_aload_n dX1_wordsOf_25 rfl rfl ?_
  refine J_getI dX1_wordsOf_26 ck_1 fw_X1_27 rfl sh_62 ?_
  refine J_ic_ne (tgt := 38) dX1_wordsOf_29 (by decide) (fun c => ?_) (fun c => ?_)
  · replace h := h.1 c
    refine J_aload_n dX1_wordsOf_38 rfl rfl ?_
    refine J_getR dX1_wordsOf_39 ck_1 fw_X1_17 rfl sh_62 rr_62_2 ?_
    refine J_iload dX1_wordsOf_42 rfl ?_
    refine J_aload_n dX1_wordsOf_44 rfl rfl ?_
    refine J_getI dX1_wordsOf_45 ck_1 fw_X1_27 rfl sh_62 ?_
    refine J_iast dX1_wordsOf_48 sh_64 h.1.1 h.1.2 ?_
    replace h := h.2 _ rfl
    refine J_aload_n dX1_wordsOf_49 rfl rfl ?_
    refine J_getR dX1_wordsOf_50 ck_1 fw_X1_24 rfl sh_62 rr_62_4 ?_
    refine J_iconst dX1_wordsOf_53 (ii_c rfl) ?_
    refine J_iload_n dX1_wordsOf_54 rfl rfl ?_
    refine J_bipush dX1_wordsOf_55 (ii_c rfl) (by decide) ?_
    refine J_ic_ne (tgt := 64) dX1_wordsOf_57 (by decide) (fun c => ?_) (fun c => ?_)
    · replace h := h.1 c
      refine J_iconst dX1_wordsOf_64 (ii_c rfl) ?_
      refine J_iast dX1_wordsOf_65 sh_66 (by decide) (by decide) ?_
      replace h := h _ rfl
      refine J_aload_n dX1_wordsOf_66 rfl rfl ?_
      refine J_getR dX1_wordsOf_67 ck_1 fw_X1_24 rfl sh_62 rr_62_4 ?_
      refine J_iconst dX1_wordsOf_70 (ii_c rfl) ?_
      refine J_iload_n dX1_wordsOf_71 rfl rfl ?_
      refine J_bipush dX1_wordsOf_72 (ii_c rfl) (by decide) ?_
      refine J_ic_ne (tgt := 81) dX1_wordsOf_74 (by decide) (fun c => ?_) (fun c => ?_)
      · replace h := h.1 c
        refine J_iload_n dX1_wordsOf_81 rfl rfl ?_
        refine J_iast dX1_wordsOf_82 sh_66 (by decide) (by decide) ?_
        replace h := h _ rfl
        refine J_aload_n dX1_wordsOf_83 rfl rfl ?_
        refine J_getR dX1_wordsOf_84 ck_1 fw_X1_24 rfl sh_62 rr_62_4 ?_
        refine J_iconst dX1_wordsOf_87 (ii_c rfl) ?_
        refine J_iload_n dX1_wordsOf_88 rfl rfl ?_
        refine J_iast dX1_wordsOf_89 sh_66 (by decide) (by decide) ?_
        replace h := h _ rfl
        refine J_aload_n dX1_wordsOf_90 rfl rfl ?_
        refine J_getR dX1_wordsOf_91 ck_1 fw_X1_24 rfl sh_62 rr_62_4 ?_
        refine J_iconst dX1_wordsOf_94 (ii_c rfl) ?_
        refine J_iload_n dX1_wordsOf_95 rfl rfl ?_
        refine J_iast dX1_wordsOf_96 sh_66 (by decide) (by decide) ?_
        replace h := h _ rfl
        refine J_iconst dX1_wordsOf_97 (ii_c rfl) ?_
        refine J_istore dX1_wordsOf_98 (by decide) ?_
        change J _ _ _ _ _ _ [(0, _), (1, _), (2, _), (3, _), (4, _), (5, _), (6, _)] _ _ _
        exact h
      · replace h := h.2 c
        refine J_iconst dX1_wordsOf_77 (ii_c rfl) ?_
        refine J_goto (tgt := 82) dX1_wordsOf_78 (by decide) ?_
        refine J_iast dX1_wordsOf_82 sh_66 (by decide) (by decide) ?_
        replace h := h _ rfl
        refine J_aload_n dX1_wordsOf_83 rfl rfl ?_
        refine J_getR dX1_wordsOf_84 ck_1 fw_X1_24 rfl sh_62 rr_62_4 ?_
        refine J_iconst dX1_wordsOf_87 (ii_c rfl) ?_
        refine J_iload_n dX1_wordsOf_88 rfl rfl ?_
        refine J_iast dX1_wordsOf_89 sh_66 (by decide) (by decide) ?_
        replace h := h _ rfl
        refine J_aload_n dX1_wordsOf_90 rfl rfl ?_
        refine J_getR dX1_wordsOf_91 ck_1 fw_X1_24 rfl sh_62 rr_62_4 ?_
        refine J_iconst dX1_wordsOf_94 (ii_c rfl) ?_
        refine J_iload_n dX1_wordsOf_95 rfl rfl ?_
        refine J_iast dX1_wordsOf_96 sh_66 (by decide) (by decide) ?_
        replace h := h _ rfl
        refine J_iconst dX1_wordsOf_97 (ii_c rfl) ?_
        refine J_istore dX1_wordsOf_98 (by decide) ?_
        change J _ _ _ _ _ _ [(0, _), (1, _), (2, _), (3, _), (4, _), (5, _), (6, _)] _ _ _
        exact h
    · replace h := h.2 c
      refine J_iconst dX1_wordsOf_60 (ii_c rfl) ?_
      refine J_goto (tgt := 65) dX1_wordsOf_61 (by decide) ?_
      refine J_iast dX1_wordsOf_65 sh_66 (by decide) (by decide) ?_
      replace h := h _ rfl
      refine J_aload_n dX1_wordsOf_66 rfl rfl ?_
      refine J_getR dX1_wordsOf_67 ck_1 fw_X1_24 rfl sh_62 rr_62_4 ?_
      refine J_iconst dX1_wordsOf_70 (ii_c rfl) ?_
      refine J_iload_n dX1_wordsOf_71 rfl rfl ?_
      refine J_bipush dX1_wordsOf_72 (ii_c rfl) (by decide) ?_
      refine J_ic_ne (tgt := 81) dX1_wordsOf_74 (by decide) (fun c => ?_) (fun c => ?_)
      · replace h := h.1 c
        refine J_iload_n dX1_wordsOf_81 rfl rfl ?_
        refine J_iast dX1_wordsOf_82 sh_66 (by decide) (by decide) ?_
        replace h := h _ rfl
        refine J_aload_n dX1_wordsOf_83 rfl rfl ?_
        refine J_getR dX1_wordsOf_84 ck_1 fw_X1_24 rfl sh_62 rr_62_4 ?_
        refine J_iconst dX1_wordsOf_87 (ii_c rfl) ?_
        refine J_iload_n dX1_wordsOf_88 rfl rfl ?_
        refine J_iast dX1_wordsOf_89 sh_66 (by decide) (by decide) ?_
        replace h := h _ rfl
        refine J_aload_n dX1_wordsOf_90 rfl rfl ?_
        refine J_getR dX1_wordsOf_91 ck_1 fw_X1_24 rfl sh_62 rr_62_4 ?_
        refine J_iconst dX1_wordsOf_94 (ii_c rfl) ?_
        refine J_iload_n dX1_wordsOf_95 rfl rfl ?_
        refine J_iast dX1_wordsOf_96 sh_66 (by decide) (by decide) ?_
        replace h := h _ rfl
        refine J_iconst dX1_wordsOf_97 (ii_c rfl) ?_
        refine J_istore dX1_wordsOf_98 (by decide) ?_
        change J _ _ _ _ _ _ [(0, _), (1, _), (2, _), (3, _), (4, _), (5, _), (6, _)] _ _ _
        exact h
      · replace h := h.2 c
        refine J_iconst dX1_wordsOf_77 (ii_c rfl) ?_
        refine J_goto (tgt := 82) dX1_wordsOf_78 (by decide) ?_
        refine J_iast dX1_wordsOf_82 sh_66 (by decide) (by decide) ?_
        replace h := h _ rfl
        refine J_aload_n dX1_wordsOf_83 rfl rfl ?_
        refine J_getR dX1_wordsOf_84 ck_1 fw_X1_24 rfl sh_62 rr_62_4 ?_
        refine J_iconst dX1_wordsOf_87 (ii_c rfl) ?_
        refine J_iload_n dX1_wordsOf_88 rfl rfl ?_
        refine J_iast dX1_wordsOf_89 sh_66 (by decide) (by decide) ?_
        replace h := h _ rfl
        refine J_aload_n dX1_wordsOf_90 rfl rfl ?_
        refine J_getR dX1_wordsOf_91 ck_1 fw_X1_24 rfl sh_62 rr_62_4 ?_
        refine J_iconst dX1_wordsOf_94 (ii_c rfl) ?_
        refine J_iload_n dX1_wordsOf_95 rfl rfl ?_
        refine J_iast dX1_wordsOf_96 sh_66 (by decide) (by decide) ?_
        replace h := h _ rfl
        refine J_iconst dX1_wordsOf_97 (ii_c rfl) ?_
        refine J_istore dX1_wordsOf_98 (by decide) ?_
        change J _ _ _ _ _ _ [(0, _), (1, _), (2, _), (3, _), (4, _), (5, _), (6, _)] _ _ _
        exact h
  · replace h := h.2 c
    refine J_iload dX1_wordsOf_32 rfl ?_
    refine J_bipush dX1_wordsOf_34 (ii_c rfl) (by decide) ?_
    refine J_imulN dX1_wordsOf_36 h.1 ?_
    replace h := h.2
    exact J_reti dX1_wordsOf_37 rfl h
set_option maxRecDepth 20000 in
set_option maxHeartbeats 2000000 in
theorem bk_X1_wordsOf_100 {d : Nat} {I : HI} {Q : Option AV → AH → Prop} {a1 : Int} {a2 : Int} {a3 : Int} {a4 : Int} {a5 : Int} {a6 : Int}  (h : (((I 2 4) ≤ a6 → (-2147483648 ≤ a5 * 6 ∧ a5 * 6 ≤ 2147483647) ∧ Q (some (vI (a5 * 6))) (mk I)) ∧ (¬ ((I 2 4) ≤ a6) → (∀ I1 : HI, I1 = up I 62 6 1 → J none mX1_wordsOf (d + 1) 0 0 125 [(0, vR 62), (1, vI a1), (2, vI a2), (3, vI a3), (4, vI a4), (5, vI a5), (6, vI a6), (7, vL 0), (9, vI 0)] [] (mk I1) Q)))) : J none mX1_wordsOf (d + 1) 0 0 100 [(0, vR 62), (1, vI a1), (2, vI a2), (3, vI a3), (4, vI a4), (5, vI a5), (6, vI a6)] [] (mk I) Q := by
  refine J_iload dX1_wordsOf_100 rfl ?_
  refine J_aload_n dX1_wordsOf_102 rfl rfl ?_
  refine J_getR dX1_wordsOf_103 ck_1 fw_X1_31 rfl sh_62 rr_62_0 ?_
  refine J_getR dX1_wordsOf_106 ck_0 fw_X1_39 rfl sh_1 rr_1_0 ?_
  refine J_iconst dX1_wordsOf_109 (ii_c rfl) ?_
  refine J_iald dX1_wordsOf_110 sh_2 (by decide) (by decide) ?_
  refine J_ic_ge (tgt := 216) dX1_wordsOf_111 (by decide) (fun c => ?_) (fun c => ?_)
  · replace h := h.1 c
    refine J_iload dX1_wordsOf_216 rfl ?_
    refine J_bipush dX1_wordsOf_218 (ii_c rfl) (by decide) ?_
    refine J_imulN dX1_wordsOf_220 h.1 ?_
    replace h := h.2
    exact J_reti dX1_wordsOf_221 rfl h
  · replace h := h.2 c
    refine J_lconst 0 dX1_wordsOf_114 (ll_c rfl) (by decide) ?_
    refine J_lstore dX1_wordsOf_115 (by decide) ?_
    change J _ _ _ _ _ _ [(0, _), (1, _), (2, _), (3, _), (4, _), (5, _), (6, _), (7, _)] _ _ _
    refine J_aload_n dX1_wordsOf_117 rfl rfl ?_
    refine J_iconst dX1_wordsOf_118 (ii_c rfl) ?_
    refine J_putI dX1_wordsOf_119 ck_1 fw_X1_76 rfl rfl (Or.inr ⟨rfl, Or.inr rfl⟩) sh_62 ?_
    replace h := h _ rfl
    refine J_iconst dX1_wordsOf_122 (ii_c rfl) ?_
    refine J_istore dX1_wordsOf_123 (by decide) ?_
    change J _ _ _ _ _ _ [(0, _), (1, _), (2, _), (3, _), (4, _), (5, _), (6, _), (7, _), (9, _)] _ _ _
    exact h
set_option maxRecDepth 20000 in
set_option maxHeartbeats 2000000 in
theorem bk_X1_wordsOf_125 {d : Nat} {I : HI} {Q : Option AV → AH → Prop} {a1 : Int} {a2 : Int} {a3 : Int} {a4 : Int} {a5 : Int} {a6 : Int} {a7 : Int} {a9 : Int}  (h : ((64 ≤ a9 → (-2147483648 ≤ a5 * 6 ∧ a5 * 6 ≤ 2147483647) ∧ (-2147483648 ≤ (a5 * 6) + a6 ∧ (a5 * 6) + a6 ≤ 2147483647) ∧ ((0 : Int) ≤ ((a5 * 6) + a6) ∧ ((a5 * 6) + a6 : Int) < 12672) ∧ (∀ I1 : HI, I1 = up I 63 ((a5 * 6) + a6).toNat a7 → (-2147483648 ≤ a6 + 1 ∧ a6 + 1 ≤ 2147483647) ∧ J none mX1_wordsOf (d + 1) 0 0 100 [(0, vR 62), (1, vI a1), (2, vI a2), (3, vI a3), (4, vI a4), (5, vI a5), (6, vI (a6 + 1))] [] (mk I1) Q)) ∧ (¬ (64 ≤ a9) → (((I 62 6) = 0 → (-2147483648 ≤ a5 * 6 ∧ a5 * 6 ≤ 2147483647) ∧ (-2147483648 ≤ (a5 * 6) + a6 ∧ (a5 * 6) + a6 ≤ 2147483647) ∧ ((0 : Int) ≤ ((a5 * 6) + a6) ∧ ((a5 * 6) + a6 : Int) < 12672) ∧ (∀ I2 : HI, I2 = up I 63 ((a5 * 6) + a6).toNat a7 → (-2147483648 ≤ a6 + 1 ∧ a6 + 1 ≤ 2147483647) ∧ J none mX1_wordsOf (d + 1) 0 0 100 [(0, vR 62), (1, vI a1), (2, vI a2), (3, vI a3), (4, vI a4), (5, vI a5), (6, vI (a6 + 1))] [] (mk I2) Q)) ∧ (¬ ((I 62 6) = 0) → (-2147483648 ≤ a4 * 64 ∧ a4 * 64 ≤ 2147483647) ∧ (-2147483648 ≤ (a4 * 64) + a9 ∧ (a4 * 64) + a9 ≤ 2147483647) ∧ (∀ I3 : HI, I3 = up I 66 0 ((a4 * 64) + a9) → (∀ I4 : HI, I4 = up I3 62 6 0 → CI mX1_holds d [vR 62, vI a6] I4 (fun x1 I5 => ((x1 = 0 → (-2147483648 ≤ a9 + 1 ∧ a9 + 1 ≤ 2147483647) ∧ J none mX1_wordsOf (d + 1) 0 0 125 [(0, vR 62), (1, vI a1), (2, vI a2), (3, vI a3), (4, vI a4), (5, vI a5), (6, vI a6), (7, vL a7), (9, vI (a9 + 1))] [] (mk I5) Q) ∧ (¬ (x1 = 0) → (((I5 62 6) = 0 → (-2147483648 ≤ a9 + 1 ∧ a9 + 1 ≤ 2147483647) ∧ J none mX1_wordsOf (d + 1) 0 0 125 [(0, vR 62), (1, vI a1), (2, vI a2), (3, vI a3), (4, vI a4), (5, vI a5), (6, vI a6), (7, vL (lO a7 (-1))), (9, vI (a9 + 1))] [] (mk I5) Q) ∧ (¬ ((I5 62 6) = 0) → (-2147483648 ≤ a9 + 1 ∧ a9 + 1 ≤ 2147483647) ∧ J none mX1_wordsOf (d + 1) 0 0 125 [(0, vR 62), (1, vI a1), (2, vI a2), (3, vI a3), (4, vI a4), (5, vI a5), (6, vI a6), (7, vL (lO a7 (lSl 1 a9))), (9, vI (a9 + 1))] [] (mk I5) Q)))))))))))) : J none mX1_wordsOf (d + 1) 0 0 125 [(0, vR 62), (1, vI a1), (2, vI a2), (3, vI a3), (4, vI a4), (5, vI a5), (6, vI a6), (7, vL a7), (9, vI a9)] [] (mk I) Q := by
  refine J_iload dX1_wordsOf_125 rfl ?_
  refine J_bipush dX1_wordsOf_127 (ii_c rfl) (by decide) ?_
  refine J_ic_ge (tgt := 195) dX1_wordsOf_129 (by decide) (fun c => ?_) (fun c => ?_)
  · replace h := h.1 c
    refine J_aload_n dX1_wordsOf_195 rfl rfl ?_
    refine J_getR dX1_wordsOf_196 ck_1 fw_X1_13 rfl sh_62 rr_62_1 ?_
    refine J_iload dX1_wordsOf_199 rfl ?_
    refine J_bipush dX1_wordsOf_201 (ii_c rfl) (by decide) ?_
    refine J_imulN dX1_wordsOf_203 h.1 ?_
    replace h := h.2
    refine J_iload dX1_wordsOf_204 rfl ?_
    refine J_iaddN dX1_wordsOf_206 h.1 ?_
    replace h := h.2
    refine J_lload dX1_wordsOf_207 rfl ?_
    refine J_last dX1_wordsOf_209 sh_63 h.1.1 h.1.2 ?_
    replace h := h.2 _ rfl
    refine J_iincN dX1_wordsOf_210 rfl (by decide) h.1 ?_
    replace h := h.2
    change J _ _ _ _ _ _ [(0, _), (1, _), (2, _), (3, _), (4, _), (5, _), (6, _), (7, _), (9, _)] _ _ _
    refine J_goto (tgt := 100) dX1_wordsOf_213 (by decide) ?_
    exact J_loc (ls_sub [0, 1, 2, 3, 4, 5, 6] rfl) h
  · replace h := h.2 c
    refine J_aload_n dX1_wordsOf_132 rfl rfl ?_
    refine J_getI dX1_wordsOf_133 ck_1 fw_X1_76 rfl sh_62 ?_
    refine J_if_eq (tgt := 195) dX1_wordsOf_136 (by decide) (fun c => ?_) (fun c => ?_)
    · replace h := h.1 c
      refine J_aload_n dX1_wordsOf_195 rfl rfl ?_
      refine J_getR dX1_wordsOf_196 ck_1 fw_X1_13 rfl sh_62 rr_62_1 ?_
      refine J_iload dX1_wordsOf_199 rfl ?_
      refine J_bipush dX1_wordsOf_201 (ii_c rfl) (by decide) ?_
      refine J_imulN dX1_wordsOf_203 h.1 ?_
      replace h := h.2
      refine J_iload dX1_wordsOf_204 rfl ?_
      refine J_iaddN dX1_wordsOf_206 h.1 ?_
      replace h := h.2
      refine J_lload dX1_wordsOf_207 rfl ?_
      refine J_last dX1_wordsOf_209 sh_63 h.1.1 h.1.2 ?_
      replace h := h.2 _ rfl
      refine J_iincN dX1_wordsOf_210 rfl (by decide) h.1 ?_
      replace h := h.2
      change J _ _ _ _ _ _ [(0, _), (1, _), (2, _), (3, _), (4, _), (5, _), (6, _), (7, _), (9, _)] _ _ _
      refine J_goto (tgt := 100) dX1_wordsOf_213 (by decide) ?_
      exact J_loc (ls_sub [0, 1, 2, 3, 4, 5, 6] rfl) h
    · replace h := h.2 c
      refine J_aload_n dX1_wordsOf_139 rfl rfl ?_
      refine J_getR dX1_wordsOf_140 ck_1 fw_X1_24 rfl sh_62 rr_62_4 ?_
      refine J_iconst dX1_wordsOf_143 (ii_c rfl) ?_
      refine J_iload dX1_wordsOf_144 rfl ?_
      refine J_bipush dX1_wordsOf_146 (ii_c rfl) (by decide) ?_
      refine J_imulN dX1_wordsOf_148 h.1 ?_
      replace h := h.2
      refine J_iload dX1_wordsOf_149 rfl ?_
      refine J_iaddN dX1_wordsOf_151 h.1 ?_
      replace h := h.2
      refine J_iast dX1_wordsOf_152 sh_66 (by decide) (by decide) ?_
      replace h := h _ rfl
      refine J_aload_n dX1_wordsOf_153 rfl rfl ?_
      refine J_iconst dX1_wordsOf_154 (ii_c rfl) ?_
      refine J_putI dX1_wordsOf_155 ck_1 fw_X1_76 rfl rfl (Or.inr ⟨rfl, Or.inl rfl⟩) sh_62 ?_
      replace h := h _ rfl
      refine J_aload_n dX1_wordsOf_158 rfl rfl ?_
      refine J_iload dX1_wordsOf_159 rfl ?_
      refine J_callV (as := [_]) (mc1 := 0) (ms1 := 0) (mc := 0) (ms := 0) dX1_wordsOf_161 mv_X1_holds lk_X1_80 sh_62 rfl (Nat.le_of_ble_eq_true rfl) (Nat.le_of_ble_eq_true rfl) h (fun r σ hq _ => ?_)
      obtain ⟨x1, I5, rfl, rfl, h⟩ := hq
      change J _ _ _ _ _ _ _ [vI x1] _ _
      refine J_if_eq (tgt := 189) dX1_wordsOf_164 (by decide) (fun c => ?_) (fun c => ?_)
      · replace h := h.1 c
        refine J_iincN dX1_wordsOf_189 rfl (by decide) h.1 ?_
        replace h := h.2
        change J _ _ _ _ _ _ [(0, _), (1, _), (2, _), (3, _), (4, _), (5, _), (6, _), (7, _), (9, _)] _ _ _
        refine J_goto (tgt := 125) dX1_wordsOf_192 (by decide) ?_
        exact h
      · replace h := h.2 c
        refine J_lload dX1_wordsOf_167 rfl ?_
        refine J_aload_n dX1_wordsOf_169 rfl rfl ?_
        refine J_getI dX1_wordsOf_170 ck_1 fw_X1_76 rfl sh_62 ?_
        refine J_if_eq (tgt := 183) dX1_wordsOf_173 (by decide) (fun c => ?_) (fun c => ?_)
        · replace h := h.1 c
          refine J_ldc2 (-1) dX1_wordsOf_183 kw_X1_50 (ll_c rfl) ?_
          refine J_lor dX1_wordsOf_186 ?_
          refine J_lstore dX1_wordsOf_187 (by decide) ?_
          change J _ _ _ _ _ _ [(0, _), (1, _), (2, _), (3, _), (4, _), (5, _), (6, _), (7, _), (9, _)] _ _ _
          refine J_iincN dX1_wordsOf_189 rfl (by decide) h.1 ?_
          replace h := h.2
          change J _ _ _ _ _ _ [(0, _), (1, _), (2, _), (3, _), (4, _), (5, _), (6, _), (7, _), (9, _)] _ _ _
          refine J_goto (tgt := 125) dX1_wordsOf_192 (by decide) ?_
          exact h
        · replace h := h.2 c
          refine J_lconst 1 dX1_wordsOf_176 (ll_c rfl) (by decide) ?_
          refine J_iload dX1_wordsOf_177 rfl ?_
          refine J_lshl dX1_wordsOf_179 ?_
          refine J_goto (tgt := 186) dX1_wordsOf_180 (by decide) ?_
          refine J_lor dX1_wordsOf_186 ?_
          refine J_lstore dX1_wordsOf_187 (by decide) ?_
          change J _ _ _ _ _ _ [(0, _), (1, _), (2, _), (3, _), (4, _), (5, _), (6, _), (7, _), (9, _)] _ _ _
          refine J_iincN dX1_wordsOf_189 rfl (by decide) h.1 ?_
          replace h := h.2
          change J _ _ _ _ _ _ [(0, _), (1, _), (2, _), (3, _), (4, _), (5, _), (6, _), (7, _), (9, _)] _ _ _
          refine J_goto (tgt := 125) dX1_wordsOf_192 (by decide) ?_
          exact h
set_option maxRecDepth 20000 in
set_option maxHeartbeats 2000000 in
theorem bk_X1_holds_0 {d : Nat} {I : HI} {Q : Option AV → AH → Prop} {a1 : Int}  (h : (-2147483648 ≤ a1 + 1 ∧ a1 + 1 ≤ 2147483647) ∧ ((0 : Int) ≤ (a1 + 1) ∧ (a1 + 1 : Int) < 7) ∧ ((0 : Int) ≤ a1 ∧ (a1 : Int) < 7) ∧ J none mX1_holds (d + 1) 0 0 36 [(0, vR 62), (1, vI a1), (2, vI 0), (3, vI (min (I 10 (a1 + 1).toNat) 1600)), (4, vI (I 10 a1.toNat))] [] (mk I) Q) : J none mX1_holds (d + 1) 0 0 0 [(0, vR 62), (1, vI a1)] [] (mk I) Q := by
  refine J_iconst dX1_holds_0 (ii_c rfl) ?_
  refine J_istore_n dX1_holds_1 rfl (by decide) ?_
  change J _ _ _ _ _ _ [(0, _), (1, _), (2, _)] _ _ _
  refine J_aload_n dX1_holds_2 rfl rfl ?_
  refine J_getR dX1_holds_3 ck_1 fw_X1_31 rfl sh_62 rr_62_0 ?_
  refine J_getR dX1_holds_6 ck_0 fw_X1_84 rfl sh_1 rr_1_8 ?_
  refine J_iload_n dX1_holds_9 rfl rfl ?_
  refine J_iconst dX1_holds_10 (ii_c rfl) ?_
  refine J_iaddN dX1_holds_11 h.1 ?_
  replace h := h.2
  refine J_iald dX1_holds_12 sh_10 h.1.1 h.1.2 ?_
  replace h := h.2
  refine J_aload_n dX1_holds_13 rfl rfl ?_
  refine J_getR dX1_holds_14 ck_1 fw_X1_31 rfl sh_62 rr_62_0 ?_
  refine J_getR dX1_holds_17 ck_0 fw_X1_87 rfl sh_1 rr_1_7 ?_
  refine J_alen dX1_holds_20 sh_9 (by decide) (by decide) ?_
  refine J_min dX1_holds_21 lk_X1_67 (Nat.le_of_ble_eq_true rfl) ?_
  refine J_istore_n dX1_holds_24 rfl (by decide) ?_
  change J _ _ _ _ _ _ [(0, _), (1, _), (2, _), (3, _)] _ _ _
  refine J_aload_n dX1_holds_25 rfl rfl ?_
  refine J_getR dX1_holds_26 ck_1 fw_X1_31 rfl sh_62 rr_62_0 ?_
  refine J_getR dX1_holds_29 ck_0 fw_X1_84 rfl sh_1 rr_1_8 ?_
  refine J_iload_n dX1_holds_32 rfl rfl ?_
  refine J_iald dX1_holds_33 sh_10 h.1.1 h.1.2 ?_
  replace h := h.2
  refine J_istore dX1_holds_34 (by decide) ?_
  change J _ _ _ _ _ _ [(0, _), (1, _), (2, _), (3, _), (4, _)] _ _ _
  exact h
set_option maxRecDepth 20000 in
set_option maxHeartbeats 2000000 in
theorem bk_X1_holds_36 {d : Nat} {I : HI} {Q : Option AV → AH → Prop} {a1 : Int} {a2 : Int} {a3 : Int} {a4 : Int}  (h : ((a3 ≤ a4 → ((a2 ≤ 0 → Q (some (vI 0)) (mk I)) ∧ (¬ (a2 ≤ 0) → (-2147483648 ≤ a2 - 1 ∧ a2 - 1 ≤ 2147483647) ∧ ((0 : Int) ≤ (a2 - 1) ∧ (a2 - 1 : Int) < 64) ∧ (((I 65 (a2 - 1).toNat) = 0 → Q (some (vI 0)) (mk I)) ∧ (¬ ((I 65 (a2 - 1).toNat) = 0) → Q (some (vI 1)) (mk I)))))) ∧ (¬ (a3 ≤ a4) → ((0 : Int) ≤ a4 ∧ (a4 : Int) < 1600) ∧ (((I 9 a4.toNat) < (-5) → (((I 9 a4.toNat) ≠ (-15) → J none mX1_holds (d + 1) 0 0 150 [(0, vR 62), (1, vI a1), (2, vI a2), (3, vI a3), (4, vI a4), (5, vI (I 9 a4.toNat))] [] (mk I) Q) ∧ ((I 9 a4.toNat) = (-15) → ((a2 ≤ 0 → J none mX1_holds (d + 1) 0 0 150 [(0, vR 62), (1, vI a1), (2, vI a2), (3, vI a3), (4, vI a4), (5, vI (I 9 a4.toNat))] [] (mk I) Q) ∧ (¬ (a2 ≤ 0) → (-2147483648 ≤ a2 - 1 ∧ a2 - 1 ≤ 2147483647) ∧ (-2147483648 ≤ a2 - 1 ∧ a2 - 1 ≤ 2147483647) ∧ ((0 : Int) ≤ (a2 - 1) ∧ (a2 - 1 : Int) < 64) ∧ (-2147483648 ≤ 1 - (I 65 (a2 - 1).toNat) ∧ 1 - (I 65 (a2 - 1).toNat) ≤ 2147483647) ∧ ((0 : Int) ≤ (a2 - 1) ∧ (a2 - 1 : Int) < 64) ∧ (∀ I1 : HI, I1 = up I 65 (a2 - 1).toNat (1 - (I 65 (a2 - 1).toNat)) → (-2147483648 ≤ a4 + 1 ∧ a4 + 1 ≤ 2147483647) ∧ J none mX1_holds (d + 1) 0 0 36 [(0, vR 62), (1, vI a1), (2, vI a2), (3, vI a3), (4, vI (a4 + 1))] [] (mk I1) Q)))))) ∧ (¬ ((I 9 a4.toNat) < (-5)) → ((64 ≤ a2 → (((I 9 a4.toNat) ≠ (-15) → J none mX1_holds (d + 1) 0 0 150 [(0, vR 62), (1, vI a1), (2, vI a2), (3, vI a3), (4, vI a4), (5, vI (I 9 a4.toNat))] [] (mk I) Q) ∧ ((I 9 a4.toNat) = (-15) → ((a2 ≤ 0 → J none mX1_holds (d + 1) 0 0 150 [(0, vR 62), (1, vI a1), (2, vI a2), (3, vI a3), (4, vI a4), (5, vI (I 9 a4.toNat))] [] (mk I) Q) ∧ (¬ (a2 ≤ 0) → (-2147483648 ≤ a2 - 1 ∧ a2 - 1 ≤ 2147483647) ∧ (-2147483648 ≤ a2 - 1 ∧ a2 - 1 ≤ 2147483647) ∧ ((0 : Int) ≤ (a2 - 1) ∧ (a2 - 1 : Int) < 64) ∧ (-2147483648 ≤ 1 - (I 65 (a2 - 1).toNat) ∧ 1 - (I 65 (a2 - 1).toNat) ≤ 2147483647) ∧ ((0 : Int) ≤ (a2 - 1) ∧ (a2 - 1 : Int) < 64) ∧ (∀ I2 : HI, I2 = up I 65 (a2 - 1).toNat (1 - (I 65 (a2 - 1).toNat)) → (-2147483648 ≤ a4 + 1 ∧ a4 + 1 ≤ 2147483647) ∧ J none mX1_holds (d + 1) 0 0 36 [(0, vR 62), (1, vI a1), (2, vI a2), (3, vI a3), (4, vI (a4 + 1))] [] (mk I2) Q)))))) ∧ (¬ (64 ≤ a2) → (((I 9 a4.toNat) ≠ (-1) → ((oO (I 62 6) 0) = 0 ∨ (oO (I 62 6) 0) = 1) ∧ (∀ I3 : HI, I3 = up I 62 6 (oO (I 62 6) 0) → (-2147483648 ≤ a2 + 1 ∧ a2 + 1 ≤ 2147483647) ∧ (((I 9 a4.toNat) < 0 → (-2147483648 ≤ (-1) - (I 9 a4.toNat) ∧ (-1) - (I 9 a4.toNat) ≤ 2147483647) ∧ ((0 : Int) ≤ ((-1) - (I 9 a4.toNat)) ∧ ((-1) - (I 9 a4.toNat) : Int) < 5) ∧ ((0 : Int) ≤ a2 ∧ (a2 : Int) < 64) ∧ (∀ I4 : HI, I4 = up I3 65 a2.toNat (I3 66 ((-1) - (I 9 a4.toNat)).toNat) → (-2147483648 ≤ a4 + 1 ∧ a4 + 1 ≤ 2147483647) ∧ J none mX1_holds (d + 1) 0 0 36 [(0, vR 62), (1, vI a1), (2, vI (a2 + 1)), (3, vI a3), (4, vI (a4 + 1))] [] (mk I4) Q)) ∧ (¬ ((I 9 a4.toNat) < 0) → ((0 : Int) ≤ a2 ∧ (a2 : Int) < 64) ∧ (∀ I5 : HI, I5 = up I3 65 a2.toNat (I 9 a4.toNat) → (-2147483648 ≤ a4 + 1 ∧ a4 + 1 ≤ 2147483647) ∧ J none mX1_holds (d + 1) 0 0 36 [(0, vR 62), (1, vI a1), (2, vI (a2 + 1)), (3, vI a3), (4, vI (a4 + 1))] [] (mk I5) Q))))) ∧ ((I 9 a4.toNat) = (-1) → ((oO (I 62 6) 1) = 0 ∨ (oO (I 62 6) 1) = 1) ∧ (∀ I6 : HI, I6 = up I 62 6 (oO (I 62 6) 1) → (-2147483648 ≤ a2 + 1 ∧ a2 + 1 ≤ 2147483647) ∧ (((I 9 a4.toNat) < 0 → (-2147483648 ≤ (-1) - (I 9 a4.toNat) ∧ (-1) - (I 9 a4.toNat) ≤ 2147483647) ∧ ((0 : Int) ≤ ((-1) - (I 9 a4.toNat)) ∧ ((-1) - (I 9 a4.toNat) : Int) < 5) ∧ ((0 : Int) ≤ a2 ∧ (a2 : Int) < 64) ∧ (∀ I7 : HI, I7 = up I6 65 a2.toNat (I6 66 ((-1) - (I 9 a4.toNat)).toNat) → (-2147483648 ≤ a4 + 1 ∧ a4 + 1 ≤ 2147483647) ∧ J none mX1_holds (d + 1) 0 0 36 [(0, vR 62), (1, vI a1), (2, vI (a2 + 1)), (3, vI a3), (4, vI (a4 + 1))] [] (mk I7) Q)) ∧ (¬ ((I 9 a4.toNat) < 0) → ((0 : Int) ≤ a2 ∧ (a2 : Int) < 64) ∧ (∀ I8 : HI, I8 = up I6 65 a2.toNat (I 9 a4.toNat) → (-2147483648 ≤ a4 + 1 ∧ a4 + 1 ≤ 2147483647) ∧ J none mX1_holds (d + 1) 0 0 36 [(0, vR 62), (1, vI a1), (2, vI (a2 + 1)), (3, vI a3), (4, vI (a4 + 1))] [] (mk I8) Q))))))))))))) : J none mX1_holds (d + 1) 0 0 36 [(0, vR 62), (1, vI a1), (2, vI a2), (3, vI a3), (4, vI a4)] [] (mk I) Q := by
  refine J_iload dX1_holds_36 rfl ?_
  refine J_iload_n dX1_holds_38 rfl rfl ?_
  refine J_ic_ge (tgt := 459) dX1_holds_39 (by decide) (fun c => ?_) (fun c => ?_)
  · replace h := h.1 c
    refine J_iload_n dX1_holds_459 rfl rfl ?_
    refine J_if_le (tgt := 478) dX1_holds_460 (by decide) (fun c => ?_) (fun c => ?_)
    · replace h := h.1 c
      refine J_iconst dX1_holds_478 (ii_c rfl) ?_
      exact J_retz dX1_holds_479 rfl (Or.inl rfl) h
    · replace h := h.2 c
      refine J_aload_n dX1_holds_463 rfl rfl ?_
      refine J_getR dX1_holds_464 ck_1 fw_X1_21 rfl sh_62 rr_62_3 ?_
      refine J_iload_n dX1_holds_467 rfl rfl ?_
      refine J_iconst dX1_holds_468 (ii_c rfl) ?_
      refine J_isubN dX1_holds_469 h.1 ?_
      replace h := h.2
      refine J_iald dX1_holds_470 sh_65 h.1.1 h.1.2 ?_
      replace h := h.2
      refine J_if_eq (tgt := 478) dX1_holds_471 (by decide) (fun c => ?_) (fun c => ?_)
      · replace h := h.1 c
        refine J_iconst dX1_holds_478 (ii_c rfl) ?_
        exact J_retz dX1_holds_479 rfl (Or.inl rfl) h
      · replace h := h.2 c
        refine J_iconst dX1_holds_474 (ii_c rfl) ?_
        refine J_goto (tgt := 479) dX1_holds_475 (by decide) ?_
        exact J_retz dX1_holds_479 rfl (Or.inr rfl) h
  · replace h := h.2 c
    refine J_aload_n dX1_holds_42 rfl rfl ?_
    refine J_getR dX1_holds_43 ck_1 fw_X1_31 rfl sh_62 rr_62_0 ?_
    refine J_getR dX1_holds_46 ck_0 fw_X1_87 rfl sh_1 rr_1_7 ?_
    refine J_iload dX1_holds_49 rfl ?_
    refine J_iald dX1_holds_51 sh_9 h.1.1 h.1.2 ?_
    replace h := h.2
    refine J_istore dX1_holds_52 (by decide) ?_
    change J _ _ _ _ _ _ [(0, _), (1, _), (2, _), (3, _), (4, _), (5, _)] _ _ _
    refine J_iload dX1_holds_54 rfl ?_
    refine J_bipush dX1_holds_56 (ii_c rfl) (by decide) ?_
    refine J_ic_lt (tgt := 118) dX1_holds_58 (by decide) (fun c => ?_) (fun c => ?_)
    · replace h := h.1 c
      refine J_iload dX1_holds_118 rfl ?_
      refine J_bipush dX1_holds_120 (ii_c rfl) (by decide) ?_
      refine J_ic_ne (tgt := 150) dX1_holds_122 (by decide) (fun c => ?_) (fun c => ?_)
      · replace h := h.1 c
        exact h
      · replace h := h.2 c
        refine J_iload_n dX1_holds_125 rfl rfl ?_
        refine J_if_le (tgt := 150) dX1_holds_126 (by decide) (fun c => ?_) (fun c => ?_)
        · replace h := h.1 c
          exact h
        · replace h := h.2 c
          refine J_aload_n dX1_holds_129 rfl rfl ?_
          refine J_getR dX1_holds_130 ck_1 fw_X1_21 rfl sh_62 rr_62_3 ?_
          refine J_iload_n dX1_holds_133 rfl rfl ?_
          refine J_iconst dX1_holds_134 (ii_c rfl) ?_
          refine J_isubN dX1_holds_135 h.1 ?_
          replace h := h.2
          refine J_iconst dX1_holds_136 (ii_c rfl) ?_
          refine J_aload_n dX1_holds_137 rfl rfl ?_
          refine J_getR dX1_holds_138 ck_1 fw_X1_21 rfl sh_62 rr_62_3 ?_
          refine J_iload_n dX1_holds_141 rfl rfl ?_
          refine J_iconst dX1_holds_142 (ii_c rfl) ?_
          refine J_isubN dX1_holds_143 h.1 ?_
          replace h := h.2
          refine J_iald dX1_holds_144 sh_65 h.1.1 h.1.2 ?_
          replace h := h.2
          refine J_isubN dX1_holds_145 h.1 ?_
          replace h := h.2
          refine J_iast dX1_holds_146 sh_65 h.1.1 h.1.2 ?_
          replace h := h.2 _ rfl
          refine J_goto (tgt := 453) dX1_holds_147 (by decide) ?_
          refine J_iincN dX1_holds_453 rfl (by decide) h.1 ?_
          replace h := h.2
          change J _ _ _ _ _ _ [(0, _), (1, _), (2, _), (3, _), (4, _), (5, _)] _ _ _
          refine J_goto (tgt := 36) dX1_holds_456 (by decide) ?_
          exact J_loc (ls_sub [0, 1, 2, 3, 4] rfl) h
    · replace h := h.2 c
      refine J_iload_n dX1_holds_61 rfl rfl ?_
      refine J_bipush dX1_holds_62 (ii_c rfl) (by decide) ?_
      refine J_ic_ge (tgt := 118) dX1_holds_64 (by decide) (fun c => ?_) (fun c => ?_)
      · replace h := h.1 c
        refine J_iload dX1_holds_118 rfl ?_
        refine J_bipush dX1_holds_120 (ii_c rfl) (by decide) ?_
        refine J_ic_ne (tgt := 150) dX1_holds_122 (by decide) (fun c => ?_) (fun c => ?_)
        · replace h := h.1 c
          exact h
        · replace h := h.2 c
          refine J_iload_n dX1_holds_125 rfl rfl ?_
          refine J_if_le (tgt := 150) dX1_holds_126 (by decide) (fun c => ?_) (fun c => ?_)
          · replace h := h.1 c
            exact h
          · replace h := h.2 c
            refine J_aload_n dX1_holds_129 rfl rfl ?_
            refine J_getR dX1_holds_130 ck_1 fw_X1_21 rfl sh_62 rr_62_3 ?_
            refine J_iload_n dX1_holds_133 rfl rfl ?_
            refine J_iconst dX1_holds_134 (ii_c rfl) ?_
            refine J_isubN dX1_holds_135 h.1 ?_
            replace h := h.2
            refine J_iconst dX1_holds_136 (ii_c rfl) ?_
            refine J_aload_n dX1_holds_137 rfl rfl ?_
            refine J_getR dX1_holds_138 ck_1 fw_X1_21 rfl sh_62 rr_62_3 ?_
            refine J_iload_n dX1_holds_141 rfl rfl ?_
            refine J_iconst dX1_holds_142 (ii_c rfl) ?_
            refine J_isubN dX1_holds_143 h.1 ?_
            replace h := h.2
            refine J_iald dX1_holds_144 sh_65 h.1.1 h.1.2 ?_
            replace h := h.2
            refine J_isubN dX1_holds_145 h.1 ?_
            replace h := h.2
            refine J_iast dX1_holds_146 sh_65 h.1.1 h.1.2 ?_
            replace h := h.2 _ rfl
            refine J_goto (tgt := 453) dX1_holds_147 (by decide) ?_
            refine J_iincN dX1_holds_453 rfl (by decide) h.1 ?_
            replace h := h.2
            change J _ _ _ _ _ _ [(0, _), (1, _), (2, _), (3, _), (4, _), (5, _)] _ _ _
            refine J_goto (tgt := 36) dX1_holds_456 (by decide) ?_
            exact J_loc (ls_sub [0, 1, 2, 3, 4] rfl) h
      · replace h := h.2 c
        refine J_aload_n dX1_holds_67 rfl rfl ?_
        refine J_dup dX1_holds_68 rfl ?_
        refine J_getI dX1_holds_69 ck_1 fw_X1_76 rfl sh_62 ?_
        refine J_iload dX1_holds_72 rfl ?_
        refine J_iconst dX1_holds_74 (ii_c rfl) ?_
        refine J_ic_ne (tgt := 82) dX1_holds_75 (by decide) (fun c => ?_) (fun c => ?_)
        · replace h := h.1 c
          refine J_iconst dX1_holds_82 (ii_c rfl) ?_
          refine J_ior dX1_holds_83 ?_
          refine J_putI dX1_holds_84 ck_1 fw_X1_76 rfl rfl (Or.inr ⟨rfl, h.1⟩) sh_62 ?_
          replace h := h.2
          replace h := h _ rfl
          refine J_aload_n dX1_holds_87 rfl rfl ?_
          refine J_getR dX1_holds_88 ck_1 fw_X1_21 rfl sh_62 rr_62_3 ?_
          refine J_iload_n dX1_holds_91 rfl rfl ?_
          refine J_iincN dX1_holds_92 rfl (by decide) h.1 ?_
          replace h := h.2
          change J _ _ _ _ _ _ [(0, _), (1, _), (2, _), (3, _), (4, _), (5, _)] _ _ _
          refine J_iload dX1_holds_95 rfl ?_
          refine J_if_lt (tgt := 105) dX1_holds_97 (by decide) (fun c => ?_) (fun c => ?_)
          · replace h := h.1 c
            refine J_aload_n dX1_holds_105 rfl rfl ?_
            refine J_getR dX1_holds_106 ck_1 fw_X1_24 rfl sh_62 rr_62_4 ?_
            refine J_iconst dX1_holds_109 (ii_c rfl) ?_
            refine J_iload dX1_holds_110 rfl ?_
            refine J_isubN dX1_holds_112 h.1 ?_
            replace h := h.2
            refine J_iald dX1_holds_113 sh_66 h.1.1 h.1.2 ?_
            replace h := h.2
            refine J_iast dX1_holds_114 sh_65 h.1.1 h.1.2 ?_
            replace h := h.2 _ rfl
            refine J_goto (tgt := 453) dX1_holds_115 (by decide) ?_
            refine J_iincN dX1_holds_453 rfl (by decide) h.1 ?_
            replace h := h.2
            change J _ _ _ _ _ _ [(0, _), (1, _), (2, _), (3, _), (4, _), (5, _)] _ _ _
            refine J_goto (tgt := 36) dX1_holds_456 (by decide) ?_
            exact J_loc (ls_sub [0, 1, 2, 3, 4] rfl) h
          · replace h := h.2 c
            refine J_iload dX1_holds_100 rfl ?_
            refine J_goto (tgt := 114) dX1_holds_102 (by decide) ?_
            refine J_iast dX1_holds_114 sh_65 h.1.1 h.1.2 ?_
            replace h := h.2 _ rfl
            refine J_goto (tgt := 453) dX1_holds_115 (by decide) ?_
            refine J_iincN dX1_holds_453 rfl (by decide) h.1 ?_
            replace h := h.2
            change J _ _ _ _ _ _ [(0, _), (1, _), (2, _), (3, _), (4, _), (5, _)] _ _ _
            refine J_goto (tgt := 36) dX1_holds_456 (by decide) ?_
            exact J_loc (ls_sub [0, 1, 2, 3, 4] rfl) h
        · replace h := h.2 c
          refine J_iconst dX1_holds_78 (ii_c rfl) ?_
          refine J_goto (tgt := 83) dX1_holds_79 (by decide) ?_
          refine J_ior dX1_holds_83 ?_
          refine J_putI dX1_holds_84 ck_1 fw_X1_76 rfl rfl (Or.inr ⟨rfl, h.1⟩) sh_62 ?_
          replace h := h.2
          replace h := h _ rfl
          refine J_aload_n dX1_holds_87 rfl rfl ?_
          refine J_getR dX1_holds_88 ck_1 fw_X1_21 rfl sh_62 rr_62_3 ?_
          refine J_iload_n dX1_holds_91 rfl rfl ?_
          refine J_iincN dX1_holds_92 rfl (by decide) h.1 ?_
          replace h := h.2
          change J _ _ _ _ _ _ [(0, _), (1, _), (2, _), (3, _), (4, _), (5, _)] _ _ _
          refine J_iload dX1_holds_95 rfl ?_
          refine J_if_lt (tgt := 105) dX1_holds_97 (by decide) (fun c => ?_) (fun c => ?_)
          · replace h := h.1 c
            refine J_aload_n dX1_holds_105 rfl rfl ?_
            refine J_getR dX1_holds_106 ck_1 fw_X1_24 rfl sh_62 rr_62_4 ?_
            refine J_iconst dX1_holds_109 (ii_c rfl) ?_
            refine J_iload dX1_holds_110 rfl ?_
            refine J_isubN dX1_holds_112 h.1 ?_
            replace h := h.2
            refine J_iald dX1_holds_113 sh_66 h.1.1 h.1.2 ?_
            replace h := h.2
            refine J_iast dX1_holds_114 sh_65 h.1.1 h.1.2 ?_
            replace h := h.2 _ rfl
            refine J_goto (tgt := 453) dX1_holds_115 (by decide) ?_
            refine J_iincN dX1_holds_453 rfl (by decide) h.1 ?_
            replace h := h.2
            change J _ _ _ _ _ _ [(0, _), (1, _), (2, _), (3, _), (4, _), (5, _)] _ _ _
            refine J_goto (tgt := 36) dX1_holds_456 (by decide) ?_
            exact J_loc (ls_sub [0, 1, 2, 3, 4] rfl) h
          · replace h := h.2 c
            refine J_iload dX1_holds_100 rfl ?_
            refine J_goto (tgt := 114) dX1_holds_102 (by decide) ?_
            refine J_iast dX1_holds_114 sh_65 h.1.1 h.1.2 ?_
            replace h := h.2 _ rfl
            refine J_goto (tgt := 453) dX1_holds_115 (by decide) ?_
            refine J_iincN dX1_holds_453 rfl (by decide) h.1 ?_
            replace h := h.2
            change J _ _ _ _ _ _ [(0, _), (1, _), (2, _), (3, _), (4, _), (5, _)] _ _ _
            refine J_goto (tgt := 36) dX1_holds_456 (by decide) ?_
            exact J_loc (ls_sub [0, 1, 2, 3, 4] rfl) h
set_option maxRecDepth 20000 in
set_option maxHeartbeats 2000000 in
theorem bk_X1_holds_150 {d : Nat} {I : HI} {Q : Option AV → AH → Prop} {a1 : Int} {a2 : Int} {a3 : Int} {a4 : Int} {a5 : Int}  (h : ((a2 ≤ 1 → (-2147483648 ≤ a4 + 1 ∧ a4 + 1 ≤ 2147483647) ∧ J none mX1_holds (d + 1) 0 0 36 [(0, vR 62), (1, vI a1), (2, vI a2), (3, vI a3), (4, vI (a4 + 1))] [] (mk I) Q) ∧ (¬ (a2 ≤ 1) → (-2147483648 ≤ a2 + (-1) ∧ a2 + (-1) ≤ 2147483647) ∧ (-2147483648 ≤ (a2 + (-1)) - 1 ∧ (a2 + (-1)) - 1 ≤ 2147483647) ∧ ((0 : Int) ≤ ((a2 + (-1)) - 1) ∧ ((a2 + (-1)) - 1 : Int) < 64) ∧ ((0 : Int) ≤ (a2 + (-1)) ∧ (a2 + (-1) : Int) < 64) ∧ (((a5 < -16 ∨ -6 < a5) → (-2147483648 ≤ (a2 + (-1)) - 1 ∧ (a2 + (-1)) - 1 ≤ 2147483647) ∧ (((lO (I 65 ((a2 + (-1)) - 1).toNat) (I 65 (a2 + (-1)).toNat)) ≤ 1000000 → (((-1000000) ≤ (lO (I 65 ((a2 + (-1)) - 1).toNat) (I 65 (a2 + (-1)).toNat)) → ((0 : Int) ≤ ((a2 + (-1)) - 1) ∧ ((a2 + (-1)) - 1 : Int) < 64) ∧ (∀ I1 : HI, I1 = up I 65 ((a2 + (-1)) - 1).toNat (l2 (lO (I 65 ((a2 + (-1)) - 1).toNat) (I 65 (a2 + (-1)).toNat))) → (-2147483648 ≤ a4 + 1 ∧ a4 + 1 ≤ 2147483647) ∧ J none mX1_holds (d + 1) 0 0 36 [(0, vR 62), (1, vI a1), (2, vI (a2 + (-1))), (3, vI a3), (4, vI (a4 + 1))] [] (mk I1) Q)) ∧ (¬ ((-1000000) ≤ (lO (I 65 ((a2 + (-1)) - 1).toNat) (I 65 (a2 + (-1)).toNat))) → ((0 : Int) ≤ ((a2 + (-1)) - 1) ∧ ((a2 + (-1)) - 1 : Int) < 64) ∧ (∀ I2 : HI, I2 = up I 65 ((a2 + (-1)) - 1).toNat (l2 (-1000000)) → (-2147483648 ≤ a4 + 1 ∧ a4 + 1 ≤ 2147483647) ∧ J none mX1_holds (d + 1) 0 0 36 [(0, vR 62), (1, vI a1), (2, vI (a2 + (-1))), (3, vI a3), (4, vI (a4 + 1))] [] (mk I2) Q)))) ∧ (¬ ((lO (I 65 ((a2 + (-1)) - 1).toNat) (I 65 (a2 + (-1)).toNat)) ≤ 1000000) → ((0 : Int) ≤ ((a2 + (-1)) - 1) ∧ ((a2 + (-1)) - 1 : Int) < 64) ∧ (∀ I3 : HI, I3 = up I 65 ((a2 + (-1)) - 1).toNat (l2 1000000) → (-2147483648 ≤ a4 + 1 ∧ a4 + 1 ≤ 2147483647) ∧ J none mX1_holds (d + 1) 0 0 36 [(0, vR 62), (1, vI a1), (2, vI (a2 + (-1))), (3, vI a3), (4, vI (a4 + 1))] [] (mk I3) Q)))) ∧ (a5 = (-16) → (-2147483648 ≤ (a2 + (-1)) - 1 ∧ (a2 + (-1)) - 1 ≤ 2147483647) ∧ (((lA (I 65 ((a2 + (-1)) - 1).toNat) (I 65 (a2 + (-1)).toNat)) ≤ 1000000 → (((-1000000) ≤ (lA (I 65 ((a2 + (-1)) - 1).toNat) (I 65 (a2 + (-1)).toNat)) → ((0 : Int) ≤ ((a2 + (-1)) - 1) ∧ ((a2 + (-1)) - 1 : Int) < 64) ∧ (∀ I4 : HI, I4 = up I 65 ((a2 + (-1)) - 1).toNat (l2 (lA (I 65 ((a2 + (-1)) - 1).toNat) (I 65 (a2 + (-1)).toNat))) → (-2147483648 ≤ a4 + 1 ∧ a4 + 1 ≤ 2147483647) ∧ J none mX1_holds (d + 1) 0 0 36 [(0, vR 62), (1, vI a1), (2, vI (a2 + (-1))), (3, vI a3), (4, vI (a4 + 1))] [] (mk I4) Q)) ∧ (¬ ((-1000000) ≤ (lA (I 65 ((a2 + (-1)) - 1).toNat) (I 65 (a2 + (-1)).toNat))) → ((0 : Int) ≤ ((a2 + (-1)) - 1) ∧ ((a2 + (-1)) - 1 : Int) < 64) ∧ (∀ I5 : HI, I5 = up I 65 ((a2 + (-1)) - 1).toNat (l2 (-1000000)) → (-2147483648 ≤ a4 + 1 ∧ a4 + 1 ≤ 2147483647) ∧ J none mX1_holds (d + 1) 0 0 36 [(0, vR 62), (1, vI a1), (2, vI (a2 + (-1))), (3, vI a3), (4, vI (a4 + 1))] [] (mk I5) Q)))) ∧ (¬ ((lA (I 65 ((a2 + (-1)) - 1).toNat) (I 65 (a2 + (-1)).toNat)) ≤ 1000000) → ((0 : Int) ≤ ((a2 + (-1)) - 1) ∧ ((a2 + (-1)) - 1 : Int) < 64) ∧ (∀ I6 : HI, I6 = up I 65 ((a2 + (-1)) - 1).toNat (l2 1000000) → (-2147483648 ≤ a4 + 1 ∧ a4 + 1 ≤ 2147483647) ∧ J none mX1_holds (d + 1) 0 0 36 [(0, vR 62), (1, vI a1), (2, vI (a2 + (-1))), (3, vI a3), (4, vI (a4 + 1))] [] (mk I6) Q)))) ∧ (a5 = (-15) → (-2147483648 ≤ (a2 + (-1)) - 1 ∧ (a2 + (-1)) - 1 ≤ 2147483647) ∧ (((lO (I 65 ((a2 + (-1)) - 1).toNat) (I 65 (a2 + (-1)).toNat)) ≤ 1000000 → (((-1000000) ≤ (lO (I 65 ((a2 + (-1)) - 1).toNat) (I 65 (a2 + (-1)).toNat)) → ((0 : Int) ≤ ((a2 + (-1)) - 1) ∧ ((a2 + (-1)) - 1 : Int) < 64) ∧ (∀ I7 : HI, I7 = up I 65 ((a2 + (-1)) - 1).toNat (l2 (lO (I 65 ((a2 + (-1)) - 1).toNat) (I 65 (a2 + (-1)).toNat))) → (-2147483648 ≤ a4 + 1 ∧ a4 + 1 ≤ 2147483647) ∧ J none mX1_holds (d + 1) 0 0 36 [(0, vR 62), (1, vI a1), (2, vI (a2 + (-1))), (3, vI a3), (4, vI (a4 + 1))] [] (mk I7) Q)) ∧ (¬ ((-1000000) ≤ (lO (I 65 ((a2 + (-1)) - 1).toNat) (I 65 (a2 + (-1)).toNat))) → ((0 : Int) ≤ ((a2 + (-1)) - 1) ∧ ((a2 + (-1)) - 1 : Int) < 64) ∧ (∀ I8 : HI, I8 = up I 65 ((a2 + (-1)) - 1).toNat (l2 (-1000000)) → (-2147483648 ≤ a4 + 1 ∧ a4 + 1 ≤ 2147483647) ∧ J none mX1_holds (d + 1) 0 0 36 [(0, vR 62), (1, vI a1), (2, vI (a2 + (-1))), (3, vI a3), (4, vI (a4 + 1))] [] (mk I8) Q)))) ∧ (¬ ((lO (I 65 ((a2 + (-1)) - 1).toNat) (I 65 (a2 + (-1)).toNat)) ≤ 1000000) → ((0 : Int) ≤ ((a2 + (-1)) - 1) ∧ ((a2 + (-1)) - 1 : Int) < 64) ∧ (∀ I9 : HI, I9 = up I 65 ((a2 + (-1)) - 1).toNat (l2 1000000) → (-2147483648 ≤ a4 + 1 ∧ a4 + 1 ≤ 2147483647) ∧ J none mX1_holds (d + 1) 0 0 36 [(0, vR 62), (1, vI a1), (2, vI (a2 + (-1))), (3, vI a3), (4, vI (a4 + 1))] [] (mk I9) Q)))) ∧ (a5 = (-14) → (((I 65 ((a2 + (-1)) - 1).toNat) ≠ (I 65 (a2 + (-1)).toNat) → (-2147483648 ≤ (a2 + (-1)) - 1 ∧ (a2 + (-1)) - 1 ≤ 2147483647) ∧ ((0 : Int) ≤ ((a2 + (-1)) - 1) ∧ ((a2 + (-1)) - 1 : Int) < 64) ∧ (∀ I10 : HI, I10 = up I 65 ((a2 + (-1)) - 1).toNat (l2 0) → (-2147483648 ≤ a4 + 1 ∧ a4 + 1 ≤ 2147483647) ∧ J none mX1_holds (d + 1) 0 0 36 [(0, vR 62), (1, vI a1), (2, vI (a2 + (-1))), (3, vI a3), (4, vI (a4 + 1))] [] (mk I10) Q)) ∧ ((I 65 ((a2 + (-1)) - 1).toNat) = (I 65 (a2 + (-1)).toNat) → (-2147483648 ≤ (a2 + (-1)) - 1 ∧ (a2 + (-1)) - 1 ≤ 2147483647) ∧ ((0 : Int) ≤ ((a2 + (-1)) - 1) ∧ ((a2 + (-1)) - 1 : Int) < 64) ∧ (∀ I11 : HI, I11 = up I 65 ((a2 + (-1)) - 1).toNat (l2 1) → (-2147483648 ≤ a4 + 1 ∧ a4 + 1 ≤ 2147483647) ∧ J none mX1_holds (d + 1) 0 0 36 [(0, vR 62), (1, vI a1), (2, vI (a2 + (-1))), (3, vI a3), (4, vI (a4 + 1))] [] (mk I11) Q)))) ∧ (a5 = (-13) → (((I 65 ((a2 + (-1)) - 1).toNat) ≤ (I 65 (a2 + (-1)).toNat) → (-2147483648 ≤ (a2 + (-1)) - 1 ∧ (a2 + (-1)) - 1 ≤ 2147483647) ∧ ((0 : Int) ≤ ((a2 + (-1)) - 1) ∧ ((a2 + (-1)) - 1 : Int) < 64) ∧ (∀ I12 : HI, I12 = up I 65 ((a2 + (-1)) - 1).toNat (l2 0) → (-2147483648 ≤ a4 + 1 ∧ a4 + 1 ≤ 2147483647) ∧ J none mX1_holds (d + 1) 0 0 36 [(0, vR 62), (1, vI a1), (2, vI (a2 + (-1))), (3, vI a3), (4, vI (a4 + 1))] [] (mk I12) Q)) ∧ (¬ ((I 65 ((a2 + (-1)) - 1).toNat) ≤ (I 65 (a2 + (-1)).toNat)) → (-2147483648 ≤ (a2 + (-1)) - 1 ∧ (a2 + (-1)) - 1 ≤ 2147483647) ∧ ((0 : Int) ≤ ((a2 + (-1)) - 1) ∧ ((a2 + (-1)) - 1 : Int) < 64) ∧ (∀ I13 : HI, I13 = up I 65 ((a2 + (-1)) - 1).toNat (l2 1) → (-2147483648 ≤ a4 + 1 ∧ a4 + 1 ≤ 2147483647) ∧ J none mX1_holds (d + 1) 0 0 36 [(0, vR 62), (1, vI a1), (2, vI (a2 + (-1))), (3, vI a3), (4, vI (a4 + 1))] [] (mk I13) Q)))) ∧ (a5 = (-12) → (((I 65 (a2 + (-1)).toNat) ≤ (I 65 ((a2 + (-1)) - 1).toNat) → (-2147483648 ≤ (a2 + (-1)) - 1 ∧ (a2 + (-1)) - 1 ≤ 2147483647) ∧ ((0 : Int) ≤ ((a2 + (-1)) - 1) ∧ ((a2 + (-1)) - 1 : Int) < 64) ∧ (∀ I14 : HI, I14 = up I 65 ((a2 + (-1)) - 1).toNat (l2 0) → (-2147483648 ≤ a4 + 1 ∧ a4 + 1 ≤ 2147483647) ∧ J none mX1_holds (d + 1) 0 0 36 [(0, vR 62), (1, vI a1), (2, vI (a2 + (-1))), (3, vI a3), (4, vI (a4 + 1))] [] (mk I14) Q)) ∧ (¬ ((I 65 (a2 + (-1)).toNat) ≤ (I 65 ((a2 + (-1)) - 1).toNat)) → (-2147483648 ≤ (a2 + (-1)) - 1 ∧ (a2 + (-1)) - 1 ≤ 2147483647) ∧ ((0 : Int) ≤ ((a2 + (-1)) - 1) ∧ ((a2 + (-1)) - 1 : Int) < 64) ∧ (∀ I15 : HI, I15 = up I 65 ((a2 + (-1)) - 1).toNat (l2 1) → (-2147483648 ≤ a4 + 1 ∧ a4 + 1 ≤ 2147483647) ∧ J none mX1_holds (d + 1) 0 0 36 [(0, vR 62), (1, vI a1), (2, vI (a2 + (-1))), (3, vI a3), (4, vI (a4 + 1))] [] (mk I15) Q)))) ∧ (a5 = (-11) → (((I 65 ((a2 + (-1)) - 1).toNat) ≤ (I 65 (a2 + (-1)).toNat) → (-2147483648 ≤ (a2 + (-1)) - 1 ∧ (a2 + (-1)) - 1 ≤ 2147483647) ∧ (((I 65 (a2 + (-1)).toNat) ≤ 1000000 → (((-1000000) ≤ (I 65 (a2 + (-1)).toNat) → ((0 : Int) ≤ ((a2 + (-1)) - 1) ∧ ((a2 + (-1)) - 1 : Int) < 64) ∧ (∀ I16 : HI, I16 = up I 65 ((a2 + (-1)) - 1).toNat (l2 (I 65 (a2 + (-1)).toNat)) → (-2147483648 ≤ a4 + 1 ∧ a4 + 1 ≤ 2147483647) ∧ J none mX1_holds (d + 1) 0 0 36 [(0, vR 62), (1, vI a1), (2, vI (a2 + (-1))), (3, vI a3), (4, vI (a4 + 1))] [] (mk I16) Q)) ∧ (¬ ((-1000000) ≤ (I 65 (a2 + (-1)).toNat)) → ((0 : Int) ≤ ((a2 + (-1)) - 1) ∧ ((a2 + (-1)) - 1 : Int) < 64) ∧ (∀ I17 : HI, I17 = up I 65 ((a2 + (-1)) - 1).toNat (l2 (-1000000)) → (-2147483648 ≤ a4 + 1 ∧ a4 + 1 ≤ 2147483647) ∧ J none mX1_holds (d + 1) 0 0 36 [(0, vR 62), (1, vI a1), (2, vI (a2 + (-1))), (3, vI a3), (4, vI (a4 + 1))] [] (mk I17) Q)))) ∧ (¬ ((I 65 (a2 + (-1)).toNat) ≤ 1000000) → ((0 : Int) ≤ ((a2 + (-1)) - 1) ∧ ((a2 + (-1)) - 1 : Int) < 64) ∧ (∀ I18 : HI, I18 = up I 65 ((a2 + (-1)) - 1).toNat (l2 1000000) → (-2147483648 ≤ a4 + 1 ∧ a4 + 1 ≤ 2147483647) ∧ J none mX1_holds (d + 1) 0 0 36 [(0, vR 62), (1, vI a1), (2, vI (a2 + (-1))), (3, vI a3), (4, vI (a4 + 1))] [] (mk I18) Q)))) ∧ (¬ ((I 65 ((a2 + (-1)) - 1).toNat) ≤ (I 65 (a2 + (-1)).toNat)) → (-2147483648 ≤ (a2 + (-1)) - 1 ∧ (a2 + (-1)) - 1 ≤ 2147483647) ∧ (((I 65 ((a2 + (-1)) - 1).toNat) ≤ 1000000 → (((-1000000) ≤ (I 65 ((a2 + (-1)) - 1).toNat) → ((0 : Int) ≤ ((a2 + (-1)) - 1) ∧ ((a2 + (-1)) - 1 : Int) < 64) ∧ (∀ I19 : HI, I19 = up I 65 ((a2 + (-1)) - 1).toNat (l2 (I 65 ((a2 + (-1)) - 1).toNat)) → (-2147483648 ≤ a4 + 1 ∧ a4 + 1 ≤ 2147483647) ∧ J none mX1_holds (d + 1) 0 0 36 [(0, vR 62), (1, vI a1), (2, vI (a2 + (-1))), (3, vI a3), (4, vI (a4 + 1))] [] (mk I19) Q)) ∧ (¬ ((-1000000) ≤ (I 65 ((a2 + (-1)) - 1).toNat)) → ((0 : Int) ≤ ((a2 + (-1)) - 1) ∧ ((a2 + (-1)) - 1 : Int) < 64) ∧ (∀ I20 : HI, I20 = up I 65 ((a2 + (-1)) - 1).toNat (l2 (-1000000)) → (-2147483648 ≤ a4 + 1 ∧ a4 + 1 ≤ 2147483647) ∧ J none mX1_holds (d + 1) 0 0 36 [(0, vR 62), (1, vI a1), (2, vI (a2 + (-1))), (3, vI a3), (4, vI (a4 + 1))] [] (mk I20) Q)))) ∧ (¬ ((I 65 ((a2 + (-1)) - 1).toNat) ≤ 1000000) → ((0 : Int) ≤ ((a2 + (-1)) - 1) ∧ ((a2 + (-1)) - 1 : Int) < 64) ∧ (∀ I21 : HI, I21 = up I 65 ((a2 + (-1)) - 1).toNat (l2 1000000) → (-2147483648 ≤ a4 + 1 ∧ a4 + 1 ≤ 2147483647) ∧ J none mX1_holds (d + 1) 0 0 36 [(0, vR 62), (1, vI a1), (2, vI (a2 + (-1))), (3, vI a3), (4, vI (a4 + 1))] [] (mk I21) Q)))))) ∧ (a5 = (-10) → (((I 65 (a2 + (-1)).toNat) ≤ (I 65 ((a2 + (-1)) - 1).toNat) → (-2147483648 ≤ (a2 + (-1)) - 1 ∧ (a2 + (-1)) - 1 ≤ 2147483647) ∧ (((I 65 (a2 + (-1)).toNat) ≤ 1000000 → (((-1000000) ≤ (I 65 (a2 + (-1)).toNat) → ((0 : Int) ≤ ((a2 + (-1)) - 1) ∧ ((a2 + (-1)) - 1 : Int) < 64) ∧ (∀ I22 : HI, I22 = up I 65 ((a2 + (-1)) - 1).toNat (l2 (I 65 (a2 + (-1)).toNat)) → (-2147483648 ≤ a4 + 1 ∧ a4 + 1 ≤ 2147483647) ∧ J none mX1_holds (d + 1) 0 0 36 [(0, vR 62), (1, vI a1), (2, vI (a2 + (-1))), (3, vI a3), (4, vI (a4 + 1))] [] (mk I22) Q)) ∧ (¬ ((-1000000) ≤ (I 65 (a2 + (-1)).toNat)) → ((0 : Int) ≤ ((a2 + (-1)) - 1) ∧ ((a2 + (-1)) - 1 : Int) < 64) ∧ (∀ I23 : HI, I23 = up I 65 ((a2 + (-1)) - 1).toNat (l2 (-1000000)) → (-2147483648 ≤ a4 + 1 ∧ a4 + 1 ≤ 2147483647) ∧ J none mX1_holds (d + 1) 0 0 36 [(0, vR 62), (1, vI a1), (2, vI (a2 + (-1))), (3, vI a3), (4, vI (a4 + 1))] [] (mk I23) Q)))) ∧ (¬ ((I 65 (a2 + (-1)).toNat) ≤ 1000000) → ((0 : Int) ≤ ((a2 + (-1)) - 1) ∧ ((a2 + (-1)) - 1 : Int) < 64) ∧ (∀ I24 : HI, I24 = up I 65 ((a2 + (-1)) - 1).toNat (l2 1000000) → (-2147483648 ≤ a4 + 1 ∧ a4 + 1 ≤ 2147483647) ∧ J none mX1_holds (d + 1) 0 0 36 [(0, vR 62), (1, vI a1), (2, vI (a2 + (-1))), (3, vI a3), (4, vI (a4 + 1))] [] (mk I24) Q)))) ∧ (¬ ((I 65 (a2 + (-1)).toNat) ≤ (I 65 ((a2 + (-1)) - 1).toNat)) → (-2147483648 ≤ (a2 + (-1)) - 1 ∧ (a2 + (-1)) - 1 ≤ 2147483647) ∧ (((I 65 ((a2 + (-1)) - 1).toNat) ≤ 1000000 → (((-1000000) ≤ (I 65 ((a2 + (-1)) - 1).toNat) → ((0 : Int) ≤ ((a2 + (-1)) - 1) ∧ ((a2 + (-1)) - 1 : Int) < 64) ∧ (∀ I25 : HI, I25 = up I 65 ((a2 + (-1)) - 1).toNat (l2 (I 65 ((a2 + (-1)) - 1).toNat)) → (-2147483648 ≤ a4 + 1 ∧ a4 + 1 ≤ 2147483647) ∧ J none mX1_holds (d + 1) 0 0 36 [(0, vR 62), (1, vI a1), (2, vI (a2 + (-1))), (3, vI a3), (4, vI (a4 + 1))] [] (mk I25) Q)) ∧ (¬ ((-1000000) ≤ (I 65 ((a2 + (-1)) - 1).toNat)) → ((0 : Int) ≤ ((a2 + (-1)) - 1) ∧ ((a2 + (-1)) - 1 : Int) < 64) ∧ (∀ I26 : HI, I26 = up I 65 ((a2 + (-1)) - 1).toNat (l2 (-1000000)) → (-2147483648 ≤ a4 + 1 ∧ a4 + 1 ≤ 2147483647) ∧ J none mX1_holds (d + 1) 0 0 36 [(0, vR 62), (1, vI a1), (2, vI (a2 + (-1))), (3, vI a3), (4, vI (a4 + 1))] [] (mk I26) Q)))) ∧ (¬ ((I 65 ((a2 + (-1)) - 1).toNat) ≤ 1000000) → ((0 : Int) ≤ ((a2 + (-1)) - 1) ∧ ((a2 + (-1)) - 1 : Int) < 64) ∧ (∀ I27 : HI, I27 = up I 65 ((a2 + (-1)) - 1).toNat (l2 1000000) → (-2147483648 ≤ a4 + 1 ∧ a4 + 1 ≤ 2147483647) ∧ J none mX1_holds (d + 1) 0 0 36 [(0, vR 62), (1, vI a1), (2, vI (a2 + (-1))), (3, vI a3), (4, vI (a4 + 1))] [] (mk I27) Q)))))) ∧ (a5 = (-9) → (((I 65 (a2 + (-1)).toNat) ≠ 0 → CI mJ9_floorDiv_7cf53 d [vI (l2 (I 65 ((a2 + (-1)) - 1).toNat)), vI (I 65 (a2 + (-1)).toNat)] I (fun x1 I28 => (-2147483648 ≤ (a2 + (-1)) - 1 ∧ (a2 + (-1)) - 1 ≤ 2147483647) ∧ ((x1 ≤ 1000000 → (((-1000000) ≤ x1 → ((0 : Int) ≤ ((a2 + (-1)) - 1) ∧ ((a2 + (-1)) - 1 : Int) < 64) ∧ (∀ I29 : HI, I29 = up I28 65 ((a2 + (-1)) - 1).toNat (l2 x1) → (-2147483648 ≤ a4 + 1 ∧ a4 + 1 ≤ 2147483647) ∧ J none mX1_holds (d + 1) 0 0 36 [(0, vR 62), (1, vI a1), (2, vI (a2 + (-1))), (3, vI a3), (4, vI (a4 + 1))] [] (mk I29) Q)) ∧ (¬ ((-1000000) ≤ x1) → ((0 : Int) ≤ ((a2 + (-1)) - 1) ∧ ((a2 + (-1)) - 1 : Int) < 64) ∧ (∀ I30 : HI, I30 = up I28 65 ((a2 + (-1)) - 1).toNat (l2 (-1000000)) → (-2147483648 ≤ a4 + 1 ∧ a4 + 1 ≤ 2147483647) ∧ J none mX1_holds (d + 1) 0 0 36 [(0, vR 62), (1, vI a1), (2, vI (a2 + (-1))), (3, vI a3), (4, vI (a4 + 1))] [] (mk I30) Q)))) ∧ (¬ (x1 ≤ 1000000) → ((0 : Int) ≤ ((a2 + (-1)) - 1) ∧ ((a2 + (-1)) - 1 : Int) < 64) ∧ (∀ I31 : HI, I31 = up I28 65 ((a2 + (-1)) - 1).toNat (l2 1000000) → (-2147483648 ≤ a4 + 1 ∧ a4 + 1 ≤ 2147483647) ∧ J none mX1_holds (d + 1) 0 0 36 [(0, vR 62), (1, vI a1), (2, vI (a2 + (-1))), (3, vI a3), (4, vI (a4 + 1))] [] (mk I31) Q))))) ∧ ((I 65 (a2 + (-1)).toNat) = 0 → (-2147483648 ≤ (a2 + (-1)) - 1 ∧ (a2 + (-1)) - 1 ≤ 2147483647) ∧ ((0 : Int) ≤ ((a2 + (-1)) - 1) ∧ ((a2 + (-1)) - 1 : Int) < 64) ∧ (∀ I32 : HI, I32 = up I 65 ((a2 + (-1)) - 1).toNat (l2 0) → (-2147483648 ≤ a4 + 1 ∧ a4 + 1 ≤ 2147483647) ∧ J none mX1_holds (d + 1) 0 0 36 [(0, vR 62), (1, vI a1), (2, vI (a2 + (-1))), (3, vI a3), (4, vI (a4 + 1))] [] (mk I32) Q)))) ∧ (a5 = (-8) → (-9223372036854775808 ≤ (I 65 ((a2 + (-1)) - 1).toNat) * (I 65 (a2 + (-1)).toNat) ∧ (I 65 ((a2 + (-1)) - 1).toNat) * (I 65 (a2 + (-1)).toNat) ≤ 9223372036854775807) ∧ (-2147483648 ≤ (a2 + (-1)) - 1 ∧ (a2 + (-1)) - 1 ≤ 2147483647) ∧ ((((I 65 ((a2 + (-1)) - 1).toNat) * (I 65 (a2 + (-1)).toNat)) ≤ 1000000 → (((-1000000) ≤ ((I 65 ((a2 + (-1)) - 1).toNat) * (I 65 (a2 + (-1)).toNat)) → ((0 : Int) ≤ ((a2 + (-1)) - 1) ∧ ((a2 + (-1)) - 1 : Int) < 64) ∧ (∀ I33 : HI, I33 = up I 65 ((a2 + (-1)) - 1).toNat (l2 ((I 65 ((a2 + (-1)) - 1).toNat) * (I 65 (a2 + (-1)).toNat))) → (-2147483648 ≤ a4 + 1 ∧ a4 + 1 ≤ 2147483647) ∧ J none mX1_holds (d + 1) 0 0 36 [(0, vR 62), (1, vI a1), (2, vI (a2 + (-1))), (3, vI a3), (4, vI (a4 + 1))] [] (mk I33) Q)) ∧ (¬ ((-1000000) ≤ ((I 65 ((a2 + (-1)) - 1).toNat) * (I 65 (a2 + (-1)).toNat))) → ((0 : Int) ≤ ((a2 + (-1)) - 1) ∧ ((a2 + (-1)) - 1 : Int) < 64) ∧ (∀ I34 : HI, I34 = up I 65 ((a2 + (-1)) - 1).toNat (l2 (-1000000)) → (-2147483648 ≤ a4 + 1 ∧ a4 + 1 ≤ 2147483647) ∧ J none mX1_holds (d + 1) 0 0 36 [(0, vR 62), (1, vI a1), (2, vI (a2 + (-1))), (3, vI a3), (4, vI (a4 + 1))] [] (mk I34) Q)))) ∧ (¬ (((I 65 ((a2 + (-1)) - 1).toNat) * (I 65 (a2 + (-1)).toNat)) ≤ 1000000) → ((0 : Int) ≤ ((a2 + (-1)) - 1) ∧ ((a2 + (-1)) - 1 : Int) < 64) ∧ (∀ I35 : HI, I35 = up I 65 ((a2 + (-1)) - 1).toNat (l2 1000000) → (-2147483648 ≤ a4 + 1 ∧ a4 + 1 ≤ 2147483647) ∧ J none mX1_holds (d + 1) 0 0 36 [(0, vR 62), (1, vI a1), (2, vI (a2 + (-1))), (3, vI a3), (4, vI (a4 + 1))] [] (mk I35) Q)))) ∧ (a5 = (-7) → (-9223372036854775808 ≤ (I 65 ((a2 + (-1)) - 1).toNat) - (I 65 (a2 + (-1)).toNat) ∧ (I 65 ((a2 + (-1)) - 1).toNat) - (I 65 (a2 + (-1)).toNat) ≤ 9223372036854775807) ∧ (-2147483648 ≤ (a2 + (-1)) - 1 ∧ (a2 + (-1)) - 1 ≤ 2147483647) ∧ ((((I 65 ((a2 + (-1)) - 1).toNat) - (I 65 (a2 + (-1)).toNat)) ≤ 1000000 → (((-1000000) ≤ ((I 65 ((a2 + (-1)) - 1).toNat) - (I 65 (a2 + (-1)).toNat)) → ((0 : Int) ≤ ((a2 + (-1)) - 1) ∧ ((a2 + (-1)) - 1 : Int) < 64) ∧ (∀ I36 : HI, I36 = up I 65 ((a2 + (-1)) - 1).toNat (l2 ((I 65 ((a2 + (-1)) - 1).toNat) - (I 65 (a2 + (-1)).toNat))) → (-2147483648 ≤ a4 + 1 ∧ a4 + 1 ≤ 2147483647) ∧ J none mX1_holds (d + 1) 0 0 36 [(0, vR 62), (1, vI a1), (2, vI (a2 + (-1))), (3, vI a3), (4, vI (a4 + 1))] [] (mk I36) Q)) ∧ (¬ ((-1000000) ≤ ((I 65 ((a2 + (-1)) - 1).toNat) - (I 65 (a2 + (-1)).toNat))) → ((0 : Int) ≤ ((a2 + (-1)) - 1) ∧ ((a2 + (-1)) - 1 : Int) < 64) ∧ (∀ I37 : HI, I37 = up I 65 ((a2 + (-1)) - 1).toNat (l2 (-1000000)) → (-2147483648 ≤ a4 + 1 ∧ a4 + 1 ≤ 2147483647) ∧ J none mX1_holds (d + 1) 0 0 36 [(0, vR 62), (1, vI a1), (2, vI (a2 + (-1))), (3, vI a3), (4, vI (a4 + 1))] [] (mk I37) Q)))) ∧ (¬ (((I 65 ((a2 + (-1)) - 1).toNat) - (I 65 (a2 + (-1)).toNat)) ≤ 1000000) → ((0 : Int) ≤ ((a2 + (-1)) - 1) ∧ ((a2 + (-1)) - 1 : Int) < 64) ∧ (∀ I38 : HI, I38 = up I 65 ((a2 + (-1)) - 1).toNat (l2 1000000) → (-2147483648 ≤ a4 + 1 ∧ a4 + 1 ≤ 2147483647) ∧ J none mX1_holds (d + 1) 0 0 36 [(0, vR 62), (1, vI a1), (2, vI (a2 + (-1))), (3, vI a3), (4, vI (a4 + 1))] [] (mk I38) Q)))) ∧ (a5 = (-6) → (-9223372036854775808 ≤ (I 65 ((a2 + (-1)) - 1).toNat) + (I 65 (a2 + (-1)).toNat) ∧ (I 65 ((a2 + (-1)) - 1).toNat) + (I 65 (a2 + (-1)).toNat) ≤ 9223372036854775807) ∧ (-2147483648 ≤ (a2 + (-1)) - 1 ∧ (a2 + (-1)) - 1 ≤ 2147483647) ∧ ((((I 65 ((a2 + (-1)) - 1).toNat) + (I 65 (a2 + (-1)).toNat)) ≤ 1000000 → (((-1000000) ≤ ((I 65 ((a2 + (-1)) - 1).toNat) + (I 65 (a2 + (-1)).toNat)) → ((0 : Int) ≤ ((a2 + (-1)) - 1) ∧ ((a2 + (-1)) - 1 : Int) < 64) ∧ (∀ I39 : HI, I39 = up I 65 ((a2 + (-1)) - 1).toNat (l2 ((I 65 ((a2 + (-1)) - 1).toNat) + (I 65 (a2 + (-1)).toNat))) → (-2147483648 ≤ a4 + 1 ∧ a4 + 1 ≤ 2147483647) ∧ J none mX1_holds (d + 1) 0 0 36 [(0, vR 62), (1, vI a1), (2, vI (a2 + (-1))), (3, vI a3), (4, vI (a4 + 1))] [] (mk I39) Q)) ∧ (¬ ((-1000000) ≤ ((I 65 ((a2 + (-1)) - 1).toNat) + (I 65 (a2 + (-1)).toNat))) → ((0 : Int) ≤ ((a2 + (-1)) - 1) ∧ ((a2 + (-1)) - 1 : Int) < 64) ∧ (∀ I40 : HI, I40 = up I 65 ((a2 + (-1)) - 1).toNat (l2 (-1000000)) → (-2147483648 ≤ a4 + 1 ∧ a4 + 1 ≤ 2147483647) ∧ J none mX1_holds (d + 1) 0 0 36 [(0, vR 62), (1, vI a1), (2, vI (a2 + (-1))), (3, vI a3), (4, vI (a4 + 1))] [] (mk I40) Q)))) ∧ (¬ (((I 65 ((a2 + (-1)) - 1).toNat) + (I 65 (a2 + (-1)).toNat)) ≤ 1000000) → ((0 : Int) ≤ ((a2 + (-1)) - 1) ∧ ((a2 + (-1)) - 1 : Int) < 64) ∧ (∀ I41 : HI, I41 = up I 65 ((a2 + (-1)) - 1).toNat (l2 1000000) → (-2147483648 ≤ a4 + 1 ∧ a4 + 1 ≤ 2147483647) ∧ J none mX1_holds (d + 1) 0 0 36 [(0, vR 62), (1, vI a1), (2, vI (a2 + (-1))), (3, vI a3), (4, vI (a4 + 1))] [] (mk I41) Q)))))))) : J none mX1_holds (d + 1) 0 0 150 [(0, vR 62), (1, vI a1), (2, vI a2), (3, vI a3), (4, vI a4), (5, vI a5)] [] (mk I) Q := by
  refine J_iload_n dX1_holds_150 rfl rfl ?_
  refine J_iconst dX1_holds_151 (ii_c rfl) ?_
  refine J_ic_le (tgt := 453) dX1_holds_152 (by decide) (fun c => ?_) (fun c => ?_)
  · replace h := h.1 c
    refine J_iincN dX1_holds_453 rfl (by decide) h.1 ?_
    replace h := h.2
    change J _ _ _ _ _ _ [(0, _), (1, _), (2, _), (3, _), (4, _), (5, _)] _ _ _
    refine J_goto (tgt := 36) dX1_holds_456 (by decide) ?_
    exact J_loc (ls_sub [0, 1, 2, 3, 4] rfl) h
  · replace h := h.2 c
    refine J_iincN dX1_holds_155 rfl (by decide) h.1 ?_
    replace h := h.2
    change J _ _ _ _ _ _ [(0, _), (1, _), (2, _), (3, _), (4, _), (5, _)] _ _ _
    refine J_aload_n dX1_holds_158 rfl rfl ?_
    refine J_getR dX1_holds_159 ck_1 fw_X1_21 rfl sh_62 rr_62_3 ?_
    refine J_iload_n dX1_holds_162 rfl rfl ?_
    refine J_iconst dX1_holds_163 (ii_c rfl) ?_
    refine J_isubN dX1_holds_164 h.1 ?_
    replace h := h.2
    refine J_iald dX1_holds_165 sh_65 h.1.1 h.1.2 ?_
    replace h := h.2
    refine J_i2l dX1_holds_166 ?_
    refine J_lstore dX1_holds_167 (by decide) ?_
    change J _ _ _ _ _ _ [(0, _), (1, _), (2, _), (3, _), (4, _), (5, _), (6, _)] _ _ _
    refine J_aload_n dX1_holds_169 rfl rfl ?_
    refine J_getR dX1_holds_170 ck_1 fw_X1_21 rfl sh_62 rr_62_3 ?_
    refine J_iload_n dX1_holds_173 rfl rfl ?_
    refine J_iald dX1_holds_174 sh_65 h.1.1 h.1.2 ?_
    replace h := h.2
    refine J_istore dX1_holds_175 (by decide) ?_
    change J _ _ _ _ _ _ [(0, _), (1, _), (2, _), (3, _), (4, _), (5, _), (6, _), (8, _)] _ _ _
    refine J_iload dX1_holds_177 rfl ?_
    rcases (show (a5 < -16 ∨ -6 < a5) ∨ a5 = (-16) ∨ a5 = (-15) ∨ a5 = (-14) ∨ a5 = (-13) ∨ a5 = (-12) ∨ a5 = (-11) ∨ a5 = (-10) ∨ a5 = (-9) ∨ a5 = (-8) ∨ a5 = (-7) ∨ a5 = (-6) by omega) with c | c | c | c | c | c | c | c | c | c | c | c
    · replace h := h.1 c
      refine J_tabOut (tgt := 404) dX1_holds_179 c (by decide) ?_
      refine J_lload dX1_holds_404 rfl ?_
      refine J_iload dX1_holds_406 rfl ?_
      refine J_i2l dX1_holds_408 ?_
      refine J_lor dX1_holds_409 ?_
      refine J_lstore dX1_holds_410 (by decide) ?_
      change J _ _ _ _ _ _ [(0, _), (1, _), (2, _), (3, _), (4, _), (5, _), (6, _), (8, _)] _ _ _
      refine J_aload_n dX1_holds_412 rfl rfl ?_
      refine J_getR dX1_holds_413 ck_1 fw_X1_21 rfl sh_62 rr_62_3 ?_
      refine J_iload_n dX1_holds_416 rfl rfl ?_
      refine J_iconst dX1_holds_417 (ii_c rfl) ?_
      refine J_isubN dX1_holds_418 h.1 ?_
      replace h := h.2
      refine J_lload dX1_holds_419 rfl ?_
      refine J_ldc2 1000000 dX1_holds_421 kw_X1_93 (ll_c rfl) ?_
      refine J_lcmp dX1_holds_424 ?_
      refine J_if_le (tgt := 434) dX1_holds_425 (by decide) (fun c => ?_) (fun c => ?_)
      · replace h := h.1 (lC_le.mp c)
        refine J_lload dX1_holds_434 rfl ?_
        refine J_ldc2 (-1000000) dX1_holds_436 kw_X1_95 (ll_c rfl) ?_
        refine J_lcmp dX1_holds_439 ?_
        refine J_if_ge (tgt := 449) dX1_holds_440 (by decide) (fun c => ?_) (fun c => ?_)
        · replace h := h.1 (lC_ge.mp c)
          refine J_lload dX1_holds_449 rfl ?_
          refine J_l2i dX1_holds_451 ?_
          refine J_iast dX1_holds_452 sh_65 h.1.1 h.1.2 ?_
          replace h := h.2 _ rfl
          refine J_iincN dX1_holds_453 rfl (by decide) h.1 ?_
          replace h := h.2
          change J _ _ _ _ _ _ [(0, _), (1, _), (2, _), (3, _), (4, _), (5, _), (6, _), (8, _)] _ _ _
          refine J_goto (tgt := 36) dX1_holds_456 (by decide) ?_
          exact J_loc (ls_sub [0, 1, 2, 3, 4] rfl) h
        · replace h := h.2 (fun w => c (lC_ge.mpr w))
          refine J_ldc2 (-1000000) dX1_holds_443 kw_X1_95 (ll_c rfl) ?_
          refine J_goto (tgt := 451) dX1_holds_446 (by decide) ?_
          refine J_l2i dX1_holds_451 ?_
          refine J_iast dX1_holds_452 sh_65 h.1.1 h.1.2 ?_
          replace h := h.2 _ rfl
          refine J_iincN dX1_holds_453 rfl (by decide) h.1 ?_
          replace h := h.2
          change J _ _ _ _ _ _ [(0, _), (1, _), (2, _), (3, _), (4, _), (5, _), (6, _), (8, _)] _ _ _
          refine J_goto (tgt := 36) dX1_holds_456 (by decide) ?_
          exact J_loc (ls_sub [0, 1, 2, 3, 4] rfl) h
      · replace h := h.2 (fun w => c (lC_le.mpr w))
        refine J_ldc2 1000000 dX1_holds_428 kw_X1_93 (ll_c rfl) ?_
        refine J_goto (tgt := 451) dX1_holds_431 (by decide) ?_
        refine J_l2i dX1_holds_451 ?_
        refine J_iast dX1_holds_452 sh_65 h.1.1 h.1.2 ?_
        replace h := h.2 _ rfl
        refine J_iincN dX1_holds_453 rfl (by decide) h.1 ?_
        replace h := h.2
        change J _ _ _ _ _ _ [(0, _), (1, _), (2, _), (3, _), (4, _), (5, _), (6, _), (8, _)] _ _ _
        refine J_goto (tgt := 36) dX1_holds_456 (by decide) ?_
        exact J_loc (ls_sub [0, 1, 2, 3, 4] rfl) h
    · replace h := h.2.1 c
      refine J_tabIn (tgt := 393) (off := 214) dX1_holds_179 (by omega) (by omega) (by rw [c]; rfl) (by decide) ?_
      refine J_lload dX1_holds_393 rfl ?_
      refine J_iload dX1_holds_395 rfl ?_
      refine J_i2l dX1_holds_397 ?_
      refine J_land dX1_holds_398 ?_
      refine J_lstore dX1_holds_399 (by decide) ?_
      change J _ _ _ _ _ _ [(0, _), (1, _), (2, _), (3, _), (4, _), (5, _), (6, _), (8, _)] _ _ _
      refine J_goto (tgt := 412) dX1_holds_401 (by decide) ?_
      refine J_aload_n dX1_holds_412 rfl rfl ?_
      refine J_getR dX1_holds_413 ck_1 fw_X1_21 rfl sh_62 rr_62_3 ?_
      refine J_iload_n dX1_holds_416 rfl rfl ?_
      refine J_iconst dX1_holds_417 (ii_c rfl) ?_
      refine J_isubN dX1_holds_418 h.1 ?_
      replace h := h.2
      refine J_lload dX1_holds_419 rfl ?_
      refine J_ldc2 1000000 dX1_holds_421 kw_X1_93 (ll_c rfl) ?_
      refine J_lcmp dX1_holds_424 ?_
      refine J_if_le (tgt := 434) dX1_holds_425 (by decide) (fun c => ?_) (fun c => ?_)
      · replace h := h.1 (lC_le.mp c)
        refine J_lload dX1_holds_434 rfl ?_
        refine J_ldc2 (-1000000) dX1_holds_436 kw_X1_95 (ll_c rfl) ?_
        refine J_lcmp dX1_holds_439 ?_
        refine J_if_ge (tgt := 449) dX1_holds_440 (by decide) (fun c => ?_) (fun c => ?_)
        · replace h := h.1 (lC_ge.mp c)
          refine J_lload dX1_holds_449 rfl ?_
          refine J_l2i dX1_holds_451 ?_
          refine J_iast dX1_holds_452 sh_65 h.1.1 h.1.2 ?_
          replace h := h.2 _ rfl
          refine J_iincN dX1_holds_453 rfl (by decide) h.1 ?_
          replace h := h.2
          change J _ _ _ _ _ _ [(0, _), (1, _), (2, _), (3, _), (4, _), (5, _), (6, _), (8, _)] _ _ _
          refine J_goto (tgt := 36) dX1_holds_456 (by decide) ?_
          exact J_loc (ls_sub [0, 1, 2, 3, 4] rfl) h
        · replace h := h.2 (fun w => c (lC_ge.mpr w))
          refine J_ldc2 (-1000000) dX1_holds_443 kw_X1_95 (ll_c rfl) ?_
          refine J_goto (tgt := 451) dX1_holds_446 (by decide) ?_
          refine J_l2i dX1_holds_451 ?_
          refine J_iast dX1_holds_452 sh_65 h.1.1 h.1.2 ?_
          replace h := h.2 _ rfl
          refine J_iincN dX1_holds_453 rfl (by decide) h.1 ?_
          replace h := h.2
          change J _ _ _ _ _ _ [(0, _), (1, _), (2, _), (3, _), (4, _), (5, _), (6, _), (8, _)] _ _ _
          refine J_goto (tgt := 36) dX1_holds_456 (by decide) ?_
          exact J_loc (ls_sub [0, 1, 2, 3, 4] rfl) h
      · replace h := h.2 (fun w => c (lC_le.mpr w))
        refine J_ldc2 1000000 dX1_holds_428 kw_X1_93 (ll_c rfl) ?_
        refine J_goto (tgt := 451) dX1_holds_431 (by decide) ?_
        refine J_l2i dX1_holds_451 ?_
        refine J_iast dX1_holds_452 sh_65 h.1.1 h.1.2 ?_
        replace h := h.2 _ rfl
        refine J_iincN dX1_holds_453 rfl (by decide) h.1 ?_
        replace h := h.2
        change J _ _ _ _ _ _ [(0, _), (1, _), (2, _), (3, _), (4, _), (5, _), (6, _), (8, _)] _ _ _
        refine J_goto (tgt := 36) dX1_holds_456 (by decide) ?_
        exact J_loc (ls_sub [0, 1, 2, 3, 4] rfl) h
    · replace h := h.2.2.1 c
      refine J_tabIn (tgt := 404) (off := 225) dX1_holds_179 (by omega) (by omega) (by rw [c]; rfl) (by decide) ?_
      refine J_lload dX1_holds_404 rfl ?_
      refine J_iload dX1_holds_406 rfl ?_
      refine J_i2l dX1_holds_408 ?_
      refine J_lor dX1_holds_409 ?_
      refine J_lstore dX1_holds_410 (by decide) ?_
      change J _ _ _ _ _ _ [(0, _), (1, _), (2, _), (3, _), (4, _), (5, _), (6, _), (8, _)] _ _ _
      refine J_aload_n dX1_holds_412 rfl rfl ?_
      refine J_getR dX1_holds_413 ck_1 fw_X1_21 rfl sh_62 rr_62_3 ?_
      refine J_iload_n dX1_holds_416 rfl rfl ?_
      refine J_iconst dX1_holds_417 (ii_c rfl) ?_
      refine J_isubN dX1_holds_418 h.1 ?_
      replace h := h.2
      refine J_lload dX1_holds_419 rfl ?_
      refine J_ldc2 1000000 dX1_holds_421 kw_X1_93 (ll_c rfl) ?_
      refine J_lcmp dX1_holds_424 ?_
      refine J_if_le (tgt := 434) dX1_holds_425 (by decide) (fun c => ?_) (fun c => ?_)
      · replace h := h.1 (lC_le.mp c)
        refine J_lload dX1_holds_434 rfl ?_
        refine J_ldc2 (-1000000) dX1_holds_436 kw_X1_95 (ll_c rfl) ?_
        refine J_lcmp dX1_holds_439 ?_
        refine J_if_ge (tgt := 449) dX1_holds_440 (by decide) (fun c => ?_) (fun c => ?_)
        · replace h := h.1 (lC_ge.mp c)
          refine J_lload dX1_holds_449 rfl ?_
          refine J_l2i dX1_holds_451 ?_
          refine J_iast dX1_holds_452 sh_65 h.1.1 h.1.2 ?_
          replace h := h.2 _ rfl
          refine J_iincN dX1_holds_453 rfl (by decide) h.1 ?_
          replace h := h.2
          change J _ _ _ _ _ _ [(0, _), (1, _), (2, _), (3, _), (4, _), (5, _), (6, _), (8, _)] _ _ _
          refine J_goto (tgt := 36) dX1_holds_456 (by decide) ?_
          exact J_loc (ls_sub [0, 1, 2, 3, 4] rfl) h
        · replace h := h.2 (fun w => c (lC_ge.mpr w))
          refine J_ldc2 (-1000000) dX1_holds_443 kw_X1_95 (ll_c rfl) ?_
          refine J_goto (tgt := 451) dX1_holds_446 (by decide) ?_
          refine J_l2i dX1_holds_451 ?_
          refine J_iast dX1_holds_452 sh_65 h.1.1 h.1.2 ?_
          replace h := h.2 _ rfl
          refine J_iincN dX1_holds_453 rfl (by decide) h.1 ?_
          replace h := h.2
          change J _ _ _ _ _ _ [(0, _), (1, _), (2, _), (3, _), (4, _), (5, _), (6, _), (8, _)] _ _ _
          refine J_goto (tgt := 36) dX1_holds_456 (by decide) ?_
          exact J_loc (ls_sub [0, 1, 2, 3, 4] rfl) h
      · replace h := h.2 (fun w => c (lC_le.mpr w))
        refine J_ldc2 1000000 dX1_holds_428 kw_X1_93 (ll_c rfl) ?_
        refine J_goto (tgt := 451) dX1_holds_431 (by decide) ?_
        refine J_l2i dX1_holds_451 ?_
        refine J_iast dX1_holds_452 sh_65 h.1.1 h.1.2 ?_
        replace h := h.2 _ rfl
        refine J_iincN dX1_holds_453 rfl (by decide) h.1 ?_
        replace h := h.2
        change J _ _ _ _ _ _ [(0, _), (1, _), (2, _), (3, _), (4, _), (5, _), (6, _), (8, _)] _ _ _
        refine J_goto (tgt := 36) dX1_holds_456 (by decide) ?_
        exact J_loc (ls_sub [0, 1, 2, 3, 4] rfl) h
    · replace h := h.2.2.2.1 c
      refine J_tabIn (tgt := 374) (off := 195) dX1_holds_179 (by omega) (by omega) (by rw [c]; rfl) (by decide) ?_
      refine J_lload dX1_holds_374 rfl ?_
      refine J_iload dX1_holds_376 rfl ?_
      refine J_i2l dX1_holds_378 ?_
      refine J_lcmp dX1_holds_379 ?_
      refine J_if_ne (tgt := 387) dX1_holds_380 (by decide) (fun c => ?_) (fun c => ?_)
      · replace h := h.1 (fun w => c (lC_eq.mpr w))
        refine J_lconst 0 dX1_holds_387 (ll_c rfl) (by decide) ?_
        refine J_lstore dX1_holds_388 (by decide) ?_
        change J _ _ _ _ _ _ [(0, _), (1, _), (2, _), (3, _), (4, _), (5, _), (6, _), (8, _)] _ _ _
        refine J_goto (tgt := 412) dX1_holds_390 (by decide) ?_
        refine J_aload_n dX1_holds_412 rfl rfl ?_
        refine J_getR dX1_holds_413 ck_1 fw_X1_21 rfl sh_62 rr_62_3 ?_
        refine J_iload_n dX1_holds_416 rfl rfl ?_
        refine J_iconst dX1_holds_417 (ii_c rfl) ?_
        refine J_isubN dX1_holds_418 h.1 ?_
        replace h := h.2
        refine J_lload dX1_holds_419 rfl ?_
        refine J_ldc2 1000000 dX1_holds_421 kw_X1_93 (ll_c rfl) ?_
        refine J_lcmp dX1_holds_424 ?_
        refine J_if_le (tgt := 434) dX1_holds_425 (by decide) (fun _ => ?_) (fun c => absurd (by decide) c)
        refine J_lload dX1_holds_434 rfl ?_
        refine J_ldc2 (-1000000) dX1_holds_436 kw_X1_95 (ll_c rfl) ?_
        refine J_lcmp dX1_holds_439 ?_
        refine J_if_ge (tgt := 449) dX1_holds_440 (by decide) (fun _ => ?_) (fun c => absurd (by decide) c)
        refine J_lload dX1_holds_449 rfl ?_
        refine J_l2i dX1_holds_451 ?_
        refine J_iast dX1_holds_452 sh_65 h.1.1 h.1.2 ?_
        replace h := h.2 _ rfl
        refine J_iincN dX1_holds_453 rfl (by decide) h.1 ?_
        replace h := h.2
        change J _ _ _ _ _ _ [(0, _), (1, _), (2, _), (3, _), (4, _), (5, _), (6, _), (8, _)] _ _ _
        refine J_goto (tgt := 36) dX1_holds_456 (by decide) ?_
        exact J_loc (ls_sub [0, 1, 2, 3, 4] rfl) h
      · replace h := h.2 (lC_eq.mp c)
        refine J_lconst 1 dX1_holds_383 (ll_c rfl) (by decide) ?_
        refine J_goto (tgt := 388) dX1_holds_384 (by decide) ?_
        refine J_lstore dX1_holds_388 (by decide) ?_
        change J _ _ _ _ _ _ [(0, _), (1, _), (2, _), (3, _), (4, _), (5, _), (6, _), (8, _)] _ _ _
        refine J_goto (tgt := 412) dX1_holds_390 (by decide) ?_
        refine J_aload_n dX1_holds_412 rfl rfl ?_
        refine J_getR dX1_holds_413 ck_1 fw_X1_21 rfl sh_62 rr_62_3 ?_
        refine J_iload_n dX1_holds_416 rfl rfl ?_
        refine J_iconst dX1_holds_417 (ii_c rfl) ?_
        refine J_isubN dX1_holds_418 h.1 ?_
        replace h := h.2
        refine J_lload dX1_holds_419 rfl ?_
        refine J_ldc2 1000000 dX1_holds_421 kw_X1_93 (ll_c rfl) ?_
        refine J_lcmp dX1_holds_424 ?_
        refine J_if_le (tgt := 434) dX1_holds_425 (by decide) (fun _ => ?_) (fun c => absurd (by decide) c)
        refine J_lload dX1_holds_434 rfl ?_
        refine J_ldc2 (-1000000) dX1_holds_436 kw_X1_95 (ll_c rfl) ?_
        refine J_lcmp dX1_holds_439 ?_
        refine J_if_ge (tgt := 449) dX1_holds_440 (by decide) (fun _ => ?_) (fun c => absurd (by decide) c)
        refine J_lload dX1_holds_449 rfl ?_
        refine J_l2i dX1_holds_451 ?_
        refine J_iast dX1_holds_452 sh_65 h.1.1 h.1.2 ?_
        replace h := h.2 _ rfl
        refine J_iincN dX1_holds_453 rfl (by decide) h.1 ?_
        replace h := h.2
        change J _ _ _ _ _ _ [(0, _), (1, _), (2, _), (3, _), (4, _), (5, _), (6, _), (8, _)] _ _ _
        refine J_goto (tgt := 36) dX1_holds_456 (by decide) ?_
        exact J_loc (ls_sub [0, 1, 2, 3, 4] rfl) h
    · replace h := h.2.2.2.2.1 c
      refine J_tabIn (tgt := 355) (off := 176) dX1_holds_179 (by omega) (by omega) (by rw [c]; rfl) (by decide) ?_
      refine J_lload dX1_holds_355 rfl ?_
      refine J_iload dX1_holds_357 rfl ?_
      refine J_i2l dX1_holds_359 ?_
      refine J_lcmp dX1_holds_360 ?_
      refine J_if_le (tgt := 368) dX1_holds_361 (by decide) (fun c => ?_) (fun c => ?_)
      · replace h := h.1 (lC_le.mp c)
        refine J_lconst 0 dX1_holds_368 (ll_c rfl) (by decide) ?_
        refine J_lstore dX1_holds_369 (by decide) ?_
        change J _ _ _ _ _ _ [(0, _), (1, _), (2, _), (3, _), (4, _), (5, _), (6, _), (8, _)] _ _ _
        refine J_goto (tgt := 412) dX1_holds_371 (by decide) ?_
        refine J_aload_n dX1_holds_412 rfl rfl ?_
        refine J_getR dX1_holds_413 ck_1 fw_X1_21 rfl sh_62 rr_62_3 ?_
        refine J_iload_n dX1_holds_416 rfl rfl ?_
        refine J_iconst dX1_holds_417 (ii_c rfl) ?_
        refine J_isubN dX1_holds_418 h.1 ?_
        replace h := h.2
        refine J_lload dX1_holds_419 rfl ?_
        refine J_ldc2 1000000 dX1_holds_421 kw_X1_93 (ll_c rfl) ?_
        refine J_lcmp dX1_holds_424 ?_
        refine J_if_le (tgt := 434) dX1_holds_425 (by decide) (fun _ => ?_) (fun c => absurd (by decide) c)
        refine J_lload dX1_holds_434 rfl ?_
        refine J_ldc2 (-1000000) dX1_holds_436 kw_X1_95 (ll_c rfl) ?_
        refine J_lcmp dX1_holds_439 ?_
        refine J_if_ge (tgt := 449) dX1_holds_440 (by decide) (fun _ => ?_) (fun c => absurd (by decide) c)
        refine J_lload dX1_holds_449 rfl ?_
        refine J_l2i dX1_holds_451 ?_
        refine J_iast dX1_holds_452 sh_65 h.1.1 h.1.2 ?_
        replace h := h.2 _ rfl
        refine J_iincN dX1_holds_453 rfl (by decide) h.1 ?_
        replace h := h.2
        change J _ _ _ _ _ _ [(0, _), (1, _), (2, _), (3, _), (4, _), (5, _), (6, _), (8, _)] _ _ _
        refine J_goto (tgt := 36) dX1_holds_456 (by decide) ?_
        exact J_loc (ls_sub [0, 1, 2, 3, 4] rfl) h
      · replace h := h.2 (fun w => c (lC_le.mpr w))
        refine J_lconst 1 dX1_holds_364 (ll_c rfl) (by decide) ?_
        refine J_goto (tgt := 369) dX1_holds_365 (by decide) ?_
        refine J_lstore dX1_holds_369 (by decide) ?_
        change J _ _ _ _ _ _ [(0, _), (1, _), (2, _), (3, _), (4, _), (5, _), (6, _), (8, _)] _ _ _
        refine J_goto (tgt := 412) dX1_holds_371 (by decide) ?_
        refine J_aload_n dX1_holds_412 rfl rfl ?_
        refine J_getR dX1_holds_413 ck_1 fw_X1_21 rfl sh_62 rr_62_3 ?_
        refine J_iload_n dX1_holds_416 rfl rfl ?_
        refine J_iconst dX1_holds_417 (ii_c rfl) ?_
        refine J_isubN dX1_holds_418 h.1 ?_
        replace h := h.2
        refine J_lload dX1_holds_419 rfl ?_
        refine J_ldc2 1000000 dX1_holds_421 kw_X1_93 (ll_c rfl) ?_
        refine J_lcmp dX1_holds_424 ?_
        refine J_if_le (tgt := 434) dX1_holds_425 (by decide) (fun _ => ?_) (fun c => absurd (by decide) c)
        refine J_lload dX1_holds_434 rfl ?_
        refine J_ldc2 (-1000000) dX1_holds_436 kw_X1_95 (ll_c rfl) ?_
        refine J_lcmp dX1_holds_439 ?_
        refine J_if_ge (tgt := 449) dX1_holds_440 (by decide) (fun _ => ?_) (fun c => absurd (by decide) c)
        refine J_lload dX1_holds_449 rfl ?_
        refine J_l2i dX1_holds_451 ?_
        refine J_iast dX1_holds_452 sh_65 h.1.1 h.1.2 ?_
        replace h := h.2 _ rfl
        refine J_iincN dX1_holds_453 rfl (by decide) h.1 ?_
        replace h := h.2
        change J _ _ _ _ _ _ [(0, _), (1, _), (2, _), (3, _), (4, _), (5, _), (6, _), (8, _)] _ _ _
        refine J_goto (tgt := 36) dX1_holds_456 (by decide) ?_
        exact J_loc (ls_sub [0, 1, 2, 3, 4] rfl) h
    · replace h := h.2.2.2.2.2.1 c
      refine J_tabIn (tgt := 336) (off := 157) dX1_holds_179 (by omega) (by omega) (by rw [c]; rfl) (by decide) ?_
      refine J_lload dX1_holds_336 rfl ?_
      refine J_iload dX1_holds_338 rfl ?_
      refine J_i2l dX1_holds_340 ?_
      refine J_lcmp dX1_holds_341 ?_
      refine J_if_ge (tgt := 349) dX1_holds_342 (by decide) (fun c => ?_) (fun c => ?_)
      · replace h := h.1 (lC_ge.mp c)
        refine J_lconst 0 dX1_holds_349 (ll_c rfl) (by decide) ?_
        refine J_lstore dX1_holds_350 (by decide) ?_
        change J _ _ _ _ _ _ [(0, _), (1, _), (2, _), (3, _), (4, _), (5, _), (6, _), (8, _)] _ _ _
        refine J_goto (tgt := 412) dX1_holds_352 (by decide) ?_
        refine J_aload_n dX1_holds_412 rfl rfl ?_
        refine J_getR dX1_holds_413 ck_1 fw_X1_21 rfl sh_62 rr_62_3 ?_
        refine J_iload_n dX1_holds_416 rfl rfl ?_
        refine J_iconst dX1_holds_417 (ii_c rfl) ?_
        refine J_isubN dX1_holds_418 h.1 ?_
        replace h := h.2
        refine J_lload dX1_holds_419 rfl ?_
        refine J_ldc2 1000000 dX1_holds_421 kw_X1_93 (ll_c rfl) ?_
        refine J_lcmp dX1_holds_424 ?_
        refine J_if_le (tgt := 434) dX1_holds_425 (by decide) (fun _ => ?_) (fun c => absurd (by decide) c)
        refine J_lload dX1_holds_434 rfl ?_
        refine J_ldc2 (-1000000) dX1_holds_436 kw_X1_95 (ll_c rfl) ?_
        refine J_lcmp dX1_holds_439 ?_
        refine J_if_ge (tgt := 449) dX1_holds_440 (by decide) (fun _ => ?_) (fun c => absurd (by decide) c)
        refine J_lload dX1_holds_449 rfl ?_
        refine J_l2i dX1_holds_451 ?_
        refine J_iast dX1_holds_452 sh_65 h.1.1 h.1.2 ?_
        replace h := h.2 _ rfl
        refine J_iincN dX1_holds_453 rfl (by decide) h.1 ?_
        replace h := h.2
        change J _ _ _ _ _ _ [(0, _), (1, _), (2, _), (3, _), (4, _), (5, _), (6, _), (8, _)] _ _ _
        refine J_goto (tgt := 36) dX1_holds_456 (by decide) ?_
        exact J_loc (ls_sub [0, 1, 2, 3, 4] rfl) h
      · replace h := h.2 (fun w => c (lC_ge.mpr w))
        refine J_lconst 1 dX1_holds_345 (ll_c rfl) (by decide) ?_
        refine J_goto (tgt := 350) dX1_holds_346 (by decide) ?_
        refine J_lstore dX1_holds_350 (by decide) ?_
        change J _ _ _ _ _ _ [(0, _), (1, _), (2, _), (3, _), (4, _), (5, _), (6, _), (8, _)] _ _ _
        refine J_goto (tgt := 412) dX1_holds_352 (by decide) ?_
        refine J_aload_n dX1_holds_412 rfl rfl ?_
        refine J_getR dX1_holds_413 ck_1 fw_X1_21 rfl sh_62 rr_62_3 ?_
        refine J_iload_n dX1_holds_416 rfl rfl ?_
        refine J_iconst dX1_holds_417 (ii_c rfl) ?_
        refine J_isubN dX1_holds_418 h.1 ?_
        replace h := h.2
        refine J_lload dX1_holds_419 rfl ?_
        refine J_ldc2 1000000 dX1_holds_421 kw_X1_93 (ll_c rfl) ?_
        refine J_lcmp dX1_holds_424 ?_
        refine J_if_le (tgt := 434) dX1_holds_425 (by decide) (fun _ => ?_) (fun c => absurd (by decide) c)
        refine J_lload dX1_holds_434 rfl ?_
        refine J_ldc2 (-1000000) dX1_holds_436 kw_X1_95 (ll_c rfl) ?_
        refine J_lcmp dX1_holds_439 ?_
        refine J_if_ge (tgt := 449) dX1_holds_440 (by decide) (fun _ => ?_) (fun c => absurd (by decide) c)
        refine J_lload dX1_holds_449 rfl ?_
        refine J_l2i dX1_holds_451 ?_
        refine J_iast dX1_holds_452 sh_65 h.1.1 h.1.2 ?_
        replace h := h.2 _ rfl
        refine J_iincN dX1_holds_453 rfl (by decide) h.1 ?_
        replace h := h.2
        change J _ _ _ _ _ _ [(0, _), (1, _), (2, _), (3, _), (4, _), (5, _), (6, _), (8, _)] _ _ _
        refine J_goto (tgt := 36) dX1_holds_456 (by decide) ?_
        exact J_loc (ls_sub [0, 1, 2, 3, 4] rfl) h
    · replace h := h.2.2.2.2.2.2.1 c
      refine J_tabIn (tgt := 314) (off := 135) dX1_holds_179 (by omega) (by omega) (by rw [c]; rfl) (by decide) ?_
      refine J_lload dX1_holds_314 rfl ?_
      refine J_iload dX1_holds_316 rfl ?_
      refine J_i2l dX1_holds_318 ?_
      refine J_lcmp dX1_holds_319 ?_
      refine J_if_le (tgt := 328) dX1_holds_320 (by decide) (fun c => ?_) (fun c => ?_)
      · replace h := h.1 (lC_le.mp c)
        refine J_iload dX1_holds_328 rfl ?_
        refine J_i2l dX1_holds_330 ?_
        refine J_lstore dX1_holds_331 (by decide) ?_
        change J _ _ _ _ _ _ [(0, _), (1, _), (2, _), (3, _), (4, _), (5, _), (6, _), (8, _)] _ _ _
        refine J_goto (tgt := 412) dX1_holds_333 (by decide) ?_
        refine J_aload_n dX1_holds_412 rfl rfl ?_
        refine J_getR dX1_holds_413 ck_1 fw_X1_21 rfl sh_62 rr_62_3 ?_
        refine J_iload_n dX1_holds_416 rfl rfl ?_
        refine J_iconst dX1_holds_417 (ii_c rfl) ?_
        refine J_isubN dX1_holds_418 h.1 ?_
        replace h := h.2
        refine J_lload dX1_holds_419 rfl ?_
        refine J_ldc2 1000000 dX1_holds_421 kw_X1_93 (ll_c rfl) ?_
        refine J_lcmp dX1_holds_424 ?_
        refine J_if_le (tgt := 434) dX1_holds_425 (by decide) (fun c => ?_) (fun c => ?_)
        · replace h := h.1 (lC_le.mp c)
          refine J_lload dX1_holds_434 rfl ?_
          refine J_ldc2 (-1000000) dX1_holds_436 kw_X1_95 (ll_c rfl) ?_
          refine J_lcmp dX1_holds_439 ?_
          refine J_if_ge (tgt := 449) dX1_holds_440 (by decide) (fun c => ?_) (fun c => ?_)
          · replace h := h.1 (lC_ge.mp c)
            refine J_lload dX1_holds_449 rfl ?_
            refine J_l2i dX1_holds_451 ?_
            refine J_iast dX1_holds_452 sh_65 h.1.1 h.1.2 ?_
            replace h := h.2 _ rfl
            refine J_iincN dX1_holds_453 rfl (by decide) h.1 ?_
            replace h := h.2
            change J _ _ _ _ _ _ [(0, _), (1, _), (2, _), (3, _), (4, _), (5, _), (6, _), (8, _)] _ _ _
            refine J_goto (tgt := 36) dX1_holds_456 (by decide) ?_
            exact J_loc (ls_sub [0, 1, 2, 3, 4] rfl) h
          · replace h := h.2 (fun w => c (lC_ge.mpr w))
            refine J_ldc2 (-1000000) dX1_holds_443 kw_X1_95 (ll_c rfl) ?_
            refine J_goto (tgt := 451) dX1_holds_446 (by decide) ?_
            refine J_l2i dX1_holds_451 ?_
            refine J_iast dX1_holds_452 sh_65 h.1.1 h.1.2 ?_
            replace h := h.2 _ rfl
            refine J_iincN dX1_holds_453 rfl (by decide) h.1 ?_
            replace h := h.2
            change J _ _ _ _ _ _ [(0, _), (1, _), (2, _), (3, _), (4, _), (5, _), (6, _), (8, _)] _ _ _
            refine J_goto (tgt := 36) dX1_holds_456 (by decide) ?_
            exact J_loc (ls_sub [0, 1, 2, 3, 4] rfl) h
        · replace h := h.2 (fun w => c (lC_le.mpr w))
          refine J_ldc2 1000000 dX1_holds_428 kw_X1_93 (ll_c rfl) ?_
          refine J_goto (tgt := 451) dX1_holds_431 (by decide) ?_
          refine J_l2i dX1_holds_451 ?_
          refine J_iast dX1_holds_452 sh_65 h.1.1 h.1.2 ?_
          replace h := h.2 _ rfl
          refine J_iincN dX1_holds_453 rfl (by decide) h.1 ?_
          replace h := h.2
          change J _ _ _ _ _ _ [(0, _), (1, _), (2, _), (3, _), (4, _), (5, _), (6, _), (8, _)] _ _ _
          refine J_goto (tgt := 36) dX1_holds_456 (by decide) ?_
          exact J_loc (ls_sub [0, 1, 2, 3, 4] rfl) h
      · replace h := h.2 (fun w => c (lC_le.mpr w))
        refine J_lload dX1_holds_323 rfl ?_
        refine J_goto (tgt := 331) dX1_holds_325 (by decide) ?_
        refine J_lstore dX1_holds_331 (by decide) ?_
        change J _ _ _ _ _ _ [(0, _), (1, _), (2, _), (3, _), (4, _), (5, _), (6, _), (8, _)] _ _ _
        refine J_goto (tgt := 412) dX1_holds_333 (by decide) ?_
        refine J_aload_n dX1_holds_412 rfl rfl ?_
        refine J_getR dX1_holds_413 ck_1 fw_X1_21 rfl sh_62 rr_62_3 ?_
        refine J_iload_n dX1_holds_416 rfl rfl ?_
        refine J_iconst dX1_holds_417 (ii_c rfl) ?_
        refine J_isubN dX1_holds_418 h.1 ?_
        replace h := h.2
        refine J_lload dX1_holds_419 rfl ?_
        refine J_ldc2 1000000 dX1_holds_421 kw_X1_93 (ll_c rfl) ?_
        refine J_lcmp dX1_holds_424 ?_
        refine J_if_le (tgt := 434) dX1_holds_425 (by decide) (fun c => ?_) (fun c => ?_)
        · replace h := h.1 (lC_le.mp c)
          refine J_lload dX1_holds_434 rfl ?_
          refine J_ldc2 (-1000000) dX1_holds_436 kw_X1_95 (ll_c rfl) ?_
          refine J_lcmp dX1_holds_439 ?_
          refine J_if_ge (tgt := 449) dX1_holds_440 (by decide) (fun c => ?_) (fun c => ?_)
          · replace h := h.1 (lC_ge.mp c)
            refine J_lload dX1_holds_449 rfl ?_
            refine J_l2i dX1_holds_451 ?_
            refine J_iast dX1_holds_452 sh_65 h.1.1 h.1.2 ?_
            replace h := h.2 _ rfl
            refine J_iincN dX1_holds_453 rfl (by decide) h.1 ?_
            replace h := h.2
            change J _ _ _ _ _ _ [(0, _), (1, _), (2, _), (3, _), (4, _), (5, _), (6, _), (8, _)] _ _ _
            refine J_goto (tgt := 36) dX1_holds_456 (by decide) ?_
            exact J_loc (ls_sub [0, 1, 2, 3, 4] rfl) h
          · replace h := h.2 (fun w => c (lC_ge.mpr w))
            refine J_ldc2 (-1000000) dX1_holds_443 kw_X1_95 (ll_c rfl) ?_
            refine J_goto (tgt := 451) dX1_holds_446 (by decide) ?_
            refine J_l2i dX1_holds_451 ?_
            refine J_iast dX1_holds_452 sh_65 h.1.1 h.1.2 ?_
            replace h := h.2 _ rfl
            refine J_iincN dX1_holds_453 rfl (by decide) h.1 ?_
            replace h := h.2
            change J _ _ _ _ _ _ [(0, _), (1, _), (2, _), (3, _), (4, _), (5, _), (6, _), (8, _)] _ _ _
            refine J_goto (tgt := 36) dX1_holds_456 (by decide) ?_
            exact J_loc (ls_sub [0, 1, 2, 3, 4] rfl) h
        · replace h := h.2 (fun w => c (lC_le.mpr w))
          refine J_ldc2 1000000 dX1_holds_428 kw_X1_93 (ll_c rfl) ?_
          refine J_goto (tgt := 451) dX1_holds_431 (by decide) ?_
          refine J_l2i dX1_holds_451 ?_
          refine J_iast dX1_holds_452 sh_65 h.1.1 h.1.2 ?_
          replace h := h.2 _ rfl
          refine J_iincN dX1_holds_453 rfl (by decide) h.1 ?_
          replace h := h.2
          change J _ _ _ _ _ _ [(0, _), (1, _), (2, _), (3, _), (4, _), (5, _), (6, _), (8, _)] _ _ _
          refine J_goto (tgt := 36) dX1_holds_456 (by decide) ?_
          exact J_loc (ls_sub [0, 1, 2, 3, 4] rfl) h
    · replace h := h.2.2.2.2.2.2.2.1 c
      refine J_tabIn (tgt := 292) (off := 113) dX1_holds_179 (by omega) (by omega) (by rw [c]; rfl) (by decide) ?_
      refine J_lload dX1_holds_292 rfl ?_
      refine J_iload dX1_holds_294 rfl ?_
      refine J_i2l dX1_holds_296 ?_
      refine J_lcmp dX1_holds_297 ?_
      refine J_if_ge (tgt := 306) dX1_holds_298 (by decide) (fun c => ?_) (fun c => ?_)
      · replace h := h.1 (lC_ge.mp c)
        refine J_iload dX1_holds_306 rfl ?_
        refine J_i2l dX1_holds_308 ?_
        refine J_lstore dX1_holds_309 (by decide) ?_
        change J _ _ _ _ _ _ [(0, _), (1, _), (2, _), (3, _), (4, _), (5, _), (6, _), (8, _)] _ _ _
        refine J_goto (tgt := 412) dX1_holds_311 (by decide) ?_
        refine J_aload_n dX1_holds_412 rfl rfl ?_
        refine J_getR dX1_holds_413 ck_1 fw_X1_21 rfl sh_62 rr_62_3 ?_
        refine J_iload_n dX1_holds_416 rfl rfl ?_
        refine J_iconst dX1_holds_417 (ii_c rfl) ?_
        refine J_isubN dX1_holds_418 h.1 ?_
        replace h := h.2
        refine J_lload dX1_holds_419 rfl ?_
        refine J_ldc2 1000000 dX1_holds_421 kw_X1_93 (ll_c rfl) ?_
        refine J_lcmp dX1_holds_424 ?_
        refine J_if_le (tgt := 434) dX1_holds_425 (by decide) (fun c => ?_) (fun c => ?_)
        · replace h := h.1 (lC_le.mp c)
          refine J_lload dX1_holds_434 rfl ?_
          refine J_ldc2 (-1000000) dX1_holds_436 kw_X1_95 (ll_c rfl) ?_
          refine J_lcmp dX1_holds_439 ?_
          refine J_if_ge (tgt := 449) dX1_holds_440 (by decide) (fun c => ?_) (fun c => ?_)
          · replace h := h.1 (lC_ge.mp c)
            refine J_lload dX1_holds_449 rfl ?_
            refine J_l2i dX1_holds_451 ?_
            refine J_iast dX1_holds_452 sh_65 h.1.1 h.1.2 ?_
            replace h := h.2 _ rfl
            refine J_iincN dX1_holds_453 rfl (by decide) h.1 ?_
            replace h := h.2
            change J _ _ _ _ _ _ [(0, _), (1, _), (2, _), (3, _), (4, _), (5, _), (6, _), (8, _)] _ _ _
            refine J_goto (tgt := 36) dX1_holds_456 (by decide) ?_
            exact J_loc (ls_sub [0, 1, 2, 3, 4] rfl) h
          · replace h := h.2 (fun w => c (lC_ge.mpr w))
            refine J_ldc2 (-1000000) dX1_holds_443 kw_X1_95 (ll_c rfl) ?_
            refine J_goto (tgt := 451) dX1_holds_446 (by decide) ?_
            refine J_l2i dX1_holds_451 ?_
            refine J_iast dX1_holds_452 sh_65 h.1.1 h.1.2 ?_
            replace h := h.2 _ rfl
            refine J_iincN dX1_holds_453 rfl (by decide) h.1 ?_
            replace h := h.2
            change J _ _ _ _ _ _ [(0, _), (1, _), (2, _), (3, _), (4, _), (5, _), (6, _), (8, _)] _ _ _
            refine J_goto (tgt := 36) dX1_holds_456 (by decide) ?_
            exact J_loc (ls_sub [0, 1, 2, 3, 4] rfl) h
        · replace h := h.2 (fun w => c (lC_le.mpr w))
          refine J_ldc2 1000000 dX1_holds_428 kw_X1_93 (ll_c rfl) ?_
          refine J_goto (tgt := 451) dX1_holds_431 (by decide) ?_
          refine J_l2i dX1_holds_451 ?_
          refine J_iast dX1_holds_452 sh_65 h.1.1 h.1.2 ?_
          replace h := h.2 _ rfl
          refine J_iincN dX1_holds_453 rfl (by decide) h.1 ?_
          replace h := h.2
          change J _ _ _ _ _ _ [(0, _), (1, _), (2, _), (3, _), (4, _), (5, _), (6, _), (8, _)] _ _ _
          refine J_goto (tgt := 36) dX1_holds_456 (by decide) ?_
          exact J_loc (ls_sub [0, 1, 2, 3, 4] rfl) h
      · replace h := h.2 (fun w => c (lC_ge.mpr w))
        refine J_lload dX1_holds_301 rfl ?_
        refine J_goto (tgt := 309) dX1_holds_303 (by decide) ?_
        refine J_lstore dX1_holds_309 (by decide) ?_
        change J _ _ _ _ _ _ [(0, _), (1, _), (2, _), (3, _), (4, _), (5, _), (6, _), (8, _)] _ _ _
        refine J_goto (tgt := 412) dX1_holds_311 (by decide) ?_
        refine J_aload_n dX1_holds_412 rfl rfl ?_
        refine J_getR dX1_holds_413 ck_1 fw_X1_21 rfl sh_62 rr_62_3 ?_
        refine J_iload_n dX1_holds_416 rfl rfl ?_
        refine J_iconst dX1_holds_417 (ii_c rfl) ?_
        refine J_isubN dX1_holds_418 h.1 ?_
        replace h := h.2
        refine J_lload dX1_holds_419 rfl ?_
        refine J_ldc2 1000000 dX1_holds_421 kw_X1_93 (ll_c rfl) ?_
        refine J_lcmp dX1_holds_424 ?_
        refine J_if_le (tgt := 434) dX1_holds_425 (by decide) (fun c => ?_) (fun c => ?_)
        · replace h := h.1 (lC_le.mp c)
          refine J_lload dX1_holds_434 rfl ?_
          refine J_ldc2 (-1000000) dX1_holds_436 kw_X1_95 (ll_c rfl) ?_
          refine J_lcmp dX1_holds_439 ?_
          refine J_if_ge (tgt := 449) dX1_holds_440 (by decide) (fun c => ?_) (fun c => ?_)
          · replace h := h.1 (lC_ge.mp c)
            refine J_lload dX1_holds_449 rfl ?_
            refine J_l2i dX1_holds_451 ?_
            refine J_iast dX1_holds_452 sh_65 h.1.1 h.1.2 ?_
            replace h := h.2 _ rfl
            refine J_iincN dX1_holds_453 rfl (by decide) h.1 ?_
            replace h := h.2
            change J _ _ _ _ _ _ [(0, _), (1, _), (2, _), (3, _), (4, _), (5, _), (6, _), (8, _)] _ _ _
            refine J_goto (tgt := 36) dX1_holds_456 (by decide) ?_
            exact J_loc (ls_sub [0, 1, 2, 3, 4] rfl) h
          · replace h := h.2 (fun w => c (lC_ge.mpr w))
            refine J_ldc2 (-1000000) dX1_holds_443 kw_X1_95 (ll_c rfl) ?_
            refine J_goto (tgt := 451) dX1_holds_446 (by decide) ?_
            refine J_l2i dX1_holds_451 ?_
            refine J_iast dX1_holds_452 sh_65 h.1.1 h.1.2 ?_
            replace h := h.2 _ rfl
            refine J_iincN dX1_holds_453 rfl (by decide) h.1 ?_
            replace h := h.2
            change J _ _ _ _ _ _ [(0, _), (1, _), (2, _), (3, _), (4, _), (5, _), (6, _), (8, _)] _ _ _
            refine J_goto (tgt := 36) dX1_holds_456 (by decide) ?_
            exact J_loc (ls_sub [0, 1, 2, 3, 4] rfl) h
        · replace h := h.2 (fun w => c (lC_le.mpr w))
          refine J_ldc2 1000000 dX1_holds_428 kw_X1_93 (ll_c rfl) ?_
          refine J_goto (tgt := 451) dX1_holds_431 (by decide) ?_
          refine J_l2i dX1_holds_451 ?_
          refine J_iast dX1_holds_452 sh_65 h.1.1 h.1.2 ?_
          replace h := h.2 _ rfl
          refine J_iincN dX1_holds_453 rfl (by decide) h.1 ?_
          replace h := h.2
          change J _ _ _ _ _ _ [(0, _), (1, _), (2, _), (3, _), (4, _), (5, _), (6, _), (8, _)] _ _ _
          refine J_goto (tgt := 36) dX1_holds_456 (by decide) ?_
          exact J_loc (ls_sub [0, 1, 2, 3, 4] rfl) h
    · replace h := h.2.2.2.2.2.2.2.2.1 c
      refine J_tabIn (tgt := 269) (off := 90) dX1_holds_179 (by omega) (by omega) (by rw [c]; rfl) (by decide) ?_
      refine J_iload dX1_holds_269 rfl ?_
      refine J_if_ne (tgt := 278) dX1_holds_271 (by decide) (fun c => ?_) (fun c => ?_)
      · replace h := h.1 c
        refine J_lload dX1_holds_278 rfl ?_
        refine J_l2i dX1_holds_280 ?_
        refine J_iload dX1_holds_281 rfl ?_
        refine J_callSf (as := [_, _]) (mc1 := 0) (ms1 := 0) (mc := 0) (ms := 0) dX1_holds_283 ms_J9_floorDiv_7cf53 lk_X1_90 rfl (Nat.le_of_ble_eq_true rfl) (Nat.le_of_ble_eq_true rfl) h (fun r σ hq _ => ?_)
        obtain ⟨x1, I28, rfl, rfl, h⟩ := hq
        change J _ _ _ _ _ _ _ [vI x1] _ _
        refine J_i2l dX1_holds_286 ?_
        refine J_lstore dX1_holds_287 (by decide) ?_
        change J _ _ _ _ _ _ [(0, _), (1, _), (2, _), (3, _), (4, _), (5, _), (6, _), (8, _)] _ _ _
        refine J_goto (tgt := 412) dX1_holds_289 (by decide) ?_
        refine J_aload_n dX1_holds_412 rfl rfl ?_
        refine J_getR dX1_holds_413 ck_1 fw_X1_21 rfl sh_62 rr_62_3 ?_
        refine J_iload_n dX1_holds_416 rfl rfl ?_
        refine J_iconst dX1_holds_417 (ii_c rfl) ?_
        refine J_isubN dX1_holds_418 h.1 ?_
        replace h := h.2
        refine J_lload dX1_holds_419 rfl ?_
        refine J_ldc2 1000000 dX1_holds_421 kw_X1_93 (ll_c rfl) ?_
        refine J_lcmp dX1_holds_424 ?_
        refine J_if_le (tgt := 434) dX1_holds_425 (by decide) (fun c => ?_) (fun c => ?_)
        · replace h := h.1 (lC_le.mp c)
          refine J_lload dX1_holds_434 rfl ?_
          refine J_ldc2 (-1000000) dX1_holds_436 kw_X1_95 (ll_c rfl) ?_
          refine J_lcmp dX1_holds_439 ?_
          refine J_if_ge (tgt := 449) dX1_holds_440 (by decide) (fun c => ?_) (fun c => ?_)
          · replace h := h.1 (lC_ge.mp c)
            refine J_lload dX1_holds_449 rfl ?_
            refine J_l2i dX1_holds_451 ?_
            refine J_iast dX1_holds_452 sh_65 h.1.1 h.1.2 ?_
            replace h := h.2 _ rfl
            refine J_iincN dX1_holds_453 rfl (by decide) h.1 ?_
            replace h := h.2
            change J _ _ _ _ _ _ [(0, _), (1, _), (2, _), (3, _), (4, _), (5, _), (6, _), (8, _)] _ _ _
            refine J_goto (tgt := 36) dX1_holds_456 (by decide) ?_
            exact J_loc (ls_sub [0, 1, 2, 3, 4] rfl) h
          · replace h := h.2 (fun w => c (lC_ge.mpr w))
            refine J_ldc2 (-1000000) dX1_holds_443 kw_X1_95 (ll_c rfl) ?_
            refine J_goto (tgt := 451) dX1_holds_446 (by decide) ?_
            refine J_l2i dX1_holds_451 ?_
            refine J_iast dX1_holds_452 sh_65 h.1.1 h.1.2 ?_
            replace h := h.2 _ rfl
            refine J_iincN dX1_holds_453 rfl (by decide) h.1 ?_
            replace h := h.2
            change J _ _ _ _ _ _ [(0, _), (1, _), (2, _), (3, _), (4, _), (5, _), (6, _), (8, _)] _ _ _
            refine J_goto (tgt := 36) dX1_holds_456 (by decide) ?_
            exact J_loc (ls_sub [0, 1, 2, 3, 4] rfl) h
        · replace h := h.2 (fun w => c (lC_le.mpr w))
          refine J_ldc2 1000000 dX1_holds_428 kw_X1_93 (ll_c rfl) ?_
          refine J_goto (tgt := 451) dX1_holds_431 (by decide) ?_
          refine J_l2i dX1_holds_451 ?_
          refine J_iast dX1_holds_452 sh_65 h.1.1 h.1.2 ?_
          replace h := h.2 _ rfl
          refine J_iincN dX1_holds_453 rfl (by decide) h.1 ?_
          replace h := h.2
          change J _ _ _ _ _ _ [(0, _), (1, _), (2, _), (3, _), (4, _), (5, _), (6, _), (8, _)] _ _ _
          refine J_goto (tgt := 36) dX1_holds_456 (by decide) ?_
          exact J_loc (ls_sub [0, 1, 2, 3, 4] rfl) h
      · replace h := h.2 c
        refine J_lconst 0 dX1_holds_274 (ll_c rfl) (by decide) ?_
        refine J_goto (tgt := 287) dX1_holds_275 (by decide) ?_
        refine J_lstore dX1_holds_287 (by decide) ?_
        change J _ _ _ _ _ _ [(0, _), (1, _), (2, _), (3, _), (4, _), (5, _), (6, _), (8, _)] _ _ _
        refine J_goto (tgt := 412) dX1_holds_289 (by decide) ?_
        refine J_aload_n dX1_holds_412 rfl rfl ?_
        refine J_getR dX1_holds_413 ck_1 fw_X1_21 rfl sh_62 rr_62_3 ?_
        refine J_iload_n dX1_holds_416 rfl rfl ?_
        refine J_iconst dX1_holds_417 (ii_c rfl) ?_
        refine J_isubN dX1_holds_418 h.1 ?_
        replace h := h.2
        refine J_lload dX1_holds_419 rfl ?_
        refine J_ldc2 1000000 dX1_holds_421 kw_X1_93 (ll_c rfl) ?_
        refine J_lcmp dX1_holds_424 ?_
        refine J_if_le (tgt := 434) dX1_holds_425 (by decide) (fun _ => ?_) (fun c => absurd (by decide) c)
        refine J_lload dX1_holds_434 rfl ?_
        refine J_ldc2 (-1000000) dX1_holds_436 kw_X1_95 (ll_c rfl) ?_
        refine J_lcmp dX1_holds_439 ?_
        refine J_if_ge (tgt := 449) dX1_holds_440 (by decide) (fun _ => ?_) (fun c => absurd (by decide) c)
        refine J_lload dX1_holds_449 rfl ?_
        refine J_l2i dX1_holds_451 ?_
        refine J_iast dX1_holds_452 sh_65 h.1.1 h.1.2 ?_
        replace h := h.2 _ rfl
        refine J_iincN dX1_holds_453 rfl (by decide) h.1 ?_
        replace h := h.2
        change J _ _ _ _ _ _ [(0, _), (1, _), (2, _), (3, _), (4, _), (5, _), (6, _), (8, _)] _ _ _
        refine J_goto (tgt := 36) dX1_holds_456 (by decide) ?_
        exact J_loc (ls_sub [0, 1, 2, 3, 4] rfl) h
    · replace h := h.2.2.2.2.2.2.2.2.2.1 c
      refine J_tabIn (tgt := 258) (off := 79) dX1_holds_179 (by omega) (by omega) (by rw [c]; rfl) (by decide) ?_
      refine J_lload dX1_holds_258 rfl ?_
      refine J_iload dX1_holds_260 rfl ?_
      refine J_i2l dX1_holds_262 ?_
      refine J_lmulN dX1_holds_263 h.1 ?_
      replace h := h.2
      refine J_lstore dX1_holds_264 (by decide) ?_
      change J _ _ _ _ _ _ [(0, _), (1, _), (2, _), (3, _), (4, _), (5, _), (6, _), (8, _)] _ _ _
      refine J_goto (tgt := 412) dX1_holds_266 (by decide) ?_
      refine J_aload_n dX1_holds_412 rfl rfl ?_
      refine J_getR dX1_holds_413 ck_1 fw_X1_21 rfl sh_62 rr_62_3 ?_
      refine J_iload_n dX1_holds_416 rfl rfl ?_
      refine J_iconst dX1_holds_417 (ii_c rfl) ?_
      refine J_isubN dX1_holds_418 h.1 ?_
      replace h := h.2
      refine J_lload dX1_holds_419 rfl ?_
      refine J_ldc2 1000000 dX1_holds_421 kw_X1_93 (ll_c rfl) ?_
      refine J_lcmp dX1_holds_424 ?_
      refine J_if_le (tgt := 434) dX1_holds_425 (by decide) (fun c => ?_) (fun c => ?_)
      · replace h := h.1 (lC_le.mp c)
        refine J_lload dX1_holds_434 rfl ?_
        refine J_ldc2 (-1000000) dX1_holds_436 kw_X1_95 (ll_c rfl) ?_
        refine J_lcmp dX1_holds_439 ?_
        refine J_if_ge (tgt := 449) dX1_holds_440 (by decide) (fun c => ?_) (fun c => ?_)
        · replace h := h.1 (lC_ge.mp c)
          refine J_lload dX1_holds_449 rfl ?_
          refine J_l2i dX1_holds_451 ?_
          refine J_iast dX1_holds_452 sh_65 h.1.1 h.1.2 ?_
          replace h := h.2 _ rfl
          refine J_iincN dX1_holds_453 rfl (by decide) h.1 ?_
          replace h := h.2
          change J _ _ _ _ _ _ [(0, _), (1, _), (2, _), (3, _), (4, _), (5, _), (6, _), (8, _)] _ _ _
          refine J_goto (tgt := 36) dX1_holds_456 (by decide) ?_
          exact J_loc (ls_sub [0, 1, 2, 3, 4] rfl) h
        · replace h := h.2 (fun w => c (lC_ge.mpr w))
          refine J_ldc2 (-1000000) dX1_holds_443 kw_X1_95 (ll_c rfl) ?_
          refine J_goto (tgt := 451) dX1_holds_446 (by decide) ?_
          refine J_l2i dX1_holds_451 ?_
          refine J_iast dX1_holds_452 sh_65 h.1.1 h.1.2 ?_
          replace h := h.2 _ rfl
          refine J_iincN dX1_holds_453 rfl (by decide) h.1 ?_
          replace h := h.2
          change J _ _ _ _ _ _ [(0, _), (1, _), (2, _), (3, _), (4, _), (5, _), (6, _), (8, _)] _ _ _
          refine J_goto (tgt := 36) dX1_holds_456 (by decide) ?_
          exact J_loc (ls_sub [0, 1, 2, 3, 4] rfl) h
      · replace h := h.2 (fun w => c (lC_le.mpr w))
        refine J_ldc2 1000000 dX1_holds_428 kw_X1_93 (ll_c rfl) ?_
        refine J_goto (tgt := 451) dX1_holds_431 (by decide) ?_
        refine J_l2i dX1_holds_451 ?_
        refine J_iast dX1_holds_452 sh_65 h.1.1 h.1.2 ?_
        replace h := h.2 _ rfl
        refine J_iincN dX1_holds_453 rfl (by decide) h.1 ?_
        replace h := h.2
        change J _ _ _ _ _ _ [(0, _), (1, _), (2, _), (3, _), (4, _), (5, _), (6, _), (8, _)] _ _ _
        refine J_goto (tgt := 36) dX1_holds_456 (by decide) ?_
        exact J_loc (ls_sub [0, 1, 2, 3, 4] rfl) h
    · replace h := h.2.2.2.2.2.2.2.2.2.2.1 c
      refine J_tabIn (tgt := 247) (off := 68) dX1_holds_179 (by omega) (by omega) (by rw [c]; rfl) (by decide) ?_
      refine J_lload dX1_holds_247 rfl ?_
      refine J_iload dX1_holds_249 rfl ?_
      refine J_i2l dX1_holds_251 ?_
      refine J_lsubN dX1_holds_252 h.1 ?_
      replace h := h.2
      refine J_lstore dX1_holds_253 (by decide) ?_
      change J _ _ _ _ _ _ [(0, _), (1, _), (2, _), (3, _), (4, _), (5, _), (6, _), (8, _)] _ _ _
      refine J_goto (tgt := 412) dX1_holds_255 (by decide) ?_
      refine J_aload_n dX1_holds_412 rfl rfl ?_
      refine J_getR dX1_holds_413 ck_1 fw_X1_21 rfl sh_62 rr_62_3 ?_
      refine J_iload_n dX1_holds_416 rfl rfl ?_
      refine J_iconst dX1_holds_417 (ii_c rfl) ?_
      refine J_isubN dX1_holds_418 h.1 ?_
      replace h := h.2
      refine J_lload dX1_holds_419 rfl ?_
      refine J_ldc2 1000000 dX1_holds_421 kw_X1_93 (ll_c rfl) ?_
      refine J_lcmp dX1_holds_424 ?_
      refine J_if_le (tgt := 434) dX1_holds_425 (by decide) (fun c => ?_) (fun c => ?_)
      · replace h := h.1 (lC_le.mp c)
        refine J_lload dX1_holds_434 rfl ?_
        refine J_ldc2 (-1000000) dX1_holds_436 kw_X1_95 (ll_c rfl) ?_
        refine J_lcmp dX1_holds_439 ?_
        refine J_if_ge (tgt := 449) dX1_holds_440 (by decide) (fun c => ?_) (fun c => ?_)
        · replace h := h.1 (lC_ge.mp c)
          refine J_lload dX1_holds_449 rfl ?_
          refine J_l2i dX1_holds_451 ?_
          refine J_iast dX1_holds_452 sh_65 h.1.1 h.1.2 ?_
          replace h := h.2 _ rfl
          refine J_iincN dX1_holds_453 rfl (by decide) h.1 ?_
          replace h := h.2
          change J _ _ _ _ _ _ [(0, _), (1, _), (2, _), (3, _), (4, _), (5, _), (6, _), (8, _)] _ _ _
          refine J_goto (tgt := 36) dX1_holds_456 (by decide) ?_
          exact J_loc (ls_sub [0, 1, 2, 3, 4] rfl) h
        · replace h := h.2 (fun w => c (lC_ge.mpr w))
          refine J_ldc2 (-1000000) dX1_holds_443 kw_X1_95 (ll_c rfl) ?_
          refine J_goto (tgt := 451) dX1_holds_446 (by decide) ?_
          refine J_l2i dX1_holds_451 ?_
          refine J_iast dX1_holds_452 sh_65 h.1.1 h.1.2 ?_
          replace h := h.2 _ rfl
          refine J_iincN dX1_holds_453 rfl (by decide) h.1 ?_
          replace h := h.2
          change J _ _ _ _ _ _ [(0, _), (1, _), (2, _), (3, _), (4, _), (5, _), (6, _), (8, _)] _ _ _
          refine J_goto (tgt := 36) dX1_holds_456 (by decide) ?_
          exact J_loc (ls_sub [0, 1, 2, 3, 4] rfl) h
      · replace h := h.2 (fun w => c (lC_le.mpr w))
        refine J_ldc2 1000000 dX1_holds_428 kw_X1_93 (ll_c rfl) ?_
        refine J_goto (tgt := 451) dX1_holds_431 (by decide) ?_
        refine J_l2i dX1_holds_451 ?_
        refine J_iast dX1_holds_452 sh_65 h.1.1 h.1.2 ?_
        replace h := h.2 _ rfl
        refine J_iincN dX1_holds_453 rfl (by decide) h.1 ?_
        replace h := h.2
        change J _ _ _ _ _ _ [(0, _), (1, _), (2, _), (3, _), (4, _), (5, _), (6, _), (8, _)] _ _ _
        refine J_goto (tgt := 36) dX1_holds_456 (by decide) ?_
        exact J_loc (ls_sub [0, 1, 2, 3, 4] rfl) h
    · replace h := h.2.2.2.2.2.2.2.2.2.2.2 c
      refine J_tabIn (tgt := 236) (off := 57) dX1_holds_179 (by omega) (by omega) (by rw [c]; rfl) (by decide) ?_
      refine J_lload dX1_holds_236 rfl ?_
      refine J_iload dX1_holds_238 rfl ?_
      refine J_i2l dX1_holds_240 ?_
      refine J_laddN dX1_holds_241 h.1 ?_
      replace h := h.2
      refine J_lstore dX1_holds_242 (by decide) ?_
      change J _ _ _ _ _ _ [(0, _), (1, _), (2, _), (3, _), (4, _), (5, _), (6, _), (8, _)] _ _ _
      refine J_goto (tgt := 412) dX1_holds_244 (by decide) ?_
      refine J_aload_n dX1_holds_412 rfl rfl ?_
      refine J_getR dX1_holds_413 ck_1 fw_X1_21 rfl sh_62 rr_62_3 ?_
      refine J_iload_n dX1_holds_416 rfl rfl ?_
      refine J_iconst dX1_holds_417 (ii_c rfl) ?_
      refine J_isubN dX1_holds_418 h.1 ?_
      replace h := h.2
      refine J_lload dX1_holds_419 rfl ?_
      refine J_ldc2 1000000 dX1_holds_421 kw_X1_93 (ll_c rfl) ?_
      refine J_lcmp dX1_holds_424 ?_
      refine J_if_le (tgt := 434) dX1_holds_425 (by decide) (fun c => ?_) (fun c => ?_)
      · replace h := h.1 (lC_le.mp c)
        refine J_lload dX1_holds_434 rfl ?_
        refine J_ldc2 (-1000000) dX1_holds_436 kw_X1_95 (ll_c rfl) ?_
        refine J_lcmp dX1_holds_439 ?_
        refine J_if_ge (tgt := 449) dX1_holds_440 (by decide) (fun c => ?_) (fun c => ?_)
        · replace h := h.1 (lC_ge.mp c)
          refine J_lload dX1_holds_449 rfl ?_
          refine J_l2i dX1_holds_451 ?_
          refine J_iast dX1_holds_452 sh_65 h.1.1 h.1.2 ?_
          replace h := h.2 _ rfl
          refine J_iincN dX1_holds_453 rfl (by decide) h.1 ?_
          replace h := h.2
          change J _ _ _ _ _ _ [(0, _), (1, _), (2, _), (3, _), (4, _), (5, _), (6, _), (8, _)] _ _ _
          refine J_goto (tgt := 36) dX1_holds_456 (by decide) ?_
          exact J_loc (ls_sub [0, 1, 2, 3, 4] rfl) h
        · replace h := h.2 (fun w => c (lC_ge.mpr w))
          refine J_ldc2 (-1000000) dX1_holds_443 kw_X1_95 (ll_c rfl) ?_
          refine J_goto (tgt := 451) dX1_holds_446 (by decide) ?_
          refine J_l2i dX1_holds_451 ?_
          refine J_iast dX1_holds_452 sh_65 h.1.1 h.1.2 ?_
          replace h := h.2 _ rfl
          refine J_iincN dX1_holds_453 rfl (by decide) h.1 ?_
          replace h := h.2
          change J _ _ _ _ _ _ [(0, _), (1, _), (2, _), (3, _), (4, _), (5, _), (6, _), (8, _)] _ _ _
          refine J_goto (tgt := 36) dX1_holds_456 (by decide) ?_
          exact J_loc (ls_sub [0, 1, 2, 3, 4] rfl) h
      · replace h := h.2 (fun w => c (lC_le.mpr w))
        refine J_ldc2 1000000 dX1_holds_428 kw_X1_93 (ll_c rfl) ?_
        refine J_goto (tgt := 451) dX1_holds_431 (by decide) ?_
        refine J_l2i dX1_holds_451 ?_
        refine J_iast dX1_holds_452 sh_65 h.1.1 h.1.2 ?_
        replace h := h.2 _ rfl
        refine J_iincN dX1_holds_453 rfl (by decide) h.1 ?_
        replace h := h.2
        change J _ _ _ _ _ _ [(0, _), (1, _), (2, _), (3, _), (4, _), (5, _), (6, _), (8, _)] _ _ _
        refine J_goto (tgt := 36) dX1_holds_456 (by decide) ?_
        exact J_loc (ls_sub [0, 1, 2, 3, 4] rfl) h
set_option maxRecDepth 20000 in
set_option maxHeartbeats 2000000 in
theorem bk_X4_firstIn_0 {d : Nat} {I : HI} {Q : Option AV → AH → Prop} {a1 : Int} {a2 : Int}  (h : ((0 : Int) ≤ a1 ∧ (a1 : Int) < 4) ∧ J none mX4_firstIn (d + 1) 0 0 13 [(0, vR 67), (1, vI a1), (2, vI a2), (3, vR (37 + 5 * a1.toNat)), (4, vI 0)] [] (mk I) Q) : J none mX4_firstIn (d + 1) 0 0 0 [(0, vR 67), (1, vI a1), (2, vI a2)] [] (mk I) Q := by
  refine J_aload_n dX4_firstIn_0 rfl rfl ?_
  refine J_getR dX4_firstIn_1 ck_4 fw_X4_19 rfl sh_67 rr_67_1 ?_
  refine J_getR dX4_firstIn_4 ck_9 fw_X4_31 rfl sh_32 rr_32_4 ?_
  refine J_iload_n dX4_firstIn_7 rfl rfl ?_
  have hb1 := h.1
  refine J_aald dX4_firstIn_8 sh_36 h.1.1 h.1.2 (RRw h.1.1 h.1.2) ?_
  replace h := h.2
  refine J_astore_n dX4_firstIn_9 rfl (by decide) ?_
  change J _ _ _ _ _ _ [(0, _), (1, _), (2, _), (3, _)] _ _ _
  refine J_iconst dX4_firstIn_10 (ii_c rfl) ?_
  refine J_istore dX4_firstIn_11 (by decide) ?_
  change J _ _ _ _ _ _ [(0, _), (1, _), (2, _), (3, _), (4, _)] _ _ _
  exact h
set_option maxRecDepth 20000 in
set_option maxHeartbeats 2000000 in
theorem bk_X4_firstIn_13 {d : Nat} {I : HI} {Q : Option AV → AH → Prop} {a1 : Int} {a2 : Int} {a3 ka3 : Nat} {a4 : Int} (ha3 : TR a3 ka3) (h : (((I a3 7) = 0 → Q (some (vI (-1))) (mk I)) ∧ (¬ ((I a3 7) = 0) → (((I a3 4) ≤ a4 → Q (some (vI (-1))) (mk I)) ∧ (¬ ((I a3 4) ≤ a4) → ((0 : Int) ≤ a4 ∧ (a4 : Int) < ka3) ∧ ((0 : Int) ≤ (I (a3 + 1) a4.toNat) ∧ (I (a3 + 1) a4.toNat : Int) < 10) ∧ (((I 5 (I (a3 + 1) a4.toNat).toNat) ≠ a2 → (-2147483648 ≤ a4 + 1 ∧ a4 + 1 ≤ 2147483647) ∧ J none mX4_firstIn (d + 1) 0 0 13 [(0, vR 67), (1, vI a1), (2, vI a2), (3, vR a3), (4, vI (a4 + 1))] [] (mk I) Q) ∧ ((I 5 (I (a3 + 1) a4.toNat).toNat) = a2 → ((a4 ≠ 0 → ((0 : Int) ≤ a4 ∧ (a4 : Int) < ka3) ∧ Q (some (vI (I (a3 + 4) a4.toNat))) (mk I)) ∧ (a4 = 0 → Q (some (vI 0)) (mk I)))))))))) : J none mX4_firstIn (d + 1) 0 0 13 [(0, vR 67), (1, vI a1), (2, vI a2), (3, vR a3), (4, vI a4)] [] (mk I) Q := by
  refine J_aload_n dX4_firstIn_13 rfl rfl ?_
  refine J_getI dX4_firstIn_14 ck_8 fw_X4_37 rfl ha3.1 ?_
  refine J_if_eq (tgt := 71) dX4_firstIn_17 (by decide) (fun c => ?_) (fun c => ?_)
  · replace h := h.1 c
    refine J_iconst dX4_firstIn_71 (ii_c rfl) ?_
    exact J_reti dX4_firstIn_72 rfl h
  · replace h := h.2 c
    refine J_iload dX4_firstIn_20 rfl ?_
    refine J_aload_n dX4_firstIn_22 rfl rfl ?_
    refine J_getI dX4_firstIn_23 ck_8 fw_X4_43 rfl ha3.1 ?_
    refine J_ic_ge (tgt := 71) dX4_firstIn_26 (by decide) (fun c => ?_) (fun c => ?_)
    · replace h := h.1 c
      refine J_iconst dX4_firstIn_71 (ii_c rfl) ?_
      exact J_reti dX4_firstIn_72 rfl h
    · replace h := h.2 c
      refine J_aload_n dX4_firstIn_29 rfl rfl ?_
      refine J_getR dX4_firstIn_30 ck_4 fw_X4_15 rfl sh_67 rr_67_0 ?_
      refine J_getR dX4_firstIn_33 ck_0 fw_X4_47 rfl sh_1 rr_1_3 ?_
      refine J_aload_n dX4_firstIn_36 rfl rfl ?_
      refine J_getR dX4_firstIn_37 ck_8 fw_X4_52 rfl ha3.1 ha3.2.1 ?_
      refine J_iload dX4_firstIn_40 rfl ?_
      refine J_iald dX4_firstIn_42 ha3.2.2.2.2.2.1 h.1.1 h.1.2 ?_
      replace h := h.2
      refine J_iald dX4_firstIn_43 sh_5 h.1.1 h.1.2 ?_
      replace h := h.2
      refine J_iload_n dX4_firstIn_44 rfl rfl ?_
      refine J_ic_ne (tgt := 65) dX4_firstIn_45 (by decide) (fun c => ?_) (fun c => ?_)
      · replace h := h.1 c
        refine J_iincN dX4_firstIn_65 rfl (by decide) h.1 ?_
        replace h := h.2
        change J _ _ _ _ _ _ [(0, _), (1, _), (2, _), (3, _), (4, _)] _ _ _
        refine J_goto (tgt := 13) dX4_firstIn_68 (by decide) ?_
        exact h
      · replace h := h.2 c
        refine J_iload dX4_firstIn_48 rfl ?_
        refine J_if_ne (tgt := 57) dX4_firstIn_50 (by decide) (fun c => ?_) (fun c => ?_)
        · replace h := h.1 c
          refine J_aload_n dX4_firstIn_57 rfl rfl ?_
          refine J_getR dX4_firstIn_58 ck_8 fw_X4_55 rfl ha3.1 ha3.2.2.2.2.1 ?_
          refine J_iload dX4_firstIn_61 rfl ?_
          refine J_iald dX4_firstIn_63 ha3.2.2.2.2.2.2.2.2 h.1.1 h.1.2 ?_
          replace h := h.2
          exact J_reti dX4_firstIn_64 rfl h
        · replace h := h.2 c
          refine J_iconst dX4_firstIn_53 (ii_c rfl) ?_
          refine J_goto (tgt := 64) dX4_firstIn_54 (by decide) ?_
          exact J_reti dX4_firstIn_64 rfl h
set_option maxRecDepth 20000 in
set_option maxHeartbeats 2000000 in
theorem bk_X4_firstClash_0 {d : Nat} {I : HI} {Q : Option AV → AH → Prop} {a1 : Int}  (h : J none mX4_firstClash (d + 1) 0 0 12 [(0, vR 67), (1, vI a1), (2, vI 2000), (3, vI (-1)), (4, vI (-1)), (5, vI 0)] [] (mk I) Q) : J none mX4_firstClash (d + 1) 0 0 0 [(0, vR 67), (1, vI a1)] [] (mk I) Q := by
  refine J_sipush dX4_firstClash_0 (ii_c rfl) (by decide) ?_
  refine J_istore_n dX4_firstClash_3 rfl (by decide) ?_
  change J _ _ _ _ _ _ [(0, _), (1, _), (2, _)] _ _ _
  refine J_iconst dX4_firstClash_4 (ii_c rfl) ?_
  refine J_istore_n dX4_firstClash_5 rfl (by decide) ?_
  change J _ _ _ _ _ _ [(0, _), (1, _), (2, _), (3, _)] _ _ _
  refine J_iconst dX4_firstClash_6 (ii_c rfl) ?_
  refine J_istore dX4_firstClash_7 (by decide) ?_
  change J _ _ _ _ _ _ [(0, _), (1, _), (2, _), (3, _), (4, _)] _ _ _
  refine J_iconst dX4_firstClash_9 (ii_c rfl) ?_
  refine J_istore dX4_firstClash_10 (by decide) ?_
  change J _ _ _ _ _ _ [(0, _), (1, _), (2, _), (3, _), (4, _), (5, _)] _ _ _
  exact h
set_option maxRecDepth 20000 in
set_option maxHeartbeats 2000000 in
theorem bk_X4_firstClash_12 {d : Nat} {I : HI} {Q : Option AV → AH → Prop} {a1 : Int} {a2 : Int} {a3 : Int} {a4 : Int} {a5 : Int}  (h : (((I 2 2) ≤ a5 → ((a3 ≠ (-1) → ((a1 ≠ 0 → ((a1 ≠ 1 → ((a1 ≠ 2 → Q (some (vI a4)) (mk I)) ∧ (a1 = 2 → Q (some (vI a3)) (mk I)))) ∧ (a1 = 1 → Q (some (vI (oM a2 2))) (mk I)))) ∧ (a1 = 0 → Q (some (vI (oD a2 2))) (mk I)))) ∧ (a3 = (-1) → Q (some (vI (-1))) (mk I)))) ∧ (¬ ((I 2 2) ≤ a5) → (-2147483648 ≤ a5 + 1 ∧ a5 + 1 ≤ 2147483647) ∧ J none mX4_firstClash (d + 1) 0 0 32 [(0, vR 67), (1, vI a1), (2, vI a2), (3, vI a3), (4, vI a4), (5, vI a5), (6, vI (a5 + 1))] [] (mk I) Q))) : J none mX4_firstClash (d + 1) 0 0 12 [(0, vR 67), (1, vI a1), (2, vI a2), (3, vI a3), (4, vI a4), (5, vI a5)] [] (mk I) Q := by
  refine J_iload dX4_firstClash_12 rfl ?_
  refine J_aload_n dX4_firstClash_14 rfl rfl ?_
  refine J_getR dX4_firstClash_15 ck_4 fw_X4_15 rfl sh_67 rr_67_0 ?_
  refine J_getR dX4_firstClash_18 ck_0 fw_X4_58 rfl sh_1 rr_1_0 ?_
  refine J_iconst dX4_firstClash_21 (ii_c rfl) ?_
  refine J_iald dX4_firstClash_22 sh_2 (by decide) (by decide) ?_
  refine J_ic_ge (tgt := 84) dX4_firstClash_23 (by decide) (fun c => ?_) (fun c => ?_)
  · replace h := h.1 c
    refine J_iload_n dX4_firstClash_84 rfl rfl ?_
    refine J_iconst dX4_firstClash_85 (ii_c rfl) ?_
    refine J_ic_ne (tgt := 91) dX4_firstClash_86 (by decide) (fun c => ?_) (fun c => ?_)
    · replace h := h.1 c
      refine J_iload_n dX4_firstClash_91 rfl rfl ?_
      refine J_if_ne (tgt := 101) dX4_firstClash_92 (by decide) (fun c => ?_) (fun c => ?_)
      · replace h := h.1 c
        refine J_iload_n dX4_firstClash_101 rfl rfl ?_
        refine J_iconst dX4_firstClash_102 (ii_c rfl) ?_
        refine J_ic_ne (tgt := 112) dX4_firstClash_103 (by decide) (fun c => ?_) (fun c => ?_)
        · replace h := h.1 c
          refine J_iload_n dX4_firstClash_112 rfl rfl ?_
          refine J_iconst dX4_firstClash_113 (ii_c rfl) ?_
          refine J_ic_ne (tgt := 121) dX4_firstClash_114 (by decide) (fun c => ?_) (fun c => ?_)
          · replace h := h.1 c
            refine J_iload dX4_firstClash_121 rfl ?_
            exact J_reti dX4_firstClash_123 rfl h
          · replace h := h.2 c
            refine J_iload_n dX4_firstClash_117 rfl rfl ?_
            refine J_goto (tgt := 123) dX4_firstClash_118 (by decide) ?_
            exact J_reti dX4_firstClash_123 rfl h
        · replace h := h.2 c
          refine J_iload_n dX4_firstClash_106 rfl rfl ?_
          refine J_iconst dX4_firstClash_107 (ii_c rfl) ?_
          refine J_irem dX4_firstClash_108 (by decide) ?_
          refine J_goto (tgt := 123) dX4_firstClash_109 (by decide) ?_
          exact J_reti dX4_firstClash_123 rfl h
      · replace h := h.2 c
        refine J_iload_n dX4_firstClash_95 rfl rfl ?_
        refine J_iconst dX4_firstClash_96 (ii_c rfl) ?_
        refine J_idiv dX4_firstClash_97 (by decide) ?_
        refine J_goto (tgt := 123) dX4_firstClash_98 (by decide) ?_
        exact J_reti dX4_firstClash_123 rfl h
    · replace h := h.2 c
      refine J_iconst dX4_firstClash_89 (ii_c rfl) ?_
      exact J_reti dX4_firstClash_90 rfl h
  · replace h := h.2 c
    refine J_iload dX4_firstClash_26 rfl ?_
    refine J_iconst dX4_firstClash_28 (ii_c rfl) ?_
    refine J_iaddN dX4_firstClash_29 h.1 ?_
    replace h := h.2
    refine J_istore dX4_firstClash_30 (by decide) ?_
    change J _ _ _ _ _ _ [(0, _), (1, _), (2, _), (3, _), (4, _), (5, _), (6, _)] _ _ _
    exact h
set_option maxRecDepth 20000 in
set_option maxHeartbeats 2000000 in
theorem bk_X4_firstClash_32 {d : Nat} {I : HI} {Q : Option AV → AH → Prop} {a1 : Int} {a2 : Int} {a3 : Int} {a4 : Int} {a5 : Int} {a6 : Int}  (h : (((I 2 2) ≤ a6 → (-2147483648 ≤ a5 + 1 ∧ a5 + 1 ≤ 2147483647) ∧ J none mX4_firstClash (d + 1) 0 0 12 [(0, vR 67), (1, vI a1), (2, vI a2), (3, vI a3), (4, vI a4), (5, vI (a5 + 1))] [] (mk I) Q) ∧ (¬ ((I 2 2) ≤ a6) → CI mX4_unexcusedOf d [vR 67, vI a5, vI a6] I (fun x1 I1 => ((a2 ≤ x1 → (-2147483648 ≤ a6 + 1 ∧ a6 + 1 ≤ 2147483647) ∧ J none mX4_firstClash (d + 1) 0 0 32 [(0, vR 67), (1, vI a1), (2, vI a2), (3, vI a3), (4, vI a4), (5, vI a5), (6, vI (a6 + 1))] [] (mk I1) Q) ∧ (¬ (a2 ≤ x1) → (-2147483648 ≤ a6 + 1 ∧ a6 + 1 ≤ 2147483647) ∧ J none mX4_firstClash (d + 1) 0 0 32 [(0, vR 67), (1, vI a1), (2, vI x1), (3, vI a5), (4, vI a6), (5, vI a5), (6, vI (a6 + 1))] [] (mk I1) Q)))))) : J none mX4_firstClash (d + 1) 0 0 32 [(0, vR 67), (1, vI a1), (2, vI a2), (3, vI a3), (4, vI a4), (5, vI a5), (6, vI a6)] [] (mk I) Q := by
  refine J_iload dX4_firstClash_32 rfl ?_
  refine J_aload_n dX4_firstClash_34 rfl rfl ?_
  refine J_getR dX4_firstClash_35 ck_4 fw_X4_15 rfl sh_67 rr_67_0 ?_
  refine J_getR dX4_firstClash_38 ck_0 fw_X4_58 rfl sh_1 rr_1_0 ?_
  refine J_iconst dX4_firstClash_41 (ii_c rfl) ?_
  refine J_iald dX4_firstClash_42 sh_2 (by decide) (by decide) ?_
  refine J_ic_ge (tgt := 78) dX4_firstClash_43 (by decide) (fun c => ?_) (fun c => ?_)
  · replace h := h.1 c
    refine J_iincN dX4_firstClash_78 rfl (by decide) h.1 ?_
    replace h := h.2
    change J _ _ _ _ _ _ [(0, _), (1, _), (2, _), (3, _), (4, _), (5, _), (6, _)] _ _ _
    refine J_goto (tgt := 12) dX4_firstClash_81 (by decide) ?_
    exact J_loc (ls_sub [0, 1, 2, 3, 4, 5] rfl) h
  · replace h := h.2 c
    refine J_aload_n dX4_firstClash_46 rfl rfl ?_
    refine J_iload dX4_firstClash_47 rfl ?_
    refine J_iload dX4_firstClash_49 rfl ?_
    refine J_callV (as := [_, _]) (mc1 := 0) (ms1 := 0) (mc := 0) (ms := 0) dX4_firstClash_51 mv_X4_unexcusedOf lk_X4_61 sh_67 rfl (Nat.le_of_ble_eq_true rfl) (Nat.le_of_ble_eq_true rfl) h (fun r σ hq _ => ?_)
    obtain ⟨x1, I1, rfl, rfl, h⟩ := hq
    change J _ _ _ _ _ _ _ [vI x1] _ _
    refine J_istore dX4_firstClash_54 (by decide) ?_
    change J _ _ _ _ _ _ [(0, _), (1, _), (2, _), (3, _), (4, _), (5, _), (6, _), (7, _)] _ _ _
    refine J_iload dX4_firstClash_56 rfl ?_
    refine J_iload_n dX4_firstClash_58 rfl rfl ?_
    refine J_ic_ge (tgt := 72) dX4_firstClash_59 (by decide) (fun c => ?_) (fun c => ?_)
    · replace h := h.1 c
      refine J_iincN dX4_firstClash_72 rfl (by decide) h.1 ?_
      replace h := h.2
      change J _ _ _ _ _ _ [(0, _), (1, _), (2, _), (3, _), (4, _), (5, _), (6, _), (7, _)] _ _ _
      refine J_goto (tgt := 32) dX4_firstClash_75 (by decide) ?_
      exact J_loc (ls_sub [0, 1, 2, 3, 4, 5, 6] rfl) h
    · replace h := h.2 c
      refine J_iload dX4_firstClash_62 rfl ?_
      refine J_istore_n dX4_firstClash_64 rfl (by decide) ?_
      change J _ _ _ _ _ _ [(0, _), (1, _), (2, _), (3, _), (4, _), (5, _), (6, _), (7, _)] _ _ _
      refine J_iload dX4_firstClash_65 rfl ?_
      refine J_istore_n dX4_firstClash_67 rfl (by decide) ?_
      change J _ _ _ _ _ _ [(0, _), (1, _), (2, _), (3, _), (4, _), (5, _), (6, _), (7, _)] _ _ _
      refine J_iload dX4_firstClash_68 rfl ?_
      refine J_istore dX4_firstClash_70 (by decide) ?_
      change J _ _ _ _ _ _ [(0, _), (1, _), (2, _), (3, _), (4, _), (5, _), (6, _), (7, _)] _ _ _
      refine J_iincN dX4_firstClash_72 rfl (by decide) h.1 ?_
      replace h := h.2
      change J _ _ _ _ _ _ [(0, _), (1, _), (2, _), (3, _), (4, _), (5, _), (6, _), (7, _)] _ _ _
      refine J_goto (tgt := 32) dX4_firstClash_75 (by decide) ?_
      exact J_loc (ls_sub [0, 1, 2, 3, 4, 5, 6] rfl) h
set_option maxRecDepth 20000 in
set_option maxHeartbeats 2000000 in
theorem bk_X4_unexcusedOf_0 {d : Nat} {I : HI} {Q : Option AV → AH → Prop} {a1 : Int} {a2 : Int}  (h : CV mX3_scanAll d [vR 57, vI a1, vI a2, vR 36] I (fun I1 => J none mX4_unexcusedOf (d + 1) 0 0 23 [(0, vR 67), (1, vI a1), (2, vI a2), (3, vI 2000), (4, vI 0)] [] (mk I1) Q)) : J none mX4_unexcusedOf (d + 1) 0 0 0 [(0, vR 67), (1, vI a1), (2, vI a2)] [] (mk I) Q := by
  refine J_sipush dX4_unexcusedOf_0 (ii_c rfl) (by decide) ?_
  refine J_istore_n dX4_unexcusedOf_3 rfl (by decide) ?_
  change J _ _ _ _ _ _ [(0, _), (1, _), (2, _), (3, _)] _ _ _
  refine J_aload_n dX4_unexcusedOf_4 rfl rfl ?_
  refine J_getR dX4_unexcusedOf_5 ck_4 fw_X4_23 rfl sh_67 rr_67_2 ?_
  refine J_iload_n dX4_unexcusedOf_8 rfl rfl ?_
  refine J_iload_n dX4_unexcusedOf_9 rfl rfl ?_
  refine J_aload_n dX4_unexcusedOf_10 rfl rfl ?_
  refine J_getR dX4_unexcusedOf_11 ck_4 fw_X4_19 rfl sh_67 rr_67_1 ?_
  refine J_getR dX4_unexcusedOf_14 ck_9 fw_X4_31 rfl sh_32 rr_32_4 ?_
  refine J_callV (as := [_, _, _]) (mc1 := 0) (ms1 := 0) (mc := 0) (ms := 0) dX4_unexcusedOf_17 mv_X3_scanAll lk_X4_65 sh_57 rfl (Nat.le_of_ble_eq_true rfl) (Nat.le_of_ble_eq_true rfl) h (fun r σ hq _ => ?_)
  obtain ⟨I1, rfl, rfl, h⟩ := hq
  change J _ _ _ _ _ _ _ [] _ _
  refine J_iconst dX4_unexcusedOf_20 (ii_c rfl) ?_
  refine J_istore dX4_unexcusedOf_21 (by decide) ?_
  change J _ _ _ _ _ _ [(0, _), (1, _), (2, _), (3, _), (4, _)] _ _ _
  exact h
set_option maxRecDepth 20000 in
set_option maxHeartbeats 2000000 in
theorem bk_X4_unexcusedOf_23 {d : Nat} {I : HI} {Q : Option AV → AH → Prop} {a1 : Int} {a2 : Int} {a3 : Int} {a4 : Int}  (h : (((I 57 5) ≤ a4 → Q (some (vI a3)) (mk I)) ∧ (¬ ((I 57 5) ≤ a4) → ((0 : Int) ≤ a4 ∧ (a4 : Int) < 1201) ∧ (((I 60 a4.toNat) ≠ 21 → ((0 : Int) ≤ a4 ∧ (a4 : Int) < 1201) ∧ (-2147483648 ≤ (I 58 a4.toNat) * 2 ∧ (I 58 a4.toNat) * 2 ≤ 2147483647) ∧ (-2147483648 ≤ ((I 58 a4.toNat) * 2) + 0 ∧ ((I 58 a4.toNat) * 2) + 0 ≤ 2147483647) ∧ ((a3 ≤ (((I 58 a4.toNat) * 2) + 0) → (-2147483648 ≤ a4 + 1 ∧ a4 + 1 ≤ 2147483647) ∧ J none mX4_unexcusedOf (d + 1) 0 0 23 [(0, vR 67), (1, vI a1), (2, vI a2), (3, vI a3), (4, vI (a4 + 1))] [] (mk I) Q) ∧ (¬ (a3 ≤ (((I 58 a4.toNat) * 2) + 0)) → CI mX9_onBits d [vR 32] I (fun x1 I1 => CI mX1_firstUnexcused d [vR 62, vR 57, vI a4, vI x1] I1 (fun x2 I2 => ((0 : Int) ≤ a4 ∧ (a4 : Int) < 1201) ∧ (((I2 59 a4.toNat) < x2 → (-2147483648 ≤ a4 + 1 ∧ a4 + 1 ≤ 2147483647) ∧ J none mX4_unexcusedOf (d + 1) 0 0 23 [(0, vR 67), (1, vI a1), (2, vI a2), (3, vI a3), (4, vI (a4 + 1))] [] (mk I2) Q) ∧ (¬ ((I2 59 a4.toNat) < x2) → (-2147483648 ≤ x2 * 2 ∧ x2 * 2 ≤ 2147483647) ∧ (-2147483648 ≤ (x2 * 2) + 0 ∧ (x2 * 2) + 0 ≤ 2147483647) ∧ (-2147483648 ≤ a4 + 1 ∧ a4 + 1 ≤ 2147483647) ∧ J none mX4_unexcusedOf (d + 1) 0 0 23 [(0, vR 67), (1, vI a1), (2, vI a2), (3, vI (min a3 ((x2 * 2) + 0))), (4, vI (a4 + 1))] [] (mk I2) Q))))))) ∧ ((I 60 a4.toNat) = 21 → ((0 : Int) ≤ a4 ∧ (a4 : Int) < 1201) ∧ (-2147483648 ≤ (I 58 a4.toNat) * 2 ∧ (I 58 a4.toNat) * 2 ≤ 2147483647) ∧ (-2147483648 ≤ ((I 58 a4.toNat) * 2) + 1 ∧ ((I 58 a4.toNat) * 2) + 1 ≤ 2147483647) ∧ ((a3 ≤ (((I 58 a4.toNat) * 2) + 1) → (-2147483648 ≤ a4 + 1 ∧ a4 + 1 ≤ 2147483647) ∧ J none mX4_unexcusedOf (d + 1) 0 0 23 [(0, vR 67), (1, vI a1), (2, vI a2), (3, vI a3), (4, vI (a4 + 1))] [] (mk I) Q) ∧ (¬ (a3 ≤ (((I 58 a4.toNat) * 2) + 1)) → CI mX9_onBits d [vR 32] I (fun x3 I3 => CI mX1_firstUnexcused d [vR 62, vR 57, vI a4, vI x3] I3 (fun x4 I4 => ((0 : Int) ≤ a4 ∧ (a4 : Int) < 1201) ∧ (((I4 59 a4.toNat) < x4 → (-2147483648 ≤ a4 + 1 ∧ a4 + 1 ≤ 2147483647) ∧ J none mX4_unexcusedOf (d + 1) 0 0 23 [(0, vR 67), (1, vI a1), (2, vI a2), (3, vI a3), (4, vI (a4 + 1))] [] (mk I4) Q) ∧ (¬ ((I4 59 a4.toNat) < x4) → (-2147483648 ≤ x4 * 2 ∧ x4 * 2 ≤ 2147483647) ∧ (-2147483648 ≤ (x4 * 2) + 1 ∧ (x4 * 2) + 1 ≤ 2147483647) ∧ (-2147483648 ≤ a4 + 1 ∧ a4 + 1 ≤ 2147483647) ∧ J none mX4_unexcusedOf (d + 1) 0 0 23 [(0, vR 67), (1, vI a1), (2, vI a2), (3, vI (min a3 ((x4 * 2) + 1))), (4, vI (a4 + 1))] [] (mk I4) Q))))))))))) : J none mX4_unexcusedOf (d + 1) 0 0 23 [(0, vR 67), (1, vI a1), (2, vI a2), (3, vI a3), (4, vI a4)] [] (mk I) Q := by
  refine J_iload dX4_unexcusedOf_23 rfl ?_
  refine J_aload_n dX4_unexcusedOf_25 rfl rfl ?_
  refine J_getR dX4_unexcusedOf_26 ck_4 fw_X4_23 rfl sh_67 rr_67_2 ?_
  refine J_getI dX4_unexcusedOf_29 ck_3 fw_X4_71 rfl sh_57 ?_
  refine J_ic_ge (tgt := 131) dX4_unexcusedOf_32 (by decide) (fun c => ?_) (fun c => ?_)
  · replace h := h.1 c
    refine J_iload_n dX4_unexcusedOf_131 rfl rfl ?_
    exact J_reti dX4_unexcusedOf_132 rfl h
  · replace h := h.2 c
    refine J_aload_n dX4_unexcusedOf_35 rfl rfl ?_
    refine J_getR dX4_unexcusedOf_36 ck_4 fw_X4_23 rfl sh_67 rr_67_2 ?_
    refine J_getR dX4_unexcusedOf_39 ck_3 fw_X4_74 rfl sh_57 rr_57_3 ?_
    refine J_iload dX4_unexcusedOf_42 rfl ?_
    refine J_iald dX4_unexcusedOf_44 sh_60 h.1.1 h.1.2 ?_
    replace h := h.2
    refine J_bipush dX4_unexcusedOf_45 (ii_c rfl) (by decide) ?_
    refine J_ic_ne (tgt := 54) dX4_unexcusedOf_47 (by decide) (fun c => ?_) (fun c => ?_)
    · replace h := h.1 c
      refine J_iconst dX4_unexcusedOf_54 (ii_c rfl) ?_
      refine J_istore dX4_unexcusedOf_55 (by decide) ?_
      change J _ _ _ _ _ _ [(0, _), (1, _), (2, _), (3, _), (4, _), (5, _)] _ _ _
      refine J_aload_n dX4_unexcusedOf_57 rfl rfl ?_
      refine J_getR dX4_unexcusedOf_58 ck_4 fw_X4_23 rfl sh_67 rr_67_2 ?_
      refine J_getR dX4_unexcusedOf_61 ck_3 fw_X4_77 rfl sh_57 rr_57_1 ?_
      refine J_iload dX4_unexcusedOf_64 rfl ?_
      refine J_iald dX4_unexcusedOf_66 sh_58 h.1.1 h.1.2 ?_
      replace h := h.2
      refine J_iconst dX4_unexcusedOf_67 (ii_c rfl) ?_
      refine J_imulN dX4_unexcusedOf_68 h.1 ?_
      replace h := h.2
      refine J_iload dX4_unexcusedOf_69 rfl ?_
      refine J_iaddN dX4_unexcusedOf_71 h.1 ?_
      replace h := h.2
      refine J_iload_n dX4_unexcusedOf_72 rfl rfl ?_
      refine J_ic_ge (tgt := 125) dX4_unexcusedOf_73 (by decide) (fun c => ?_) (fun c => ?_)
      · replace h := h.1 c
        refine J_iincN dX4_unexcusedOf_125 rfl (by decide) h.1 ?_
        replace h := h.2
        change J _ _ _ _ _ _ [(0, _), (1, _), (2, _), (3, _), (4, _), (5, _)] _ _ _
        refine J_goto (tgt := 23) dX4_unexcusedOf_128 (by decide) ?_
        exact J_loc (ls_sub [0, 1, 2, 3, 4] rfl) h
      · replace h := h.2 c
        refine J_aload_n dX4_unexcusedOf_76 rfl rfl ?_
        refine J_getR dX4_unexcusedOf_77 ck_4 fw_X4_27 rfl sh_67 rr_67_3 ?_
        refine J_aload_n dX4_unexcusedOf_80 rfl rfl ?_
        refine J_getR dX4_unexcusedOf_81 ck_4 fw_X4_23 rfl sh_67 rr_67_2 ?_
        refine J_iload dX4_unexcusedOf_84 rfl ?_
        refine J_aload_n dX4_unexcusedOf_86 rfl rfl ?_
        refine J_getR dX4_unexcusedOf_87 ck_4 fw_X4_19 rfl sh_67 rr_67_1 ?_
        refine J_callV (as := []) (mc1 := 0) (ms1 := 0) (mc := 0) (ms := 0) dX4_unexcusedOf_90 mv_X9_onBits lk_X4_80 sh_32 rfl (Nat.le_of_ble_eq_true rfl) (Nat.le_of_ble_eq_true rfl) h (fun r σ hq _ => ?_)
        obtain ⟨x1, I1, rfl, rfl, h⟩ := hq
        change J _ _ _ _ _ _ _ [vI x1, _, _, _] _ _
        refine J_callV (as := [_, _, _]) (mc1 := 0) (ms1 := 0) (mc := 0) (ms := 0) dX4_unexcusedOf_93 mv_X1_firstUnexcused lk_X4_84 sh_62 rfl (Nat.le_of_ble_eq_true rfl) (Nat.le_of_ble_eq_true rfl) h (fun r σ hq _ => ?_)
        obtain ⟨x2, I2, rfl, rfl, h⟩ := hq
        change J _ _ _ _ _ _ _ [vI x2] _ _
        refine J_istore dX4_unexcusedOf_96 (by decide) ?_
        change J _ _ _ _ _ _ [(0, _), (1, _), (2, _), (3, _), (4, _), (5, _), (6, _)] _ _ _
        refine J_iload dX4_unexcusedOf_98 rfl ?_
        refine J_aload_n dX4_unexcusedOf_100 rfl rfl ?_
        refine J_getR dX4_unexcusedOf_101 ck_4 fw_X4_23 rfl sh_67 rr_67_2 ?_
        refine J_getR dX4_unexcusedOf_104 ck_3 fw_X4_90 rfl sh_57 rr_57_2 ?_
        refine J_iload dX4_unexcusedOf_107 rfl ?_
        refine J_iald dX4_unexcusedOf_109 sh_59 h.1.1 h.1.2 ?_
        replace h := h.2
        refine J_ic_gt (tgt := 125) dX4_unexcusedOf_110 (by decide) (fun c => ?_) (fun c => ?_)
        · replace h := h.1 c
          refine J_iincN dX4_unexcusedOf_125 rfl (by decide) h.1 ?_
          replace h := h.2
          change J _ _ _ _ _ _ [(0, _), (1, _), (2, _), (3, _), (4, _), (5, _), (6, _)] _ _ _
          refine J_goto (tgt := 23) dX4_unexcusedOf_128 (by decide) ?_
          exact J_loc (ls_sub [0, 1, 2, 3, 4] rfl) h
        · replace h := h.2 c
          refine J_iload_n dX4_unexcusedOf_113 rfl rfl ?_
          refine J_iload dX4_unexcusedOf_114 rfl ?_
          refine J_iconst dX4_unexcusedOf_116 (ii_c rfl) ?_
          refine J_imulN dX4_unexcusedOf_117 h.1 ?_
          replace h := h.2
          refine J_iload dX4_unexcusedOf_118 rfl ?_
          refine J_iaddN dX4_unexcusedOf_120 h.1 ?_
          replace h := h.2
          refine J_min dX4_unexcusedOf_121 lk_X4_93 (Nat.le_of_ble_eq_true rfl) ?_
          refine J_istore_n dX4_unexcusedOf_124 rfl (by decide) ?_
          change J _ _ _ _ _ _ [(0, _), (1, _), (2, _), (3, _), (4, _), (5, _), (6, _)] _ _ _
          refine J_iincN dX4_unexcusedOf_125 rfl (by decide) h.1 ?_
          replace h := h.2
          change J _ _ _ _ _ _ [(0, _), (1, _), (2, _), (3, _), (4, _), (5, _), (6, _)] _ _ _
          refine J_goto (tgt := 23) dX4_unexcusedOf_128 (by decide) ?_
          exact J_loc (ls_sub [0, 1, 2, 3, 4] rfl) h
    · replace h := h.2 c
      refine J_iconst dX4_unexcusedOf_50 (ii_c rfl) ?_
      refine J_goto (tgt := 55) dX4_unexcusedOf_51 (by decide) ?_
      refine J_istore dX4_unexcusedOf_55 (by decide) ?_
      change J _ _ _ _ _ _ [(0, _), (1, _), (2, _), (3, _), (4, _), (5, _)] _ _ _
      refine J_aload_n dX4_unexcusedOf_57 rfl rfl ?_
      refine J_getR dX4_unexcusedOf_58 ck_4 fw_X4_23 rfl sh_67 rr_67_2 ?_
      refine J_getR dX4_unexcusedOf_61 ck_3 fw_X4_77 rfl sh_57 rr_57_1 ?_
      refine J_iload dX4_unexcusedOf_64 rfl ?_
      refine J_iald dX4_unexcusedOf_66 sh_58 h.1.1 h.1.2 ?_
      replace h := h.2
      refine J_iconst dX4_unexcusedOf_67 (ii_c rfl) ?_
      refine J_imulN dX4_unexcusedOf_68 h.1 ?_
      replace h := h.2
      refine J_iload dX4_unexcusedOf_69 rfl ?_
      refine J_iaddN dX4_unexcusedOf_71 h.1 ?_
      replace h := h.2
      refine J_iload_n dX4_unexcusedOf_72 rfl rfl ?_
      refine J_ic_ge (tgt := 125) dX4_unexcusedOf_73 (by decide) (fun c => ?_) (fun c => ?_)
      · replace h := h.1 c
        refine J_iincN dX4_unexcusedOf_125 rfl (by decide) h.1 ?_
        replace h := h.2
        change J _ _ _ _ _ _ [(0, _), (1, _), (2, _), (3, _), (4, _), (5, _)] _ _ _
        refine J_goto (tgt := 23) dX4_unexcusedOf_128 (by decide) ?_
        exact J_loc (ls_sub [0, 1, 2, 3, 4] rfl) h
      · replace h := h.2 c
        refine J_aload_n dX4_unexcusedOf_76 rfl rfl ?_
        refine J_getR dX4_unexcusedOf_77 ck_4 fw_X4_27 rfl sh_67 rr_67_3 ?_
        refine J_aload_n dX4_unexcusedOf_80 rfl rfl ?_
        refine J_getR dX4_unexcusedOf_81 ck_4 fw_X4_23 rfl sh_67 rr_67_2 ?_
        refine J_iload dX4_unexcusedOf_84 rfl ?_
        refine J_aload_n dX4_unexcusedOf_86 rfl rfl ?_
        refine J_getR dX4_unexcusedOf_87 ck_4 fw_X4_19 rfl sh_67 rr_67_1 ?_
        refine J_callV (as := []) (mc1 := 0) (ms1 := 0) (mc := 0) (ms := 0) dX4_unexcusedOf_90 mv_X9_onBits lk_X4_80 sh_32 rfl (Nat.le_of_ble_eq_true rfl) (Nat.le_of_ble_eq_true rfl) h (fun r σ hq _ => ?_)
        obtain ⟨x3, I3, rfl, rfl, h⟩ := hq
        change J _ _ _ _ _ _ _ [vI x3, _, _, _] _ _
        refine J_callV (as := [_, _, _]) (mc1 := 0) (ms1 := 0) (mc := 0) (ms := 0) dX4_unexcusedOf_93 mv_X1_firstUnexcused lk_X4_84 sh_62 rfl (Nat.le_of_ble_eq_true rfl) (Nat.le_of_ble_eq_true rfl) h (fun r σ hq _ => ?_)
        obtain ⟨x4, I4, rfl, rfl, h⟩ := hq
        change J _ _ _ _ _ _ _ [vI x4] _ _
        refine J_istore dX4_unexcusedOf_96 (by decide) ?_
        change J _ _ _ _ _ _ [(0, _), (1, _), (2, _), (3, _), (4, _), (5, _), (6, _)] _ _ _
        refine J_iload dX4_unexcusedOf_98 rfl ?_
        refine J_aload_n dX4_unexcusedOf_100 rfl rfl ?_
        refine J_getR dX4_unexcusedOf_101 ck_4 fw_X4_23 rfl sh_67 rr_67_2 ?_
        refine J_getR dX4_unexcusedOf_104 ck_3 fw_X4_90 rfl sh_57 rr_57_2 ?_
        refine J_iload dX4_unexcusedOf_107 rfl ?_
        refine J_iald dX4_unexcusedOf_109 sh_59 h.1.1 h.1.2 ?_
        replace h := h.2
        refine J_ic_gt (tgt := 125) dX4_unexcusedOf_110 (by decide) (fun c => ?_) (fun c => ?_)
        · replace h := h.1 c
          refine J_iincN dX4_unexcusedOf_125 rfl (by decide) h.1 ?_
          replace h := h.2
          change J _ _ _ _ _ _ [(0, _), (1, _), (2, _), (3, _), (4, _), (5, _), (6, _)] _ _ _
          refine J_goto (tgt := 23) dX4_unexcusedOf_128 (by decide) ?_
          exact J_loc (ls_sub [0, 1, 2, 3, 4] rfl) h
        · replace h := h.2 c
          refine J_iload_n dX4_unexcusedOf_113 rfl rfl ?_
          refine J_iload dX4_unexcusedOf_114 rfl ?_
          refine J_iconst dX4_unexcusedOf_116 (ii_c rfl) ?_
          refine J_imulN dX4_unexcusedOf_117 h.1 ?_
          replace h := h.2
          refine J_iload dX4_unexcusedOf_118 rfl ?_
          refine J_iaddN dX4_unexcusedOf_120 h.1 ?_
          replace h := h.2
          refine J_min dX4_unexcusedOf_121 lk_X4_93 (Nat.le_of_ble_eq_true rfl) ?_
          refine J_istore_n dX4_unexcusedOf_124 rfl (by decide) ?_
          change J _ _ _ _ _ _ [(0, _), (1, _), (2, _), (3, _), (4, _), (5, _), (6, _)] _ _ _
          refine J_iincN dX4_unexcusedOf_125 rfl (by decide) h.1 ?_
          replace h := h.2
          change J _ _ _ _ _ _ [(0, _), (1, _), (2, _), (3, _), (4, _), (5, _), (6, _)] _ _ _
          refine J_goto (tgt := 23) dX4_unexcusedOf_128 (by decide) ?_
          exact J_loc (ls_sub [0, 1, 2, 3, 4] rfl) h
set_option maxRecDepth 20000 in
set_option maxHeartbeats 2000000 in
theorem bk_X4_tally_0 {d : Nat} {I : HI} {Q : Option AV → AH → Prop} {a1 : Int}  (h : J none mX4_tally (d + 1) 0 0 4 [(0, vR 67), (1, vI a1), (2, vI 0), (3, vI 0)] [] (mk I) Q) : J none mX4_tally (d + 1) 0 0 0 [(0, vR 67), (1, vI a1)] [] (mk I) Q := by
  refine J_iconst dX4_tally_0 (ii_c rfl) ?_
  refine J_istore_n dX4_tally_1 rfl (by decide) ?_
  change J _ _ _ _ _ _ [(0, _), (1, _), (2, _)] _ _ _
  refine J_iconst dX4_tally_2 (ii_c rfl) ?_
  refine J_istore_n dX4_tally_3 rfl (by decide) ?_
  change J _ _ _ _ _ _ [(0, _), (1, _), (2, _), (3, _)] _ _ _
  exact h
set_option maxRecDepth 20000 in
set_option maxHeartbeats 2000000 in
theorem bk_X4_tally_4 {d : Nat} {I : HI} {Q : Option AV → AH → Prop} {a1 : Int} {a2 : Int} {a3 : Int}  (h : (((I 2 2) ≤ a3 → Q (some (vI a2)) (mk I)) ∧ (¬ ((I 2 2) ≤ a3) → (-2147483648 ≤ a3 + 1 ∧ a3 + 1 ≤ 2147483647) ∧ J none mX4_tally (d + 1) 0 0 22 [(0, vR 67), (1, vI a1), (2, vI a2), (3, vI a3), (4, vI (a3 + 1))] [] (mk I) Q))) : J none mX4_tally (d + 1) 0 0 4 [(0, vR 67), (1, vI a1), (2, vI a2), (3, vI a3)] [] (mk I) Q := by
  refine J_iload_n dX4_tally_4 rfl rfl ?_
  refine J_aload_n dX4_tally_5 rfl rfl ?_
  refine J_getR dX4_tally_6 ck_4 fw_X4_15 rfl sh_67 rr_67_0 ?_
  refine J_getR dX4_tally_9 ck_0 fw_X4_58 rfl sh_1 rr_1_0 ?_
  refine J_iconst dX4_tally_12 (ii_c rfl) ?_
  refine J_iald dX4_tally_13 sh_2 (by decide) (by decide) ?_
  refine J_ic_ge (tgt := 59) dX4_tally_14 (by decide) (fun c => ?_) (fun c => ?_)
  · replace h := h.1 c
    refine J_iload_n dX4_tally_59 rfl rfl ?_
    exact J_reti dX4_tally_60 rfl h
  · replace h := h.2 c
    refine J_iload_n dX4_tally_17 rfl rfl ?_
    refine J_iconst dX4_tally_18 (ii_c rfl) ?_
    refine J_iaddN dX4_tally_19 h.1 ?_
    replace h := h.2
    refine J_istore dX4_tally_20 (by decide) ?_
    change J _ _ _ _ _ _ [(0, _), (1, _), (2, _), (3, _), (4, _)] _ _ _
    exact h
set_option maxRecDepth 20000 in
set_option maxHeartbeats 2000000 in
theorem bk_X4_tally_22 {d : Nat} {I : HI} {Q : Option AV → AH → Prop} {a1 : Int} {a2 : Int} {a3 : Int} {a4 : Int}  (h : (((I 2 2) ≤ a4 → (-2147483648 ≤ a3 + 1 ∧ a3 + 1 ≤ 2147483647) ∧ J none mX4_tally (d + 1) 0 0 4 [(0, vR 67), (1, vI a1), (2, vI a2), (3, vI (a3 + 1))] [] (mk I) Q) ∧ (¬ ((I 2 2) ≤ a4) → CI mX4_tallyOf d [vR 67, vI a3, vI a4, vI a1] I (fun x1 I1 => (-2147483648 ≤ a2 + x1 ∧ a2 + x1 ≤ 2147483647) ∧ (-2147483648 ≤ a4 + 1 ∧ a4 + 1 ≤ 2147483647) ∧ J none mX4_tally (d + 1) 0 0 22 [(0, vR 67), (1, vI a1), (2, vI (a2 + x1)), (3, vI a3), (4, vI (a4 + 1))] [] (mk I1) Q)))) : J none mX4_tally (d + 1) 0 0 22 [(0, vR 67), (1, vI a1), (2, vI a2), (3, vI a3), (4, vI a4)] [] (mk I) Q := by
  refine J_iload dX4_tally_22 rfl ?_
  refine J_aload_n dX4_tally_24 rfl rfl ?_
  refine J_getR dX4_tally_25 ck_4 fw_X4_15 rfl sh_67 rr_67_0 ?_
  refine J_getR dX4_tally_28 ck_0 fw_X4_58 rfl sh_1 rr_1_0 ?_
  refine J_iconst dX4_tally_31 (ii_c rfl) ?_
  refine J_iald dX4_tally_32 sh_2 (by decide) (by decide) ?_
  refine J_ic_ge (tgt := 53) dX4_tally_33 (by decide) (fun c => ?_) (fun c => ?_)
  · replace h := h.1 c
    refine J_iincN dX4_tally_53 rfl (by decide) h.1 ?_
    replace h := h.2
    change J _ _ _ _ _ _ [(0, _), (1, _), (2, _), (3, _), (4, _)] _ _ _
    refine J_goto (tgt := 4) dX4_tally_56 (by decide) ?_
    exact J_loc (ls_sub [0, 1, 2, 3] rfl) h
  · replace h := h.2 c
    refine J_iload_n dX4_tally_36 rfl rfl ?_
    refine J_aload_n dX4_tally_37 rfl rfl ?_
    refine J_iload_n dX4_tally_38 rfl rfl ?_
    refine J_iload dX4_tally_39 rfl ?_
    refine J_iload_n dX4_tally_41 rfl rfl ?_
    refine J_callV (as := [_, _, _]) (mc1 := 0) (ms1 := 0) (mc := 0) (ms := 0) dX4_tally_42 mv_X4_tallyOf lk_X4_98 sh_67 rfl (Nat.le_of_ble_eq_true rfl) (Nat.le_of_ble_eq_true rfl) h (fun r σ hq _ => ?_)
    obtain ⟨x1, I1, rfl, rfl, h⟩ := hq
    change J _ _ _ _ _ _ _ [vI x1, _] _ _
    refine J_iaddN dX4_tally_45 h.1 ?_
    replace h := h.2
    refine J_istore_n dX4_tally_46 rfl (by decide) ?_
    change J _ _ _ _ _ _ [(0, _), (1, _), (2, _), (3, _), (4, _)] _ _ _
    refine J_iincN dX4_tally_47 rfl (by decide) h.1 ?_
    replace h := h.2
    change J _ _ _ _ _ _ [(0, _), (1, _), (2, _), (3, _), (4, _)] _ _ _
    refine J_goto (tgt := 22) dX4_tally_50 (by decide) ?_
    exact h
