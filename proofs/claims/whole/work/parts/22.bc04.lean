set_option maxRecDepth 20000 in
set_option maxHeartbeats 2000000 in
theorem bk_X5_judged_0 {d : Nat} {I : HI} {Q : Option AV → AH → Prop} {a1 : Int} {a2 : Int} {a3 : Int} {a4 : Int}  (h : CI mX10_pairOf d [vI a1, vI a3] I (fun x1 I1 => (-2147483648 ≤ x1 * 61 ∧ x1 * 61 ≤ 2147483647) ∧ (-2147483648 ≤ (x1 * 61) + a2 ∧ (x1 * 61) + a2 ≤ 2147483647) ∧ ((0 : Int) ≤ ((x1 * 61) + a2) ∧ ((x1 * 61) + a2 : Int) < 366) ∧ (((lA (I1 75 ((x1 * 61) + a2).toNat) (lSl 1 a4)) ≠ 0 → ((0 : Int) ≤ ((x1 * 61) + a2) ∧ ((x1 * 61) + a2 : Int) < 366) ∧ (((lA (I1 76 ((x1 * 61) + a2).toNat) (lSl 1 a4)) = 0 → Q (some (vI 0)) (mk I1)) ∧ (¬ ((lA (I1 76 ((x1 * 61) + a2).toNat) (lSl 1 a4)) = 0) → Q (some (vI 1)) (mk I1)))) ∧ ((lA (I1 75 ((x1 * 61) + a2).toNat) (lSl 1 a4)) = 0 → ((0 : Int) ≤ ((x1 * 61) + a2) ∧ ((x1 * 61) + a2 : Int) < 366) ∧ ((0 : Int) ≤ ((x1 * 61) + a2) ∧ ((x1 * 61) + a2 : Int) < 366) ∧ (∀ I2 : HI, I2 = up I1 75 ((x1 * 61) + a2).toNat (lO (I1 75 ((x1 * 61) + a2).toNat) (lSl 1 a4)) → CR mX5_trackOf d [vR 69, vI a1, vI a2] I2 (fun x2 kx2 I3 => CR mX5_trackOf d [vR 69, vI a3, vI a4] I3 (fun x3 kx3 I4 => J none mX5_judged (d + 1) 0 0 68 [(0, vR 69), (1, vI a1), (2, vI a2), (3, vI a3), (4, vI a4), (5, vI ((x1 * 61) + a2)), (6, vL (lSl 1 a4)), (8, vR x2), (9, vR x3), (10, vI 1), (11, vI 1)] [] (mk I4) Q))))))) : J none mX5_judged (d + 1) 0 0 0 [(0, vR 69), (1, vI a1), (2, vI a2), (3, vI a3), (4, vI a4)] [] (mk I) Q := by
  refine J_iload_n dX5_judged_0 rfl rfl ?_
  refine J_iload_n dX5_judged_1 rfl rfl ?_
  refine J_callSN (as := [_, _]) (mc1 := 0) (ms1 := 0) (mc := 0) (ms := 0) dX5_judged_2 ms_X10_pairOf (fun _ _ _ hk => hk.2.2.2.2.2.1) rfl (Nat.le_of_ble_eq_true rfl) (Nat.le_of_ble_eq_true rfl) h (fun r σ hq _ => ?_)
  obtain ⟨x1, I1, rfl, rfl, h⟩ := hq
  change J _ _ _ _ _ _ _ [vI x1] _ _
  refine J_bipush dX5_judged_5 (ii_c rfl) (by decide) ?_
  refine J_imulN dX5_judged_7 h.1 ?_
  replace h := h.2
  refine J_iload_n dX5_judged_8 rfl rfl ?_
  refine J_iaddN dX5_judged_9 h.1 ?_
  replace h := h.2
  refine J_istore dX5_judged_10 (by decide) ?_
  change J _ _ _ _ _ _ [(0, _), (1, _), (2, _), (3, _), (4, _), (5, _)] _ _ _
  refine J_lconst 1 dX5_judged_12 (ll_c rfl) (by decide) ?_
  refine J_iload dX5_judged_13 rfl ?_
  refine J_lshl dX5_judged_15 ?_
  refine J_lstore dX5_judged_16 (by decide) ?_
  change J _ _ _ _ _ _ [(0, _), (1, _), (2, _), (3, _), (4, _), (5, _), (6, _)] _ _ _
  refine J_aload_n dX5_judged_18 rfl rfl ?_
  refine J_getR dX5_judged_19 ck_5 fw_X5_30 rfl sh_69 rr_69_9 ?_
  refine J_iload dX5_judged_22 rfl ?_
  refine J_lald dX5_judged_24 sh_75 h.1.1 h.1.2 ?_
  replace h := h.2
  refine J_lload dX5_judged_25 rfl ?_
  refine J_land dX5_judged_27 ?_
  refine J_lconst 0 dX5_judged_28 (ll_c rfl) (by decide) ?_
  refine J_lcmp dX5_judged_29 ?_
  refine J_if_ne (tgt := 223) dX5_judged_30 (by decide) (fun c => ?_) (fun c => ?_)
  · replace h := h.1 (fun w => c (lC_eq.mpr w))
    refine J_aload_n dX5_judged_223 rfl rfl ?_
    refine J_getR dX5_judged_224 ck_5 fw_X5_34 rfl sh_69 rr_69_10 ?_
    refine J_iload dX5_judged_227 rfl ?_
    refine J_lald dX5_judged_229 sh_76 h.1.1 h.1.2 ?_
    replace h := h.2
    refine J_lload dX5_judged_230 rfl ?_
    refine J_land dX5_judged_232 ?_
    refine J_lconst 0 dX5_judged_233 (ll_c rfl) (by decide) ?_
    refine J_lcmp dX5_judged_234 ?_
    refine J_if_eq (tgt := 242) dX5_judged_235 (by decide) (fun c => ?_) (fun c => ?_)
    · replace h := h.1 (lC_eq.mp c)
      refine J_iconst dX5_judged_242 (ii_c rfl) ?_
      exact J_retz dX5_judged_243 rfl (Or.inl rfl) h
    · replace h := h.2 (fun w => c (lC_eq.mpr w))
      refine J_iconst dX5_judged_238 (ii_c rfl) ?_
      refine J_goto (tgt := 243) dX5_judged_239 (by decide) ?_
      exact J_retz dX5_judged_243 rfl (Or.inr rfl) h
  · replace h := h.2 (lC_eq.mp c)
    refine J_aload_n dX5_judged_33 rfl rfl ?_
    refine J_getR dX5_judged_34 ck_5 fw_X5_30 rfl sh_69 rr_69_9 ?_
    refine J_iload dX5_judged_37 rfl ?_
    refine J_dup2 dX5_judged_39 rfl rfl ?_
    refine J_lald dX5_judged_40 sh_75 h.1.1 h.1.2 ?_
    replace h := h.2
    refine J_lload dX5_judged_41 rfl ?_
    refine J_lor dX5_judged_43 ?_
    refine J_last dX5_judged_44 sh_75 h.1.1 h.1.2 ?_
    replace h := h.2 _ rfl
    refine J_aload_n dX5_judged_45 rfl rfl ?_
    refine J_iload_n dX5_judged_46 rfl rfl ?_
    refine J_iload_n dX5_judged_47 rfl rfl ?_
    refine J_callV (as := [_, _]) (mc1 := 0) (ms1 := 0) (mc := 0) (ms := 0) dX5_judged_48 mv_X5_trackOf lk_X5_125 sh_69 rfl (Nat.le_of_ble_eq_true rfl) (Nat.le_of_ble_eq_true rfl) h (fun r σ hq _ => ?_)
    obtain ⟨x2, kx2, I3, rfl, rfl, hx2, h⟩ := hq
    change J _ _ _ _ _ _ _ [vR x2] _ _
    refine J_astore dX5_judged_51 (by decide) ?_
    change J _ _ _ _ _ _ [(0, _), (1, _), (2, _), (3, _), (4, _), (5, _), (6, _), (8, _)] _ _ _
    refine J_aload_n dX5_judged_53 rfl rfl ?_
    refine J_iload_n dX5_judged_54 rfl rfl ?_
    refine J_iload dX5_judged_55 rfl ?_
    refine J_callV (as := [_, _]) (mc1 := 0) (ms1 := 0) (mc := 0) (ms := 0) dX5_judged_57 mv_X5_trackOf lk_X5_125 sh_69 rfl (Nat.le_of_ble_eq_true rfl) (Nat.le_of_ble_eq_true rfl) h (fun r σ hq _ => ?_)
    obtain ⟨x3, kx3, I4, rfl, rfl, hx3, h⟩ := hq
    change J _ _ _ _ _ _ _ [vR x3] _ _
    refine J_astore dX5_judged_60 (by decide) ?_
    change J _ _ _ _ _ _ [(0, _), (1, _), (2, _), (3, _), (4, _), (5, _), (6, _), (8, _), (9, _)] _ _ _
    refine J_iconst dX5_judged_62 (ii_c rfl) ?_
    refine J_istore dX5_judged_63 (by decide) ?_
    change J _ _ _ _ _ _ [(0, _), (1, _), (2, _), (3, _), (4, _), (5, _), (6, _), (8, _), (9, _), (10, _)] _ _ _
    refine J_iconst dX5_judged_65 (ii_c rfl) ?_
    refine J_istore dX5_judged_66 (by decide) ?_
    change J _ _ _ _ _ _ [(0, _), (1, _), (2, _), (3, _), (4, _), (5, _), (6, _), (8, _), (9, _), (10, _), (11, _)] _ _ _
    exact h
set_option maxRecDepth 20000 in
set_option maxHeartbeats 2000000 in
theorem bk_X5_judged_68 {d : Nat} {I : HI} {Q : Option AV → AH → Prop} {a1 : Int} {a2 : Int} {a3 : Int} {a4 : Int} {a5 : Int} {a6 : Int} {a8 ka8 : Nat} {a9 ka9 : Nat} {a10 : Int} {a11 : Int} (ha8 : TR a8 ka8) (ha9 : TR a9 ka9) (h : ((1201 < a11 → ((0 : Int) ≤ a5 ∧ (a5 : Int) < 366) ∧ ((a10 = 0 → ((0 : Int) ≤ a5 ∧ (a5 : Int) < 366) ∧ (∀ I1 : HI, I1 = up I 76 a5.toNat (lO (I 76 a5.toNat) 0) → ((0 : Int) ≤ a5 ∧ (a5 : Int) < 366) ∧ (((lA (I1 76 a5.toNat) a6) = 0 → Q (some (vI 0)) (mk I1)) ∧ (¬ ((lA (I1 76 a5.toNat) a6) = 0) → Q (some (vI 1)) (mk I1))))) ∧ (¬ (a10 = 0) → ((0 : Int) ≤ a5 ∧ (a5 : Int) < 366) ∧ (∀ I2 : HI, I2 = up I 76 a5.toNat (lO (I 76 a5.toNat) a6) → ((0 : Int) ≤ a5 ∧ (a5 : Int) < 366) ∧ (((lA (I2 76 a5.toNat) a6) = 0 → Q (some (vI 0)) (mk I2)) ∧ (¬ ((lA (I2 76 a5.toNat) a6) = 0) → Q (some (vI 1)) (mk I2))))))) ∧ (¬ (1201 < a11) → ((a10 = 0 → ((0 : Int) ≤ a5 ∧ (a5 : Int) < 366) ∧ ((a10 = 0 → ((0 : Int) ≤ a5 ∧ (a5 : Int) < 366) ∧ (∀ I3 : HI, I3 = up I 76 a5.toNat (lO (I 76 a5.toNat) 0) → ((0 : Int) ≤ a5 ∧ (a5 : Int) < 366) ∧ (((lA (I3 76 a5.toNat) a6) = 0 → Q (some (vI 0)) (mk I3)) ∧ (¬ ((lA (I3 76 a5.toNat) a6) = 0) → Q (some (vI 1)) (mk I3))))) ∧ (¬ (a10 = 0) → ((0 : Int) ≤ a5 ∧ (a5 : Int) < 366) ∧ (∀ I4 : HI, I4 = up I 76 a5.toNat (lO (I 76 a5.toNat) a6) → ((0 : Int) ≤ a5 ∧ (a5 : Int) < 366) ∧ (((lA (I4 76 a5.toNat) a6) = 0 → Q (some (vI 0)) (mk I4)) ∧ (¬ ((lA (I4 76 a5.toNat) a6) = 0) → Q (some (vI 1)) (mk I4))))))) ∧ (¬ (a10 = 0) → (∀ I5 : HI, I5 = up I 57 6 a11 → CI mX5_lateOf d [vR 69, vI a2] I5 (fun x1 I6 => CI mX5_lateOf d [vR 69, vI a4] I6 (fun x2 I7 => CV mX3_scan d [vR 57, vI a1, vR a8, vI x1, vI a3, vR a9, vI x2] I7 (fun I8 => J none mX5_judged (d + 1) 0 0 117 [(0, vR 69), (1, vI a1), (2, vI a2), (3, vI a3), (4, vI a4), (5, vI a5), (6, vL a6), (8, vR a8), (9, vR a9), (10, vI a10), (11, vI a11), (12, vI 0)] [] (mk I8) Q))))))))) : J none mX5_judged (d + 1) 0 0 68 [(0, vR 69), (1, vI a1), (2, vI a2), (3, vI a3), (4, vI a4), (5, vI a5), (6, vL a6), (8, vR a8), (9, vR a9), (10, vI a10), (11, vI a11)] [] (mk I) Q := by
  refine J_iload dX5_judged_68 rfl ?_
  refine J_sipush dX5_judged_70 (ii_c rfl) (by decide) ?_
  refine J_ic_gt (tgt := 202) dX5_judged_73 (by decide) (fun c => ?_) (fun c => ?_)
  · replace h := h.1 c
    refine J_aload_n dX5_judged_202 rfl rfl ?_
    refine J_getR dX5_judged_203 ck_5 fw_X5_34 rfl sh_69 rr_69_10 ?_
    refine J_iload dX5_judged_206 rfl ?_
    refine J_dup2 dX5_judged_208 rfl rfl ?_
    refine J_lald dX5_judged_209 sh_76 h.1.1 h.1.2 ?_
    replace h := h.2
    refine J_iload dX5_judged_210 rfl ?_
    refine J_if_eq (tgt := 220) dX5_judged_212 (by decide) (fun c => ?_) (fun c => ?_)
    · replace h := h.1 c
      refine J_lconst 0 dX5_judged_220 (ll_c rfl) (by decide) ?_
      refine J_lor dX5_judged_221 ?_
      refine J_last dX5_judged_222 sh_76 h.1.1 h.1.2 ?_
      replace h := h.2 _ rfl
      refine J_aload_n dX5_judged_223 rfl rfl ?_
      refine J_getR dX5_judged_224 ck_5 fw_X5_34 rfl sh_69 rr_69_10 ?_
      refine J_iload dX5_judged_227 rfl ?_
      refine J_lald dX5_judged_229 sh_76 h.1.1 h.1.2 ?_
      replace h := h.2
      refine J_lload dX5_judged_230 rfl ?_
      refine J_land dX5_judged_232 ?_
      refine J_lconst 0 dX5_judged_233 (ll_c rfl) (by decide) ?_
      refine J_lcmp dX5_judged_234 ?_
      refine J_if_eq (tgt := 242) dX5_judged_235 (by decide) (fun c => ?_) (fun c => ?_)
      · replace h := h.1 (lC_eq.mp c)
        refine J_iconst dX5_judged_242 (ii_c rfl) ?_
        exact J_retz dX5_judged_243 rfl (Or.inl rfl) h
      · replace h := h.2 (fun w => c (lC_eq.mpr w))
        refine J_iconst dX5_judged_238 (ii_c rfl) ?_
        refine J_goto (tgt := 243) dX5_judged_239 (by decide) ?_
        exact J_retz dX5_judged_243 rfl (Or.inr rfl) h
    · replace h := h.2 c
      refine J_lload dX5_judged_215 rfl ?_
      refine J_goto (tgt := 221) dX5_judged_217 (by decide) ?_
      refine J_lor dX5_judged_221 ?_
      refine J_last dX5_judged_222 sh_76 h.1.1 h.1.2 ?_
      replace h := h.2 _ rfl
      refine J_aload_n dX5_judged_223 rfl rfl ?_
      refine J_getR dX5_judged_224 ck_5 fw_X5_34 rfl sh_69 rr_69_10 ?_
      refine J_iload dX5_judged_227 rfl ?_
      refine J_lald dX5_judged_229 sh_76 h.1.1 h.1.2 ?_
      replace h := h.2
      refine J_lload dX5_judged_230 rfl ?_
      refine J_land dX5_judged_232 ?_
      refine J_lconst 0 dX5_judged_233 (ll_c rfl) (by decide) ?_
      refine J_lcmp dX5_judged_234 ?_
      refine J_if_eq (tgt := 242) dX5_judged_235 (by decide) (fun c => ?_) (fun c => ?_)
      · replace h := h.1 (lC_eq.mp c)
        refine J_iconst dX5_judged_242 (ii_c rfl) ?_
        exact J_retz dX5_judged_243 rfl (Or.inl rfl) h
      · replace h := h.2 (fun w => c (lC_eq.mpr w))
        refine J_iconst dX5_judged_238 (ii_c rfl) ?_
        refine J_goto (tgt := 243) dX5_judged_239 (by decide) ?_
        exact J_retz dX5_judged_243 rfl (Or.inr rfl) h
  · replace h := h.2 c
    refine J_iload dX5_judged_76 rfl ?_
    refine J_if_eq (tgt := 202) dX5_judged_78 (by decide) (fun c => ?_) (fun c => ?_)
    · replace h := h.1 c
      refine J_aload_n dX5_judged_202 rfl rfl ?_
      refine J_getR dX5_judged_203 ck_5 fw_X5_34 rfl sh_69 rr_69_10 ?_
      refine J_iload dX5_judged_206 rfl ?_
      refine J_dup2 dX5_judged_208 rfl rfl ?_
      refine J_lald dX5_judged_209 sh_76 h.1.1 h.1.2 ?_
      replace h := h.2
      refine J_iload dX5_judged_210 rfl ?_
      refine J_if_eq (tgt := 220) dX5_judged_212 (by decide) (fun c => ?_) (fun c => ?_)
      · replace h := h.1 c
        refine J_lconst 0 dX5_judged_220 (ll_c rfl) (by decide) ?_
        refine J_lor dX5_judged_221 ?_
        refine J_last dX5_judged_222 sh_76 h.1.1 h.1.2 ?_
        replace h := h.2 _ rfl
        refine J_aload_n dX5_judged_223 rfl rfl ?_
        refine J_getR dX5_judged_224 ck_5 fw_X5_34 rfl sh_69 rr_69_10 ?_
        refine J_iload dX5_judged_227 rfl ?_
        refine J_lald dX5_judged_229 sh_76 h.1.1 h.1.2 ?_
        replace h := h.2
        refine J_lload dX5_judged_230 rfl ?_
        refine J_land dX5_judged_232 ?_
        refine J_lconst 0 dX5_judged_233 (ll_c rfl) (by decide) ?_
        refine J_lcmp dX5_judged_234 ?_
        refine J_if_eq (tgt := 242) dX5_judged_235 (by decide) (fun c => ?_) (fun c => ?_)
        · replace h := h.1 (lC_eq.mp c)
          refine J_iconst dX5_judged_242 (ii_c rfl) ?_
          exact J_retz dX5_judged_243 rfl (Or.inl rfl) h
        · replace h := h.2 (fun w => c (lC_eq.mpr w))
          refine J_iconst dX5_judged_238 (ii_c rfl) ?_
          refine J_goto (tgt := 243) dX5_judged_239 (by decide) ?_
          exact J_retz dX5_judged_243 rfl (Or.inr rfl) h
      · replace h := h.2 c
        refine J_lload dX5_judged_215 rfl ?_
        refine J_goto (tgt := 221) dX5_judged_217 (by decide) ?_
        refine J_lor dX5_judged_221 ?_
        refine J_last dX5_judged_222 sh_76 h.1.1 h.1.2 ?_
        replace h := h.2 _ rfl
        refine J_aload_n dX5_judged_223 rfl rfl ?_
        refine J_getR dX5_judged_224 ck_5 fw_X5_34 rfl sh_69 rr_69_10 ?_
        refine J_iload dX5_judged_227 rfl ?_
        refine J_lald dX5_judged_229 sh_76 h.1.1 h.1.2 ?_
        replace h := h.2
        refine J_lload dX5_judged_230 rfl ?_
        refine J_land dX5_judged_232 ?_
        refine J_lconst 0 dX5_judged_233 (ll_c rfl) (by decide) ?_
        refine J_lcmp dX5_judged_234 ?_
        refine J_if_eq (tgt := 242) dX5_judged_235 (by decide) (fun c => ?_) (fun c => ?_)
        · replace h := h.1 (lC_eq.mp c)
          refine J_iconst dX5_judged_242 (ii_c rfl) ?_
          exact J_retz dX5_judged_243 rfl (Or.inl rfl) h
        · replace h := h.2 (fun w => c (lC_eq.mpr w))
          refine J_iconst dX5_judged_238 (ii_c rfl) ?_
          refine J_goto (tgt := 243) dX5_judged_239 (by decide) ?_
          exact J_retz dX5_judged_243 rfl (Or.inr rfl) h
    · replace h := h.2 c
      refine J_aload_n dX5_judged_81 rfl rfl ?_
      refine J_getR dX5_judged_82 ck_5 fw_X5_45 rfl sh_69 rr_69_2 ?_
      refine J_iload dX5_judged_85 rfl ?_
      refine J_putI dX5_judged_87 ck_3 fw_X5_157 rfl rfl (Or.inl rfl) sh_57 ?_
      replace h := h _ rfl
      refine J_aload_n dX5_judged_90 rfl rfl ?_
      refine J_getR dX5_judged_91 ck_5 fw_X5_45 rfl sh_69 rr_69_2 ?_
      refine J_iload_n dX5_judged_94 rfl rfl ?_
      refine J_aload dX5_judged_95 rfl ?_
      refine J_aload_n dX5_judged_97 rfl rfl ?_
      refine J_iload_n dX5_judged_98 rfl rfl ?_
      refine J_callV (as := [_]) (mc1 := 0) (ms1 := 0) (mc := 0) (ms := 0) dX5_judged_99 mv_X5_lateOf lk_X5_132 sh_69 rfl (Nat.le_of_ble_eq_true rfl) (Nat.le_of_ble_eq_true rfl) h (fun r σ hq _ => ?_)
      obtain ⟨x1, I6, rfl, rfl, h⟩ := hq
      change J _ _ _ _ _ _ _ [vI x1, _, _, _] _ _
      refine J_iload_n dX5_judged_102 rfl rfl ?_
      refine J_aload dX5_judged_103 rfl ?_
      refine J_aload_n dX5_judged_105 rfl rfl ?_
      refine J_iload dX5_judged_106 rfl ?_
      refine J_callV (as := [_]) (mc1 := 0) (ms1 := 0) (mc := 0) (ms := 0) dX5_judged_108 mv_X5_lateOf lk_X5_132 sh_69 rfl (Nat.le_of_ble_eq_true rfl) (Nat.le_of_ble_eq_true rfl) h (fun r σ hq _ => ?_)
      obtain ⟨x2, I7, rfl, rfl, h⟩ := hq
      change J _ _ _ _ _ _ _ [vI x2, _, _, vI x1, _, _, _] _ _
      refine J_callV (as := [_, _, _, _, _, _]) (mc1 := 0) (ms1 := 0) (mc := 0) (ms := 0) dX5_judged_111 mv_X3_scan lk_X5_160 sh_57 rfl (Nat.le_of_ble_eq_true rfl) (Nat.le_of_ble_eq_true rfl) h (fun r σ hq _ => ?_)
      obtain ⟨I8, rfl, rfl, h⟩ := hq
      change J _ _ _ _ _ _ _ [] _ _
      refine J_iconst dX5_judged_114 (ii_c rfl) ?_
      refine J_istore dX5_judged_115 (by decide) ?_
      change J _ _ _ _ _ _ [(0, _), (1, _), (2, _), (3, _), (4, _), (5, _), (6, _), (8, _), (9, _), (10, _), (11, _), (12, _)] _ _ _
      exact h
set_option maxRecDepth 20000 in
set_option maxHeartbeats 2000000 in
theorem bk_X5_judged_117 {d : Nat} {I : HI} {Q : Option AV → AH → Prop} {a1 : Int} {a2 : Int} {a3 : Int} {a4 : Int} {a5 : Int} {a6 : Int} {a8 ka8 : Nat} {a9 ka9 : Nat} {a10 : Int} {a11 : Int} {a12 : Int} (ha8 : TR a8 ka8) (ha9 : TR a9 ka9) (h : (((I 57 5) ≤ a12 → J none mX5_judged (d + 1) 0 0 180 [(0, vR 69), (1, vI a1), (2, vI a2), (3, vI a3), (4, vI a4), (5, vI a5), (6, vL a6), (8, vR a8), (9, vR a9), (10, vI a10), (11, vI a11), (12, vI a12)] [] (mk I) Q) ∧ (¬ ((I 57 5) ≤ a12) → ((a10 = 0 → J none mX5_judged (d + 1) 0 0 180 [(0, vR 69), (1, vI a1), (2, vI a2), (3, vI a3), (4, vI a4), (5, vI a5), (6, vL a6), (8, vR a8), (9, vR a9), (10, vI a10), (11, vI a11), (12, vI a12)] [] (mk I) Q) ∧ (¬ (a10 = 0) → CI mX9_onBits d [vR 32] I (fun x1 I1 => CI mX1_firstUnexcused d [vR 62, vR 57, vI a12, vI x1] I1 (fun x2 I2 => ((0 : Int) ≤ a12 ∧ (a12 : Int) < 1201) ∧ ((x2 ≤ (I2 59 a12.toNat) → (-2147483648 ≤ a12 + 1 ∧ a12 + 1 ≤ 2147483647) ∧ J none mX5_judged (d + 1) 0 0 117 [(0, vR 69), (1, vI a1), (2, vI a2), (3, vI a3), (4, vI a4), (5, vI a5), (6, vL a6), (8, vR a8), (9, vR a9), (10, vI 0), (11, vI a11), (12, vI (a12 + 1))] [] (mk I2) Q) ∧ (¬ (x2 ≤ (I2 59 a12.toNat)) → (-2147483648 ≤ a12 + 1 ∧ a12 + 1 ≤ 2147483647) ∧ J none mX5_judged (d + 1) 0 0 117 [(0, vR 69), (1, vI a1), (2, vI a2), (3, vI a3), (4, vI a4), (5, vI a5), (6, vL a6), (8, vR a8), (9, vR a9), (10, vI 1), (11, vI a11), (12, vI (a12 + 1))] [] (mk I2) Q))))))))) : J none mX5_judged (d + 1) 0 0 117 [(0, vR 69), (1, vI a1), (2, vI a2), (3, vI a3), (4, vI a4), (5, vI a5), (6, vL a6), (8, vR a8), (9, vR a9), (10, vI a10), (11, vI a11), (12, vI a12)] [] (mk I) Q := by
  refine J_iload dX5_judged_117 rfl ?_
  refine J_aload_n dX5_judged_119 rfl rfl ?_
  refine J_getR dX5_judged_120 ck_5 fw_X5_45 rfl sh_69 rr_69_2 ?_
  refine J_getI dX5_judged_123 ck_3 fw_X5_164 rfl sh_57 ?_
  refine J_ic_ge (tgt := 180) dX5_judged_126 (by decide) (fun c => ?_) (fun c => ?_)
  · replace h := h.1 c
    exact h
  · replace h := h.2 c
    refine J_iload dX5_judged_129 rfl ?_
    refine J_if_eq (tgt := 180) dX5_judged_131 (by decide) (fun c => ?_) (fun c => ?_)
    · replace h := h.1 c
      exact h
    · replace h := h.2 c
      refine J_aload_n dX5_judged_134 rfl rfl ?_
      refine J_getR dX5_judged_135 ck_5 fw_X5_49 rfl sh_69 rr_69_3 ?_
      refine J_aload_n dX5_judged_138 rfl rfl ?_
      refine J_getR dX5_judged_139 ck_5 fw_X5_45 rfl sh_69 rr_69_2 ?_
      refine J_iload dX5_judged_142 rfl ?_
      refine J_aload_n dX5_judged_144 rfl rfl ?_
      refine J_getR dX5_judged_145 ck_5 fw_X5_41 rfl sh_69 rr_69_1 ?_
      refine J_callV (as := []) (mc1 := 0) (ms1 := 0) (mc := 0) (ms := 0) dX5_judged_148 mv_X9_onBits lk_X5_167 sh_32 rfl (Nat.le_of_ble_eq_true rfl) (Nat.le_of_ble_eq_true rfl) h (fun r σ hq _ => ?_)
      obtain ⟨x1, I1, rfl, rfl, h⟩ := hq
      change J _ _ _ _ _ _ _ [vI x1, _, _, _] _ _
      refine J_callV (as := [_, _, _]) (mc1 := 0) (ms1 := 0) (mc := 0) (ms := 0) dX5_judged_151 mv_X1_firstUnexcused lk_X5_170 sh_62 rfl (Nat.le_of_ble_eq_true rfl) (Nat.le_of_ble_eq_true rfl) h (fun r σ hq _ => ?_)
      obtain ⟨x2, I2, rfl, rfl, h⟩ := hq
      change J _ _ _ _ _ _ _ [vI x2] _ _
      refine J_aload_n dX5_judged_154 rfl rfl ?_
      refine J_getR dX5_judged_155 ck_5 fw_X5_45 rfl sh_69 rr_69_2 ?_
      refine J_getR dX5_judged_158 ck_3 fw_X5_176 rfl sh_57 rr_57_2 ?_
      refine J_iload dX5_judged_161 rfl ?_
      refine J_iald dX5_judged_163 sh_59 h.1.1 h.1.2 ?_
      replace h := h.2
      refine J_ic_le (tgt := 171) dX5_judged_164 (by decide) (fun c => ?_) (fun c => ?_)
      · replace h := h.1 c
        refine J_iconst dX5_judged_171 (ii_c rfl) ?_
        refine J_istore dX5_judged_172 (by decide) ?_
        change J _ _ _ _ _ _ [(0, _), (1, _), (2, _), (3, _), (4, _), (5, _), (6, _), (8, _), (9, _), (10, _), (11, _), (12, _)] _ _ _
        refine J_iincN dX5_judged_174 rfl (by decide) h.1 ?_
        replace h := h.2
        change J _ _ _ _ _ _ [(0, _), (1, _), (2, _), (3, _), (4, _), (5, _), (6, _), (8, _), (9, _), (10, _), (11, _), (12, _)] _ _ _
        refine J_goto (tgt := 117) dX5_judged_177 (by decide) ?_
        exact h
      · replace h := h.2 c
        refine J_iconst dX5_judged_167 (ii_c rfl) ?_
        refine J_goto (tgt := 172) dX5_judged_168 (by decide) ?_
        refine J_istore dX5_judged_172 (by decide) ?_
        change J _ _ _ _ _ _ [(0, _), (1, _), (2, _), (3, _), (4, _), (5, _), (6, _), (8, _), (9, _), (10, _), (11, _), (12, _)] _ _ _
        refine J_iincN dX5_judged_174 rfl (by decide) h.1 ?_
        replace h := h.2
        change J _ _ _ _ _ _ [(0, _), (1, _), (2, _), (3, _), (4, _), (5, _), (6, _), (8, _), (9, _), (10, _), (11, _), (12, _)] _ _ _
        refine J_goto (tgt := 117) dX5_judged_177 (by decide) ?_
        exact h
set_option maxRecDepth 20000 in
set_option maxHeartbeats 2000000 in
theorem bk_X5_judged_180 {d : Nat} {I : HI} {Q : Option AV → AH → Prop} {a1 : Int} {a2 : Int} {a3 : Int} {a4 : Int} {a5 : Int} {a6 : Int} {a8 ka8 : Nat} {a9 ka9 : Nat} {a10 : Int} {a11 : Int} {a12 : Int} (ha8 : TR a8 ka8) (ha9 : TR a9 ka9) (h : (((I 57 5) ≠ 0 → (-2147483648 ≤ a11 + 1200 ∧ a11 + 1200 ≤ 2147483647) ∧ J none mX5_judged (d + 1) 0 0 68 [(0, vR 69), (1, vI a1), (2, vI a2), (3, vI a3), (4, vI a4), (5, vI a5), (6, vL a6), (8, vR a8), (9, vR a9), (10, vI a10), (11, vI (a11 + 1200))] [] (mk I) Q) ∧ ((I 57 5) = 0 → ((0 : Int) ≤ a5 ∧ (a5 : Int) < 366) ∧ ((a10 = 0 → ((0 : Int) ≤ a5 ∧ (a5 : Int) < 366) ∧ (∀ I1 : HI, I1 = up I 76 a5.toNat (lO (I 76 a5.toNat) 0) → ((0 : Int) ≤ a5 ∧ (a5 : Int) < 366) ∧ (((lA (I1 76 a5.toNat) a6) = 0 → Q (some (vI 0)) (mk I1)) ∧ (¬ ((lA (I1 76 a5.toNat) a6) = 0) → Q (some (vI 1)) (mk I1))))) ∧ (¬ (a10 = 0) → ((0 : Int) ≤ a5 ∧ (a5 : Int) < 366) ∧ (∀ I2 : HI, I2 = up I 76 a5.toNat (lO (I 76 a5.toNat) a6) → ((0 : Int) ≤ a5 ∧ (a5 : Int) < 366) ∧ (((lA (I2 76 a5.toNat) a6) = 0 → Q (some (vI 0)) (mk I2)) ∧ (¬ ((lA (I2 76 a5.toNat) a6) = 0) → Q (some (vI 1)) (mk I2))))))))) : J none mX5_judged (d + 1) 0 0 180 [(0, vR 69), (1, vI a1), (2, vI a2), (3, vI a3), (4, vI a4), (5, vI a5), (6, vL a6), (8, vR a8), (9, vR a9), (10, vI a10), (11, vI a11), (12, vI a12)] [] (mk I) Q := by
  refine J_aload_n dX5_judged_180 rfl rfl ?_
  refine J_getR dX5_judged_181 ck_5 fw_X5_45 rfl sh_69 rr_69_2 ?_
  refine J_getI dX5_judged_184 ck_3 fw_X5_164 rfl sh_57 ?_
  refine J_if_ne (tgt := 193) dX5_judged_187 (by decide) (fun c => ?_) (fun c => ?_)
  · replace h := h.1 c
    refine J_iincWN dX5_judged_193 rfl (by decide) h.1 ?_
    replace h := h.2
    change J _ _ _ _ _ _ [(0, _), (1, _), (2, _), (3, _), (4, _), (5, _), (6, _), (8, _), (9, _), (10, _), (11, _), (12, _)] _ _ _
    refine J_goto (tgt := 68) dX5_judged_199 (by decide) ?_
    exact J_loc (ls_sub [0, 1, 2, 3, 4, 5, 6, 7, 8, 9, 10] rfl) h
  · replace h := h.2 c
    refine J_goto (tgt := 202) dX5_judged_190 (by decide) ?_
    refine J_aload_n dX5_judged_202 rfl rfl ?_
    refine J_getR dX5_judged_203 ck_5 fw_X5_34 rfl sh_69 rr_69_10 ?_
    refine J_iload dX5_judged_206 rfl ?_
    refine J_dup2 dX5_judged_208 rfl rfl ?_
    refine J_lald dX5_judged_209 sh_76 h.1.1 h.1.2 ?_
    replace h := h.2
    refine J_iload dX5_judged_210 rfl ?_
    refine J_if_eq (tgt := 220) dX5_judged_212 (by decide) (fun c => ?_) (fun c => ?_)
    · replace h := h.1 c
      refine J_lconst 0 dX5_judged_220 (ll_c rfl) (by decide) ?_
      refine J_lor dX5_judged_221 ?_
      refine J_last dX5_judged_222 sh_76 h.1.1 h.1.2 ?_
      replace h := h.2 _ rfl
      refine J_aload_n dX5_judged_223 rfl rfl ?_
      refine J_getR dX5_judged_224 ck_5 fw_X5_34 rfl sh_69 rr_69_10 ?_
      refine J_iload dX5_judged_227 rfl ?_
      refine J_lald dX5_judged_229 sh_76 h.1.1 h.1.2 ?_
      replace h := h.2
      refine J_lload dX5_judged_230 rfl ?_
      refine J_land dX5_judged_232 ?_
      refine J_lconst 0 dX5_judged_233 (ll_c rfl) (by decide) ?_
      refine J_lcmp dX5_judged_234 ?_
      refine J_if_eq (tgt := 242) dX5_judged_235 (by decide) (fun c => ?_) (fun c => ?_)
      · replace h := h.1 (lC_eq.mp c)
        refine J_iconst dX5_judged_242 (ii_c rfl) ?_
        exact J_retz dX5_judged_243 rfl (Or.inl rfl) h
      · replace h := h.2 (fun w => c (lC_eq.mpr w))
        refine J_iconst dX5_judged_238 (ii_c rfl) ?_
        refine J_goto (tgt := 243) dX5_judged_239 (by decide) ?_
        exact J_retz dX5_judged_243 rfl (Or.inr rfl) h
    · replace h := h.2 c
      refine J_lload dX5_judged_215 rfl ?_
      refine J_goto (tgt := 221) dX5_judged_217 (by decide) ?_
      refine J_lor dX5_judged_221 ?_
      refine J_last dX5_judged_222 sh_76 h.1.1 h.1.2 ?_
      replace h := h.2 _ rfl
      refine J_aload_n dX5_judged_223 rfl rfl ?_
      refine J_getR dX5_judged_224 ck_5 fw_X5_34 rfl sh_69 rr_69_10 ?_
      refine J_iload dX5_judged_227 rfl ?_
      refine J_lald dX5_judged_229 sh_76 h.1.1 h.1.2 ?_
      replace h := h.2
      refine J_lload dX5_judged_230 rfl ?_
      refine J_land dX5_judged_232 ?_
      refine J_lconst 0 dX5_judged_233 (ll_c rfl) (by decide) ?_
      refine J_lcmp dX5_judged_234 ?_
      refine J_if_eq (tgt := 242) dX5_judged_235 (by decide) (fun c => ?_) (fun c => ?_)
      · replace h := h.1 (lC_eq.mp c)
        refine J_iconst dX5_judged_242 (ii_c rfl) ?_
        exact J_retz dX5_judged_243 rfl (Or.inl rfl) h
      · replace h := h.2 (fun w => c (lC_eq.mpr w))
        refine J_iconst dX5_judged_238 (ii_c rfl) ?_
        refine J_goto (tgt := 243) dX5_judged_239 (by decide) ?_
        exact J_retz dX5_judged_243 rfl (Or.inr rfl) h
set_option maxRecDepth 20000 in
set_option maxHeartbeats 2000000 in
theorem bk_X6_solve_0 {d : Nat} {I : HI} {Q : Option AV → AH → Prop} {a1 : Int} {a2 : Int}  (h : CV mX5_prepare d [vR 69] I (fun I1 => ((a2 ≠ 0 → (a2 = 0 ∨ a2 = 1) ∧ (∀ I2 : HI, I2 = up I1 477 9 a2 → (∀ I3 : HI, I3 = up I2 477 7 0 → J none mX6_solve (d + 1) 0 0 50 [(0, vR 477), (1, vI a1), (2, vI a2), (3, vI 0)] [] (mk I3) Q))) ∧ (a2 = 0 → ((a1 ≠ (I1 477 11) → (a2 = 0 ∨ a2 = 1) ∧ (∀ I4 : HI, I4 = up I1 477 9 a2 → (∀ I5 : HI, I5 = up I4 477 7 0 → J none mX6_solve (d + 1) 0 0 50 [(0, vR 477), (1, vI a1), (2, vI a2), (3, vI 0)] [] (mk I5) Q))) ∧ (a1 = (I1 477 11) → (((I1 477 12) ≠ (I1 69 11) → (a2 = 0 ∨ a2 = 1) ∧ (∀ I6 : HI, I6 = up I1 477 9 a2 → (∀ I7 : HI, I7 = up I6 477 7 0 → J none mX6_solve (d + 1) 0 0 50 [(0, vR 477), (1, vI a1), (2, vI a2), (3, vI 0)] [] (mk I7) Q))) ∧ ((I1 477 12) = (I1 69 11) → Q (some (vI (I1 477 13))) (mk I1))))))))) : J none mX6_solve (d + 1) 0 0 0 [(0, vR 477), (1, vI a1), (2, vI a2)] [] (mk I) Q := by
  refine J_aload_n dX6_solve_0 rfl rfl ?_
  refine J_getR dX6_solve_1 ck_6 fw_X6_37 rfl sh_477 rr_477_2 ?_
  refine J_callV (as := []) (mc1 := 0) (ms1 := 0) (mc := 0) (ms := 0) dX6_solve_4 mv_X5_prepare lk_X6_41 sh_69 rfl (Nat.le_of_ble_eq_true rfl) (Nat.le_of_ble_eq_true rfl) h (fun r σ hq _ => ?_)
  obtain ⟨I1, rfl, rfl, h⟩ := hq
  change J _ _ _ _ _ _ _ [] _ _
  refine J_iload_n dX6_solve_7 rfl rfl ?_
  refine J_if_ne (tgt := 38) dX6_solve_8 (by decide) (fun c => ?_) (fun c => ?_)
  · replace h := h.1 c
    refine J_aload_n dX6_solve_38 rfl rfl ?_
    refine J_iload_n dX6_solve_39 rfl rfl ?_
    refine J_putI dX6_solve_40 ck_6 fw_X6_55 rfl rfl (Or.inr ⟨rfl, h.1⟩) sh_477 ?_
    replace h := h.2
    replace h := h _ rfl
    refine J_aload_n dX6_solve_43 rfl rfl ?_
    refine J_iconst dX6_solve_44 (ii_c rfl) ?_
    refine J_putI dX6_solve_45 ck_6 fw_X6_59 rfl rfl (Or.inl rfl) sh_477 ?_
    replace h := h _ rfl
    refine J_iconst dX6_solve_48 (ii_c rfl) ?_
    refine J_istore_n dX6_solve_49 rfl (by decide) ?_
    change J _ _ _ _ _ _ [(0, _), (1, _), (2, _), (3, _)] _ _ _
    exact h
  · replace h := h.2 c
    refine J_iload_n dX6_solve_11 rfl rfl ?_
    refine J_aload_n dX6_solve_12 rfl rfl ?_
    refine J_getI dX6_solve_13 ck_6 fw_X6_25 rfl sh_477 ?_
    refine J_ic_ne (tgt := 38) dX6_solve_16 (by decide) (fun c => ?_) (fun c => ?_)
    · replace h := h.1 c
      refine J_aload_n dX6_solve_38 rfl rfl ?_
      refine J_iload_n dX6_solve_39 rfl rfl ?_
      refine J_putI dX6_solve_40 ck_6 fw_X6_55 rfl rfl (Or.inr ⟨rfl, h.1⟩) sh_477 ?_
      replace h := h.2
      replace h := h _ rfl
      refine J_aload_n dX6_solve_43 rfl rfl ?_
      refine J_iconst dX6_solve_44 (ii_c rfl) ?_
      refine J_putI dX6_solve_45 ck_6 fw_X6_59 rfl rfl (Or.inl rfl) sh_477 ?_
      replace h := h _ rfl
      refine J_iconst dX6_solve_48 (ii_c rfl) ?_
      refine J_istore_n dX6_solve_49 rfl (by decide) ?_
      change J _ _ _ _ _ _ [(0, _), (1, _), (2, _), (3, _)] _ _ _
      exact h
    · replace h := h.2 c
      refine J_aload_n dX6_solve_19 rfl rfl ?_
      refine J_getI dX6_solve_20 ck_6 fw_X6_46 rfl sh_477 ?_
      refine J_aload_n dX6_solve_23 rfl rfl ?_
      refine J_getR dX6_solve_24 ck_6 fw_X6_37 rfl sh_477 rr_477_2 ?_
      refine J_getI dX6_solve_27 ck_5 fw_X6_49 rfl sh_69 ?_
      refine J_ic_ne (tgt := 38) dX6_solve_30 (by decide) (fun c => ?_) (fun c => ?_)
      · replace h := h.1 c
        refine J_aload_n dX6_solve_38 rfl rfl ?_
        refine J_iload_n dX6_solve_39 rfl rfl ?_
        refine J_putI dX6_solve_40 ck_6 fw_X6_55 rfl rfl (Or.inr ⟨rfl, h.1⟩) sh_477 ?_
        replace h := h.2
        replace h := h _ rfl
        refine J_aload_n dX6_solve_43 rfl rfl ?_
        refine J_iconst dX6_solve_44 (ii_c rfl) ?_
        refine J_putI dX6_solve_45 ck_6 fw_X6_59 rfl rfl (Or.inl rfl) sh_477 ?_
        replace h := h _ rfl
        refine J_iconst dX6_solve_48 (ii_c rfl) ?_
        refine J_istore_n dX6_solve_49 rfl (by decide) ?_
        change J _ _ _ _ _ _ [(0, _), (1, _), (2, _), (3, _)] _ _ _
        exact h
      · replace h := h.2 c
        refine J_aload_n dX6_solve_33 rfl rfl ?_
        refine J_getI dX6_solve_34 ck_6 fw_X6_52 rfl sh_477 ?_
        exact J_reti dX6_solve_37 rfl h
set_option maxRecDepth 20000 in
set_option maxHeartbeats 2000000 in
theorem bk_X6_solve_50 {d : Nat} {I : HI} {Q : Option AV → AH → Prop} {a1 : Int} {a2 : Int} {a3 : Int}  (h : (((I 2 2) ≤ a3 → (∀ I1 : HI, I1 = up I 477 8 100000 → (∀ I2 : HI, I2 = up I1 477 10 0 → CV mX6_dive d [vR 477, vI 0, vI 0] I2 (fun I3 => ((100000 ≤ (I3 477 8) → J none mX6_solve (d + 1) 0 0 179 [(0, vR 477), (1, vI a1), (2, vI a2), (3, vI (I3 477 8))] [] (mk I3) Q) ∧ (¬ (100000 ≤ (I3 477 8)) → (-2147483648 ≤ (I3 477 8) + 1 ∧ (I3 477 8) + 1 ≤ 2147483647) ∧ (∀ I4 : HI, I4 = up I3 477 8 ((I3 477 8) + 1) → (∀ I5 : HI, I5 = up I4 477 10 1 → CV mX6_dive d [vR 477, vI 0, vI 0] I5 (fun I6 => J none mX6_solve (d + 1) 0 0 179 [(0, vR 477), (1, vI a1), (2, vI a2), (3, vI (I3 477 8))] [] (mk I6) Q))))))))) ∧ (¬ ((I 2 2) ≤ a3) → (((oA (oSr a1 a3) 1) = 0 → (-2147483648 ≤ a3 + 1 ∧ a3 + 1 ≤ 2147483647) ∧ J none mX6_solve (d + 1) 0 0 50 [(0, vR 477), (1, vI a1), (2, vI a2), (3, vI (a3 + 1))] [] (mk I) Q) ∧ (¬ ((oA (oSr a1 a3) 1) = 0) → ((a2 = 0 → CL mX5_optionBits d [vR 69, vI a3] I (fun x3 I7 => ((0 : Int) ≤ a3 ∧ (a3 : Int) < 20) ∧ (∀ I8 : HI, I8 = up I7 478 a3.toNat (lO x3 0) → (-2147483648 ≤ (I8 477 7) + 1 ∧ (I8 477 7) + 1 ≤ 2147483647) ∧ (∀ I9 : HI, I9 = up I8 477 7 ((I8 477 7) + 1) → ((0 : Int) ≤ (I8 477 7) ∧ (I8 477 7 : Int) < 4) ∧ (∀ I10 : HI, I10 = up I9 479 (I8 477 7).toNat a3 → (-2147483648 ≤ a3 + 1 ∧ a3 + 1 ≤ 2147483647) ∧ J none mX6_solve (d + 1) 0 0 50 [(0, vR 477), (1, vI a1), (2, vI a2), (3, vI (a3 + 1))] [] (mk I10) Q))))) ∧ (¬ (a2 = 0) → CI mX9_blocked d [vR 32, vI a3] I (fun x4 I11 => ((x4 ≠ 0 → CL mX5_optionBits d [vR 69, vI a3] I11 (fun x5 I12 => ((0 : Int) ≤ a3 ∧ (a3 : Int) < 20) ∧ (∀ I13 : HI, I13 = up I12 478 a3.toNat (lO x5 0) → (-2147483648 ≤ (I13 477 7) + 1 ∧ (I13 477 7) + 1 ≤ 2147483647) ∧ (∀ I14 : HI, I14 = up I13 477 7 ((I13 477 7) + 1) → ((0 : Int) ≤ (I13 477 7) ∧ (I13 477 7 : Int) < 4) ∧ (∀ I15 : HI, I15 = up I14 479 (I13 477 7).toNat a3 → (-2147483648 ≤ a3 + 1 ∧ a3 + 1 ≤ 2147483647) ∧ J none mX6_solve (d + 1) 0 0 50 [(0, vR 477), (1, vI a1), (2, vI a2), (3, vI (a3 + 1))] [] (mk I15) Q))))) ∧ (x4 = 0 → CL mX5_optionBits d [vR 69, vI a3] I11 (fun x6 I16 => ((0 : Int) ≤ a3 ∧ (a3 : Int) < 20) ∧ (∀ I17 : HI, I17 = up I16 478 a3.toNat (lO x6 1) → (-2147483648 ≤ (I17 477 7) + 1 ∧ (I17 477 7) + 1 ≤ 2147483647) ∧ (∀ I18 : HI, I18 = up I17 477 7 ((I17 477 7) + 1) → ((0 : Int) ≤ (I17 477 7) ∧ (I17 477 7 : Int) < 4) ∧ (∀ I19 : HI, I19 = up I18 479 (I17 477 7).toNat a3 → (-2147483648 ≤ a3 + 1 ∧ a3 + 1 ≤ 2147483647) ∧ J none mX6_solve (d + 1) 0 0 50 [(0, vR 477), (1, vI a1), (2, vI a2), (3, vI (a3 + 1))] [] (mk I19) Q)))))))))))))) : J none mX6_solve (d + 1) 0 0 50 [(0, vR 477), (1, vI a1), (2, vI a2), (3, vI a3)] [] (mk I) Q := by
  refine J_iload_n dX6_solve_50 rfl rfl ?_
  refine J_aload_n dX6_solve_51 rfl rfl ?_
  refine J_getR dX6_solve_52 ck_6 fw_X6_29 rfl sh_477 rr_477_0 ?_
  refine J_getR dX6_solve_55 ck_0 fw_X6_62 rfl sh_1 rr_1_0 ?_
  refine J_iconst dX6_solve_58 (ii_c rfl) ?_
  refine J_iald dX6_solve_59 sh_2 (by decide) (by decide) ?_
  refine J_ic_ge (tgt := 133) dX6_solve_60 (by decide) (fun c => ?_) (fun c => ?_)
  · replace h := h.1 c
    refine J_aload_n dX6_solve_133 rfl rfl ?_
    refine J_ldc 100000 dX6_solve_134 kw_X6_77 (ii_c rfl) ?_
    refine J_putI dX6_solve_136 ck_6 fw_X6_78 rfl rfl (Or.inl rfl) sh_477 ?_
    replace h := h _ rfl
    refine J_aload_n dX6_solve_139 rfl rfl ?_
    refine J_iconst dX6_solve_140 (ii_c rfl) ?_
    refine J_putI dX6_solve_141 ck_6 fw_X6_81 rfl rfl (Or.inr ⟨rfl, Or.inl rfl⟩) sh_477 ?_
    replace h := h _ rfl
    refine J_aload_n dX6_solve_144 rfl rfl ?_
    refine J_iconst dX6_solve_145 (ii_c rfl) ?_
    refine J_iconst dX6_solve_146 (ii_c rfl) ?_
    refine J_callV (as := [_, _]) (mc1 := 0) (ms1 := 0) (mc := 0) (ms := 0) dX6_solve_147 mv_X6_dive lk_X6_84 sh_477 rfl (Nat.le_of_ble_eq_true rfl) (Nat.le_of_ble_eq_true rfl) h (fun r σ hq _ => ?_)
    obtain ⟨I3, rfl, rfl, h⟩ := hq
    change J _ _ _ _ _ _ _ [] _ _
    refine J_aload_n dX6_solve_150 rfl rfl ?_
    refine J_getI dX6_solve_151 ck_6 fw_X6_78 rfl sh_477 ?_
    refine J_istore_n dX6_solve_154 rfl (by decide) ?_
    change J _ _ _ _ _ _ [(0, _), (1, _), (2, _), (3, _)] _ _ _
    refine J_iload_n dX6_solve_155 rfl rfl ?_
    refine J_ldc 100000 dX6_solve_156 kw_X6_77 (ii_c rfl) ?_
    refine J_ic_ge (tgt := 179) dX6_solve_158 (by decide) (fun c => ?_) (fun c => ?_)
    · replace h := h.1 c
      exact h
    · replace h := h.2 c
      refine J_aload_n dX6_solve_161 rfl rfl ?_
      refine J_iload_n dX6_solve_162 rfl rfl ?_
      refine J_iconst dX6_solve_163 (ii_c rfl) ?_
      refine J_iaddN dX6_solve_164 h.1 ?_
      replace h := h.2
      refine J_putI dX6_solve_165 ck_6 fw_X6_78 rfl rfl (Or.inl rfl) sh_477 ?_
      replace h := h _ rfl
      refine J_aload_n dX6_solve_168 rfl rfl ?_
      refine J_iconst dX6_solve_169 (ii_c rfl) ?_
      refine J_putI dX6_solve_170 ck_6 fw_X6_81 rfl rfl (Or.inr ⟨rfl, Or.inr rfl⟩) sh_477 ?_
      replace h := h _ rfl
      refine J_aload_n dX6_solve_173 rfl rfl ?_
      refine J_iconst dX6_solve_174 (ii_c rfl) ?_
      refine J_iconst dX6_solve_175 (ii_c rfl) ?_
      refine J_callV (as := [_, _]) (mc1 := 0) (ms1 := 0) (mc := 0) (ms := 0) dX6_solve_176 mv_X6_dive lk_X6_84 sh_477 rfl (Nat.le_of_ble_eq_true rfl) (Nat.le_of_ble_eq_true rfl) h (fun r σ hq _ => ?_)
      obtain ⟨I6, rfl, rfl, h⟩ := hq
      change J _ _ _ _ _ _ _ [] _ _
      exact h
  · replace h := h.2 c
    refine J_iload_n dX6_solve_63 rfl rfl ?_
    refine J_iload_n dX6_solve_64 rfl rfl ?_
    refine J_ishr dX6_solve_65 ?_
    refine J_iconst dX6_solve_66 (ii_c rfl) ?_
    refine J_iand dX6_solve_67 ?_
    refine J_if_eq (tgt := 127) dX6_solve_68 (by decide) (fun c => ?_) (fun c => ?_)
    · replace h := h.1 c
      refine J_iincN dX6_solve_127 rfl (by decide) h.1 ?_
      replace h := h.2
      change J _ _ _ _ _ _ [(0, _), (1, _), (2, _), (3, _)] _ _ _
      refine J_goto (tgt := 50) dX6_solve_130 (by decide) ?_
      exact h
    · replace h := h.2 c
      refine J_iload_n dX6_solve_71 rfl rfl ?_
      refine J_if_eq (tgt := 90) dX6_solve_72 (by decide) (fun c => ?_) (fun c => ?_)
      · replace h := h.1 c
        refine J_lconst 0 dX6_solve_90 (ll_c rfl) (by decide) ?_
        refine J_lstore dX6_solve_91 (by decide) ?_
        change J _ _ _ _ _ _ [(0, _), (1, _), (2, _), (3, _), (4, _)] _ _ _
        refine J_aload_n dX6_solve_93 rfl rfl ?_
        refine J_getR dX6_solve_94 ck_6 fw_X6_9 rfl sh_477 rr_477_3 ?_
        refine J_iload_n dX6_solve_97 rfl rfl ?_
        refine J_aload_n dX6_solve_98 rfl rfl ?_
        refine J_getR dX6_solve_99 ck_6 fw_X6_37 rfl sh_477 rr_477_2 ?_
        refine J_iload_n dX6_solve_102 rfl rfl ?_
        refine J_callV (as := [_]) (mc1 := 0) (ms1 := 0) (mc := 0) (ms := 0) dX6_solve_103 mv_X5_optionBits lk_X6_73 sh_69 rfl (Nat.le_of_ble_eq_true rfl) (Nat.le_of_ble_eq_true rfl) h (fun r σ hq _ => ?_)
        obtain ⟨x3, I7, rfl, rfl, h⟩ := hq
        change J _ _ _ _ _ _ _ [vL x3, _, _] _ _
        refine J_lload dX6_solve_106 rfl ?_
        refine J_lor dX6_solve_108 ?_
        refine J_last dX6_solve_109 sh_478 h.1.1 h.1.2 ?_
        replace h := h.2 _ rfl
        refine J_aload_n dX6_solve_110 rfl rfl ?_
        refine J_getR dX6_solve_111 ck_6 fw_X6_15 rfl sh_477 rr_477_4 ?_
        refine J_aload_n dX6_solve_114 rfl rfl ?_
        refine J_dup dX6_solve_115 rfl ?_
        refine J_getI dX6_solve_116 ck_6 fw_X6_59 rfl sh_477 ?_
        refine J_dup_x1 dX6_solve_119 rfl rfl ?_
        refine J_iconst dX6_solve_120 (ii_c rfl) ?_
        refine J_iaddN dX6_solve_121 h.1 ?_
        replace h := h.2
        refine J_putI dX6_solve_122 ck_6 fw_X6_59 rfl rfl (Or.inl rfl) sh_477 ?_
        replace h := h _ rfl
        refine J_iload_n dX6_solve_125 rfl rfl ?_
        refine J_iast dX6_solve_126 sh_479 h.1.1 h.1.2 ?_
        replace h := h.2 _ rfl
        refine J_iincN dX6_solve_127 rfl (by decide) h.1 ?_
        replace h := h.2
        change J _ _ _ _ _ _ [(0, _), (1, _), (2, _), (3, _), (4, _)] _ _ _
        refine J_goto (tgt := 50) dX6_solve_130 (by decide) ?_
        exact J_loc (ls_sub [0, 1, 2, 3] rfl) h
      · replace h := h.2 c
        refine J_aload_n dX6_solve_75 rfl rfl ?_
        refine J_getR dX6_solve_76 ck_6 fw_X6_33 rfl sh_477 rr_477_1 ?_
        refine J_iload_n dX6_solve_79 rfl rfl ?_
        refine J_callV (as := [_]) (mc1 := 0) (ms1 := 0) (mc := 0) (ms := 0) dX6_solve_80 mv_X9_blocked lk_X6_67 sh_32 rfl (Nat.le_of_ble_eq_true rfl) (Nat.le_of_ble_eq_true rfl) h (fun r σ hq _ => ?_)
        obtain ⟨x4, I11, rfl, rfl, h⟩ := hq
        change J _ _ _ _ _ _ _ [vI x4] _ _
        refine J_if_ne (tgt := 90) dX6_solve_83 (by decide) (fun c => ?_) (fun c => ?_)
        · replace h := h.1 c
          refine J_lconst 0 dX6_solve_90 (ll_c rfl) (by decide) ?_
          refine J_lstore dX6_solve_91 (by decide) ?_
          change J _ _ _ _ _ _ [(0, _), (1, _), (2, _), (3, _), (4, _)] _ _ _
          refine J_aload_n dX6_solve_93 rfl rfl ?_
          refine J_getR dX6_solve_94 ck_6 fw_X6_9 rfl sh_477 rr_477_3 ?_
          refine J_iload_n dX6_solve_97 rfl rfl ?_
          refine J_aload_n dX6_solve_98 rfl rfl ?_
          refine J_getR dX6_solve_99 ck_6 fw_X6_37 rfl sh_477 rr_477_2 ?_
          refine J_iload_n dX6_solve_102 rfl rfl ?_
          refine J_callV (as := [_]) (mc1 := 0) (ms1 := 0) (mc := 0) (ms := 0) dX6_solve_103 mv_X5_optionBits lk_X6_73 sh_69 rfl (Nat.le_of_ble_eq_true rfl) (Nat.le_of_ble_eq_true rfl) h (fun r σ hq _ => ?_)
          obtain ⟨x5, I12, rfl, rfl, h⟩ := hq
          change J _ _ _ _ _ _ _ [vL x5, _, _] _ _
          refine J_lload dX6_solve_106 rfl ?_
          refine J_lor dX6_solve_108 ?_
          refine J_last dX6_solve_109 sh_478 h.1.1 h.1.2 ?_
          replace h := h.2 _ rfl
          refine J_aload_n dX6_solve_110 rfl rfl ?_
          refine J_getR dX6_solve_111 ck_6 fw_X6_15 rfl sh_477 rr_477_4 ?_
          refine J_aload_n dX6_solve_114 rfl rfl ?_
          refine J_dup dX6_solve_115 rfl ?_
          refine J_getI dX6_solve_116 ck_6 fw_X6_59 rfl sh_477 ?_
          refine J_dup_x1 dX6_solve_119 rfl rfl ?_
          refine J_iconst dX6_solve_120 (ii_c rfl) ?_
          refine J_iaddN dX6_solve_121 h.1 ?_
          replace h := h.2
          refine J_putI dX6_solve_122 ck_6 fw_X6_59 rfl rfl (Or.inl rfl) sh_477 ?_
          replace h := h _ rfl
          refine J_iload_n dX6_solve_125 rfl rfl ?_
          refine J_iast dX6_solve_126 sh_479 h.1.1 h.1.2 ?_
          replace h := h.2 _ rfl
          refine J_iincN dX6_solve_127 rfl (by decide) h.1 ?_
          replace h := h.2
          change J _ _ _ _ _ _ [(0, _), (1, _), (2, _), (3, _), (4, _)] _ _ _
          refine J_goto (tgt := 50) dX6_solve_130 (by decide) ?_
          exact J_loc (ls_sub [0, 1, 2, 3] rfl) h
        · replace h := h.2 c
          refine J_lconst 1 dX6_solve_86 (ll_c rfl) (by decide) ?_
          refine J_goto (tgt := 91) dX6_solve_87 (by decide) ?_
          refine J_lstore dX6_solve_91 (by decide) ?_
          change J _ _ _ _ _ _ [(0, _), (1, _), (2, _), (3, _), (4, _)] _ _ _
          refine J_aload_n dX6_solve_93 rfl rfl ?_
          refine J_getR dX6_solve_94 ck_6 fw_X6_9 rfl sh_477 rr_477_3 ?_
          refine J_iload_n dX6_solve_97 rfl rfl ?_
          refine J_aload_n dX6_solve_98 rfl rfl ?_
          refine J_getR dX6_solve_99 ck_6 fw_X6_37 rfl sh_477 rr_477_2 ?_
          refine J_iload_n dX6_solve_102 rfl rfl ?_
          refine J_callV (as := [_]) (mc1 := 0) (ms1 := 0) (mc := 0) (ms := 0) dX6_solve_103 mv_X5_optionBits lk_X6_73 sh_69 rfl (Nat.le_of_ble_eq_true rfl) (Nat.le_of_ble_eq_true rfl) h (fun r σ hq _ => ?_)
          obtain ⟨x6, I16, rfl, rfl, h⟩ := hq
          change J _ _ _ _ _ _ _ [vL x6, _, _] _ _
          refine J_lload dX6_solve_106 rfl ?_
          refine J_lor dX6_solve_108 ?_
          refine J_last dX6_solve_109 sh_478 h.1.1 h.1.2 ?_
          replace h := h.2 _ rfl
          refine J_aload_n dX6_solve_110 rfl rfl ?_
          refine J_getR dX6_solve_111 ck_6 fw_X6_15 rfl sh_477 rr_477_4 ?_
          refine J_aload_n dX6_solve_114 rfl rfl ?_
          refine J_dup dX6_solve_115 rfl ?_
          refine J_getI dX6_solve_116 ck_6 fw_X6_59 rfl sh_477 ?_
          refine J_dup_x1 dX6_solve_119 rfl rfl ?_
          refine J_iconst dX6_solve_120 (ii_c rfl) ?_
          refine J_iaddN dX6_solve_121 h.1 ?_
          replace h := h.2
          refine J_putI dX6_solve_122 ck_6 fw_X6_59 rfl rfl (Or.inl rfl) sh_477 ?_
          replace h := h _ rfl
          refine J_iload_n dX6_solve_125 rfl rfl ?_
          refine J_iast dX6_solve_126 sh_479 h.1.1 h.1.2 ?_
          replace h := h.2 _ rfl
          refine J_iincN dX6_solve_127 rfl (by decide) h.1 ?_
          replace h := h.2
          change J _ _ _ _ _ _ [(0, _), (1, _), (2, _), (3, _), (4, _)] _ _ _
          refine J_goto (tgt := 50) dX6_solve_130 (by decide) ?_
          exact J_loc (ls_sub [0, 1, 2, 3] rfl) h
set_option maxRecDepth 20000 in
set_option maxHeartbeats 2000000 in
theorem bk_X6_solve_179 {d : Nat} {I : HI} {Q : Option AV → AH → Prop} {a1 : Int} {a2 : Int} {a3 : Int}  (h : ((a2 = 0 → (∀ I1 : HI, I1 = up I 477 11 a1 → (∀ I2 : HI, I2 = up I1 477 12 (I1 69 11) → ((100000 ≤ a3 → (∀ I3 : HI, I3 = up I2 477 13 (-1) → Q (some (vI (I3 477 13))) (mk I3))) ∧ (¬ (100000 ≤ a3) → (∀ I4 : HI, I4 = up I2 477 13 a3 → Q (some (vI (I4 477 13))) (mk I4))))))) ∧ (¬ (a2 = 0) → (∀ I5 : HI, I5 = up I 477 11 (-1) → (∀ I6 : HI, I6 = up I5 477 12 (I5 69 11) → ((100000 ≤ a3 → (∀ I7 : HI, I7 = up I6 477 13 (-1) → Q (some (vI (I7 477 13))) (mk I7))) ∧ (¬ (100000 ≤ a3) → (∀ I8 : HI, I8 = up I6 477 13 a3 → Q (some (vI (I8 477 13))) (mk I8))))))))) : J none mX6_solve (d + 1) 0 0 179 [(0, vR 477), (1, vI a1), (2, vI a2), (3, vI a3)] [] (mk I) Q := by
  refine J_aload_n dX6_solve_179 rfl rfl ?_
  refine J_iload_n dX6_solve_180 rfl rfl ?_
  refine J_if_eq (tgt := 188) dX6_solve_181 (by decide) (fun c => ?_) (fun c => ?_)
  · replace h := h.1 c
    refine J_iload_n dX6_solve_188 rfl rfl ?_
    refine J_putI dX6_solve_189 ck_6 fw_X6_25 rfl rfl (Or.inl rfl) sh_477 ?_
    replace h := h _ rfl
    refine J_aload_n dX6_solve_192 rfl rfl ?_
    refine J_aload_n dX6_solve_193 rfl rfl ?_
    refine J_getR dX6_solve_194 ck_6 fw_X6_37 rfl sh_477 rr_477_2 ?_
    refine J_getI dX6_solve_197 ck_5 fw_X6_49 rfl sh_69 ?_
    refine J_putI dX6_solve_200 ck_6 fw_X6_46 rfl rfl (Or.inl rfl) sh_477 ?_
    replace h := h _ rfl
    refine J_aload_n dX6_solve_203 rfl rfl ?_
    refine J_iload_n dX6_solve_204 rfl rfl ?_
    refine J_ldc 100000 dX6_solve_205 kw_X6_77 (ii_c rfl) ?_
    refine J_ic_ge (tgt := 214) dX6_solve_207 (by decide) (fun c => ?_) (fun c => ?_)
    · replace h := h.1 c
      refine J_iconst dX6_solve_214 (ii_c rfl) ?_
      refine J_putI dX6_solve_215 ck_6 fw_X6_52 rfl rfl (Or.inl rfl) sh_477 ?_
      replace h := h _ rfl
      refine J_aload_n dX6_solve_218 rfl rfl ?_
      refine J_getI dX6_solve_219 ck_6 fw_X6_52 rfl sh_477 ?_
      exact J_reti dX6_solve_222 rfl h
    · replace h := h.2 c
      refine J_iload_n dX6_solve_210 rfl rfl ?_
      refine J_goto (tgt := 215) dX6_solve_211 (by decide) ?_
      refine J_putI dX6_solve_215 ck_6 fw_X6_52 rfl rfl (Or.inl rfl) sh_477 ?_
      replace h := h _ rfl
      refine J_aload_n dX6_solve_218 rfl rfl ?_
      refine J_getI dX6_solve_219 ck_6 fw_X6_52 rfl sh_477 ?_
      exact J_reti dX6_solve_222 rfl h
  · replace h := h.2 c
    refine J_iconst dX6_solve_184 (ii_c rfl) ?_
    refine J_goto (tgt := 189) dX6_solve_185 (by decide) ?_
    refine J_putI dX6_solve_189 ck_6 fw_X6_25 rfl rfl (Or.inl rfl) sh_477 ?_
    replace h := h _ rfl
    refine J_aload_n dX6_solve_192 rfl rfl ?_
    refine J_aload_n dX6_solve_193 rfl rfl ?_
    refine J_getR dX6_solve_194 ck_6 fw_X6_37 rfl sh_477 rr_477_2 ?_
    refine J_getI dX6_solve_197 ck_5 fw_X6_49 rfl sh_69 ?_
    refine J_putI dX6_solve_200 ck_6 fw_X6_46 rfl rfl (Or.inl rfl) sh_477 ?_
    replace h := h _ rfl
    refine J_aload_n dX6_solve_203 rfl rfl ?_
    refine J_iload_n dX6_solve_204 rfl rfl ?_
    refine J_ldc 100000 dX6_solve_205 kw_X6_77 (ii_c rfl) ?_
    refine J_ic_ge (tgt := 214) dX6_solve_207 (by decide) (fun c => ?_) (fun c => ?_)
    · replace h := h.1 c
      refine J_iconst dX6_solve_214 (ii_c rfl) ?_
      refine J_putI dX6_solve_215 ck_6 fw_X6_52 rfl rfl (Or.inl rfl) sh_477 ?_
      replace h := h _ rfl
      refine J_aload_n dX6_solve_218 rfl rfl ?_
      refine J_getI dX6_solve_219 ck_6 fw_X6_52 rfl sh_477 ?_
      exact J_reti dX6_solve_222 rfl h
    · replace h := h.2 c
      refine J_iload_n dX6_solve_210 rfl rfl ?_
      refine J_goto (tgt := 215) dX6_solve_211 (by decide) ?_
      refine J_putI dX6_solve_215 ck_6 fw_X6_52 rfl rfl (Or.inl rfl) sh_477 ?_
      replace h := h _ rfl
      refine J_aload_n dX6_solve_218 rfl rfl ?_
      refine J_getI dX6_solve_219 ck_6 fw_X6_52 rfl sh_477 ?_
      exact J_reti dX6_solve_222 rfl h
set_option maxRecDepth 20000 in
set_option maxHeartbeats 2000000 in
theorem bk_X6_dive_0 {d : Nat} {I : HI} {Q : Option AV → AH → Prop} {a1 : Int} {a2 : Int}  (h : ((a1 < (I 477 7) → ((0 : Int) ≤ a1 ∧ (a1 : Int) < 4) ∧ (-2147483648 ≤ a1 * 4 ∧ a1 * 4 ≤ 2147483647) ∧ (-2147483648 ≤ (a1 * 4) + (I 479 a1.toNat) ∧ (a1 * 4) + (I 479 a1.toNat) ≤ 2147483647) ∧ ((0 : Int) ≤ ((a1 * 4) + (I 479 a1.toNat)) ∧ ((a1 * 4) + (I 479 a1.toNat) : Int) < 20) ∧ CI mX6_leastBehind d [vR 477, vI a1, vI a1] I (fun x1 I1 => J none mX6_dive (d + 1) 0 0 88 [(0, vR 477), (1, vI a1), (2, vI a2), (3, vI (I 479 a1.toNat)), (4, vL (I 478 ((a1 * 4) + (I 479 a1.toNat)).toNat)), (6, vI x1), (7, vI 0)] [] (mk I1) Q)) ∧ (¬ (a1 < (I 477 7)) → (((I 477 10) = 0 → (∀ I2 : HI, I2 = up I 477 8 a2 → J none mX6_dive (d + 1) 0 0 26 [(0, vR 477), (1, vI a1), (2, vI a2), (3, vI 0)] [] (mk I2) Q)) ∧ (¬ ((I 477 10) = 0) → (∀ I3 : HI, I3 = up I 477 8 0 → J none mX6_dive (d + 1) 0 0 26 [(0, vR 477), (1, vI a1), (2, vI a2), (3, vI 0)] [] (mk I3) Q)))))) : J none mX6_dive (d + 1) 0 0 0 [(0, vR 477), (1, vI a1), (2, vI a2)] [] (mk I) Q := by
  refine J_iload_n dX6_dive_0 rfl rfl ?_
  refine J_aload_n dX6_dive_1 rfl rfl ?_
  refine J_getI dX6_dive_2 ck_6 fw_X6_59 rfl sh_477 ?_
  refine J_ic_lt (tgt := 58) dX6_dive_5 (by decide) (fun c => ?_) (fun c => ?_)
  · replace h := h.1 c
    refine J_aload_n dX6_dive_58 rfl rfl ?_
    refine J_getR dX6_dive_59 ck_6 fw_X6_15 rfl sh_477 rr_477_4 ?_
    refine J_iload_n dX6_dive_62 rfl rfl ?_
    refine J_iald dX6_dive_63 sh_479 h.1.1 h.1.2 ?_
    replace h := h.2
    refine J_istore_n dX6_dive_64 rfl (by decide) ?_
    change J _ _ _ _ _ _ [(0, _), (1, _), (2, _), (3, _)] _ _ _
    refine J_aload_n dX6_dive_65 rfl rfl ?_
    refine J_getR dX6_dive_66 ck_6 fw_X6_9 rfl sh_477 rr_477_3 ?_
    refine J_iload_n dX6_dive_69 rfl rfl ?_
    refine J_iconst dX6_dive_70 (ii_c rfl) ?_
    refine J_imulN dX6_dive_71 h.1 ?_
    replace h := h.2
    refine J_iload_n dX6_dive_72 rfl rfl ?_
    refine J_iaddN dX6_dive_73 h.1 ?_
    replace h := h.2
    refine J_lald dX6_dive_74 sh_478 h.1.1 h.1.2 ?_
    replace h := h.2
    refine J_lstore dX6_dive_75 (by decide) ?_
    change J _ _ _ _ _ _ [(0, _), (1, _), (2, _), (3, _), (4, _)] _ _ _
    refine J_aload_n dX6_dive_77 rfl rfl ?_
    refine J_iload_n dX6_dive_78 rfl rfl ?_
    refine J_iload_n dX6_dive_79 rfl rfl ?_
    refine J_callV (as := [_, _]) (mc1 := 0) (ms1 := 0) (mc := 0) (ms := 0) dX6_dive_80 mv_X6_leastBehind lk_X6_88 sh_477 rfl (Nat.le_of_ble_eq_true rfl) (Nat.le_of_ble_eq_true rfl) h (fun r σ hq _ => ?_)
    obtain ⟨x1, I1, rfl, rfl, h⟩ := hq
    change J _ _ _ _ _ _ _ [vI x1] _ _
    refine J_istore dX6_dive_83 (by decide) ?_
    change J _ _ _ _ _ _ [(0, _), (1, _), (2, _), (3, _), (4, _), (6, _)] _ _ _
    refine J_iconst dX6_dive_85 (ii_c rfl) ?_
    refine J_istore dX6_dive_86 (by decide) ?_
    change J _ _ _ _ _ _ [(0, _), (1, _), (2, _), (3, _), (4, _), (6, _), (7, _)] _ _ _
    exact h
  · replace h := h.2 c
    refine J_aload_n dX6_dive_8 rfl rfl ?_
    refine J_aload_n dX6_dive_9 rfl rfl ?_
    refine J_getI dX6_dive_10 ck_6 fw_X6_81 rfl sh_477 ?_
    refine J_if_eq (tgt := 20) dX6_dive_13 (by decide) (fun c => ?_) (fun c => ?_)
    · replace h := h.1 c
      refine J_iload_n dX6_dive_20 rfl rfl ?_
      refine J_putI dX6_dive_21 ck_6 fw_X6_78 rfl rfl (Or.inl rfl) sh_477 ?_
      replace h := h _ rfl
      refine J_iconst dX6_dive_24 (ii_c rfl) ?_
      refine J_istore_n dX6_dive_25 rfl (by decide) ?_
      change J _ _ _ _ _ _ [(0, _), (1, _), (2, _), (3, _)] _ _ _
      exact h
    · replace h := h.2 c
      refine J_iconst dX6_dive_16 (ii_c rfl) ?_
      refine J_goto (tgt := 21) dX6_dive_17 (by decide) ?_
      refine J_putI dX6_dive_21 ck_6 fw_X6_78 rfl rfl (Or.inl rfl) sh_477 ?_
      replace h := h _ rfl
      refine J_iconst dX6_dive_24 (ii_c rfl) ?_
      refine J_istore_n dX6_dive_25 rfl (by decide) ?_
      change J _ _ _ _ _ _ [(0, _), (1, _), (2, _), (3, _)] _ _ _
      exact h
set_option maxRecDepth 20000 in
set_option maxHeartbeats 2000000 in
theorem bk_X6_dive_26 {d : Nat} {I : HI} {Q : Option AV → AH → Prop} {a1 : Int} {a2 : Int} {a3 : Int}  (h : (((I 477 7) ≤ a3 → Q none (mk I)) ∧ (¬ ((I 477 7) ≤ a3) → ((0 : Int) ≤ a3 ∧ (a3 : Int) < 4) ∧ ((0 : Int) ≤ a3 ∧ (a3 : Int) < 4) ∧ ((0 : Int) ≤ (I 479 a3.toNat) ∧ (I 479 a3.toNat : Int) < 4) ∧ (∀ I1 : HI, I1 = up I 481 (I 479 a3.toNat).toNat (I 480 a3.toNat) → (-2147483648 ≤ a3 + 1 ∧ a3 + 1 ≤ 2147483647) ∧ J none mX6_dive (d + 1) 0 0 26 [(0, vR 477), (1, vI a1), (2, vI a2), (3, vI (a3 + 1))] [] (mk I1) Q)))) : J none mX6_dive (d + 1) 0 0 26 [(0, vR 477), (1, vI a1), (2, vI a2), (3, vI a3)] [] (mk I) Q := by
  refine J_iload_n dX6_dive_26 rfl rfl ?_
  refine J_aload_n dX6_dive_27 rfl rfl ?_
  refine J_getI dX6_dive_28 ck_6 fw_X6_59 rfl sh_477 ?_
  refine J_ic_ge (tgt := 57) dX6_dive_31 (by decide) (fun c => ?_) (fun c => ?_)
  · replace h := h.1 c
    exact J_retv dX6_dive_57 rfl h
  · replace h := h.2 c
    refine J_aload_n dX6_dive_34 rfl rfl ?_
    refine J_getR dX6_dive_35 ck_6 fw_X6_22 rfl sh_477 rr_477_6 ?_
    refine J_aload_n dX6_dive_38 rfl rfl ?_
    refine J_getR dX6_dive_39 ck_6 fw_X6_15 rfl sh_477 rr_477_4 ?_
    refine J_iload_n dX6_dive_42 rfl rfl ?_
    refine J_iald dX6_dive_43 sh_479 h.1.1 h.1.2 ?_
    replace h := h.2
    refine J_aload_n dX6_dive_44 rfl rfl ?_
    refine J_getR dX6_dive_45 ck_6 fw_X6_19 rfl sh_477 rr_477_5 ?_
    refine J_iload_n dX6_dive_48 rfl rfl ?_
    refine J_iald dX6_dive_49 sh_480 h.1.1 h.1.2 ?_
    replace h := h.2
    refine J_iast dX6_dive_50 sh_481 h.1.1 h.1.2 ?_
    replace h := h.2 _ rfl
    refine J_iincN dX6_dive_51 rfl (by decide) h.1 ?_
    replace h := h.2
    change J _ _ _ _ _ _ [(0, _), (1, _), (2, _), (3, _)] _ _ _
    refine J_goto (tgt := 26) dX6_dive_54 (by decide) ?_
    exact h
set_option maxRecDepth 20000 in
set_option maxHeartbeats 2000000 in
theorem bk_X6_dive_88 {d : Nat} {I : HI} {Q : Option AV → AH → Prop} {a1 : Int} {a2 : Int} {a3 : Int} {a4 : Int} {a6 : Int} {a7 : Int}  (h : ((0 : Int) ≤ a3 ∧ (a3 : Int) < 4) ∧ (-2147483648 ≤ 3 * (I 71 a3.toNat) ∧ 3 * (I 71 a3.toNat) ≤ 2147483647) ∧ (((3 * (I 71 a3.toNat)) < a7 → Q none (mk I)) ∧ (¬ ((3 * (I 71 a3.toNat)) < a7) → (((I 477 10) = 0 → (-2147483648 ≤ a3 * 61 ∧ a3 * 61 ≤ 2147483647) ∧ (-2147483648 ≤ (a3 * 61) + a7 ∧ (a3 * 61) + a7 ≤ 2147483647) ∧ ((0 : Int) ≤ ((a3 * 61) + a7) ∧ ((a3 * 61) + a7 : Int) < 244) ∧ CI mX6_price d [vR 477, vI a3, vI (I 73 ((a3 * 61) + a7).toNat)] I (fun x1 I1 => (-2147483648 ≤ a2 + x1 ∧ a2 + x1 ≤ 2147483647) ∧ (((lA (lUr a4 (I 73 ((a3 * 61) + a7).toNat)) 1) = 0 → (-2147483648 ≤ a7 + 1 ∧ a7 + 1 ≤ 2147483647) ∧ J none mX6_dive (d + 1) 0 0 88 [(0, vR 477), (1, vI a1), (2, vI a2), (3, vI a3), (4, vL a4), (6, vI a6), (7, vI (a7 + 1))] [] (mk I1) Q) ∧ (¬ ((lA (lUr a4 (I 73 ((a3 * 61) + a7).toNat)) 1) = 0) → (-2147483648 ≤ (a2 + x1) + a6 ∧ (a2 + x1) + a6 ≤ 2147483647) ∧ ((((a2 + x1) + a6) < (I1 477 8) → ((0 : Int) ≤ a1 ∧ (a1 : Int) < 4) ∧ (∀ I2 : HI, I2 = up I1 480 a1.toNat (I 73 ((a3 * 61) + a7).toNat) → (-2147483648 ≤ a1 + 1 ∧ a1 + 1 ≤ 2147483647) ∧ J none mX6_dive (d + 1) 0 0 187 [(0, vR 477), (1, vI a1), (2, vI a2), (3, vI a3), (4, vL a4), (6, vI a6), (7, vI a7), (8, vI (I 73 ((a3 * 61) + a7).toNat)), (9, vI (a2 + x1)), (10, vL 1), (12, vI (a1 + 1))] [] (mk I2) Q)) ∧ (¬ (((a2 + x1) + a6) < (I1 477 8)) → (-2147483648 ≤ a7 + 1 ∧ a7 + 1 ≤ 2147483647) ∧ J none mX6_dive (d + 1) 0 0 88 [(0, vR 477), (1, vI a1), (2, vI a2), (3, vI a3), (4, vL a4), (6, vI a6), (7, vI (a7 + 1))] [] (mk I1) Q)))))) ∧ (¬ ((I 477 10) = 0) → CI mX6_price d [vR 477, vI a3, vI a7] I (fun x2 I3 => (-2147483648 ≤ a2 + x2 ∧ a2 + x2 ≤ 2147483647) ∧ (((lA (lUr a4 a7) 1) = 0 → (-2147483648 ≤ a7 + 1 ∧ a7 + 1 ≤ 2147483647) ∧ J none mX6_dive (d + 1) 0 0 88 [(0, vR 477), (1, vI a1), (2, vI a2), (3, vI a3), (4, vL a4), (6, vI a6), (7, vI (a7 + 1))] [] (mk I3) Q) ∧ (¬ ((lA (lUr a4 a7) 1) = 0) → (-2147483648 ≤ (a2 + x2) + a6 ∧ (a2 + x2) + a6 ≤ 2147483647) ∧ ((((a2 + x2) + a6) < (I3 477 8) → ((0 : Int) ≤ a1 ∧ (a1 : Int) < 4) ∧ (∀ I4 : HI, I4 = up I3 480 a1.toNat a7 → (-2147483648 ≤ a1 + 1 ∧ a1 + 1 ≤ 2147483647) ∧ J none mX6_dive (d + 1) 0 0 187 [(0, vR 477), (1, vI a1), (2, vI a2), (3, vI a3), (4, vL a4), (6, vI a6), (7, vI a7), (8, vI a7), (9, vI (a2 + x2)), (10, vL 1), (12, vI (a1 + 1))] [] (mk I4) Q)) ∧ (¬ (((a2 + x2) + a6) < (I3 477 8)) → (-2147483648 ≤ a7 + 1 ∧ a7 + 1 ≤ 2147483647) ∧ J none mX6_dive (d + 1) 0 0 88 [(0, vR 477), (1, vI a1), (2, vI a2), (3, vI a3), (4, vL a4), (6, vI a6), (7, vI (a7 + 1))] [] (mk I3) Q)))))))))) : J none mX6_dive (d + 1) 0 0 88 [(0, vR 477), (1, vI a1), (2, vI a2), (3, vI a3), (4, vL a4), (6, vI a6), (7, vI a7)] [] (mk I) Q := by
  refine J_iload dX6_dive_88 rfl ?_
  refine J_iconst dX6_dive_90 (ii_c rfl) ?_
  refine J_aload_n dX6_dive_91 rfl rfl ?_
  refine J_getR dX6_dive_92 ck_6 fw_X6_37 rfl sh_477 rr_477_2 ?_
  refine J_getR dX6_dive_95 ck_5 fw_X6_92 rfl sh_69 rr_69_5 ?_
  refine J_iload_n dX6_dive_98 rfl rfl ?_
  refine J_iald dX6_dive_99 sh_71 h.1.1 h.1.2 ?_
  replace h := h.2
  refine J_imulN dX6_dive_100 h.1 ?_
  replace h := h.2
  refine J_ic_gt (tgt := 315) dX6_dive_101 (by decide) (fun c => ?_) (fun c => ?_)
  · replace h := h.1 c
    exact J_retv dX6_dive_315 rfl h
  · replace h := h.2 c
    refine J_aload_n dX6_dive_104 rfl rfl ?_
    refine J_getI dX6_dive_105 ck_6 fw_X6_81 rfl sh_477 ?_
    refine J_if_eq (tgt := 116) dX6_dive_108 (by decide) (fun c => ?_) (fun c => ?_)
    · replace h := h.1 c
      refine J_aload_n dX6_dive_116 rfl rfl ?_
      refine J_getR dX6_dive_117 ck_6 fw_X6_37 rfl sh_477 rr_477_2 ?_
      refine J_getR dX6_dive_120 ck_5 fw_X6_95 rfl sh_69 rr_69_7 ?_
      refine J_iload_n dX6_dive_123 rfl rfl ?_
      refine J_bipush dX6_dive_124 (ii_c rfl) (by decide) ?_
      refine J_imulN dX6_dive_126 h.1 ?_
      replace h := h.2
      refine J_iload dX6_dive_127 rfl ?_
      refine J_iaddN dX6_dive_129 h.1 ?_
      replace h := h.2
      refine J_iald dX6_dive_130 sh_73 h.1.1 h.1.2 ?_
      replace h := h.2
      refine J_istore dX6_dive_131 (by decide) ?_
      change J _ _ _ _ _ _ [(0, _), (1, _), (2, _), (3, _), (4, _), (6, _), (7, _), (8, _)] _ _ _
      refine J_iload_n dX6_dive_133 rfl rfl ?_
      refine J_aload_n dX6_dive_134 rfl rfl ?_
      refine J_iload_n dX6_dive_135 rfl rfl ?_
      refine J_iload dX6_dive_136 rfl ?_
      refine J_callV (as := [_, _]) (mc1 := 0) (ms1 := 0) (mc := 0) (ms := 0) dX6_dive_138 mv_X6_price lk_X6_98 sh_477 rfl (Nat.le_of_ble_eq_true rfl) (Nat.le_of_ble_eq_true rfl) h (fun r σ hq _ => ?_)
      obtain ⟨x1, I1, rfl, rfl, h⟩ := hq
      change J _ _ _ _ _ _ _ [vI x1, _] _ _
      refine J_iaddN dX6_dive_141 h.1 ?_
      replace h := h.2
      refine J_istore dX6_dive_142 (by decide) ?_
      change J _ _ _ _ _ _ [(0, _), (1, _), (2, _), (3, _), (4, _), (6, _), (7, _), (8, _), (9, _)] _ _ _
      refine J_lload dX6_dive_144 rfl ?_
      refine J_iload dX6_dive_146 rfl ?_
      refine J_lushr dX6_dive_148 ?_
      refine J_lconst 1 dX6_dive_149 (ll_c rfl) (by decide) ?_
      refine J_land dX6_dive_150 ?_
      refine J_lconst 0 dX6_dive_151 (ll_c rfl) (by decide) ?_
      refine J_lcmp dX6_dive_152 ?_
      refine J_if_eq (tgt := 309) dX6_dive_153 (by decide) (fun c => ?_) (fun c => ?_)
      · replace h := h.1 (lC_eq.mp c)
        refine J_iincN dX6_dive_309 rfl (by decide) h.1 ?_
        replace h := h.2
        change J _ _ _ _ _ _ [(0, _), (1, _), (2, _), (3, _), (4, _), (6, _), (7, _), (8, _), (9, _)] _ _ _
        refine J_goto (tgt := 88) dX6_dive_312 (by decide) ?_
        exact J_loc (ls_sub [0, 1, 2, 3, 4, 5, 6] rfl) h
      · replace h := h.2 (fun w => c (lC_eq.mpr w))
        refine J_iload dX6_dive_156 rfl ?_
        refine J_iload dX6_dive_158 rfl ?_
        refine J_iaddN dX6_dive_160 h.1 ?_
        replace h := h.2
        refine J_aload_n dX6_dive_161 rfl rfl ?_
        refine J_getI dX6_dive_162 ck_6 fw_X6_78 rfl sh_477 ?_
        refine J_ic_lt (tgt := 171) dX6_dive_165 (by decide) (fun c => ?_) (fun c => ?_)
        · replace h := h.1 c
          refine J_aload_n dX6_dive_171 rfl rfl ?_
          refine J_getR dX6_dive_172 ck_6 fw_X6_19 rfl sh_477 rr_477_5 ?_
          refine J_iload_n dX6_dive_175 rfl rfl ?_
          refine J_iload dX6_dive_176 rfl ?_
          refine J_iast dX6_dive_178 sh_480 h.1.1 h.1.2 ?_
          replace h := h.2 _ rfl
          refine J_lconst 1 dX6_dive_179 (ll_c rfl) (by decide) ?_
          refine J_lstore dX6_dive_180 (by decide) ?_
          change J _ _ _ _ _ _ [(0, _), (1, _), (2, _), (3, _), (4, _), (6, _), (7, _), (8, _), (9, _), (10, _)] _ _ _
          refine J_iload_n dX6_dive_182 rfl rfl ?_
          refine J_iconst dX6_dive_183 (ii_c rfl) ?_
          refine J_iaddN dX6_dive_184 h.1 ?_
          replace h := h.2
          refine J_istore dX6_dive_185 (by decide) ?_
          change J _ _ _ _ _ _ [(0, _), (1, _), (2, _), (3, _), (4, _), (6, _), (7, _), (8, _), (9, _), (10, _), (12, _)] _ _ _
          exact h
        · replace h := h.2 c
          refine J_goto (tgt := 309) dX6_dive_168 (by decide) ?_
          refine J_iincN dX6_dive_309 rfl (by decide) h.1 ?_
          replace h := h.2
          change J _ _ _ _ _ _ [(0, _), (1, _), (2, _), (3, _), (4, _), (6, _), (7, _), (8, _), (9, _)] _ _ _
          refine J_goto (tgt := 88) dX6_dive_312 (by decide) ?_
          exact J_loc (ls_sub [0, 1, 2, 3, 4, 5, 6] rfl) h
    · replace h := h.2 c
      refine J_iload dX6_dive_111 rfl ?_
      refine J_goto (tgt := 131) dX6_dive_113 (by decide) ?_
      refine J_istore dX6_dive_131 (by decide) ?_
      change J _ _ _ _ _ _ [(0, _), (1, _), (2, _), (3, _), (4, _), (6, _), (7, _), (8, _)] _ _ _
      refine J_iload_n dX6_dive_133 rfl rfl ?_
      refine J_aload_n dX6_dive_134 rfl rfl ?_
      refine J_iload_n dX6_dive_135 rfl rfl ?_
      refine J_iload dX6_dive_136 rfl ?_
      refine J_callV (as := [_, _]) (mc1 := 0) (ms1 := 0) (mc := 0) (ms := 0) dX6_dive_138 mv_X6_price lk_X6_98 sh_477 rfl (Nat.le_of_ble_eq_true rfl) (Nat.le_of_ble_eq_true rfl) h (fun r σ hq _ => ?_)
      obtain ⟨x2, I3, rfl, rfl, h⟩ := hq
      change J _ _ _ _ _ _ _ [vI x2, _] _ _
      refine J_iaddN dX6_dive_141 h.1 ?_
      replace h := h.2
      refine J_istore dX6_dive_142 (by decide) ?_
      change J _ _ _ _ _ _ [(0, _), (1, _), (2, _), (3, _), (4, _), (6, _), (7, _), (8, _), (9, _)] _ _ _
      refine J_lload dX6_dive_144 rfl ?_
      refine J_iload dX6_dive_146 rfl ?_
      refine J_lushr dX6_dive_148 ?_
      refine J_lconst 1 dX6_dive_149 (ll_c rfl) (by decide) ?_
      refine J_land dX6_dive_150 ?_
      refine J_lconst 0 dX6_dive_151 (ll_c rfl) (by decide) ?_
      refine J_lcmp dX6_dive_152 ?_
      refine J_if_eq (tgt := 309) dX6_dive_153 (by decide) (fun c => ?_) (fun c => ?_)
      · replace h := h.1 (lC_eq.mp c)
        refine J_iincN dX6_dive_309 rfl (by decide) h.1 ?_
        replace h := h.2
        change J _ _ _ _ _ _ [(0, _), (1, _), (2, _), (3, _), (4, _), (6, _), (7, _), (8, _), (9, _)] _ _ _
        refine J_goto (tgt := 88) dX6_dive_312 (by decide) ?_
        exact J_loc (ls_sub [0, 1, 2, 3, 4, 5, 6] rfl) h
      · replace h := h.2 (fun w => c (lC_eq.mpr w))
        refine J_iload dX6_dive_156 rfl ?_
        refine J_iload dX6_dive_158 rfl ?_
        refine J_iaddN dX6_dive_160 h.1 ?_
        replace h := h.2
        refine J_aload_n dX6_dive_161 rfl rfl ?_
        refine J_getI dX6_dive_162 ck_6 fw_X6_78 rfl sh_477 ?_
        refine J_ic_lt (tgt := 171) dX6_dive_165 (by decide) (fun c => ?_) (fun c => ?_)
        · replace h := h.1 c
          refine J_aload_n dX6_dive_171 rfl rfl ?_
          refine J_getR dX6_dive_172 ck_6 fw_X6_19 rfl sh_477 rr_477_5 ?_
          refine J_iload_n dX6_dive_175 rfl rfl ?_
          refine J_iload dX6_dive_176 rfl ?_
          refine J_iast dX6_dive_178 sh_480 h.1.1 h.1.2 ?_
          replace h := h.2 _ rfl
          refine J_lconst 1 dX6_dive_179 (ll_c rfl) (by decide) ?_
          refine J_lstore dX6_dive_180 (by decide) ?_
          change J _ _ _ _ _ _ [(0, _), (1, _), (2, _), (3, _), (4, _), (6, _), (7, _), (8, _), (9, _), (10, _)] _ _ _
          refine J_iload_n dX6_dive_182 rfl rfl ?_
          refine J_iconst dX6_dive_183 (ii_c rfl) ?_
          refine J_iaddN dX6_dive_184 h.1 ?_
          replace h := h.2
          refine J_istore dX6_dive_185 (by decide) ?_
          change J _ _ _ _ _ _ [(0, _), (1, _), (2, _), (3, _), (4, _), (6, _), (7, _), (8, _), (9, _), (10, _), (12, _)] _ _ _
          exact h
        · replace h := h.2 c
          refine J_goto (tgt := 309) dX6_dive_168 (by decide) ?_
          refine J_iincN dX6_dive_309 rfl (by decide) h.1 ?_
          replace h := h.2
          change J _ _ _ _ _ _ [(0, _), (1, _), (2, _), (3, _), (4, _), (6, _), (7, _), (8, _), (9, _)] _ _ _
          refine J_goto (tgt := 88) dX6_dive_312 (by decide) ?_
          exact J_loc (ls_sub [0, 1, 2, 3, 4, 5, 6] rfl) h
set_option maxRecDepth 20000 in
set_option maxHeartbeats 2000000 in
theorem bk_X6_dive_187 {d : Nat} {I : HI} {Q : Option AV → AH → Prop} {a1 : Int} {a2 : Int} {a3 : Int} {a4 : Int} {a6 : Int} {a7 : Int} {a8 : Int} {a9 : Int} {a10 : Int} {a12 : Int}  (h : (((I 477 7) ≤ a12 → ((a10 = 0 → (-2147483648 ≤ a7 + 1 ∧ a7 + 1 ≤ 2147483647) ∧ J none mX6_dive (d + 1) 0 0 88 [(0, vR 477), (1, vI a1), (2, vI a2), (3, vI a3), (4, vL a4), (6, vI a6), (7, vI (a7 + 1))] [] (mk I) Q) ∧ (¬ (a10 = 0) → (-2147483648 ≤ a1 + 1 ∧ a1 + 1 ≤ 2147483647) ∧ CI mX6_leastBehind d [vR 477, vI a1, vI (a1 + 1)] I (fun x1 I1 => (-2147483648 ≤ a9 + x1 ∧ a9 + x1 ≤ 2147483647) ∧ (((I1 477 8) ≤ (a9 + x1) → (-2147483648 ≤ a7 + 1 ∧ a7 + 1 ≤ 2147483647) ∧ J none mX6_dive (d + 1) 0 0 88 [(0, vR 477), (1, vI a1), (2, vI a2), (3, vI a3), (4, vL a4), (6, vI a6), (7, vI (a7 + 1))] [] (mk I1) Q) ∧ (¬ ((I1 477 8) ≤ (a9 + x1)) → (-2147483648 ≤ a1 + 1 ∧ a1 + 1 ≤ 2147483647) ∧ CV mX6_dive d [vR 477, vI (a1 + 1), vI a9] I1 (fun I2 => (-2147483648 ≤ a7 + 1 ∧ a7 + 1 ≤ 2147483647) ∧ J none mX6_dive (d + 1) 0 0 88 [(0, vR 477), (1, vI a1), (2, vI a2), (3, vI a3), (4, vL a4), (6, vI a6), (7, vI (a7 + 1))] [] (mk I2) Q))))))) ∧ (¬ ((I 477 7) ≤ a12) → ((a10 = 0 → ((a10 = 0 → (-2147483648 ≤ a7 + 1 ∧ a7 + 1 ≤ 2147483647) ∧ J none mX6_dive (d + 1) 0 0 88 [(0, vR 477), (1, vI a1), (2, vI a2), (3, vI a3), (4, vL a4), (6, vI a6), (7, vI (a7 + 1))] [] (mk I) Q) ∧ (¬ (a10 = 0) → (-2147483648 ≤ a1 + 1 ∧ a1 + 1 ≤ 2147483647) ∧ CI mX6_leastBehind d [vR 477, vI a1, vI (a1 + 1)] I (fun x3 I3 => (-2147483648 ≤ a9 + x3 ∧ a9 + x3 ≤ 2147483647) ∧ (((I3 477 8) ≤ (a9 + x3) → (-2147483648 ≤ a7 + 1 ∧ a7 + 1 ≤ 2147483647) ∧ J none mX6_dive (d + 1) 0 0 88 [(0, vR 477), (1, vI a1), (2, vI a2), (3, vI a3), (4, vL a4), (6, vI a6), (7, vI (a7 + 1))] [] (mk I3) Q) ∧ (¬ ((I3 477 8) ≤ (a9 + x3)) → (-2147483648 ≤ a1 + 1 ∧ a1 + 1 ≤ 2147483647) ∧ CV mX6_dive d [vR 477, vI (a1 + 1), vI a9] I3 (fun I4 => (-2147483648 ≤ a7 + 1 ∧ a7 + 1 ≤ 2147483647) ∧ J none mX6_dive (d + 1) 0 0 88 [(0, vR 477), (1, vI a1), (2, vI a2), (3, vI a3), (4, vL a4), (6, vI a6), (7, vI (a7 + 1))] [] (mk I4) Q))))))) ∧ (¬ (a10 = 0) → ((0 : Int) ≤ a12 ∧ (a12 : Int) < 4) ∧ (-2147483648 ≤ a1 * 4 ∧ a1 * 4 ≤ 2147483647) ∧ (-2147483648 ≤ (a1 * 4) + (I 479 a12.toNat) ∧ (a1 * 4) + (I 479 a12.toNat) ≤ 2147483647) ∧ ((0 : Int) ≤ ((a1 * 4) + (I 479 a12.toNat)) ∧ ((a1 * 4) + (I 479 a12.toNat) : Int) < 20) ∧ (-2147483648 ≤ (I 477 8) - a9 ∧ (I 477 8) - a9 ≤ 2147483647) ∧ CL mX6_cheapEnough d [vR 477, vI (I 479 a12.toNat), vL (I 478 ((a1 * 4) + (I 479 a12.toNat)).toNat), vI ((I 477 8) - a9)] I (fun x5 I5 => CL mX5_fitting d [vR 69, vI a3, vI a8, vI (I 479 a12.toNat), vL x5] I5 (fun x6 I6 => (-2147483648 ≤ a1 + 1 ∧ a1 + 1 ≤ 2147483647) ∧ (-2147483648 ≤ (a1 + 1) * 4 ∧ (a1 + 1) * 4 ≤ 2147483647) ∧ (-2147483648 ≤ ((a1 + 1) * 4) + (I 479 a12.toNat) ∧ ((a1 + 1) * 4) + (I 479 a12.toNat) ≤ 2147483647) ∧ ((0 : Int) ≤ (((a1 + 1) * 4) + (I 479 a12.toNat)) ∧ (((a1 + 1) * 4) + (I 479 a12.toNat) : Int) < 20) ∧ (∀ I7 : HI, I7 = up I6 478 (((a1 + 1) * 4) + (I 479 a12.toNat)).toNat x6 → (-2147483648 ≤ a12 + 1 ∧ a12 + 1 ≤ 2147483647) ∧ J none mX6_dive (d + 1) 0 0 187 [(0, vR 477), (1, vI a1), (2, vI a2), (3, vI a3), (4, vL a4), (6, vI a6), (7, vI a7), (8, vI a8), (9, vI a9), (10, vL x6), (12, vI (a12 + 1))] [] (mk I7) Q)))))))) : J none mX6_dive (d + 1) 0 0 187 [(0, vR 477), (1, vI a1), (2, vI a2), (3, vI a3), (4, vL a4), (6, vI a6), (7, vI a7), (8, vI a8), (9, vI a9), (10, vL a10), (12, vI a12)] [] (mk I) Q := by
  refine J_iload dX6_dive_187 rfl ?_
  refine J_aload_n dX6_dive_189 rfl rfl ?_
  refine J_getI dX6_dive_190 ck_6 fw_X6_59 rfl sh_477 ?_
  refine J_ic_ge (tgt := 275) dX6_dive_193 (by decide) (fun c => ?_) (fun c => ?_)
  · replace h := h.1 c
    refine J_lload dX6_dive_275 rfl ?_
    refine J_lconst 0 dX6_dive_277 (ll_c rfl) (by decide) ?_
    refine J_lcmp dX6_dive_278 ?_
    refine J_if_eq (tgt := 309) dX6_dive_279 (by decide) (fun c => ?_) (fun c => ?_)
    · replace h := h.1 (lC_eq.mp c)
      refine J_iincN dX6_dive_309 rfl (by decide) h.1 ?_
      replace h := h.2
      change J _ _ _ _ _ _ [(0, _), (1, _), (2, _), (3, _), (4, _), (6, _), (7, _), (8, _), (9, _), (10, _), (12, _)] _ _ _
      refine J_goto (tgt := 88) dX6_dive_312 (by decide) ?_
      exact J_loc (ls_sub [0, 1, 2, 3, 4, 5, 6] rfl) h
    · replace h := h.2 (fun w => c (lC_eq.mpr w))
      refine J_iload dX6_dive_282 rfl ?_
      refine J_aload_n dX6_dive_284 rfl rfl ?_
      refine J_iload_n dX6_dive_285 rfl rfl ?_
      refine J_iload_n dX6_dive_286 rfl rfl ?_
      refine J_iconst dX6_dive_287 (ii_c rfl) ?_
      refine J_iaddN dX6_dive_288 h.1 ?_
      replace h := h.2
      refine J_callV (as := [_, _]) (mc1 := 0) (ms1 := 0) (mc := 0) (ms := 0) dX6_dive_289 mv_X6_leastBehind lk_X6_88 sh_477 rfl (Nat.le_of_ble_eq_true rfl) (Nat.le_of_ble_eq_true rfl) h (fun r σ hq _ => ?_)
      obtain ⟨x1, I1, rfl, rfl, h⟩ := hq
      change J _ _ _ _ _ _ _ [vI x1, _] _ _
      refine J_iaddN dX6_dive_292 h.1 ?_
      replace h := h.2
      refine J_aload_n dX6_dive_293 rfl rfl ?_
      refine J_getI dX6_dive_294 ck_6 fw_X6_78 rfl sh_477 ?_
      refine J_ic_ge (tgt := 309) dX6_dive_297 (by decide) (fun c => ?_) (fun c => ?_)
      · replace h := h.1 c
        refine J_iincN dX6_dive_309 rfl (by decide) h.1 ?_
        replace h := h.2
        change J _ _ _ _ _ _ [(0, _), (1, _), (2, _), (3, _), (4, _), (6, _), (7, _), (8, _), (9, _), (10, _), (12, _)] _ _ _
        refine J_goto (tgt := 88) dX6_dive_312 (by decide) ?_
        exact J_loc (ls_sub [0, 1, 2, 3, 4, 5, 6] rfl) h
      · replace h := h.2 c
        refine J_aload_n dX6_dive_300 rfl rfl ?_
        refine J_iload_n dX6_dive_301 rfl rfl ?_
        refine J_iconst dX6_dive_302 (ii_c rfl) ?_
        refine J_iaddN dX6_dive_303 h.1 ?_
        replace h := h.2
        refine J_iload dX6_dive_304 rfl ?_
        refine J_callV (as := [_, _]) (mc1 := 0) (ms1 := 0) (mc := 0) (ms := 0) dX6_dive_306 mv_X6_dive lk_X6_84 sh_477 rfl (Nat.le_of_ble_eq_true rfl) (Nat.le_of_ble_eq_true rfl) h (fun r σ hq _ => ?_)
        obtain ⟨I2, rfl, rfl, h⟩ := hq
        change J _ _ _ _ _ _ _ [] _ _
        refine J_iincN dX6_dive_309 rfl (by decide) h.1 ?_
        replace h := h.2
        change J _ _ _ _ _ _ [(0, _), (1, _), (2, _), (3, _), (4, _), (6, _), (7, _), (8, _), (9, _), (10, _), (12, _)] _ _ _
        refine J_goto (tgt := 88) dX6_dive_312 (by decide) ?_
        exact J_loc (ls_sub [0, 1, 2, 3, 4, 5, 6] rfl) h
  · replace h := h.2 c
    refine J_lload dX6_dive_196 rfl ?_
    refine J_lconst 0 dX6_dive_198 (ll_c rfl) (by decide) ?_
    refine J_lcmp dX6_dive_199 ?_
    refine J_if_eq (tgt := 275) dX6_dive_200 (by decide) (fun c => ?_) (fun c => ?_)
    · replace h := h.1 (lC_eq.mp c)
      refine J_lload dX6_dive_275 rfl ?_
      refine J_lconst 0 dX6_dive_277 (ll_c rfl) (by decide) ?_
      refine J_lcmp dX6_dive_278 ?_
      refine J_if_eq (tgt := 309) dX6_dive_279 (by decide) (fun c => ?_) (fun c => ?_)
      · replace h := h.1 (lC_eq.mp c)
        refine J_iincN dX6_dive_309 rfl (by decide) h.1 ?_
        replace h := h.2
        change J _ _ _ _ _ _ [(0, _), (1, _), (2, _), (3, _), (4, _), (6, _), (7, _), (8, _), (9, _), (10, _), (12, _)] _ _ _
        refine J_goto (tgt := 88) dX6_dive_312 (by decide) ?_
        exact J_loc (ls_sub [0, 1, 2, 3, 4, 5, 6] rfl) h
      · replace h := h.2 (fun w => c (lC_eq.mpr w))
        refine J_iload dX6_dive_282 rfl ?_
        refine J_aload_n dX6_dive_284 rfl rfl ?_
        refine J_iload_n dX6_dive_285 rfl rfl ?_
        refine J_iload_n dX6_dive_286 rfl rfl ?_
        refine J_iconst dX6_dive_287 (ii_c rfl) ?_
        refine J_iaddN dX6_dive_288 h.1 ?_
        replace h := h.2
        refine J_callV (as := [_, _]) (mc1 := 0) (ms1 := 0) (mc := 0) (ms := 0) dX6_dive_289 mv_X6_leastBehind lk_X6_88 sh_477 rfl (Nat.le_of_ble_eq_true rfl) (Nat.le_of_ble_eq_true rfl) h (fun r σ hq _ => ?_)
        obtain ⟨x3, I3, rfl, rfl, h⟩ := hq
        change J _ _ _ _ _ _ _ [vI x3, _] _ _
        refine J_iaddN dX6_dive_292 h.1 ?_
        replace h := h.2
        refine J_aload_n dX6_dive_293 rfl rfl ?_
        refine J_getI dX6_dive_294 ck_6 fw_X6_78 rfl sh_477 ?_
        refine J_ic_ge (tgt := 309) dX6_dive_297 (by decide) (fun c => ?_) (fun c => ?_)
        · replace h := h.1 c
          refine J_iincN dX6_dive_309 rfl (by decide) h.1 ?_
          replace h := h.2
          change J _ _ _ _ _ _ [(0, _), (1, _), (2, _), (3, _), (4, _), (6, _), (7, _), (8, _), (9, _), (10, _), (12, _)] _ _ _
          refine J_goto (tgt := 88) dX6_dive_312 (by decide) ?_
          exact J_loc (ls_sub [0, 1, 2, 3, 4, 5, 6] rfl) h
        · replace h := h.2 c
          refine J_aload_n dX6_dive_300 rfl rfl ?_
          refine J_iload_n dX6_dive_301 rfl rfl ?_
          refine J_iconst dX6_dive_302 (ii_c rfl) ?_
          refine J_iaddN dX6_dive_303 h.1 ?_
          replace h := h.2
          refine J_iload dX6_dive_304 rfl ?_
          refine J_callV (as := [_, _]) (mc1 := 0) (ms1 := 0) (mc := 0) (ms := 0) dX6_dive_306 mv_X6_dive lk_X6_84 sh_477 rfl (Nat.le_of_ble_eq_true rfl) (Nat.le_of_ble_eq_true rfl) h (fun r σ hq _ => ?_)
          obtain ⟨I4, rfl, rfl, h⟩ := hq
          change J _ _ _ _ _ _ _ [] _ _
          refine J_iincN dX6_dive_309 rfl (by decide) h.1 ?_
          replace h := h.2
          change J _ _ _ _ _ _ [(0, _), (1, _), (2, _), (3, _), (4, _), (6, _), (7, _), (8, _), (9, _), (10, _), (12, _)] _ _ _
          refine J_goto (tgt := 88) dX6_dive_312 (by decide) ?_
          exact J_loc (ls_sub [0, 1, 2, 3, 4, 5, 6] rfl) h
    · replace h := h.2 (fun w => c (lC_eq.mpr w))
      refine J_aload_n dX6_dive_203 rfl rfl ?_
      refine J_getR dX6_dive_204 ck_6 fw_X6_15 rfl sh_477 rr_477_4 ?_
      refine J_iload dX6_dive_207 rfl ?_
      refine J_iald dX6_dive_209 sh_479 h.1.1 h.1.2 ?_
      replace h := h.2
      refine J_istore dX6_dive_210 (by decide) ?_
      change J _ _ _ _ _ _ [(0, _), (1, _), (2, _), (3, _), (4, _), (6, _), (7, _), (8, _), (9, _), (10, _), (12, _), (13, _)] _ _ _
      refine J_aload_n dX6_dive_212 rfl rfl ?_
      refine J_iload dX6_dive_213 rfl ?_
      refine J_aload_n dX6_dive_215 rfl rfl ?_
      refine J_getR dX6_dive_216 ck_6 fw_X6_9 rfl sh_477 rr_477_3 ?_
      refine J_iload_n dX6_dive_219 rfl rfl ?_
      refine J_iconst dX6_dive_220 (ii_c rfl) ?_
      refine J_imulN dX6_dive_221 h.1 ?_
      replace h := h.2
      refine J_iload dX6_dive_222 rfl ?_
      refine J_iaddN dX6_dive_224 h.1 ?_
      replace h := h.2
      refine J_lald dX6_dive_225 sh_478 h.1.1 h.1.2 ?_
      replace h := h.2
      refine J_aload_n dX6_dive_226 rfl rfl ?_
      refine J_getI dX6_dive_227 ck_6 fw_X6_78 rfl sh_477 ?_
      refine J_iload dX6_dive_230 rfl ?_
      refine J_isubN dX6_dive_232 h.1 ?_
      replace h := h.2
      refine J_callV (as := [_, _, _]) (mc1 := 0) (ms1 := 0) (mc := 0) (ms := 0) dX6_dive_233 mv_X6_cheapEnough lk_X6_101 sh_477 rfl (Nat.le_of_ble_eq_true rfl) (Nat.le_of_ble_eq_true rfl) h (fun r σ hq _ => ?_)
      obtain ⟨x5, I5, rfl, rfl, h⟩ := hq
      change J _ _ _ _ _ _ _ [vL x5] _ _
      refine J_lstore dX6_dive_236 (by decide) ?_
      change J _ _ _ _ _ _ [(0, _), (1, _), (2, _), (3, _), (4, _), (6, _), (7, _), (8, _), (9, _), (10, _), (12, _), (13, _)] _ _ _
      refine J_aload_n dX6_dive_238 rfl rfl ?_
      refine J_getR dX6_dive_239 ck_6 fw_X6_37 rfl sh_477 rr_477_2 ?_
      refine J_iload_n dX6_dive_242 rfl rfl ?_
      refine J_iload dX6_dive_243 rfl ?_
      refine J_iload dX6_dive_245 rfl ?_
      refine J_lload dX6_dive_247 rfl ?_
      refine J_callV (as := [_, _, _, _]) (mc1 := 0) (ms1 := 0) (mc := 0) (ms := 0) dX6_dive_249 mv_X5_fitting lk_X6_105 sh_69 rfl (Nat.le_of_ble_eq_true rfl) (Nat.le_of_ble_eq_true rfl) h (fun r σ hq _ => ?_)
      obtain ⟨x6, I6, rfl, rfl, h⟩ := hq
      change J _ _ _ _ _ _ _ [vL x6] _ _
      refine J_lstore dX6_dive_252 (by decide) ?_
      change J _ _ _ _ _ _ [(0, _), (1, _), (2, _), (3, _), (4, _), (6, _), (7, _), (8, _), (9, _), (10, _), (12, _), (13, _)] _ _ _
      refine J_aload_n dX6_dive_254 rfl rfl ?_
      refine J_getR dX6_dive_255 ck_6 fw_X6_9 rfl sh_477 rr_477_3 ?_
      refine J_iload_n dX6_dive_258 rfl rfl ?_
      refine J_iconst dX6_dive_259 (ii_c rfl) ?_
      refine J_iaddN dX6_dive_260 h.1 ?_
      replace h := h.2
      refine J_iconst dX6_dive_261 (ii_c rfl) ?_
      refine J_imulN dX6_dive_262 h.1 ?_
      replace h := h.2
      refine J_iload dX6_dive_263 rfl ?_
      refine J_iaddN dX6_dive_265 h.1 ?_
      replace h := h.2
      refine J_lload dX6_dive_266 rfl ?_
      refine J_last dX6_dive_268 sh_478 h.1.1 h.1.2 ?_
      replace h := h.2 _ rfl
      refine J_iincN dX6_dive_269 rfl (by decide) h.1 ?_
      replace h := h.2
      change J _ _ _ _ _ _ [(0, _), (1, _), (2, _), (3, _), (4, _), (6, _), (7, _), (8, _), (9, _), (10, _), (12, _), (13, _)] _ _ _
      refine J_goto (tgt := 187) dX6_dive_272 (by decide) ?_
      exact J_loc (ls_sub [0, 1, 2, 3, 4, 5, 6, 7, 8, 9, 10] rfl) h
set_option maxRecDepth 20000 in
set_option maxHeartbeats 2000000 in
theorem bk_X6_price_0 {d : Nat} {I : HI} {Q : Option AV → AH → Prop} {a1 : Int} {a2 : Int}  (h : CI mX5_endOf d [vR 69, vI a1, vI a2] I (fun x1 I1 => (((I1 477 9) = 0 → (-2147483648 ≤ x1 + 0 ∧ x1 + 0 ≤ 2147483647) ∧ Q (some (vI (x1 + 0))) (mk I1)) ∧ (¬ ((I1 477 9) = 0) → ((a2 = 0 → (-2147483648 ≤ x1 + 0 ∧ x1 + 0 ≤ 2147483647) ∧ Q (some (vI (x1 + 0))) (mk I1)) ∧ (¬ (a2 = 0) → (-2147483648 ≤ x1 + 10000 ∧ x1 + 10000 ≤ 2147483647) ∧ Q (some (vI (x1 + 10000))) (mk I1))))))) : J none mX6_price (d + 1) 0 0 0 [(0, vR 477), (1, vI a1), (2, vI a2)] [] (mk I) Q := by
  refine J_aload_n dX6_price_0 rfl rfl ?_
  refine J_getR dX6_price_1 ck_6 fw_X6_37 rfl sh_477 rr_477_2 ?_
  refine J_iload_n dX6_price_4 rfl rfl ?_
  refine J_iload_n dX6_price_5 rfl rfl ?_
  refine J_callV (as := [_, _]) (mc1 := 0) (ms1 := 0) (mc := 0) (ms := 0) dX6_price_6 mv_X5_endOf lk_X6_109 sh_69 rfl (Nat.le_of_ble_eq_true rfl) (Nat.le_of_ble_eq_true rfl) h (fun r σ hq _ => ?_)
  obtain ⟨x1, I1, rfl, rfl, h⟩ := hq
  change J _ _ _ _ _ _ _ [vI x1] _ _
  refine J_aload_n dX6_price_9 rfl rfl ?_
  refine J_getI dX6_price_10 ck_6 fw_X6_55 rfl sh_477 ?_
  refine J_if_eq (tgt := 26) dX6_price_13 (by decide) (fun c => ?_) (fun c => ?_)
  · replace h := h.1 c
    refine J_iconst dX6_price_26 (ii_c rfl) ?_
    refine J_iaddN dX6_price_27 h.1 ?_
    replace h := h.2
    exact J_reti dX6_price_28 rfl h
  · replace h := h.2 c
    refine J_iload_n dX6_price_16 rfl rfl ?_
    refine J_if_eq (tgt := 26) dX6_price_17 (by decide) (fun c => ?_) (fun c => ?_)
    · replace h := h.1 c
      refine J_iconst dX6_price_26 (ii_c rfl) ?_
      refine J_iaddN dX6_price_27 h.1 ?_
      replace h := h.2
      exact J_reti dX6_price_28 rfl h
    · replace h := h.2 c
      refine J_sipush dX6_price_20 (ii_c rfl) (by decide) ?_
      refine J_goto (tgt := 27) dX6_price_23 (by decide) ?_
      refine J_iaddN dX6_price_27 h.1 ?_
      replace h := h.2
      exact J_reti dX6_price_28 rfl h
set_option maxRecDepth 20000 in
set_option maxHeartbeats 2000000 in
theorem bk_X6_leastBehind_0 {d : Nat} {I : HI} {Q : Option AV → AH → Prop} {a1 : Int} {a2 : Int}  (h : (-2147483648 ≤ a1 + 1 ∧ a1 + 1 ≤ 2147483647) ∧ J none mX6_leastBehind (d + 1) 0 0 7 [(0, vR 477), (1, vI a1), (2, vI a2), (3, vI 0), (4, vI (a1 + 1))] [] (mk I) Q) : J none mX6_leastBehind (d + 1) 0 0 0 [(0, vR 477), (1, vI a1), (2, vI a2)] [] (mk I) Q := by
  refine J_iconst dX6_leastBehind_0 (ii_c rfl) ?_
  refine J_istore_n dX6_leastBehind_1 rfl (by decide) ?_
  change J _ _ _ _ _ _ [(0, _), (1, _), (2, _), (3, _)] _ _ _
  refine J_iload_n dX6_leastBehind_2 rfl rfl ?_
  refine J_iconst dX6_leastBehind_3 (ii_c rfl) ?_
  refine J_iaddN dX6_leastBehind_4 h.1 ?_
  replace h := h.2
  refine J_istore dX6_leastBehind_5 (by decide) ?_
  change J _ _ _ _ _ _ [(0, _), (1, _), (2, _), (3, _), (4, _)] _ _ _
  exact h
set_option maxRecDepth 20000 in
set_option maxHeartbeats 2000000 in
theorem bk_X6_leastBehind_7 {d : Nat} {I : HI} {Q : Option AV → AH → Prop} {a1 : Int} {a2 : Int} {a3 : Int} {a4 : Int}  (h : (((I 477 7) ≤ a4 → Q (some (vI (min a3 100000))) (mk I)) ∧ (¬ ((I 477 7) ≤ a4) → ((0 : Int) ≤ a4 ∧ (a4 : Int) < 4) ∧ (-2147483648 ≤ a2 * 4 ∧ a2 * 4 ≤ 2147483647) ∧ ((0 : Int) ≤ a4 ∧ (a4 : Int) < 4) ∧ (-2147483648 ≤ (a2 * 4) + (I 479 a4.toNat) ∧ (a2 * 4) + (I 479 a4.toNat) ≤ 2147483647) ∧ ((0 : Int) ≤ ((a2 * 4) + (I 479 a4.toNat)) ∧ ((a2 * 4) + (I 479 a4.toNat) : Int) < 20) ∧ CI mX6_cheapest d [vR 477, vI (I 479 a4.toNat), vL (I 478 ((a2 * 4) + (I 479 a4.toNat)).toNat)] I (fun x1 I1 => (-2147483648 ≤ a3 + x1 ∧ a3 + x1 ≤ 2147483647) ∧ (-2147483648 ≤ a4 + 1 ∧ a4 + 1 ≤ 2147483647) ∧ J none mX6_leastBehind (d + 1) 0 0 7 [(0, vR 477), (1, vI a1), (2, vI a2), (3, vI (a3 + x1)), (4, vI (a4 + 1))] [] (mk I1) Q)))) : J none mX6_leastBehind (d + 1) 0 0 7 [(0, vR 477), (1, vI a1), (2, vI a2), (3, vI a3), (4, vI a4)] [] (mk I) Q := by
  refine J_iload dX6_leastBehind_7 rfl ?_
  refine J_aload_n dX6_leastBehind_9 rfl rfl ?_
  refine J_getI dX6_leastBehind_10 ck_6 fw_X6_59 rfl sh_477 ?_
  refine J_ic_ge (tgt := 52) dX6_leastBehind_13 (by decide) (fun c => ?_) (fun c => ?_)
  · replace h := h.1 c
    refine J_iload_n dX6_leastBehind_52 rfl rfl ?_
    refine J_ldc 100000 dX6_leastBehind_53 kw_X6_77 (ii_c rfl) ?_
    refine J_min dX6_leastBehind_55 lk_X6_116 (Nat.le_of_ble_eq_true rfl) ?_
    exact J_reti dX6_leastBehind_58 rfl h
  · replace h := h.2 c
    refine J_iload_n dX6_leastBehind_16 rfl rfl ?_
    refine J_aload_n dX6_leastBehind_17 rfl rfl ?_
    refine J_aload_n dX6_leastBehind_18 rfl rfl ?_
    refine J_getR dX6_leastBehind_19 ck_6 fw_X6_15 rfl sh_477 rr_477_4 ?_
    refine J_iload dX6_leastBehind_22 rfl ?_
    refine J_iald dX6_leastBehind_24 sh_479 h.1.1 h.1.2 ?_
    replace h := h.2
    refine J_aload_n dX6_leastBehind_25 rfl rfl ?_
    refine J_getR dX6_leastBehind_26 ck_6 fw_X6_9 rfl sh_477 rr_477_3 ?_
    refine J_iload_n dX6_leastBehind_29 rfl rfl ?_
    refine J_iconst dX6_leastBehind_30 (ii_c rfl) ?_
    refine J_imulN dX6_leastBehind_31 h.1 ?_
    replace h := h.2
    refine J_aload_n dX6_leastBehind_32 rfl rfl ?_
    refine J_getR dX6_leastBehind_33 ck_6 fw_X6_15 rfl sh_477 rr_477_4 ?_
    refine J_iload dX6_leastBehind_36 rfl ?_
    refine J_iald dX6_leastBehind_38 sh_479 h.1.1 h.1.2 ?_
    replace h := h.2
    refine J_iaddN dX6_leastBehind_39 h.1 ?_
    replace h := h.2
    refine J_lald dX6_leastBehind_40 sh_478 h.1.1 h.1.2 ?_
    replace h := h.2
    refine J_callV (as := [_, _]) (mc1 := 0) (ms1 := 0) (mc := 0) (ms := 0) dX6_leastBehind_41 mv_X6_cheapest lk_X6_112 sh_477 rfl (Nat.le_of_ble_eq_true rfl) (Nat.le_of_ble_eq_true rfl) h (fun r σ hq _ => ?_)
    obtain ⟨x1, I1, rfl, rfl, h⟩ := hq
    change J _ _ _ _ _ _ _ [vI x1, _] _ _
    refine J_iaddN dX6_leastBehind_44 h.1 ?_
    replace h := h.2
    refine J_istore_n dX6_leastBehind_45 rfl (by decide) ?_
    change J _ _ _ _ _ _ [(0, _), (1, _), (2, _), (3, _), (4, _)] _ _ _
    refine J_iincN dX6_leastBehind_46 rfl (by decide) h.1 ?_
    replace h := h.2
    change J _ _ _ _ _ _ [(0, _), (1, _), (2, _), (3, _), (4, _)] _ _ _
    refine J_goto (tgt := 7) dX6_leastBehind_49 (by decide) ?_
    exact h
set_option maxRecDepth 20000 in
set_option maxHeartbeats 2000000 in
theorem bk_X6_cheapest_0 {d : Nat} {I : HI} {Q : Option AV → AH → Prop} {a1 : Int} {a2 : Int}  (h : J none mX6_cheapest (d + 1) 0 0 3 [(0, vR 477), (1, vI a1), (2, vL a2), (4, vI 0)] [] (mk I) Q) : J none mX6_cheapest (d + 1) 0 0 0 [(0, vR 477), (1, vI a1), (2, vL a2)] [] (mk I) Q := by
  refine J_iconst dX6_cheapest_0 (ii_c rfl) ?_
  refine J_istore dX6_cheapest_1 (by decide) ?_
  change J _ _ _ _ _ _ [(0, _), (1, _), (2, _), (4, _)] _ _ _
  exact h
set_option maxRecDepth 20000 in
set_option maxHeartbeats 2000000 in
theorem bk_X6_cheapest_3 {d : Nat} {I : HI} {Q : Option AV → AH → Prop} {a1 : Int} {a2 : Int} {a4 : Int}  (h : ((0 : Int) ≤ a1 ∧ (a1 : Int) < 4) ∧ (-2147483648 ≤ 3 * (I 71 a1.toNat) ∧ 3 * (I 71 a1.toNat) ≤ 2147483647) ∧ (((3 * (I 71 a1.toNat)) < a4 → Q (some (vI 100000)) (mk I)) ∧ (¬ ((3 * (I 71 a1.toNat)) < a4) → ((a2 = 0 → Q (some (vI 100000)) (mk I)) ∧ (¬ (a2 = 0) → (-2147483648 ≤ a1 * 61 ∧ a1 * 61 ≤ 2147483647) ∧ (-2147483648 ≤ (a1 * 61) + a4 ∧ (a1 * 61) + a4 ≤ 2147483647) ∧ ((0 : Int) ≤ ((a1 * 61) + a4) ∧ ((a1 * 61) + a4 : Int) < 244) ∧ (((lA (lUr a2 (I 73 ((a1 * 61) + a4).toNat)) 1) = 0 → (-2147483648 ≤ a4 + 1 ∧ a4 + 1 ≤ 2147483647) ∧ J none mX6_cheapest (d + 1) 0 0 3 [(0, vR 477), (1, vI a1), (2, vL a2), (4, vI (a4 + 1))] [] (mk I) Q) ∧ (¬ ((lA (lUr a2 (I 73 ((a1 * 61) + a4).toNat)) 1) = 0) → CI mX6_price d [vR 477, vI a1, vI (I 73 ((a1 * 61) + a4).toNat)] I (fun x1 I1 => Q (some (vI x1)) (mk I1))))))))) : J none mX6_cheapest (d + 1) 0 0 3 [(0, vR 477), (1, vI a1), (2, vL a2), (4, vI a4)] [] (mk I) Q := by
  refine J_iload dX6_cheapest_3 rfl ?_
  refine J_iconst dX6_cheapest_5 (ii_c rfl) ?_
  refine J_aload_n dX6_cheapest_6 rfl rfl ?_
  refine J_getR dX6_cheapest_7 ck_6 fw_X6_37 rfl sh_477 rr_477_2 ?_
  refine J_getR dX6_cheapest_10 ck_5 fw_X6_92 rfl sh_69 rr_69_5 ?_
  refine J_iload_n dX6_cheapest_13 rfl rfl ?_
  refine J_iald dX6_cheapest_14 sh_71 h.1.1 h.1.2 ?_
  replace h := h.2
  refine J_imulN dX6_cheapest_15 h.1 ?_
  replace h := h.2
  refine J_ic_gt (tgt := 67) dX6_cheapest_16 (by decide) (fun c => ?_) (fun c => ?_)
  · replace h := h.1 c
    refine J_ldc 100000 dX6_cheapest_67 kw_X6_77 (ii_c rfl) ?_
    exact J_reti dX6_cheapest_69 rfl h
  · replace h := h.2 c
    refine J_lload_n dX6_cheapest_19 rfl rfl ?_
    refine J_lconst 0 dX6_cheapest_20 (ll_c rfl) (by decide) ?_
    refine J_lcmp dX6_cheapest_21 ?_
    refine J_if_eq (tgt := 67) dX6_cheapest_22 (by decide) (fun c => ?_) (fun c => ?_)
    · replace h := h.1 (lC_eq.mp c)
      refine J_ldc 100000 dX6_cheapest_67 kw_X6_77 (ii_c rfl) ?_
      exact J_reti dX6_cheapest_69 rfl h
    · replace h := h.2 (fun w => c (lC_eq.mpr w))
      refine J_aload_n dX6_cheapest_25 rfl rfl ?_
      refine J_getR dX6_cheapest_26 ck_6 fw_X6_37 rfl sh_477 rr_477_2 ?_
      refine J_getR dX6_cheapest_29 ck_5 fw_X6_95 rfl sh_69 rr_69_7 ?_
      refine J_iload_n dX6_cheapest_32 rfl rfl ?_
      refine J_bipush dX6_cheapest_33 (ii_c rfl) (by decide) ?_
      refine J_imulN dX6_cheapest_35 h.1 ?_
      replace h := h.2
      refine J_iload dX6_cheapest_36 rfl ?_
      refine J_iaddN dX6_cheapest_38 h.1 ?_
      replace h := h.2
      refine J_iald dX6_cheapest_39 sh_73 h.1.1 h.1.2 ?_
      replace h := h.2
      refine J_istore dX6_cheapest_40 (by decide) ?_
      change J _ _ _ _ _ _ [(0, _), (1, _), (2, _), (4, _), (5, _)] _ _ _
      refine J_lload_n dX6_cheapest_42 rfl rfl ?_
      refine J_iload dX6_cheapest_43 rfl ?_
      refine J_lushr dX6_cheapest_45 ?_
      refine J_lconst 1 dX6_cheapest_46 (ll_c rfl) (by decide) ?_
      refine J_land dX6_cheapest_47 ?_
      refine J_lconst 0 dX6_cheapest_48 (ll_c rfl) (by decide) ?_
      refine J_lcmp dX6_cheapest_49 ?_
      refine J_if_eq (tgt := 61) dX6_cheapest_50 (by decide) (fun c => ?_) (fun c => ?_)
      · replace h := h.1 (lC_eq.mp c)
        refine J_iincN dX6_cheapest_61 rfl (by decide) h.1 ?_
        replace h := h.2
        change J _ _ _ _ _ _ [(0, _), (1, _), (2, _), (4, _), (5, _)] _ _ _
        refine J_goto (tgt := 3) dX6_cheapest_64 (by decide) ?_
        exact J_loc (ls_sub [0, 1, 2, 3] rfl) h
      · replace h := h.2 (fun w => c (lC_eq.mpr w))
        refine J_aload_n dX6_cheapest_53 rfl rfl ?_
        refine J_iload_n dX6_cheapest_54 rfl rfl ?_
        refine J_iload dX6_cheapest_55 rfl ?_
        refine J_callV (as := [_, _]) (mc1 := 0) (ms1 := 0) (mc := 0) (ms := 0) dX6_cheapest_57 mv_X6_price lk_X6_98 sh_477 rfl (Nat.le_of_ble_eq_true rfl) (Nat.le_of_ble_eq_true rfl) h (fun r σ hq _ => ?_)
        obtain ⟨x1, I1, rfl, rfl, h⟩ := hq
        change J _ _ _ _ _ _ _ [vI x1] _ _
        exact J_reti dX6_cheapest_60 rfl h
set_option maxRecDepth 20000 in
set_option maxHeartbeats 2000000 in
theorem bk_X6_cheapEnough_0 {d : Nat} {I : HI} {Q : Option AV → AH → Prop} {a1 : Int} {a2 : Int} {a4 : Int}  (h : ((0 : Int) ≤ a1 ∧ (a1 : Int) < 4) ∧ (-2147483648 ≤ 3 * (I 71 a1.toNat) ∧ 3 * (I 71 a1.toNat) ≤ 2147483647) ∧ (-2147483648 ≤ a1 * 61 ∧ a1 * 61 ≤ 2147483647) ∧ (-2147483648 ≤ (a1 * 61) + (3 * (I 71 a1.toNat)) ∧ (a1 * 61) + (3 * (I 71 a1.toNat)) ≤ 2147483647) ∧ ((0 : Int) ≤ ((a1 * 61) + (3 * (I 71 a1.toNat))) ∧ ((a1 * 61) + (3 * (I 71 a1.toNat)) : Int) < 244) ∧ CI mX6_price d [vR 477, vI a1, vI (I 73 ((a1 * 61) + (3 * (I 71 a1.toNat))).toNat)] I (fun x1 I1 => ((a4 ≤ x1 → J none mX6_cheapEnough (d + 1) 0 0 46 [(0, vR 477), (1, vI a1), (2, vL a2), (4, vI a4), (5, vI (3 * (I 71 a1.toNat))), (6, vL 1), (8, vI 1)] [] (mk I1) Q) ∧ (¬ (a4 ≤ x1) → Q (some (vL a2)) (mk I1))))) : J none mX6_cheapEnough (d + 1) 0 0 0 [(0, vR 477), (1, vI a1), (2, vL a2), (4, vI a4)] [] (mk I) Q := by
  refine J_iconst dX6_cheapEnough_0 (ii_c rfl) ?_
  refine J_aload_n dX6_cheapEnough_1 rfl rfl ?_
  refine J_getR dX6_cheapEnough_2 ck_6 fw_X6_37 rfl sh_477 rr_477_2 ?_
  refine J_getR dX6_cheapEnough_5 ck_5 fw_X6_92 rfl sh_69 rr_69_5 ?_
  refine J_iload_n dX6_cheapEnough_8 rfl rfl ?_
  refine J_iald dX6_cheapEnough_9 sh_71 h.1.1 h.1.2 ?_
  replace h := h.2
  refine J_imulN dX6_cheapEnough_10 h.1 ?_
  replace h := h.2
  refine J_istore dX6_cheapEnough_11 (by decide) ?_
  change J _ _ _ _ _ _ [(0, _), (1, _), (2, _), (4, _), (5, _)] _ _ _
  refine J_aload_n dX6_cheapEnough_13 rfl rfl ?_
  refine J_iload_n dX6_cheapEnough_14 rfl rfl ?_
  refine J_aload_n dX6_cheapEnough_15 rfl rfl ?_
  refine J_getR dX6_cheapEnough_16 ck_6 fw_X6_37 rfl sh_477 rr_477_2 ?_
  refine J_getR dX6_cheapEnough_19 ck_5 fw_X6_95 rfl sh_69 rr_69_7 ?_
  refine J_iload_n dX6_cheapEnough_22 rfl rfl ?_
  refine J_bipush dX6_cheapEnough_23 (ii_c rfl) (by decide) ?_
  refine J_imulN dX6_cheapEnough_25 h.1 ?_
  replace h := h.2
  refine J_iload dX6_cheapEnough_26 rfl ?_
  refine J_iaddN dX6_cheapEnough_28 h.1 ?_
  replace h := h.2
  refine J_iald dX6_cheapEnough_29 sh_73 h.1.1 h.1.2 ?_
  replace h := h.2
  refine J_callV (as := [_, _]) (mc1 := 0) (ms1 := 0) (mc := 0) (ms := 0) dX6_cheapEnough_30 mv_X6_price lk_X6_98 sh_477 rfl (Nat.le_of_ble_eq_true rfl) (Nat.le_of_ble_eq_true rfl) h (fun r σ hq _ => ?_)
  obtain ⟨x1, I1, rfl, rfl, h⟩ := hq
  change J _ _ _ _ _ _ _ [vI x1] _ _
  refine J_iload dX6_cheapEnough_33 rfl ?_
  refine J_ic_ge (tgt := 40) dX6_cheapEnough_35 (by decide) (fun c => ?_) (fun c => ?_)
  · replace h := h.1 c
    refine J_lconst 1 dX6_cheapEnough_40 (ll_c rfl) (by decide) ?_
    refine J_lstore dX6_cheapEnough_41 (by decide) ?_
    change J _ _ _ _ _ _ [(0, _), (1, _), (2, _), (4, _), (5, _), (6, _)] _ _ _
    refine J_iconst dX6_cheapEnough_43 (ii_c rfl) ?_
    refine J_istore dX6_cheapEnough_44 (by decide) ?_
    change J _ _ _ _ _ _ [(0, _), (1, _), (2, _), (4, _), (5, _), (6, _), (8, _)] _ _ _
    exact h
  · replace h := h.2 c
    refine J_lload_n dX6_cheapEnough_38 rfl rfl ?_
    exact J_retl dX6_cheapEnough_39 rfl h
set_option maxRecDepth 20000 in
set_option maxHeartbeats 2000000 in
theorem bk_X6_cheapEnough_46 {d : Nat} {I : HI} {Q : Option AV → AH → Prop} {a1 : Int} {a2 : Int} {a4 : Int} {a5 : Int} {a6 : Int} {a8 : Int}  (h : ((a5 < a8 → Q (some (vL (lA a2 a6))) (mk I)) ∧ (¬ (a5 < a8) → (-2147483648 ≤ a1 * 61 ∧ a1 * 61 ≤ 2147483647) ∧ (-2147483648 ≤ (a1 * 61) + a8 ∧ (a1 * 61) + a8 ≤ 2147483647) ∧ ((0 : Int) ≤ ((a1 * 61) + a8) ∧ ((a1 * 61) + a8 : Int) < 244) ∧ CI mX6_price d [vR 477, vI a1, vI (I 73 ((a1 * 61) + a8).toNat)] I (fun x1 I1 => ((x1 < a4 → (-2147483648 ≤ a8 + 1 ∧ a8 + 1 ≤ 2147483647) ∧ J none mX6_cheapEnough (d + 1) 0 0 46 [(0, vR 477), (1, vI a1), (2, vL a2), (4, vI a4), (5, vI a5), (6, vL (lO a6 (lSl 1 (I 73 ((a1 * 61) + a8).toNat)))), (8, vI (a8 + 1))] [] (mk I1) Q) ∧ (¬ (x1 < a4) → Q (some (vL (lA a2 a6))) (mk I1))))))) : J none mX6_cheapEnough (d + 1) 0 0 46 [(0, vR 477), (1, vI a1), (2, vL a2), (4, vI a4), (5, vI a5), (6, vL a6), (8, vI a8)] [] (mk I) Q := by
  refine J_iload dX6_cheapEnough_46 rfl ?_
  refine J_iload dX6_cheapEnough_48 rfl ?_
  refine J_ic_gt (tgt := 100) dX6_cheapEnough_50 (by decide) (fun c => ?_) (fun c => ?_)
  · replace h := h.1 c
    refine J_lload_n dX6_cheapEnough_100 rfl rfl ?_
    refine J_lload dX6_cheapEnough_101 rfl ?_
    refine J_land dX6_cheapEnough_103 ?_
    exact J_retl dX6_cheapEnough_104 rfl h
  · replace h := h.2 c
    refine J_aload_n dX6_cheapEnough_53 rfl rfl ?_
    refine J_getR dX6_cheapEnough_54 ck_6 fw_X6_37 rfl sh_477 rr_477_2 ?_
    refine J_getR dX6_cheapEnough_57 ck_5 fw_X6_95 rfl sh_69 rr_69_7 ?_
    refine J_iload_n dX6_cheapEnough_60 rfl rfl ?_
    refine J_bipush dX6_cheapEnough_61 (ii_c rfl) (by decide) ?_
    refine J_imulN dX6_cheapEnough_63 h.1 ?_
    replace h := h.2
    refine J_iload dX6_cheapEnough_64 rfl ?_
    refine J_iaddN dX6_cheapEnough_66 h.1 ?_
    replace h := h.2
    refine J_iald dX6_cheapEnough_67 sh_73 h.1.1 h.1.2 ?_
    replace h := h.2
    refine J_istore dX6_cheapEnough_68 (by decide) ?_
    change J _ _ _ _ _ _ [(0, _), (1, _), (2, _), (4, _), (5, _), (6, _), (8, _), (9, _)] _ _ _
    refine J_aload_n dX6_cheapEnough_70 rfl rfl ?_
    refine J_iload_n dX6_cheapEnough_71 rfl rfl ?_
    refine J_iload dX6_cheapEnough_72 rfl ?_
    refine J_callV (as := [_, _]) (mc1 := 0) (ms1 := 0) (mc := 0) (ms := 0) dX6_cheapEnough_74 mv_X6_price lk_X6_98 sh_477 rfl (Nat.le_of_ble_eq_true rfl) (Nat.le_of_ble_eq_true rfl) h (fun r σ hq _ => ?_)
    obtain ⟨x1, I1, rfl, rfl, h⟩ := hq
    change J _ _ _ _ _ _ _ [vI x1] _ _
    refine J_iload dX6_cheapEnough_77 rfl ?_
    refine J_ic_lt (tgt := 85) dX6_cheapEnough_79 (by decide) (fun c => ?_) (fun c => ?_)
    · replace h := h.1 c
      refine J_lload dX6_cheapEnough_85 rfl ?_
      refine J_lconst 1 dX6_cheapEnough_87 (ll_c rfl) (by decide) ?_
      refine J_iload dX6_cheapEnough_88 rfl ?_
      refine J_lshl dX6_cheapEnough_90 ?_
      refine J_lor dX6_cheapEnough_91 ?_
      refine J_lstore dX6_cheapEnough_92 (by decide) ?_
      change J _ _ _ _ _ _ [(0, _), (1, _), (2, _), (4, _), (5, _), (6, _), (8, _), (9, _)] _ _ _
      refine J_iincN dX6_cheapEnough_94 rfl (by decide) h.1 ?_
      replace h := h.2
      change J _ _ _ _ _ _ [(0, _), (1, _), (2, _), (4, _), (5, _), (6, _), (8, _), (9, _)] _ _ _
      refine J_goto (tgt := 46) dX6_cheapEnough_97 (by decide) ?_
      exact J_loc (ls_sub [0, 1, 2, 3, 4, 5, 6] rfl) h
    · replace h := h.2 c
      refine J_goto (tgt := 100) dX6_cheapEnough_82 (by decide) ?_
      refine J_lload_n dX6_cheapEnough_100 rfl rfl ?_
      refine J_lload dX6_cheapEnough_101 rfl ?_
      refine J_land dX6_cheapEnough_103 ?_
      exact J_retl dX6_cheapEnough_104 rfl h
set_option maxRecDepth 20000 in
set_option maxHeartbeats 2000000 in
theorem bk_X6_carryOut_0 {d : Nat} {I : HI} {Q : Option AV → AH → Prop}   (h : J none mX6_carryOut (d + 1) 0 0 4 [(0, vR 477), (1, vI 0), (2, vI 0)] [] (mk I) Q) : J none mX6_carryOut (d + 1) 0 0 0 [(0, vR 477)] [] (mk I) Q := by
  refine J_iconst dX6_carryOut_0 (ii_c rfl) ?_
  refine J_istore_n dX6_carryOut_1 rfl (by decide) ?_
  change J _ _ _ _ _ _ [(0, _), (1, _)] _ _ _
  refine J_iconst dX6_carryOut_2 (ii_c rfl) ?_
  refine J_istore_n dX6_carryOut_3 rfl (by decide) ?_
  change J _ _ _ _ _ _ [(0, _), (1, _), (2, _)] _ _ _
  exact h
set_option maxRecDepth 20000 in
set_option maxHeartbeats 2000000 in
theorem bk_X6_carryOut_4 {d : Nat} {I : HI} {Q : Option AV → AH → Prop} {a1 : Int} {a2 : Int}  (h : (((I 477 7) ≤ a2 → Q (some (vI a1)) (mk I)) ∧ (¬ ((I 477 7) ≤ a2) → ((0 : Int) ≤ a2 ∧ (a2 : Int) < 4) ∧ ((0 : Int) ≤ (I 479 a2.toNat) ∧ (I 479 a2.toNat : Int) < 4) ∧ (((I 481 (I 479 a2.toNat).toNat) = 0 → (-2147483648 ≤ a2 + 1 ∧ a2 + 1 ≤ 2147483647) ∧ J none mX6_carryOut (d + 1) 0 0 4 [(0, vR 477), (1, vI a1), (2, vI (a2 + 1))] [] (mk I) Q) ∧ (¬ ((I 481 (I 479 a2.toNat).toNat) = 0) → ((0 : Int) ≤ (I 479 a2.toNat) ∧ (I 479 a2.toNat : Int) < 4) ∧ CV mX6_adopt d [vR 477, vI (I 479 a2.toNat), vI (I 481 (I 479 a2.toNat).toNat)] I (fun I1 => (-2147483648 ≤ a1 + 1 ∧ a1 + 1 ≤ 2147483647) ∧ (-2147483648 ≤ a2 + 1 ∧ a2 + 1 ≤ 2147483647) ∧ J none mX6_carryOut (d + 1) 0 0 4 [(0, vR 477), (1, vI (a1 + 1)), (2, vI (a2 + 1))] [] (mk I1) Q)))))) : J none mX6_carryOut (d + 1) 0 0 4 [(0, vR 477), (1, vI a1), (2, vI a2)] [] (mk I) Q := by
  refine J_iload_n dX6_carryOut_4 rfl rfl ?_
  refine J_aload_n dX6_carryOut_5 rfl rfl ?_
  refine J_getI dX6_carryOut_6 ck_6 fw_X6_59 rfl sh_477 ?_
  refine J_ic_ge (tgt := 48) dX6_carryOut_9 (by decide) (fun c => ?_) (fun c => ?_)
  · replace h := h.1 c
    refine J_iload_n dX6_carryOut_48 rfl rfl ?_
    exact J_reti dX6_carryOut_49 rfl h
  · replace h := h.2 c
    refine J_aload_n dX6_carryOut_12 rfl rfl ?_
    refine J_getR dX6_carryOut_13 ck_6 fw_X6_15 rfl sh_477 rr_477_4 ?_
    refine J_iload_n dX6_carryOut_16 rfl rfl ?_
    refine J_iald dX6_carryOut_17 sh_479 h.1.1 h.1.2 ?_
    replace h := h.2
    refine J_istore_n dX6_carryOut_18 rfl (by decide) ?_
    change J _ _ _ _ _ _ [(0, _), (1, _), (2, _), (3, _)] _ _ _
    refine J_aload_n dX6_carryOut_19 rfl rfl ?_
    refine J_getR dX6_carryOut_20 ck_6 fw_X6_22 rfl sh_477 rr_477_6 ?_
    refine J_iload_n dX6_carryOut_23 rfl rfl ?_
    refine J_iald dX6_carryOut_24 sh_481 h.1.1 h.1.2 ?_
    replace h := h.2
    refine J_if_eq (tgt := 42) dX6_carryOut_25 (by decide) (fun c => ?_) (fun c => ?_)
    · replace h := h.1 c
      refine J_iincN dX6_carryOut_42 rfl (by decide) h.1 ?_
      replace h := h.2
      change J _ _ _ _ _ _ [(0, _), (1, _), (2, _), (3, _)] _ _ _
      refine J_goto (tgt := 4) dX6_carryOut_45 (by decide) ?_
      exact J_loc (ls_sub [0, 1, 2] rfl) h
    · replace h := h.2 c
      refine J_aload_n dX6_carryOut_28 rfl rfl ?_
      refine J_iload_n dX6_carryOut_29 rfl rfl ?_
      refine J_aload_n dX6_carryOut_30 rfl rfl ?_
      refine J_getR dX6_carryOut_31 ck_6 fw_X6_22 rfl sh_477 rr_477_6 ?_
      refine J_iload_n dX6_carryOut_34 rfl rfl ?_
      refine J_iald dX6_carryOut_35 sh_481 h.1.1 h.1.2 ?_
      replace h := h.2
      refine J_callV (as := [_, _]) (mc1 := 0) (ms1 := 0) (mc := 0) (ms := 0) dX6_carryOut_36 mv_X6_adopt lk_X6_121 sh_477 rfl (Nat.le_of_ble_eq_true rfl) (Nat.le_of_ble_eq_true rfl) h (fun r σ hq _ => ?_)
      obtain ⟨I1, rfl, rfl, h⟩ := hq
      change J _ _ _ _ _ _ _ [] _ _
      refine J_iincN dX6_carryOut_39 rfl (by decide) h.1 ?_
      replace h := h.2
      change J _ _ _ _ _ _ [(0, _), (1, _), (2, _), (3, _)] _ _ _
      refine J_iincN dX6_carryOut_42 rfl (by decide) h.1 ?_
      replace h := h.2
      change J _ _ _ _ _ _ [(0, _), (1, _), (2, _), (3, _)] _ _ _
      refine J_goto (tgt := 4) dX6_carryOut_45 (by decide) ?_
      exact J_loc (ls_sub [0, 1, 2] rfl) h
set_option maxRecDepth 20000 in
set_option maxHeartbeats 2000000 in
theorem bk_X6_adopt_0 {d : Nat} {I : HI} {Q : Option AV → AH → Prop} {a1 : Int} {a2 : Int}  (h : CR mX5_trackOf d [vR 69, vI a1, vI a2] I (fun x1 kx1 I1 => CI mX5_lateOf d [vR 69, vI a2] I1 (fun x2 I2 => CV mX9_adopt d [vR 32, vI a1, vR x1, vI x2] I2 (fun I3 => Q none (mk I3))))) : J none mX6_adopt (d + 1) 0 0 0 [(0, vR 477), (1, vI a1), (2, vI a2)] [] (mk I) Q := by
  refine J_aload_n dX6_adopt_0 rfl rfl ?_
  refine J_getR dX6_adopt_1 ck_6 fw_X6_33 rfl sh_477 rr_477_1 ?_
  refine J_iload_n dX6_adopt_4 rfl rfl ?_
  refine J_aload_n dX6_adopt_5 rfl rfl ?_
  refine J_getR dX6_adopt_6 ck_6 fw_X6_37 rfl sh_477 rr_477_2 ?_
  refine J_iload_n dX6_adopt_9 rfl rfl ?_
  refine J_iload_n dX6_adopt_10 rfl rfl ?_
  refine J_callV (as := [_, _]) (mc1 := 0) (ms1 := 0) (mc := 0) (ms := 0) dX6_adopt_11 mv_X5_trackOf lk_X6_124 sh_69 rfl (Nat.le_of_ble_eq_true rfl) (Nat.le_of_ble_eq_true rfl) h (fun r σ hq _ => ?_)
  obtain ⟨x1, kx1, I1, rfl, rfl, hx1, h⟩ := hq
  change J _ _ _ _ _ _ _ [vR x1, _, _] _ _
  refine J_aload_n dX6_adopt_14 rfl rfl ?_
  refine J_getR dX6_adopt_15 ck_6 fw_X6_37 rfl sh_477 rr_477_2 ?_
  refine J_iload_n dX6_adopt_18 rfl rfl ?_
  refine J_callV (as := [_]) (mc1 := 0) (ms1 := 0) (mc := 0) (ms := 0) dX6_adopt_19 mv_X5_lateOf lk_X6_128 sh_69 rfl (Nat.le_of_ble_eq_true rfl) (Nat.le_of_ble_eq_true rfl) h (fun r σ hq _ => ?_)
  obtain ⟨x2, I2, rfl, rfl, h⟩ := hq
  change J _ _ _ _ _ _ _ [vI x2, vR x1, _, _] _ _
  refine J_callV (as := [_, _, _]) (mc1 := 0) (ms1 := 0) (mc := 0) (ms := 0) dX6_adopt_22 mv_X9_adopt lk_X6_132 sh_32 rfl (Nat.le_of_ble_eq_true rfl) (Nat.le_of_ble_eq_true rfl) h (fun r σ hq _ => ?_)
  obtain ⟨I3, rfl, rfl, h⟩ := hq
  change J _ _ _ _ _ _ _ [] _ _
  exact J_retv dX6_adopt_25 rfl h
set_option maxRecDepth 20000 in
set_option maxHeartbeats 2000000 in
theorem bk_X6_takeTurn_0 {d : Nat} {I : HI} {Q : Option AV → AH → Prop} {a1 : Int}  (h : CV mX5_prepare d [vR 69] I (fun I1 => ((0 : Int) ≤ a1 ∧ (a1 : Int) < 4) ∧ J none mX6_takeTurn (d + 1) 0 0 22 [(0, vR 477), (1, vI a1), (2, vR (37 + 5 * a1.toNat)), (3, vI (-1)), (4, vI 1)] [] (mk I1) Q)) : J none mX6_takeTurn (d + 1) 0 0 0 [(0, vR 477), (1, vI a1)] [] (mk I) Q := by
  refine J_aload_n dX6_takeTurn_0 rfl rfl ?_
  refine J_getR dX6_takeTurn_1 ck_6 fw_X6_37 rfl sh_477 rr_477_2 ?_
  refine J_callV (as := []) (mc1 := 0) (ms1 := 0) (mc := 0) (ms := 0) dX6_takeTurn_4 mv_X5_prepare lk_X6_41 sh_69 rfl (Nat.le_of_ble_eq_true rfl) (Nat.le_of_ble_eq_true rfl) h (fun r σ hq _ => ?_)
  obtain ⟨I1, rfl, rfl, h⟩ := hq
  change J _ _ _ _ _ _ _ [] _ _
  refine J_aload_n dX6_takeTurn_7 rfl rfl ?_
  refine J_getR dX6_takeTurn_8 ck_6 fw_X6_33 rfl sh_477 rr_477_1 ?_
  refine J_getR dX6_takeTurn_11 ck_9 fw_X6_135 rfl sh_32 rr_32_4 ?_
  refine J_iload_n dX6_takeTurn_14 rfl rfl ?_
  have hb2 := h.1
  refine J_aald dX6_takeTurn_15 sh_36 h.1.1 h.1.2 (RRw h.1.1 h.1.2) ?_
  replace h := h.2
  refine J_astore_n dX6_takeTurn_16 rfl (by decide) ?_
  change J _ _ _ _ _ _ [(0, _), (1, _), (2, _)] _ _ _
  refine J_iconst dX6_takeTurn_17 (ii_c rfl) ?_
  refine J_istore_n dX6_takeTurn_18 rfl (by decide) ?_
  change J _ _ _ _ _ _ [(0, _), (1, _), (2, _), (3, _)] _ _ _
  refine J_iconst dX6_takeTurn_19 (ii_c rfl) ?_
  refine J_istore dX6_takeTurn_20 (by decide) ?_
  change J _ _ _ _ _ _ [(0, _), (1, _), (2, _), (3, _), (4, _)] _ _ _
  exact h
set_option maxRecDepth 20000 in
set_option maxHeartbeats 2000000 in
theorem bk_X6_takeTurn_22 {d : Nat} {I : HI} {Q : Option AV → AH → Prop} {a1 : Int} {a2 ka2 : Nat} {a3 : Int} {a4 : Int} (ha2 : TR a2 ka2) (h : ((0 : Int) ≤ a1 ∧ (a1 : Int) < 4) ∧ (-2147483648 ≤ 3 * (I 71 a1.toNat) ∧ 3 * (I 71 a1.toNat) ≤ 2147483647) ∧ (((3 * (I 71 a1.toNat)) < a4 → J none mX6_takeTurn (d + 1) 0 0 79 [(0, vR 477), (1, vI a1), (2, vR a2), (3, vI a3), (4, vI a4)] [] (mk I) Q) ∧ (¬ ((3 * (I 71 a1.toNat)) < a4) → ((a3 ≠ (-1) → J none mX6_takeTurn (d + 1) 0 0 79 [(0, vR 477), (1, vI a1), (2, vR a2), (3, vI a3), (4, vI a4)] [] (mk I) Q) ∧ (a3 = (-1) → (-2147483648 ≤ a1 * 61 ∧ a1 * 61 ≤ 2147483647) ∧ (-2147483648 ≤ (a1 * 61) + a4 ∧ (a1 * 61) + a4 ≤ 2147483647) ∧ ((0 : Int) ≤ ((a1 * 61) + a4) ∧ ((a1 * 61) + a4 : Int) < 244) ∧ CI mX6_fitsWays d [vR 477, vI a1, vI (I 73 ((a1 * 61) + a4).toNat)] I (fun x1 I1 => ((x1 = 0 → (-2147483648 ≤ a4 + 1 ∧ a4 + 1 ≤ 2147483647) ∧ J none mX6_takeTurn (d + 1) 0 0 22 [(0, vR 477), (1, vI a1), (2, vR a2), (3, vI a3), (4, vI (a4 + 1))] [] (mk I1) Q) ∧ (¬ (x1 = 0) → (-2147483648 ≤ a4 + 1 ∧ a4 + 1 ≤ 2147483647) ∧ J none mX6_takeTurn (d + 1) 0 0 22 [(0, vR 477), (1, vI a1), (2, vR a2), (3, vI (I 73 ((a1 * 61) + a4).toNat)), (4, vI (a4 + 1))] [] (mk I1) Q)))))))) : J none mX6_takeTurn (d + 1) 0 0 22 [(0, vR 477), (1, vI a1), (2, vR a2), (3, vI a3), (4, vI a4)] [] (mk I) Q := by
  refine J_iload dX6_takeTurn_22 rfl ?_
  refine J_iconst dX6_takeTurn_24 (ii_c rfl) ?_
  refine J_aload_n dX6_takeTurn_25 rfl rfl ?_
  refine J_getR dX6_takeTurn_26 ck_6 fw_X6_37 rfl sh_477 rr_477_2 ?_
  refine J_getR dX6_takeTurn_29 ck_5 fw_X6_92 rfl sh_69 rr_69_5 ?_
  refine J_iload_n dX6_takeTurn_32 rfl rfl ?_
  refine J_iald dX6_takeTurn_33 sh_71 h.1.1 h.1.2 ?_
  replace h := h.2
  refine J_imulN dX6_takeTurn_34 h.1 ?_
  replace h := h.2
  refine J_ic_gt (tgt := 79) dX6_takeTurn_35 (by decide) (fun c => ?_) (fun c => ?_)
  · replace h := h.1 c
    exact h
  · replace h := h.2 c
    refine J_iload_n dX6_takeTurn_38 rfl rfl ?_
    refine J_iconst dX6_takeTurn_39 (ii_c rfl) ?_
    refine J_ic_ne (tgt := 79) dX6_takeTurn_40 (by decide) (fun c => ?_) (fun c => ?_)
    · replace h := h.1 c
      exact h
    · replace h := h.2 c
      refine J_aload_n dX6_takeTurn_43 rfl rfl ?_
      refine J_getR dX6_takeTurn_44 ck_6 fw_X6_37 rfl sh_477 rr_477_2 ?_
      refine J_getR dX6_takeTurn_47 ck_5 fw_X6_95 rfl sh_69 rr_69_7 ?_
      refine J_iload_n dX6_takeTurn_50 rfl rfl ?_
      refine J_bipush dX6_takeTurn_51 (ii_c rfl) (by decide) ?_
      refine J_imulN dX6_takeTurn_53 h.1 ?_
      replace h := h.2
      refine J_iload dX6_takeTurn_54 rfl ?_
      refine J_iaddN dX6_takeTurn_56 h.1 ?_
      replace h := h.2
      refine J_iald dX6_takeTurn_57 sh_73 h.1.1 h.1.2 ?_
      replace h := h.2
      refine J_istore dX6_takeTurn_58 (by decide) ?_
      change J _ _ _ _ _ _ [(0, _), (1, _), (2, _), (3, _), (4, _), (5, _)] _ _ _
      refine J_aload_n dX6_takeTurn_60 rfl rfl ?_
      refine J_iload_n dX6_takeTurn_61 rfl rfl ?_
      refine J_iload dX6_takeTurn_62 rfl ?_
      refine J_callV (as := [_, _]) (mc1 := 0) (ms1 := 0) (mc := 0) (ms := 0) dX6_takeTurn_64 mv_X6_fitsWays lk_X6_139 sh_477 rfl (Nat.le_of_ble_eq_true rfl) (Nat.le_of_ble_eq_true rfl) h (fun r σ hq _ => ?_)
      obtain ⟨x1, I1, rfl, rfl, h⟩ := hq
      change J _ _ _ _ _ _ _ [vI x1] _ _
      refine J_if_eq (tgt := 73) dX6_takeTurn_67 (by decide) (fun c => ?_) (fun c => ?_)
      · replace h := h.1 c
        refine J_iincN dX6_takeTurn_73 rfl (by decide) h.1 ?_
        replace h := h.2
        change J _ _ _ _ _ _ [(0, _), (1, _), (2, _), (3, _), (4, _), (5, _)] _ _ _
        refine J_goto (tgt := 22) dX6_takeTurn_76 (by decide) ?_
        exact J_loc (ls_sub [0, 1, 2, 3, 4] rfl) h
      · replace h := h.2 c
        refine J_iload dX6_takeTurn_70 rfl ?_
        refine J_istore_n dX6_takeTurn_72 rfl (by decide) ?_
        change J _ _ _ _ _ _ [(0, _), (1, _), (2, _), (3, _), (4, _), (5, _)] _ _ _
        refine J_iincN dX6_takeTurn_73 rfl (by decide) h.1 ?_
        replace h := h.2
        change J _ _ _ _ _ _ [(0, _), (1, _), (2, _), (3, _), (4, _), (5, _)] _ _ _
        refine J_goto (tgt := 22) dX6_takeTurn_76 (by decide) ?_
        exact J_loc (ls_sub [0, 1, 2, 3, 4] rfl) h
set_option maxRecDepth 20000 in
set_option maxHeartbeats 2000000 in
theorem bk_X6_takeTurn_79 {d : Nat} {I : HI} {Q : Option AV → AH → Prop} {a1 : Int} {a2 ka2 : Nat} {a3 : Int} {a4 : Int} (ha2 : TR a2 ka2) (h : ((a3 = (-1) → Q (some (vI 0)) (mk I)) ∧ (¬ (a3 = (-1)) → CI mX5_endOf d [vR 69, vI a1, vI a3] I (fun x1 I1 => ((x1 < (I1 a2 5) → CV mX6_adopt d [vR 477, vI a1, vI a3] I1 (fun I2 => Q (some (vI 1)) (mk I2))) ∧ (¬ (x1 < (I1 a2 5)) → (((I1 a2 7) = 0 → CV mX6_adopt d [vR 477, vI a1, vI a3] I1 (fun I3 => Q (some (vI 1)) (mk I3))) ∧ (¬ ((I1 a2 7) = 0) → CI mX9_blocked d [vR 32, vI a1] I1 (fun x4 I4 => ((x4 ≠ 0 → CV mX6_adopt d [vR 477, vI a1, vI a3] I4 (fun I5 => Q (some (vI 1)) (mk I5))) ∧ (x4 = 0 → CI mX6_fitsWays d [vR 477, vI a1, vI 0] I4 (fun x6 I6 => ((x6 ≠ 0 → Q (some (vI 0)) (mk I6)) ∧ (x6 = 0 → CV mX6_adopt d [vR 477, vI a1, vI a3] I6 (fun I7 => Q (some (vI 1)) (mk I7)))))))))))))))) : J none mX6_takeTurn (d + 1) 0 0 79 [(0, vR 477), (1, vI a1), (2, vR a2), (3, vI a3), (4, vI a4)] [] (mk I) Q := by
  refine J_iload_n dX6_takeTurn_79 rfl rfl ?_
  refine J_iconst dX6_takeTurn_80 (ii_c rfl) ?_
  refine J_ic_eq (tgt := 131) dX6_takeTurn_81 (by decide) (fun c => ?_) (fun c => ?_)
  · replace h := h.1 c
    refine J_iconst dX6_takeTurn_131 (ii_c rfl) ?_
    refine J_istore dX6_takeTurn_132 (by decide) ?_
    change J _ _ _ _ _ _ [(0, _), (1, _), (2, _), (3, _), (4, _)] _ _ _
    refine J_iload dX6_takeTurn_134 rfl ?_
    refine J_if_eq (tgt := 145) dX6_takeTurn_136 (by decide) (fun _ => ?_) (fun c => absurd (by decide) c)
    refine J_iload dX6_takeTurn_145 rfl ?_
    exact J_retz dX6_takeTurn_147 rfl (Or.inl rfl) h
  · replace h := h.2 c
    refine J_aload_n dX6_takeTurn_84 rfl rfl ?_
    refine J_getR dX6_takeTurn_85 ck_6 fw_X6_37 rfl sh_477 rr_477_2 ?_
    refine J_iload_n dX6_takeTurn_88 rfl rfl ?_
    refine J_iload_n dX6_takeTurn_89 rfl rfl ?_
    refine J_callV (as := [_, _]) (mc1 := 0) (ms1 := 0) (mc := 0) (ms := 0) dX6_takeTurn_90 mv_X5_endOf lk_X6_109 sh_69 rfl (Nat.le_of_ble_eq_true rfl) (Nat.le_of_ble_eq_true rfl) h (fun r σ hq _ => ?_)
    obtain ⟨x1, I1, rfl, rfl, h⟩ := hq
    change J _ _ _ _ _ _ _ [vI x1] _ _
    refine J_aload_n dX6_takeTurn_93 rfl rfl ?_
    refine J_getI dX6_takeTurn_94 ck_8 fw_X6_143 rfl ha2.1 ?_
    refine J_ic_lt (tgt := 127) dX6_takeTurn_97 (by decide) (fun c => ?_) (fun c => ?_)
    · replace h := h.1 c
      refine J_iconst dX6_takeTurn_127 (ii_c rfl) ?_
      refine J_goto (tgt := 132) dX6_takeTurn_128 (by decide) ?_
      refine J_istore dX6_takeTurn_132 (by decide) ?_
      change J _ _ _ _ _ _ [(0, _), (1, _), (2, _), (3, _), (4, _)] _ _ _
      refine J_iload dX6_takeTurn_134 rfl ?_
      refine J_if_eq (tgt := 145) dX6_takeTurn_136 (by decide) (fun c => absurd c (by decide)) (fun _ => ?_)
      refine J_aload_n dX6_takeTurn_139 rfl rfl ?_
      refine J_iload_n dX6_takeTurn_140 rfl rfl ?_
      refine J_iload_n dX6_takeTurn_141 rfl rfl ?_
      refine J_callV (as := [_, _]) (mc1 := 0) (ms1 := 0) (mc := 0) (ms := 0) dX6_takeTurn_142 mv_X6_adopt lk_X6_121 sh_477 rfl (Nat.le_of_ble_eq_true rfl) (Nat.le_of_ble_eq_true rfl) h (fun r σ hq _ => ?_)
      obtain ⟨I2, rfl, rfl, h⟩ := hq
      change J _ _ _ _ _ _ _ [] _ _
      refine J_iload dX6_takeTurn_145 rfl ?_
      exact J_retz dX6_takeTurn_147 rfl (Or.inr rfl) h
    · replace h := h.2 c
      refine J_aload_n dX6_takeTurn_100 rfl rfl ?_
      refine J_getI dX6_takeTurn_101 ck_8 fw_X6_148 rfl ha2.1 ?_
      refine J_if_eq (tgt := 127) dX6_takeTurn_104 (by decide) (fun c => ?_) (fun c => ?_)
      · replace h := h.1 c
        refine J_iconst dX6_takeTurn_127 (ii_c rfl) ?_
        refine J_goto (tgt := 132) dX6_takeTurn_128 (by decide) ?_
        refine J_istore dX6_takeTurn_132 (by decide) ?_
        change J _ _ _ _ _ _ [(0, _), (1, _), (2, _), (3, _), (4, _)] _ _ _
        refine J_iload dX6_takeTurn_134 rfl ?_
        refine J_if_eq (tgt := 145) dX6_takeTurn_136 (by decide) (fun c => absurd c (by decide)) (fun _ => ?_)
        refine J_aload_n dX6_takeTurn_139 rfl rfl ?_
        refine J_iload_n dX6_takeTurn_140 rfl rfl ?_
        refine J_iload_n dX6_takeTurn_141 rfl rfl ?_
        refine J_callV (as := [_, _]) (mc1 := 0) (ms1 := 0) (mc := 0) (ms := 0) dX6_takeTurn_142 mv_X6_adopt lk_X6_121 sh_477 rfl (Nat.le_of_ble_eq_true rfl) (Nat.le_of_ble_eq_true rfl) h (fun r σ hq _ => ?_)
        obtain ⟨I3, rfl, rfl, h⟩ := hq
        change J _ _ _ _ _ _ _ [] _ _
        refine J_iload dX6_takeTurn_145 rfl ?_
        exact J_retz dX6_takeTurn_147 rfl (Or.inr rfl) h
      · replace h := h.2 c
        refine J_aload_n dX6_takeTurn_107 rfl rfl ?_
        refine J_getR dX6_takeTurn_108 ck_6 fw_X6_33 rfl sh_477 rr_477_1 ?_
        refine J_iload_n dX6_takeTurn_111 rfl rfl ?_
        refine J_callV (as := [_]) (mc1 := 0) (ms1 := 0) (mc := 0) (ms := 0) dX6_takeTurn_112 mv_X9_blocked lk_X6_67 sh_32 rfl (Nat.le_of_ble_eq_true rfl) (Nat.le_of_ble_eq_true rfl) h (fun r σ hq _ => ?_)
        obtain ⟨x4, I4, rfl, rfl, h⟩ := hq
        change J _ _ _ _ _ _ _ [vI x4] _ _
        refine J_if_ne (tgt := 127) dX6_takeTurn_115 (by decide) (fun c => ?_) (fun c => ?_)
        · replace h := h.1 c
          refine J_iconst dX6_takeTurn_127 (ii_c rfl) ?_
          refine J_goto (tgt := 132) dX6_takeTurn_128 (by decide) ?_
          refine J_istore dX6_takeTurn_132 (by decide) ?_
          change J _ _ _ _ _ _ [(0, _), (1, _), (2, _), (3, _), (4, _)] _ _ _
          refine J_iload dX6_takeTurn_134 rfl ?_
          refine J_if_eq (tgt := 145) dX6_takeTurn_136 (by decide) (fun c => absurd c (by decide)) (fun _ => ?_)
          refine J_aload_n dX6_takeTurn_139 rfl rfl ?_
          refine J_iload_n dX6_takeTurn_140 rfl rfl ?_
          refine J_iload_n dX6_takeTurn_141 rfl rfl ?_
          refine J_callV (as := [_, _]) (mc1 := 0) (ms1 := 0) (mc := 0) (ms := 0) dX6_takeTurn_142 mv_X6_adopt lk_X6_121 sh_477 rfl (Nat.le_of_ble_eq_true rfl) (Nat.le_of_ble_eq_true rfl) h (fun r σ hq _ => ?_)
          obtain ⟨I5, rfl, rfl, h⟩ := hq
          change J _ _ _ _ _ _ _ [] _ _
          refine J_iload dX6_takeTurn_145 rfl ?_
          exact J_retz dX6_takeTurn_147 rfl (Or.inr rfl) h
        · replace h := h.2 c
          refine J_aload_n dX6_takeTurn_118 rfl rfl ?_
          refine J_iload_n dX6_takeTurn_119 rfl rfl ?_
          refine J_iconst dX6_takeTurn_120 (ii_c rfl) ?_
          refine J_callV (as := [_, _]) (mc1 := 0) (ms1 := 0) (mc := 0) (ms := 0) dX6_takeTurn_121 mv_X6_fitsWays lk_X6_139 sh_477 rfl (Nat.le_of_ble_eq_true rfl) (Nat.le_of_ble_eq_true rfl) h (fun r σ hq _ => ?_)
          obtain ⟨x6, I6, rfl, rfl, h⟩ := hq
          change J _ _ _ _ _ _ _ [vI x6] _ _
          refine J_if_ne (tgt := 131) dX6_takeTurn_124 (by decide) (fun c => ?_) (fun c => ?_)
          · replace h := h.1 c
            refine J_iconst dX6_takeTurn_131 (ii_c rfl) ?_
            refine J_istore dX6_takeTurn_132 (by decide) ?_
            change J _ _ _ _ _ _ [(0, _), (1, _), (2, _), (3, _), (4, _)] _ _ _
            refine J_iload dX6_takeTurn_134 rfl ?_
            refine J_if_eq (tgt := 145) dX6_takeTurn_136 (by decide) (fun _ => ?_) (fun c => absurd (by decide) c)
            refine J_iload dX6_takeTurn_145 rfl ?_
            exact J_retz dX6_takeTurn_147 rfl (Or.inl rfl) h
          · replace h := h.2 c
            refine J_iconst dX6_takeTurn_127 (ii_c rfl) ?_
            refine J_goto (tgt := 132) dX6_takeTurn_128 (by decide) ?_
            refine J_istore dX6_takeTurn_132 (by decide) ?_
            change J _ _ _ _ _ _ [(0, _), (1, _), (2, _), (3, _), (4, _)] _ _ _
            refine J_iload dX6_takeTurn_134 rfl ?_
            refine J_if_eq (tgt := 145) dX6_takeTurn_136 (by decide) (fun c => absurd c (by decide)) (fun _ => ?_)
            refine J_aload_n dX6_takeTurn_139 rfl rfl ?_
            refine J_iload_n dX6_takeTurn_140 rfl rfl ?_
            refine J_iload_n dX6_takeTurn_141 rfl rfl ?_
            refine J_callV (as := [_, _]) (mc1 := 0) (ms1 := 0) (mc := 0) (ms := 0) dX6_takeTurn_142 mv_X6_adopt lk_X6_121 sh_477 rfl (Nat.le_of_ble_eq_true rfl) (Nat.le_of_ble_eq_true rfl) h (fun r σ hq _ => ?_)
            obtain ⟨I7, rfl, rfl, h⟩ := hq
            change J _ _ _ _ _ _ _ [] _ _
            refine J_iload dX6_takeTurn_145 rfl ?_
            exact J_retz dX6_takeTurn_147 rfl (Or.inr rfl) h
set_option maxRecDepth 20000 in
set_option maxHeartbeats 2000000 in
theorem bk_X6_fitsWays_0 {d : Nat} {I : HI} {Q : Option AV → AH → Prop} {a1 : Int} {a2 : Int}  (h : J none mX6_fitsWays (d + 1) 0 0 2 [(0, vR 477), (1, vI a1), (2, vI a2), (3, vI 0)] [] (mk I) Q) : J none mX6_fitsWays (d + 1) 0 0 0 [(0, vR 477), (1, vI a1), (2, vI a2)] [] (mk I) Q := by
  refine J_iconst dX6_fitsWays_0 (ii_c rfl) ?_
  refine J_istore_n dX6_fitsWays_1 rfl (by decide) ?_
  change J _ _ _ _ _ _ [(0, _), (1, _), (2, _), (3, _)] _ _ _
  exact h
set_option maxRecDepth 20000 in
set_option maxHeartbeats 2000000 in
theorem bk_X6_fitsWays_2 {d : Nat} {I : HI} {Q : Option AV → AH → Prop} {a1 : Int} {a2 : Int} {a3 : Int}  (h : (((I 2 2) ≤ a3 → Q (some (vI 1)) (mk I)) ∧ (¬ ((I 2 2) ≤ a3) → ((a3 = a1 → (-2147483648 ≤ a3 + 1 ∧ a3 + 1 ≤ 2147483647) ∧ J none mX6_fitsWays (d + 1) 0 0 2 [(0, vR 477), (1, vI a1), (2, vI a2), (3, vI (a3 + 1))] [] (mk I) Q) ∧ (¬ (a3 = a1) → CL mX5_fitting d [vR 69, vI a1, vI a2, vI a3, vL 1] I (fun x1 I1 => ((x1 ≠ 0 → (-2147483648 ≤ a3 + 1 ∧ a3 + 1 ≤ 2147483647) ∧ J none mX6_fitsWays (d + 1) 0 0 2 [(0, vR 477), (1, vI a1), (2, vI a2), (3, vI (a3 + 1))] [] (mk I1) Q) ∧ (x1 = 0 → Q (some (vI 0)) (mk I1))))))))) : J none mX6_fitsWays (d + 1) 0 0 2 [(0, vR 477), (1, vI a1), (2, vI a2), (3, vI a3)] [] (mk I) Q := by
  refine J_iload_n dX6_fitsWays_2 rfl rfl ?_
  refine J_aload_n dX6_fitsWays_3 rfl rfl ?_
  refine J_getR dX6_fitsWays_4 ck_6 fw_X6_29 rfl sh_477 rr_477_0 ?_
  refine J_getR dX6_fitsWays_7 ck_0 fw_X6_62 rfl sh_1 rr_1_0 ?_
  refine J_iconst dX6_fitsWays_10 (ii_c rfl) ?_
  refine J_iald dX6_fitsWays_11 sh_2 (by decide) (by decide) ?_
  refine J_ic_ge (tgt := 44) dX6_fitsWays_12 (by decide) (fun c => ?_) (fun c => ?_)
  · replace h := h.1 c
    refine J_iconst dX6_fitsWays_44 (ii_c rfl) ?_
    exact J_retz dX6_fitsWays_45 rfl (Or.inr rfl) h
  · replace h := h.2 c
    refine J_iload_n dX6_fitsWays_15 rfl rfl ?_
    refine J_iload_n dX6_fitsWays_16 rfl rfl ?_
    refine J_ic_eq (tgt := 38) dX6_fitsWays_17 (by decide) (fun c => ?_) (fun c => ?_)
    · replace h := h.1 c
      refine J_iincN dX6_fitsWays_38 rfl (by decide) h.1 ?_
      replace h := h.2
      change J _ _ _ _ _ _ [(0, _), (1, _), (2, _), (3, _)] _ _ _
      refine J_goto (tgt := 2) dX6_fitsWays_41 (by decide) ?_
      exact h
    · replace h := h.2 c
      refine J_aload_n dX6_fitsWays_20 rfl rfl ?_
      refine J_getR dX6_fitsWays_21 ck_6 fw_X6_37 rfl sh_477 rr_477_2 ?_
      refine J_iload_n dX6_fitsWays_24 rfl rfl ?_
      refine J_iload_n dX6_fitsWays_25 rfl rfl ?_
      refine J_iload_n dX6_fitsWays_26 rfl rfl ?_
      refine J_lconst 1 dX6_fitsWays_27 (ll_c rfl) (by decide) ?_
      refine J_callV (as := [_, _, _, _]) (mc1 := 0) (ms1 := 0) (mc := 0) (ms := 0) dX6_fitsWays_28 mv_X5_fitting lk_X6_105 sh_69 rfl (Nat.le_of_ble_eq_true rfl) (Nat.le_of_ble_eq_true rfl) h (fun r σ hq _ => ?_)
      obtain ⟨x1, I1, rfl, rfl, h⟩ := hq
      change J _ _ _ _ _ _ _ [vL x1] _ _
      refine J_lconst 0 dX6_fitsWays_31 (ll_c rfl) (by decide) ?_
      refine J_lcmp dX6_fitsWays_32 ?_
      refine J_if_ne (tgt := 38) dX6_fitsWays_33 (by decide) (fun c => ?_) (fun c => ?_)
      · replace h := h.1 (fun w => c (lC_eq.mpr w))
        refine J_iincN dX6_fitsWays_38 rfl (by decide) h.1 ?_
        replace h := h.2
        change J _ _ _ _ _ _ [(0, _), (1, _), (2, _), (3, _)] _ _ _
        refine J_goto (tgt := 2) dX6_fitsWays_41 (by decide) ?_
        exact h
      · replace h := h.2 (lC_eq.mp c)
        refine J_iconst dX6_fitsWays_36 (ii_c rfl) ?_
        exact J_retz dX6_fitsWays_37 rfl (Or.inl rfl) h
set_option maxRecDepth 20000 in
set_option maxHeartbeats 2000000 in
theorem bk_X6_drawOrder_0 {d : Nat} {I : HI} {Q : Option AV → AH → Prop} {a1 : Int}  (h : (∀ I1 : HI, I1 = up I 477 7 (I 2 2) → J none mX6_drawOrder (d + 1) 0 0 17 [(0, vR 477), (1, vI a1), (2, vI 0), (3, vI 0)] [] (mk I1) Q)) : J none mX6_drawOrder (d + 1) 0 0 0 [(0, vR 477), (1, vI a1)] [] (mk I) Q := by
  refine J_iconst dX6_drawOrder_0 (ii_c rfl) ?_
  refine J_istore_n dX6_drawOrder_1 rfl (by decide) ?_
  change J _ _ _ _ _ _ [(0, _), (1, _), (2, _)] _ _ _
  refine J_aload_n dX6_drawOrder_2 rfl rfl ?_
  refine J_aload_n dX6_drawOrder_3 rfl rfl ?_
  refine J_getR dX6_drawOrder_4 ck_6 fw_X6_29 rfl sh_477 rr_477_0 ?_
  refine J_getR dX6_drawOrder_7 ck_0 fw_X6_62 rfl sh_1 rr_1_0 ?_
  refine J_iconst dX6_drawOrder_10 (ii_c rfl) ?_
  refine J_iald dX6_drawOrder_11 sh_2 (by decide) (by decide) ?_
  refine J_putI dX6_drawOrder_12 ck_6 fw_X6_59 rfl rfl (Or.inl rfl) sh_477 ?_
  replace h := h _ rfl
  refine J_iconst dX6_drawOrder_15 (ii_c rfl) ?_
  refine J_istore_n dX6_drawOrder_16 rfl (by decide) ?_
  change J _ _ _ _ _ _ [(0, _), (1, _), (2, _), (3, _)] _ _ _
  exact h
set_option maxRecDepth 20000 in
set_option maxHeartbeats 2000000 in
theorem bk_X6_drawOrder_17 {d : Nat} {I : HI} {Q : Option AV → AH → Prop} {a1 : Int} {a2 : Int} {a3 : Int}  (h : (((I 477 7) ≤ a3 → (∀ I1 : HI, I1 = up I 477 11 (-1) → (-2147483648 ≤ 2 * (I1 477 7) ∧ 2 * (I1 477 7) ≤ 2147483647) ∧ (((oSr a1 (2 * (I1 477 7))) ≠ 0 → Q (some (vI 0)) (mk I1)) ∧ ((oSr a1 (2 * (I1 477 7))) = 0 → (-2147483648 ≤ (oSl 1 (I1 477 7)) - 1 ∧ (oSl 1 (I1 477 7)) - 1 ≤ 2147483647) ∧ ((a2 ≠ ((oSl 1 (I1 477 7)) - 1) → Q (some (vI 0)) (mk I1)) ∧ (a2 = ((oSl 1 (I1 477 7)) - 1) → Q (some (vI 1)) (mk I1))))))) ∧ (¬ ((I 477 7) ≤ a3) → (-2147483648 ≤ 2 * a3 ∧ 2 * a3 ≤ 2147483647) ∧ ((0 : Int) ≤ a3 ∧ (a3 : Int) < 4) ∧ (∀ I2 : HI, I2 = up I 479 a3.toNat (oA (oSr a1 (2 * a3)) 3) → ((0 : Int) ≤ a3 ∧ (a3 : Int) < 4) ∧ (-2147483648 ≤ a3 + 1 ∧ a3 + 1 ≤ 2147483647) ∧ J none mX6_drawOrder (d + 1) 0 0 17 [(0, vR 477), (1, vI a1), (2, vI (oO a2 (oSl 1 (I2 479 a3.toNat)))), (3, vI (a3 + 1))] [] (mk I2) Q)))) : J none mX6_drawOrder (d + 1) 0 0 17 [(0, vR 477), (1, vI a1), (2, vI a2), (3, vI a3)] [] (mk I) Q := by
  refine J_iload_n dX6_drawOrder_17 rfl rfl ?_
  refine J_aload_n dX6_drawOrder_18 rfl rfl ?_
  refine J_getI dX6_drawOrder_19 ck_6 fw_X6_59 rfl sh_477 ?_
  refine J_ic_ge (tgt := 55) dX6_drawOrder_22 (by decide) (fun c => ?_) (fun c => ?_)
  · replace h := h.1 c
    refine J_aload_n dX6_drawOrder_55 rfl rfl ?_
    refine J_iconst dX6_drawOrder_56 (ii_c rfl) ?_
    refine J_putI dX6_drawOrder_57 ck_6 fw_X6_25 rfl rfl (Or.inl rfl) sh_477 ?_
    replace h := h _ rfl
    refine J_iload_n dX6_drawOrder_60 rfl rfl ?_
    refine J_iconst dX6_drawOrder_61 (ii_c rfl) ?_
    refine J_aload_n dX6_drawOrder_62 rfl rfl ?_
    refine J_getI dX6_drawOrder_63 ck_6 fw_X6_59 rfl sh_477 ?_
    refine J_imulN dX6_drawOrder_66 h.1 ?_
    replace h := h.2
    refine J_ishr dX6_drawOrder_67 ?_
    refine J_if_ne (tgt := 87) dX6_drawOrder_68 (by decide) (fun c => ?_) (fun c => ?_)
    · replace h := h.1 c
      refine J_iconst dX6_drawOrder_87 (ii_c rfl) ?_
      exact J_retz dX6_drawOrder_88 rfl (Or.inl rfl) h
    · replace h := h.2 c
      refine J_iload_n dX6_drawOrder_71 rfl rfl ?_
      refine J_iconst dX6_drawOrder_72 (ii_c rfl) ?_
      refine J_aload_n dX6_drawOrder_73 rfl rfl ?_
      refine J_getI dX6_drawOrder_74 ck_6 fw_X6_59 rfl sh_477 ?_
      refine J_ishl dX6_drawOrder_77 ?_
      refine J_iconst dX6_drawOrder_78 (ii_c rfl) ?_
      refine J_isubN dX6_drawOrder_79 h.1 ?_
      replace h := h.2
      refine J_ic_ne (tgt := 87) dX6_drawOrder_80 (by decide) (fun c => ?_) (fun c => ?_)
      · replace h := h.1 c
        refine J_iconst dX6_drawOrder_87 (ii_c rfl) ?_
        exact J_retz dX6_drawOrder_88 rfl (Or.inl rfl) h
      · replace h := h.2 c
        refine J_iconst dX6_drawOrder_83 (ii_c rfl) ?_
        refine J_goto (tgt := 88) dX6_drawOrder_84 (by decide) ?_
        exact J_retz dX6_drawOrder_88 rfl (Or.inr rfl) h
  · replace h := h.2 c
    refine J_aload_n dX6_drawOrder_25 rfl rfl ?_
    refine J_getR dX6_drawOrder_26 ck_6 fw_X6_15 rfl sh_477 rr_477_4 ?_
    refine J_iload_n dX6_drawOrder_29 rfl rfl ?_
    refine J_iload_n dX6_drawOrder_30 rfl rfl ?_
    refine J_iconst dX6_drawOrder_31 (ii_c rfl) ?_
    refine J_iload_n dX6_drawOrder_32 rfl rfl ?_
    refine J_imulN dX6_drawOrder_33 h.1 ?_
    replace h := h.2
    refine J_ishr dX6_drawOrder_34 ?_
    refine J_iconst dX6_drawOrder_35 (ii_c rfl) ?_
    refine J_iand dX6_drawOrder_36 ?_
    refine J_iast dX6_drawOrder_37 sh_479 h.1.1 h.1.2 ?_
    replace h := h.2 _ rfl
    refine J_iload_n dX6_drawOrder_38 rfl rfl ?_
    refine J_iconst dX6_drawOrder_39 (ii_c rfl) ?_
    refine J_aload_n dX6_drawOrder_40 rfl rfl ?_
    refine J_getR dX6_drawOrder_41 ck_6 fw_X6_15 rfl sh_477 rr_477_4 ?_
    refine J_iload_n dX6_drawOrder_44 rfl rfl ?_
    refine J_iald dX6_drawOrder_45 sh_479 h.1.1 h.1.2 ?_
    replace h := h.2
    refine J_ishl dX6_drawOrder_46 ?_
    refine J_ior dX6_drawOrder_47 ?_
    refine J_istore_n dX6_drawOrder_48 rfl (by decide) ?_
    change J _ _ _ _ _ _ [(0, _), (1, _), (2, _), (3, _)] _ _ _
    refine J_iincN dX6_drawOrder_49 rfl (by decide) h.1 ?_
    replace h := h.2
    change J _ _ _ _ _ _ [(0, _), (1, _), (2, _), (3, _)] _ _ _
    refine J_goto (tgt := 17) dX6_drawOrder_52 (by decide) ?_
    exact h
set_option maxRecDepth 20000 in
set_option maxHeartbeats 2000000 in
theorem bk_X6_luckyIn_0 {d : Nat} {I : HI} {Q : Option AV → AH → Prop} {a1 : Int}  (h : CV mX5_prepare d [vR 69] I (fun I1 => J none mX6_luckyIn (d + 1) 0 0 9 [(0, vR 477), (1, vI a1), (2, vI 0)] [] (mk I1) Q)) : J none mX6_luckyIn (d + 1) 0 0 0 [(0, vR 477), (1, vI a1)] [] (mk I) Q := by
  refine J_aload_n dX6_luckyIn_0 rfl rfl ?_
  refine J_getR dX6_luckyIn_1 ck_6 fw_X6_37 rfl sh_477 rr_477_2 ?_
  refine J_callV (as := []) (mc1 := 0) (ms1 := 0) (mc := 0) (ms := 0) dX6_luckyIn_4 mv_X5_prepare lk_X6_41 sh_69 rfl (Nat.le_of_ble_eq_true rfl) (Nat.le_of_ble_eq_true rfl) h (fun r σ hq _ => ?_)
  obtain ⟨I1, rfl, rfl, h⟩ := hq
  change J _ _ _ _ _ _ _ [] _ _
  refine J_iconst dX6_luckyIn_7 (ii_c rfl) ?_
  refine J_istore_n dX6_luckyIn_8 rfl (by decide) ?_
  change J _ _ _ _ _ _ [(0, _), (1, _), (2, _)] _ _ _
  exact h
set_option maxRecDepth 20000 in
set_option maxHeartbeats 2000000 in
theorem bk_X6_luckyIn_9 {d : Nat} {I : HI} {Q : Option AV → AH → Prop} {a1 : Int} {a2 : Int}  (h : (((I 477 7) ≤ a2 → Q (some (vI 0)) (mk I)) ∧ (¬ ((I 477 7) ≤ a2) → CI mX6_pick d [vR 477, vI a2] I (fun x1 I1 => ((0 : Int) ≤ a2 ∧ (a2 : Int) < 4) ∧ (∀ I2 : HI, I2 = up I1 480 a2.toNat x1 → ((0 : Int) ≤ a2 ∧ (a2 : Int) < 4) ∧ (((I2 479 a2.toNat) ≠ a1 → (-2147483648 ≤ a2 + 1 ∧ a2 + 1 ≤ 2147483647) ∧ J none mX6_luckyIn (d + 1) 0 0 9 [(0, vR 477), (1, vI a1), (2, vI (a2 + 1))] [] (mk I2) Q) ∧ ((I2 479 a2.toNat) = a1 → (-2147483648 ≤ a1 * 61 ∧ a1 * 61 ≤ 2147483647) ∧ (-2147483648 ≤ (a1 * 61) + 1 ∧ (a1 * 61) + 1 ≤ 2147483647) ∧ ((0 : Int) ≤ ((a1 * 61) + 1) ∧ ((a1 * 61) + 1 : Int) < 244) ∧ ((0 : Int) ≤ a2 ∧ (a2 : Int) < 4) ∧ (((I2 480 a2.toNat) = (-1) → Q (some (vI 0)) (mk I2)) ∧ (¬ ((I2 480 a2.toNat) = (-1)) → ((0 : Int) ≤ a2 ∧ (a2 : Int) < 4) ∧ CI mX5_endOf d [vR 69, vI a1, vI (I2 480 a2.toNat)] I2 (fun x2 I3 => CI mX5_endOf d [vR 69, vI a1, vI (I2 73 ((a1 * 61) + 1).toNat)] I3 (fun x3 I4 => ((x2 ≠ x3 → Q (some (vI 0)) (mk I4)) ∧ (x2 = x3 → Q (some (vI 1)) (mk I4)))))))))))))) : J none mX6_luckyIn (d + 1) 0 0 9 [(0, vR 477), (1, vI a1), (2, vI a2)] [] (mk I) Q := by
  refine J_iload_n dX6_luckyIn_9 rfl rfl ?_
  refine J_aload_n dX6_luckyIn_10 rfl rfl ?_
  refine J_getI dX6_luckyIn_11 ck_6 fw_X6_59 rfl sh_477 ?_
  refine J_ic_ge (tgt := 101) dX6_luckyIn_14 (by decide) (fun c => ?_) (fun c => ?_)
  · replace h := h.1 c
    refine J_iconst dX6_luckyIn_101 (ii_c rfl) ?_
    exact J_retz dX6_luckyIn_102 rfl (Or.inl rfl) h
  · replace h := h.2 c
    refine J_aload_n dX6_luckyIn_17 rfl rfl ?_
    refine J_getR dX6_luckyIn_18 ck_6 fw_X6_19 rfl sh_477 rr_477_5 ?_
    refine J_iload_n dX6_luckyIn_21 rfl rfl ?_
    refine J_aload_n dX6_luckyIn_22 rfl rfl ?_
    refine J_iload_n dX6_luckyIn_23 rfl rfl ?_
    refine J_callV (as := [_]) (mc1 := 0) (ms1 := 0) (mc := 0) (ms := 0) dX6_luckyIn_24 mv_X6_pick lk_X6_151 sh_477 rfl (Nat.le_of_ble_eq_true rfl) (Nat.le_of_ble_eq_true rfl) h (fun r σ hq _ => ?_)
    obtain ⟨x1, I1, rfl, rfl, h⟩ := hq
    change J _ _ _ _ _ _ _ [vI x1, _, _] _ _
    refine J_iast dX6_luckyIn_27 sh_480 h.1.1 h.1.2 ?_
    replace h := h.2 _ rfl
    refine J_aload_n dX6_luckyIn_28 rfl rfl ?_
    refine J_getR dX6_luckyIn_29 ck_6 fw_X6_15 rfl sh_477 rr_477_4 ?_
    refine J_iload_n dX6_luckyIn_32 rfl rfl ?_
    refine J_iald dX6_luckyIn_33 sh_479 h.1.1 h.1.2 ?_
    replace h := h.2
    refine J_iload_n dX6_luckyIn_34 rfl rfl ?_
    refine J_ic_ne (tgt := 95) dX6_luckyIn_35 (by decide) (fun c => ?_) (fun c => ?_)
    · replace h := h.1 c
      refine J_iincN dX6_luckyIn_95 rfl (by decide) h.1 ?_
      replace h := h.2
      change J _ _ _ _ _ _ [(0, _), (1, _), (2, _)] _ _ _
      refine J_goto (tgt := 9) dX6_luckyIn_98 (by decide) ?_
      exact h
    · replace h := h.2 c
      refine J_aload_n dX6_luckyIn_38 rfl rfl ?_
      refine J_getR dX6_luckyIn_39 ck_6 fw_X6_37 rfl sh_477 rr_477_2 ?_
      refine J_getR dX6_luckyIn_42 ck_5 fw_X6_95 rfl sh_69 rr_69_7 ?_
      refine J_iload_n dX6_luckyIn_45 rfl rfl ?_
      refine J_bipush dX6_luckyIn_46 (ii_c rfl) (by decide) ?_
      refine J_imulN dX6_luckyIn_48 h.1 ?_
      replace h := h.2
      refine J_iconst dX6_luckyIn_49 (ii_c rfl) ?_
      refine J_iaddN dX6_luckyIn_50 h.1 ?_
      replace h := h.2
      refine J_iald dX6_luckyIn_51 sh_73 h.1.1 h.1.2 ?_
      replace h := h.2
      refine J_istore_n dX6_luckyIn_52 rfl (by decide) ?_
      change J _ _ _ _ _ _ [(0, _), (1, _), (2, _), (3, _)] _ _ _
      refine J_aload_n dX6_luckyIn_53 rfl rfl ?_
      refine J_getR dX6_luckyIn_54 ck_6 fw_X6_19 rfl sh_477 rr_477_5 ?_
      refine J_iload_n dX6_luckyIn_57 rfl rfl ?_
      refine J_iald dX6_luckyIn_58 sh_480 h.1.1 h.1.2 ?_
      replace h := h.2
      refine J_iconst dX6_luckyIn_59 (ii_c rfl) ?_
      refine J_ic_eq (tgt := 93) dX6_luckyIn_60 (by decide) (fun c => ?_) (fun c => ?_)
      · replace h := h.1 c
        refine J_iconst dX6_luckyIn_93 (ii_c rfl) ?_
        exact J_retz dX6_luckyIn_94 rfl (Or.inl rfl) h
      · replace h := h.2 c
        refine J_aload_n dX6_luckyIn_63 rfl rfl ?_
        refine J_getR dX6_luckyIn_64 ck_6 fw_X6_37 rfl sh_477 rr_477_2 ?_
        refine J_iload_n dX6_luckyIn_67 rfl rfl ?_
        refine J_aload_n dX6_luckyIn_68 rfl rfl ?_
        refine J_getR dX6_luckyIn_69 ck_6 fw_X6_19 rfl sh_477 rr_477_5 ?_
        refine J_iload_n dX6_luckyIn_72 rfl rfl ?_
        refine J_iald dX6_luckyIn_73 sh_480 h.1.1 h.1.2 ?_
        replace h := h.2
        refine J_callV (as := [_, _]) (mc1 := 0) (ms1 := 0) (mc := 0) (ms := 0) dX6_luckyIn_74 mv_X5_endOf lk_X6_109 sh_69 rfl (Nat.le_of_ble_eq_true rfl) (Nat.le_of_ble_eq_true rfl) h (fun r σ hq _ => ?_)
        obtain ⟨x2, I3, rfl, rfl, h⟩ := hq
        change J _ _ _ _ _ _ _ [vI x2] _ _
        refine J_aload_n dX6_luckyIn_77 rfl rfl ?_
        refine J_getR dX6_luckyIn_78 ck_6 fw_X6_37 rfl sh_477 rr_477_2 ?_
        refine J_iload_n dX6_luckyIn_81 rfl rfl ?_
        refine J_iload_n dX6_luckyIn_82 rfl rfl ?_
        refine J_callV (as := [_, _]) (mc1 := 0) (ms1 := 0) (mc := 0) (ms := 0) dX6_luckyIn_83 mv_X5_endOf lk_X6_109 sh_69 rfl (Nat.le_of_ble_eq_true rfl) (Nat.le_of_ble_eq_true rfl) h (fun r σ hq _ => ?_)
        obtain ⟨x3, I4, rfl, rfl, h⟩ := hq
        change J _ _ _ _ _ _ _ [vI x3, vI x2] _ _
        refine J_ic_ne (tgt := 93) dX6_luckyIn_86 (by decide) (fun c => ?_) (fun c => ?_)
        · replace h := h.1 c
          refine J_iconst dX6_luckyIn_93 (ii_c rfl) ?_
          exact J_retz dX6_luckyIn_94 rfl (Or.inl rfl) h
        · replace h := h.2 c
          refine J_iconst dX6_luckyIn_89 (ii_c rfl) ?_
          refine J_goto (tgt := 94) dX6_luckyIn_90 (by decide) ?_
          exact J_retz dX6_luckyIn_94 rfl (Or.inr rfl) h
set_option maxRecDepth 20000 in
set_option maxHeartbeats 2000000 in
theorem bk_X6_pick_0 {d : Nat} {I : HI} {Q : Option AV → AH → Prop} {a1 : Int}  (h : ((0 : Int) ≤ a1 ∧ (a1 : Int) < 4) ∧ J none mX6_pick (d + 1) 0 0 9 [(0, vR 477), (1, vI a1), (2, vI (I 479 a1.toNat)), (3, vI 1)] [] (mk I) Q) : J none mX6_pick (d + 1) 0 0 0 [(0, vR 477), (1, vI a1)] [] (mk I) Q := by
  refine J_aload_n dX6_pick_0 rfl rfl ?_
  refine J_getR dX6_pick_1 ck_6 fw_X6_15 rfl sh_477 rr_477_4 ?_
  refine J_iload_n dX6_pick_4 rfl rfl ?_
  refine J_iald dX6_pick_5 sh_479 h.1.1 h.1.2 ?_
  replace h := h.2
  refine J_istore_n dX6_pick_6 rfl (by decide) ?_
  change J _ _ _ _ _ _ [(0, _), (1, _), (2, _)] _ _ _
  refine J_iconst dX6_pick_7 (ii_c rfl) ?_
  refine J_istore_n dX6_pick_8 rfl (by decide) ?_
  change J _ _ _ _ _ _ [(0, _), (1, _), (2, _), (3, _)] _ _ _
  exact h
set_option maxRecDepth 20000 in
set_option maxHeartbeats 2000000 in
theorem bk_X6_pick_9 {d : Nat} {I : HI} {Q : Option AV → AH → Prop} {a1 : Int} {a2 : Int} {a3 : Int}  (h : ((0 : Int) ≤ a2 ∧ (a2 : Int) < 4) ∧ (-2147483648 ≤ 3 * (I 71 a2.toNat) ∧ 3 * (I 71 a2.toNat) ≤ 2147483647) ∧ (((3 * (I 71 a2.toNat)) < a3 → Q (some (vI (-1))) (mk I)) ∧ (¬ ((3 * (I 71 a2.toNat)) < a3) → (-2147483648 ≤ a2 * 61 ∧ a2 * 61 ≤ 2147483647) ∧ (-2147483648 ≤ (a2 * 61) + a3 ∧ (a2 * 61) + a3 ≤ 2147483647) ∧ ((0 : Int) ≤ ((a2 * 61) + a3) ∧ ((a2 * 61) + a3 : Int) < 244) ∧ J none mX6_pick (d + 1) 0 0 46 [(0, vR 477), (1, vI a1), (2, vI a2), (3, vI a3), (4, vI (I 73 ((a2 * 61) + a3).toNat)), (5, vI 1), (6, vI 0)] [] (mk I) Q))) : J none mX6_pick (d + 1) 0 0 9 [(0, vR 477), (1, vI a1), (2, vI a2), (3, vI a3)] [] (mk I) Q := by
  refine J_iload_n dX6_pick_9 rfl rfl ?_
  refine J_iconst dX6_pick_10 (ii_c rfl) ?_
  refine J_aload_n dX6_pick_11 rfl rfl ?_
  refine J_getR dX6_pick_12 ck_6 fw_X6_37 rfl sh_477 rr_477_2 ?_
  refine J_getR dX6_pick_15 ck_5 fw_X6_92 rfl sh_69 rr_69_5 ?_
  refine J_iload_n dX6_pick_18 rfl rfl ?_
  refine J_iald dX6_pick_19 sh_71 h.1.1 h.1.2 ?_
  replace h := h.2
  refine J_imulN dX6_pick_20 h.1 ?_
  replace h := h.2
  refine J_ic_gt (tgt := 126) dX6_pick_21 (by decide) (fun c => ?_) (fun c => ?_)
  · replace h := h.1 c
    refine J_iconst dX6_pick_126 (ii_c rfl) ?_
    exact J_reti dX6_pick_127 rfl h
  · replace h := h.2 c
    refine J_aload_n dX6_pick_24 rfl rfl ?_
    refine J_getR dX6_pick_25 ck_6 fw_X6_37 rfl sh_477 rr_477_2 ?_
    refine J_getR dX6_pick_28 ck_5 fw_X6_95 rfl sh_69 rr_69_7 ?_
    refine J_iload_n dX6_pick_31 rfl rfl ?_
    refine J_bipush dX6_pick_32 (ii_c rfl) (by decide) ?_
    refine J_imulN dX6_pick_34 h.1 ?_
    replace h := h.2
    refine J_iload_n dX6_pick_35 rfl rfl ?_
    refine J_iaddN dX6_pick_36 h.1 ?_
    replace h := h.2
    refine J_iald dX6_pick_37 sh_73 h.1.1 h.1.2 ?_
    replace h := h.2
    refine J_istore dX6_pick_38 (by decide) ?_
    change J _ _ _ _ _ _ [(0, _), (1, _), (2, _), (3, _), (4, _)] _ _ _
    refine J_iconst dX6_pick_40 (ii_c rfl) ?_
    refine J_istore dX6_pick_41 (by decide) ?_
    change J _ _ _ _ _ _ [(0, _), (1, _), (2, _), (3, _), (4, _), (5, _)] _ _ _
    refine J_iconst dX6_pick_43 (ii_c rfl) ?_
    refine J_istore dX6_pick_44 (by decide) ?_
    change J _ _ _ _ _ _ [(0, _), (1, _), (2, _), (3, _), (4, _), (5, _), (6, _)] _ _ _
    exact h
set_option maxRecDepth 20000 in
set_option maxHeartbeats 2000000 in
theorem bk_X6_pick_46 {d : Nat} {I : HI} {Q : Option AV → AH → Prop} {a1 : Int} {a2 : Int} {a3 : Int} {a4 : Int} {a5 : Int} {a6 : Int}  (h : ((a1 ≤ a6 → ((a5 = 0 → (-2147483648 ≤ a3 + 1 ∧ a3 + 1 ≤ 2147483647) ∧ J none mX6_pick (d + 1) 0 0 9 [(0, vR 477), (1, vI a1), (2, vI a2), (3, vI (a3 + 1))] [] (mk I) Q) ∧ (¬ (a5 = 0) → Q (some (vI a4)) (mk I)))) ∧ (¬ (a1 ≤ a6) → ((a5 = 0 → ((a5 = 0 → (-2147483648 ≤ a3 + 1 ∧ a3 + 1 ≤ 2147483647) ∧ J none mX6_pick (d + 1) 0 0 9 [(0, vR 477), (1, vI a1), (2, vI a2), (3, vI (a3 + 1))] [] (mk I) Q) ∧ (¬ (a5 = 0) → Q (some (vI a4)) (mk I)))) ∧ (¬ (a5 = 0) → ((0 : Int) ≤ a6 ∧ (a6 : Int) < 4) ∧ (((I 480 a6.toNat) = (-1) → (-2147483648 ≤ a6 + 1 ∧ a6 + 1 ≤ 2147483647) ∧ J none mX6_pick (d + 1) 0 0 46 [(0, vR 477), (1, vI a1), (2, vI a2), (3, vI a3), (4, vI a4), (5, vI 1), (6, vI (a6 + 1))] [] (mk I) Q) ∧ (¬ ((I 480 a6.toNat) = (-1)) → ((0 : Int) ≤ a6 ∧ (a6 : Int) < 4) ∧ ((0 : Int) ≤ a6 ∧ (a6 : Int) < 4) ∧ CL mX5_fitting d [vR 69, vI (I 479 a6.toNat), vI (I 480 a6.toNat), vI a2, vL (lSl 1 a4)] I (fun x1 I1 => ((x1 = 0 → (-2147483648 ≤ a6 + 1 ∧ a6 + 1 ≤ 2147483647) ∧ J none mX6_pick (d + 1) 0 0 46 [(0, vR 477), (1, vI a1), (2, vI a2), (3, vI a3), (4, vI a4), (5, vI 0), (6, vI (a6 + 1))] [] (mk I1) Q) ∧ (¬ (x1 = 0) → (-2147483648 ≤ a6 + 1 ∧ a6 + 1 ≤ 2147483647) ∧ J none mX6_pick (d + 1) 0 0 46 [(0, vR 477), (1, vI a1), (2, vI a2), (3, vI a3), (4, vI a4), (5, vI 1), (6, vI (a6 + 1))] [] (mk I1) Q)))))))))) : J none mX6_pick (d + 1) 0 0 46 [(0, vR 477), (1, vI a1), (2, vI a2), (3, vI a3), (4, vI a4), (5, vI a5), (6, vI a6)] [] (mk I) Q := by
  refine J_iload dX6_pick_46 rfl ?_
  refine J_iload_n dX6_pick_48 rfl rfl ?_
  refine J_ic_ge (tgt := 112) dX6_pick_49 (by decide) (fun c => ?_) (fun c => ?_)
  · replace h := h.1 c
    refine J_iload dX6_pick_112 rfl ?_
    refine J_if_eq (tgt := 120) dX6_pick_114 (by decide) (fun c => ?_) (fun c => ?_)
    · replace h := h.1 c
      refine J_iincN dX6_pick_120 rfl (by decide) h.1 ?_
      replace h := h.2
      change J _ _ _ _ _ _ [(0, _), (1, _), (2, _), (3, _), (4, _), (5, _), (6, _)] _ _ _
      refine J_goto (tgt := 9) dX6_pick_123 (by decide) ?_
      exact J_loc (ls_sub [0, 1, 2, 3] rfl) h
    · replace h := h.2 c
      refine J_iload dX6_pick_117 rfl ?_
      exact J_reti dX6_pick_119 rfl h
  · replace h := h.2 c
    refine J_iload dX6_pick_52 rfl ?_
    refine J_if_eq (tgt := 112) dX6_pick_54 (by decide) (fun c => ?_) (fun c => ?_)
    · replace h := h.1 c
      refine J_iload dX6_pick_112 rfl ?_
      refine J_if_eq (tgt := 120) dX6_pick_114 (by decide) (fun c => ?_) (fun c => ?_)
      · replace h := h.1 c
        refine J_iincN dX6_pick_120 rfl (by decide) h.1 ?_
        replace h := h.2
        change J _ _ _ _ _ _ [(0, _), (1, _), (2, _), (3, _), (4, _), (5, _), (6, _)] _ _ _
        refine J_goto (tgt := 9) dX6_pick_123 (by decide) ?_
        exact J_loc (ls_sub [0, 1, 2, 3] rfl) h
      · replace h := h.2 c
        refine J_iload dX6_pick_117 rfl ?_
        exact J_reti dX6_pick_119 rfl h
    · replace h := h.2 c
      refine J_aload_n dX6_pick_57 rfl rfl ?_
      refine J_getR dX6_pick_58 ck_6 fw_X6_19 rfl sh_477 rr_477_5 ?_
      refine J_iload dX6_pick_61 rfl ?_
      refine J_iald dX6_pick_63 sh_480 h.1.1 h.1.2 ?_
      replace h := h.2
      refine J_iconst dX6_pick_64 (ii_c rfl) ?_
      refine J_ic_eq (tgt := 99) dX6_pick_65 (by decide) (fun c => ?_) (fun c => ?_)
      · replace h := h.1 c
        refine J_iconst dX6_pick_99 (ii_c rfl) ?_
        refine J_goto (tgt := 104) dX6_pick_100 (by decide) ?_
        refine J_istore dX6_pick_104 (by decide) ?_
        change J _ _ _ _ _ _ [(0, _), (1, _), (2, _), (3, _), (4, _), (5, _), (6, _)] _ _ _
        refine J_iincN dX6_pick_106 rfl (by decide) h.1 ?_
        replace h := h.2
        change J _ _ _ _ _ _ [(0, _), (1, _), (2, _), (3, _), (4, _), (5, _), (6, _)] _ _ _
        refine J_goto (tgt := 46) dX6_pick_109 (by decide) ?_
        exact h
      · replace h := h.2 c
        refine J_aload_n dX6_pick_68 rfl rfl ?_
        refine J_getR dX6_pick_69 ck_6 fw_X6_37 rfl sh_477 rr_477_2 ?_
        refine J_aload_n dX6_pick_72 rfl rfl ?_
        refine J_getR dX6_pick_73 ck_6 fw_X6_15 rfl sh_477 rr_477_4 ?_
        refine J_iload dX6_pick_76 rfl ?_
        refine J_iald dX6_pick_78 sh_479 h.1.1 h.1.2 ?_
        replace h := h.2
        refine J_aload_n dX6_pick_79 rfl rfl ?_
        refine J_getR dX6_pick_80 ck_6 fw_X6_19 rfl sh_477 rr_477_5 ?_
        refine J_iload dX6_pick_83 rfl ?_
        refine J_iald dX6_pick_85 sh_480 h.1.1 h.1.2 ?_
        replace h := h.2
        refine J_iload_n dX6_pick_86 rfl rfl ?_
        refine J_lconst 1 dX6_pick_87 (ll_c rfl) (by decide) ?_
        refine J_iload dX6_pick_88 rfl ?_
        refine J_lshl dX6_pick_90 ?_
        refine J_callV (as := [_, _, _, _]) (mc1 := 0) (ms1 := 0) (mc := 0) (ms := 0) dX6_pick_91 mv_X5_fitting lk_X6_105 sh_69 rfl (Nat.le_of_ble_eq_true rfl) (Nat.le_of_ble_eq_true rfl) h (fun r σ hq _ => ?_)
        obtain ⟨x1, I1, rfl, rfl, h⟩ := hq
        change J _ _ _ _ _ _ _ [vL x1] _ _
        refine J_lconst 0 dX6_pick_94 (ll_c rfl) (by decide) ?_
        refine J_lcmp dX6_pick_95 ?_
        refine J_if_eq (tgt := 103) dX6_pick_96 (by decide) (fun c => ?_) (fun c => ?_)
        · replace h := h.1 (lC_eq.mp c)
          refine J_iconst dX6_pick_103 (ii_c rfl) ?_
          refine J_istore dX6_pick_104 (by decide) ?_
          change J _ _ _ _ _ _ [(0, _), (1, _), (2, _), (3, _), (4, _), (5, _), (6, _)] _ _ _
          refine J_iincN dX6_pick_106 rfl (by decide) h.1 ?_
          replace h := h.2
          change J _ _ _ _ _ _ [(0, _), (1, _), (2, _), (3, _), (4, _), (5, _), (6, _)] _ _ _
          refine J_goto (tgt := 46) dX6_pick_109 (by decide) ?_
          exact h
        · replace h := h.2 (fun w => c (lC_eq.mpr w))
          refine J_iconst dX6_pick_99 (ii_c rfl) ?_
          refine J_goto (tgt := 104) dX6_pick_100 (by decide) ?_
          refine J_istore dX6_pick_104 (by decide) ?_
          change J _ _ _ _ _ _ [(0, _), (1, _), (2, _), (3, _), (4, _), (5, _), (6, _)] _ _ _
          refine J_iincN dX6_pick_106 rfl (by decide) h.1 ?_
          replace h := h.2
          change J _ _ _ _ _ _ [(0, _), (1, _), (2, _), (3, _), (4, _), (5, _), (6, _)] _ _ _
          refine J_goto (tgt := 46) dX6_pick_109 (by decide) ?_
          exact h
