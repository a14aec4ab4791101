set_option maxRecDepth 20000 in
set_option maxHeartbeats 2000000 in
theorem bk_X11_isIn_0 {d : Nat} {I : HI} {Q : Option AV → AH → Prop} {a0 : Int} {a2 : Int} {a4 : Int}  (h : ((a0 < a2 → Q (some (vI 0)) (mk I)) ∧ (¬ (a0 < a2) → ((a4 < a0 → Q (some (vI 0)) (mk I)) ∧ (¬ (a4 < a0) → Q (some (vI 1)) (mk I)))))) : J none mX11_isIn (d + 1) 0 0 0 [(0, vL a0), (2, vL a2), (4, vL a4)] [] (mk I) Q := by
  refine J_lload_n dX11_isIn_0 rfl rfl ?_
  refine J_lload_n dX11_isIn_1 rfl rfl ?_
  refine J_lcmp dX11_isIn_2 ?_
  refine J_if_lt (tgt := 17) dX11_isIn_3 (by decide) (fun c => ?_) (fun c => ?_)
  · replace h := h.1 (lC_lt.mp c)
    refine J_iconst dX11_isIn_17 (ii_c rfl) ?_
    exact J_retz dX11_isIn_18 rfl (Or.inl rfl) h
  · replace h := h.2 (fun w => c (lC_lt.mpr w))
    refine J_lload_n dX11_isIn_6 rfl rfl ?_
    refine J_lload dX11_isIn_7 rfl ?_
    refine J_lcmp dX11_isIn_9 ?_
    refine J_if_gt (tgt := 17) dX11_isIn_10 (by decide) (fun c => ?_) (fun c => ?_)
    · replace h := h.1 (lC_gt.mp c)
      refine J_iconst dX11_isIn_17 (ii_c rfl) ?_
      exact J_retz dX11_isIn_18 rfl (Or.inl rfl) h
    · replace h := h.2 (fun w => c (lC_gt.mpr w))
      refine J_iconst dX11_isIn_13 (ii_c rfl) ?_
      refine J_goto (tgt := 18) dX11_isIn_14 (by decide) ?_
      exact J_retz dX11_isIn_18 rfl (Or.inr rfl) h
set_option maxRecDepth 20000 in
set_option maxHeartbeats 2000000 in
theorem bk_X11_feed_0 {d : Nat} {I : HI} {Q : Option AV → AH → Prop} {a1 : Int} {a2 : Int} {a3 : Int} {a4 : Int} {a5 : Int}  (h : (-2147483648 ≤ (I 489 1) + 20 ∧ (I 489 1) + 20 ≤ 2147483647) ∧ ((((I 489 1) + 20) ≤ 1600 → J none mX11_feed (d + 1) 0 0 18 [(0, vR 489), (1, vI a1), (2, vI a2), (3, vI a3), (4, vI a4), (5, vI a5), (6, vI 0)] [] (mk I) Q) ∧ (¬ (((I 489 1) + 20) ≤ 1600) → Q (some (vI (-1))) (mk I)))) : J none mX11_feed (d + 1) 0 0 0 [(0, vR 489), (1, vI a1), (2, vI a2), (3, vI a3), (4, vI a4), (5, vI a5)] [] (mk I) Q := by
  refine J_aload_n dX11_feed_0 rfl rfl ?_
  refine J_getI dX11_feed_1 ck_11 fw_X11_221 rfl sh_489 ?_
  refine J_bipush dX11_feed_4 (ii_c rfl) (by decide) ?_
  refine J_iaddN dX11_feed_6 h.1 ?_
  replace h := h.2
  refine J_sipush dX11_feed_7 (ii_c rfl) (by decide) ?_
  refine J_ic_le (tgt := 15) dX11_feed_10 (by decide) (fun c => ?_) (fun c => ?_)
  · replace h := h.1 c
    refine J_iconst dX11_feed_15 (ii_c rfl) ?_
    refine J_istore dX11_feed_16 (by decide) ?_
    exact h
  · replace h := h.2 c
    refine J_iconst dX11_feed_13 (ii_c rfl) ?_
    exact J_reti dX11_feed_14 rfl h
set_option maxRecDepth 20000 in
set_option maxHeartbeats 2000000 in
theorem bk_X11_feed_18 {d : Nat} {I : HI} {Q : Option AV → AH → Prop} {a1 : Int} {a2 : Int} {a3 : Int} {a4 : Int} {a5 : Int} {a6 : Int}  (h : ((20 ≤ a6 → Q (some (vI (I 489 1))) (mk I)) ∧ (¬ (20 ≤ a6) → ((4 ≤ a6 → ((8 ≤ a6 → ((12 ≤ a6 → ((16 ≤ a6 → (-2147483648 ≤ 3 - (oM a6 4) ∧ 3 - (oM a6 4) ≤ 2147483647) ∧ (-2147483648 ≤ 8 * (3 - (oM a6 4)) ∧ 8 * (3 - (oM a6 4)) ≤ 2147483647) ∧ ((0 : Int) ≤ (I 489 1) ∧ (I 489 1 : Int) < 1600) ∧ (∀ I1 : HI, I1 = up I 490 (I 489 1).toNat (oA (oSr a5 (8 * (3 - (oM a6 4)))) 255) → (-2147483648 ≤ (I1 489 1) + 1 ∧ (I1 489 1) + 1 ≤ 2147483647) ∧ (∀ I2 : HI, I2 = up I1 489 1 ((I1 489 1) + 1) → (-2147483648 ≤ a6 + 1 ∧ a6 + 1 ≤ 2147483647) ∧ J none mX11_feed (d + 1) 0 0 18 [(0, vR 489), (1, vI a1), (2, vI a2), (3, vI a3), (4, vI a4), (5, vI a5), (6, vI (a6 + 1))] [] (mk I2) Q))) ∧ (¬ (16 ≤ a6) → (-2147483648 ≤ 3 - (oM a6 4) ∧ 3 - (oM a6 4) ≤ 2147483647) ∧ (-2147483648 ≤ 8 * (3 - (oM a6 4)) ∧ 8 * (3 - (oM a6 4)) ≤ 2147483647) ∧ ((0 : Int) ≤ (I 489 1) ∧ (I 489 1 : Int) < 1600) ∧ (∀ I3 : HI, I3 = up I 490 (I 489 1).toNat (oA (oSr a4 (8 * (3 - (oM a6 4)))) 255) → (-2147483648 ≤ (I3 489 1) + 1 ∧ (I3 489 1) + 1 ≤ 2147483647) ∧ (∀ I4 : HI, I4 = up I3 489 1 ((I3 489 1) + 1) → (-2147483648 ≤ a6 + 1 ∧ a6 + 1 ≤ 2147483647) ∧ J none mX11_feed (d + 1) 0 0 18 [(0, vR 489), (1, vI a1), (2, vI a2), (3, vI a3), (4, vI a4), (5, vI a5), (6, vI (a6 + 1))] [] (mk I4) Q))))) ∧ (¬ (12 ≤ a6) → (-2147483648 ≤ 3 - (oM a6 4) ∧ 3 - (oM a6 4) ≤ 2147483647) ∧ (-2147483648 ≤ 8 * (3 - (oM a6 4)) ∧ 8 * (3 - (oM a6 4)) ≤ 2147483647) ∧ ((0 : Int) ≤ (I 489 1) ∧ (I 489 1 : Int) < 1600) ∧ (∀ I5 : HI, I5 = up I 490 (I 489 1).toNat (oA (oSr a3 (8 * (3 - (oM a6 4)))) 255) → (-2147483648 ≤ (I5 489 1) + 1 ∧ (I5 489 1) + 1 ≤ 2147483647) ∧ (∀ I6 : HI, I6 = up I5 489 1 ((I5 489 1) + 1) → (-2147483648 ≤ a6 + 1 ∧ a6 + 1 ≤ 2147483647) ∧ J none mX11_feed (d + 1) 0 0 18 [(0, vR 489), (1, vI a1), (2, vI a2), (3, vI a3), (4, vI a4), (5, vI a5), (6, vI (a6 + 1))] [] (mk I6) Q))))) ∧ (¬ (8 ≤ a6) → (-2147483648 ≤ 3 - (oM a6 4) ∧ 3 - (oM a6 4) ≤ 2147483647) ∧ (-2147483648 ≤ 8 * (3 - (oM a6 4)) ∧ 8 * (3 - (oM a6 4)) ≤ 2147483647) ∧ ((0 : Int) ≤ (I 489 1) ∧ (I 489 1 : Int) < 1600) ∧ (∀ I7 : HI, I7 = up I 490 (I 489 1).toNat (oA (oSr a2 (8 * (3 - (oM a6 4)))) 255) → (-2147483648 ≤ (I7 489 1) + 1 ∧ (I7 489 1) + 1 ≤ 2147483647) ∧ (∀ I8 : HI, I8 = up I7 489 1 ((I7 489 1) + 1) → (-2147483648 ≤ a6 + 1 ∧ a6 + 1 ≤ 2147483647) ∧ J none mX11_feed (d + 1) 0 0 18 [(0, vR 489), (1, vI a1), (2, vI a2), (3, vI a3), (4, vI a4), (5, vI a5), (6, vI (a6 + 1))] [] (mk I8) Q))))) ∧ (¬ (4 ≤ a6) → (-2147483648 ≤ 3 - (oM a6 4) ∧ 3 - (oM a6 4) ≤ 2147483647) ∧ (-2147483648 ≤ 8 * (3 - (oM a6 4)) ∧ 8 * (3 - (oM a6 4)) ≤ 2147483647) ∧ ((0 : Int) ≤ (I 489 1) ∧ (I 489 1 : Int) < 1600) ∧ (∀ I9 : HI, I9 = up I 490 (I 489 1).toNat (oA (oSr a1 (8 * (3 - (oM a6 4)))) 255) → (-2147483648 ≤ (I9 489 1) + 1 ∧ (I9 489 1) + 1 ≤ 2147483647) ∧ (∀ I10 : HI, I10 = up I9 489 1 ((I9 489 1) + 1) → (-2147483648 ≤ a6 + 1 ∧ a6 + 1 ≤ 2147483647) ∧ J none mX11_feed (d + 1) 0 0 18 [(0, vR 489), (1, vI a1), (2, vI a2), (3, vI a3), (4, vI a4), (5, vI a5), (6, vI (a6 + 1))] [] (mk I10) Q))))))) : J none mX11_feed (d + 1) 0 0 18 [(0, vR 489), (1, vI a1), (2, vI a2), (3, vI a3), (4, vI a4), (5, vI a5), (6, vI a6)] [] (mk I) Q := by
  refine J_iload dX11_feed_18 rfl ?_
  refine J_bipush dX11_feed_20 (ii_c rfl) (by decide) ?_
  refine J_ic_ge (tgt := 114) dX11_feed_22 (by decide) (fun c => ?_) (fun c => ?_)
  · replace h := h.1 c
    refine J_aload_n dX11_feed_114 rfl rfl ?_
    refine J_getI dX11_feed_115 ck_11 fw_X11_221 rfl sh_489 ?_
    exact J_reti dX11_feed_118 rfl h
  · replace h := h.2 c
    refine J_iload dX11_feed_25 rfl ?_
    refine J_iconst dX11_feed_27 (ii_c rfl) ?_
    refine J_ic_ge (tgt := 35) dX11_feed_28 (by decide) (fun c => ?_) (fun c => ?_)
    · replace h := h.1 c
      refine J_iload dX11_feed_35 rfl ?_
      refine J_bipush dX11_feed_37 (ii_c rfl) (by decide) ?_
      refine J_ic_ge (tgt := 46) dX11_feed_39 (by decide) (fun c => ?_) (fun c => ?_)
      · replace h := h.1 c
        refine J_iload dX11_feed_46 rfl ?_
        refine J_bipush dX11_feed_48 (ii_c rfl) (by decide) ?_
        refine J_ic_ge (tgt := 57) dX11_feed_50 (by decide) (fun c => ?_) (fun c => ?_)
        · replace h := h.1 c
          refine J_iload dX11_feed_57 rfl ?_
          refine J_bipush dX11_feed_59 (ii_c rfl) (by decide) ?_
          refine J_ic_ge (tgt := 69) dX11_feed_61 (by decide) (fun c => ?_) (fun c => ?_)
          · replace h := h.1 c
            refine J_iload dX11_feed_69 rfl ?_
            refine J_istore dX11_feed_71 (by decide) ?_
            refine J_aload_n dX11_feed_73 rfl rfl ?_
            refine J_getR dX11_feed_74 ck_11 fw_X11_7 rfl sh_489 rr_489_0 ?_
            refine J_aload_n dX11_feed_77 rfl rfl ?_
            refine J_getI dX11_feed_78 ck_11 fw_X11_221 rfl sh_489 ?_
            refine J_iload dX11_feed_81 rfl ?_
            refine J_bipush dX11_feed_83 (ii_c rfl) (by decide) ?_
            refine J_iconst dX11_feed_85 (ii_c rfl) ?_
            refine J_iload dX11_feed_86 rfl ?_
            refine J_iconst dX11_feed_88 (ii_c rfl) ?_
            refine J_irem dX11_feed_89 (by decide) ?_
            refine J_isubN dX11_feed_90 h.1 ?_
            replace h := h.2
            refine J_imulN dX11_feed_91 h.1 ?_
            replace h := h.2
            refine J_ishr dX11_feed_92 ?_
            refine J_sipush dX11_feed_93 (ii_c rfl) (by decide) ?_
            refine J_iand dX11_feed_96 ?_
            refine J_iast dX11_feed_97 sh_490 h.1.1 h.1.2 ?_
            replace h := h.2 _ rfl
            refine J_aload_n dX11_feed_98 rfl rfl ?_
            refine J_dup dX11_feed_99 rfl ?_
            refine J_getI dX11_feed_100 ck_11 fw_X11_221 rfl sh_489 ?_
            refine J_iconst dX11_feed_103 (ii_c rfl) ?_
            refine J_iaddN dX11_feed_104 h.1 ?_
            replace h := h.2
            refine J_putI dX11_feed_105 ck_11 fw_X11_221 rfl rfl (Or.inl rfl) sh_489 ?_
            replace h := h _ rfl
            refine J_iincN dX11_feed_108 rfl (by decide) h.1 ?_
            replace h := h.2
            refine J_goto (tgt := 18) dX11_feed_111 (by decide) ?_
            exact J_loc (ls_sub [0, 1, 2, 3, 4, 5, 6] rfl) h
          · replace h := h.2 c
            refine J_iload dX11_feed_64 rfl ?_
            refine J_goto (tgt := 71) dX11_feed_66 (by decide) ?_
            refine J_istore dX11_feed_71 (by decide) ?_
            refine J_aload_n dX11_feed_73 rfl rfl ?_
            refine J_getR dX11_feed_74 ck_11 fw_X11_7 rfl sh_489 rr_489_0 ?_
            refine J_aload_n dX11_feed_77 rfl rfl ?_
            refine J_getI dX11_feed_78 ck_11 fw_X11_221 rfl sh_489 ?_
            refine J_iload dX11_feed_81 rfl ?_
            refine J_bipush dX11_feed_83 (ii_c rfl) (by decide) ?_
            refine J_iconst dX11_feed_85 (ii_c rfl) ?_
            refine J_iload dX11_feed_86 rfl ?_
            refine J_iconst dX11_feed_88 (ii_c rfl) ?_
            refine J_irem dX11_feed_89 (by decide) ?_
            refine J_isubN dX11_feed_90 h.1 ?_
            replace h := h.2
            refine J_imulN dX11_feed_91 h.1 ?_
            replace h := h.2
            refine J_ishr dX11_feed_92 ?_
            refine J_sipush dX11_feed_93 (ii_c rfl) (by decide) ?_
            refine J_iand dX11_feed_96 ?_
            refine J_iast dX11_feed_97 sh_490 h.1.1 h.1.2 ?_
            replace h := h.2 _ rfl
            refine J_aload_n dX11_feed_98 rfl rfl ?_
            refine J_dup dX11_feed_99 rfl ?_
            refine J_getI dX11_feed_100 ck_11 fw_X11_221 rfl sh_489 ?_
            refine J_iconst dX11_feed_103 (ii_c rfl) ?_
            refine J_iaddN dX11_feed_104 h.1 ?_
            replace h := h.2
            refine J_putI dX11_feed_105 ck_11 fw_X11_221 rfl rfl (Or.inl rfl) sh_489 ?_
            replace h := h _ rfl
            refine J_iincN dX11_feed_108 rfl (by decide) h.1 ?_
            replace h := h.2
            refine J_goto (tgt := 18) dX11_feed_111 (by decide) ?_
            exact J_loc (ls_sub [0, 1, 2, 3, 4, 5, 6] rfl) h
        · replace h := h.2 c
          refine J_iload_n dX11_feed_53 rfl rfl ?_
          refine J_goto (tgt := 71) dX11_feed_54 (by decide) ?_
          refine J_istore dX11_feed_71 (by decide) ?_
          refine J_aload_n dX11_feed_73 rfl rfl ?_
          refine J_getR dX11_feed_74 ck_11 fw_X11_7 rfl sh_489 rr_489_0 ?_
          refine J_aload_n dX11_feed_77 rfl rfl ?_
          refine J_getI dX11_feed_78 ck_11 fw_X11_221 rfl sh_489 ?_
          refine J_iload dX11_feed_81 rfl ?_
          refine J_bipush dX11_feed_83 (ii_c rfl) (by decide) ?_
          refine J_iconst dX11_feed_85 (ii_c rfl) ?_
          refine J_iload dX11_feed_86 rfl ?_
          refine J_iconst dX11_feed_88 (ii_c rfl) ?_
          refine J_irem dX11_feed_89 (by decide) ?_
          refine J_isubN dX11_feed_90 h.1 ?_
          replace h := h.2
          refine J_imulN dX11_feed_91 h.1 ?_
          replace h := h.2
          refine J_ishr dX11_feed_92 ?_
          refine J_sipush dX11_feed_93 (ii_c rfl) (by decide) ?_
          refine J_iand dX11_feed_96 ?_
          refine J_iast dX11_feed_97 sh_490 h.1.1 h.1.2 ?_
          replace h := h.2 _ rfl
          refine J_aload_n dX11_feed_98 rfl rfl ?_
          refine J_dup dX11_feed_99 rfl ?_
          refine J_getI dX11_feed_100 ck_11 fw_X11_221 rfl sh_489 ?_
          refine J_iconst dX11_feed_103 (ii_c rfl) ?_
          refine J_iaddN dX11_feed_104 h.1 ?_
          replace h := h.2
          refine J_putI dX11_feed_105 ck_11 fw_X11_221 rfl rfl (Or.inl rfl) sh_489 ?_
          replace h := h _ rfl
          refine J_iincN dX11_feed_108 rfl (by decide) h.1 ?_
          replace h := h.2
          refine J_goto (tgt := 18) dX11_feed_111 (by decide) ?_
          exact J_loc (ls_sub [0, 1, 2, 3, 4, 5, 6] rfl) h
      · replace h := h.2 c
        refine J_iload_n dX11_feed_42 rfl rfl ?_
        refine J_goto (tgt := 71) dX11_feed_43 (by decide) ?_
        refine J_istore dX11_feed_71 (by decide) ?_
        refine J_aload_n dX11_feed_73 rfl rfl ?_
        refine J_getR dX11_feed_74 ck_11 fw_X11_7 rfl sh_489 rr_489_0 ?_
        refine J_aload_n dX11_feed_77 rfl rfl ?_
        refine J_getI dX11_feed_78 ck_11 fw_X11_221 rfl sh_489 ?_
        refine J_iload dX11_feed_81 rfl ?_
        refine J_bipush dX11_feed_83 (ii_c rfl) (by decide) ?_
        refine J_iconst dX11_feed_85 (ii_c rfl) ?_
        refine J_iload dX11_feed_86 rfl ?_
        refine J_iconst dX11_feed_88 (ii_c rfl) ?_
        refine J_irem dX11_feed_89 (by decide) ?_
        refine J_isubN dX11_feed_90 h.1 ?_
        replace h := h.2
        refine J_imulN dX11_feed_91 h.1 ?_
        replace h := h.2
        refine J_ishr dX11_feed_92 ?_
        refine J_sipush dX11_feed_93 (ii_c rfl) (by decide) ?_
        refine J_iand dX11_feed_96 ?_
        refine J_iast dX11_feed_97 sh_490 h.1.1 h.1.2 ?_
        replace h := h.2 _ rfl
        refine J_aload_n dX11_feed_98 rfl rfl ?_
        refine J_dup dX11_feed_99 rfl ?_
        refine J_getI dX11_feed_100 ck_11 fw_X11_221 rfl sh_489 ?_
        refine J_iconst dX11_feed_103 (ii_c rfl) ?_
        refine J_iaddN dX11_feed_104 h.1 ?_
        replace h := h.2
        refine J_putI dX11_feed_105 ck_11 fw_X11_221 rfl rfl (Or.inl rfl) sh_489 ?_
        replace h := h _ rfl
        refine J_iincN dX11_feed_108 rfl (by decide) h.1 ?_
        replace h := h.2
        refine J_goto (tgt := 18) dX11_feed_111 (by decide) ?_
        exact J_loc (ls_sub [0, 1, 2, 3, 4, 5, 6] rfl) h
    · replace h := h.2 c
      refine J_iload_n dX11_feed_31 rfl rfl ?_
      refine J_goto (tgt := 71) dX11_feed_32 (by decide) ?_
      refine J_istore dX11_feed_71 (by decide) ?_
      refine J_aload_n dX11_feed_73 rfl rfl ?_
      refine J_getR dX11_feed_74 ck_11 fw_X11_7 rfl sh_489 rr_489_0 ?_
      refine J_aload_n dX11_feed_77 rfl rfl ?_
      refine J_getI dX11_feed_78 ck_11 fw_X11_221 rfl sh_489 ?_
      refine J_iload dX11_feed_81 rfl ?_
      refine J_bipush dX11_feed_83 (ii_c rfl) (by decide) ?_
      refine J_iconst dX11_feed_85 (ii_c rfl) ?_
      refine J_iload dX11_feed_86 rfl ?_
      refine J_iconst dX11_feed_88 (ii_c rfl) ?_
      refine J_irem dX11_feed_89 (by decide) ?_
      refine J_isubN dX11_feed_90 h.1 ?_
      replace h := h.2
      refine J_imulN dX11_feed_91 h.1 ?_
      replace h := h.2
      refine J_ishr dX11_feed_92 ?_
      refine J_sipush dX11_feed_93 (ii_c rfl) (by decide) ?_
      refine J_iand dX11_feed_96 ?_
      refine J_iast dX11_feed_97 sh_490 h.1.1 h.1.2 ?_
      replace h := h.2 _ rfl
      refine J_aload_n dX11_feed_98 rfl rfl ?_
      refine J_dup dX11_feed_99 rfl ?_
      refine J_getI dX11_feed_100 ck_11 fw_X11_221 rfl sh_489 ?_
      refine J_iconst dX11_feed_103 (ii_c rfl) ?_
      refine J_iaddN dX11_feed_104 h.1 ?_
      replace h := h.2
      refine J_putI dX11_feed_105 ck_11 fw_X11_221 rfl rfl (Or.inl rfl) sh_489 ?_
      replace h := h _ rfl
      refine J_iincN dX11_feed_108 rfl (by decide) h.1 ?_
      replace h := h.2
      refine J_goto (tgt := 18) dX11_feed_111 (by decide) ?_
      exact J_loc (ls_sub [0, 1, 2, 3, 4, 5, 6] rfl) h
set_option maxRecDepth 20000 in
set_option maxHeartbeats 2000000 in
theorem bk_X11_end_0 {d : Nat} {I : HI} {Q : Option AV → AH → Prop} {a1 : Int}  (h : ((a1 < 0 → Q (some (vI 0)) (mk I)) ∧ (¬ (a1 < 0) → ((a1 ≤ (I 489 1) → (∀ I1 : HI, I1 = up I 489 1 a1 → Q (some (vI 1)) (mk I1))) ∧ (¬ (a1 ≤ (I 489 1)) → Q (some (vI 0)) (mk I)))))) : J none mX11_end (d + 1) 0 0 0 [(0, vR 489), (1, vI a1)] [] (mk I) Q := by
  refine J_iload_n dX11_end_0 rfl rfl ?_
  refine J_if_lt (tgt := 12) dX11_end_1 (by decide) (fun c => ?_) (fun c => ?_)
  · replace h := h.1 c
    refine J_iconst dX11_end_12 (ii_c rfl) ?_
    exact J_retz dX11_end_13 rfl (Or.inl rfl) h
  · replace h := h.2 c
    refine J_iload_n dX11_end_4 rfl rfl ?_
    refine J_aload_n dX11_end_5 rfl rfl ?_
    refine J_getI dX11_end_6 ck_11 fw_X11_221 rfl sh_489 ?_
    refine J_ic_le (tgt := 14) dX11_end_9 (by decide) (fun c => ?_) (fun c => ?_)
    · replace h := h.1 c
      refine J_aload_n dX11_end_14 rfl rfl ?_
      refine J_iload_n dX11_end_15 rfl rfl ?_
      refine J_putI dX11_end_16 ck_11 fw_X11_221 rfl rfl (Or.inl rfl) sh_489 ?_
      replace h := h _ rfl
      refine J_iconst dX11_end_19 (ii_c rfl) ?_
      exact J_retz dX11_end_20 rfl (Or.inr rfl) h
    · replace h := h.2 c
      refine J_iconst dX11_end_12 (ii_c rfl) ?_
      exact J_retz dX11_end_13 rfl (Or.inl rfl) h
set_option maxRecDepth 20000 in
set_option maxHeartbeats 2000000 in
theorem bk_X11_fail_0 {d : Nat} {I : HI} {Q : Option AV → AH → Prop} {a1 : Int} {a2 : Int}  (h : (((I 489 5) = 0 → (∀ I1 : HI, I1 = up I 489 5 a1 → (∀ I2 : HI, I2 = up I1 489 6 a2 → Q none (mk I2)))) ∧ (¬ ((I 489 5) = 0) → Q none (mk I)))) : J none mX11_fail (d + 1) 0 0 0 [(0, vR 489), (1, vI a1), (2, vI a2)] [] (mk I) Q := by
  refine J_aload_n dX11_fail_0 rfl rfl ?_
  refine J_getI dX11_fail_1 ck_11 fw_X11_224 rfl sh_489 ?_
  refine J_if_eq (tgt := 8) dX11_fail_4 (by decide) (fun c => ?_) (fun c => ?_)
  · replace h := h.1 c
    refine J_aload_n dX11_fail_8 rfl rfl ?_
    refine J_iload_n dX11_fail_9 rfl rfl ?_
    refine J_putI dX11_fail_10 ck_11 fw_X11_224 rfl rfl (Or.inl rfl) sh_489 ?_
    replace h := h _ rfl
    refine J_aload_n dX11_fail_13 rfl rfl ?_
    refine J_iload_n dX11_fail_14 rfl rfl ?_
    refine J_putI dX11_fail_15 ck_11 fw_X11_227 rfl rfl (Or.inl rfl) sh_489 ?_
    replace h := h _ rfl
    exact J_retv dX11_fail_18 rfl h
  · replace h := h.2 c
    exact J_retv dX11_fail_7 rfl h
set_option maxRecDepth 20000 in
set_option maxHeartbeats 2000000 in
theorem bk_X11_isLetter_0 {d : Nat} {I : HI} {Q : Option AV → AH → Prop} {a0 : Int}  (h : ((a0 < 97 → Q (some (vI 0)) (mk I)) ∧ (¬ (a0 < 97) → ((122 < a0 → Q (some (vI 0)) (mk I)) ∧ (¬ (122 < a0) → Q (some (vI 1)) (mk I)))))) : J none mX11_isLetter (d + 1) 0 0 0 [(0, vI a0)] [] (mk I) Q := by
  refine J_iload_n dX11_isLetter_0 rfl rfl ?_
  refine J_bipush dX11_isLetter_1 (ii_c rfl) (by decide) ?_
  refine J_ic_lt (tgt := 16) dX11_isLetter_3 (by decide) (fun c => ?_) (fun c => ?_)
  · replace h := h.1 c
    refine J_iconst dX11_isLetter_16 (ii_c rfl) ?_
    exact J_retz dX11_isLetter_17 rfl (Or.inl rfl) h
  · replace h := h.2 c
    refine J_iload_n dX11_isLetter_6 rfl rfl ?_
    refine J_bipush dX11_isLetter_7 (ii_c rfl) (by decide) ?_
    refine J_ic_gt (tgt := 16) dX11_isLetter_9 (by decide) (fun c => ?_) (fun c => ?_)
    · replace h := h.1 c
      refine J_iconst dX11_isLetter_16 (ii_c rfl) ?_
      exact J_retz dX11_isLetter_17 rfl (Or.inl rfl) h
    · replace h := h.2 c
      refine J_iconst dX11_isLetter_12 (ii_c rfl) ?_
      refine J_goto (tgt := 17) dX11_isLetter_13 (by decide) ?_
      exact J_retz dX11_isLetter_17 rfl (Or.inr rfl) h
set_option maxRecDepth 20000 in
set_option maxHeartbeats 2000000 in
theorem bk_X11_isDigit_0 {d : Nat} {I : HI} {Q : Option AV → AH → Prop} {a0 : Int}  (h : ((a0 < 48 → Q (some (vI 0)) (mk I)) ∧ (¬ (a0 < 48) → ((57 < a0 → Q (some (vI 0)) (mk I)) ∧ (¬ (57 < a0) → Q (some (vI 1)) (mk I)))))) : J none mX11_isDigit (d + 1) 0 0 0 [(0, vI a0)] [] (mk I) Q := by
  refine J_iload_n dX11_isDigit_0 rfl rfl ?_
  refine J_bipush dX11_isDigit_1 (ii_c rfl) (by decide) ?_
  refine J_ic_lt (tgt := 16) dX11_isDigit_3 (by decide) (fun c => ?_) (fun c => ?_)
  · replace h := h.1 c
    refine J_iconst dX11_isDigit_16 (ii_c rfl) ?_
    exact J_retz dX11_isDigit_17 rfl (Or.inl rfl) h
  · replace h := h.2 c
    refine J_iload_n dX11_isDigit_6 rfl rfl ?_
    refine J_bipush dX11_isDigit_7 (ii_c rfl) (by decide) ?_
    refine J_ic_gt (tgt := 16) dX11_isDigit_9 (by decide) (fun c => ?_) (fun c => ?_)
    · replace h := h.1 c
      refine J_iconst dX11_isDigit_16 (ii_c rfl) ?_
      exact J_retz dX11_isDigit_17 rfl (Or.inl rfl) h
    · replace h := h.2 c
      refine J_iconst dX11_isDigit_12 (ii_c rfl) ?_
      refine J_goto (tgt := 17) dX11_isDigit_13 (by decide) ?_
      exact J_retz dX11_isDigit_17 rfl (Or.inr rfl) h
set_option maxRecDepth 20000 in
set_option maxHeartbeats 2000000 in
theorem bk_X11_look_0 {d : Nat} {I : HI} {Q : Option AV → AH → Prop}   (h : (((I 489 3) ≤ (I 489 2) → (((I 489 3) ≤ (I 489 2) → Q (some (vI (-1))) (mk I)) ∧ (¬ ((I 489 3) ≤ (I 489 2)) → ((0 : Int) ≤ (I 489 2) ∧ (I 489 2 : Int) < 1600) ∧ Q (some (vI (I 490 (I 489 2).toNat))) (mk I)))) ∧ (¬ ((I 489 3) ≤ (I 489 2)) → ((0 : Int) ≤ (I 489 2) ∧ (I 489 2 : Int) < 1600) ∧ (((I 490 (I 489 2).toNat) = 10 → (-2147483648 ≤ (I 489 2) + 1 ∧ (I 489 2) + 1 ≤ 2147483647) ∧ (∀ I1 : HI, I1 = up I 489 2 ((I 489 2) + 1) → J none mX11_look (d + 1) 0 0 0 [(0, vR 489)] [] (mk I1) Q)) ∧ (¬ ((I 490 (I 489 2).toNat) = 10) → ((0 : Int) ≤ (I 489 2) ∧ (I 489 2 : Int) < 1600) ∧ (((I 490 (I 489 2).toNat) ≠ 32 → (((I 489 3) ≤ (I 489 2) → Q (some (vI (-1))) (mk I)) ∧ (¬ ((I 489 3) ≤ (I 489 2)) → ((0 : Int) ≤ (I 489 2) ∧ (I 489 2 : Int) < 1600) ∧ Q (some (vI (I 490 (I 489 2).toNat))) (mk I)))) ∧ ((I 490 (I 489 2).toNat) = 32 → (-2147483648 ≤ (I 489 2) + 1 ∧ (I 489 2) + 1 ≤ 2147483647) ∧ (∀ I2 : HI, I2 = up I 489 2 ((I 489 2) + 1) → J none mX11_look (d + 1) 0 0 0 [(0, vR 489)] [] (mk I2) Q)))))))) : J none mX11_look (d + 1) 0 0 0 [(0, vR 489)] [] (mk I) Q := by
  refine J_aload_n dX11_look_0 rfl rfl ?_
  refine J_getI dX11_look_1 ck_11 fw_X11_230 rfl sh_489 ?_
  refine J_aload_n dX11_look_4 rfl rfl ?_
  refine J_getI dX11_look_5 ck_11 fw_X11_233 rfl sh_489 ?_
  refine J_ic_ge (tgt := 52) dX11_look_8 (by decide) (fun c => ?_) (fun c => ?_)
  · replace h := h.1 c
    refine J_aload_n dX11_look_52 rfl rfl ?_
    refine J_getI dX11_look_53 ck_11 fw_X11_230 rfl sh_489 ?_
    refine J_aload_n dX11_look_56 rfl rfl ?_
    refine J_getI dX11_look_57 ck_11 fw_X11_233 rfl sh_489 ?_
    refine J_ic_ge (tgt := 75) dX11_look_60 (by decide) (fun c => ?_) (fun c => ?_)
    · replace h := h.1 c
      refine J_iconst dX11_look_75 (ii_c rfl) ?_
      exact J_reti dX11_look_76 rfl h
    · replace h := h.2 c
      refine J_aload_n dX11_look_63 rfl rfl ?_
      refine J_getR dX11_look_64 ck_11 fw_X11_7 rfl sh_489 rr_489_0 ?_
      refine J_aload_n dX11_look_67 rfl rfl ?_
      refine J_getI dX11_look_68 ck_11 fw_X11_230 rfl sh_489 ?_
      refine J_iald dX11_look_71 sh_490 h.1.1 h.1.2 ?_
      replace h := h.2
      refine J_goto (tgt := 76) dX11_look_72 (by decide) ?_
      exact J_reti dX11_look_76 rfl h
  · replace h := h.2 c
    refine J_aload_n dX11_look_11 rfl rfl ?_
    refine J_getR dX11_look_12 ck_11 fw_X11_7 rfl sh_489 rr_489_0 ?_
    refine J_aload_n dX11_look_15 rfl rfl ?_
    refine J_getI dX11_look_16 ck_11 fw_X11_230 rfl sh_489 ?_
    refine J_iald dX11_look_19 sh_490 h.1.1 h.1.2 ?_
    replace h := h.2
    refine J_bipush dX11_look_20 (ii_c rfl) (by decide) ?_
    refine J_ic_eq (tgt := 39) dX11_look_22 (by decide) (fun c => ?_) (fun c => ?_)
    · replace h := h.1 c
      refine J_aload_n dX11_look_39 rfl rfl ?_
      refine J_dup dX11_look_40 rfl ?_
      refine J_getI dX11_look_41 ck_11 fw_X11_230 rfl sh_489 ?_
      refine J_iconst dX11_look_44 (ii_c rfl) ?_
      refine J_iaddN dX11_look_45 h.1 ?_
      replace h := h.2
      refine J_putI dX11_look_46 ck_11 fw_X11_230 rfl rfl (Or.inl rfl) sh_489 ?_
      replace h := h _ rfl
      refine J_goto (tgt := 0) dX11_look_49 (by decide) ?_
      exact h
    · replace h := h.2 c
      refine J_aload_n dX11_look_25 rfl rfl ?_
      refine J_getR dX11_look_26 ck_11 fw_X11_7 rfl sh_489 rr_489_0 ?_
      refine J_aload_n dX11_look_29 rfl rfl ?_
      refine J_getI dX11_look_30 ck_11 fw_X11_230 rfl sh_489 ?_
      refine J_iald dX11_look_33 sh_490 h.1.1 h.1.2 ?_
      replace h := h.2
      refine J_bipush dX11_look_34 (ii_c rfl) (by decide) ?_
      refine J_ic_ne (tgt := 52) dX11_look_36 (by decide) (fun c => ?_) (fun c => ?_)
      · replace h := h.1 c
        refine J_aload_n dX11_look_52 rfl rfl ?_
        refine J_getI dX11_look_53 ck_11 fw_X11_230 rfl sh_489 ?_
        refine J_aload_n dX11_look_56 rfl rfl ?_
        refine J_getI dX11_look_57 ck_11 fw_X11_233 rfl sh_489 ?_
        refine J_ic_ge (tgt := 75) dX11_look_60 (by decide) (fun c => ?_) (fun c => ?_)
        · replace h := h.1 c
          refine J_iconst dX11_look_75 (ii_c rfl) ?_
          exact J_reti dX11_look_76 rfl h
        · replace h := h.2 c
          refine J_aload_n dX11_look_63 rfl rfl ?_
          refine J_getR dX11_look_64 ck_11 fw_X11_7 rfl sh_489 rr_489_0 ?_
          refine J_aload_n dX11_look_67 rfl rfl ?_
          refine J_getI dX11_look_68 ck_11 fw_X11_230 rfl sh_489 ?_
          refine J_iald dX11_look_71 sh_490 h.1.1 h.1.2 ?_
          replace h := h.2
          refine J_goto (tgt := 76) dX11_look_72 (by decide) ?_
          exact J_reti dX11_look_76 rfl h
      · replace h := h.2 c
        refine J_aload_n dX11_look_39 rfl rfl ?_
        refine J_dup dX11_look_40 rfl ?_
        refine J_getI dX11_look_41 ck_11 fw_X11_230 rfl sh_489 ?_
        refine J_iconst dX11_look_44 (ii_c rfl) ?_
        refine J_iaddN dX11_look_45 h.1 ?_
        replace h := h.2
        refine J_putI dX11_look_46 ck_11 fw_X11_230 rfl rfl (Or.inl rfl) sh_489 ?_
        replace h := h _ rfl
        refine J_goto (tgt := 0) dX11_look_49 (by decide) ?_
        exact h
set_option maxRecDepth 20000 in
set_option maxHeartbeats 2000000 in
theorem bk_X11_isHere_0 {d : Nat} {I : HI} {Q : Option AV → AH → Prop} {a1 n1 : Nat} (ha1 : SH0[a1]? = some (.inr (3, n1))) (h : (((I 489 5) ≠ 0 → Q (some (vI 0)) (mk I)) ∧ ((I 489 5) = 0 → CI mX11_look d [vR 489] I (fun x1 I1 => CI mX11_isLetter d [vI x1] I1 (fun x2 I2 => ((x2 = 0 → Q (some (vI 0)) (mk I2)) ∧ (¬ (x2 = 0) → (((I2 489 2) ≠ (I2 489 4) → J none mX11_isHere (d + 1) 0 0 35 [(0, vR 489), (1, vR a1), (2, vI (I2 489 2))] [] (mk I2) Q) ∧ ((I2 489 2) = (I2 489 4) → Q (some (vI 0)) (mk I2)))))))))) : J none mX11_isHere (d + 1) 0 0 0 [(0, vR 489), (1, vR a1)] [] (mk I) Q := by
  refine J_aload_n dX11_isHere_0 rfl rfl ?_
  refine J_getI dX11_isHere_1 ck_11 fw_X11_224 rfl sh_489 ?_
  refine J_if_ne (tgt := 28) dX11_isHere_4 (by decide) (fun c => ?_) (fun c => ?_)
  · replace h := h.1 c
    refine J_iconst dX11_isHere_28 (ii_c rfl) ?_
    exact J_retz dX11_isHere_29 rfl (Or.inl rfl) h
  · replace h := h.2 c
    refine J_aload_n dX11_isHere_7 rfl rfl ?_
    refine J_callV (as := []) (mc1 := 0) (ms1 := 0) (mc := 0) (ms := 0) dX11_isHere_8 mv_X11_look lk_X11_236 sh_489 rfl (Nat.le_of_ble_eq_true rfl) (Nat.le_of_ble_eq_true rfl) h (fun r σ hq _ => ?_)
    obtain ⟨x1, I1, rfl, rfl, h⟩ := hq
    change J _ _ _ _ _ _ _ [vI x1] _ _
    refine J_callS (as := [_]) (mc1 := 0) (ms1 := 0) (mc := 0) (ms := 0) dX11_isHere_11 ms_X11_isLetter lk_X11_240 rfl (Nat.le_of_ble_eq_true rfl) (Nat.le_of_ble_eq_true rfl) h (fun r σ hq _ => ?_)
    obtain ⟨x2, I2, rfl, rfl, h⟩ := hq
    change J _ _ _ _ _ _ _ [vI x2] _ _
    refine J_if_eq (tgt := 28) dX11_isHere_14 (by decide) (fun c => ?_) (fun c => ?_)
    · replace h := h.1 c
      refine J_iconst dX11_isHere_28 (ii_c rfl) ?_
      exact J_retz dX11_isHere_29 rfl (Or.inl rfl) h
    · replace h := h.2 c
      refine J_aload_n dX11_isHere_17 rfl rfl ?_
      refine J_getI dX11_isHere_18 ck_11 fw_X11_230 rfl sh_489 ?_
      refine J_aload_n dX11_isHere_21 rfl rfl ?_
      refine J_getI dX11_isHere_22 ck_11 fw_X11_244 rfl sh_489 ?_
      refine J_ic_ne (tgt := 30) dX11_isHere_25 (by decide) (fun c => ?_) (fun c => ?_)
      · replace h := h.1 c
        refine J_aload_n dX11_isHere_30 rfl rfl ?_
        refine J_getI dX11_isHere_31 ck_11 fw_X11_230 rfl sh_489 ?_
        refine J_istore_n dX11_isHere_34 rfl (by decide) ?_
        exact h
      · replace h := h.2 c
        refine J_iconst dX11_isHere_28 (ii_c rfl) ?_
        exact J_retz dX11_isHere_29 rfl (Or.inl rfl) h
set_option maxRecDepth 20000 in
set_option maxHeartbeats 2000000 in
theorem bk_X11_isHere_35 {d : Nat} {I : HI} {Q : Option AV → AH → Prop} {a1 n1 : Nat} {a2 : Int} (ha1 : SH0[a1]? = some (.inr (3, n1))) (h : (((I 489 3) ≤ a2 → (-2147483648 ≤ a2 - (I 489 2) ∧ a2 - (I 489 2) ≤ 2147483647) ∧ ((n1 : Nat) : Int) ≤ 2147483647 ∧ (((a2 - (I 489 2)) = (n1 : Int) → J none mX11_isHere (d + 1) 0 0 76 [(0, vR 489), (1, vR a1), (2, vI a2), (3, vI 0)] [] (mk I) Q) ∧ (¬ ((a2 - (I 489 2)) = (n1 : Int)) → Q (some (vI 0)) (mk I)))) ∧ (¬ ((I 489 3) ≤ a2) → ((0 : Int) ≤ a2 ∧ (a2 : Int) < 1600) ∧ CI mX11_isLetter d [vI (I 490 a2.toNat)] I (fun x1 I1 => ((x1 = 0 → (-2147483648 ≤ a2 - (I1 489 2) ∧ a2 - (I1 489 2) ≤ 2147483647) ∧ ((n1 : Nat) : Int) ≤ 2147483647 ∧ (((a2 - (I1 489 2)) = (n1 : Int) → J none mX11_isHere (d + 1) 0 0 76 [(0, vR 489), (1, vR a1), (2, vI a2), (3, vI 0)] [] (mk I1) Q) ∧ (¬ ((a2 - (I1 489 2)) = (n1 : Int)) → Q (some (vI 0)) (mk I1)))) ∧ (¬ (x1 = 0) → (-2147483648 ≤ a2 + 1 ∧ a2 + 1 ≤ 2147483647) ∧ J none mX11_isHere (d + 1) 0 0 35 [(0, vR 489), (1, vR a1), (2, vI (a2 + 1))] [] (mk I1) Q)))))) : J none mX11_isHere (d + 1) 0 0 35 [(0, vR 489), (1, vR a1), (2, vI a2)] [] (mk I) Q := by
  refine J_iload_n dX11_isHere_35 rfl rfl ?_
  refine J_aload_n dX11_isHere_36 rfl rfl ?_
  refine J_getI dX11_isHere_37 ck_11 fw_X11_233 rfl sh_489 ?_
  refine J_ic_ge (tgt := 61) dX11_isHere_40 (by decide) (fun c => ?_) (fun c => ?_)
  · replace h := h.1 c
    refine J_iload_n dX11_isHere_61 rfl rfl ?_
    refine J_aload_n dX11_isHere_62 rfl rfl ?_
    refine J_getI dX11_isHere_63 ck_11 fw_X11_230 rfl sh_489 ?_
    refine J_isubN dX11_isHere_66 h.1 ?_
    replace h := h.2
    refine J_aload_n dX11_isHere_67 rfl rfl ?_
    refine J_alen dX11_isHere_68 ha1 (by decide) h.1 ?_
    replace h := h.2
    refine J_ic_eq (tgt := 74) dX11_isHere_69 (by decide) (fun c => ?_) (fun c => ?_)
    · replace h := h.1 c
      refine J_iconst dX11_isHere_74 (ii_c rfl) ?_
      refine J_istore_n dX11_isHere_75 rfl (by decide) ?_
      exact h
    · replace h := h.2 c
      refine J_iconst dX11_isHere_72 (ii_c rfl) ?_
      exact J_retz dX11_isHere_73 rfl (Or.inl rfl) h
  · replace h := h.2 c
    refine J_aload_n dX11_isHere_43 rfl rfl ?_
    refine J_getR dX11_isHere_44 ck_11 fw_X11_7 rfl sh_489 rr_489_0 ?_
    refine J_iload_n dX11_isHere_47 rfl rfl ?_
    refine J_iald dX11_isHere_48 sh_490 h.1.1 h.1.2 ?_
    replace h := h.2
    refine J_callS (as := [_]) (mc1 := 0) (ms1 := 0) (mc := 0) (ms := 0) dX11_isHere_49 ms_X11_isLetter lk_X11_240 rfl (Nat.le_of_ble_eq_true rfl) (Nat.le_of_ble_eq_true rfl) h (fun r σ hq _ => ?_)
    obtain ⟨x1, I1, rfl, rfl, h⟩ := hq
    change J _ _ _ _ _ _ _ [vI x1] _ _
    refine J_if_eq (tgt := 61) dX11_isHere_52 (by decide) (fun c => ?_) (fun c => ?_)
    · replace h := h.1 c
      refine J_iload_n dX11_isHere_61 rfl rfl ?_
      refine J_aload_n dX11_isHere_62 rfl rfl ?_
      refine J_getI dX11_isHere_63 ck_11 fw_X11_230 rfl sh_489 ?_
      refine J_isubN dX11_isHere_66 h.1 ?_
      replace h := h.2
      refine J_aload_n dX11_isHere_67 rfl rfl ?_
      refine J_alen dX11_isHere_68 ha1 (by decide) h.1 ?_
      replace h := h.2
      refine J_ic_eq (tgt := 74) dX11_isHere_69 (by decide) (fun c => ?_) (fun c => ?_)
      · replace h := h.1 c
        refine J_iconst dX11_isHere_74 (ii_c rfl) ?_
        refine J_istore_n dX11_isHere_75 rfl (by decide) ?_
        exact h
      · replace h := h.2 c
        refine J_iconst dX11_isHere_72 (ii_c rfl) ?_
        exact J_retz dX11_isHere_73 rfl (Or.inl rfl) h
    · replace h := h.2 c
      refine J_iincN dX11_isHere_55 rfl (by decide) h.1 ?_
      replace h := h.2
      refine J_goto (tgt := 35) dX11_isHere_58 (by decide) ?_
      exact h
set_option maxRecDepth 20000 in
set_option maxHeartbeats 2000000 in
theorem bk_X11_isHere_76 {d : Nat} {I : HI} {Q : Option AV → AH → Prop} {a1 n1 : Nat} {a2 : Int} {a3 : Int} (ha1 : SH0[a1]? = some (.inr (3, n1))) (h : ((n1 : Nat) : Int) ≤ 2147483647 ∧ (((n1 : Int) ≤ a3 → Q (some (vI 1)) (mk I)) ∧ (¬ ((n1 : Int) ≤ a3) → (-2147483648 ≤ (I 489 2) + a3 ∧ (I 489 2) + a3 ≤ 2147483647) ∧ ((0 : Int) ≤ ((I 489 2) + a3) ∧ ((I 489 2) + a3 : Int) < 1600) ∧ ((0 : Int) ≤ a3 ∧ (a3 : Int) < n1) ∧ (((I 490 ((I 489 2) + a3).toNat) = (I a1 a3.toNat) → (-2147483648 ≤ a3 + 1 ∧ a3 + 1 ≤ 2147483647) ∧ J none mX11_isHere (d + 1) 0 0 76 [(0, vR 489), (1, vR a1), (2, vI a2), (3, vI (a3 + 1))] [] (mk I) Q) ∧ (¬ ((I 490 ((I 489 2) + a3).toNat) = (I a1 a3.toNat)) → Q (some (vI 0)) (mk I)))))) : J none mX11_isHere (d + 1) 0 0 76 [(0, vR 489), (1, vR a1), (2, vI a2), (3, vI a3)] [] (mk I) Q := by
  refine J_iload_n dX11_isHere_76 rfl rfl ?_
  refine J_aload_n dX11_isHere_77 rfl rfl ?_
  refine J_alen dX11_isHere_78 ha1 (by decide) h.1 ?_
  replace h := h.2
  refine J_ic_ge (tgt := 107) dX11_isHere_79 (by decide) (fun c => ?_) (fun c => ?_)
  · replace h := h.1 c
    refine J_iconst dX11_isHere_107 (ii_c rfl) ?_
    exact J_retz dX11_isHere_108 rfl (Or.inr rfl) h
  · replace h := h.2 c
    refine J_aload_n dX11_isHere_82 rfl rfl ?_
    refine J_getR dX11_isHere_83 ck_11 fw_X11_7 rfl sh_489 rr_489_0 ?_
    refine J_aload_n dX11_isHere_86 rfl rfl ?_
    refine J_getI dX11_isHere_87 ck_11 fw_X11_230 rfl sh_489 ?_
    refine J_iload_n dX11_isHere_90 rfl rfl ?_
    refine J_iaddN dX11_isHere_91 h.1 ?_
    replace h := h.2
    refine J_iald dX11_isHere_92 sh_490 h.1.1 h.1.2 ?_
    replace h := h.2
    refine J_aload_n dX11_isHere_93 rfl rfl ?_
    refine J_iload_n dX11_isHere_94 rfl rfl ?_
    refine J_cald dX11_isHere_95 ha1 h.1.1 h.1.2 ?_
    replace h := h.2
    refine J_ic_eq (tgt := 101) dX11_isHere_96 (by decide) (fun c => ?_) (fun c => ?_)
    · replace h := h.1 c
      refine J_iincN dX11_isHere_101 rfl (by decide) h.1 ?_
      replace h := h.2
      refine J_goto (tgt := 76) dX11_isHere_104 (by decide) ?_
      exact h
    · replace h := h.2 c
      refine J_iconst dX11_isHere_99 (ii_c rfl) ?_
      exact J_retz dX11_isHere_100 rfl (Or.inl rfl) h
set_option maxRecDepth 20000 in
set_option maxHeartbeats 2000000 in
theorem bk_X11_takes_0 {d : Nat} {I : HI} {Q : Option AV → AH → Prop} {a1 n1 : Nat} (ha1 : SH0[a1]? = some (.inr (3, n1))) (h : CI mX11_isHere d [vR 489, vR a1] I (fun x1 I1 => ((x1 ≠ 0 → ((n1 : Nat) : Int) ≤ 2147483647 ∧ (-2147483648 ≤ (I1 489 2) + (n1 : Int) ∧ (I1 489 2) + (n1 : Int) ≤ 2147483647) ∧ (∀ I2 : HI, I2 = up I1 489 2 ((I1 489 2) + (n1 : Int)) → (∀ I3 : HI, I3 = up I2 489 4 (I2 489 2) → Q (some (vI 1)) (mk I3)))) ∧ (x1 = 0 → Q (some (vI 0)) (mk I1))))) : J none mX11_takes (d + 1) 0 0 0 [(0, vR 489), (1, vR a1)] [] (mk I) Q := by
  refine J_aload_n dX11_takes_0 rfl rfl ?_
  refine J_aload_n dX11_takes_1 rfl rfl ?_
  refine J_callV (as := [_]) (mc1 := 0) (ms1 := 0) (mc := 0) (ms := 0) dX11_takes_2 mv_X11_isHere lk_X11_247 sh_489 rfl (Nat.le_of_ble_eq_true rfl) (Nat.le_of_ble_eq_true rfl) h (fun r σ hq _ => ?_)
  obtain ⟨x1, I1, rfl, rfl, h⟩ := hq
  change J _ _ _ _ _ _ _ [vI x1] _ _
  refine J_if_ne (tgt := 10) dX11_takes_5 (by decide) (fun c => ?_) (fun c => ?_)
  · replace h := h.1 c
    refine J_aload_n dX11_takes_10 rfl rfl ?_
    refine J_dup dX11_takes_11 rfl ?_
    refine J_getI dX11_takes_12 ck_11 fw_X11_230 rfl sh_489 ?_
    refine J_aload_n dX11_takes_15 rfl rfl ?_
    refine J_alen dX11_takes_16 ha1 (by decide) h.1 ?_
    replace h := h.2
    refine J_iaddN dX11_takes_17 h.1 ?_
    replace h := h.2
    refine J_putI dX11_takes_18 ck_11 fw_X11_230 rfl rfl (Or.inl rfl) sh_489 ?_
    replace h := h _ rfl
    refine J_aload_n dX11_takes_21 rfl rfl ?_
    refine J_aload_n dX11_takes_22 rfl rfl ?_
    refine J_getI dX11_takes_23 ck_11 fw_X11_230 rfl sh_489 ?_
    refine J_putI dX11_takes_26 ck_11 fw_X11_244 rfl rfl (Or.inl rfl) sh_489 ?_
    replace h := h _ rfl
    refine J_iconst dX11_takes_29 (ii_c rfl) ?_
    exact J_retz dX11_takes_30 rfl (Or.inr rfl) h
  · replace h := h.2 c
    refine J_iconst dX11_takes_8 (ii_c rfl) ?_
    exact J_retz dX11_takes_9 rfl (Or.inl rfl) h
set_option maxRecDepth 20000 in
set_option maxHeartbeats 2000000 in
theorem bk_X11_asks_0 {d : Nat} {I : HI} {Q : Option AV → AH → Prop} {a1 n1 : Nat} (ha1 : SH0[a1]? = some (.inr (3, n1))) (h : (((I 489 5) ≠ 0 → Q none (mk I)) ∧ ((I 489 5) = 0 → CI mX11_takes d [vR 489, vR a1] I (fun x1 I1 => ((x1 ≠ 0 → Q none (mk I1)) ∧ (x1 = 0 → CV mX11_fail d [vR 489, vI 1, vI (I1 489 2)] I1 (fun I2 => Q none (mk I2)))))))) : J none mX11_asks (d + 1) 0 0 0 [(0, vR 489), (1, vR a1)] [] (mk I) Q := by
  refine J_aload_n dX11_asks_0 rfl rfl ?_
  refine J_getI dX11_asks_1 ck_11 fw_X11_224 rfl sh_489 ?_
  refine J_if_ne (tgt := 24) dX11_asks_4 (by decide) (fun c => ?_) (fun c => ?_)
  · replace h := h.1 c
    exact J_retv dX11_asks_24 rfl h
  · replace h := h.2 c
    refine J_aload_n dX11_asks_7 rfl rfl ?_
    refine J_aload_n dX11_asks_8 rfl rfl ?_
    refine J_callV (as := [_]) (mc1 := 0) (ms1 := 0) (mc := 0) (ms := 0) dX11_asks_9 mv_X11_takes lk_X11_251 sh_489 rfl (Nat.le_of_ble_eq_true rfl) (Nat.le_of_ble_eq_true rfl) h (fun r σ hq _ => ?_)
    obtain ⟨x1, I1, rfl, rfl, h⟩ := hq
    change J _ _ _ _ _ _ _ [vI x1] _ _
    refine J_if_ne (tgt := 24) dX11_asks_12 (by decide) (fun c => ?_) (fun c => ?_)
    · replace h := h.1 c
      exact J_retv dX11_asks_24 rfl h
    · replace h := h.2 c
      refine J_aload_n dX11_asks_15 rfl rfl ?_
      refine J_iconst dX11_asks_16 (ii_c rfl) ?_
      refine J_aload_n dX11_asks_17 rfl rfl ?_
      refine J_getI dX11_asks_18 ck_11 fw_X11_230 rfl sh_489 ?_
      refine J_callV (as := [_, _]) (mc1 := 0) (ms1 := 0) (mc := 0) (ms := 0) dX11_asks_21 mv_X11_fail lk_X11_254 sh_489 rfl (Nat.le_of_ble_eq_true rfl) (Nat.le_of_ble_eq_true rfl) h (fun r σ hq _ => ?_)
      obtain ⟨I2, rfl, rfl, h⟩ := hq
      change J _ _ _ _ _ _ _ [] _ _
      exact J_retv dX11_asks_24 rfl h
set_option maxRecDepth 20000 in
set_option maxHeartbeats 2000000 in
theorem bk_X11_takesSign_0 {d : Nat} {I : HI} {Q : Option AV → AH → Prop} {a1 : Int}  (h : (((I 489 5) ≠ 0 → Q (some (vI 0)) (mk I)) ∧ ((I 489 5) = 0 → CI mX11_look d [vR 489] I (fun x1 I1 => ((x1 = a1 → (-2147483648 ≤ (I1 489 2) + 1 ∧ (I1 489 2) + 1 ≤ 2147483647) ∧ (∀ I2 : HI, I2 = up I1 489 2 ((I1 489 2) + 1) → Q (some (vI 1)) (mk I2))) ∧ (¬ (x1 = a1) → Q (some (vI 0)) (mk I1))))))) : J none mX11_takesSign (d + 1) 0 0 0 [(0, vR 489), (1, vI a1)] [] (mk I) Q := by
  refine J_aload_n dX11_takesSign_0 rfl rfl ?_
  refine J_getI dX11_takesSign_1 ck_11 fw_X11_224 rfl sh_489 ?_
  refine J_if_ne (tgt := 15) dX11_takesSign_4 (by decide) (fun c => ?_) (fun c => ?_)
  · replace h := h.1 c
    refine J_iconst dX11_takesSign_15 (ii_c rfl) ?_
    exact J_retz dX11_takesSign_16 rfl (Or.inl rfl) h
  · replace h := h.2 c
    refine J_aload_n dX11_takesSign_7 rfl rfl ?_
    refine J_callV (as := []) (mc1 := 0) (ms1 := 0) (mc := 0) (ms := 0) dX11_takesSign_8 mv_X11_look lk_X11_236 sh_489 rfl (Nat.le_of_ble_eq_true rfl) (Nat.le_of_ble_eq_true rfl) h (fun r σ hq _ => ?_)
    obtain ⟨x1, I1, rfl, rfl, h⟩ := hq
    change J _ _ _ _ _ _ _ [vI x1] _ _
    refine J_iload_n dX11_takesSign_11 rfl rfl ?_
    refine J_ic_eq (tgt := 17) dX11_takesSign_12 (by decide) (fun c => ?_) (fun c => ?_)
    · replace h := h.1 c
      refine J_aload_n dX11_takesSign_17 rfl rfl ?_
      refine J_dup dX11_takesSign_18 rfl ?_
      refine J_getI dX11_takesSign_19 ck_11 fw_X11_230 rfl sh_489 ?_
      refine J_iconst dX11_takesSign_22 (ii_c rfl) ?_
      refine J_iaddN dX11_takesSign_23 h.1 ?_
      replace h := h.2
      refine J_putI dX11_takesSign_24 ck_11 fw_X11_230 rfl rfl (Or.inl rfl) sh_489 ?_
      replace h := h _ rfl
      refine J_iconst dX11_takesSign_27 (ii_c rfl) ?_
      exact J_retz dX11_takesSign_28 rfl (Or.inr rfl) h
    · replace h := h.2 c
      refine J_iconst dX11_takesSign_15 (ii_c rfl) ?_
      exact J_retz dX11_takesSign_16 rfl (Or.inl rfl) h
set_option maxRecDepth 20000 in
set_option maxHeartbeats 2000000 in
theorem bk_X11_asksSign_0 {d : Nat} {I : HI} {Q : Option AV → AH → Prop} {a1 : Int}  (h : (((I 489 5) ≠ 0 → Q none (mk I)) ∧ ((I 489 5) = 0 → CI mX11_takesSign d [vR 489, vI a1] I (fun x1 I1 => ((x1 ≠ 0 → Q none (mk I1)) ∧ (x1 = 0 → CV mX11_fail d [vR 489, vI 1, vI (I1 489 2)] I1 (fun I2 => Q none (mk I2)))))))) : J none mX11_asksSign (d + 1) 0 0 0 [(0, vR 489), (1, vI a1)] [] (mk I) Q := by
  refine J_aload_n dX11_asksSign_0 rfl rfl ?_
  refine J_getI dX11_asksSign_1 ck_11 fw_X11_224 rfl sh_489 ?_
  refine J_if_ne (tgt := 24) dX11_asksSign_4 (by decide) (fun c => ?_) (fun c => ?_)
  · replace h := h.1 c
    exact J_retv dX11_asksSign_24 rfl h
  · replace h := h.2 c
    refine J_aload_n dX11_asksSign_7 rfl rfl ?_
    refine J_iload_n dX11_asksSign_8 rfl rfl ?_
    refine J_callV (as := [_]) (mc1 := 0) (ms1 := 0) (mc := 0) (ms := 0) dX11_asksSign_9 mv_X11_takesSign lk_X11_258 sh_489 rfl (Nat.le_of_ble_eq_true rfl) (Nat.le_of_ble_eq_true rfl) h (fun r σ hq _ => ?_)
    obtain ⟨x1, I1, rfl, rfl, h⟩ := hq
    change J _ _ _ _ _ _ _ [vI x1] _ _
    refine J_if_ne (tgt := 24) dX11_asksSign_12 (by decide) (fun c => ?_) (fun c => ?_)
    · replace h := h.1 c
      exact J_retv dX11_asksSign_24 rfl h
    · replace h := h.2 c
      refine J_aload_n dX11_asksSign_15 rfl rfl ?_
      refine J_iconst dX11_asksSign_16 (ii_c rfl) ?_
      refine J_aload_n dX11_asksSign_17 rfl rfl ?_
      refine J_getI dX11_asksSign_18 ck_11 fw_X11_230 rfl sh_489 ?_
      refine J_callV (as := [_, _]) (mc1 := 0) (ms1 := 0) (mc := 0) (ms := 0) dX11_asksSign_21 mv_X11_fail lk_X11_254 sh_489 rfl (Nat.le_of_ble_eq_true rfl) (Nat.le_of_ble_eq_true rfl) h (fun r σ hq _ => ?_)
      obtain ⟨I2, rfl, rfl, h⟩ := hq
      change J _ _ _ _ _ _ _ [] _ _
      exact J_retv dX11_asksSign_24 rfl h
set_option maxRecDepth 20000 in
set_option maxHeartbeats 2000000 in
theorem bk_X11_number_0 {d : Nat} {I : HI} {Q : Option AV → AH → Prop} {a1 : Int} {a2 : Int}  (h : (((I 489 5) = 0 → CI mX11_look d [vR 489] I (fun x1 I1 => CI mX11_isDigit d [vI x1] I1 (fun x2 I2 => ((x2 = 0 → CV mX11_fail d [vR 489, vI 1, vI (I2 489 2)] I2 (fun I3 => Q (some (vI 0)) (mk I3))) ∧ (¬ (x2 = 0) → (((I2 489 2) ≠ (I2 489 4) → J none mX11_number (d + 1) 0 0 49 [(0, vR 489), (1, vI a1), (2, vI a2), (3, vI (I2 489 2)), (4, vI 0)] [] (mk I2) Q) ∧ ((I2 489 2) = (I2 489 4) → CV mX11_fail d [vR 489, vI 1, vI (I2 489 2)] I2 (fun I4 => Q (some (vI 0)) (mk I4))))))))) ∧ (¬ ((I 489 5) = 0) → Q (some (vI 0)) (mk I)))) : J none mX11_number (d + 1) 0 0 0 [(0, vR 489), (1, vI a1), (2, vI a2)] [] (mk I) Q := by
  refine J_aload_n dX11_number_0 rfl rfl ?_
  refine J_getI dX11_number_1 ck_11 fw_X11_224 rfl sh_489 ?_
  refine J_if_eq (tgt := 9) dX11_number_4 (by decide) (fun c => ?_) (fun c => ?_)
  · replace h := h.1 c
    refine J_aload_n dX11_number_9 rfl rfl ?_
    refine J_callV (as := []) (mc1 := 0) (ms1 := 0) (mc := 0) (ms := 0) dX11_number_10 mv_X11_look lk_X11_236 sh_489 rfl (Nat.le_of_ble_eq_true rfl) (Nat.le_of_ble_eq_true rfl) h (fun r σ hq _ => ?_)
    obtain ⟨x1, I1, rfl, rfl, h⟩ := hq
    change J _ _ _ _ _ _ _ [vI x1] _ _
    refine J_callS (as := [_]) (mc1 := 0) (ms1 := 0) (mc := 0) (ms := 0) dX11_number_13 ms_X11_isDigit lk_X11_261 rfl (Nat.le_of_ble_eq_true rfl) (Nat.le_of_ble_eq_true rfl) h (fun r σ hq _ => ?_)
    obtain ⟨x2, I2, rfl, rfl, h⟩ := hq
    change J _ _ _ _ _ _ _ [vI x2] _ _
    refine J_if_eq (tgt := 30) dX11_number_16 (by decide) (fun c => ?_) (fun c => ?_)
    · replace h := h.1 c
      refine J_aload_n dX11_number_30 rfl rfl ?_
      refine J_iconst dX11_number_31 (ii_c rfl) ?_
      refine J_aload_n dX11_number_32 rfl rfl ?_
      refine J_getI dX11_number_33 ck_11 fw_X11_230 rfl sh_489 ?_
      refine J_callV (as := [_, _]) (mc1 := 0) (ms1 := 0) (mc := 0) (ms := 0) dX11_number_36 mv_X11_fail lk_X11_254 sh_489 rfl (Nat.le_of_ble_eq_true rfl) (Nat.le_of_ble_eq_true rfl) h (fun r σ hq _ => ?_)
      obtain ⟨I3, rfl, rfl, h⟩ := hq
      change J _ _ _ _ _ _ _ [] _ _
      refine J_iconst dX11_number_39 (ii_c rfl) ?_
      exact J_reti dX11_number_40 rfl h
    · replace h := h.2 c
      refine J_aload_n dX11_number_19 rfl rfl ?_
      refine J_getI dX11_number_20 ck_11 fw_X11_230 rfl sh_489 ?_
      refine J_aload_n dX11_number_23 rfl rfl ?_
      refine J_getI dX11_number_24 ck_11 fw_X11_244 rfl sh_489 ?_
      refine J_ic_ne (tgt := 41) dX11_number_27 (by decide) (fun c => ?_) (fun c => ?_)
      · replace h := h.1 c
        refine J_aload_n dX11_number_41 rfl rfl ?_
        refine J_getI dX11_number_42 ck_11 fw_X11_230 rfl sh_489 ?_
        refine J_istore_n dX11_number_45 rfl (by decide) ?_
        refine J_iconst dX11_number_46 (ii_c rfl) ?_
        refine J_istore dX11_number_47 (by decide) ?_
        exact h
      · replace h := h.2 c
        refine J_aload_n dX11_number_30 rfl rfl ?_
        refine J_iconst dX11_number_31 (ii_c rfl) ?_
        refine J_aload_n dX11_number_32 rfl rfl ?_
        refine J_getI dX11_number_33 ck_11 fw_X11_230 rfl sh_489 ?_
        refine J_callV (as := [_, _]) (mc1 := 0) (ms1 := 0) (mc := 0) (ms := 0) dX11_number_36 mv_X11_fail lk_X11_254 sh_489 rfl (Nat.le_of_ble_eq_true rfl) (Nat.le_of_ble_eq_true rfl) h (fun r σ hq _ => ?_)
        obtain ⟨I4, rfl, rfl, h⟩ := hq
        change J _ _ _ _ _ _ _ [] _ _
        refine J_iconst dX11_number_39 (ii_c rfl) ?_
        exact J_reti dX11_number_40 rfl h
  · replace h := h.2 c
    refine J_iconst dX11_number_7 (ii_c rfl) ?_
    exact J_reti dX11_number_8 rfl h
set_option maxRecDepth 20000 in
set_option maxHeartbeats 2000000 in
theorem bk_X11_number_49 {d : Nat} {I : HI} {Q : Option AV → AH → Prop} {a1 : Int} {a2 : Int} {a3 : Int} {a4 : Int}  (h : (((I 489 3) ≤ (I 489 2) → (∀ I1 : HI, I1 = up I 489 4 (I 489 2) → CI mX11_isIn d [vL a4, vL a1, vL a2] I1 (fun x1 I2 => ((x1 ≠ 0 → Q (some (vI a4)) (mk I2)) ∧ (x1 = 0 → CV mX11_fail d [vR 489, vI 2, vI a3] I2 (fun I3 => Q (some (vI a4)) (mk I3))))))) ∧ (¬ ((I 489 3) ≤ (I 489 2)) → ((0 : Int) ≤ (I 489 2) ∧ (I 489 2 : Int) < 1600) ∧ CI mX11_isDigit d [vI (I 490 (I 489 2).toNat)] I (fun x3 I4 => ((x3 = 0 → (∀ I5 : HI, I5 = up I4 489 4 (I4 489 2) → CI mX11_isIn d [vL a4, vL a1, vL a2] I5 (fun x4 I6 => ((x4 ≠ 0 → Q (some (vI a4)) (mk I6)) ∧ (x4 = 0 → CV mX11_fail d [vR 489, vI 2, vI a3] I6 (fun I7 => Q (some (vI a4)) (mk I7))))))) ∧ (¬ (x3 = 0) → (-2147483648 ≤ (I4 489 2) - a3 ∧ (I4 489 2) - a3 ≤ 2147483647) ∧ ((((I4 489 2) - a3) ≠ 4 → (-2147483648 ≤ 10 * a4 ∧ 10 * a4 ≤ 2147483647) ∧ ((0 : Int) ≤ (I4 489 2) ∧ (I4 489 2 : Int) < 1600) ∧ (-2147483648 ≤ (10 * a4) + (I4 490 (I4 489 2).toNat) ∧ (10 * a4) + (I4 490 (I4 489 2).toNat) ≤ 2147483647) ∧ (-2147483648 ≤ ((10 * a4) + (I4 490 (I4 489 2).toNat)) - 48 ∧ ((10 * a4) + (I4 490 (I4 489 2).toNat)) - 48 ≤ 2147483647) ∧ (-2147483648 ≤ (I4 489 2) + 1 ∧ (I4 489 2) + 1 ≤ 2147483647) ∧ (∀ I8 : HI, I8 = up I4 489 2 ((I4 489 2) + 1) → J none mX11_number (d + 1) 0 0 49 [(0, vR 489), (1, vI a1), (2, vI a2), (3, vI a3), (4, vI (((10 * a4) + (I4 490 (I4 489 2).toNat)) - 48))] [] (mk I8) Q)) ∧ (((I4 489 2) - a3) = 4 → CV mX11_fail d [vR 489, vI 1, vI (I4 489 2)] I4 (fun I9 => Q (some (vI 0)) (mk I9)))))))))) : J none mX11_number (d + 1) 0 0 49 [(0, vR 489), (1, vI a1), (2, vI a2), (3, vI a3), (4, vI a4)] [] (mk I) Q := by
  refine J_aload_n dX11_number_49 rfl rfl ?_
  refine J_getI dX11_number_50 ck_11 fw_X11_230 rfl sh_489 ?_
  refine J_aload_n dX11_number_53 rfl rfl ?_
  refine J_getI dX11_number_54 ck_11 fw_X11_233 rfl sh_489 ?_
  refine J_ic_ge (tgt := 129) dX11_number_57 (by decide) (fun c => ?_) (fun c => ?_)
  · replace h := h.1 c
    refine J_aload_n dX11_number_129 rfl rfl ?_
    refine J_aload_n dX11_number_130 rfl rfl ?_
    refine J_getI dX11_number_131 ck_11 fw_X11_230 rfl sh_489 ?_
    refine J_putI dX11_number_134 ck_11 fw_X11_244 rfl rfl (Or.inl rfl) sh_489 ?_
    replace h := h _ rfl
    refine J_iload dX11_number_137 rfl ?_
    refine J_i2l dX11_number_139 ?_
    refine J_iload_n dX11_number_140 rfl rfl ?_
    refine J_i2l dX11_number_141 ?_
    refine J_iload_n dX11_number_142 rfl rfl ?_
    refine J_i2l dX11_number_143 ?_
    refine J_callS (as := [_, _, _]) (mc1 := 0) (ms1 := 0) (mc := 0) (ms := 0) dX11_number_144 ms_X11_isIn lk_X11_264 rfl (Nat.le_of_ble_eq_true rfl) (Nat.le_of_ble_eq_true rfl) h (fun r σ hq _ => ?_)
    obtain ⟨x1, I2, rfl, rfl, h⟩ := hq
    change J _ _ _ _ _ _ _ [vI x1] _ _
    refine J_if_ne (tgt := 156) dX11_number_147 (by decide) (fun c => ?_) (fun c => ?_)
    · replace h := h.1 c
      refine J_iload dX11_number_156 rfl ?_
      exact J_reti dX11_number_158 rfl h
    · replace h := h.2 c
      refine J_aload_n dX11_number_150 rfl rfl ?_
      refine J_iconst dX11_number_151 (ii_c rfl) ?_
      refine J_iload_n dX11_number_152 rfl rfl ?_
      refine J_callV (as := [_, _]) (mc1 := 0) (ms1 := 0) (mc := 0) (ms := 0) dX11_number_153 mv_X11_fail lk_X11_254 sh_489 rfl (Nat.le_of_ble_eq_true rfl) (Nat.le_of_ble_eq_true rfl) h (fun r σ hq _ => ?_)
      obtain ⟨I3, rfl, rfl, h⟩ := hq
      change J _ _ _ _ _ _ _ [] _ _
      refine J_iload dX11_number_156 rfl ?_
      exact J_reti dX11_number_158 rfl h
  · replace h := h.2 c
    refine J_aload_n dX11_number_60 rfl rfl ?_
    refine J_getR dX11_number_61 ck_11 fw_X11_7 rfl sh_489 rr_489_0 ?_
    refine J_aload_n dX11_number_64 rfl rfl ?_
    refine J_getI dX11_number_65 ck_11 fw_X11_230 rfl sh_489 ?_
    refine J_iald dX11_number_68 sh_490 h.1.1 h.1.2 ?_
    replace h := h.2
    refine J_callS (as := [_]) (mc1 := 0) (ms1 := 0) (mc := 0) (ms := 0) dX11_number_69 ms_X11_isDigit lk_X11_261 rfl (Nat.le_of_ble_eq_true rfl) (Nat.le_of_ble_eq_true rfl) h (fun r σ hq _ => ?_)
    obtain ⟨x3, I4, rfl, rfl, h⟩ := hq
    change J _ _ _ _ _ _ _ [vI x3] _ _
    refine J_if_eq (tgt := 129) dX11_number_72 (by decide) (fun c => ?_) (fun c => ?_)
    · replace h := h.1 c
      refine J_aload_n dX11_number_129 rfl rfl ?_
      refine J_aload_n dX11_number_130 rfl rfl ?_
      refine J_getI dX11_number_131 ck_11 fw_X11_230 rfl sh_489 ?_
      refine J_putI dX11_number_134 ck_11 fw_X11_244 rfl rfl (Or.inl rfl) sh_489 ?_
      replace h := h _ rfl
      refine J_iload dX11_number_137 rfl ?_
      refine J_i2l dX11_number_139 ?_
      refine J_iload_n dX11_number_140 rfl rfl ?_
      refine J_i2l dX11_number_141 ?_
      refine J_iload_n dX11_number_142 rfl rfl ?_
      refine J_i2l dX11_number_143 ?_
      refine J_callS (as := [_, _, _]) (mc1 := 0) (ms1 := 0) (mc := 0) (ms := 0) dX11_number_144 ms_X11_isIn lk_X11_264 rfl (Nat.le_of_ble_eq_true rfl) (Nat.le_of_ble_eq_true rfl) h (fun r σ hq _ => ?_)
      obtain ⟨x4, I6, rfl, rfl, h⟩ := hq
      change J _ _ _ _ _ _ _ [vI x4] _ _
      refine J_if_ne (tgt := 156) dX11_number_147 (by decide) (fun c => ?_) (fun c => ?_)
      · replace h := h.1 c
        refine J_iload dX11_number_156 rfl ?_
        exact J_reti dX11_number_158 rfl h
      · replace h := h.2 c
        refine J_aload_n dX11_number_150 rfl rfl ?_
        refine J_iconst dX11_number_151 (ii_c rfl) ?_
        refine J_iload_n dX11_number_152 rfl rfl ?_
        refine J_callV (as := [_, _]) (mc1 := 0) (ms1 := 0) (mc := 0) (ms := 0) dX11_number_153 mv_X11_fail lk_X11_254 sh_489 rfl (Nat.le_of_ble_eq_true rfl) (Nat.le_of_ble_eq_true rfl) h (fun r σ hq _ => ?_)
        obtain ⟨I7, rfl, rfl, h⟩ := hq
        change J _ _ _ _ _ _ _ [] _ _
        refine J_iload dX11_number_156 rfl ?_
        exact J_reti dX11_number_158 rfl h
    · replace h := h.2 c
      refine J_aload_n dX11_number_75 rfl rfl ?_
      refine J_getI dX11_number_76 ck_11 fw_X11_230 rfl sh_489 ?_
      refine J_iload_n dX11_number_79 rfl rfl ?_
      refine J_isubN dX11_number_80 h.1 ?_
      replace h := h.2
      refine J_iconst dX11_number_81 (ii_c rfl) ?_
      refine J_ic_ne (tgt := 96) dX11_number_82 (by decide) (fun c => ?_) (fun c => ?_)
      · replace h := h.1 c
        refine J_bipush dX11_number_96 (ii_c rfl) (by decide) ?_
        refine J_iload dX11_number_98 rfl ?_
        refine J_imulN dX11_number_100 h.1 ?_
        replace h := h.2
        refine J_aload_n dX11_number_101 rfl rfl ?_
        refine J_getR dX11_number_102 ck_11 fw_X11_7 rfl sh_489 rr_489_0 ?_
        refine J_aload_n dX11_number_105 rfl rfl ?_
        refine J_getI dX11_number_106 ck_11 fw_X11_230 rfl sh_489 ?_
        refine J_iald dX11_number_109 sh_490 h.1.1 h.1.2 ?_
        replace h := h.2
        refine J_iaddN dX11_number_110 h.1 ?_
        replace h := h.2
        refine J_bipush dX11_number_111 (ii_c rfl) (by decide) ?_
        refine J_isubN dX11_number_113 h.1 ?_
        replace h := h.2
        refine J_istore dX11_number_114 (by decide) ?_
        refine J_aload_n dX11_number_116 rfl rfl ?_
        refine J_dup dX11_number_117 rfl ?_
        refine J_getI dX11_number_118 ck_11 fw_X11_230 rfl sh_489 ?_
        refine J_iconst dX11_number_121 (ii_c rfl) ?_
        refine J_iaddN dX11_number_122 h.1 ?_
        replace h := h.2
        refine J_putI dX11_number_123 ck_11 fw_X11_230 rfl rfl (Or.inl rfl) sh_489 ?_
        replace h := h _ rfl
        refine J_goto (tgt := 49) dX11_number_126 (by decide) ?_
        exact h
      · replace h := h.2 c
        refine J_aload_n dX11_number_85 rfl rfl ?_
        refine J_iconst dX11_number_86 (ii_c rfl) ?_
        refine J_aload_n dX11_number_87 rfl rfl ?_
        refine J_getI dX11_number_88 ck_11 fw_X11_230 rfl sh_489 ?_
        refine J_callV (as := [_, _]) (mc1 := 0) (ms1 := 0) (mc := 0) (ms := 0) dX11_number_91 mv_X11_fail lk_X11_254 sh_489 rfl (Nat.le_of_ble_eq_true rfl) (Nat.le_of_ble_eq_true rfl) h (fun r σ hq _ => ?_)
        obtain ⟨I9, rfl, rfl, h⟩ := hq
        change J _ _ _ _ _ _ _ [] _ _
        refine J_iconst dX11_number_94 (ii_c rfl) ?_
        exact J_reti dX11_number_95 rfl h
set_option maxRecDepth 20000 in
set_option maxHeartbeats 2000000 in
theorem bk_X11_isOwnHere_0 {d : Nat} {I : HI} {Q : Option AV → AH → Prop}   (h : CI mX11_isHere d [vR 489, vR 491] I (fun x1 I1 => ((x1 ≠ 0 → J none mX11_isOwnHere (d + 1) 0 0 66 [(0, vR 489)] [] (mk I1) Q) ∧ (x1 = 0 → CI mX11_isHere d [vR 489, vR 492] I1 (fun x2 I2 => ((x2 ≠ 0 → J none mX11_isOwnHere (d + 1) 0 0 66 [(0, vR 489)] [] (mk I2) Q) ∧ (x2 = 0 → CI mX11_isHere d [vR 489, vR 493] I2 (fun x3 I3 => ((x3 ≠ 0 → J none mX11_isOwnHere (d + 1) 0 0 66 [(0, vR 489)] [] (mk I3) Q) ∧ (x3 = 0 → CI mX11_isHere d [vR 489, vR 494] I3 (fun x4 I4 => ((x4 ≠ 0 → J none mX11_isOwnHere (d + 1) 0 0 66 [(0, vR 489)] [] (mk I4) Q) ∧ (x4 = 0 → CI mX11_isHere d [vR 489, vR 495] I4 (fun x5 I5 => ((x5 ≠ 0 → J none mX11_isOwnHere (d + 1) 0 0 66 [(0, vR 489)] [] (mk I5) Q) ∧ (x5 = 0 → CI mX11_isHere d [vR 489, vR 496] I5 (fun x6 I6 => ((x6 = 0 → CI mX11_isHere d [vR 489, vR 497] I6 (fun x7 I7 => ((x7 ≠ 0 → J none mX11_isOwnHere (d + 1) 0 0 142 [(0, vR 489), (1, vI 0)] [] (mk I7) Q) ∧ (x7 = 0 → CI mX11_isHere d [vR 489, vR 498] I7 (fun x8 I8 => ((x8 ≠ 0 → J none mX11_isOwnHere (d + 1) 0 0 142 [(0, vR 489), (1, vI 0)] [] (mk I8) Q) ∧ (x8 = 0 → CI mX11_isHere d [vR 489, vR 499] I8 (fun x9 I9 => ((x9 ≠ 0 → J none mX11_isOwnHere (d + 1) 0 0 142 [(0, vR 489), (1, vI 0)] [] (mk I9) Q) ∧ (x9 = 0 → CI mX11_isHere d [vR 489, vR 500] I9 (fun x10 I10 => ((x10 ≠ 0 → J none mX11_isOwnHere (d + 1) 0 0 142 [(0, vR 489), (1, vI 0)] [] (mk I10) Q) ∧ (x10 = 0 → CI mX11_isHere d [vR 489, vR 501] I10 (fun x11 I11 => ((x11 ≠ 0 → J none mX11_isOwnHere (d + 1) 0 0 142 [(0, vR 489), (1, vI 0)] [] (mk I11) Q) ∧ (x11 = 0 → CI mX11_isHere d [vR 489, vR 502] I11 (fun x12 I12 => ((x12 = 0 → CI mX11_isHere d [vR 489, vR 503] I12 (fun x13 I13 => ((x13 ≠ 0 → J none mX11_isOwnHere (d + 1) 0 0 218 [(0, vR 489), (1, vI 0)] [] (mk I13) Q) ∧ (x13 = 0 → CI mX11_isHere d [vR 489, vR 504] I13 (fun x14 I14 => ((x14 ≠ 0 → J none mX11_isOwnHere (d + 1) 0 0 218 [(0, vR 489), (1, vI 0)] [] (mk I14) Q) ∧ (x14 = 0 → CI mX11_isHere d [vR 489, vR 505] I14 (fun x15 I15 => ((x15 ≠ 0 → J none mX11_isOwnHere (d + 1) 0 0 218 [(0, vR 489), (1, vI 0)] [] (mk I15) Q) ∧ (x15 = 0 → CI mX11_isHere d [vR 489, vR 506] I15 (fun x16 I16 => ((x16 ≠ 0 → J none mX11_isOwnHere (d + 1) 0 0 218 [(0, vR 489), (1, vI 0)] [] (mk I16) Q) ∧ (x16 = 0 → CI mX11_isHere d [vR 489, vR 507] I16 (fun x17 I17 => ((x17 ≠ 0 → J none mX11_isOwnHere (d + 1) 0 0 218 [(0, vR 489), (1, vI 0)] [] (mk I17) Q) ∧ (x17 = 0 → CI mX11_isHere d [vR 489, vR 508] I17 (fun x18 I18 => ((x18 = 0 → CI mX11_isHere d [vR 489, vR 509] I18 (fun x19 I19 => ((x19 ≠ 0 → Q (some (vI 1)) (mk I19)) ∧ (x19 = 0 → CI mX11_isHere d [vR 489, vR 510] I19 (fun x20 I20 => ((x20 ≠ 0 → Q (some (vI 1)) (mk I20)) ∧ (x20 = 0 → CI mX11_isHere d [vR 489, vR 511] I20 (fun x21 I21 => ((x21 ≠ 0 → Q (some (vI 1)) (mk I21)) ∧ (x21 = 0 → CI mX11_isHere d [vR 489, vR 512] I21 (fun x22 I22 => ((x22 ≠ 0 → Q (some (vI 1)) (mk I22)) ∧ (x22 = 0 → CI mX11_isHere d [vR 489, vR 513] I22 (fun x23 I23 => ((x23 ≠ 0 → Q (some (vI 1)) (mk I23)) ∧ (x23 = 0 → CI mX11_isHere d [vR 489, vR 514] I23 (fun x24 I24 => ((x24 = 0 → CI mX11_isHere d [vR 489, vR 515] I24 (fun x25 I25 => ((x25 ≠ 0 → Q (some (vI 1)) (mk I25)) ∧ (x25 = 0 → CI mX11_isHere d [vR 489, vR 516] I25 (fun x26 I26 => ((x26 ≠ 0 → Q (some (vI 1)) (mk I26)) ∧ (x26 = 0 → CI mX11_isHere d [vR 489, vR 517] I26 (fun x27 I27 => ((x27 = 0 → Q (some (vI 0)) (mk I27)) ∧ (¬ (x27 = 0) → Q (some (vI 1)) (mk I27))))))))))) ∧ (¬ (x24 = 0) → Q (some (vI 1)) (mk I24)))))))))))))))))))) ∧ (¬ (x18 = 0) → J none mX11_isOwnHere (d + 1) 0 0 218 [(0, vR 489), (1, vI 0)] [] (mk I18) Q))))))))))))))))))) ∧ (¬ (x12 = 0) → J none mX11_isOwnHere (d + 1) 0 0 142 [(0, vR 489), (1, vI 0)] [] (mk I12) Q))))))))))))))))))) ∧ (¬ (x6 = 0) → J none mX11_isOwnHere (d + 1) 0 0 66 [(0, vR 489)] [] (mk I6) Q))))))))))))))))))) : J none mX11_isOwnHere (d + 1) 0 0 0 [(0, vR 489)] [] (mk I) Q := by
  refine J_aload_n dX11_isOwnHere_0 rfl rfl ?_
  refine J_aload_n dX11_isOwnHere_1 rfl rfl ?_
  refine J_getR dX11_isOwnHere_2 ck_11 fw_X11_17 rfl sh_489 rr_489_9 ?_
  refine J_callV (as := [_]) (mc1 := 0) (ms1 := 0) (mc := 0) (ms := 0) dX11_isOwnHere_5 mv_X11_isHere lk_X11_247 sh_489 rfl (Nat.le_of_ble_eq_true rfl) (Nat.le_of_ble_eq_true rfl) h (fun r σ hq _ => ?_)
  obtain ⟨x1, I1, rfl, rfl, h⟩ := hq
  change J _ _ _ _ _ _ _ [vI x1] _ _
  refine J_if_ne (tgt := 66) dX11_isOwnHere_8 (by decide) (fun c => ?_) (fun c => ?_)
  · replace h := h.1 c
    exact h
  · replace h := h.2 c
    refine J_aload_n dX11_isOwnHere_11 rfl rfl ?_
    refine J_aload_n dX11_isOwnHere_12 rfl rfl ?_
    refine J_getR dX11_isOwnHere_13 ck_11 fw_X11_21 rfl sh_489 rr_489_10 ?_
    refine J_callV (as := [_]) (mc1 := 0) (ms1 := 0) (mc := 0) (ms := 0) dX11_isOwnHere_16 mv_X11_isHere lk_X11_247 sh_489 rfl (Nat.le_of_ble_eq_true rfl) (Nat.le_of_ble_eq_true rfl) h (fun r σ hq _ => ?_)
    obtain ⟨x2, I2, rfl, rfl, h⟩ := hq
    change J _ _ _ _ _ _ _ [vI x2] _ _
    refine J_if_ne (tgt := 66) dX11_isOwnHere_19 (by decide) (fun c => ?_) (fun c => ?_)
    · replace h := h.1 c
      exact h
    · replace h := h.2 c
      refine J_aload_n dX11_isOwnHere_22 rfl rfl ?_
      refine J_aload_n dX11_isOwnHere_23 rfl rfl ?_
      refine J_getR dX11_isOwnHere_24 ck_11 fw_X11_24 rfl sh_489 rr_489_11 ?_
      refine J_callV (as := [_]) (mc1 := 0) (ms1 := 0) (mc := 0) (ms := 0) dX11_isOwnHere_27 mv_X11_isHere lk_X11_247 sh_489 rfl (Nat.le_of_ble_eq_true rfl) (Nat.le_of_ble_eq_true rfl) h (fun r σ hq _ => ?_)
      obtain ⟨x3, I3, rfl, rfl, h⟩ := hq
      change J _ _ _ _ _ _ _ [vI x3] _ _
      refine J_if_ne (tgt := 66) dX11_isOwnHere_30 (by decide) (fun c => ?_) (fun c => ?_)
      · replace h := h.1 c
        exact h
      · replace h := h.2 c
        refine J_aload_n dX11_isOwnHere_33 rfl rfl ?_
        refine J_aload_n dX11_isOwnHere_34 rfl rfl ?_
        refine J_getR dX11_isOwnHere_35 ck_11 fw_X11_27 rfl sh_489 rr_489_12 ?_
        refine J_callV (as := [_]) (mc1 := 0) (ms1 := 0) (mc := 0) (ms := 0) dX11_isOwnHere_38 mv_X11_isHere lk_X11_247 sh_489 rfl (Nat.le_of_ble_eq_true rfl) (Nat.le_of_ble_eq_true rfl) h (fun r σ hq _ => ?_)
        obtain ⟨x4, I4, rfl, rfl, h⟩ := hq
        change J _ _ _ _ _ _ _ [vI x4] _ _
        refine J_if_ne (tgt := 66) dX11_isOwnHere_41 (by decide) (fun c => ?_) (fun c => ?_)
        · replace h := h.1 c
          exact h
        · replace h := h.2 c
          refine J_aload_n dX11_isOwnHere_44 rfl rfl ?_
          refine J_aload_n dX11_isOwnHere_45 rfl rfl ?_
          refine J_getR dX11_isOwnHere_46 ck_11 fw_X11_30 rfl sh_489 rr_489_13 ?_
          refine J_callV (as := [_]) (mc1 := 0) (ms1 := 0) (mc := 0) (ms := 0) dX11_isOwnHere_49 mv_X11_isHere lk_X11_247 sh_489 rfl (Nat.le_of_ble_eq_true rfl) (Nat.le_of_ble_eq_true rfl) h (fun r σ hq _ => ?_)
          obtain ⟨x5, I5, rfl, rfl, h⟩ := hq
          change J _ _ _ _ _ _ _ [vI x5] _ _
          refine J_if_ne (tgt := 66) dX11_isOwnHere_52 (by decide) (fun c => ?_) (fun c => ?_)
          · replace h := h.1 c
            exact h
          · replace h := h.2 c
            refine J_aload_n dX11_isOwnHere_55 rfl rfl ?_
            refine J_aload_n dX11_isOwnHere_56 rfl rfl ?_
            refine J_getR dX11_isOwnHere_57 ck_11 fw_X11_33 rfl sh_489 rr_489_14 ?_
            refine J_callV (as := [_]) (mc1 := 0) (ms1 := 0) (mc := 0) (ms := 0) dX11_isOwnHere_60 mv_X11_isHere lk_X11_247 sh_489 rfl (Nat.le_of_ble_eq_true rfl) (Nat.le_of_ble_eq_true rfl) h (fun r σ hq _ => ?_)
            obtain ⟨x6, I6, rfl, rfl, h⟩ := hq
            change J _ _ _ _ _ _ _ [vI x6] _ _
            refine J_if_eq (tgt := 70) dX11_isOwnHere_63 (by decide) (fun c => ?_) (fun c => ?_)
            · replace h := h.1 c
              refine J_iconst dX11_isOwnHere_70 (ii_c rfl) ?_
              refine J_istore_n dX11_isOwnHere_71 rfl (by decide) ?_
              refine J_iload_n dX11_isOwnHere_72 rfl rfl ?_
              refine J_if_ne (tgt := 142) dX11_isOwnHere_73 (by decide) (fun c => absurd rfl c) (fun _ => ?_)
              refine J_aload_n dX11_isOwnHere_76 rfl rfl ?_
              refine J_aload_n dX11_isOwnHere_77 rfl rfl ?_
              refine J_getR dX11_isOwnHere_78 ck_11 fw_X11_36 rfl sh_489 rr_489_15 ?_
              refine J_callV (as := [_]) (mc1 := 0) (ms1 := 0) (mc := 0) (ms := 0) dX11_isOwnHere_81 mv_X11_isHere lk_X11_247 sh_489 rfl (Nat.le_of_ble_eq_true rfl) (Nat.le_of_ble_eq_true rfl) h (fun r σ hq _ => ?_)
              obtain ⟨x7, I7, rfl, rfl, h⟩ := hq
              change J _ _ _ _ _ _ _ [vI x7] _ _
              refine J_if_ne (tgt := 142) dX11_isOwnHere_84 (by decide) (fun c => ?_) (fun c => ?_)
              · replace h := h.1 c
                exact h
              · replace h := h.2 c
                refine J_aload_n dX11_isOwnHere_87 rfl rfl ?_
                refine J_aload_n dX11_isOwnHere_88 rfl rfl ?_
                refine J_getR dX11_isOwnHere_89 ck_11 fw_X11_39 rfl sh_489 rr_489_16 ?_
                refine J_callV (as := [_]) (mc1 := 0) (ms1 := 0) (mc := 0) (ms := 0) dX11_isOwnHere_92 mv_X11_isHere lk_X11_247 sh_489 rfl (Nat.le_of_ble_eq_true rfl) (Nat.le_of_ble_eq_true rfl) h (fun r σ hq _ => ?_)
                obtain ⟨x8, I8, rfl, rfl, h⟩ := hq
                change J _ _ _ _ _ _ _ [vI x8] _ _
                refine J_if_ne (tgt := 142) dX11_isOwnHere_95 (by decide) (fun c => ?_) (fun c => ?_)
                · replace h := h.1 c
                  exact h
                · replace h := h.2 c
                  refine J_aload_n dX11_isOwnHere_98 rfl rfl ?_
                  refine J_aload_n dX11_isOwnHere_99 rfl rfl ?_
                  refine J_getR dX11_isOwnHere_100 ck_11 fw_X11_42 rfl sh_489 rr_489_17 ?_
                  refine J_callV (as := [_]) (mc1 := 0) (ms1 := 0) (mc := 0) (ms := 0) dX11_isOwnHere_103 mv_X11_isHere lk_X11_247 sh_489 rfl (Nat.le_of_ble_eq_true rfl) (Nat.le_of_ble_eq_true rfl) h (fun r σ hq _ => ?_)
                  obtain ⟨x9, I9, rfl, rfl, h⟩ := hq
                  change J _ _ _ _ _ _ _ [vI x9] _ _
                  refine J_if_ne (tgt := 142) dX11_isOwnHere_106 (by decide) (fun c => ?_) (fun c => ?_)
                  · replace h := h.1 c
                    exact h
                  · replace h := h.2 c
                    refine J_aload_n dX11_isOwnHere_109 rfl rfl ?_
                    refine J_aload_n dX11_isOwnHere_110 rfl rfl ?_
                    refine J_getR dX11_isOwnHere_111 ck_11 fw_X11_45 rfl sh_489 rr_489_18 ?_
                    refine J_callV (as := [_]) (mc1 := 0) (ms1 := 0) (mc := 0) (ms := 0) dX11_isOwnHere_114 mv_X11_isHere lk_X11_247 sh_489 rfl (Nat.le_of_ble_eq_true rfl) (Nat.le_of_ble_eq_true rfl) h (fun r σ hq _ => ?_)
                    obtain ⟨x10, I10, rfl, rfl, h⟩ := hq
                    change J _ _ _ _ _ _ _ [vI x10] _ _
                    refine J_if_ne (tgt := 142) dX11_isOwnHere_117 (by decide) (fun c => ?_) (fun c => ?_)
                    · replace h := h.1 c
                      exact h
                    · replace h := h.2 c
                      refine J_aload_n dX11_isOwnHere_120 rfl rfl ?_
                      refine J_aload_n dX11_isOwnHere_121 rfl rfl ?_
                      refine J_getR dX11_isOwnHere_122 ck_11 fw_X11_48 rfl sh_489 rr_489_19 ?_
                      refine J_callV (as := [_]) (mc1 := 0) (ms1 := 0) (mc := 0) (ms := 0) dX11_isOwnHere_125 mv_X11_isHere lk_X11_247 sh_489 rfl (Nat.le_of_ble_eq_true rfl) (Nat.le_of_ble_eq_true rfl) h (fun r σ hq _ => ?_)
                      obtain ⟨x11, I11, rfl, rfl, h⟩ := hq
                      change J _ _ _ _ _ _ _ [vI x11] _ _
                      refine J_if_ne (tgt := 142) dX11_isOwnHere_128 (by decide) (fun c => ?_) (fun c => ?_)
                      · replace h := h.1 c
                        exact h
                      · replace h := h.2 c
                        refine J_aload_n dX11_isOwnHere_131 rfl rfl ?_
                        refine J_aload_n dX11_isOwnHere_132 rfl rfl ?_
                        refine J_getR dX11_isOwnHere_133 ck_11 fw_X11_51 rfl sh_489 rr_489_20 ?_
                        refine J_callV (as := [_]) (mc1 := 0) (ms1 := 0) (mc := 0) (ms := 0) dX11_isOwnHere_136 mv_X11_isHere lk_X11_247 sh_489 rfl (Nat.le_of_ble_eq_true rfl) (Nat.le_of_ble_eq_true rfl) h (fun r σ hq _ => ?_)
                        obtain ⟨x12, I12, rfl, rfl, h⟩ := hq
                        change J _ _ _ _ _ _ _ [vI x12] _ _
                        refine J_if_eq (tgt := 146) dX11_isOwnHere_139 (by decide) (fun c => ?_) (fun c => ?_)
                        · replace h := h.1 c
                          refine J_iconst dX11_isOwnHere_146 (ii_c rfl) ?_
                          refine J_istore_n dX11_isOwnHere_147 rfl (by decide) ?_
                          refine J_iload_n dX11_isOwnHere_148 rfl rfl ?_
                          refine J_if_ne (tgt := 218) dX11_isOwnHere_149 (by decide) (fun c => absurd rfl c) (fun _ => ?_)
                          refine J_aload_n dX11_isOwnHere_152 rfl rfl ?_
                          refine J_aload_n dX11_isOwnHere_153 rfl rfl ?_
                          refine J_getR dX11_isOwnHere_154 ck_11 fw_X11_54 rfl sh_489 rr_489_21 ?_
                          refine J_callV (as := [_]) (mc1 := 0) (ms1 := 0) (mc := 0) (ms := 0) dX11_isOwnHere_157 mv_X11_isHere lk_X11_247 sh_489 rfl (Nat.le_of_ble_eq_true rfl) (Nat.le_of_ble_eq_true rfl) h (fun r σ hq _ => ?_)
                          obtain ⟨x13, I13, rfl, rfl, h⟩ := hq
                          change J _ _ _ _ _ _ _ [vI x13] _ _
                          refine J_if_ne (tgt := 218) dX11_isOwnHere_160 (by decide) (fun c => ?_) (fun c => ?_)
                          · replace h := h.1 c
                            exact h
                          · replace h := h.2 c
                            refine J_aload_n dX11_isOwnHere_163 rfl rfl ?_
                            refine J_aload_n dX11_isOwnHere_164 rfl rfl ?_
                            refine J_getR dX11_isOwnHere_165 ck_11 fw_X11_57 rfl sh_489 rr_489_22 ?_
                            refine J_callV (as := [_]) (mc1 := 0) (ms1 := 0) (mc := 0) (ms := 0) dX11_isOwnHere_168 mv_X11_isHere lk_X11_247 sh_489 rfl (Nat.le_of_ble_eq_true rfl) (Nat.le_of_ble_eq_true rfl) h (fun r σ hq _ => ?_)
                            obtain ⟨x14, I14, rfl, rfl, h⟩ := hq
                            change J _ _ _ _ _ _ _ [vI x14] _ _
                            refine J_if_ne (tgt := 218) dX11_isOwnHere_171 (by decide) (fun c => ?_) (fun c => ?_)
                            · replace h := h.1 c
                              exact h
                            · replace h := h.2 c
                              refine J_aload_n dX11_isOwnHere_174 rfl rfl ?_
                              refine J_aload_n dX11_isOwnHere_175 rfl rfl ?_
                              refine J_getR dX11_isOwnHere_176 ck_11 fw_X11_60 rfl sh_489 rr_489_23 ?_
                              refine J_callV (as := [_]) (mc1 := 0) (ms1 := 0) (mc := 0) (ms := 0) dX11_isOwnHere_179 mv_X11_isHere lk_X11_247 sh_489 rfl (Nat.le_of_ble_eq_true rfl) (Nat.le_of_ble_eq_true rfl) h (fun r σ hq _ => ?_)
                              obtain ⟨x15, I15, rfl, rfl, h⟩ := hq
                              change J _ _ _ _ _ _ _ [vI x15] _ _
                              refine J_if_ne (tgt := 218) dX11_isOwnHere_182 (by decide) (fun c => ?_) (fun c => ?_)
                              · replace h := h.1 c
                                exact h
                              · replace h := h.2 c
                                refine J_aload_n dX11_isOwnHere_185 rfl rfl ?_
                                refine J_aload_n dX11_isOwnHere_186 rfl rfl ?_
                                refine J_getR dX11_isOwnHere_187 ck_11 fw_X11_63 rfl sh_489 rr_489_24 ?_
                                refine J_callV (as := [_]) (mc1 := 0) (ms1 := 0) (mc := 0) (ms := 0) dX11_isOwnHere_190 mv_X11_isHere lk_X11_247 sh_489 rfl (Nat.le_of_ble_eq_true rfl) (Nat.le_of_ble_eq_true rfl) h (fun r σ hq _ => ?_)
                                obtain ⟨x16, I16, rfl, rfl, h⟩ := hq
                                change J _ _ _ _ _ _ _ [vI x16] _ _
                                refine J_if_ne (tgt := 218) dX11_isOwnHere_193 (by decide) (fun c => ?_) (fun c => ?_)
                                · replace h := h.1 c
                                  exact h
                                · replace h := h.2 c
                                  refine J_aload_n dX11_isOwnHere_196 rfl rfl ?_
                                  refine J_aload_n dX11_isOwnHere_197 rfl rfl ?_
                                  refine J_getR dX11_isOwnHere_198 ck_11 fw_X11_66 rfl sh_489 rr_489_25 ?_
                                  refine J_callV (as := [_]) (mc1 := 0) (ms1 := 0) (mc := 0) (ms := 0) dX11_isOwnHere_201 mv_X11_isHere lk_X11_247 sh_489 rfl (Nat.le_of_ble_eq_true rfl) (Nat.le_of_ble_eq_true rfl) h (fun r σ hq _ => ?_)
                                  obtain ⟨x17, I17, rfl, rfl, h⟩ := hq
                                  change J _ _ _ _ _ _ _ [vI x17] _ _
                                  refine J_if_ne (tgt := 218) dX11_isOwnHere_204 (by decide) (fun c => ?_) (fun c => ?_)
                                  · replace h := h.1 c
                                    exact h
                                  · replace h := h.2 c
                                    refine J_aload_n dX11_isOwnHere_207 rfl rfl ?_
                                    refine J_aload_n dX11_isOwnHere_208 rfl rfl ?_
                                    refine J_getR dX11_isOwnHere_209 ck_11 fw_X11_69 rfl sh_489 rr_489_26 ?_
                                    refine J_callV (as := [_]) (mc1 := 0) (ms1 := 0) (mc := 0) (ms := 0) dX11_isOwnHere_212 mv_X11_isHere lk_X11_247 sh_489 rfl (Nat.le_of_ble_eq_true rfl) (Nat.le_of_ble_eq_true rfl) h (fun r σ hq _ => ?_)
                                    obtain ⟨x18, I18, rfl, rfl, h⟩ := hq
                                    change J _ _ _ _ _ _ _ [vI x18] _ _
                                    refine J_if_eq (tgt := 222) dX11_isOwnHere_215 (by decide) (fun c => ?_) (fun c => ?_)
                                    · replace h := h.1 c
                                      refine J_iconst dX11_isOwnHere_222 (ii_c rfl) ?_
                                      refine J_istore_n dX11_isOwnHere_223 rfl (by decide) ?_
                                      refine J_iload_n dX11_isOwnHere_224 rfl rfl ?_
                                      refine J_if_ne (tgt := 294) dX11_isOwnHere_225 (by decide) (fun c => absurd rfl c) (fun _ => ?_)
                                      refine J_aload_n dX11_isOwnHere_228 rfl rfl ?_
                                      refine J_aload_n dX11_isOwnHere_229 rfl rfl ?_
                                      refine J_getR dX11_isOwnHere_230 ck_11 fw_X11_72 rfl sh_489 rr_489_27 ?_
                                      refine J_callV (as := [_]) (mc1 := 0) (ms1 := 0) (mc := 0) (ms := 0) dX11_isOwnHere_233 mv_X11_isHere lk_X11_247 sh_489 rfl (Nat.le_of_ble_eq_true rfl) (Nat.le_of_ble_eq_true rfl) h (fun r σ hq _ => ?_)
                                      obtain ⟨x19, I19, rfl, rfl, h⟩ := hq
                                      change J _ _ _ _ _ _ _ [vI x19] _ _
                                      refine J_if_ne (tgt := 294) dX11_isOwnHere_236 (by decide) (fun c => ?_) (fun c => ?_)
                                      · replace h := h.1 c
                                        refine J_iconst dX11_isOwnHere_294 (ii_c rfl) ?_
                                        refine J_goto (tgt := 299) dX11_isOwnHere_295 (by decide) ?_
                                        refine J_istore_n dX11_isOwnHere_299 rfl (by decide) ?_
                                        refine J_iload_n dX11_isOwnHere_300 rfl rfl ?_
                                        refine J_if_ne (tgt := 337) dX11_isOwnHere_301 (by decide) (fun _ => ?_) (fun c => absurd c (by decide))
                                        refine J_iconst dX11_isOwnHere_337 (ii_c rfl) ?_
                                        refine J_goto (tgt := 342) dX11_isOwnHere_338 (by decide) ?_
                                        refine J_istore_n dX11_isOwnHere_342 rfl (by decide) ?_
                                        refine J_iload_n dX11_isOwnHere_343 rfl rfl ?_
                                        exact J_retz dX11_isOwnHere_344 rfl (Or.inr rfl) h
                                      · replace h := h.2 c
                                        refine J_aload_n dX11_isOwnHere_239 rfl rfl ?_
                                        refine J_aload_n dX11_isOwnHere_240 rfl rfl ?_
                                        refine J_getR dX11_isOwnHere_241 ck_11 fw_X11_75 rfl sh_489 rr_489_28 ?_
                                        refine J_callV (as := [_]) (mc1 := 0) (ms1 := 0) (mc := 0) (ms := 0) dX11_isOwnHere_244 mv_X11_isHere lk_X11_247 sh_489 rfl (Nat.le_of_ble_eq_true rfl) (Nat.le_of_ble_eq_true rfl) h (fun r σ hq _ => ?_)
                                        obtain ⟨x20, I20, rfl, rfl, h⟩ := hq
                                        change J _ _ _ _ _ _ _ [vI x20] _ _
                                        refine J_if_ne (tgt := 294) dX11_isOwnHere_247 (by decide) (fun c => ?_) (fun c => ?_)
                                        · replace h := h.1 c
                                          refine J_iconst dX11_isOwnHere_294 (ii_c rfl) ?_
                                          refine J_goto (tgt := 299) dX11_isOwnHere_295 (by decide) ?_
                                          refine J_istore_n dX11_isOwnHere_299 rfl (by decide) ?_
                                          refine J_iload_n dX11_isOwnHere_300 rfl rfl ?_
                                          refine J_if_ne (tgt := 337) dX11_isOwnHere_301 (by decide) (fun _ => ?_) (fun c => absurd c (by decide))
                                          refine J_iconst dX11_isOwnHere_337 (ii_c rfl) ?_
                                          refine J_goto (tgt := 342) dX11_isOwnHere_338 (by decide) ?_
                                          refine J_istore_n dX11_isOwnHere_342 rfl (by decide) ?_
                                          refine J_iload_n dX11_isOwnHere_343 rfl rfl ?_
                                          exact J_retz dX11_isOwnHere_344 rfl (Or.inr rfl) h
                                        · replace h := h.2 c
                                          refine J_aload_n dX11_isOwnHere_250 rfl rfl ?_
                                          refine J_aload_n dX11_isOwnHere_251 rfl rfl ?_
                                          refine J_getR dX11_isOwnHere_252 ck_11 fw_X11_78 rfl sh_489 rr_489_29 ?_
                                          refine J_callV (as := [_]) (mc1 := 0) (ms1 := 0) (mc := 0) (ms := 0) dX11_isOwnHere_255 mv_X11_isHere lk_X11_247 sh_489 rfl (Nat.le_of_ble_eq_true rfl) (Nat.le_of_ble_eq_true rfl) h (fun r σ hq _ => ?_)
                                          obtain ⟨x21, I21, rfl, rfl, h⟩ := hq
                                          change J _ _ _ _ _ _ _ [vI x21] _ _
                                          refine J_if_ne (tgt := 294) dX11_isOwnHere_258 (by decide) (fun c => ?_) (fun c => ?_)
                                          · replace h := h.1 c
                                            refine J_iconst dX11_isOwnHere_294 (ii_c rfl) ?_
                                            refine J_goto (tgt := 299) dX11_isOwnHere_295 (by decide) ?_
                                            refine J_istore_n dX11_isOwnHere_299 rfl (by decide) ?_
                                            refine J_iload_n dX11_isOwnHere_300 rfl rfl ?_
                                            refine J_if_ne (tgt := 337) dX11_isOwnHere_301 (by decide) (fun _ => ?_) (fun c => absurd c (by decide))
                                            refine J_iconst dX11_isOwnHere_337 (ii_c rfl) ?_
                                            refine J_goto (tgt := 342) dX11_isOwnHere_338 (by decide) ?_
                                            refine J_istore_n dX11_isOwnHere_342 rfl (by decide) ?_
                                            refine J_iload_n dX11_isOwnHere_343 rfl rfl ?_
                                            exact J_retz dX11_isOwnHere_344 rfl (Or.inr rfl) h
                                          · replace h := h.2 c
                                            refine J_aload_n dX11_isOwnHere_261 rfl rfl ?_
                                            refine J_aload_n dX11_isOwnHere_262 rfl rfl ?_
                                            refine J_getR dX11_isOwnHere_263 ck_11 fw_X11_81 rfl sh_489 rr_489_30 ?_
                                            refine J_callV (as := [_]) (mc1 := 0) (ms1 := 0) (mc := 0) (ms := 0) dX11_isOwnHere_266 mv_X11_isHere lk_X11_247 sh_489 rfl (Nat.le_of_ble_eq_true rfl) (Nat.le_of_ble_eq_true rfl) h (fun r σ hq _ => ?_)
                                            obtain ⟨x22, I22, rfl, rfl, h⟩ := hq
                                            change J _ _ _ _ _ _ _ [vI x22] _ _
                                            refine J_if_ne (tgt := 294) dX11_isOwnHere_269 (by decide) (fun c => ?_) (fun c => ?_)
                                            · replace h := h.1 c
                                              refine J_iconst dX11_isOwnHere_294 (ii_c rfl) ?_
                                              refine J_goto (tgt := 299) dX11_isOwnHere_295 (by decide) ?_
                                              refine J_istore_n dX11_isOwnHere_299 rfl (by decide) ?_
                                              refine J_iload_n dX11_isOwnHere_300 rfl rfl ?_
                                              refine J_if_ne (tgt := 337) dX11_isOwnHere_301 (by decide) (fun _ => ?_) (fun c => absurd c (by decide))
                                              refine J_iconst dX11_isOwnHere_337 (ii_c rfl) ?_
                                              refine J_goto (tgt := 342) dX11_isOwnHere_338 (by decide) ?_
                                              refine J_istore_n dX11_isOwnHere_342 rfl (by decide) ?_
                                              refine J_iload_n dX11_isOwnHere_343 rfl rfl ?_
                                              exact J_retz dX11_isOwnHere_344 rfl (Or.inr rfl) h
                                            · replace h := h.2 c
                                              refine J_aload_n dX11_isOwnHere_272 rfl rfl ?_
                                              refine J_aload_n dX11_isOwnHere_273 rfl rfl ?_
                                              refine J_getR dX11_isOwnHere_274 ck_11 fw_X11_84 rfl sh_489 rr_489_31 ?_
                                              refine J_callV (as := [_]) (mc1 := 0) (ms1 := 0) (mc := 0) (ms := 0) dX11_isOwnHere_277 mv_X11_isHere lk_X11_247 sh_489 rfl (Nat.le_of_ble_eq_true rfl) (Nat.le_of_ble_eq_true rfl) h (fun r σ hq _ => ?_)
                                              obtain ⟨x23, I23, rfl, rfl, h⟩ := hq
                                              change J _ _ _ _ _ _ _ [vI x23] _ _
                                              refine J_if_ne (tgt := 294) dX11_isOwnHere_280 (by decide) (fun c => ?_) (fun c => ?_)
                                              · replace h := h.1 c
                                                refine J_iconst dX11_isOwnHere_294 (ii_c rfl) ?_
                                                refine J_goto (tgt := 299) dX11_isOwnHere_295 (by decide) ?_
                                                refine J_istore_n dX11_isOwnHere_299 rfl (by decide) ?_
                                                refine J_iload_n dX11_isOwnHere_300 rfl rfl ?_
                                                refine J_if_ne (tgt := 337) dX11_isOwnHere_301 (by decide) (fun _ => ?_) (fun c => absurd c (by decide))
                                                refine J_iconst dX11_isOwnHere_337 (ii_c rfl) ?_
                                                refine J_goto (tgt := 342) dX11_isOwnHere_338 (by decide) ?_
                                                refine J_istore_n dX11_isOwnHere_342 rfl (by decide) ?_
                                                refine J_iload_n dX11_isOwnHere_343 rfl rfl ?_
                                                exact J_retz dX11_isOwnHere_344 rfl (Or.inr rfl) h
                                              · replace h := h.2 c
                                                refine J_aload_n dX11_isOwnHere_283 rfl rfl ?_
                                                refine J_aload_n dX11_isOwnHere_284 rfl rfl ?_
                                                refine J_getR dX11_isOwnHere_285 ck_11 fw_X11_87 rfl sh_489 rr_489_32 ?_
                                                refine J_callV (as := [_]) (mc1 := 0) (ms1 := 0) (mc := 0) (ms := 0) dX11_isOwnHere_288 mv_X11_isHere lk_X11_247 sh_489 rfl (Nat.le_of_ble_eq_true rfl) (Nat.le_of_ble_eq_true rfl) h (fun r σ hq _ => ?_)
                                                obtain ⟨x24, I24, rfl, rfl, h⟩ := hq
                                                change J _ _ _ _ _ _ _ [vI x24] _ _
                                                refine J_if_eq (tgt := 298) dX11_isOwnHere_291 (by decide) (fun c => ?_) (fun c => ?_)
                                                · replace h := h.1 c
                                                  refine J_iconst dX11_isOwnHere_298 (ii_c rfl) ?_
                                                  refine J_istore_n dX11_isOwnHere_299 rfl (by decide) ?_
                                                  refine J_iload_n dX11_isOwnHere_300 rfl rfl ?_
                                                  refine J_if_ne (tgt := 337) dX11_isOwnHere_301 (by decide) (fun c => absurd rfl c) (fun _ => ?_)
                                                  refine J_aload_n dX11_isOwnHere_304 rfl rfl ?_
                                                  refine J_aload_n dX11_isOwnHere_305 rfl rfl ?_
                                                  refine J_getR dX11_isOwnHere_306 ck_11 fw_X11_90 rfl sh_489 rr_489_33 ?_
                                                  refine J_callV (as := [_]) (mc1 := 0) (ms1 := 0) (mc := 0) (ms := 0) dX11_isOwnHere_309 mv_X11_isHere lk_X11_247 sh_489 rfl (Nat.le_of_ble_eq_true rfl) (Nat.le_of_ble_eq_true rfl) h (fun r σ hq _ => ?_)
                                                  obtain ⟨x25, I25, rfl, rfl, h⟩ := hq
                                                  change J _ _ _ _ _ _ _ [vI x25] _ _
                                                  refine J_if_ne (tgt := 337) dX11_isOwnHere_312 (by decide) (fun c => ?_) (fun c => ?_)
                                                  · replace h := h.1 c
                                                    refine J_iconst dX11_isOwnHere_337 (ii_c rfl) ?_
                                                    refine J_goto (tgt := 342) dX11_isOwnHere_338 (by decide) ?_
                                                    refine J_istore_n dX11_isOwnHere_342 rfl (by decide) ?_
                                                    refine J_iload_n dX11_isOwnHere_343 rfl rfl ?_
                                                    exact J_retz dX11_isOwnHere_344 rfl (Or.inr rfl) h
                                                  · replace h := h.2 c
                                                    refine J_aload_n dX11_isOwnHere_315 rfl rfl ?_
                                                    refine J_aload_n dX11_isOwnHere_316 rfl rfl ?_
                                                    refine J_getR dX11_isOwnHere_317 ck_11 fw_X11_93 rfl sh_489 rr_489_34 ?_
                                                    refine J_callV (as := [_]) (mc1 := 0) (ms1 := 0) (mc := 0) (ms := 0) dX11_isOwnHere_320 mv_X11_isHere lk_X11_247 sh_489 rfl (Nat.le_of_ble_eq_true rfl) (Nat.le_of_ble_eq_true rfl) h (fun r σ hq _ => ?_)
                                                    obtain ⟨x26, I26, rfl, rfl, h⟩ := hq
                                                    change J _ _ _ _ _ _ _ [vI x26] _ _
                                                    refine J_if_ne (tgt := 337) dX11_isOwnHere_323 (by decide) (fun c => ?_) (fun c => ?_)
                                                    · replace h := h.1 c
                                                      refine J_iconst dX11_isOwnHere_337 (ii_c rfl) ?_
                                                      refine J_goto (tgt := 342) dX11_isOwnHere_338 (by decide) ?_
                                                      refine J_istore_n dX11_isOwnHere_342 rfl (by decide) ?_
                                                      refine J_iload_n dX11_isOwnHere_343 rfl rfl ?_
                                                      exact J_retz dX11_isOwnHere_344 rfl (Or.inr rfl) h
                                                    · replace h := h.2 c
                                                      refine J_aload_n dX11_isOwnHere_326 rfl rfl ?_
                                                      refine J_aload_n dX11_isOwnHere_327 rfl rfl ?_
                                                      refine J_getR dX11_isOwnHere_328 ck_11 fw_X11_96 rfl sh_489 rr_489_35 ?_
                                                      refine J_callV (as := [_]) (mc1 := 0) (ms1 := 0) (mc := 0) (ms := 0) dX11_isOwnHere_331 mv_X11_isHere lk_X11_247 sh_489 rfl (Nat.le_of_ble_eq_true rfl) (Nat.le_of_ble_eq_true rfl) h (fun r σ hq _ => ?_)
                                                      obtain ⟨x27, I27, rfl, rfl, h⟩ := hq
                                                      change J _ _ _ _ _ _ _ [vI x27] _ _
                                                      refine J_if_eq (tgt := 341) dX11_isOwnHere_334 (by decide) (fun c => ?_) (fun c => ?_)
                                                      · replace h := h.1 c
                                                        refine J_iconst dX11_isOwnHere_341 (ii_c rfl) ?_
                                                        refine J_istore_n dX11_isOwnHere_342 rfl (by decide) ?_
                                                        refine J_iload_n dX11_isOwnHere_343 rfl rfl ?_
                                                        exact J_retz dX11_isOwnHere_344 rfl (Or.inl rfl) h
                                                      · replace h := h.2 c
                                                        refine J_iconst dX11_isOwnHere_337 (ii_c rfl) ?_
                                                        refine J_goto (tgt := 342) dX11_isOwnHere_338 (by decide) ?_
                                                        refine J_istore_n dX11_isOwnHere_342 rfl (by decide) ?_
                                                        refine J_iload_n dX11_isOwnHere_343 rfl rfl ?_
                                                        exact J_retz dX11_isOwnHere_344 rfl (Or.inr rfl) h
                                                · replace h := h.2 c
                                                  refine J_iconst dX11_isOwnHere_294 (ii_c rfl) ?_
                                                  refine J_goto (tgt := 299) dX11_isOwnHere_295 (by decide) ?_
                                                  refine J_istore_n dX11_isOwnHere_299 rfl (by decide) ?_
                                                  refine J_iload_n dX11_isOwnHere_300 rfl rfl ?_
                                                  refine J_if_ne (tgt := 337) dX11_isOwnHere_301 (by decide) (fun _ => ?_) (fun c => absurd c (by decide))
                                                  refine J_iconst dX11_isOwnHere_337 (ii_c rfl) ?_
                                                  refine J_goto (tgt := 342) dX11_isOwnHere_338 (by decide) ?_
                                                  refine J_istore_n dX11_isOwnHere_342 rfl (by decide) ?_
                                                  refine J_iload_n dX11_isOwnHere_343 rfl rfl ?_
                                                  exact J_retz dX11_isOwnHere_344 rfl (Or.inr rfl) h
                                    · replace h := h.2 c
                                      exact h
                        · replace h := h.2 c
                          exact h
            · replace h := h.2 c
              exact h
set_option maxRecDepth 20000 in
set_option maxHeartbeats 2000000 in
theorem bk_X11_isOwnHere_66 {d : Nat} {I : HI} {Q : Option AV → AH → Prop}   (h : J none mX11_isOwnHere (d + 1) 0 0 142 [(0, vR 489), (1, vI 1)] [] (mk I) Q) : J none mX11_isOwnHere (d + 1) 0 0 66 [(0, vR 489)] [] (mk I) Q := by
  refine J_iconst dX11_isOwnHere_66 (ii_c rfl) ?_
  refine J_goto (tgt := 71) dX11_isOwnHere_67 (by decide) ?_
  refine J_istore_n dX11_isOwnHere_71 rfl (by decide) ?_
  refine J_iload_n dX11_isOwnHere_72 rfl rfl ?_
  refine J_if_ne (tgt := 142) dX11_isOwnHere_73 (by decide) (fun _ => ?_) (fun c => absurd c (by decide))
  exact h
set_option maxRecDepth 20000 in
set_option maxHeartbeats 2000000 in
theorem bk_X11_isOwnHere_142 {d : Nat} {I : HI} {Q : Option AV → AH → Prop} {a1 : Int}  (h : J none mX11_isOwnHere (d + 1) 0 0 218 [(0, vR 489), (1, vI 1)] [] (mk I) Q) : J none mX11_isOwnHere (d + 1) 0 0 142 [(0, vR 489), (1, vI a1)] [] (mk I) Q := by
  refine J_iconst dX11_isOwnHere_142 (ii_c rfl) ?_
  refine J_goto (tgt := 147) dX11_isOwnHere_143 (by decide) ?_
  refine J_istore_n dX11_isOwnHere_147 rfl (by decide) ?_
  refine J_iload_n dX11_isOwnHere_148 rfl rfl ?_
  refine J_if_ne (tgt := 218) dX11_isOwnHere_149 (by decide) (fun _ => ?_) (fun c => absurd c (by decide))
  exact h
set_option maxRecDepth 20000 in
set_option maxHeartbeats 2000000 in
theorem bk_X11_isOwnHere_218 {d : Nat} {I : HI} {Q : Option AV → AH → Prop} {a1 : Int}  (h : Q (some (vI 1)) (mk I)) : J none mX11_isOwnHere (d + 1) 0 0 218 [(0, vR 489), (1, vI a1)] [] (mk I) Q := by
  refine J_iconst dX11_isOwnHere_218 (ii_c rfl) ?_
  refine J_goto (tgt := 223) dX11_isOwnHere_219 (by decide) ?_
  refine J_istore_n dX11_isOwnHere_223 rfl (by decide) ?_
  refine J_iload_n dX11_isOwnHere_224 rfl rfl ?_
  refine J_if_ne (tgt := 294) dX11_isOwnHere_225 (by decide) (fun _ => ?_) (fun c => absurd c (by decide))
  refine J_iconst dX11_isOwnHere_294 (ii_c rfl) ?_
  refine J_goto (tgt := 299) dX11_isOwnHere_295 (by decide) ?_
  refine J_istore_n dX11_isOwnHere_299 rfl (by decide) ?_
  refine J_iload_n dX11_isOwnHere_300 rfl rfl ?_
  refine J_if_ne (tgt := 337) dX11_isOwnHere_301 (by decide) (fun _ => ?_) (fun c => absurd c (by decide))
  refine J_iconst dX11_isOwnHere_337 (ii_c rfl) ?_
  refine J_goto (tgt := 342) dX11_isOwnHere_338 (by decide) ?_
  refine J_istore_n dX11_isOwnHere_342 rfl (by decide) ?_
  refine J_iload_n dX11_isOwnHere_343 rfl rfl ?_
  exact J_retz dX11_isOwnHere_344 rfl (Or.inr rfl) h
set_option maxRecDepth 20000 in
set_option maxHeartbeats 2000000 in
theorem bk_X11_name_0 {d : Nat} {I : HI} {Q : Option AV → AH → Prop}   (h : (((I 489 5) = 0 → CI mX11_look d [vR 489] I (fun x1 I1 => CI mX11_isLetter d [vI x1] I1 (fun x2 I2 => ((x2 = 0 → CV mX11_fail d [vR 489, vI 1, vI (I2 489 2)] I2 (fun I3 => Q (some (vL 0)) (mk I3))) ∧ (¬ (x2 = 0) → (((I2 489 2) = (I2 489 4) → CV mX11_fail d [vR 489, vI 1, vI (I2 489 2)] I2 (fun I4 => Q (some (vL 0)) (mk I4))) ∧ (¬ ((I2 489 2) = (I2 489 4)) → CI mX11_isOwnHere d [vR 489] I2 (fun x5 I5 => ((x5 = 0 → (∀ I6 : HI, I6 = up I5 489 36 (I5 489 2) → J none mX11_name (d + 1) 0 0 58 [(0, vR 489), (1, vL 0)] [] (mk I6) Q)) ∧ (¬ (x5 = 0) → CV mX11_fail d [vR 489, vI 1, vI (I5 489 2)] I5 (fun I7 => Q (some (vL 0)) (mk I7)))))))))))) ∧ (¬ ((I 489 5) = 0) → Q (some (vL 0)) (mk I)))) : J none mX11_name (d + 1) 0 0 0 [(0, vR 489)] [] (mk I) Q := by
  refine J_aload_n dX11_name_0 rfl rfl ?_
  refine J_getI dX11_name_1 ck_11 fw_X11_224 rfl sh_489 ?_
  refine J_if_eq (tgt := 9) dX11_name_4 (by decide) (fun c => ?_) (fun c => ?_)
  · replace h := h.1 c
    refine J_aload_n dX11_name_9 rfl rfl ?_
    refine J_callV (as := []) (mc1 := 0) (ms1 := 0) (mc := 0) (ms := 0) dX11_name_10 mv_X11_look lk_X11_236 sh_489 rfl (Nat.le_of_ble_eq_true rfl) (Nat.le_of_ble_eq_true rfl) h (fun r σ hq _ => ?_)
    obtain ⟨x1, I1, rfl, rfl, h⟩ := hq
    change J _ _ _ _ _ _ _ [vI x1] _ _
    refine J_callS (as := [_]) (mc1 := 0) (ms1 := 0) (mc := 0) (ms := 0) dX11_name_13 ms_X11_isLetter lk_X11_240 rfl (Nat.le_of_ble_eq_true rfl) (Nat.le_of_ble_eq_true rfl) h (fun r σ hq _ => ?_)
    obtain ⟨x2, I2, rfl, rfl, h⟩ := hq
    change J _ _ _ _ _ _ _ [vI x2] _ _
    refine J_if_eq (tgt := 37) dX11_name_16 (by decide) (fun c => ?_) (fun c => ?_)
    · replace h := h.1 c
      refine J_aload_n dX11_name_37 rfl rfl ?_
      refine J_iconst dX11_name_38 (ii_c rfl) ?_
      refine J_aload_n dX11_name_39 rfl rfl ?_
      refine J_getI dX11_name_40 ck_11 fw_X11_230 rfl sh_489 ?_
      refine J_callV (as := [_, _]) (mc1 := 0) (ms1 := 0) (mc := 0) (ms := 0) dX11_name_43 mv_X11_fail lk_X11_254 sh_489 rfl (Nat.le_of_ble_eq_true rfl) (Nat.le_of_ble_eq_true rfl) h (fun r σ hq _ => ?_)
      obtain ⟨I3, rfl, rfl, h⟩ := hq
      change J _ _ _ _ _ _ _ [] _ _
      refine J_lconst 0 dX11_name_46 (ll_c rfl) (by decide) ?_
      exact J_retl dX11_name_47 rfl h
    · replace h := h.2 c
      refine J_aload_n dX11_name_19 rfl rfl ?_
      refine J_getI dX11_name_20 ck_11 fw_X11_230 rfl sh_489 ?_
      refine J_aload_n dX11_name_23 rfl rfl ?_
      refine J_getI dX11_name_24 ck_11 fw_X11_244 rfl sh_489 ?_
      refine J_ic_eq (tgt := 37) dX11_name_27 (by decide) (fun c => ?_) (fun c => ?_)
      · replace h := h.1 c
        refine J_aload_n dX11_name_37 rfl rfl ?_
        refine J_iconst dX11_name_38 (ii_c rfl) ?_
        refine J_aload_n dX11_name_39 rfl rfl ?_
        refine J_getI dX11_name_40 ck_11 fw_X11_230 rfl sh_489 ?_
        refine J_callV (as := [_, _]) (mc1 := 0) (ms1 := 0) (mc := 0) (ms := 0) dX11_name_43 mv_X11_fail lk_X11_254 sh_489 rfl (Nat.le_of_ble_eq_true rfl) (Nat.le_of_ble_eq_true rfl) h (fun r σ hq _ => ?_)
        obtain ⟨I4, rfl, rfl, h⟩ := hq
        change J _ _ _ _ _ _ _ [] _ _
        refine J_lconst 0 dX11_name_46 (ll_c rfl) (by decide) ?_
        exact J_retl dX11_name_47 rfl h
      · replace h := h.2 c
        refine J_aload_n dX11_name_30 rfl rfl ?_
        refine J_callV (as := []) (mc1 := 0) (ms1 := 0) (mc := 0) (ms := 0) dX11_name_31 mv_X11_isOwnHere lk_X11_268 sh_489 rfl (Nat.le_of_ble_eq_true rfl) (Nat.le_of_ble_eq_true rfl) h (fun r σ hq _ => ?_)
        obtain ⟨x5, I5, rfl, rfl, h⟩ := hq
        change J _ _ _ _ _ _ _ [vI x5] _ _
        refine J_if_eq (tgt := 48) dX11_name_34 (by decide) (fun c => ?_) (fun c => ?_)
        · replace h := h.1 c
          refine J_aload_n dX11_name_48 rfl rfl ?_
          refine J_aload_n dX11_name_49 rfl rfl ?_
          refine J_getI dX11_name_50 ck_11 fw_X11_230 rfl sh_489 ?_
          refine J_putI dX11_name_53 ck_11 fw_X11_272 rfl rfl (Or.inl rfl) sh_489 ?_
          replace h := h _ rfl
          refine J_lconst 0 dX11_name_56 (ll_c rfl) (by decide) ?_
          refine J_lstore_n dX11_name_57 rfl (by decide) ?_
          exact h
        · replace h := h.2 c
          refine J_aload_n dX11_name_37 rfl rfl ?_
          refine J_iconst dX11_name_38 (ii_c rfl) ?_
          refine J_aload_n dX11_name_39 rfl rfl ?_
          refine J_getI dX11_name_40 ck_11 fw_X11_230 rfl sh_489 ?_
          refine J_callV (as := [_, _]) (mc1 := 0) (ms1 := 0) (mc := 0) (ms := 0) dX11_name_43 mv_X11_fail lk_X11_254 sh_489 rfl (Nat.le_of_ble_eq_true rfl) (Nat.le_of_ble_eq_true rfl) h (fun r σ hq _ => ?_)
          obtain ⟨I7, rfl, rfl, h⟩ := hq
          change J _ _ _ _ _ _ _ [] _ _
          refine J_lconst 0 dX11_name_46 (ll_c rfl) (by decide) ?_
          exact J_retl dX11_name_47 rfl h
  · replace h := h.2 c
    refine J_lconst 0 dX11_name_7 (ll_c rfl) (by decide) ?_
    exact J_retl dX11_name_8 rfl h
set_option maxRecDepth 20000 in
set_option maxHeartbeats 2000000 in
theorem bk_X11_name_58 {d : Nat} {I : HI} {Q : Option AV → AH → Prop} {a1 : Int}  (h : (((I 489 3) ≤ (I 489 2) → (∀ I1 : HI, I1 = up I 489 4 (I 489 2) → Q (some (vL a1)) (mk I1))) ∧ (¬ ((I 489 3) ≤ (I 489 2)) → ((0 : Int) ≤ (I 489 2) ∧ (I 489 2 : Int) < 1600) ∧ CI mX11_isLetter d [vI (I 490 (I 489 2).toNat)] I (fun x1 I2 => ((x1 = 0 → (∀ I3 : HI, I3 = up I2 489 4 (I2 489 2) → Q (some (vL a1)) (mk I3))) ∧ (¬ (x1 = 0) → (-2147483648 ≤ (I2 489 2) - (I2 489 36) ∧ (I2 489 2) - (I2 489 36) ≤ 2147483647) ∧ ((((I2 489 2) - (I2 489 36)) ≠ 6 → (-9223372036854775808 ≤ 27 * a1 ∧ 27 * a1 ≤ 9223372036854775807) ∧ ((0 : Int) ≤ (I2 489 2) ∧ (I2 489 2 : Int) < 1600) ∧ (-9223372036854775808 ≤ (27 * a1) + (I2 490 (I2 489 2).toNat) ∧ (27 * a1) + (I2 490 (I2 489 2).toNat) ≤ 9223372036854775807) ∧ (-9223372036854775808 ≤ ((27 * a1) + (I2 490 (I2 489 2).toNat)) - 97 ∧ ((27 * a1) + (I2 490 (I2 489 2).toNat)) - 97 ≤ 9223372036854775807) ∧ (-9223372036854775808 ≤ (((27 * a1) + (I2 490 (I2 489 2).toNat)) - 97) + 1 ∧ (((27 * a1) + (I2 490 (I2 489 2).toNat)) - 97) + 1 ≤ 9223372036854775807) ∧ (-2147483648 ≤ (I2 489 2) + 1 ∧ (I2 489 2) + 1 ≤ 2147483647) ∧ (∀ I4 : HI, I4 = up I2 489 2 ((I2 489 2) + 1) → J none mX11_name (d + 1) 0 0 58 [(0, vR 489), (1, vL ((((27 * a1) + (I2 490 (I2 489 2).toNat)) - 97) + 1))] [] (mk I4) Q)) ∧ (((I2 489 2) - (I2 489 36)) = 6 → CV mX11_fail d [vR 489, vI 1, vI (I2 489 2)] I2 (fun I5 => Q (some (vL 0)) (mk I5)))))))))) : J none mX11_name (d + 1) 0 0 58 [(0, vR 489), (1, vL a1)] [] (mk I) Q := by
  refine J_aload_n dX11_name_58 rfl rfl ?_
  refine J_getI dX11_name_59 ck_11 fw_X11_230 rfl sh_489 ?_
  refine J_aload_n dX11_name_62 rfl rfl ?_
  refine J_getI dX11_name_63 ck_11 fw_X11_233 rfl sh_489 ?_
  refine J_ic_ge (tgt := 145) dX11_name_66 (by decide) (fun c => ?_) (fun c => ?_)
  · replace h := h.1 c
    refine J_aload_n dX11_name_145 rfl rfl ?_
    refine J_aload_n dX11_name_146 rfl rfl ?_
    refine J_getI dX11_name_147 ck_11 fw_X11_230 rfl sh_489 ?_
    refine J_putI dX11_name_150 ck_11 fw_X11_244 rfl rfl (Or.inl rfl) sh_489 ?_
    replace h := h _ rfl
    refine J_lload_n dX11_name_153 rfl rfl ?_
    exact J_retl dX11_name_154 rfl h
  · replace h := h.2 c
    refine J_aload_n dX11_name_69 rfl rfl ?_
    refine J_getR dX11_name_70 ck_11 fw_X11_7 rfl sh_489 rr_489_0 ?_
    refine J_aload_n dX11_name_73 rfl rfl ?_
    refine J_getI dX11_name_74 ck_11 fw_X11_230 rfl sh_489 ?_
    refine J_iald dX11_name_77 sh_490 h.1.1 h.1.2 ?_
    replace h := h.2
    refine J_callS (as := [_]) (mc1 := 0) (ms1 := 0) (mc := 0) (ms := 0) dX11_name_78 ms_X11_isLetter lk_X11_240 rfl (Nat.le_of_ble_eq_true rfl) (Nat.le_of_ble_eq_true rfl) h (fun r σ hq _ => ?_)
    obtain ⟨x1, I2, rfl, rfl, h⟩ := hq
    change J _ _ _ _ _ _ _ [vI x1] _ _
    refine J_if_eq (tgt := 145) dX11_name_81 (by decide) (fun c => ?_) (fun c => ?_)
    · replace h := h.1 c
      refine J_aload_n dX11_name_145 rfl rfl ?_
      refine J_aload_n dX11_name_146 rfl rfl ?_
      refine J_getI dX11_name_147 ck_11 fw_X11_230 rfl sh_489 ?_
      refine J_putI dX11_name_150 ck_11 fw_X11_244 rfl rfl (Or.inl rfl) sh_489 ?_
      replace h := h _ rfl
      refine J_lload_n dX11_name_153 rfl rfl ?_
      exact J_retl dX11_name_154 rfl h
    · replace h := h.2 c
      refine J_aload_n dX11_name_84 rfl rfl ?_
      refine J_getI dX11_name_85 ck_11 fw_X11_230 rfl sh_489 ?_
      refine J_aload_n dX11_name_88 rfl rfl ?_
      refine J_getI dX11_name_89 ck_11 fw_X11_272 rfl sh_489 ?_
      refine J_isubN dX11_name_92 h.1 ?_
      replace h := h.2
      refine J_bipush dX11_name_93 (ii_c rfl) (by decide) ?_
      refine J_ic_ne (tgt := 109) dX11_name_95 (by decide) (fun c => ?_) (fun c => ?_)
      · replace h := h.1 c
        refine J_ldc2 27 dX11_name_109 kw_X11_275 (ll_c rfl) ?_
        refine J_lload_n dX11_name_112 rfl rfl ?_
        refine J_lmulN dX11_name_113 h.1 ?_
        replace h := h.2
        refine J_aload_n dX11_name_114 rfl rfl ?_
        refine J_getR dX11_name_115 ck_11 fw_X11_7 rfl sh_489 rr_489_0 ?_
        refine J_aload_n dX11_name_118 rfl rfl ?_
        refine J_getI dX11_name_119 ck_11 fw_X11_230 rfl sh_489 ?_
        refine J_iald dX11_name_122 sh_490 h.1.1 h.1.2 ?_
        replace h := h.2
        refine J_i2l dX11_name_123 ?_
        refine J_laddN dX11_name_124 h.1 ?_
        replace h := h.2
        refine J_ldc2 97 dX11_name_125 kw_X11_277 (ll_c rfl) ?_
        refine J_lsubN dX11_name_128 h.1 ?_
        replace h := h.2
        refine J_lconst 1 dX11_name_129 (ll_c rfl) (by decide) ?_
        refine J_laddN dX11_name_130 h.1 ?_
        replace h := h.2
        refine J_lstore_n dX11_name_131 rfl (by decide) ?_
        refine J_aload_n dX11_name_132 rfl rfl ?_
        refine J_dup dX11_name_133 rfl ?_
        refine J_getI dX11_name_134 ck_11 fw_X11_230 rfl sh_489 ?_
        refine J_iconst dX11_name_137 (ii_c rfl) ?_
        refine J_iaddN dX11_name_138 h.1 ?_
        replace h := h.2
        refine J_putI dX11_name_139 ck_11 fw_X11_230 rfl rfl (Or.inl rfl) sh_489 ?_
        replace h := h _ rfl
        refine J_goto (tgt := 58) dX11_name_142 (by decide) ?_
        exact h
      · replace h := h.2 c
        refine J_aload_n dX11_name_98 rfl rfl ?_
        refine J_iconst dX11_name_99 (ii_c rfl) ?_
        refine J_aload_n dX11_name_100 rfl rfl ?_
        refine J_getI dX11_name_101 ck_11 fw_X11_230 rfl sh_489 ?_
        refine J_callV (as := [_, _]) (mc1 := 0) (ms1 := 0) (mc := 0) (ms := 0) dX11_name_104 mv_X11_fail lk_X11_254 sh_489 rfl (Nat.le_of_ble_eq_true rfl) (Nat.le_of_ble_eq_true rfl) h (fun r σ hq _ => ?_)
        obtain ⟨I5, rfl, rfl, h⟩ := hq
        change J _ _ _ _ _ _ _ [] _ _
        refine J_lconst 0 dX11_name_107 (ll_c rfl) (by decide) ?_
        exact J_retl dX11_name_108 rfl h
set_option maxRecDepth 20000 in
set_option maxHeartbeats 2000000 in
theorem bk_X11_isFull_0 {d : Nat} {I : HI} {Q : Option AV → AH → Prop} {a1 : Int} {a2 : Int} {a3 : Int}  (h : (((I 489 5) ≠ 0 → (((I 489 5) = 0 → Q (some (vI 0)) (mk I)) ∧ (¬ ((I 489 5) = 0) → Q (some (vI 1)) (mk I)))) ∧ ((I 489 5) = 0 → ((0 : Int) ≤ a1 ∧ (a1 : Int) < 10) ∧ (((I 518 a1.toNat) ≠ a2 → (((I 489 5) = 0 → Q (some (vI 0)) (mk I)) ∧ (¬ ((I 489 5) = 0) → Q (some (vI 1)) (mk I)))) ∧ ((I 518 a1.toNat) = a2 → CV mX11_fail d [vR 489, vI 5, vI a3] I (fun I1 => (((I1 489 5) = 0 → Q (some (vI 0)) (mk I1)) ∧ (¬ ((I1 489 5) = 0) → Q (some (vI 1)) (mk I1))))))))) : J none mX11_isFull (d + 1) 0 0 0 [(0, vR 489), (1, vI a1), (2, vI a2), (3, vI a3)] [] (mk I) Q := by
  refine J_aload_n dX11_isFull_0 rfl rfl ?_
  refine J_getI dX11_isFull_1 ck_11 fw_X11_224 rfl sh_489 ?_
  refine J_if_ne (tgt := 23) dX11_isFull_4 (by decide) (fun c => ?_) (fun c => ?_)
  · replace h := h.1 c
    refine J_aload_n dX11_isFull_23 rfl rfl ?_
    refine J_getI dX11_isFull_24 ck_11 fw_X11_224 rfl sh_489 ?_
    refine J_if_eq (tgt := 34) dX11_isFull_27 (by decide) (fun c => ?_) (fun c => ?_)
    · replace h := h.1 c
      refine J_iconst dX11_isFull_34 (ii_c rfl) ?_
      exact J_retz dX11_isFull_35 rfl (Or.inl rfl) h
    · replace h := h.2 c
      refine J_iconst dX11_isFull_30 (ii_c rfl) ?_
      refine J_goto (tgt := 35) dX11_isFull_31 (by decide) ?_
      exact J_retz dX11_isFull_35 rfl (Or.inr rfl) h
  · replace h := h.2 c
    refine J_aload_n dX11_isFull_7 rfl rfl ?_
    refine J_getR dX11_isFull_8 ck_11 fw_X11_99 rfl sh_489 rr_489_37 ?_
    refine J_iload_n dX11_isFull_11 rfl rfl ?_
    refine J_iald dX11_isFull_12 sh_518 h.1.1 h.1.2 ?_
    replace h := h.2
    refine J_iload_n dX11_isFull_13 rfl rfl ?_
    refine J_ic_ne (tgt := 23) dX11_isFull_14 (by decide) (fun c => ?_) (fun c => ?_)
    · replace h := h.1 c
      refine J_aload_n dX11_isFull_23 rfl rfl ?_
      refine J_getI dX11_isFull_24 ck_11 fw_X11_224 rfl sh_489 ?_
      refine J_if_eq (tgt := 34) dX11_isFull_27 (by decide) (fun c => ?_) (fun c => ?_)
      · replace h := h.1 c
        refine J_iconst dX11_isFull_34 (ii_c rfl) ?_
        exact J_retz dX11_isFull_35 rfl (Or.inl rfl) h
      · replace h := h.2 c
        refine J_iconst dX11_isFull_30 (ii_c rfl) ?_
        refine J_goto (tgt := 35) dX11_isFull_31 (by decide) ?_
        exact J_retz dX11_isFull_35 rfl (Or.inr rfl) h
    · replace h := h.2 c
      refine J_aload_n dX11_isFull_17 rfl rfl ?_
      refine J_iconst dX11_isFull_18 (ii_c rfl) ?_
      refine J_iload_n dX11_isFull_19 rfl rfl ?_
      refine J_callV (as := [_, _]) (mc1 := 0) (ms1 := 0) (mc := 0) (ms := 0) dX11_isFull_20 mv_X11_fail lk_X11_254 sh_489 rfl (Nat.le_of_ble_eq_true rfl) (Nat.le_of_ble_eq_true rfl) h (fun r σ hq _ => ?_)
      obtain ⟨I1, rfl, rfl, h⟩ := hq
      change J _ _ _ _ _ _ _ [] _ _
      refine J_aload_n dX11_isFull_23 rfl rfl ?_
      refine J_getI dX11_isFull_24 ck_11 fw_X11_224 rfl sh_489 ?_
      refine J_if_eq (tgt := 34) dX11_isFull_27 (by decide) (fun c => ?_) (fun c => ?_)
      · replace h := h.1 c
        refine J_iconst dX11_isFull_34 (ii_c rfl) ?_
        exact J_retz dX11_isFull_35 rfl (Or.inl rfl) h
      · replace h := h.2 c
        refine J_iconst dX11_isFull_30 (ii_c rfl) ?_
        refine J_goto (tgt := 35) dX11_isFull_31 (by decide) ?_
        exact J_retz dX11_isFull_35 rfl (Or.inr rfl) h
set_option maxRecDepth 20000 in
set_option maxHeartbeats 2000000 in
theorem bk_X11_nameOf_0 {d : Nat} {I : HI} {Q : Option AV → AH → Prop} {a1 : Int} {a2 : Int}  (h : J none mX11_nameOf (d + 1) 0 0 3 [(0, vR 489), (1, vI a1), (2, vL a2), (4, vI 0)] [] (mk I) Q) : J none mX11_nameOf (d + 1) 0 0 0 [(0, vR 489), (1, vI a1), (2, vL a2)] [] (mk I) Q := by
  refine J_iconst dX11_nameOf_0 (ii_c rfl) ?_
  refine J_istore dX11_nameOf_1 (by decide) ?_
  exact h
set_option maxRecDepth 20000 in
set_option maxHeartbeats 2000000 in
theorem bk_X11_nameOf_3 {d : Nat} {I : HI} {Q : Option AV → AH → Prop} {a1 : Int} {a2 : Int} {a4 : Int}  (h : ((0 : Int) ≤ a1 ∧ (a1 : Int) < 10) ∧ (((I 518 a1.toNat) ≤ a4 → Q (some (vI (-1))) (mk I)) ∧ (¬ ((I 518 a1.toNat) ≤ a4) → (-2147483648 ≤ 10 * a1 ∧ 10 * a1 ≤ 2147483647) ∧ (-2147483648 ≤ (10 * a1) + a4 ∧ (10 * a1) + a4 ≤ 2147483647) ∧ ((0 : Int) ≤ ((10 * a1) + a4) ∧ ((10 * a1) + a4 : Int) < 40) ∧ (((I 519 ((10 * a1) + a4).toNat) ≠ a2 → (-2147483648 ≤ a4 + 1 ∧ a4 + 1 ≤ 2147483647) ∧ J none mX11_nameOf (d + 1) 0 0 3 [(0, vR 489), (1, vI a1), (2, vL a2), (4, vI (a4 + 1))] [] (mk I) Q) ∧ ((I 519 ((10 * a1) + a4).toNat) = a2 → Q (some (vI a4)) (mk I)))))) : J none mX11_nameOf (d + 1) 0 0 3 [(0, vR 489), (1, vI a1), (2, vL a2), (4, vI a4)] [] (mk I) Q := by
  refine J_iload dX11_nameOf_3 rfl ?_
  refine J_aload_n dX11_nameOf_5 rfl rfl ?_
  refine J_getR dX11_nameOf_6 ck_11 fw_X11_99 rfl sh_489 rr_489_37 ?_
  refine J_iload_n dX11_nameOf_9 rfl rfl ?_
  refine J_iald dX11_nameOf_10 sh_518 h.1.1 h.1.2 ?_
  replace h := h.2
  refine J_ic_ge (tgt := 40) dX11_nameOf_11 (by decide) (fun c => ?_) (fun c => ?_)
  · replace h := h.1 c
    refine J_iconst dX11_nameOf_40 (ii_c rfl) ?_
    exact J_reti dX11_nameOf_41 rfl h
  · replace h := h.2 c
    refine J_aload_n dX11_nameOf_14 rfl rfl ?_
    refine J_getR dX11_nameOf_15 ck_11 fw_X11_102 rfl sh_489 rr_489_38 ?_
    refine J_bipush dX11_nameOf_18 (ii_c rfl) (by decide) ?_
    refine J_iload_n dX11_nameOf_20 rfl rfl ?_
    refine J_imulN dX11_nameOf_21 h.1 ?_
    replace h := h.2
    refine J_iload dX11_nameOf_22 rfl ?_
    refine J_iaddN dX11_nameOf_24 h.1 ?_
    replace h := h.2
    refine J_lald dX11_nameOf_25 sh_519 h.1.1 h.1.2 ?_
    replace h := h.2
    refine J_lload_n dX11_nameOf_26 rfl rfl ?_
    refine J_lcmp dX11_nameOf_27 ?_
    refine J_if_ne (tgt := 34) dX11_nameOf_28 (by decide) (fun c => ?_) (fun c => ?_)
    · replace h := h.1 (fun w => c (lC_eq.mpr w))
      refine J_iincN dX11_nameOf_34 rfl (by decide) h.1 ?_
      replace h := h.2
      refine J_goto (tgt := 3) dX11_nameOf_37 (by decide) ?_
      exact h
    · replace h := h.2 (lC_eq.mp c)
      refine J_iload dX11_nameOf_31 rfl ?_
      exact J_reti dX11_nameOf_33 rfl h
set_option maxRecDepth 20000 in
set_option maxHeartbeats 2000000 in
theorem bk_X11_newName_0 {d : Nat} {I : HI} {Q : Option AV → AH → Prop} {a1 : Int}  (h : CL mX11_name d [vR 489] I (fun x1 I1 => (((I1 489 5) ≠ 0 → ((0 : Int) ≤ a1 ∧ (a1 : Int) < 10) ∧ (((I1 489 5) ≠ 0 → Q (some (vI (I1 518 a1.toNat))) (mk I1)) ∧ ((I1 489 5) = 0 → (-2147483648 ≤ 10 * a1 ∧ 10 * a1 ≤ 2147483647) ∧ (-2147483648 ≤ (10 * a1) + (I1 518 a1.toNat) ∧ (10 * a1) + (I1 518 a1.toNat) ≤ 2147483647) ∧ ((0 : Int) ≤ ((10 * a1) + (I1 518 a1.toNat)) ∧ ((10 * a1) + (I1 518 a1.toNat) : Int) < 40) ∧ (∀ I2 : HI, I2 = up I1 519 ((10 * a1) + (I1 518 a1.toNat)).toNat x1 → Q (some (vI (I1 518 a1.toNat))) (mk I2))))) ∧ ((I1 489 5) = 0 → CI mX11_nameOf d [vR 489, vI 0, vL x1] I1 (fun x2 I3 => ((x2 ≠ (-1) → CV mX11_fail d [vR 489, vI 3, vI (I3 489 36)] I3 (fun I4 => ((0 : Int) ≤ a1 ∧ (a1 : Int) < 10) ∧ (((I4 489 5) ≠ 0 → Q (some (vI (I4 518 a1.toNat))) (mk I4)) ∧ ((I4 489 5) = 0 → (-2147483648 ≤ 10 * a1 ∧ 10 * a1 ≤ 2147483647) ∧ (-2147483648 ≤ (10 * a1) + (I4 518 a1.toNat) ∧ (10 * a1) + (I4 518 a1.toNat) ≤ 2147483647) ∧ ((0 : Int) ≤ ((10 * a1) + (I4 518 a1.toNat)) ∧ ((10 * a1) + (I4 518 a1.toNat) : Int) < 40) ∧ (∀ I5 : HI, I5 = up I4 519 ((10 * a1) + (I4 518 a1.toNat)).toNat x1 → Q (some (vI (I4 518 a1.toNat))) (mk I5)))))) ∧ (x2 = (-1) → CI mX11_nameOf d [vR 489, vI 1, vL x1] I3 (fun x4 I6 => ((x4 = (-1) → ((0 : Int) ≤ a1 ∧ (a1 : Int) < 10) ∧ (((I6 489 5) ≠ 0 → Q (some (vI (I6 518 a1.toNat))) (mk I6)) ∧ ((I6 489 5) = 0 → (-2147483648 ≤ 10 * a1 ∧ 10 * a1 ≤ 2147483647) ∧ (-2147483648 ≤ (10 * a1) + (I6 518 a1.toNat) ∧ (10 * a1) + (I6 518 a1.toNat) ≤ 2147483647) ∧ ((0 : Int) ≤ ((10 * a1) + (I6 518 a1.toNat)) ∧ ((10 * a1) + (I6 518 a1.toNat) : Int) < 40) ∧ (∀ I7 : HI, I7 = up I6 519 ((10 * a1) + (I6 518 a1.toNat)).toNat x1 → Q (some (vI (I6 518 a1.toNat))) (mk I7))))) ∧ (¬ (x4 = (-1)) → CV mX11_fail d [vR 489, vI 3, vI (I6 489 36)] I6 (fun I8 => ((0 : Int) ≤ a1 ∧ (a1 : Int) < 10) ∧ (((I8 489 5) ≠ 0 → Q (some (vI (I8 518 a1.toNat))) (mk I8)) ∧ ((I8 489 5) = 0 → (-2147483648 ≤ 10 * a1 ∧ 10 * a1 ≤ 2147483647) ∧ (-2147483648 ≤ (10 * a1) + (I8 518 a1.toNat) ∧ (10 * a1) + (I8 518 a1.toNat) ≤ 2147483647) ∧ ((0 : Int) ≤ ((10 * a1) + (I8 518 a1.toNat)) ∧ ((10 * a1) + (I8 518 a1.toNat) : Int) < 40) ∧ (∀ I9 : HI, I9 = up I8 519 ((10 * a1) + (I8 518 a1.toNat)).toNat x1 → Q (some (vI (I8 518 a1.toNat))) (mk I9))))))))))))))) : J none mX11_newName (d + 1) 0 0 0 [(0, vR 489), (1, vI a1)] [] (mk I) Q := by
  refine J_aload_n dX11_newName_0 rfl rfl ?_
  refine J_callV (as := []) (mc1 := 0) (ms1 := 0) (mc := 0) (ms := 0) dX11_newName_1 mv_X11_name lk_X11_279 sh_489 rfl (Nat.le_of_ble_eq_true rfl) (Nat.le_of_ble_eq_true rfl) h (fun r σ hq _ => ?_)
  obtain ⟨x1, I1, rfl, rfl, h⟩ := hq
  change J _ _ _ _ _ _ _ [vL x1] _ _
  refine J_lstore_n dX11_newName_4 rfl (by decide) ?_
  refine J_aload_n dX11_newName_5 rfl rfl ?_
  refine J_getI dX11_newName_6 ck_11 fw_X11_224 rfl sh_489 ?_
  refine J_if_ne (tgt := 41) dX11_newName_9 (by decide) (fun c => ?_) (fun c => ?_)
  · replace h := h.1 c
    refine J_aload_n dX11_newName_41 rfl rfl ?_
    refine J_getR dX11_newName_42 ck_11 fw_X11_99 rfl sh_489 rr_489_37 ?_
    refine J_iload_n dX11_newName_45 rfl rfl ?_
    refine J_iald dX11_newName_46 sh_518 h.1.1 h.1.2 ?_
    replace h := h.2
    refine J_istore dX11_newName_47 (by decide) ?_
    refine J_aload_n dX11_newName_49 rfl rfl ?_
    refine J_getI dX11_newName_50 ck_11 fw_X11_224 rfl sh_489 ?_
    refine J_if_ne (tgt := 69) dX11_newName_53 (by decide) (fun c => ?_) (fun c => ?_)
    · replace h := h.1 c
      refine J_iload dX11_newName_69 rfl ?_
      exact J_reti dX11_newName_71 rfl h
    · replace h := h.2 c
      refine J_aload_n dX11_newName_56 rfl rfl ?_
      refine J_getR dX11_newName_57 ck_11 fw_X11_102 rfl sh_489 rr_489_38 ?_
      refine J_bipush dX11_newName_60 (ii_c rfl) (by decide) ?_
      refine J_iload_n dX11_newName_62 rfl rfl ?_
      refine J_imulN dX11_newName_63 h.1 ?_
      replace h := h.2
      refine J_iload dX11_newName_64 rfl ?_
      refine J_iaddN dX11_newName_66 h.1 ?_
      replace h := h.2
      refine J_lload_n dX11_newName_67 rfl rfl ?_
      refine J_last dX11_newName_68 sh_519 h.1.1 h.1.2 ?_
      replace h := h.2 _ rfl
      refine J_iload dX11_newName_69 rfl ?_
      exact J_reti dX11_newName_71 rfl h
  · replace h := h.2 c
    refine J_aload_n dX11_newName_12 rfl rfl ?_
    refine J_iconst dX11_newName_13 (ii_c rfl) ?_
    refine J_lload_n dX11_newName_14 rfl rfl ?_
    refine J_callV (as := [_, _]) (mc1 := 0) (ms1 := 0) (mc := 0) (ms := 0) dX11_newName_15 mv_X11_nameOf lk_X11_283 sh_489 rfl (Nat.le_of_ble_eq_true rfl) (Nat.le_of_ble_eq_true rfl) h (fun r σ hq _ => ?_)
    obtain ⟨x2, I3, rfl, rfl, h⟩ := hq
    change J _ _ _ _ _ _ _ [vI x2] _ _
    refine J_iconst dX11_newName_18 (ii_c rfl) ?_
    refine J_ic_ne (tgt := 32) dX11_newName_19 (by decide) (fun c => ?_) (fun c => ?_)
    · replace h := h.1 c
      refine J_aload_n dX11_newName_32 rfl rfl ?_
      refine J_iconst dX11_newName_33 (ii_c rfl) ?_
      refine J_aload_n dX11_newName_34 rfl rfl ?_
      refine J_getI dX11_newName_35 ck_11 fw_X11_272 rfl sh_489 ?_
      refine J_callV (as := [_, _]) (mc1 := 0) (ms1 := 0) (mc := 0) (ms := 0) dX11_newName_38 mv_X11_fail lk_X11_254 sh_489 rfl (Nat.le_of_ble_eq_true rfl) (Nat.le_of_ble_eq_true rfl) h (fun r σ hq _ => ?_)
      obtain ⟨I4, rfl, rfl, h⟩ := hq
      change J _ _ _ _ _ _ _ [] _ _
      refine J_aload_n dX11_newName_41 rfl rfl ?_
      refine J_getR dX11_newName_42 ck_11 fw_X11_99 rfl sh_489 rr_489_37 ?_
      refine J_iload_n dX11_newName_45 rfl rfl ?_
      refine J_iald dX11_newName_46 sh_518 h.1.1 h.1.2 ?_
      replace h := h.2
      refine J_istore dX11_newName_47 (by decide) ?_
      refine J_aload_n dX11_newName_49 rfl rfl ?_
      refine J_getI dX11_newName_50 ck_11 fw_X11_224 rfl sh_489 ?_
      refine J_if_ne (tgt := 69) dX11_newName_53 (by decide) (fun c => ?_) (fun c => ?_)
      · replace h := h.1 c
        refine J_iload dX11_newName_69 rfl ?_
        exact J_reti dX11_newName_71 rfl h
      · replace h := h.2 c
        refine J_aload_n dX11_newName_56 rfl rfl ?_
        refine J_getR dX11_newName_57 ck_11 fw_X11_102 rfl sh_489 rr_489_38 ?_
        refine J_bipush dX11_newName_60 (ii_c rfl) (by decide) ?_
        refine J_iload_n dX11_newName_62 rfl rfl ?_
        refine J_imulN dX11_newName_63 h.1 ?_
        replace h := h.2
        refine J_iload dX11_newName_64 rfl ?_
        refine J_iaddN dX11_newName_66 h.1 ?_
        replace h := h.2
        refine J_lload_n dX11_newName_67 rfl rfl ?_
        refine J_last dX11_newName_68 sh_519 h.1.1 h.1.2 ?_
        replace h := h.2 _ rfl
        refine J_iload dX11_newName_69 rfl ?_
        exact J_reti dX11_newName_71 rfl h
    · replace h := h.2 c
      refine J_aload_n dX11_newName_22 rfl rfl ?_
      refine J_iconst dX11_newName_23 (ii_c rfl) ?_
      refine J_lload_n dX11_newName_24 rfl rfl ?_
      refine J_callV (as := [_, _]) (mc1 := 0) (ms1 := 0) (mc := 0) (ms := 0) dX11_newName_25 mv_X11_nameOf lk_X11_283 sh_489 rfl (Nat.le_of_ble_eq_true rfl) (Nat.le_of_ble_eq_true rfl) h (fun r σ hq _ => ?_)
      obtain ⟨x4, I6, rfl, rfl, h⟩ := hq
      change J _ _ _ _ _ _ _ [vI x4] _ _
      refine J_iconst dX11_newName_28 (ii_c rfl) ?_
      refine J_ic_eq (tgt := 41) dX11_newName_29 (by decide) (fun c => ?_) (fun c => ?_)
      · replace h := h.1 c
        refine J_aload_n dX11_newName_41 rfl rfl ?_
        refine J_getR dX11_newName_42 ck_11 fw_X11_99 rfl sh_489 rr_489_37 ?_
        refine J_iload_n dX11_newName_45 rfl rfl ?_
        refine J_iald dX11_newName_46 sh_518 h.1.1 h.1.2 ?_
        replace h := h.2
        refine J_istore dX11_newName_47 (by decide) ?_
        refine J_aload_n dX11_newName_49 rfl rfl ?_
        refine J_getI dX11_newName_50 ck_11 fw_X11_224 rfl sh_489 ?_
        refine J_if_ne (tgt := 69) dX11_newName_53 (by decide) (fun c => ?_) (fun c => ?_)
        · replace h := h.1 c
          refine J_iload dX11_newName_69 rfl ?_
          exact J_reti dX11_newName_71 rfl h
        · replace h := h.2 c
          refine J_aload_n dX11_newName_56 rfl rfl ?_
          refine J_getR dX11_newName_57 ck_11 fw_X11_102 rfl sh_489 rr_489_38 ?_
          refine J_bipush dX11_newName_60 (ii_c rfl) (by decide) ?_
          refine J_iload_n dX11_newName_62 rfl rfl ?_
          refine J_imulN dX11_newName_63 h.1 ?_
          replace h := h.2
          refine J_iload dX11_newName_64 rfl ?_
          refine J_iaddN dX11_newName_66 h.1 ?_
          replace h := h.2
          refine J_lload_n dX11_newName_67 rfl rfl ?_
          refine J_last dX11_newName_68 sh_519 h.1.1 h.1.2 ?_
          replace h := h.2 _ rfl
          refine J_iload dX11_newName_69 rfl ?_
          exact J_reti dX11_newName_71 rfl h
      · replace h := h.2 c
        refine J_aload_n dX11_newName_32 rfl rfl ?_
        refine J_iconst dX11_newName_33 (ii_c rfl) ?_
        refine J_aload_n dX11_newName_34 rfl rfl ?_
        refine J_getI dX11_newName_35 ck_11 fw_X11_272 rfl sh_489 ?_
        refine J_callV (as := [_, _]) (mc1 := 0) (ms1 := 0) (mc := 0) (ms := 0) dX11_newName_38 mv_X11_fail lk_X11_254 sh_489 rfl (Nat.le_of_ble_eq_true rfl) (Nat.le_of_ble_eq_true rfl) h (fun r σ hq _ => ?_)
        obtain ⟨I8, rfl, rfl, h⟩ := hq
        change J _ _ _ _ _ _ _ [] _ _
        refine J_aload_n dX11_newName_41 rfl rfl ?_
        refine J_getR dX11_newName_42 ck_11 fw_X11_99 rfl sh_489 rr_489_37 ?_
        refine J_iload_n dX11_newName_45 rfl rfl ?_
        refine J_iald dX11_newName_46 sh_518 h.1.1 h.1.2 ?_
        replace h := h.2
        refine J_istore dX11_newName_47 (by decide) ?_
        refine J_aload_n dX11_newName_49 rfl rfl ?_
        refine J_getI dX11_newName_50 ck_11 fw_X11_224 rfl sh_489 ?_
        refine J_if_ne (tgt := 69) dX11_newName_53 (by decide) (fun c => ?_) (fun c => ?_)
        · replace h := h.1 c
          refine J_iload dX11_newName_69 rfl ?_
          exact J_reti dX11_newName_71 rfl h
        · replace h := h.2 c
          refine J_aload_n dX11_newName_56 rfl rfl ?_
          refine J_getR dX11_newName_57 ck_11 fw_X11_102 rfl sh_489 rr_489_38 ?_
          refine J_bipush dX11_newName_60 (ii_c rfl) (by decide) ?_
          refine J_iload_n dX11_newName_62 rfl rfl ?_
          refine J_imulN dX11_newName_63 h.1 ?_
          replace h := h.2
          refine J_iload dX11_newName_64 rfl ?_
          refine J_iaddN dX11_newName_66 h.1 ?_
          replace h := h.2
          refine J_lload_n dX11_newName_67 rfl rfl ?_
          refine J_last dX11_newName_68 sh_519 h.1.1 h.1.2 ?_
          replace h := h.2 _ rfl
          refine J_iload dX11_newName_69 rfl ?_
          exact J_reti dX11_newName_71 rfl h
set_option maxRecDepth 20000 in
set_option maxHeartbeats 2000000 in
theorem bk_X11_cornerTold_0 {d : Nat} {I : HI} {Q : Option AV → AH → Prop}   (h : CL mX11_name d [vR 489] I (fun x1 I1 => CI mX11_nameOf d [vR 489, vI 0, vL x1] I1 (fun x2 I2 => (((I2 489 5) ≠ 0 → ((x2 ≠ (-1) → Q (some (vI x2)) (mk I2)) ∧ (x2 = (-1) → Q (some (vI 0)) (mk I2)))) ∧ ((I2 489 5) = 0 → ((x2 ≠ (-1) → ((x2 ≠ (-1) → Q (some (vI x2)) (mk I2)) ∧ (x2 = (-1) → Q (some (vI 0)) (mk I2)))) ∧ (x2 = (-1) → CV mX11_fail d [vR 489, vI 3, vI (I2 489 36)] I2 (fun I3 => ((x2 ≠ (-1) → Q (some (vI x2)) (mk I3)) ∧ (x2 = (-1) → Q (some (vI 0)) (mk I3))))))))))) : J none mX11_cornerTold (d + 1) 0 0 0 [(0, vR 489)] [] (mk I) Q := by
  refine J_aload_n dX11_cornerTold_0 rfl rfl ?_
  refine J_callV (as := []) (mc1 := 0) (ms1 := 0) (mc := 0) (ms := 0) dX11_cornerTold_1 mv_X11_name lk_X11_279 sh_489 rfl (Nat.le_of_ble_eq_true rfl) (Nat.le_of_ble_eq_true rfl) h (fun r σ hq _ => ?_)
  obtain ⟨x1, I1, rfl, rfl, h⟩ := hq
  change J _ _ _ _ _ _ _ [vL x1] _ _
  refine J_lstore_n dX11_cornerTold_4 rfl (by decide) ?_
  refine J_aload_n dX11_cornerTold_5 rfl rfl ?_
  refine J_iconst dX11_cornerTold_6 (ii_c rfl) ?_
  refine J_lload_n dX11_cornerTold_7 rfl rfl ?_
  refine J_callV (as := [_, _]) (mc1 := 0) (ms1 := 0) (mc := 0) (ms := 0) dX11_cornerTold_8 mv_X11_nameOf lk_X11_283 sh_489 rfl (Nat.le_of_ble_eq_true rfl) (Nat.le_of_ble_eq_true rfl) h (fun r σ hq _ => ?_)
  obtain ⟨x2, I2, rfl, rfl, h⟩ := hq
  change J _ _ _ _ _ _ _ [vI x2] _ _
  refine J_istore_n dX11_cornerTold_11 rfl (by decide) ?_
  refine J_aload_n dX11_cornerTold_12 rfl rfl ?_
  refine J_getI dX11_cornerTold_13 ck_11 fw_X11_224 rfl sh_489 ?_
  refine J_if_ne (tgt := 33) dX11_cornerTold_16 (by decide) (fun c => ?_) (fun c => ?_)
  · replace h := h.1 c
    refine J_iload_n dX11_cornerTold_33 rfl rfl ?_
    refine J_iconst dX11_cornerTold_34 (ii_c rfl) ?_
    refine J_ic_ne (tgt := 42) dX11_cornerTold_35 (by decide) (fun c => ?_) (fun c => ?_)
    · replace h := h.1 c
      refine J_iload_n dX11_cornerTold_42 rfl rfl ?_
      exact J_reti dX11_cornerTold_43 rfl h
    · replace h := h.2 c
      refine J_iconst dX11_cornerTold_38 (ii_c rfl) ?_
      refine J_goto (tgt := 43) dX11_cornerTold_39 (by decide) ?_
      exact J_reti dX11_cornerTold_43 rfl h
  · replace h := h.2 c
    refine J_iload_n dX11_cornerTold_19 rfl rfl ?_
    refine J_iconst dX11_cornerTold_20 (ii_c rfl) ?_
    refine J_ic_ne (tgt := 33) dX11_cornerTold_21 (by decide) (fun c => ?_) (fun c => ?_)
    · replace h := h.1 c
      refine J_iload_n dX11_cornerTold_33 rfl rfl ?_
      refine J_iconst dX11_cornerTold_34 (ii_c rfl) ?_
      refine J_ic_ne (tgt := 42) dX11_cornerTold_35 (by decide) (fun c => ?_) (fun c => ?_)
      · replace h := h.1 c
        refine J_iload_n dX11_cornerTold_42 rfl rfl ?_
        exact J_reti dX11_cornerTold_43 rfl h
      · replace h := h.2 c
        refine J_iconst dX11_cornerTold_38 (ii_c rfl) ?_
        refine J_goto (tgt := 43) dX11_cornerTold_39 (by decide) ?_
        exact J_reti dX11_cornerTold_43 rfl h
    · replace h := h.2 c
      refine J_aload_n dX11_cornerTold_24 rfl rfl ?_
      refine J_iconst dX11_cornerTold_25 (ii_c rfl) ?_
      refine J_aload_n dX11_cornerTold_26 rfl rfl ?_
      refine J_getI dX11_cornerTold_27 ck_11 fw_X11_272 rfl sh_489 ?_
      refine J_callV (as := [_, _]) (mc1 := 0) (ms1 := 0) (mc := 0) (ms := 0) dX11_cornerTold_30 mv_X11_fail lk_X11_254 sh_489 rfl (Nat.le_of_ble_eq_true rfl) (Nat.le_of_ble_eq_true rfl) h (fun r σ hq _ => ?_)
      obtain ⟨I3, rfl, rfl, h⟩ := hq
      change J _ _ _ _ _ _ _ [] _ _
      refine J_iload_n dX11_cornerTold_33 rfl rfl ?_
      refine J_iconst dX11_cornerTold_34 (ii_c rfl) ?_
      refine J_ic_ne (tgt := 42) dX11_cornerTold_35 (by decide) (fun c => ?_) (fun c => ?_)
      · replace h := h.1 c
        refine J_iload_n dX11_cornerTold_42 rfl rfl ?_
        exact J_reti dX11_cornerTold_43 rfl h
      · replace h := h.2 c
        refine J_iconst dX11_cornerTold_38 (ii_c rfl) ?_
        refine J_goto (tgt := 43) dX11_cornerTold_39 (by decide) ?_
        exact J_reti dX11_cornerTold_43 rfl h
set_option maxRecDepth 20000 in
set_option maxHeartbeats 2000000 in
theorem bk_X11_newCorner_0 {d : Nat} {I : HI} {Q : Option AV → AH → Prop} {a1 : Int}  (h : CI mX11_isFull d [vR 489, vI 0, vI 10, vI a1] I (fun x1 I1 => ((x1 = 0 → CI mX11_newName d [vR 489, vI 0] I1 (fun x2 I2 => CV mX11_asks d [vR 489, vR 492] I2 (fun I3 => CI mX11_number d [vR 489, vI 1, vI 9] I3 (fun x4 I4 => (((I4 489 5) = 0 → ((0 : Int) ≤ x2 ∧ (x2 : Int) < 20) ∧ (∀ I5 : HI, I5 = up I4 520 x2.toNat x4 → (-2147483648 ≤ (I5 518 0) + 1 ∧ (I5 518 0) + 1 ≤ 2147483647) ∧ (∀ I6 : HI, I6 = up I5 518 0 ((I5 518 0) + 1) → Q none (mk I6)))) ∧ (¬ ((I4 489 5) = 0) → Q none (mk I4))))))) ∧ (¬ (x1 = 0) → Q none (mk I1))))) : J none mX11_newCorner (d + 1) 0 0 0 [(0, vR 489), (1, vI a1)] [] (mk I) Q := by
  refine J_aload_n dX11_newCorner_0 rfl rfl ?_
  refine J_iconst dX11_newCorner_1 (ii_c rfl) ?_
  refine J_bipush dX11_newCorner_2 (ii_c rfl) (by decide) ?_
  refine J_iload_n dX11_newCorner_4 rfl rfl ?_
  refine J_callV (as := [_, _, _]) (mc1 := 0) (ms1 := 0) (mc := 0) (ms := 0) dX11_newCorner_5 mv_X11_isFull lk_X11_287 sh_489 rfl (Nat.le_of_ble_eq_true rfl) (Nat.le_of_ble_eq_true rfl) h (fun r σ hq _ => ?_)
  obtain ⟨x1, I1, rfl, rfl, h⟩ := hq
  change J _ _ _ _ _ _ _ [vI x1] _ _
  refine J_if_eq (tgt := 12) dX11_newCorner_8 (by decide) (fun c => ?_) (fun c => ?_)
  · replace h := h.1 c
    refine J_aload_n dX11_newCorner_12 rfl rfl ?_
    refine J_iconst dX11_newCorner_13 (ii_c rfl) ?_
    refine J_callV (as := [_]) (mc1 := 0) (ms1 := 0) (mc := 0) (ms := 0) dX11_newCorner_14 mv_X11_newName lk_X11_291 sh_489 rfl (Nat.le_of_ble_eq_true rfl) (Nat.le_of_ble_eq_true rfl) h (fun r σ hq _ => ?_)
    obtain ⟨x2, I2, rfl, rfl, h⟩ := hq
    change J _ _ _ _ _ _ _ [vI x2] _ _
    refine J_istore_n dX11_newCorner_17 rfl (by decide) ?_
    refine J_aload_n dX11_newCorner_18 rfl rfl ?_
    refine J_aload_n dX11_newCorner_19 rfl rfl ?_
    refine J_getR dX11_newCorner_20 ck_11 fw_X11_21 rfl sh_489 rr_489_10 ?_
    refine J_callV (as := [_]) (mc1 := 0) (ms1 := 0) (mc := 0) (ms := 0) dX11_newCorner_23 mv_X11_asks lk_X11_295 sh_489 rfl (Nat.le_of_ble_eq_true rfl) (Nat.le_of_ble_eq_true rfl) h (fun r σ hq _ => ?_)
    obtain ⟨I3, rfl, rfl, h⟩ := hq
    change J _ _ _ _ _ _ _ [] _ _
    refine J_aload_n dX11_newCorner_26 rfl rfl ?_
    refine J_iconst dX11_newCorner_27 (ii_c rfl) ?_
    refine J_bipush dX11_newCorner_28 (ii_c rfl) (by decide) ?_
    refine J_callV (as := [_, _]) (mc1 := 0) (ms1 := 0) (mc := 0) (ms := 0) dX11_newCorner_30 mv_X11_number lk_X11_299 sh_489 rfl (Nat.le_of_ble_eq_true rfl) (Nat.le_of_ble_eq_true rfl) h (fun r σ hq _ => ?_)
    obtain ⟨x4, I4, rfl, rfl, h⟩ := hq
    change J _ _ _ _ _ _ _ [vI x4] _ _
    refine J_istore_n dX11_newCorner_33 rfl (by decide) ?_
    refine J_aload_n dX11_newCorner_34 rfl rfl ?_
    refine J_getI dX11_newCorner_35 ck_11 fw_X11_224 rfl sh_489 ?_
    refine J_if_eq (tgt := 42) dX11_newCorner_38 (by decide) (fun c => ?_) (fun c => ?_)
    · replace h := h.1 c
      refine J_aload_n dX11_newCorner_42 rfl rfl ?_
      refine J_getR dX11_newCorner_43 ck_11 fw_X11_106 rfl sh_489 rr_489_39 ?_
      refine J_iload_n dX11_newCorner_46 rfl rfl ?_
      refine J_iload_n dX11_newCorner_47 rfl rfl ?_
      refine J_iast dX11_newCorner_48 sh_520 h.1.1 h.1.2 ?_
      replace h := h.2 _ rfl
      refine J_aload_n dX11_newCorner_49 rfl rfl ?_
      refine J_getR dX11_newCorner_50 ck_11 fw_X11_99 rfl sh_489 rr_489_37 ?_
      refine J_iconst dX11_newCorner_53 (ii_c rfl) ?_
      refine J_dup2 dX11_newCorner_54 rfl rfl ?_
      refine J_iald dX11_newCorner_55 sh_518 (by decide) (by decide) ?_
      refine J_iconst dX11_newCorner_56 (ii_c rfl) ?_
      refine J_iaddN dX11_newCorner_57 h.1 ?_
      replace h := h.2
      refine J_iast dX11_newCorner_58 sh_518 (by decide) (by decide) ?_
      replace h := h _ rfl
      exact J_retv dX11_newCorner_59 rfl h
    · replace h := h.2 c
      exact J_retv dX11_newCorner_41 rfl h
  · replace h := h.2 c
    exact J_retv dX11_newCorner_11 rfl h
