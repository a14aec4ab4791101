set_option maxRecDepth 20000 in
set_option maxHeartbeats 2000000 in
theorem bk_X11_remembers_0 {d : Nat} {I : HI} {Q : Option AV → AH → Prop}   (h : J none mX11_remembers (d + 1) 0 0 2 [(0, vR 489), (1, vI 0)] [] (mk I) Q) : J none mX11_remembers (d + 1) 0 0 0 [(0, vR 489)] [] (mk I) Q := by
  refine J_iconst dX11_remembers_0 (ii_c rfl) ?_
  refine J_istore_n dX11_remembers_1 rfl (by decide) ?_
  exact h
set_option maxRecDepth 20000 in
set_option maxHeartbeats 2000000 in
theorem bk_X11_remembers_2 {d : Nat} {I : HI} {Q : Option AV → AH → Prop} {a1 : Int}  (h : ((4 ≤ a1 → J none mX11_remembers (d + 1) 0 0 27 [(0, vR 489), (1, vI 0)] [] (mk I) Q) ∧ (¬ (4 ≤ a1) → ((0 : Int) ≤ a1 ∧ (a1 : Int) < 244) ∧ ((0 : Int) ≤ a1 ∧ (a1 : Int) < 4) ∧ (∀ I1 : HI, I1 = up I 542 a1.toNat (I 532 a1.toNat) → (-2147483648 ≤ a1 + 1 ∧ a1 + 1 ≤ 2147483647) ∧ J none mX11_remembers (d + 1) 0 0 2 [(0, vR 489), (1, vI (a1 + 1))] [] (mk I1) Q)))) : J none mX11_remembers (d + 1) 0 0 2 [(0, vR 489), (1, vI a1)] [] (mk I) Q := by
  refine J_iload_n dX11_remembers_2 rfl rfl ?_
  refine J_iconst dX11_remembers_3 (ii_c rfl) ?_
  refine J_ic_ge (tgt := 25) dX11_remembers_4 (by decide) (fun c => ?_) (fun c => ?_)
  · replace h := h.1 c
    refine J_iconst dX11_remembers_25 (ii_c rfl) ?_
    refine J_istore_n dX11_remembers_26 rfl (by decide) ?_
    exact h
  · replace h := h.2 c
    refine J_aload_n dX11_remembers_7 rfl rfl ?_
    refine J_getR dX11_remembers_8 ck_11 fw_X11_175 rfl sh_489 rr_489_73 ?_
    refine J_iload_n dX11_remembers_11 rfl rfl ?_
    refine J_aload_n dX11_remembers_12 rfl rfl ?_
    refine J_getR dX11_remembers_13 ck_11 fw_X11_145 rfl sh_489 rr_489_59 ?_
    refine J_iload_n dX11_remembers_16 rfl rfl ?_
    refine J_iald dX11_remembers_17 sh_532 h.1.1 h.1.2 ?_
    replace h := h.2
    refine J_iast dX11_remembers_18 sh_542 h.1.1 h.1.2 ?_
    replace h := h.2 _ rfl
    refine J_iincN dX11_remembers_19 rfl (by decide) h.1 ?_
    replace h := h.2
    refine J_goto (tgt := 2) dX11_remembers_22 (by decide) ?_
    exact h
set_option maxRecDepth 20000 in
set_option maxHeartbeats 2000000 in
theorem bk_X11_remembers_27 {d : Nat} {I : HI} {Q : Option AV → AH → Prop} {a1 : Int}  (h : ((96 ≤ a1 → Q none (mk I)) ∧ (¬ (96 ≤ a1) → ((0 : Int) ≤ a1 ∧ (a1 : Int) < 5856) ∧ ((0 : Int) ≤ a1 ∧ (a1 : Int) < 96) ∧ (∀ I1 : HI, I1 = up I 543 a1.toNat (I 533 a1.toNat) → ((0 : Int) ≤ a1 ∧ (a1 : Int) < 5856) ∧ ((0 : Int) ≤ a1 ∧ (a1 : Int) < 96) ∧ (∀ I2 : HI, I2 = up I1 544 a1.toNat (I1 534 a1.toNat) → ((0 : Int) ≤ a1 ∧ (a1 : Int) < 5856) ∧ ((0 : Int) ≤ a1 ∧ (a1 : Int) < 96) ∧ (∀ I3 : HI, I3 = up I2 545 a1.toNat (I2 535 a1.toNat) → (-2147483648 ≤ a1 + 1 ∧ a1 + 1 ≤ 2147483647) ∧ J none mX11_remembers (d + 1) 0 0 27 [(0, vR 489), (1, vI (a1 + 1))] [] (mk I3) Q)))))) : J none mX11_remembers (d + 1) 0 0 27 [(0, vR 489), (1, vI a1)] [] (mk I) Q := by
  refine J_iload_n dX11_remembers_27 rfl rfl ?_
  refine J_bipush dX11_remembers_28 (ii_c rfl) (by decide) ?_
  refine J_ic_ge (tgt := 75) dX11_remembers_30 (by decide) (fun c => ?_) (fun c => ?_)
  · replace h := h.1 c
    exact J_retv dX11_remembers_75 rfl h
  · replace h := h.2 c
    refine J_aload_n dX11_remembers_33 rfl rfl ?_
    refine J_getR dX11_remembers_34 ck_11 fw_X11_178 rfl sh_489 rr_489_74 ?_
    refine J_iload_n dX11_remembers_37 rfl rfl ?_
    refine J_aload_n dX11_remembers_38 rfl rfl ?_
    refine J_getR dX11_remembers_39 ck_11 fw_X11_148 rfl sh_489 rr_489_60 ?_
    refine J_iload_n dX11_remembers_42 rfl rfl ?_
    refine J_iald dX11_remembers_43 sh_533 h.1.1 h.1.2 ?_
    replace h := h.2
    refine J_iast dX11_remembers_44 sh_543 h.1.1 h.1.2 ?_
    replace h := h.2 _ rfl
    refine J_aload_n dX11_remembers_45 rfl rfl ?_
    refine J_getR dX11_remembers_46 ck_11 fw_X11_181 rfl sh_489 rr_489_75 ?_
    refine J_iload_n dX11_remembers_49 rfl rfl ?_
    refine J_aload_n dX11_remembers_50 rfl rfl ?_
    refine J_getR dX11_remembers_51 ck_11 fw_X11_151 rfl sh_489 rr_489_61 ?_
    refine J_iload_n dX11_remembers_54 rfl rfl ?_
    refine J_iald dX11_remembers_55 sh_534 h.1.1 h.1.2 ?_
    replace h := h.2
    refine J_iast dX11_remembers_56 sh_544 h.1.1 h.1.2 ?_
    replace h := h.2 _ rfl
    refine J_aload_n dX11_remembers_57 rfl rfl ?_
    refine J_getR dX11_remembers_58 ck_11 fw_X11_184 rfl sh_489 rr_489_76 ?_
    refine J_iload_n dX11_remembers_61 rfl rfl ?_
    refine J_aload_n dX11_remembers_62 rfl rfl ?_
    refine J_getR dX11_remembers_63 ck_11 fw_X11_154 rfl sh_489 rr_489_62 ?_
    refine J_iload_n dX11_remembers_66 rfl rfl ?_
    refine J_iald dX11_remembers_67 sh_535 h.1.1 h.1.2 ?_
    replace h := h.2
    refine J_iast dX11_remembers_68 sh_545 h.1.1 h.1.2 ?_
    replace h := h.2 _ rfl
    refine J_iincN dX11_remembers_69 rfl (by decide) h.1 ?_
    replace h := h.2
    refine J_goto (tgt := 27) dX11_remembers_72 (by decide) ?_
    exact h
set_option maxRecDepth 20000 in
set_option maxHeartbeats 2000000 in
theorem bk_X11_keepsAside_0 {d : Nat} {I : HI} {Q : Option AV → AH → Prop}   (h : (-2147483648 ≤ (I 489 72) + 1 ∧ (I 489 72) + 1 ≤ 2147483647) ∧ (∀ I1 : HI, I1 = up I 489 72 (oM ((I 489 72) + 1) 20) → J none mX11_keepsAside (d + 1) 0 0 15 [(0, vR 489), (1, vI 0)] [] (mk I1) Q)) : J none mX11_keepsAside (d + 1) 0 0 0 [(0, vR 489)] [] (mk I) Q := by
  refine J_aload_n dX11_keepsAside_0 rfl rfl ?_
  refine J_aload_n dX11_keepsAside_1 rfl rfl ?_
  refine J_getI dX11_keepsAside_2 ck_11 fw_X11_487 rfl sh_489 ?_
  refine J_iconst dX11_keepsAside_5 (ii_c rfl) ?_
  refine J_iaddN dX11_keepsAside_6 h.1 ?_
  replace h := h.2
  refine J_bipush dX11_keepsAside_7 (ii_c rfl) (by decide) ?_
  refine J_irem dX11_keepsAside_9 (by decide) ?_
  refine J_putI dX11_keepsAside_10 ck_11 fw_X11_487 rfl rfl (Or.inl rfl) sh_489 ?_
  replace h := h _ rfl
  refine J_iconst dX11_keepsAside_13 (ii_c rfl) ?_
  refine J_istore_n dX11_keepsAside_14 rfl (by decide) ?_
  exact h
set_option maxRecDepth 20000 in
set_option maxHeartbeats 2000000 in
theorem bk_X11_keepsAside_15 {d : Nat} {I : HI} {Q : Option AV → AH → Prop} {a1 : Int}  (h : ((4 ≤ a1 → J none mX11_keepsAside (d + 1) 0 0 47 [(0, vR 489), (1, vI 0)] [] (mk I) Q) ∧ (¬ (4 ≤ a1) → (-2147483648 ≤ 4 * (I 489 72) ∧ 4 * (I 489 72) ≤ 2147483647) ∧ (-2147483648 ≤ (4 * (I 489 72)) + a1 ∧ (4 * (I 489 72)) + a1 ≤ 2147483647) ∧ ((0 : Int) ≤ a1 ∧ (a1 : Int) < 4) ∧ ((0 : Int) ≤ ((4 * (I 489 72)) + a1) ∧ ((4 * (I 489 72)) + a1 : Int) < 80) ∧ (∀ I1 : HI, I1 = up I 536 ((4 * (I 489 72)) + a1).toNat (I 542 a1.toNat) → (-2147483648 ≤ a1 + 1 ∧ a1 + 1 ≤ 2147483647) ∧ J none mX11_keepsAside (d + 1) 0 0 15 [(0, vR 489), (1, vI (a1 + 1))] [] (mk I1) Q)))) : J none mX11_keepsAside (d + 1) 0 0 15 [(0, vR 489), (1, vI a1)] [] (mk I) Q := by
  refine J_iload_n dX11_keepsAside_15 rfl rfl ?_
  refine J_iconst dX11_keepsAside_16 (ii_c rfl) ?_
  refine J_ic_ge (tgt := 45) dX11_keepsAside_17 (by decide) (fun c => ?_) (fun c => ?_)
  · replace h := h.1 c
    refine J_iconst dX11_keepsAside_45 (ii_c rfl) ?_
    refine J_istore_n dX11_keepsAside_46 rfl (by decide) ?_
    exact h
  · replace h := h.2 c
    refine J_aload_n dX11_keepsAside_20 rfl rfl ?_
    refine J_getR dX11_keepsAside_21 ck_11 fw_X11_157 rfl sh_489 rr_489_65 ?_
    refine J_iconst dX11_keepsAside_24 (ii_c rfl) ?_
    refine J_aload_n dX11_keepsAside_25 rfl rfl ?_
    refine J_getI dX11_keepsAside_26 ck_11 fw_X11_487 rfl sh_489 ?_
    refine J_imulN dX11_keepsAside_29 h.1 ?_
    replace h := h.2
    refine J_iload_n dX11_keepsAside_30 rfl rfl ?_
    refine J_iaddN dX11_keepsAside_31 h.1 ?_
    replace h := h.2
    refine J_aload_n dX11_keepsAside_32 rfl rfl ?_
    refine J_getR dX11_keepsAside_33 ck_11 fw_X11_175 rfl sh_489 rr_489_73 ?_
    refine J_iload_n dX11_keepsAside_36 rfl rfl ?_
    refine J_iald dX11_keepsAside_37 sh_542 h.1.1 h.1.2 ?_
    replace h := h.2
    refine J_iast dX11_keepsAside_38 sh_536 h.1.1 h.1.2 ?_
    replace h := h.2 _ rfl
    refine J_iincN dX11_keepsAside_39 rfl (by decide) h.1 ?_
    replace h := h.2
    refine J_goto (tgt := 15) dX11_keepsAside_42 (by decide) ?_
    exact h
set_option maxRecDepth 20000 in
set_option maxHeartbeats 2000000 in
theorem bk_X11_keepsAside_47 {d : Nat} {I : HI} {Q : Option AV → AH → Prop} {a1 : Int}  (h : ((96 ≤ a1 → ((0 : Int) ≤ (I 489 72) ∧ (I 489 72 : Int) < 20) ∧ (∀ I1 : HI, I1 = up I 540 (I 489 72).toNat (I 489 63) → ((0 : Int) ≤ (I1 489 72) ∧ (I1 489 72 : Int) < 20) ∧ (∀ I2 : HI, I2 = up I1 541 (I1 489 72).toNat (I1 489 64) → ((20 ≤ (I2 489 71) → Q none (mk I2)) ∧ (¬ (20 ≤ (I2 489 71)) → (-2147483648 ≤ (I2 489 71) + 1 ∧ (I2 489 71) + 1 ≤ 2147483647) ∧ (∀ I3 : HI, I3 = up I2 489 71 ((I2 489 71) + 1) → Q none (mk I3))))))) ∧ (¬ (96 ≤ a1) → (-2147483648 ≤ 96 * (I 489 72) ∧ 96 * (I 489 72) ≤ 2147483647) ∧ (-2147483648 ≤ (96 * (I 489 72)) + a1 ∧ (96 * (I 489 72)) + a1 ≤ 2147483647) ∧ ((0 : Int) ≤ a1 ∧ (a1 : Int) < 96) ∧ ((0 : Int) ≤ ((96 * (I 489 72)) + a1) ∧ ((96 * (I 489 72)) + a1 : Int) < 1920) ∧ (∀ I4 : HI, I4 = up I 537 ((96 * (I 489 72)) + a1).toNat (I 543 a1.toNat) → (-2147483648 ≤ 96 * (I4 489 72) ∧ 96 * (I4 489 72) ≤ 2147483647) ∧ (-2147483648 ≤ (96 * (I4 489 72)) + a1 ∧ (96 * (I4 489 72)) + a1 ≤ 2147483647) ∧ ((0 : Int) ≤ a1 ∧ (a1 : Int) < 96) ∧ ((0 : Int) ≤ ((96 * (I4 489 72)) + a1) ∧ ((96 * (I4 489 72)) + a1 : Int) < 1920) ∧ (∀ I5 : HI, I5 = up I4 538 ((96 * (I4 489 72)) + a1).toNat (I4 544 a1.toNat) → (-2147483648 ≤ 96 * (I5 489 72) ∧ 96 * (I5 489 72) ≤ 2147483647) ∧ (-2147483648 ≤ (96 * (I5 489 72)) + a1 ∧ (96 * (I5 489 72)) + a1 ≤ 2147483647) ∧ ((0 : Int) ≤ a1 ∧ (a1 : Int) < 96) ∧ ((0 : Int) ≤ ((96 * (I5 489 72)) + a1) ∧ ((96 * (I5 489 72)) + a1 : Int) < 1920) ∧ (∀ I6 : HI, I6 = up I5 539 ((96 * (I5 489 72)) + a1).toNat (I5 545 a1.toNat) → (-2147483648 ≤ a1 + 1 ∧ a1 + 1 ≤ 2147483647) ∧ J none mX11_keepsAside (d + 1) 0 0 47 [(0, vR 489), (1, vI (a1 + 1))] [] (mk I6) Q)))))) : J none mX11_keepsAside (d + 1) 0 0 47 [(0, vR 489), (1, vI a1)] [] (mk I) Q := by
  refine J_iload_n dX11_keepsAside_47 rfl rfl ?_
  refine J_bipush dX11_keepsAside_48 (ii_c rfl) (by decide) ?_
  refine J_ic_ge (tgt := 119) dX11_keepsAside_50 (by decide) (fun c => ?_) (fun c => ?_)
  · replace h := h.1 c
    refine J_aload_n dX11_keepsAside_119 rfl rfl ?_
    refine J_getR dX11_keepsAside_120 ck_11 fw_X11_169 rfl sh_489 rr_489_69 ?_
    refine J_aload_n dX11_keepsAside_123 rfl rfl ?_
    refine J_getI dX11_keepsAside_124 ck_11 fw_X11_487 rfl sh_489 ?_
    refine J_aload_n dX11_keepsAside_127 rfl rfl ?_
    refine J_getI dX11_keepsAside_128 ck_11 fw_X11_358 rfl sh_489 ?_
    refine J_iast dX11_keepsAside_131 sh_540 h.1.1 h.1.2 ?_
    replace h := h.2 _ rfl
    refine J_aload_n dX11_keepsAside_132 rfl rfl ?_
    refine J_getR dX11_keepsAside_133 ck_11 fw_X11_172 rfl sh_489 rr_489_70 ?_
    refine J_aload_n dX11_keepsAside_136 rfl rfl ?_
    refine J_getI dX11_keepsAside_137 ck_11 fw_X11_487 rfl sh_489 ?_
    refine J_aload_n dX11_keepsAside_140 rfl rfl ?_
    refine J_getI dX11_keepsAside_141 ck_11 fw_X11_361 rfl sh_489 ?_
    refine J_iast dX11_keepsAside_144 sh_541 h.1.1 h.1.2 ?_
    replace h := h.2 _ rfl
    refine J_aload_n dX11_keepsAside_145 rfl rfl ?_
    refine J_getI dX11_keepsAside_146 ck_11 fw_X11_364 rfl sh_489 ?_
    refine J_bipush dX11_keepsAside_149 (ii_c rfl) (by decide) ?_
    refine J_ic_ge (tgt := 164) dX11_keepsAside_151 (by decide) (fun c => ?_) (fun c => ?_)
    · replace h := h.1 c
      exact J_retv dX11_keepsAside_164 rfl h
    · replace h := h.2 c
      refine J_aload_n dX11_keepsAside_154 rfl rfl ?_
      refine J_dup dX11_keepsAside_155 rfl ?_
      refine J_getI dX11_keepsAside_156 ck_11 fw_X11_364 rfl sh_489 ?_
      refine J_iconst dX11_keepsAside_159 (ii_c rfl) ?_
      refine J_iaddN dX11_keepsAside_160 h.1 ?_
      replace h := h.2
      refine J_putI dX11_keepsAside_161 ck_11 fw_X11_364 rfl rfl (Or.inl rfl) sh_489 ?_
      replace h := h _ rfl
      exact J_retv dX11_keepsAside_164 rfl h
  · replace h := h.2 c
    refine J_aload_n dX11_keepsAside_53 rfl rfl ?_
    refine J_getR dX11_keepsAside_54 ck_11 fw_X11_160 rfl sh_489 rr_489_66 ?_
    refine J_bipush dX11_keepsAside_57 (ii_c rfl) (by decide) ?_
    refine J_aload_n dX11_keepsAside_59 rfl rfl ?_
    refine J_getI dX11_keepsAside_60 ck_11 fw_X11_487 rfl sh_489 ?_
    refine J_imulN dX11_keepsAside_63 h.1 ?_
    replace h := h.2
    refine J_iload_n dX11_keepsAside_64 rfl rfl ?_
    refine J_iaddN dX11_keepsAside_65 h.1 ?_
    replace h := h.2
    refine J_aload_n dX11_keepsAside_66 rfl rfl ?_
    refine J_getR dX11_keepsAside_67 ck_11 fw_X11_178 rfl sh_489 rr_489_74 ?_
    refine J_iload_n dX11_keepsAside_70 rfl rfl ?_
    refine J_iald dX11_keepsAside_71 sh_543 h.1.1 h.1.2 ?_
    replace h := h.2
    refine J_iast dX11_keepsAside_72 sh_537 h.1.1 h.1.2 ?_
    replace h := h.2 _ rfl
    refine J_aload_n dX11_keepsAside_73 rfl rfl ?_
    refine J_getR dX11_keepsAside_74 ck_11 fw_X11_163 rfl sh_489 rr_489_67 ?_
    refine J_bipush dX11_keepsAside_77 (ii_c rfl) (by decide) ?_
    refine J_aload_n dX11_keepsAside_79 rfl rfl ?_
    refine J_getI dX11_keepsAside_80 ck_11 fw_X11_487 rfl sh_489 ?_
    refine J_imulN dX11_keepsAside_83 h.1 ?_
    replace h := h.2
    refine J_iload_n dX11_keepsAside_84 rfl rfl ?_
    refine J_iaddN dX11_keepsAside_85 h.1 ?_
    replace h := h.2
    refine J_aload_n dX11_keepsAside_86 rfl rfl ?_
    refine J_getR dX11_keepsAside_87 ck_11 fw_X11_181 rfl sh_489 rr_489_75 ?_
    refine J_iload_n dX11_keepsAside_90 rfl rfl ?_
    refine J_iald dX11_keepsAside_91 sh_544 h.1.1 h.1.2 ?_
    replace h := h.2
    refine J_iast dX11_keepsAside_92 sh_538 h.1.1 h.1.2 ?_
    replace h := h.2 _ rfl
    refine J_aload_n dX11_keepsAside_93 rfl rfl ?_
    refine J_getR dX11_keepsAside_94 ck_11 fw_X11_166 rfl sh_489 rr_489_68 ?_
    refine J_bipush dX11_keepsAside_97 (ii_c rfl) (by decide) ?_
    refine J_aload_n dX11_keepsAside_99 rfl rfl ?_
    refine J_getI dX11_keepsAside_100 ck_11 fw_X11_487 rfl sh_489 ?_
    refine J_imulN dX11_keepsAside_103 h.1 ?_
    replace h := h.2
    refine J_iload_n dX11_keepsAside_104 rfl rfl ?_
    refine J_iaddN dX11_keepsAside_105 h.1 ?_
    replace h := h.2
    refine J_aload_n dX11_keepsAside_106 rfl rfl ?_
    refine J_getR dX11_keepsAside_107 ck_11 fw_X11_184 rfl sh_489 rr_489_76 ?_
    refine J_iload_n dX11_keepsAside_110 rfl rfl ?_
    refine J_iald dX11_keepsAside_111 sh_545 h.1.1 h.1.2 ?_
    replace h := h.2
    refine J_iast dX11_keepsAside_112 sh_539 h.1.1 h.1.2 ?_
    replace h := h.2 _ rfl
    refine J_iincN dX11_keepsAside_113 rfl (by decide) h.1 ?_
    replace h := h.2
    refine J_goto (tgt := 47) dX11_keepsAside_116 (by decide) ?_
    exact h
set_option maxRecDepth 20000 in
set_option maxHeartbeats 2000000 in
theorem bk_X11_keeps_0 {d : Nat} {I : HI} {Q : Option AV → AH → Prop}   (h : CV mX11_remembers d [vR 489] I (fun I1 => CV mX11_keepsAside d [vR 489] I1 (fun I2 => Q none (mk I2)))) : J none mX11_keeps (d + 1) 0 0 0 [(0, vR 489)] [] (mk I) Q := by
  refine J_aload_n dX11_keeps_0 rfl rfl ?_
  refine J_callV (as := []) (mc1 := 0) (ms1 := 0) (mc := 0) (ms := 0) dX11_keeps_1 mv_X11_remembers lk_X11_490 sh_489 rfl (Nat.le_of_ble_eq_true rfl) (Nat.le_of_ble_eq_true rfl) h (fun r σ hq _ => ?_)
  obtain ⟨I1, rfl, rfl, h⟩ := hq
  change J _ _ _ _ _ _ _ [] _ _
  refine J_aload_n dX11_keeps_4 rfl rfl ?_
  refine J_callV (as := []) (mc1 := 0) (ms1 := 0) (mc := 0) (ms := 0) dX11_keeps_5 mv_X11_keepsAside lk_X11_493 sh_489 rfl (Nat.le_of_ble_eq_true rfl) (Nat.le_of_ble_eq_true rfl) h (fun r σ hq _ => ?_)
  obtain ⟨I2, rfl, rfl, h⟩ := hq
  change J _ _ _ _ _ _ _ [] _ _
  exact J_retv dX11_keeps_8 rfl h
set_option maxRecDepth 20000 in
set_option maxHeartbeats 2000000 in
theorem bk_X11_undo_0 {d : Nat} {I : HI} {Q : Option AV → AH → Prop}   (h : (((I 489 71) ≠ 0 → J none mX11_undo (d + 1) 0 0 11 [(0, vR 489), (1, vI 0)] [] (mk I) Q) ∧ ((I 489 71) = 0 → Q (some (vI 0)) (mk I)))) : J none mX11_undo (d + 1) 0 0 0 [(0, vR 489)] [] (mk I) Q := by
  refine J_aload_n dX11_undo_0 rfl rfl ?_
  refine J_getI dX11_undo_1 ck_11 fw_X11_364 rfl sh_489 ?_
  refine J_if_ne (tgt := 9) dX11_undo_4 (by decide) (fun c => ?_) (fun c => ?_)
  · replace h := h.1 c
    refine J_iconst dX11_undo_9 (ii_c rfl) ?_
    refine J_istore_n dX11_undo_10 rfl (by decide) ?_
    exact h
  · replace h := h.2 c
    refine J_iconst dX11_undo_7 (ii_c rfl) ?_
    exact J_retz dX11_undo_8 rfl (Or.inl rfl) h
set_option maxRecDepth 20000 in
set_option maxHeartbeats 2000000 in
theorem bk_X11_undo_11 {d : Nat} {I : HI} {Q : Option AV → AH → Prop} {a1 : Int}  (h : ((4 ≤ a1 → J none mX11_undo (d + 1) 0 0 43 [(0, vR 489), (1, vI 0)] [] (mk I) Q) ∧ (¬ (4 ≤ a1) → (-2147483648 ≤ 4 * (I 489 72) ∧ 4 * (I 489 72) ≤ 2147483647) ∧ (-2147483648 ≤ (4 * (I 489 72)) + a1 ∧ (4 * (I 489 72)) + a1 ≤ 2147483647) ∧ ((0 : Int) ≤ ((4 * (I 489 72)) + a1) ∧ ((4 * (I 489 72)) + a1 : Int) < 80) ∧ ((0 : Int) ≤ a1 ∧ (a1 : Int) < 244) ∧ (∀ I1 : HI, I1 = up I 532 a1.toNat (I 536 ((4 * (I 489 72)) + a1).toNat) → (-2147483648 ≤ a1 + 1 ∧ a1 + 1 ≤ 2147483647) ∧ J none mX11_undo (d + 1) 0 0 11 [(0, vR 489), (1, vI (a1 + 1))] [] (mk I1) Q)))) : J none mX11_undo (d + 1) 0 0 11 [(0, vR 489), (1, vI a1)] [] (mk I) Q := by
  refine J_iload_n dX11_undo_11 rfl rfl ?_
  refine J_iconst dX11_undo_12 (ii_c rfl) ?_
  refine J_ic_ge (tgt := 41) dX11_undo_13 (by decide) (fun c => ?_) (fun c => ?_)
  · replace h := h.1 c
    refine J_iconst dX11_undo_41 (ii_c rfl) ?_
    refine J_istore_n dX11_undo_42 rfl (by decide) ?_
    exact h
  · replace h := h.2 c
    refine J_aload_n dX11_undo_16 rfl rfl ?_
    refine J_getR dX11_undo_17 ck_11 fw_X11_145 rfl sh_489 rr_489_59 ?_
    refine J_iload_n dX11_undo_20 rfl rfl ?_
    refine J_aload_n dX11_undo_21 rfl rfl ?_
    refine J_getR dX11_undo_22 ck_11 fw_X11_157 rfl sh_489 rr_489_65 ?_
    refine J_iconst dX11_undo_25 (ii_c rfl) ?_
    refine J_aload_n dX11_undo_26 rfl rfl ?_
    refine J_getI dX11_undo_27 ck_11 fw_X11_487 rfl sh_489 ?_
    refine J_imulN dX11_undo_30 h.1 ?_
    replace h := h.2
    refine J_iload_n dX11_undo_31 rfl rfl ?_
    refine J_iaddN dX11_undo_32 h.1 ?_
    replace h := h.2
    refine J_iald dX11_undo_33 sh_536 h.1.1 h.1.2 ?_
    replace h := h.2
    refine J_iast dX11_undo_34 sh_532 h.1.1 h.1.2 ?_
    replace h := h.2 _ rfl
    refine J_iincN dX11_undo_35 rfl (by decide) h.1 ?_
    replace h := h.2
    refine J_goto (tgt := 11) dX11_undo_38 (by decide) ?_
    exact h
set_option maxRecDepth 20000 in
set_option maxHeartbeats 2000000 in
theorem bk_X11_undo_43 {d : Nat} {I : HI} {Q : Option AV → AH → Prop} {a1 : Int}  (h : ((96 ≤ a1 → ((0 : Int) ≤ (I 489 72) ∧ (I 489 72 : Int) < 20) ∧ (∀ I1 : HI, I1 = up I 489 63 (I 540 (I 489 72).toNat) → ((0 : Int) ≤ (I1 489 72) ∧ (I1 489 72 : Int) < 20) ∧ (∀ I2 : HI, I2 = up I1 489 64 (I1 541 (I1 489 72).toNat) → (-2147483648 ≤ (I2 489 72) + 20 ∧ (I2 489 72) + 20 ≤ 2147483647) ∧ (-2147483648 ≤ ((I2 489 72) + 20) - 1 ∧ ((I2 489 72) + 20) - 1 ≤ 2147483647) ∧ (∀ I3 : HI, I3 = up I2 489 72 (oM (((I2 489 72) + 20) - 1) 20) → (-2147483648 ≤ (I3 489 71) - 1 ∧ (I3 489 71) - 1 ≤ 2147483647) ∧ (∀ I4 : HI, I4 = up I3 489 71 ((I3 489 71) - 1) → Q (some (vI 1)) (mk I4)))))) ∧ (¬ (96 ≤ a1) → (-2147483648 ≤ 96 * (I 489 72) ∧ 96 * (I 489 72) ≤ 2147483647) ∧ (-2147483648 ≤ (96 * (I 489 72)) + a1 ∧ (96 * (I 489 72)) + a1 ≤ 2147483647) ∧ ((0 : Int) ≤ ((96 * (I 489 72)) + a1) ∧ ((96 * (I 489 72)) + a1 : Int) < 1920) ∧ ((0 : Int) ≤ a1 ∧ (a1 : Int) < 5856) ∧ (∀ I5 : HI, I5 = up I 533 a1.toNat (I 537 ((96 * (I 489 72)) + a1).toNat) → (-2147483648 ≤ 96 * (I5 489 72) ∧ 96 * (I5 489 72) ≤ 2147483647) ∧ (-2147483648 ≤ (96 * (I5 489 72)) + a1 ∧ (96 * (I5 489 72)) + a1 ≤ 2147483647) ∧ ((0 : Int) ≤ ((96 * (I5 489 72)) + a1) ∧ ((96 * (I5 489 72)) + a1 : Int) < 1920) ∧ ((0 : Int) ≤ a1 ∧ (a1 : Int) < 5856) ∧ (∀ I6 : HI, I6 = up I5 534 a1.toNat (I5 538 ((96 * (I5 489 72)) + a1).toNat) → (-2147483648 ≤ 96 * (I6 489 72) ∧ 96 * (I6 489 72) ≤ 2147483647) ∧ (-2147483648 ≤ (96 * (I6 489 72)) + a1 ∧ (96 * (I6 489 72)) + a1 ≤ 2147483647) ∧ ((0 : Int) ≤ ((96 * (I6 489 72)) + a1) ∧ ((96 * (I6 489 72)) + a1 : Int) < 1920) ∧ ((0 : Int) ≤ a1 ∧ (a1 : Int) < 5856) ∧ (∀ I7 : HI, I7 = up I6 535 a1.toNat (I6 539 ((96 * (I6 489 72)) + a1).toNat) → (-2147483648 ≤ a1 + 1 ∧ a1 + 1 ≤ 2147483647) ∧ J none mX11_undo (d + 1) 0 0 43 [(0, vR 489), (1, vI (a1 + 1))] [] (mk I7) Q)))))) : J none mX11_undo (d + 1) 0 0 43 [(0, vR 489), (1, vI a1)] [] (mk I) Q := by
  refine J_iload_n dX11_undo_43 rfl rfl ?_
  refine J_bipush dX11_undo_44 (ii_c rfl) (by decide) ?_
  refine J_ic_ge (tgt := 115) dX11_undo_46 (by decide) (fun c => ?_) (fun c => ?_)
  · replace h := h.1 c
    refine J_aload_n dX11_undo_115 rfl rfl ?_
    refine J_aload_n dX11_undo_116 rfl rfl ?_
    refine J_getR dX11_undo_117 ck_11 fw_X11_169 rfl sh_489 rr_489_69 ?_
    refine J_aload_n dX11_undo_120 rfl rfl ?_
    refine J_getI dX11_undo_121 ck_11 fw_X11_487 rfl sh_489 ?_
    refine J_iald dX11_undo_124 sh_540 h.1.1 h.1.2 ?_
    replace h := h.2
    refine J_putI dX11_undo_125 ck_11 fw_X11_358 rfl rfl (Or.inl rfl) sh_489 ?_
    replace h := h _ rfl
    refine J_aload_n dX11_undo_128 rfl rfl ?_
    refine J_aload_n dX11_undo_129 rfl rfl ?_
    refine J_getR dX11_undo_130 ck_11 fw_X11_172 rfl sh_489 rr_489_70 ?_
    refine J_aload_n dX11_undo_133 rfl rfl ?_
    refine J_getI dX11_undo_134 ck_11 fw_X11_487 rfl sh_489 ?_
    refine J_iald dX11_undo_137 sh_541 h.1.1 h.1.2 ?_
    replace h := h.2
    refine J_putI dX11_undo_138 ck_11 fw_X11_361 rfl rfl (Or.inl rfl) sh_489 ?_
    replace h := h _ rfl
    refine J_aload_n dX11_undo_141 rfl rfl ?_
    refine J_aload_n dX11_undo_142 rfl rfl ?_
    refine J_getI dX11_undo_143 ck_11 fw_X11_487 rfl sh_489 ?_
    refine J_bipush dX11_undo_146 (ii_c rfl) (by decide) ?_
    refine J_iaddN dX11_undo_148 h.1 ?_
    replace h := h.2
    refine J_iconst dX11_undo_149 (ii_c rfl) ?_
    refine J_isubN dX11_undo_150 h.1 ?_
    replace h := h.2
    refine J_bipush dX11_undo_151 (ii_c rfl) (by decide) ?_
    refine J_irem dX11_undo_153 (by decide) ?_
    refine J_putI dX11_undo_154 ck_11 fw_X11_487 rfl rfl (Or.inl rfl) sh_489 ?_
    replace h := h _ rfl
    refine J_aload_n dX11_undo_157 rfl rfl ?_
    refine J_dup dX11_undo_158 rfl ?_
    refine J_getI dX11_undo_159 ck_11 fw_X11_364 rfl sh_489 ?_
    refine J_iconst dX11_undo_162 (ii_c rfl) ?_
    refine J_isubN dX11_undo_163 h.1 ?_
    replace h := h.2
    refine J_putI dX11_undo_164 ck_11 fw_X11_364 rfl rfl (Or.inl rfl) sh_489 ?_
    replace h := h _ rfl
    refine J_iconst dX11_undo_167 (ii_c rfl) ?_
    exact J_retz dX11_undo_168 rfl (Or.inr rfl) h
  · replace h := h.2 c
    refine J_aload_n dX11_undo_49 rfl rfl ?_
    refine J_getR dX11_undo_50 ck_11 fw_X11_148 rfl sh_489 rr_489_60 ?_
    refine J_iload_n dX11_undo_53 rfl rfl ?_
    refine J_aload_n dX11_undo_54 rfl rfl ?_
    refine J_getR dX11_undo_55 ck_11 fw_X11_160 rfl sh_489 rr_489_66 ?_
    refine J_bipush dX11_undo_58 (ii_c rfl) (by decide) ?_
    refine J_aload_n dX11_undo_60 rfl rfl ?_
    refine J_getI dX11_undo_61 ck_11 fw_X11_487 rfl sh_489 ?_
    refine J_imulN dX11_undo_64 h.1 ?_
    replace h := h.2
    refine J_iload_n dX11_undo_65 rfl rfl ?_
    refine J_iaddN dX11_undo_66 h.1 ?_
    replace h := h.2
    refine J_iald dX11_undo_67 sh_537 h.1.1 h.1.2 ?_
    replace h := h.2
    refine J_iast dX11_undo_68 sh_533 h.1.1 h.1.2 ?_
    replace h := h.2 _ rfl
    refine J_aload_n dX11_undo_69 rfl rfl ?_
    refine J_getR dX11_undo_70 ck_11 fw_X11_151 rfl sh_489 rr_489_61 ?_
    refine J_iload_n dX11_undo_73 rfl rfl ?_
    refine J_aload_n dX11_undo_74 rfl rfl ?_
    refine J_getR dX11_undo_75 ck_11 fw_X11_163 rfl sh_489 rr_489_67 ?_
    refine J_bipush dX11_undo_78 (ii_c rfl) (by decide) ?_
    refine J_aload_n dX11_undo_80 rfl rfl ?_
    refine J_getI dX11_undo_81 ck_11 fw_X11_487 rfl sh_489 ?_
    refine J_imulN dX11_undo_84 h.1 ?_
    replace h := h.2
    refine J_iload_n dX11_undo_85 rfl rfl ?_
    refine J_iaddN dX11_undo_86 h.1 ?_
    replace h := h.2
    refine J_iald dX11_undo_87 sh_538 h.1.1 h.1.2 ?_
    replace h := h.2
    refine J_iast dX11_undo_88 sh_534 h.1.1 h.1.2 ?_
    replace h := h.2 _ rfl
    refine J_aload_n dX11_undo_89 rfl rfl ?_
    refine J_getR dX11_undo_90 ck_11 fw_X11_154 rfl sh_489 rr_489_62 ?_
    refine J_iload_n dX11_undo_93 rfl rfl ?_
    refine J_aload_n dX11_undo_94 rfl rfl ?_
    refine J_getR dX11_undo_95 ck_11 fw_X11_166 rfl sh_489 rr_489_68 ?_
    refine J_bipush dX11_undo_98 (ii_c rfl) (by decide) ?_
    refine J_aload_n dX11_undo_100 rfl rfl ?_
    refine J_getI dX11_undo_101 ck_11 fw_X11_487 rfl sh_489 ?_
    refine J_imulN dX11_undo_104 h.1 ?_
    replace h := h.2
    refine J_iload_n dX11_undo_105 rfl rfl ?_
    refine J_iaddN dX11_undo_106 h.1 ?_
    replace h := h.2
    refine J_iald dX11_undo_107 sh_539 h.1.1 h.1.2 ?_
    replace h := h.2
    refine J_iast dX11_undo_108 sh_535 h.1.1 h.1.2 ?_
    replace h := h.2 _ rfl
    refine J_iincN dX11_undo_109 rfl (by decide) h.1 ?_
    replace h := h.2
    refine J_goto (tgt := 43) dX11_undo_112 (by decide) ?_
    exact h
set_option maxRecDepth 20000 in
set_option maxHeartbeats 2000000 in
theorem bk_X11_go_0 {d : Nat} {I : HI} {Q : Option AV → AH → Prop} {a1 : Int} {a2 : Int}  (h : CI mX11_isSaint d [vR 489, vI a1] I (fun x1 I1 => ((x1 = 0 → Q (some (vI (-1))) (mk I1)) ∧ (¬ (x1 = 0) → CI mX11_isCorner d [vR 489, vI a2] I1 (fun x2 I2 => ((x2 ≠ 0 → CI mX11_endsAt d [vR 489, vI a1] I2 (fun x3 I3 => CI mX11_laneOf d [vR 489, vI x3, vI a2] I3 (fun x4 I4 => ((x4 = (-1) → Q (some (vI (-1))) (mk I4)) ∧ (¬ (x4 = (-1)) → CI mX11_isShut d [vR 489, vI x4] I4 (fun x5 I5 => ((x5 ≠ 0 → Q (some (vI (-1))) (mk I5)) ∧ (x5 = 0 → CI mX11_longOf d [vR 489, vI x4, vI a1] I5 (fun x6 I6 => CI mX11_canGo d [vR 489, vI a1, vI x6] I6 (fun x7 I7 => ((x7 ≠ 0 → CV mX11_keeps d [vR 489] I7 (fun I8 => CI mX11_longOf d [vR 489, vI x4, vI a1] I8 (fun x9 I9 => CV mX11_treads d [vR 489, vI a1, vI a2, vI x4, vI x9] I9 (fun I10 => CI mX11_endOf d [vR 489, vI a1] I10 (fun x11 I11 => Q (some (vI x11)) (mk I11)))))) ∧ (x7 = 0 → Q (some (vI (-1))) (mk I7))))))))))))) ∧ (x2 = 0 → Q (some (vI (-1))) (mk I2)))))))) : J none mX11_go (d + 1) 0 0 0 [(0, vR 489), (1, vI a1), (2, vI a2)] [] (mk I) Q := by
  refine J_aload_n dX11_go_0 rfl rfl ?_
  refine J_iload_n dX11_go_1 rfl rfl ?_
  refine J_callV (as := [_]) (mc1 := 0) (ms1 := 0) (mc := 0) (ms := 0) dX11_go_2 mv_X11_isSaint lk_X11_481 sh_489 rfl (Nat.le_of_ble_eq_true rfl) (Nat.le_of_ble_eq_true rfl) h (fun r σ hq _ => ?_)
  obtain ⟨x1, I1, rfl, rfl, h⟩ := hq
  change J _ _ _ _ _ _ _ [vI x1] _ _
  refine J_if_eq (tgt := 16) dX11_go_5 (by decide) (fun c => ?_) (fun c => ?_)
  · replace h := h.1 c
    refine J_iconst dX11_go_16 (ii_c rfl) ?_
    exact J_reti dX11_go_17 rfl h
  · replace h := h.2 c
    refine J_aload_n dX11_go_8 rfl rfl ?_
    refine J_iload_n dX11_go_9 rfl rfl ?_
    refine J_callV (as := [_]) (mc1 := 0) (ms1 := 0) (mc := 0) (ms := 0) dX11_go_10 mv_X11_isCorner lk_X11_478 sh_489 rfl (Nat.le_of_ble_eq_true rfl) (Nat.le_of_ble_eq_true rfl) h (fun r σ hq _ => ?_)
    obtain ⟨x2, I2, rfl, rfl, h⟩ := hq
    change J _ _ _ _ _ _ _ [vI x2] _ _
    refine J_if_ne (tgt := 18) dX11_go_13 (by decide) (fun c => ?_) (fun c => ?_)
    · replace h := h.1 c
      refine J_aload_n dX11_go_18 rfl rfl ?_
      refine J_aload_n dX11_go_19 rfl rfl ?_
      refine J_iload_n dX11_go_20 rfl rfl ?_
      refine J_callV (as := [_]) (mc1 := 0) (ms1 := 0) (mc := 0) (ms := 0) dX11_go_21 mv_X11_endsAt lk_X11_484 sh_489 rfl (Nat.le_of_ble_eq_true rfl) (Nat.le_of_ble_eq_true rfl) h (fun r σ hq _ => ?_)
      obtain ⟨x3, I3, rfl, rfl, h⟩ := hq
      change J _ _ _ _ _ _ _ [vI x3, vR 489] _ _
      refine J_iload_n dX11_go_24 rfl rfl ?_
      refine J_callV (as := [_, _]) (mc1 := 0) (ms1 := 0) (mc := 0) (ms := 0) dX11_go_25 mv_X11_laneOf lk_X11_496 sh_489 rfl (Nat.le_of_ble_eq_true rfl) (Nat.le_of_ble_eq_true rfl) h (fun r σ hq _ => ?_)
      obtain ⟨x4, I4, rfl, rfl, h⟩ := hq
      change J _ _ _ _ _ _ _ [vI x4] _ _
      refine J_istore_n dX11_go_28 rfl (by decide) ?_
      refine J_iload_n dX11_go_29 rfl rfl ?_
      refine J_iconst dX11_go_30 (ii_c rfl) ?_
      refine J_ic_eq (tgt := 56) dX11_go_31 (by decide) (fun c => ?_) (fun c => ?_)
      · replace h := h.1 c
        refine J_iconst dX11_go_56 (ii_c rfl) ?_
        exact J_reti dX11_go_57 rfl h
      · replace h := h.2 c
        refine J_aload_n dX11_go_34 rfl rfl ?_
        refine J_iload_n dX11_go_35 rfl rfl ?_
        refine J_callV (as := [_]) (mc1 := 0) (ms1 := 0) (mc := 0) (ms := 0) dX11_go_36 mv_X11_isShut lk_X11_499 sh_489 rfl (Nat.le_of_ble_eq_true rfl) (Nat.le_of_ble_eq_true rfl) h (fun r σ hq _ => ?_)
        obtain ⟨x5, I5, rfl, rfl, h⟩ := hq
        change J _ _ _ _ _ _ _ [vI x5] _ _
        refine J_if_ne (tgt := 56) dX11_go_39 (by decide) (fun c => ?_) (fun c => ?_)
        · replace h := h.1 c
          refine J_iconst dX11_go_56 (ii_c rfl) ?_
          exact J_reti dX11_go_57 rfl h
        · replace h := h.2 c
          refine J_aload_n dX11_go_42 rfl rfl ?_
          refine J_iload_n dX11_go_43 rfl rfl ?_
          refine J_aload_n dX11_go_44 rfl rfl ?_
          refine J_iload_n dX11_go_45 rfl rfl ?_
          refine J_iload_n dX11_go_46 rfl rfl ?_
          refine J_callV (as := [_, _]) (mc1 := 0) (ms1 := 0) (mc := 0) (ms := 0) dX11_go_47 mv_X11_longOf lk_X11_502 sh_489 rfl (Nat.le_of_ble_eq_true rfl) (Nat.le_of_ble_eq_true rfl) h (fun r σ hq _ => ?_)
          obtain ⟨x6, I6, rfl, rfl, h⟩ := hq
          change J _ _ _ _ _ _ _ [vI x6, vI a1, vR 489] _ _
          refine J_callV (as := [_, _]) (mc1 := 0) (ms1 := 0) (mc := 0) (ms := 0) dX11_go_50 mv_X11_canGo lk_X11_505 sh_489 rfl (Nat.le_of_ble_eq_true rfl) (Nat.le_of_ble_eq_true rfl) h (fun r σ hq _ => ?_)
          obtain ⟨x7, I7, rfl, rfl, h⟩ := hq
          change J _ _ _ _ _ _ _ [vI x7] _ _
          refine J_if_ne (tgt := 58) dX11_go_53 (by decide) (fun c => ?_) (fun c => ?_)
          · replace h := h.1 c
            refine J_aload_n dX11_go_58 rfl rfl ?_
            refine J_callV (as := []) (mc1 := 0) (ms1 := 0) (mc := 0) (ms := 0) dX11_go_59 mv_X11_keeps lk_X11_509 sh_489 rfl (Nat.le_of_ble_eq_true rfl) (Nat.le_of_ble_eq_true rfl) h (fun r σ hq _ => ?_)
            obtain ⟨I8, rfl, rfl, h⟩ := hq
            change J _ _ _ _ _ _ _ [] _ _
            refine J_aload_n dX11_go_62 rfl rfl ?_
            refine J_iload_n dX11_go_63 rfl rfl ?_
            refine J_iload_n dX11_go_64 rfl rfl ?_
            refine J_iload_n dX11_go_65 rfl rfl ?_
            refine J_aload_n dX11_go_66 rfl rfl ?_
            refine J_iload_n dX11_go_67 rfl rfl ?_
            refine J_iload_n dX11_go_68 rfl rfl ?_
            refine J_callV (as := [_, _]) (mc1 := 0) (ms1 := 0) (mc := 0) (ms := 0) dX11_go_69 mv_X11_longOf lk_X11_502 sh_489 rfl (Nat.le_of_ble_eq_true rfl) (Nat.le_of_ble_eq_true rfl) h (fun r σ hq _ => ?_)
            obtain ⟨x9, I9, rfl, rfl, h⟩ := hq
            change J _ _ _ _ _ _ _ [vI x9, vI x4, vI a2, vI a1, vR 489] _ _
            refine J_callV (as := [_, _, _, _]) (mc1 := 0) (ms1 := 0) (mc := 0) (ms := 0) dX11_go_72 mv_X11_treads lk_X11_512 sh_489 rfl (Nat.le_of_ble_eq_true rfl) (Nat.le_of_ble_eq_true rfl) h (fun r σ hq _ => ?_)
            obtain ⟨I10, rfl, rfl, h⟩ := hq
            change J _ _ _ _ _ _ _ [] _ _
            refine J_aload_n dX11_go_75 rfl rfl ?_
            refine J_iload_n dX11_go_76 rfl rfl ?_
            refine J_callV (as := [_]) (mc1 := 0) (ms1 := 0) (mc := 0) (ms := 0) dX11_go_77 mv_X11_endOf lk_X11_459 sh_489 rfl (Nat.le_of_ble_eq_true rfl) (Nat.le_of_ble_eq_true rfl) h (fun r σ hq _ => ?_)
            obtain ⟨x11, I11, rfl, rfl, h⟩ := hq
            change J _ _ _ _ _ _ _ [vI x11] _ _
            exact J_reti dX11_go_80 rfl h
          · replace h := h.2 c
            refine J_iconst dX11_go_56 (ii_c rfl) ?_
            exact J_reti dX11_go_57 rfl h
    · replace h := h.2 c
      refine J_iconst dX11_go_16 (ii_c rfl) ?_
      exact J_reti dX11_go_17 rfl h
set_option maxRecDepth 20000 in
set_option maxHeartbeats 2000000 in
theorem bk_X11_rest_0 {d : Nat} {I : HI} {Q : Option AV → AH → Prop} {a1 : Int} {a2 : Int}  (h : CI mX11_isSaint d [vR 489, vI a1] I (fun x1 I1 => ((x1 = 0 → Q (some (vI (-1))) (mk I1)) ∧ (¬ (x1 = 0) → CI mX11_isIn d [vL a2, vL 1, vL 30] I1 (fun x2 I2 => ((x2 = 0 → Q (some (vI (-1))) (mk I2)) ∧ (¬ (x2 = 0) → CI mX11_canGo d [vR 489, vI a1, vI a2] I2 (fun x3 I3 => ((x3 ≠ 0 → CV mX11_keeps d [vR 489] I3 (fun I4 => CI mX11_endsAt d [vR 489, vI a1] I4 (fun x5 I5 => CV mX11_treads d [vR 489, vI a1, vI x5, vI (-1), vI a2] I5 (fun I6 => CI mX11_endOf d [vR 489, vI a1] I6 (fun x7 I7 => Q (some (vI x7)) (mk I7)))))) ∧ (x3 = 0 → Q (some (vI (-1))) (mk I3))))))))))) : J none mX11_rest (d + 1) 0 0 0 [(0, vR 489), (1, vI a1), (2, vI a2)] [] (mk I) Q := by
  refine J_aload_n dX11_rest_0 rfl rfl ?_
  refine J_iload_n dX11_rest_1 rfl rfl ?_
  refine J_callV (as := [_]) (mc1 := 0) (ms1 := 0) (mc := 0) (ms := 0) dX11_rest_2 mv_X11_isSaint lk_X11_481 sh_489 rfl (Nat.le_of_ble_eq_true rfl) (Nat.le_of_ble_eq_true rfl) h (fun r σ hq _ => ?_)
  obtain ⟨x1, I1, rfl, rfl, h⟩ := hq
  change J _ _ _ _ _ _ _ [vI x1] _ _
  refine J_if_eq (tgt := 29) dX11_rest_5 (by decide) (fun c => ?_) (fun c => ?_)
  · replace h := h.1 c
    refine J_iconst dX11_rest_29 (ii_c rfl) ?_
    exact J_reti dX11_rest_30 rfl h
  · replace h := h.2 c
    refine J_iload_n dX11_rest_8 rfl rfl ?_
    refine J_i2l dX11_rest_9 ?_
    refine J_lconst 1 dX11_rest_10 (ll_c rfl) (by decide) ?_
    refine J_ldc2 30 dX11_rest_11 kw_X11_516 (ll_c rfl) ?_
    refine J_callS (as := [_, _, _]) (mc1 := 0) (ms1 := 0) (mc := 0) (ms := 0) dX11_rest_14 ms_X11_isIn lk_X11_264 rfl (Nat.le_of_ble_eq_true rfl) (Nat.le_of_ble_eq_true rfl) h (fun r σ hq _ => ?_)
    obtain ⟨x2, I2, rfl, rfl, h⟩ := hq
    change J _ _ _ _ _ _ _ [vI x2] _ _
    refine J_if_eq (tgt := 29) dX11_rest_17 (by decide) (fun c => ?_) (fun c => ?_)
    · replace h := h.1 c
      refine J_iconst dX11_rest_29 (ii_c rfl) ?_
      exact J_reti dX11_rest_30 rfl h
    · replace h := h.2 c
      refine J_aload_n dX11_rest_20 rfl rfl ?_
      refine J_iload_n dX11_rest_21 rfl rfl ?_
      refine J_iload_n dX11_rest_22 rfl rfl ?_
      refine J_callV (as := [_, _]) (mc1 := 0) (ms1 := 0) (mc := 0) (ms := 0) dX11_rest_23 mv_X11_canGo lk_X11_505 sh_489 rfl (Nat.le_of_ble_eq_true rfl) (Nat.le_of_ble_eq_true rfl) h (fun r σ hq _ => ?_)
      obtain ⟨x3, I3, rfl, rfl, h⟩ := hq
      change J _ _ _ _ _ _ _ [vI x3] _ _
      refine J_if_ne (tgt := 31) dX11_rest_26 (by decide) (fun c => ?_) (fun c => ?_)
      · replace h := h.1 c
        refine J_aload_n dX11_rest_31 rfl rfl ?_
        refine J_callV (as := []) (mc1 := 0) (ms1 := 0) (mc := 0) (ms := 0) dX11_rest_32 mv_X11_keeps lk_X11_509 sh_489 rfl (Nat.le_of_ble_eq_true rfl) (Nat.le_of_ble_eq_true rfl) h (fun r σ hq _ => ?_)
        obtain ⟨I4, rfl, rfl, h⟩ := hq
        change J _ _ _ _ _ _ _ [] _ _
        refine J_aload_n dX11_rest_35 rfl rfl ?_
        refine J_iload_n dX11_rest_36 rfl rfl ?_
        refine J_aload_n dX11_rest_37 rfl rfl ?_
        refine J_iload_n dX11_rest_38 rfl rfl ?_
        refine J_callV (as := [_]) (mc1 := 0) (ms1 := 0) (mc := 0) (ms := 0) dX11_rest_39 mv_X11_endsAt lk_X11_484 sh_489 rfl (Nat.le_of_ble_eq_true rfl) (Nat.le_of_ble_eq_true rfl) h (fun r σ hq _ => ?_)
        obtain ⟨x5, I5, rfl, rfl, h⟩ := hq
        change J _ _ _ _ _ _ _ [vI x5, vI a1, vR 489] _ _
        refine J_iconst dX11_rest_42 (ii_c rfl) ?_
        refine J_iload_n dX11_rest_43 rfl rfl ?_
        refine J_callV (as := [_, _, _, _]) (mc1 := 0) (ms1 := 0) (mc := 0) (ms := 0) dX11_rest_44 mv_X11_treads lk_X11_512 sh_489 rfl (Nat.le_of_ble_eq_true rfl) (Nat.le_of_ble_eq_true rfl) h (fun r σ hq _ => ?_)
        obtain ⟨I6, rfl, rfl, h⟩ := hq
        change J _ _ _ _ _ _ _ [] _ _
        refine J_aload_n dX11_rest_47 rfl rfl ?_
        refine J_iload_n dX11_rest_48 rfl rfl ?_
        refine J_callV (as := [_]) (mc1 := 0) (ms1 := 0) (mc := 0) (ms := 0) dX11_rest_49 mv_X11_endOf lk_X11_459 sh_489 rfl (Nat.le_of_ble_eq_true rfl) (Nat.le_of_ble_eq_true rfl) h (fun r σ hq _ => ?_)
        obtain ⟨x7, I7, rfl, rfl, h⟩ := hq
        change J _ _ _ _ _ _ _ [vI x7] _ _
        exact J_reti dX11_rest_52 rfl h
      · replace h := h.2 c
        refine J_iconst dX11_rest_29 (ii_c rfl) ?_
        exact J_reti dX11_rest_30 rfl h
set_option maxRecDepth 20000 in
set_option maxHeartbeats 2000000 in
theorem bk_X11_clear_0 {d : Nat} {I : HI} {Q : Option AV → AH → Prop} {a1 : Int}  (h : CI mX11_isSaint d [vR 489, vI a1] I (fun x1 I1 => ((x1 = 0 → Q (some (vI 0)) (mk I1)) ∧ (¬ (x1 = 0) → ((0 : Int) ≤ a1 ∧ (a1 : Int) < 244) ∧ (((I1 532 a1.toNat) ≠ 0 → CV mX11_keeps d [vR 489] I1 (fun I2 => ((0 : Int) ≤ a1 ∧ (a1 : Int) < 244) ∧ (∀ I3 : HI, I3 = up I2 532 a1.toNat 0 → Q (some (vI 1)) (mk I3)))) ∧ ((I1 532 a1.toNat) = 0 → Q (some (vI 0)) (mk I1))))))) : J none mX11_clear (d + 1) 0 0 0 [(0, vR 489), (1, vI a1)] [] (mk I) Q := by
  refine J_aload_n dX11_clear_0 rfl rfl ?_
  refine J_iload_n dX11_clear_1 rfl rfl ?_
  refine J_callV (as := [_]) (mc1 := 0) (ms1 := 0) (mc := 0) (ms := 0) dX11_clear_2 mv_X11_isSaint lk_X11_481 sh_489 rfl (Nat.le_of_ble_eq_true rfl) (Nat.le_of_ble_eq_true rfl) h (fun r σ hq _ => ?_)
  obtain ⟨x1, I1, rfl, rfl, h⟩ := hq
  change J _ _ _ _ _ _ _ [vI x1] _ _
  refine J_if_eq (tgt := 17) dX11_clear_5 (by decide) (fun c => ?_) (fun c => ?_)
  · replace h := h.1 c
    refine J_iconst dX11_clear_17 (ii_c rfl) ?_
    exact J_retz dX11_clear_18 rfl (Or.inl rfl) h
  · replace h := h.2 c
    refine J_aload_n dX11_clear_8 rfl rfl ?_
    refine J_getR dX11_clear_9 ck_11 fw_X11_145 rfl sh_489 rr_489_59 ?_
    refine J_iload_n dX11_clear_12 rfl rfl ?_
    refine J_iald dX11_clear_13 sh_532 h.1.1 h.1.2 ?_
    replace h := h.2
    refine J_if_ne (tgt := 19) dX11_clear_14 (by decide) (fun c => ?_) (fun c => ?_)
    · replace h := h.1 c
      refine J_aload_n dX11_clear_19 rfl rfl ?_
      refine J_callV (as := []) (mc1 := 0) (ms1 := 0) (mc := 0) (ms := 0) dX11_clear_20 mv_X11_keeps lk_X11_509 sh_489 rfl (Nat.le_of_ble_eq_true rfl) (Nat.le_of_ble_eq_true rfl) h (fun r σ hq _ => ?_)
      obtain ⟨I2, rfl, rfl, h⟩ := hq
      change J _ _ _ _ _ _ _ [] _ _
      refine J_aload_n dX11_clear_23 rfl rfl ?_
      refine J_getR dX11_clear_24 ck_11 fw_X11_145 rfl sh_489 rr_489_59 ?_
      refine J_iload_n dX11_clear_27 rfl rfl ?_
      refine J_iconst dX11_clear_28 (ii_c rfl) ?_
      refine J_iast dX11_clear_29 sh_532 h.1.1 h.1.2 ?_
      replace h := h.2 _ rfl
      refine J_iconst dX11_clear_30 (ii_c rfl) ?_
      exact J_retz dX11_clear_31 rfl (Or.inr rfl) h
    · replace h := h.2 c
      refine J_iconst dX11_clear_17 (ii_c rfl) ?_
      exact J_retz dX11_clear_18 rfl (Or.inl rfl) h
set_option maxRecDepth 20000 in
set_option maxHeartbeats 2000000 in
theorem bk_X11_whereOf_0 {d : Nat} {I : HI} {Q : Option AV → AH → Prop} {a1 : Int} {a2 : Int}  (h : CI mX11_saintOf d [vI a1] I (fun x1 I1 => CI mX11_homeOf d [vR 489, vI x1] I1 (fun x2 I2 => (-2147483648 ≤ 24 * a1 ∧ 24 * a1 ≤ 2147483647) ∧ J none mX11_whereOf (d + 1) 0 0 15 [(0, vR 489), (1, vI a1), (2, vI a2), (3, vI x2), (4, vI (24 * a1))] [] (mk I2) Q))) : J none mX11_whereOf (d + 1) 0 0 0 [(0, vR 489), (1, vI a1), (2, vI a2)] [] (mk I) Q := by
  refine J_aload_n dX11_whereOf_0 rfl rfl ?_
  refine J_iload_n dX11_whereOf_1 rfl rfl ?_
  refine J_callS (as := [_]) (mc1 := 0) (ms1 := 0) (mc := 0) (ms := 0) dX11_whereOf_2 ms_X11_saintOf lk_X11_453 rfl (Nat.le_of_ble_eq_true rfl) (Nat.le_of_ble_eq_true rfl) h (fun r σ hq _ => ?_)
  obtain ⟨x1, I1, rfl, rfl, h⟩ := hq
  change J _ _ _ _ _ _ _ [vI x1, vR 489] _ _
  refine J_callV (as := [_]) (mc1 := 0) (ms1 := 0) (mc := 0) (ms := 0) dX11_whereOf_5 mv_X11_homeOf lk_X11_456 sh_489 rfl (Nat.le_of_ble_eq_true rfl) (Nat.le_of_ble_eq_true rfl) h (fun r σ hq _ => ?_)
  obtain ⟨x2, I2, rfl, rfl, h⟩ := hq
  change J _ _ _ _ _ _ _ [vI x2] _ _
  refine J_istore_n dX11_whereOf_8 rfl (by decide) ?_
  refine J_bipush dX11_whereOf_9 (ii_c rfl) (by decide) ?_
  refine J_iload_n dX11_whereOf_11 rfl rfl ?_
  refine J_imulN dX11_whereOf_12 h.1 ?_
  replace h := h.2
  refine J_istore dX11_whereOf_13 (by decide) ?_
  exact h
set_option maxRecDepth 20000 in
set_option maxHeartbeats 2000000 in
theorem bk_X11_whereOf_15 {d : Nat} {I : HI} {Q : Option AV → AH → Prop} {a1 : Int} {a2 : Int} {a3 : Int} {a4 : Int}  (h : (-2147483648 ≤ 24 * a1 ∧ 24 * a1 ≤ 2147483647) ∧ ((0 : Int) ≤ a1 ∧ (a1 : Int) < 244) ∧ (-2147483648 ≤ (24 * a1) + (I 532 a1.toNat) ∧ (24 * a1) + (I 532 a1.toNat) ≤ 2147483647) ∧ ((((24 * a1) + (I 532 a1.toNat)) ≤ a4 → Q (some (vI a3)) (mk I)) ∧ (¬ (((24 * a1) + (I 532 a1.toNat)) ≤ a4) → ((0 : Int) ≤ a4 ∧ (a4 : Int) < 5856) ∧ ((a2 < (I 535 a4.toNat) → Q (some (vI a3)) (mk I)) ∧ (¬ (a2 < (I 535 a4.toNat)) → ((0 : Int) ≤ a4 ∧ (a4 : Int) < 5856) ∧ (-2147483648 ≤ a4 + 1 ∧ a4 + 1 ≤ 2147483647) ∧ J none mX11_whereOf (d + 1) 0 0 15 [(0, vR 489), (1, vI a1), (2, vI a2), (3, vI (I 533 a4.toNat)), (4, vI (a4 + 1))] [] (mk I) Q))))) : J none mX11_whereOf (d + 1) 0 0 15 [(0, vR 489), (1, vI a1), (2, vI a2), (3, vI a3), (4, vI a4)] [] (mk I) Q := by
  refine J_iload dX11_whereOf_15 rfl ?_
  refine J_bipush dX11_whereOf_17 (ii_c rfl) (by decide) ?_
  refine J_iload_n dX11_whereOf_19 rfl rfl ?_
  refine J_imulN dX11_whereOf_20 h.1 ?_
  replace h := h.2
  refine J_aload_n dX11_whereOf_21 rfl rfl ?_
  refine J_getR dX11_whereOf_22 ck_11 fw_X11_145 rfl sh_489 rr_489_59 ?_
  refine J_iload_n dX11_whereOf_25 rfl rfl ?_
  refine J_iald dX11_whereOf_26 sh_532 h.1.1 h.1.2 ?_
  replace h := h.2
  refine J_iaddN dX11_whereOf_27 h.1 ?_
  replace h := h.2
  refine J_ic_ge (tgt := 56) dX11_whereOf_28 (by decide) (fun c => ?_) (fun c => ?_)
  · replace h := h.1 c
    refine J_iload_n dX11_whereOf_56 rfl rfl ?_
    exact J_reti dX11_whereOf_57 rfl h
  · replace h := h.2 c
    refine J_aload_n dX11_whereOf_31 rfl rfl ?_
    refine J_getR dX11_whereOf_32 ck_11 fw_X11_154 rfl sh_489 rr_489_62 ?_
    refine J_iload dX11_whereOf_35 rfl ?_
    refine J_iald dX11_whereOf_37 sh_535 h.1.1 h.1.2 ?_
    replace h := h.2
    refine J_iload_n dX11_whereOf_38 rfl rfl ?_
    refine J_ic_gt (tgt := 56) dX11_whereOf_39 (by decide) (fun c => ?_) (fun c => ?_)
    · replace h := h.1 c
      refine J_iload_n dX11_whereOf_56 rfl rfl ?_
      exact J_reti dX11_whereOf_57 rfl h
    · replace h := h.2 c
      refine J_aload_n dX11_whereOf_42 rfl rfl ?_
      refine J_getR dX11_whereOf_43 ck_11 fw_X11_148 rfl sh_489 rr_489_60 ?_
      refine J_iload dX11_whereOf_46 rfl ?_
      refine J_iald dX11_whereOf_48 sh_533 h.1.1 h.1.2 ?_
      replace h := h.2
      refine J_istore_n dX11_whereOf_49 rfl (by decide) ?_
      refine J_iincN dX11_whereOf_50 rfl (by decide) h.1 ?_
      replace h := h.2
      refine J_goto (tgt := 15) dX11_whereOf_53 (by decide) ?_
      exact h
set_option maxRecDepth 20000 in
set_option maxHeartbeats 2000000 in
theorem bk_X11_onOf_0 {d : Nat} {I : HI} {Q : Option AV → AH → Prop} {a1 : Int} {a2 : Int}  (h : J none mX11_onOf (d + 1) 0 0 2 [(0, vR 489), (1, vI a1), (2, vI a2), (3, vI 0)] [] (mk I) Q) : J none mX11_onOf (d + 1) 0 0 0 [(0, vR 489), (1, vI a1), (2, vI a2)] [] (mk I) Q := by
  refine J_iconst dX11_onOf_0 (ii_c rfl) ?_
  refine J_istore_n dX11_onOf_1 rfl (by decide) ?_
  exact h
set_option maxRecDepth 20000 in
set_option maxHeartbeats 2000000 in
theorem bk_X11_onOf_2 {d : Nat} {I : HI} {Q : Option AV → AH → Prop} {a1 : Int} {a2 : Int} {a3 : Int}  (h : ((0 : Int) ≤ a1 ∧ (a1 : Int) < 244) ∧ (((I 532 a1.toNat) ≤ a3 → Q (some (vI (-1))) (mk I)) ∧ (¬ ((I 532 a1.toNat) ≤ a3) → CI mX11_leaves d [vR 489, vI a1, vI a3] I (fun x1 I1 => ((a2 ≤ x1 → (-2147483648 ≤ a3 + 1 ∧ a3 + 1 ≤ 2147483647) ∧ J none mX11_onOf (d + 1) 0 0 2 [(0, vR 489), (1, vI a1), (2, vI a2), (3, vI (a3 + 1))] [] (mk I1) Q) ∧ (¬ (a2 ≤ x1) → (-2147483648 ≤ 24 * a1 ∧ 24 * a1 ≤ 2147483647) ∧ (-2147483648 ≤ (24 * a1) + a3 ∧ (24 * a1) + a3 ≤ 2147483647) ∧ ((0 : Int) ≤ ((24 * a1) + a3) ∧ ((24 * a1) + a3 : Int) < 5856) ∧ (((I1 535 ((24 * a1) + a3).toNat) < a2 → (-2147483648 ≤ a3 + 1 ∧ a3 + 1 ≤ 2147483647) ∧ J none mX11_onOf (d + 1) 0 0 2 [(0, vR 489), (1, vI a1), (2, vI a2), (3, vI (a3 + 1))] [] (mk I1) Q) ∧ (¬ ((I1 535 ((24 * a1) + a3).toNat) < a2) → (-2147483648 ≤ 24 * a1 ∧ 24 * a1 ≤ 2147483647) ∧ (-2147483648 ≤ (24 * a1) + a3 ∧ (24 * a1) + a3 ≤ 2147483647) ∧ ((0 : Int) ≤ ((24 * a1) + a3) ∧ ((24 * a1) + a3 : Int) < 5856) ∧ Q (some (vI (I1 534 ((24 * a1) + a3).toNat))) (mk I1))))))))) : J none mX11_onOf (d + 1) 0 0 2 [(0, vR 489), (1, vI a1), (2, vI a2), (3, vI a3)] [] (mk I) Q := by
  refine J_iload_n dX11_onOf_2 rfl rfl ?_
  refine J_aload_n dX11_onOf_3 rfl rfl ?_
  refine J_getR dX11_onOf_4 ck_11 fw_X11_145 rfl sh_489 rr_489_59 ?_
  refine J_iload_n dX11_onOf_7 rfl rfl ?_
  refine J_iald dX11_onOf_8 sh_532 h.1.1 h.1.2 ?_
  replace h := h.2
  refine J_ic_ge (tgt := 55) dX11_onOf_9 (by decide) (fun c => ?_) (fun c => ?_)
  · replace h := h.1 c
    refine J_iconst dX11_onOf_55 (ii_c rfl) ?_
    exact J_reti dX11_onOf_56 rfl h
  · replace h := h.2 c
    refine J_iload_n dX11_onOf_12 rfl rfl ?_
    refine J_aload_n dX11_onOf_13 rfl rfl ?_
    refine J_iload_n dX11_onOf_14 rfl rfl ?_
    refine J_iload_n dX11_onOf_15 rfl rfl ?_
    refine J_callV (as := [_, _]) (mc1 := 0) (ms1 := 0) (mc := 0) (ms := 0) dX11_onOf_16 mv_X11_leaves lk_X11_518 sh_489 rfl (Nat.le_of_ble_eq_true rfl) (Nat.le_of_ble_eq_true rfl) h (fun r σ hq _ => ?_)
    obtain ⟨x1, I1, rfl, rfl, h⟩ := hq
    change J _ _ _ _ _ _ _ [vI x1, vI a2] _ _
    refine J_ic_le (tgt := 49) dX11_onOf_19 (by decide) (fun c => ?_) (fun c => ?_)
    · replace h := h.1 c
      refine J_iincN dX11_onOf_49 rfl (by decide) h.1 ?_
      replace h := h.2
      refine J_goto (tgt := 2) dX11_onOf_52 (by decide) ?_
      exact h
    · replace h := h.2 c
      refine J_iload_n dX11_onOf_22 rfl rfl ?_
      refine J_aload_n dX11_onOf_23 rfl rfl ?_
      refine J_getR dX11_onOf_24 ck_11 fw_X11_154 rfl sh_489 rr_489_62 ?_
      refine J_bipush dX11_onOf_27 (ii_c rfl) (by decide) ?_
      refine J_iload_n dX11_onOf_29 rfl rfl ?_
      refine J_imulN dX11_onOf_30 h.1 ?_
      replace h := h.2
      refine J_iload_n dX11_onOf_31 rfl rfl ?_
      refine J_iaddN dX11_onOf_32 h.1 ?_
      replace h := h.2
      refine J_iald dX11_onOf_33 sh_535 h.1.1 h.1.2 ?_
      replace h := h.2
      refine J_ic_gt (tgt := 49) dX11_onOf_34 (by decide) (fun c => ?_) (fun c => ?_)
      · replace h := h.1 c
        refine J_iincN dX11_onOf_49 rfl (by decide) h.1 ?_
        replace h := h.2
        refine J_goto (tgt := 2) dX11_onOf_52 (by decide) ?_
        exact h
      · replace h := h.2 c
        refine J_aload_n dX11_onOf_37 rfl rfl ?_
        refine J_getR dX11_onOf_38 ck_11 fw_X11_151 rfl sh_489 rr_489_61 ?_
        refine J_bipush dX11_onOf_41 (ii_c rfl) (by decide) ?_
        refine J_iload_n dX11_onOf_43 rfl rfl ?_
        refine J_imulN dX11_onOf_44 h.1 ?_
        replace h := h.2
        refine J_iload_n dX11_onOf_45 rfl rfl ?_
        refine J_iaddN dX11_onOf_46 h.1 ?_
        replace h := h.2
        refine J_iald dX11_onOf_47 sh_534 h.1.1 h.1.2 ?_
        replace h := h.2
        exact J_reti dX11_onOf_48 rfl h
set_option maxRecDepth 20000 in
set_option maxHeartbeats 2000000 in
theorem bk_X11_where_0 {d : Nat} {I : HI} {Q : Option AV → AH → Prop} {a1 : Int} {a2 : Int}  (h : CI mX11_isSaint d [vR 489, vI a1] I (fun x1 I1 => ((x1 = 0 → Q (some (vI (-1))) (mk I1)) ∧ (¬ (x1 = 0) → CI mX11_isIn d [vL a2, vL 0, vL 999] I1 (fun x2 I2 => ((x2 = 0 → Q (some (vI (-1))) (mk I2)) ∧ (¬ (x2 = 0) → CI mX11_whereOf d [vR 489, vI a1, vI a2] I2 (fun x3 I3 => Q (some (vI x3)) (mk I3))))))))) : J none mX11_where (d + 1) 0 0 0 [(0, vR 489), (1, vI a1), (2, vI a2)] [] (mk I) Q := by
  refine J_aload_n dX11_where_0 rfl rfl ?_
  refine J_iload_n dX11_where_1 rfl rfl ?_
  refine J_callV (as := [_]) (mc1 := 0) (ms1 := 0) (mc := 0) (ms := 0) dX11_where_2 mv_X11_isSaint lk_X11_481 sh_489 rfl (Nat.le_of_ble_eq_true rfl) (Nat.le_of_ble_eq_true rfl) h (fun r σ hq _ => ?_)
  obtain ⟨x1, I1, rfl, rfl, h⟩ := hq
  change J _ _ _ _ _ _ _ [vI x1] _ _
  refine J_if_eq (tgt := 29) dX11_where_5 (by decide) (fun c => ?_) (fun c => ?_)
  · replace h := h.1 c
    refine J_iconst dX11_where_29 (ii_c rfl) ?_
    exact J_reti dX11_where_30 rfl h
  · replace h := h.2 c
    refine J_iload_n dX11_where_8 rfl rfl ?_
    refine J_i2l dX11_where_9 ?_
    refine J_lconst 0 dX11_where_10 (ll_c rfl) (by decide) ?_
    refine J_ldc2 999 dX11_where_11 kw_X11_521 (ll_c rfl) ?_
    refine J_callS (as := [_, _, _]) (mc1 := 0) (ms1 := 0) (mc := 0) (ms := 0) dX11_where_14 ms_X11_isIn lk_X11_264 rfl (Nat.le_of_ble_eq_true rfl) (Nat.le_of_ble_eq_true rfl) h (fun r σ hq _ => ?_)
    obtain ⟨x2, I2, rfl, rfl, h⟩ := hq
    change J _ _ _ _ _ _ _ [vI x2] _ _
    refine J_if_eq (tgt := 29) dX11_where_17 (by decide) (fun c => ?_) (fun c => ?_)
    · replace h := h.1 c
      refine J_iconst dX11_where_29 (ii_c rfl) ?_
      exact J_reti dX11_where_30 rfl h
    · replace h := h.2 c
      refine J_aload_n dX11_where_20 rfl rfl ?_
      refine J_iload_n dX11_where_21 rfl rfl ?_
      refine J_iload_n dX11_where_22 rfl rfl ?_
      refine J_callV (as := [_, _]) (mc1 := 0) (ms1 := 0) (mc := 0) (ms := 0) dX11_where_23 mv_X11_whereOf lk_X11_523 sh_489 rfl (Nat.le_of_ble_eq_true rfl) (Nat.le_of_ble_eq_true rfl) h (fun r σ hq _ => ?_)
      obtain ⟨x3, I3, rfl, rfl, h⟩ := hq
      change J _ _ _ _ _ _ _ [vI x3] _ _
      refine J_goto (tgt := 30) dX11_where_26 (by decide) ?_
      exact J_reti dX11_where_30 rfl h
set_option maxRecDepth 20000 in
set_option maxHeartbeats 2000000 in
theorem bk_X11_on_0 {d : Nat} {I : HI} {Q : Option AV → AH → Prop} {a1 : Int} {a2 : Int}  (h : CI mX11_isSaint d [vR 489, vI a1] I (fun x1 I1 => ((x1 = 0 → Q (some (vI (-1))) (mk I1)) ∧ (¬ (x1 = 0) → CI mX11_isIn d [vL a2, vL 0, vL 999] I1 (fun x2 I2 => ((x2 = 0 → Q (some (vI (-1))) (mk I2)) ∧ (¬ (x2 = 0) → CI mX11_onOf d [vR 489, vI a1, vI a2] I2 (fun x3 I3 => Q (some (vI x3)) (mk I3))))))))) : J none mX11_on (d + 1) 0 0 0 [(0, vR 489), (1, vI a1), (2, vI a2)] [] (mk I) Q := by
  refine J_aload_n dX11_on_0 rfl rfl ?_
  refine J_iload_n dX11_on_1 rfl rfl ?_
  refine J_callV (as := [_]) (mc1 := 0) (ms1 := 0) (mc := 0) (ms := 0) dX11_on_2 mv_X11_isSaint lk_X11_481 sh_489 rfl (Nat.le_of_ble_eq_true rfl) (Nat.le_of_ble_eq_true rfl) h (fun r σ hq _ => ?_)
  obtain ⟨x1, I1, rfl, rfl, h⟩ := hq
  change J _ _ _ _ _ _ _ [vI x1] _ _
  refine J_if_eq (tgt := 29) dX11_on_5 (by decide) (fun c => ?_) (fun c => ?_)
  · replace h := h.1 c
    refine J_iconst dX11_on_29 (ii_c rfl) ?_
    exact J_reti dX11_on_30 rfl h
  · replace h := h.2 c
    refine J_iload_n dX11_on_8 rfl rfl ?_
    refine J_i2l dX11_on_9 ?_
    refine J_lconst 0 dX11_on_10 (ll_c rfl) (by decide) ?_
    refine J_ldc2 999 dX11_on_11 kw_X11_521 (ll_c rfl) ?_
    refine J_callS (as := [_, _, _]) (mc1 := 0) (ms1 := 0) (mc := 0) (ms := 0) dX11_on_14 ms_X11_isIn lk_X11_264 rfl (Nat.le_of_ble_eq_true rfl) (Nat.le_of_ble_eq_true rfl) h (fun r σ hq _ => ?_)
    obtain ⟨x2, I2, rfl, rfl, h⟩ := hq
    change J _ _ _ _ _ _ _ [vI x2] _ _
    refine J_if_eq (tgt := 29) dX11_on_17 (by decide) (fun c => ?_) (fun c => ?_)
    · replace h := h.1 c
      refine J_iconst dX11_on_29 (ii_c rfl) ?_
      exact J_reti dX11_on_30 rfl h
    · replace h := h.2 c
      refine J_aload_n dX11_on_20 rfl rfl ?_
      refine J_iload_n dX11_on_21 rfl rfl ?_
      refine J_iload_n dX11_on_22 rfl rfl ?_
      refine J_callV (as := [_, _]) (mc1 := 0) (ms1 := 0) (mc := 0) (ms := 0) dX11_on_23 mv_X11_onOf lk_X11_526 sh_489 rfl (Nat.le_of_ble_eq_true rfl) (Nat.le_of_ble_eq_true rfl) h (fun r σ hq _ => ?_)
      obtain ⟨x3, I3, rfl, rfl, h⟩ := hq
      change J _ _ _ _ _ _ _ [vI x3] _ _
      refine J_goto (tgt := 30) dX11_on_26 (by decide) ?_
      exact J_reti dX11_on_30 rfl h
set_option maxRecDepth 20000 in
set_option maxHeartbeats 2000000 in
theorem bk_X11_doLie_0 {d : Nat} {I : HI} {Q : Option AV → AH → Prop} {a1 : Int} {a2 : Int} {a3 : Int}  (h : CI mX11_petalsOf d [vR 489, vI a1] I (fun x1 I1 => (-2147483648 ≤ a2 + x1 ∧ a2 + x1 ≤ 2147483647) ∧ (-2147483648 ≤ (a2 + x1) - 1 ∧ (a2 + x1) - 1 ≤ 2147483647) ∧ CI mX11_isIn d [vL a3, vL a2, vL ((a2 + x1) - 1)] I1 (fun x2 I2 => ((x2 ≠ 0 → (((I2 489 44) = (-1) → Q (some (vI 1)) (mk I2)) ∧ (¬ ((I2 489 44) = (-1)) → ((a3 < (I2 489 44) → Q (some (vI 1)) (mk I2)) ∧ (¬ (a3 < (I2 489 44)) → ((a2 < (I2 489 44) → Q (some (vI 0)) (mk I2)) ∧ (¬ (a2 < (I2 489 44)) → Q (some (vI 1)) (mk I2)))))))) ∧ (x2 = 0 → Q (some (vI 0)) (mk I2)))))) : J none mX11_doLie (d + 1) 0 0 0 [(0, vR 489), (1, vI a1), (2, vI a2), (3, vI a3)] [] (mk I) Q := by
  refine J_iload_n dX11_doLie_0 rfl rfl ?_
  refine J_i2l dX11_doLie_1 ?_
  refine J_iload_n dX11_doLie_2 rfl rfl ?_
  refine J_i2l dX11_doLie_3 ?_
  refine J_iload_n dX11_doLie_4 rfl rfl ?_
  refine J_aload_n dX11_doLie_5 rfl rfl ?_
  refine J_iload_n dX11_doLie_6 rfl rfl ?_
  refine J_callV (as := [_]) (mc1 := 0) (ms1 := 0) (mc := 0) (ms := 0) dX11_doLie_7 mv_X11_petalsOf lk_X11_529 sh_489 rfl (Nat.le_of_ble_eq_true rfl) (Nat.le_of_ble_eq_true rfl) h (fun r σ hq _ => ?_)
  obtain ⟨x1, I1, rfl, rfl, h⟩ := hq
  change J _ _ _ _ _ _ _ [vI x1, vI a2, vL a2, vL a3] _ _
  refine J_iaddN dX11_doLie_10 h.1 ?_
  replace h := h.2
  refine J_iconst dX11_doLie_11 (ii_c rfl) ?_
  refine J_isubN dX11_doLie_12 h.1 ?_
  replace h := h.2
  refine J_i2l dX11_doLie_13 ?_
  refine J_callS (as := [_, _, _]) (mc1 := 0) (ms1 := 0) (mc := 0) (ms := 0) dX11_doLie_14 ms_X11_isIn lk_X11_264 rfl (Nat.le_of_ble_eq_true rfl) (Nat.le_of_ble_eq_true rfl) h (fun r σ hq _ => ?_)
  obtain ⟨x2, I2, rfl, rfl, h⟩ := hq
  change J _ _ _ _ _ _ _ [vI x2] _ _
  refine J_if_ne (tgt := 22) dX11_doLie_17 (by decide) (fun c => ?_) (fun c => ?_)
  · replace h := h.1 c
    refine J_aload_n dX11_doLie_22 rfl rfl ?_
    refine J_getI dX11_doLie_23 ck_11 fw_X11_118 rfl sh_489 ?_
    refine J_iconst dX11_doLie_26 (ii_c rfl) ?_
    refine J_ic_eq (tgt := 46) dX11_doLie_27 (by decide) (fun c => ?_) (fun c => ?_)
    · replace h := h.1 c
      refine J_iconst dX11_doLie_46 (ii_c rfl) ?_
      refine J_goto (tgt := 51) dX11_doLie_47 (by decide) ?_
      exact J_retz dX11_doLie_51 rfl (Or.inr rfl) h
    · replace h := h.2 c
      refine J_iload_n dX11_doLie_30 rfl rfl ?_
      refine J_aload_n dX11_doLie_31 rfl rfl ?_
      refine J_getI dX11_doLie_32 ck_11 fw_X11_118 rfl sh_489 ?_
      refine J_ic_lt (tgt := 46) dX11_doLie_35 (by decide) (fun c => ?_) (fun c => ?_)
      · replace h := h.1 c
        refine J_iconst dX11_doLie_46 (ii_c rfl) ?_
        refine J_goto (tgt := 51) dX11_doLie_47 (by decide) ?_
        exact J_retz dX11_doLie_51 rfl (Or.inr rfl) h
      · replace h := h.2 c
        refine J_iload_n dX11_doLie_38 rfl rfl ?_
        refine J_aload_n dX11_doLie_39 rfl rfl ?_
        refine J_getI dX11_doLie_40 ck_11 fw_X11_118 rfl sh_489 ?_
        refine J_ic_lt (tgt := 50) dX11_doLie_43 (by decide) (fun c => ?_) (fun c => ?_)
        · replace h := h.1 c
          refine J_iconst dX11_doLie_50 (ii_c rfl) ?_
          exact J_retz dX11_doLie_51 rfl (Or.inl rfl) h
        · replace h := h.2 c
          refine J_iconst dX11_doLie_46 (ii_c rfl) ?_
          refine J_goto (tgt := 51) dX11_doLie_47 (by decide) ?_
          exact J_retz dX11_doLie_51 rfl (Or.inr rfl) h
  · replace h := h.2 c
    refine J_iconst dX11_doLie_20 (ii_c rfl) ?_
    exact J_retz dX11_doLie_21 rfl (Or.inl rfl) h
set_option maxRecDepth 20000 in
set_option maxHeartbeats 2000000 in
theorem bk_X11_arePetals_0 {d : Nat} {I : HI} {Q : Option AV → AH → Prop} {a1 : Int} {a2 : Int} {a3 : Int}  (h : (-2147483648 ≤ 24 * a1 ∧ 24 * a1 ≤ 2147483647) ∧ J none mX11_arePetals (d + 1) 0 0 6 [(0, vR 489), (1, vI a1), (2, vI a2), (3, vI a3), (4, vI (24 * a1))] [] (mk I) Q) : J none mX11_arePetals (d + 1) 0 0 0 [(0, vR 489), (1, vI a1), (2, vI a2), (3, vI a3)] [] (mk I) Q := by
  refine J_bipush dX11_arePetals_0 (ii_c rfl) (by decide) ?_
  refine J_iload_n dX11_arePetals_2 rfl rfl ?_
  refine J_imulN dX11_arePetals_3 h.1 ?_
  replace h := h.2
  refine J_istore dX11_arePetals_4 (by decide) ?_
  exact h
set_option maxRecDepth 20000 in
set_option maxHeartbeats 2000000 in
theorem bk_X11_arePetals_6 {d : Nat} {I : HI} {Q : Option AV → AH → Prop} {a1 : Int} {a2 : Int} {a3 : Int} {a4 : Int}  (h : (-2147483648 ≤ 24 * a1 ∧ 24 * a1 ≤ 2147483647) ∧ ((0 : Int) ≤ a1 ∧ (a1 : Int) < 244) ∧ (-2147483648 ≤ (24 * a1) + (I 532 a1.toNat) ∧ (24 * a1) + (I 532 a1.toNat) ≤ 2147483647) ∧ ((((24 * a1) + (I 532 a1.toNat)) ≤ a4 → Q (some (vI 0)) (mk I)) ∧ (¬ (((24 * a1) + (I 532 a1.toNat)) ≤ a4) → ((0 : Int) ≤ a4 ∧ (a4 : Int) < 5856) ∧ (((I 534 a4.toNat) ≠ a2 → (-2147483648 ≤ a4 + 1 ∧ a4 + 1 ≤ 2147483647) ∧ J none mX11_arePetals (d + 1) 0 0 6 [(0, vR 489), (1, vI a1), (2, vI a2), (3, vI a3), (4, vI (a4 + 1))] [] (mk I) Q) ∧ ((I 534 a4.toNat) = a2 → CI mX11_saintOf d [vI a1] I (fun x1 I1 => ((0 : Int) ≤ a4 ∧ (a4 : Int) < 5856) ∧ CI mX11_doLie d [vR 489, vI x1, vI (I1 535 a4.toNat), vI a3] I1 (fun x2 I2 => ((x2 = 0 → (-2147483648 ≤ a4 + 1 ∧ a4 + 1 ≤ 2147483647) ∧ J none mX11_arePetals (d + 1) 0 0 6 [(0, vR 489), (1, vI a1), (2, vI a2), (3, vI a3), (4, vI (a4 + 1))] [] (mk I2) Q) ∧ (¬ (x2 = 0) → Q (some (vI 1)) (mk I2)))))))))) : J none mX11_arePetals (d + 1) 0 0 6 [(0, vR 489), (1, vI a1), (2, vI a2), (3, vI a3), (4, vI a4)] [] (mk I) Q := by
  refine J_iload dX11_arePetals_6 rfl ?_
  refine J_bipush dX11_arePetals_8 (ii_c rfl) (by decide) ?_
  refine J_iload_n dX11_arePetals_10 rfl rfl ?_
  refine J_imulN dX11_arePetals_11 h.1 ?_
  replace h := h.2
  refine J_aload_n dX11_arePetals_12 rfl rfl ?_
  refine J_getR dX11_arePetals_13 ck_11 fw_X11_145 rfl sh_489 rr_489_59 ?_
  refine J_iload_n dX11_arePetals_16 rfl rfl ?_
  refine J_iald dX11_arePetals_17 sh_532 h.1.1 h.1.2 ?_
  replace h := h.2
  refine J_iaddN dX11_arePetals_18 h.1 ?_
  replace h := h.2
  refine J_ic_ge (tgt := 60) dX11_arePetals_19 (by decide) (fun c => ?_) (fun c => ?_)
  · replace h := h.1 c
    refine J_iconst dX11_arePetals_60 (ii_c rfl) ?_
    exact J_retz dX11_arePetals_61 rfl (Or.inl rfl) h
  · replace h := h.2 c
    refine J_aload_n dX11_arePetals_22 rfl rfl ?_
    refine J_getR dX11_arePetals_23 ck_11 fw_X11_151 rfl sh_489 rr_489_61 ?_
    refine J_iload dX11_arePetals_26 rfl ?_
    refine J_iald dX11_arePetals_28 sh_534 h.1.1 h.1.2 ?_
    replace h := h.2
    refine J_iload_n dX11_arePetals_29 rfl rfl ?_
    refine J_ic_ne (tgt := 54) dX11_arePetals_30 (by decide) (fun c => ?_) (fun c => ?_)
    · replace h := h.1 c
      refine J_iincN dX11_arePetals_54 rfl (by decide) h.1 ?_
      replace h := h.2
      refine J_goto (tgt := 6) dX11_arePetals_57 (by decide) ?_
      exact h
    · replace h := h.2 c
      refine J_aload_n dX11_arePetals_33 rfl rfl ?_
      refine J_iload_n dX11_arePetals_34 rfl rfl ?_
      refine J_callS (as := [_]) (mc1 := 0) (ms1 := 0) (mc := 0) (ms := 0) dX11_arePetals_35 ms_X11_saintOf lk_X11_453 rfl (Nat.le_of_ble_eq_true rfl) (Nat.le_of_ble_eq_true rfl) h (fun r σ hq _ => ?_)
      obtain ⟨x1, I1, rfl, rfl, h⟩ := hq
      change J _ _ _ _ _ _ _ [vI x1, vR 489] _ _
      refine J_aload_n dX11_arePetals_38 rfl rfl ?_
      refine J_getR dX11_arePetals_39 ck_11 fw_X11_154 rfl sh_489 rr_489_62 ?_
      refine J_iload dX11_arePetals_42 rfl ?_
      refine J_iald dX11_arePetals_44 sh_535 h.1.1 h.1.2 ?_
      replace h := h.2
      refine J_iload_n dX11_arePetals_45 rfl rfl ?_
      refine J_callV (as := [_, _, _]) (mc1 := 0) (ms1 := 0) (mc := 0) (ms := 0) dX11_arePetals_46 mv_X11_doLie lk_X11_532 sh_489 rfl (Nat.le_of_ble_eq_true rfl) (Nat.le_of_ble_eq_true rfl) h (fun r σ hq _ => ?_)
      obtain ⟨x2, I2, rfl, rfl, h⟩ := hq
      change J _ _ _ _ _ _ _ [vI x2] _ _
      refine J_if_eq (tgt := 54) dX11_arePetals_49 (by decide) (fun c => ?_) (fun c => ?_)
      · replace h := h.1 c
        refine J_iincN dX11_arePetals_54 rfl (by decide) h.1 ?_
        replace h := h.2
        refine J_goto (tgt := 6) dX11_arePetals_57 (by decide) ?_
        exact h
      · replace h := h.2 c
        refine J_iconst dX11_arePetals_52 (ii_c rfl) ?_
        exact J_retz dX11_arePetals_53 rfl (Or.inr rfl) h
set_option maxRecDepth 20000 in
set_option maxHeartbeats 2000000 in
theorem bk_X11_petals_0 {d : Nat} {I : HI} {Q : Option AV → AH → Prop} {a1 : Int} {a2 : Int}  (h : CI mX11_isLane d [vR 489, vI a1] I (fun x1 I1 => ((x1 = 0 → Q (some (vI (-1))) (mk I1)) ∧ (¬ (x1 = 0) → CI mX11_isIn d [vL a2, vL 0, vL 999] I1 (fun x2 I2 => ((x2 ≠ 0 → J none mX11_petals (d + 1) 0 0 27 [(0, vR 489), (1, vI a1), (2, vI a2), (3, vI 0), (4, vI 0)] [] (mk I2) Q) ∧ (x2 = 0 → Q (some (vI (-1))) (mk I2)))))))) : J none mX11_petals (d + 1) 0 0 0 [(0, vR 489), (1, vI a1), (2, vI a2)] [] (mk I) Q := by
  refine J_aload_n dX11_petals_0 rfl rfl ?_
  refine J_iload_n dX11_petals_1 rfl rfl ?_
  refine J_callV (as := [_]) (mc1 := 0) (ms1 := 0) (mc := 0) (ms := 0) dX11_petals_2 mv_X11_isLane lk_X11_473 sh_489 rfl (Nat.le_of_ble_eq_true rfl) (Nat.le_of_ble_eq_true rfl) h (fun r σ hq _ => ?_)
  obtain ⟨x1, I1, rfl, rfl, h⟩ := hq
  change J _ _ _ _ _ _ _ [vI x1] _ _
  refine J_if_eq (tgt := 20) dX11_petals_5 (by decide) (fun c => ?_) (fun c => ?_)
  · replace h := h.1 c
    refine J_iconst dX11_petals_20 (ii_c rfl) ?_
    exact J_reti dX11_petals_21 rfl h
  · replace h := h.2 c
    refine J_iload_n dX11_petals_8 rfl rfl ?_
    refine J_i2l dX11_petals_9 ?_
    refine J_lconst 0 dX11_petals_10 (ll_c rfl) (by decide) ?_
    refine J_ldc2 999 dX11_petals_11 kw_X11_521 (ll_c rfl) ?_
    refine J_callS (as := [_, _, _]) (mc1 := 0) (ms1 := 0) (mc := 0) (ms := 0) dX11_petals_14 ms_X11_isIn lk_X11_264 rfl (Nat.le_of_ble_eq_true rfl) (Nat.le_of_ble_eq_true rfl) h (fun r σ hq _ => ?_)
    obtain ⟨x2, I2, rfl, rfl, h⟩ := hq
    change J _ _ _ _ _ _ _ [vI x2] _ _
    refine J_if_ne (tgt := 22) dX11_petals_17 (by decide) (fun c => ?_) (fun c => ?_)
    · replace h := h.1 c
      refine J_iconst dX11_petals_22 (ii_c rfl) ?_
      refine J_istore_n dX11_petals_23 rfl (by decide) ?_
      refine J_iconst dX11_petals_24 (ii_c rfl) ?_
      refine J_istore dX11_petals_25 (by decide) ?_
      exact h
    · replace h := h.2 c
      refine J_iconst dX11_petals_20 (ii_c rfl) ?_
      exact J_reti dX11_petals_21 rfl h
set_option maxRecDepth 20000 in
set_option maxHeartbeats 2000000 in
theorem bk_X11_petals_27 {d : Nat} {I : HI} {Q : Option AV → AH → Prop} {a1 : Int} {a2 : Int} {a3 : Int} {a4 : Int}  (h : CI mX11_saintMany d [vR 489] I (fun x1 I1 => ((x1 ≤ a4 → Q (some (vI a3)) (mk I1)) ∧ (¬ (x1 ≤ a4) → CI mX11_arePetals d [vR 489, vI a4, vI a1, vI a2] I1 (fun x2 I2 => ((x2 = 0 → (-2147483648 ≤ a4 + 1 ∧ a4 + 1 ≤ 2147483647) ∧ J none mX11_petals (d + 1) 0 0 27 [(0, vR 489), (1, vI a1), (2, vI a2), (3, vI a3), (4, vI (a4 + 1))] [] (mk I2) Q) ∧ (¬ (x2 = 0) → (-2147483648 ≤ a4 + 1 ∧ a4 + 1 ≤ 2147483647) ∧ J none mX11_petals (d + 1) 0 0 27 [(0, vR 489), (1, vI a1), (2, vI a2), (3, vI (oO a3 (oSl 1 a4))), (4, vI (a4 + 1))] [] (mk I2) Q))))))) : J none mX11_petals (d + 1) 0 0 27 [(0, vR 489), (1, vI a1), (2, vI a2), (3, vI a3), (4, vI a4)] [] (mk I) Q := by
  refine J_iload dX11_petals_27 rfl ?_
  refine J_aload_n dX11_petals_29 rfl rfl ?_
  refine J_callV (as := []) (mc1 := 0) (ms1 := 0) (mc := 0) (ms := 0) dX11_petals_30 mv_X11_saintMany lk_X11_447 sh_489 rfl (Nat.le_of_ble_eq_true rfl) (Nat.le_of_ble_eq_true rfl) h (fun r σ hq _ => ?_)
  obtain ⟨x1, I1, rfl, rfl, h⟩ := hq
  change J _ _ _ _ _ _ _ [vI x1, vI a4] _ _
  refine J_ic_ge (tgt := 60) dX11_petals_33 (by decide) (fun c => ?_) (fun c => ?_)
  · replace h := h.1 c
    refine J_iload_n dX11_petals_60 rfl rfl ?_
    exact J_reti dX11_petals_61 rfl h
  · replace h := h.2 c
    refine J_aload_n dX11_petals_36 rfl rfl ?_
    refine J_iload dX11_petals_37 rfl ?_
    refine J_iload_n dX11_petals_39 rfl rfl ?_
    refine J_iload_n dX11_petals_40 rfl rfl ?_
    refine J_callV (as := [_, _, _]) (mc1 := 0) (ms1 := 0) (mc := 0) (ms := 0) dX11_petals_41 mv_X11_arePetals lk_X11_535 sh_489 rfl (Nat.le_of_ble_eq_true rfl) (Nat.le_of_ble_eq_true rfl) h (fun r σ hq _ => ?_)
    obtain ⟨x2, I2, rfl, rfl, h⟩ := hq
    change J _ _ _ _ _ _ _ [vI x2] _ _
    refine J_if_eq (tgt := 54) dX11_petals_44 (by decide) (fun c => ?_) (fun c => ?_)
    · replace h := h.1 c
      refine J_iincN dX11_petals_54 rfl (by decide) h.1 ?_
      replace h := h.2
      refine J_goto (tgt := 27) dX11_petals_57 (by decide) ?_
      exact h
    · replace h := h.2 c
      refine J_iload_n dX11_petals_47 rfl rfl ?_
      refine J_iconst dX11_petals_48 (ii_c rfl) ?_
      refine J_iload dX11_petals_49 rfl ?_
      refine J_ishl dX11_petals_51 ?_
      refine J_ior dX11_petals_52 ?_
      refine J_istore_n dX11_petals_53 rfl (by decide) ?_
      refine J_iincN dX11_petals_54 rfl (by decide) h.1 ?_
      replace h := h.2
      refine J_goto (tgt := 27) dX11_petals_57 (by decide) ?_
      exact h
set_option maxRecDepth 20000 in
set_option maxHeartbeats 2000000 in
theorem bk_X11_passes_0 {d : Nat} {I : HI} {Q : Option AV → AH → Prop} {a1 : Int} {a2 : Int}  (h : CI mX11_isSaint d [vR 489, vI a1] I (fun x1 I1 => ((x1 = 0 → Q (some (vI (-1))) (mk I1)) ∧ (¬ (x1 = 0) → CI mX11_isIn d [vL a2, vL 1, vL 9] I1 (fun x2 I2 => ((x2 = 0 → Q (some (vI (-1))) (mk I2)) ∧ (¬ (x2 = 0) → ((0 : Int) ≤ a1 ∧ (a1 : Int) < 244) ∧ (((I2 532 a1.toNat) ≠ 0 → CI mX11_homeOf d [vR 489, vI a1] I2 (fun x3 I3 => (-2147483648 ≤ 10 + x3 ∧ 10 + x3 ≤ 2147483647) ∧ ((0 : Int) ≤ (10 + x3) ∧ (10 + x3 : Int) < 20) ∧ (((I3 520 (10 + x3).toNat) ≠ a2 → (-2147483648 ≤ 24 * a1 ∧ 24 * a1 ≤ 2147483647) ∧ J none mX11_passes (d + 1) 0 0 55 [(0, vR 489), (1, vI a1), (2, vI a2), (3, vI (24 * a1))] [] (mk I3) Q) ∧ ((I3 520 (10 + x3).toNat) = a2 → Q (some (vI 0)) (mk I3))))) ∧ ((I2 532 a1.toNat) = 0 → Q (some (vI (-1))) (mk I2)))))))))) : J none mX11_passes (d + 1) 0 0 0 [(0, vR 489), (1, vI a1), (2, vI a2)] [] (mk I) Q := by
  refine J_aload_n dX11_passes_0 rfl rfl ?_
  refine J_iload_n dX11_passes_1 rfl rfl ?_
  refine J_callV (as := [_]) (mc1 := 0) (ms1 := 0) (mc := 0) (ms := 0) dX11_passes_2 mv_X11_isSaint lk_X11_481 sh_489 rfl (Nat.le_of_ble_eq_true rfl) (Nat.le_of_ble_eq_true rfl) h (fun r σ hq _ => ?_)
  obtain ⟨x1, I1, rfl, rfl, h⟩ := hq
  change J _ _ _ _ _ _ _ [vI x1] _ _
  refine J_if_eq (tgt := 29) dX11_passes_5 (by decide) (fun c => ?_) (fun c => ?_)
  · replace h := h.1 c
    refine J_iconst dX11_passes_29 (ii_c rfl) ?_
    exact J_reti dX11_passes_30 rfl h
  · replace h := h.2 c
    refine J_iload_n dX11_passes_8 rfl rfl ?_
    refine J_i2l dX11_passes_9 ?_
    refine J_lconst 1 dX11_passes_10 (ll_c rfl) (by decide) ?_
    refine J_ldc2 9 dX11_passes_11 kw_X11_538 (ll_c rfl) ?_
    refine J_callS (as := [_, _, _]) (mc1 := 0) (ms1 := 0) (mc := 0) (ms := 0) dX11_passes_14 ms_X11_isIn lk_X11_264 rfl (Nat.le_of_ble_eq_true rfl) (Nat.le_of_ble_eq_true rfl) h (fun r σ hq _ => ?_)
    obtain ⟨x2, I2, rfl, rfl, h⟩ := hq
    change J _ _ _ _ _ _ _ [vI x2] _ _
    refine J_if_eq (tgt := 29) dX11_passes_17 (by decide) (fun c => ?_) (fun c => ?_)
    · replace h := h.1 c
      refine J_iconst dX11_passes_29 (ii_c rfl) ?_
      exact J_reti dX11_passes_30 rfl h
    · replace h := h.2 c
      refine J_aload_n dX11_passes_20 rfl rfl ?_
      refine J_getR dX11_passes_21 ck_11 fw_X11_145 rfl sh_489 rr_489_59 ?_
      refine J_iload_n dX11_passes_24 rfl rfl ?_
      refine J_iald dX11_passes_25 sh_532 h.1.1 h.1.2 ?_
      replace h := h.2
      refine J_if_ne (tgt := 31) dX11_passes_26 (by decide) (fun c => ?_) (fun c => ?_)
      · replace h := h.1 c
        refine J_aload_n dX11_passes_31 rfl rfl ?_
        refine J_getR dX11_passes_32 ck_11 fw_X11_106 rfl sh_489 rr_489_39 ?_
        refine J_bipush dX11_passes_35 (ii_c rfl) (by decide) ?_
        refine J_aload_n dX11_passes_37 rfl rfl ?_
        refine J_iload_n dX11_passes_38 rfl rfl ?_
        refine J_callV (as := [_]) (mc1 := 0) (ms1 := 0) (mc := 0) (ms := 0) dX11_passes_39 mv_X11_homeOf lk_X11_456 sh_489 rfl (Nat.le_of_ble_eq_true rfl) (Nat.le_of_ble_eq_true rfl) h (fun r σ hq _ => ?_)
        obtain ⟨x3, I3, rfl, rfl, h⟩ := hq
        change J _ _ _ _ _ _ _ [vI x3, vI 10, vR 520] _ _
        refine J_iaddN dX11_passes_42 h.1 ?_
        replace h := h.2
        refine J_iald dX11_passes_43 sh_520 h.1.1 h.1.2 ?_
        replace h := h.2
        refine J_iload_n dX11_passes_44 rfl rfl ?_
        refine J_ic_ne (tgt := 50) dX11_passes_45 (by decide) (fun c => ?_) (fun c => ?_)
        · replace h := h.1 c
          refine J_bipush dX11_passes_50 (ii_c rfl) (by decide) ?_
          refine J_iload_n dX11_passes_52 rfl rfl ?_
          refine J_imulN dX11_passes_53 h.1 ?_
          replace h := h.2
          refine J_istore_n dX11_passes_54 rfl (by decide) ?_
          exact h
        · replace h := h.2 c
          refine J_iconst dX11_passes_48 (ii_c rfl) ?_
          exact J_reti dX11_passes_49 rfl h
      · replace h := h.2 c
        refine J_iconst dX11_passes_29 (ii_c rfl) ?_
        exact J_reti dX11_passes_30 rfl h
set_option maxRecDepth 20000 in
set_option maxHeartbeats 2000000 in
theorem bk_X11_passes_55 {d : Nat} {I : HI} {Q : Option AV → AH → Prop} {a1 : Int} {a2 : Int} {a3 : Int}  (h : (-2147483648 ≤ 24 * a1 ∧ 24 * a1 ≤ 2147483647) ∧ ((0 : Int) ≤ a1 ∧ (a1 : Int) < 244) ∧ (-2147483648 ≤ (24 * a1) + (I 532 a1.toNat) ∧ (24 * a1) + (I 532 a1.toNat) ≤ 2147483647) ∧ ((((24 * a1) + (I 532 a1.toNat)) ≤ a3 → Q (some (vI (-1))) (mk I)) ∧ (¬ (((24 * a1) + (I 532 a1.toNat)) ≤ a3) → ((0 : Int) ≤ a3 ∧ (a3 : Int) < 5856) ∧ (-2147483648 ≤ 10 + (I 533 a3.toNat) ∧ 10 + (I 533 a3.toNat) ≤ 2147483647) ∧ ((0 : Int) ≤ (10 + (I 533 a3.toNat)) ∧ (10 + (I 533 a3.toNat) : Int) < 20) ∧ (((I 520 (10 + (I 533 a3.toNat)).toNat) ≠ a2 → (-2147483648 ≤ a3 + 1 ∧ a3 + 1 ≤ 2147483647) ∧ J none mX11_passes (d + 1) 0 0 55 [(0, vR 489), (1, vI a1), (2, vI a2), (3, vI (a3 + 1))] [] (mk I) Q) ∧ ((I 520 (10 + (I 533 a3.toNat)).toNat) = a2 → ((0 : Int) ≤ a3 ∧ (a3 : Int) < 5856) ∧ Q (some (vI (I 535 a3.toNat))) (mk I)))))) : J none mX11_passes (d + 1) 0 0 55 [(0, vR 489), (1, vI a1), (2, vI a2), (3, vI a3)] [] (mk I) Q := by
  refine J_iload_n dX11_passes_55 rfl rfl ?_
  refine J_bipush dX11_passes_56 (ii_c rfl) (by decide) ?_
  refine J_iload_n dX11_passes_58 rfl rfl ?_
  refine J_imulN dX11_passes_59 h.1 ?_
  replace h := h.2
  refine J_aload_n dX11_passes_60 rfl rfl ?_
  refine J_getR dX11_passes_61 ck_11 fw_X11_145 rfl sh_489 rr_489_59 ?_
  refine J_iload_n dX11_passes_64 rfl rfl ?_
  refine J_iald dX11_passes_65 sh_532 h.1.1 h.1.2 ?_
  replace h := h.2
  refine J_iaddN dX11_passes_66 h.1 ?_
  replace h := h.2
  refine J_ic_ge (tgt := 101) dX11_passes_67 (by decide) (fun c => ?_) (fun c => ?_)
  · replace h := h.1 c
    refine J_iconst dX11_passes_101 (ii_c rfl) ?_
    exact J_reti dX11_passes_102 rfl h
  · replace h := h.2 c
    refine J_aload_n dX11_passes_70 rfl rfl ?_
    refine J_getR dX11_passes_71 ck_11 fw_X11_106 rfl sh_489 rr_489_39 ?_
    refine J_bipush dX11_passes_74 (ii_c rfl) (by decide) ?_
    refine J_aload_n dX11_passes_76 rfl rfl ?_
    refine J_getR dX11_passes_77 ck_11 fw_X11_148 rfl sh_489 rr_489_60 ?_
    refine J_iload_n dX11_passes_80 rfl rfl ?_
    refine J_iald dX11_passes_81 sh_533 h.1.1 h.1.2 ?_
    replace h := h.2
    refine J_iaddN dX11_passes_82 h.1 ?_
    replace h := h.2
    refine J_iald dX11_passes_83 sh_520 h.1.1 h.1.2 ?_
    replace h := h.2
    refine J_iload_n dX11_passes_84 rfl rfl ?_
    refine J_ic_ne (tgt := 95) dX11_passes_85 (by decide) (fun c => ?_) (fun c => ?_)
    · replace h := h.1 c
      refine J_iincN dX11_passes_95 rfl (by decide) h.1 ?_
      replace h := h.2
      refine J_goto (tgt := 55) dX11_passes_98 (by decide) ?_
      exact h
    · replace h := h.2 c
      refine J_aload_n dX11_passes_88 rfl rfl ?_
      refine J_getR dX11_passes_89 ck_11 fw_X11_154 rfl sh_489 rr_489_62 ?_
      refine J_iload_n dX11_passes_92 rfl rfl ?_
      refine J_iald dX11_passes_93 sh_535 h.1.1 h.1.2 ?_
      replace h := h.2
      exact J_reti dX11_passes_94 rfl h
set_option maxRecDepth 20000 in
set_option maxHeartbeats 2000000 in
theorem bk_X11_louder_0 {d : Nat} {I : HI} {Q : Option AV → AH → Prop} {a1 : Int} {a2 : Int}  (h : (-2147483648 ≤ 4 * a1 ∧ 4 * a1 ≤ 2147483647) ∧ (-2147483648 ≤ 16 + (4 * a1) ∧ 16 + (4 * a1) ≤ 2147483647) ∧ (-2147483648 ≤ (16 + (4 * a1)) + 2 ∧ (16 + (4 * a1)) + 2 ≤ 2147483647) ∧ ((0 : Int) ≤ ((16 + (4 * a1)) + 2) ∧ ((16 + (4 * a1)) + 2 : Int) < 32) ∧ (-2147483648 ≤ 4 * a2 ∧ 4 * a2 ≤ 2147483647) ∧ (-2147483648 ≤ 16 + (4 * a2) ∧ 16 + (4 * a2) ≤ 2147483647) ∧ (-2147483648 ≤ (16 + (4 * a2)) + 2 ∧ (16 + (4 * a2)) + 2 ≤ 2147483647) ∧ ((0 : Int) ≤ ((16 + (4 * a2)) + 2) ∧ ((16 + (4 * a2)) + 2 : Int) < 32) ∧ (((I 522 ((16 + (4 * a1)) + 2).toNat) ≤ (I 522 ((16 + (4 * a2)) + 2).toNat) → Q (some (vI (I 522 ((16 + (4 * a2)) + 2).toNat))) (mk I)) ∧ (¬ ((I 522 ((16 + (4 * a1)) + 2).toNat) ≤ (I 522 ((16 + (4 * a2)) + 2).toNat)) → Q (some (vI (I 522 ((16 + (4 * a1)) + 2).toNat))) (mk I)))) : J none mX11_louder (d + 1) 0 0 0 [(0, vR 489), (1, vI a1), (2, vI a2)] [] (mk I) Q := by
  refine J_aload_n dX11_louder_0 rfl rfl ?_
  refine J_getR dX11_louder_1 ck_11 fw_X11_112 rfl sh_489 rr_489_41 ?_
  refine J_bipush dX11_louder_4 (ii_c rfl) (by decide) ?_
  refine J_iconst dX11_louder_6 (ii_c rfl) ?_
  refine J_iload_n dX11_louder_7 rfl rfl ?_
  refine J_imulN dX11_louder_8 h.1 ?_
  replace h := h.2
  refine J_iaddN dX11_louder_9 h.1 ?_
  replace h := h.2
  refine J_iconst dX11_louder_10 (ii_c rfl) ?_
  refine J_iaddN dX11_louder_11 h.1 ?_
  replace h := h.2
  refine J_iald dX11_louder_12 sh_522 h.1.1 h.1.2 ?_
  replace h := h.2
  refine J_istore_n dX11_louder_13 rfl (by decide) ?_
  refine J_aload_n dX11_louder_14 rfl rfl ?_
  refine J_getR dX11_louder_15 ck_11 fw_X11_112 rfl sh_489 rr_489_41 ?_
  refine J_bipush dX11_louder_18 (ii_c rfl) (by decide) ?_
  refine J_iconst dX11_louder_20 (ii_c rfl) ?_
  refine J_iload_n dX11_louder_21 rfl rfl ?_
  refine J_imulN dX11_louder_22 h.1 ?_
  replace h := h.2
  refine J_iaddN dX11_louder_23 h.1 ?_
  replace h := h.2
  refine J_iconst dX11_louder_24 (ii_c rfl) ?_
  refine J_iaddN dX11_louder_25 h.1 ?_
  replace h := h.2
  refine J_iald dX11_louder_26 sh_522 h.1.1 h.1.2 ?_
  replace h := h.2
  refine J_istore dX11_louder_27 (by decide) ?_
  refine J_iload_n dX11_louder_29 rfl rfl ?_
  refine J_iload dX11_louder_30 rfl ?_
  refine J_ic_le (tgt := 39) dX11_louder_32 (by decide) (fun c => ?_) (fun c => ?_)
  · replace h := h.1 c
    refine J_iload dX11_louder_39 rfl ?_
    exact J_reti dX11_louder_41 rfl h
  · replace h := h.2 c
    refine J_iload_n dX11_louder_35 rfl rfl ?_
    refine J_goto (tgt := 41) dX11_louder_36 (by decide) ?_
    exact J_reti dX11_louder_41 rfl h
set_option maxRecDepth 20000 in
set_option maxHeartbeats 2000000 in
theorem bk_X11_drums_0 {d : Nat} {I : HI} {Q : Option AV → AH → Prop} {a1 : Int} {a2 : Int} {a3 : Int}  (h : ((0 : Int) ≤ a1 ∧ (a1 : Int) < 244) ∧ (((I 532 a1.toNat) = 0 → Q (some (vI (-1))) (mk I)) ∧ (¬ ((I 532 a1.toNat) = 0) → ((0 : Int) ≤ a2 ∧ (a2 : Int) < 244) ∧ (((I 532 a2.toNat) = 0 → Q (some (vI (-1))) (mk I)) ∧ (¬ ((I 532 a2.toNat) = 0) → CI mX11_endOf d [vR 489, vI a1] I (fun x1 I1 => ((x1 < a3 → Q (some (vI (-1))) (mk I1)) ∧ (¬ (x1 < a3) → CI mX11_endOf d [vR 489, vI a2] I1 (fun x2 I2 => ((a3 ≤ x2 → CI mX11_whereOf d [vR 489, vI a1, vI a3] I2 (fun x3 I3 => (-2147483648 ≤ 10 * x3 ∧ 10 * x3 ≤ 2147483647) ∧ CI mX11_whereOf d [vR 489, vI a2, vI a3] I3 (fun x4 I4 => (-2147483648 ≤ (10 * x3) + x4 ∧ (10 * x3) + x4 ≤ 2147483647) ∧ ((0 : Int) ≤ ((10 * x3) + x4) ∧ ((10 * x3) + x4 : Int) < 100) ∧ CI mX11_saintOf d [vI a1] I4 (fun x5 I5 => CI mX11_saintOf d [vI a2] I5 (fun x6 I6 => CI mX11_louder d [vR 489, vI x5, vI x6] I6 (fun x7 I7 => ((x7 < (I4 531 ((10 * x3) + x4).toNat) → Q (some (vI (-1))) (mk I7)) ∧ (¬ (x7 < (I4 531 ((10 * x3) + x4).toNat)) → Q (some (vI (I4 531 ((10 * x3) + x4).toNat))) (mk I7))))))))) ∧ (¬ (a3 ≤ x2) → Q (some (vI (-1))) (mk I2)))))))))))) : J none mX11_drums (d + 1) 0 0 0 [(0, vR 489), (1, vI a1), (2, vI a2), (3, vI a3)] [] (mk I) Q := by
  refine J_aload_n dX11_drums_0 rfl rfl ?_
  refine J_getR dX11_drums_1 ck_11 fw_X11_145 rfl sh_489 rr_489_59 ?_
  refine J_iload_n dX11_drums_4 rfl rfl ?_
  refine J_iald dX11_drums_5 sh_532 h.1.1 h.1.2 ?_
  replace h := h.2
  refine J_if_eq (tgt := 36) dX11_drums_6 (by decide) (fun c => ?_) (fun c => ?_)
  · replace h := h.1 c
    refine J_iconst dX11_drums_36 (ii_c rfl) ?_
    exact J_reti dX11_drums_37 rfl h
  · replace h := h.2 c
    refine J_aload_n dX11_drums_9 rfl rfl ?_
    refine J_getR dX11_drums_10 ck_11 fw_X11_145 rfl sh_489 rr_489_59 ?_
    refine J_iload_n dX11_drums_13 rfl rfl ?_
    refine J_iald dX11_drums_14 sh_532 h.1.1 h.1.2 ?_
    replace h := h.2
    refine J_if_eq (tgt := 36) dX11_drums_15 (by decide) (fun c => ?_) (fun c => ?_)
    · replace h := h.1 c
      refine J_iconst dX11_drums_36 (ii_c rfl) ?_
      exact J_reti dX11_drums_37 rfl h
    · replace h := h.2 c
      refine J_iload_n dX11_drums_18 rfl rfl ?_
      refine J_aload_n dX11_drums_19 rfl rfl ?_
      refine J_iload_n dX11_drums_20 rfl rfl ?_
      refine J_callV (as := [_]) (mc1 := 0) (ms1 := 0) (mc := 0) (ms := 0) dX11_drums_21 mv_X11_endOf lk_X11_459 sh_489 rfl (Nat.le_of_ble_eq_true rfl) (Nat.le_of_ble_eq_true rfl) h (fun r σ hq _ => ?_)
      obtain ⟨x1, I1, rfl, rfl, h⟩ := hq
      change J _ _ _ _ _ _ _ [vI x1, vI a3] _ _
      refine J_ic_gt (tgt := 36) dX11_drums_24 (by decide) (fun c => ?_) (fun c => ?_)
      · replace h := h.1 c
        refine J_iconst dX11_drums_36 (ii_c rfl) ?_
        exact J_reti dX11_drums_37 rfl h
      · replace h := h.2 c
        refine J_iload_n dX11_drums_27 rfl rfl ?_
        refine J_aload_n dX11_drums_28 rfl rfl ?_
        refine J_iload_n dX11_drums_29 rfl rfl ?_
        refine J_callV (as := [_]) (mc1 := 0) (ms1 := 0) (mc := 0) (ms := 0) dX11_drums_30 mv_X11_endOf lk_X11_459 sh_489 rfl (Nat.le_of_ble_eq_true rfl) (Nat.le_of_ble_eq_true rfl) h (fun r σ hq _ => ?_)
        obtain ⟨x2, I2, rfl, rfl, h⟩ := hq
        change J _ _ _ _ _ _ _ [vI x2, vI a3] _ _
        refine J_ic_le (tgt := 38) dX11_drums_33 (by decide) (fun c => ?_) (fun c => ?_)
        · replace h := h.1 c
          refine J_aload_n dX11_drums_38 rfl rfl ?_
          refine J_getR dX11_drums_39 ck_11 fw_X11_142 rfl sh_489 rr_489_58 ?_
          refine J_bipush dX11_drums_42 (ii_c rfl) (by decide) ?_
          refine J_aload_n dX11_drums_44 rfl rfl ?_
          refine J_iload_n dX11_drums_45 rfl rfl ?_
          refine J_iload_n dX11_drums_46 rfl rfl ?_
          refine J_callV (as := [_, _]) (mc1 := 0) (ms1 := 0) (mc := 0) (ms := 0) dX11_drums_47 mv_X11_whereOf lk_X11_523 sh_489 rfl (Nat.le_of_ble_eq_true rfl) (Nat.le_of_ble_eq_true rfl) h (fun r σ hq _ => ?_)
          obtain ⟨x3, I3, rfl, rfl, h⟩ := hq
          change J _ _ _ _ _ _ _ [vI x3, vI 10, vR 531] _ _
          refine J_imulN dX11_drums_50 h.1 ?_
          replace h := h.2
          refine J_aload_n dX11_drums_51 rfl rfl ?_
          refine J_iload_n dX11_drums_52 rfl rfl ?_
          refine J_iload_n dX11_drums_53 rfl rfl ?_
          refine J_callV (as := [_, _]) (mc1 := 0) (ms1 := 0) (mc := 0) (ms := 0) dX11_drums_54 mv_X11_whereOf lk_X11_523 sh_489 rfl (Nat.le_of_ble_eq_true rfl) (Nat.le_of_ble_eq_true rfl) h (fun r σ hq _ => ?_)
          obtain ⟨x4, I4, rfl, rfl, h⟩ := hq
          change J _ _ _ _ _ _ _ [vI x4, vI (10 * x3), vR 531] _ _
          refine J_iaddN dX11_drums_57 h.1 ?_
          replace h := h.2
          refine J_iald dX11_drums_58 sh_531 h.1.1 h.1.2 ?_
          replace h := h.2
          refine J_istore dX11_drums_59 (by decide) ?_
          refine J_iload dX11_drums_61 rfl ?_
          refine J_aload_n dX11_drums_63 rfl rfl ?_
          refine J_iload_n dX11_drums_64 rfl rfl ?_
          refine J_callS (as := [_]) (mc1 := 0) (ms1 := 0) (mc := 0) (ms := 0) dX11_drums_65 ms_X11_saintOf lk_X11_453 rfl (Nat.le_of_ble_eq_true rfl) (Nat.le_of_ble_eq_true rfl) h (fun r σ hq _ => ?_)
          obtain ⟨x5, I5, rfl, rfl, h⟩ := hq
          change J _ _ _ _ _ _ _ [vI x5, vR 489, vI (I4 531 ((10 * x3) + x4).toNat)] _ _
          refine J_iload_n dX11_drums_68 rfl rfl ?_
          refine J_callS (as := [_]) (mc1 := 0) (ms1 := 0) (mc := 0) (ms := 0) dX11_drums_69 ms_X11_saintOf lk_X11_453 rfl (Nat.le_of_ble_eq_true rfl) (Nat.le_of_ble_eq_true rfl) h (fun r σ hq _ => ?_)
          obtain ⟨x6, I6, rfl, rfl, h⟩ := hq
          change J _ _ _ _ _ _ _ [vI x6, vI x5, vR 489, vI (I4 531 ((10 * x3) + x4).toNat)] _ _
          refine J_callV (as := [_, _]) (mc1 := 0) (ms1 := 0) (mc := 0) (ms := 0) dX11_drums_72 mv_X11_louder lk_X11_540 sh_489 rfl (Nat.le_of_ble_eq_true rfl) (Nat.le_of_ble_eq_true rfl) h (fun r σ hq _ => ?_)
          obtain ⟨x7, I7, rfl, rfl, h⟩ := hq
          change J _ _ _ _ _ _ _ [vI x7, vI (I4 531 ((10 * x3) + x4).toNat)] _ _
          refine J_ic_gt (tgt := 83) dX11_drums_75 (by decide) (fun c => ?_) (fun c => ?_)
          · replace h := h.1 c
            refine J_iconst dX11_drums_83 (ii_c rfl) ?_
            exact J_reti dX11_drums_84 rfl h
          · replace h := h.2 c
            refine J_iload dX11_drums_78 rfl ?_
            refine J_goto (tgt := 84) dX11_drums_80 (by decide) ?_
            exact J_reti dX11_drums_84 rfl h
        · replace h := h.2 c
          refine J_iconst dX11_drums_36 (ii_c rfl) ?_
          exact J_reti dX11_drums_37 rfl h
set_option maxRecDepth 20000 in
set_option maxHeartbeats 2000000 in
theorem bk_X11_isUpon_0 {d : Nat} {I : HI} {Q : Option AV → AH → Prop} {a1 : Int} {a2 : Int} {a3 : Int}  (h : CI mX11_onOf d [vR 489, vI a1, vI a3] I (fun x1 I1 => ((x1 = (-1) → Q (some (vI 0)) (mk I1)) ∧ (¬ (x1 = (-1)) → CI mX11_arePetals d [vR 489, vI a2, vI x1, vI a3] I1 (fun x2 I2 => ((x2 = 0 → Q (some (vI 0)) (mk I2)) ∧ (¬ (x2 = 0) → Q (some (vI 1)) (mk I2)))))))) : J none mX11_isUpon (d + 1) 0 0 0 [(0, vR 489), (1, vI a1), (2, vI a2), (3, vI a3)] [] (mk I) Q := by
  refine J_aload_n dX11_isUpon_0 rfl rfl ?_
  refine J_iload_n dX11_isUpon_1 rfl rfl ?_
  refine J_iload_n dX11_isUpon_2 rfl rfl ?_
  refine J_callV (as := [_, _]) (mc1 := 0) (ms1 := 0) (mc := 0) (ms := 0) dX11_isUpon_3 mv_X11_onOf lk_X11_526 sh_489 rfl (Nat.le_of_ble_eq_true rfl) (Nat.le_of_ble_eq_true rfl) h (fun r σ hq _ => ?_)
  obtain ⟨x1, I1, rfl, rfl, h⟩ := hq
  change J _ _ _ _ _ _ _ [vI x1] _ _
  refine J_istore dX11_isUpon_6 (by decide) ?_
  refine J_iload dX11_isUpon_8 rfl ?_
  refine J_iconst dX11_isUpon_10 (ii_c rfl) ?_
  refine J_ic_eq (tgt := 29) dX11_isUpon_11 (by decide) (fun c => ?_) (fun c => ?_)
  · replace h := h.1 c
    refine J_iconst dX11_isUpon_29 (ii_c rfl) ?_
    exact J_retz dX11_isUpon_30 rfl (Or.inl rfl) h
  · replace h := h.2 c
    refine J_aload_n dX11_isUpon_14 rfl rfl ?_
    refine J_iload_n dX11_isUpon_15 rfl rfl ?_
    refine J_iload dX11_isUpon_16 rfl ?_
    refine J_iload_n dX11_isUpon_18 rfl rfl ?_
    refine J_callV (as := [_, _, _]) (mc1 := 0) (ms1 := 0) (mc := 0) (ms := 0) dX11_isUpon_19 mv_X11_arePetals lk_X11_535 sh_489 rfl (Nat.le_of_ble_eq_true rfl) (Nat.le_of_ble_eq_true rfl) h (fun r σ hq _ => ?_)
    obtain ⟨x2, I2, rfl, rfl, h⟩ := hq
    change J _ _ _ _ _ _ _ [vI x2] _ _
    refine J_if_eq (tgt := 29) dX11_isUpon_22 (by decide) (fun c => ?_) (fun c => ?_)
    · replace h := h.1 c
      refine J_iconst dX11_isUpon_29 (ii_c rfl) ?_
      exact J_retz dX11_isUpon_30 rfl (Or.inl rfl) h
    · replace h := h.2 c
      refine J_iconst dX11_isUpon_25 (ii_c rfl) ?_
      refine J_goto (tgt := 30) dX11_isUpon_26 (by decide) ?_
      exact J_retz dX11_isUpon_30 rfl (Or.inr rfl) h
set_option maxRecDepth 20000 in
set_option maxHeartbeats 2000000 in
theorem bk_X11_arePetalsIn_0 {d : Nat} {I : HI} {Q : Option AV → AH → Prop} {a1 : Int} {a2 : Int} {a3 : Int}  (h : ((0 : Int) ≤ a1 ∧ (a1 : Int) < 244) ∧ (((I 532 a1.toNat) ≤ 0 → Q (some (vI 0)) (mk I)) ∧ (¬ ((I 532 a1.toNat) ≤ 0) → ((0 : Int) ≤ a2 ∧ (a2 : Int) < 244) ∧ (((I 532 a2.toNat) ≤ 0 → Q (some (vI 0)) (mk I)) ∧ (¬ ((I 532 a2.toNat) ≤ 0) → CI mX11_isUpon d [vR 489, vI a1, vI a2, vI a3] I (fun x1 I1 => ((x1 ≠ 0 → Q (some (vI 1)) (mk I1)) ∧ (x1 = 0 → CI mX11_isUpon d [vR 489, vI a2, vI a1, vI a3] I1 (fun x2 I2 => ((x2 = 0 → Q (some (vI 0)) (mk I2)) ∧ (¬ (x2 = 0) → Q (some (vI 1)) (mk I2)))))))))))) : J none mX11_arePetalsIn (d + 1) 0 0 0 [(0, vR 489), (1, vI a1), (2, vI a2), (3, vI a3)] [] (mk I) Q := by
  refine J_aload_n dX11_arePetalsIn_0 rfl rfl ?_
  refine J_getR dX11_arePetalsIn_1 ck_11 fw_X11_145 rfl sh_489 rr_489_59 ?_
  refine J_iload_n dX11_arePetalsIn_4 rfl rfl ?_
  refine J_iald dX11_arePetalsIn_5 sh_532 h.1.1 h.1.2 ?_
  replace h := h.2
  refine J_if_le (tgt := 42) dX11_arePetalsIn_6 (by decide) (fun c => ?_) (fun c => ?_)
  · replace h := h.1 c
    refine J_iconst dX11_arePetalsIn_42 (ii_c rfl) ?_
    exact J_retz dX11_arePetalsIn_43 rfl (Or.inl rfl) h
  · replace h := h.2 c
    refine J_aload_n dX11_arePetalsIn_9 rfl rfl ?_
    refine J_getR dX11_arePetalsIn_10 ck_11 fw_X11_145 rfl sh_489 rr_489_59 ?_
    refine J_iload_n dX11_arePetalsIn_13 rfl rfl ?_
    refine J_iald dX11_arePetalsIn_14 sh_532 h.1.1 h.1.2 ?_
    replace h := h.2
    refine J_if_le (tgt := 42) dX11_arePetalsIn_15 (by decide) (fun c => ?_) (fun c => ?_)
    · replace h := h.1 c
      refine J_iconst dX11_arePetalsIn_42 (ii_c rfl) ?_
      exact J_retz dX11_arePetalsIn_43 rfl (Or.inl rfl) h
    · replace h := h.2 c
      refine J_aload_n dX11_arePetalsIn_18 rfl rfl ?_
      refine J_iload_n dX11_arePetalsIn_19 rfl rfl ?_
      refine J_iload_n dX11_arePetalsIn_20 rfl rfl ?_
      refine J_iload_n dX11_arePetalsIn_21 rfl rfl ?_
      refine J_callV (as := [_, _, _]) (mc1 := 0) (ms1 := 0) (mc := 0) (ms := 0) dX11_arePetalsIn_22 mv_X11_isUpon lk_X11_543 sh_489 rfl (Nat.le_of_ble_eq_true rfl) (Nat.le_of_ble_eq_true rfl) h (fun r σ hq _ => ?_)
      obtain ⟨x1, I1, rfl, rfl, h⟩ := hq
      change J _ _ _ _ _ _ _ [vI x1] _ _
      refine J_if_ne (tgt := 38) dX11_arePetalsIn_25 (by decide) (fun c => ?_) (fun c => ?_)
      · replace h := h.1 c
        refine J_iconst dX11_arePetalsIn_38 (ii_c rfl) ?_
        refine J_goto (tgt := 43) dX11_arePetalsIn_39 (by decide) ?_
        exact J_retz dX11_arePetalsIn_43 rfl (Or.inr rfl) h
      · replace h := h.2 c
        refine J_aload_n dX11_arePetalsIn_28 rfl rfl ?_
        refine J_iload_n dX11_arePetalsIn_29 rfl rfl ?_
        refine J_iload_n dX11_arePetalsIn_30 rfl rfl ?_
        refine J_iload_n dX11_arePetalsIn_31 rfl rfl ?_
        refine J_callV (as := [_, _, _]) (mc1 := 0) (ms1 := 0) (mc := 0) (ms := 0) dX11_arePetalsIn_32 mv_X11_isUpon lk_X11_543 sh_489 rfl (Nat.le_of_ble_eq_true rfl) (Nat.le_of_ble_eq_true rfl) h (fun r σ hq _ => ?_)
        obtain ⟨x2, I2, rfl, rfl, h⟩ := hq
        change J _ _ _ _ _ _ _ [vI x2] _ _
        refine J_if_eq (tgt := 42) dX11_arePetalsIn_35 (by decide) (fun c => ?_) (fun c => ?_)
        · replace h := h.1 c
          refine J_iconst dX11_arePetalsIn_42 (ii_c rfl) ?_
          exact J_retz dX11_arePetalsIn_43 rfl (Or.inl rfl) h
        · replace h := h.2 c
          refine J_iconst dX11_arePetalsIn_38 (ii_c rfl) ?_
          refine J_goto (tgt := 43) dX11_arePetalsIn_39 (by decide) ?_
          exact J_retz dX11_arePetalsIn_43 rfl (Or.inr rfl) h
set_option maxRecDepth 20000 in
set_option maxHeartbeats 2000000 in
theorem bk_X11_clash_0 {d : Nat} {I : HI} {Q : Option AV → AH → Prop} {a1 : Int}  (h : CI mX11_isIn d [vL a1, vL 0, vL 3] I (fun x1 I1 => ((x1 ≠ 0 → J none mX11_clash (d + 1) 0 0 16 [(0, vR 489), (1, vI a1), (2, vI 0)] [] (mk I1) Q) ∧ (x1 = 0 → Q (some (vI (-1))) (mk I1))))) : J none mX11_clash (d + 1) 0 0 0 [(0, vR 489), (1, vI a1)] [] (mk I) Q := by
  refine J_iload_n dX11_clash_0 rfl rfl ?_
  refine J_i2l dX11_clash_1 ?_
  refine J_lconst 0 dX11_clash_2 (ll_c rfl) (by decide) ?_
  refine J_ldc2 3 dX11_clash_3 kw_X11_546 (ll_c rfl) ?_
  refine J_callS (as := [_, _, _]) (mc1 := 0) (ms1 := 0) (mc := 0) (ms := 0) dX11_clash_6 ms_X11_isIn lk_X11_264 rfl (Nat.le_of_ble_eq_true rfl) (Nat.le_of_ble_eq_true rfl) h (fun r σ hq _ => ?_)
  obtain ⟨x1, I1, rfl, rfl, h⟩ := hq
  change J _ _ _ _ _ _ _ [vI x1] _ _
  refine J_if_ne (tgt := 14) dX11_clash_9 (by decide) (fun c => ?_) (fun c => ?_)
  · replace h := h.1 c
    refine J_iconst dX11_clash_14 (ii_c rfl) ?_
    refine J_istore_n dX11_clash_15 rfl (by decide) ?_
    exact h
  · replace h := h.2 c
    refine J_iconst dX11_clash_12 (ii_c rfl) ?_
    exact J_reti dX11_clash_13 rfl h
set_option maxRecDepth 20000 in
set_option maxHeartbeats 2000000 in
theorem bk_X11_clash_16 {d : Nat} {I : HI} {Q : Option AV → AH → Prop} {a1 : Int} {a2 : Int}  (h : ((999 < a2 → Q (some (vI (-1))) (mk I)) ∧ (¬ (999 < a2) → J none mX11_clash (d + 1) 0 0 25 [(0, vR 489), (1, vI a1), (2, vI a2), (3, vI 0)] [] (mk I) Q))) : J none mX11_clash (d + 1) 0 0 16 [(0, vR 489), (1, vI a1), (2, vI a2)] [] (mk I) Q := by
  refine J_iload_n dX11_clash_16 rfl rfl ?_
  refine J_sipush dX11_clash_17 (ii_c rfl) (by decide) ?_
  refine J_ic_gt (tgt := 170) dX11_clash_20 (by decide) (fun c => ?_) (fun c => ?_)
  · replace h := h.1 c
    refine J_iconst dX11_clash_170 (ii_c rfl) ?_
    exact J_reti dX11_clash_171 rfl h
  · replace h := h.2 c
    refine J_iconst dX11_clash_23 (ii_c rfl) ?_
    refine J_istore_n dX11_clash_24 rfl (by decide) ?_
    exact h
set_option maxRecDepth 20000 in
set_option maxHeartbeats 2000000 in
theorem bk_X11_clash_25 {d : Nat} {I : HI} {Q : Option AV → AH → Prop} {a1 : Int} {a2 : Int} {a3 : Int}  (h : ((2 ≤ a3 → (-2147483648 ≤ a2 + 1 ∧ a2 + 1 ≤ 2147483647) ∧ J none mX11_clash (d + 1) 0 0 16 [(0, vR 489), (1, vI a1), (2, vI (a2 + 1))] [] (mk I) Q) ∧ (¬ (2 ≤ a3) → J none mX11_clash (d + 1) 0 0 33 [(0, vR 489), (1, vI a1), (2, vI a2), (3, vI a3), (4, vI 0)] [] (mk I) Q))) : J none mX11_clash (d + 1) 0 0 25 [(0, vR 489), (1, vI a1), (2, vI a2), (3, vI a3)] [] (mk I) Q := by
  refine J_iload_n dX11_clash_25 rfl rfl ?_
  refine J_iconst dX11_clash_26 (ii_c rfl) ?_
  refine J_ic_ge (tgt := 164) dX11_clash_27 (by decide) (fun c => ?_) (fun c => ?_)
  · replace h := h.1 c
    refine J_iincN dX11_clash_164 rfl (by decide) h.1 ?_
    replace h := h.2
    refine J_goto (tgt := 16) dX11_clash_167 (by decide) ?_
    exact J_loc (ls_sub [0, 1, 2] rfl) h
  · replace h := h.2 c
    refine J_iconst dX11_clash_30 (ii_c rfl) ?_
    refine J_istore dX11_clash_31 (by decide) ?_
    exact h
set_option maxRecDepth 20000 in
set_option maxHeartbeats 2000000 in
theorem bk_X11_clash_33 {d : Nat} {I : HI} {Q : Option AV → AH → Prop} {a1 : Int} {a2 : Int} {a3 : Int} {a4 : Int}  (h : CI mX11_saintMany d [vR 489] I (fun x1 I1 => ((x1 ≤ a4 → (-2147483648 ≤ a3 + 1 ∧ a3 + 1 ≤ 2147483647) ∧ J none mX11_clash (d + 1) 0 0 25 [(0, vR 489), (1, vI a1), (2, vI a2), (3, vI (a3 + 1))] [] (mk I1) Q) ∧ (¬ (x1 ≤ a4) → (-2147483648 ≤ a4 + 1 ∧ a4 + 1 ≤ 2147483647) ∧ J none mX11_clash (d + 1) 0 0 48 [(0, vR 489), (1, vI a1), (2, vI a2), (3, vI a3), (4, vI a4), (5, vI (a4 + 1))] [] (mk I1) Q)))) : J none mX11_clash (d + 1) 0 0 33 [(0, vR 489), (1, vI a1), (2, vI a2), (3, vI a3), (4, vI a4)] [] (mk I) Q := by
  refine J_iload dX11_clash_33 rfl ?_
  refine J_aload_n dX11_clash_35 rfl rfl ?_
  refine J_callV (as := []) (mc1 := 0) (ms1 := 0) (mc := 0) (ms := 0) dX11_clash_36 mv_X11_saintMany lk_X11_447 sh_489 rfl (Nat.le_of_ble_eq_true rfl) (Nat.le_of_ble_eq_true rfl) h (fun r σ hq _ => ?_)
  obtain ⟨x1, I1, rfl, rfl, h⟩ := hq
  change J _ _ _ _ _ _ _ [vI x1, vI a4] _ _
  refine J_ic_ge (tgt := 158) dX11_clash_39 (by decide) (fun c => ?_) (fun c => ?_)
  · replace h := h.1 c
    refine J_iincN dX11_clash_158 rfl (by decide) h.1 ?_
    replace h := h.2
    refine J_goto (tgt := 25) dX11_clash_161 (by decide) ?_
    exact J_loc (ls_sub [0, 1, 2, 3] rfl) h
  · replace h := h.2 c
    refine J_iload dX11_clash_42 rfl ?_
    refine J_iconst dX11_clash_44 (ii_c rfl) ?_
    refine J_iaddN dX11_clash_45 h.1 ?_
    replace h := h.2
    refine J_istore dX11_clash_46 (by decide) ?_
    exact h
set_option maxRecDepth 20000 in
set_option maxHeartbeats 2000000 in
theorem bk_X11_clash_48 {d : Nat} {I : HI} {Q : Option AV → AH → Prop} {a1 : Int} {a2 : Int} {a3 : Int} {a4 : Int} {a5 : Int}  (h : CI mX11_saintMany d [vR 489] I (fun x1 I1 => ((x1 ≤ a5 → (-2147483648 ≤ a4 + 1 ∧ a4 + 1 ≤ 2147483647) ∧ J none mX11_clash (d + 1) 0 0 33 [(0, vR 489), (1, vI a1), (2, vI a2), (3, vI a3), (4, vI (a4 + 1))] [] (mk I1) Q) ∧ (¬ (x1 ≤ a5) → ((a3 ≠ 0 → CI mX11_arePetalsIn d [vR 489, vI a4, vI a5, vI a2] I1 (fun x2 I2 => ((x2 = 0 → (-2147483648 ≤ a5 + 1 ∧ a5 + 1 ≤ 2147483647) ∧ J none mX11_clash (d + 1) 0 0 48 [(0, vR 489), (1, vI a1), (2, vI a2), (3, vI a3), (4, vI a4), (5, vI (a5 + 1))] [] (mk I2) Q) ∧ (¬ (x2 = 0) → CI mX11_isExcepted d [vR 489, vI a2, vI a3, vI 0, vI a4, vI a5] I2 (fun x3 I3 => ((x3 = 0 → ((a1 ≠ 0 → ((a1 ≠ 1 → ((a1 ≠ 2 → Q (some (vI a5)) (mk I3)) ∧ (a1 = 2 → Q (some (vI a4)) (mk I3)))) ∧ (a1 = 1 → Q (some (vI a3)) (mk I3)))) ∧ (a1 = 0 → Q (some (vI a2)) (mk I3)))) ∧ (¬ (x3 = 0) → (-2147483648 ≤ a5 + 1 ∧ a5 + 1 ≤ 2147483647) ∧ J none mX11_clash (d + 1) 0 0 48 [(0, vR 489), (1, vI a1), (2, vI a2), (3, vI a3), (4, vI a4), (5, vI (a5 + 1))] [] (mk I3) Q))))))) ∧ (a3 = 0 → CI mX11_drums d [vR 489, vI a4, vI a5, vI a2] I1 (fun x4 I4 => ((x4 = (-1) → (-2147483648 ≤ a5 + 1 ∧ a5 + 1 ≤ 2147483647) ∧ J none mX11_clash (d + 1) 0 0 48 [(0, vR 489), (1, vI a1), (2, vI a2), (3, vI a3), (4, vI a4), (5, vI (a5 + 1))] [] (mk I4) Q) ∧ (¬ (x4 = (-1)) → CI mX11_isExcepted d [vR 489, vI a2, vI a3, vI x4, vI a4, vI a5] I4 (fun x5 I5 => ((x5 = 0 → ((a1 ≠ 0 → ((a1 ≠ 1 → ((a1 ≠ 2 → Q (some (vI a5)) (mk I5)) ∧ (a1 = 2 → Q (some (vI a4)) (mk I5)))) ∧ (a1 = 1 → Q (some (vI a3)) (mk I5)))) ∧ (a1 = 0 → Q (some (vI a2)) (mk I5)))) ∧ (¬ (x5 = 0) → (-2147483648 ≤ a5 + 1 ∧ a5 + 1 ≤ 2147483647) ∧ J none mX11_clash (d + 1) 0 0 48 [(0, vR 489), (1, vI a1), (2, vI a2), (3, vI a3), (4, vI a4), (5, vI (a5 + 1))] [] (mk I5) Q)))))))))))) : J none mX11_clash (d + 1) 0 0 48 [(0, vR 489), (1, vI a1), (2, vI a2), (3, vI a3), (4, vI a4), (5, vI a5)] [] (mk I) Q := by
  refine J_iload dX11_clash_48 rfl ?_
  refine J_aload_n dX11_clash_50 rfl rfl ?_
  refine J_callV (as := []) (mc1 := 0) (ms1 := 0) (mc := 0) (ms := 0) dX11_clash_51 mv_X11_saintMany lk_X11_447 sh_489 rfl (Nat.le_of_ble_eq_true rfl) (Nat.le_of_ble_eq_true rfl) h (fun r σ hq _ => ?_)
  obtain ⟨x1, I1, rfl, rfl, h⟩ := hq
  change J _ _ _ _ _ _ _ [vI x1, vI a5] _ _
  refine J_ic_ge (tgt := 152) dX11_clash_54 (by decide) (fun c => ?_) (fun c => ?_)
  · replace h := h.1 c
    refine J_iincN dX11_clash_152 rfl (by decide) h.1 ?_
    replace h := h.2
    refine J_goto (tgt := 33) dX11_clash_155 (by decide) ?_
    exact J_loc (ls_sub [0, 1, 2, 3, 4] rfl) h
  · replace h := h.2 c
    refine J_iload_n dX11_clash_57 rfl rfl ?_
    refine J_if_ne (tgt := 73) dX11_clash_58 (by decide) (fun c => ?_) (fun c => ?_)
    · replace h := h.1 c
      refine J_aload_n dX11_clash_73 rfl rfl ?_
      refine J_iload dX11_clash_74 rfl ?_
      refine J_iload dX11_clash_76 rfl ?_
      refine J_iload_n dX11_clash_78 rfl rfl ?_
      refine J_callV (as := [_, _, _]) (mc1 := 0) (ms1 := 0) (mc := 0) (ms := 0) dX11_clash_79 mv_X11_arePetalsIn lk_X11_552 sh_489 rfl (Nat.le_of_ble_eq_true rfl) (Nat.le_of_ble_eq_true rfl) h (fun r σ hq _ => ?_)
      obtain ⟨x2, I2, rfl, rfl, h⟩ := hq
      change J _ _ _ _ _ _ _ [vI x2] _ _
      refine J_if_eq (tgt := 89) dX11_clash_82 (by decide) (fun c => ?_) (fun c => ?_)
      · replace h := h.1 c
        refine J_iconst dX11_clash_89 (ii_c rfl) ?_
        refine J_istore dX11_clash_90 (by decide) ?_
        refine J_iload dX11_clash_92 rfl ?_
        refine J_iconst dX11_clash_94 (ii_c rfl) ?_
        refine J_ic_eq (tgt := 146) dX11_clash_95 (by decide) (fun _ => ?_) (fun c => absurd (by decide) c)
        refine J_iincN dX11_clash_146 rfl (by decide) h.1 ?_
        replace h := h.2
        refine J_goto (tgt := 48) dX11_clash_149 (by decide) ?_
        exact J_loc (ls_sub [0, 1, 2, 3, 4, 5] rfl) h
      · replace h := h.2 c
        refine J_iconst dX11_clash_85 (ii_c rfl) ?_
        refine J_goto (tgt := 90) dX11_clash_86 (by decide) ?_
        refine J_istore dX11_clash_90 (by decide) ?_
        refine J_iload dX11_clash_92 rfl ?_
        refine J_iconst dX11_clash_94 (ii_c rfl) ?_
        refine J_ic_eq (tgt := 146) dX11_clash_95 (by decide) (fun c => absurd c (by decide)) (fun _ => ?_)
        refine J_aload_n dX11_clash_98 rfl rfl ?_
        refine J_iload_n dX11_clash_99 rfl rfl ?_
        refine J_iload_n dX11_clash_100 rfl rfl ?_
        refine J_iload dX11_clash_101 rfl ?_
        refine J_iload dX11_clash_103 rfl ?_
        refine J_iload dX11_clash_105 rfl ?_
        refine J_callV (as := [_, _, _, _, _]) (mc1 := 0) (ms1 := 0) (mc := 0) (ms := 0) dX11_clash_107 mv_X11_isExcepted lk_X11_555 sh_489 rfl (Nat.le_of_ble_eq_true rfl) (Nat.le_of_ble_eq_true rfl) h (fun r σ hq _ => ?_)
        obtain ⟨x3, I3, rfl, rfl, h⟩ := hq
        change J _ _ _ _ _ _ _ [vI x3] _ _
        refine J_if_eq (tgt := 116) dX11_clash_110 (by decide) (fun c => ?_) (fun c => ?_)
        · replace h := h.1 c
          refine J_iload_n dX11_clash_116 rfl rfl ?_
          refine J_if_ne (tgt := 124) dX11_clash_117 (by decide) (fun c => ?_) (fun c => ?_)
          · replace h := h.1 c
            refine J_iload_n dX11_clash_124 rfl rfl ?_
            refine J_iconst dX11_clash_125 (ii_c rfl) ?_
            refine J_ic_ne (tgt := 133) dX11_clash_126 (by decide) (fun c => ?_) (fun c => ?_)
            · replace h := h.1 c
              refine J_iload_n dX11_clash_133 rfl rfl ?_
              refine J_iconst dX11_clash_134 (ii_c rfl) ?_
              refine J_ic_ne (tgt := 143) dX11_clash_135 (by decide) (fun c => ?_) (fun c => ?_)
              · replace h := h.1 c
                refine J_iload dX11_clash_143 rfl ?_
                exact J_reti dX11_clash_145 rfl h
              · replace h := h.2 c
                refine J_iload dX11_clash_138 rfl ?_
                refine J_goto (tgt := 145) dX11_clash_140 (by decide) ?_
                exact J_reti dX11_clash_145 rfl h
            · replace h := h.2 c
              refine J_iload_n dX11_clash_129 rfl rfl ?_
              refine J_goto (tgt := 145) dX11_clash_130 (by decide) ?_
              exact J_reti dX11_clash_145 rfl h
          · replace h := h.2 c
            refine J_iload_n dX11_clash_120 rfl rfl ?_
            refine J_goto (tgt := 145) dX11_clash_121 (by decide) ?_
            exact J_reti dX11_clash_145 rfl h
        · replace h := h.2 c
          refine J_goto (tgt := 146) dX11_clash_113 (by decide) ?_
          refine J_iincN dX11_clash_146 rfl (by decide) h.1 ?_
          replace h := h.2
          refine J_goto (tgt := 48) dX11_clash_149 (by decide) ?_
          exact J_loc (ls_sub [0, 1, 2, 3, 4, 5] rfl) h
    · replace h := h.2 c
      refine J_aload_n dX11_clash_61 rfl rfl ?_
      refine J_iload dX11_clash_62 rfl ?_
      refine J_iload dX11_clash_64 rfl ?_
      refine J_iload_n dX11_clash_66 rfl rfl ?_
      refine J_callV (as := [_, _, _]) (mc1 := 0) (ms1 := 0) (mc := 0) (ms := 0) dX11_clash_67 mv_X11_drums lk_X11_548 sh_489 rfl (Nat.le_of_ble_eq_true rfl) (Nat.le_of_ble_eq_true rfl) h (fun r σ hq _ => ?_)
      obtain ⟨x4, I4, rfl, rfl, h⟩ := hq
      change J _ _ _ _ _ _ _ [vI x4] _ _
      refine J_goto (tgt := 90) dX11_clash_70 (by decide) ?_
      refine J_istore dX11_clash_90 (by decide) ?_
      refine J_iload dX11_clash_92 rfl ?_
      refine J_iconst dX11_clash_94 (ii_c rfl) ?_
      refine J_ic_eq (tgt := 146) dX11_clash_95 (by decide) (fun c => ?_) (fun c => ?_)
      · replace h := h.1 c
        refine J_iincN dX11_clash_146 rfl (by decide) h.1 ?_
        replace h := h.2
        refine J_goto (tgt := 48) dX11_clash_149 (by decide) ?_
        exact J_loc (ls_sub [0, 1, 2, 3, 4, 5] rfl) h
      · replace h := h.2 c
        refine J_aload_n dX11_clash_98 rfl rfl ?_
        refine J_iload_n dX11_clash_99 rfl rfl ?_
        refine J_iload_n dX11_clash_100 rfl rfl ?_
        refine J_iload dX11_clash_101 rfl ?_
        refine J_iload dX11_clash_103 rfl ?_
        refine J_iload dX11_clash_105 rfl ?_
        refine J_callV (as := [_, _, _, _, _]) (mc1 := 0) (ms1 := 0) (mc := 0) (ms := 0) dX11_clash_107 mv_X11_isExcepted lk_X11_555 sh_489 rfl (Nat.le_of_ble_eq_true rfl) (Nat.le_of_ble_eq_true rfl) h (fun r σ hq _ => ?_)
        obtain ⟨x5, I5, rfl, rfl, h⟩ := hq
        change J _ _ _ _ _ _ _ [vI x5] _ _
        refine J_if_eq (tgt := 116) dX11_clash_110 (by decide) (fun c => ?_) (fun c => ?_)
        · replace h := h.1 c
          refine J_iload_n dX11_clash_116 rfl rfl ?_
          refine J_if_ne (tgt := 124) dX11_clash_117 (by decide) (fun c => ?_) (fun c => ?_)
          · replace h := h.1 c
            refine J_iload_n dX11_clash_124 rfl rfl ?_
            refine J_iconst dX11_clash_125 (ii_c rfl) ?_
            refine J_ic_ne (tgt := 133) dX11_clash_126 (by decide) (fun c => ?_) (fun c => ?_)
            · replace h := h.1 c
              refine J_iload_n dX11_clash_133 rfl rfl ?_
              refine J_iconst dX11_clash_134 (ii_c rfl) ?_
              refine J_ic_ne (tgt := 143) dX11_clash_135 (by decide) (fun c => ?_) (fun c => ?_)
              · replace h := h.1 c
                refine J_iload dX11_clash_143 rfl ?_
                exact J_reti dX11_clash_145 rfl h
              · replace h := h.2 c
                refine J_iload dX11_clash_138 rfl ?_
                refine J_goto (tgt := 145) dX11_clash_140 (by decide) ?_
                exact J_reti dX11_clash_145 rfl h
            · replace h := h.2 c
              refine J_iload_n dX11_clash_129 rfl rfl ?_
              refine J_goto (tgt := 145) dX11_clash_130 (by decide) ?_
              exact J_reti dX11_clash_145 rfl h
          · replace h := h.2 c
            refine J_iload_n dX11_clash_120 rfl rfl ?_
            refine J_goto (tgt := 145) dX11_clash_121 (by decide) ?_
            exact J_reti dX11_clash_145 rfl h
        · replace h := h.2 c
          refine J_goto (tgt := 146) dX11_clash_113 (by decide) ?_
          refine J_iincN dX11_clash_146 rfl (by decide) h.1 ?_
          replace h := h.2
          refine J_goto (tgt := 48) dX11_clash_149 (by decide) ?_
          exact J_loc (ls_sub [0, 1, 2, 3, 4, 5] rfl) h
set_option maxRecDepth 20000 in
set_option maxHeartbeats 2000000 in
theorem bk_X11_clashes_0 {d : Nat} {I : HI} {Q : Option AV → AH → Prop} {a1 : Int}  (h : CI mX11_isIn d [vL a1, vL 0, vL 1] I (fun x1 I1 => ((x1 ≠ 0 → J none mX11_clashes (d + 1) 0 0 16 [(0, vR 489), (1, vI a1), (2, vI 0), (3, vI 0)] [] (mk I1) Q) ∧ (x1 = 0 → Q (some (vI (-1))) (mk I1))))) : J none mX11_clashes (d + 1) 0 0 0 [(0, vR 489), (1, vI a1)] [] (mk I) Q := by
  refine J_iload_n dX11_clashes_0 rfl rfl ?_
  refine J_i2l dX11_clashes_1 ?_
  refine J_lconst 0 dX11_clashes_2 (ll_c rfl) (by decide) ?_
  refine J_lconst 1 dX11_clashes_3 (ll_c rfl) (by decide) ?_
  refine J_callS (as := [_, _, _]) (mc1 := 0) (ms1 := 0) (mc := 0) (ms := 0) dX11_clashes_4 ms_X11_isIn lk_X11_264 rfl (Nat.le_of_ble_eq_true rfl) (Nat.le_of_ble_eq_true rfl) h (fun r σ hq _ => ?_)
  obtain ⟨x1, I1, rfl, rfl, h⟩ := hq
  change J _ _ _ _ _ _ _ [vI x1] _ _
  refine J_if_ne (tgt := 12) dX11_clashes_7 (by decide) (fun c => ?_) (fun c => ?_)
  · replace h := h.1 c
    refine J_iconst dX11_clashes_12 (ii_c rfl) ?_
    refine J_istore_n dX11_clashes_13 rfl (by decide) ?_
    refine J_iconst dX11_clashes_14 (ii_c rfl) ?_
    refine J_istore_n dX11_clashes_15 rfl (by decide) ?_
    exact h
  · replace h := h.2 c
    refine J_iconst dX11_clashes_10 (ii_c rfl) ?_
    exact J_reti dX11_clashes_11 rfl h
set_option maxRecDepth 20000 in
set_option maxHeartbeats 2000000 in
theorem bk_X11_clashes_16 {d : Nat} {I : HI} {Q : Option AV → AH → Prop} {a1 : Int} {a2 : Int} {a3 : Int}  (h : ((999 < a3 → Q (some (vI a2)) (mk I)) ∧ (¬ (999 < a3) → J none mX11_clashes (d + 1) 0 0 26 [(0, vR 489), (1, vI a1), (2, vI a2), (3, vI a3), (4, vI 0)] [] (mk I) Q))) : J none mX11_clashes (d + 1) 0 0 16 [(0, vR 489), (1, vI a1), (2, vI a2), (3, vI a3)] [] (mk I) Q := by
  refine J_iload_n dX11_clashes_16 rfl rfl ?_
  refine J_sipush dX11_clashes_17 (ii_c rfl) (by decide) ?_
  refine J_ic_gt (tgt := 103) dX11_clashes_20 (by decide) (fun c => ?_) (fun c => ?_)
  · replace h := h.1 c
    refine J_iload_n dX11_clashes_103 rfl rfl ?_
    exact J_reti dX11_clashes_104 rfl h
  · replace h := h.2 c
    refine J_iconst dX11_clashes_23 (ii_c rfl) ?_
    refine J_istore dX11_clashes_24 (by decide) ?_
    exact h
set_option maxRecDepth 20000 in
set_option maxHeartbeats 2000000 in
theorem bk_X11_clashes_26 {d : Nat} {I : HI} {Q : Option AV → AH → Prop} {a1 : Int} {a2 : Int} {a3 : Int} {a4 : Int}  (h : CI mX11_saintMany d [vR 489] I (fun x1 I1 => ((x1 ≤ a4 → (-2147483648 ≤ a3 + 1 ∧ a3 + 1 ≤ 2147483647) ∧ J none mX11_clashes (d + 1) 0 0 16 [(0, vR 489), (1, vI a1), (2, vI a2), (3, vI (a3 + 1))] [] (mk I1) Q) ∧ (¬ (x1 ≤ a4) → (-2147483648 ≤ a4 + 1 ∧ a4 + 1 ≤ 2147483647) ∧ J none mX11_clashes (d + 1) 0 0 41 [(0, vR 489), (1, vI a1), (2, vI a2), (3, vI a3), (4, vI a4), (5, vI (a4 + 1))] [] (mk I1) Q)))) : J none mX11_clashes (d + 1) 0 0 26 [(0, vR 489), (1, vI a1), (2, vI a2), (3, vI a3), (4, vI a4)] [] (mk I) Q := by
  refine J_iload dX11_clashes_26 rfl ?_
  refine J_aload_n dX11_clashes_28 rfl rfl ?_
  refine J_callV (as := []) (mc1 := 0) (ms1 := 0) (mc := 0) (ms := 0) dX11_clashes_29 mv_X11_saintMany lk_X11_447 sh_489 rfl (Nat.le_of_ble_eq_true rfl) (Nat.le_of_ble_eq_true rfl) h (fun r σ hq _ => ?_)
  obtain ⟨x1, I1, rfl, rfl, h⟩ := hq
  change J _ _ _ _ _ _ _ [vI x1, vI a4] _ _
  refine J_ic_ge (tgt := 97) dX11_clashes_32 (by decide) (fun c => ?_) (fun c => ?_)
  · replace h := h.1 c
    refine J_iincN dX11_clashes_97 rfl (by decide) h.1 ?_
    replace h := h.2
    refine J_goto (tgt := 16) dX11_clashes_100 (by decide) ?_
    exact J_loc (ls_sub [0, 1, 2, 3] rfl) h
  · replace h := h.2 c
    refine J_iload dX11_clashes_35 rfl ?_
    refine J_iconst dX11_clashes_37 (ii_c rfl) ?_
    refine J_iaddN dX11_clashes_38 h.1 ?_
    replace h := h.2
    refine J_istore dX11_clashes_39 (by decide) ?_
    exact h
set_option maxRecDepth 20000 in
set_option maxHeartbeats 2000000 in
theorem bk_X11_clashes_41 {d : Nat} {I : HI} {Q : Option AV → AH → Prop} {a1 : Int} {a2 : Int} {a3 : Int} {a4 : Int} {a5 : Int}  (h : CI mX11_saintMany d [vR 489] I (fun x1 I1 => ((x1 ≤ a5 → (-2147483648 ≤ a4 + 1 ∧ a4 + 1 ≤ 2147483647) ∧ J none mX11_clashes (d + 1) 0 0 26 [(0, vR 489), (1, vI a1), (2, vI a2), (3, vI a3), (4, vI (a4 + 1))] [] (mk I1) Q) ∧ (¬ (x1 ≤ a5) → ((a1 ≠ 0 → CI mX11_arePetalsIn d [vR 489, vI a4, vI a5, vI a3] I1 (fun x2 I2 => ((x2 = 0 → (-2147483648 ≤ a5 + 1 ∧ a5 + 1 ≤ 2147483647) ∧ J none mX11_clashes (d + 1) 0 0 41 [(0, vR 489), (1, vI a1), (2, vI a2), (3, vI a3), (4, vI a4), (5, vI (a5 + 1))] [] (mk I2) Q) ∧ (¬ (x2 = 0) → (-2147483648 ≤ a2 + 1 ∧ a2 + 1 ≤ 2147483647) ∧ (-2147483648 ≤ a5 + 1 ∧ a5 + 1 ≤ 2147483647) ∧ J none mX11_clashes (d + 1) 0 0 41 [(0, vR 489), (1, vI a1), (2, vI (a2 + 1)), (3, vI a3), (4, vI a4), (5, vI (a5 + 1))] [] (mk I2) Q)))) ∧ (a1 = 0 → CI mX11_drums d [vR 489, vI a4, vI a5, vI a3] I1 (fun x3 I3 => ((x3 = (-1) → (-2147483648 ≤ a5 + 1 ∧ a5 + 1 ≤ 2147483647) ∧ J none mX11_clashes (d + 1) 0 0 41 [(0, vR 489), (1, vI a1), (2, vI a2), (3, vI a3), (4, vI a4), (5, vI (a5 + 1))] [] (mk I3) Q) ∧ (¬ (x3 = (-1)) → (-2147483648 ≤ a2 + 1 ∧ a2 + 1 ≤ 2147483647) ∧ (-2147483648 ≤ a5 + 1 ∧ a5 + 1 ≤ 2147483647) ∧ J none mX11_clashes (d + 1) 0 0 41 [(0, vR 489), (1, vI a1), (2, vI (a2 + 1)), (3, vI a3), (4, vI a4), (5, vI (a5 + 1))] [] (mk I3) Q))))))))) : J none mX11_clashes (d + 1) 0 0 41 [(0, vR 489), (1, vI a1), (2, vI a2), (3, vI a3), (4, vI a4), (5, vI a5)] [] (mk I) Q := by
  refine J_iload dX11_clashes_41 rfl ?_
  refine J_aload_n dX11_clashes_43 rfl rfl ?_
  refine J_callV (as := []) (mc1 := 0) (ms1 := 0) (mc := 0) (ms := 0) dX11_clashes_44 mv_X11_saintMany lk_X11_447 sh_489 rfl (Nat.le_of_ble_eq_true rfl) (Nat.le_of_ble_eq_true rfl) h (fun r σ hq _ => ?_)
  obtain ⟨x1, I1, rfl, rfl, h⟩ := hq
  change J _ _ _ _ _ _ _ [vI x1, vI a5] _ _
  refine J_ic_ge (tgt := 91) dX11_clashes_47 (by decide) (fun c => ?_) (fun c => ?_)
  · replace h := h.1 c
    refine J_iincN dX11_clashes_91 rfl (by decide) h.1 ?_
    replace h := h.2
    refine J_goto (tgt := 26) dX11_clashes_94 (by decide) ?_
    exact J_loc (ls_sub [0, 1, 2, 3, 4] rfl) h
  · replace h := h.2 c
    refine J_iload_n dX11_clashes_50 rfl rfl ?_
    refine J_if_ne (tgt := 70) dX11_clashes_51 (by decide) (fun c => ?_) (fun c => ?_)
    · replace h := h.1 c
      refine J_aload_n dX11_clashes_70 rfl rfl ?_
      refine J_iload dX11_clashes_71 rfl ?_
      refine J_iload dX11_clashes_73 rfl ?_
      refine J_iload_n dX11_clashes_75 rfl rfl ?_
      refine J_callV (as := [_, _, _]) (mc1 := 0) (ms1 := 0) (mc := 0) (ms := 0) dX11_clashes_76 mv_X11_arePetalsIn lk_X11_552 sh_489 rfl (Nat.le_of_ble_eq_true rfl) (Nat.le_of_ble_eq_true rfl) h (fun r σ hq _ => ?_)
      obtain ⟨x2, I2, rfl, rfl, h⟩ := hq
      change J _ _ _ _ _ _ _ [vI x2] _ _
      refine J_if_eq (tgt := 85) dX11_clashes_79 (by decide) (fun c => ?_) (fun c => ?_)
      · replace h := h.1 c
        refine J_iincN dX11_clashes_85 rfl (by decide) h.1 ?_
        replace h := h.2
        refine J_goto (tgt := 41) dX11_clashes_88 (by decide) ?_
        exact h
      · replace h := h.2 c
        refine J_iincN dX11_clashes_82 rfl (by decide) h.1 ?_
        replace h := h.2
        refine J_iincN dX11_clashes_85 rfl (by decide) h.1 ?_
        replace h := h.2
        refine J_goto (tgt := 41) dX11_clashes_88 (by decide) ?_
        exact h
    · replace h := h.2 c
      refine J_aload_n dX11_clashes_54 rfl rfl ?_
      refine J_iload dX11_clashes_55 rfl ?_
      refine J_iload dX11_clashes_57 rfl ?_
      refine J_iload_n dX11_clashes_59 rfl rfl ?_
      refine J_callV (as := [_, _, _]) (mc1 := 0) (ms1 := 0) (mc := 0) (ms := 0) dX11_clashes_60 mv_X11_drums lk_X11_548 sh_489 rfl (Nat.le_of_ble_eq_true rfl) (Nat.le_of_ble_eq_true rfl) h (fun r σ hq _ => ?_)
      obtain ⟨x3, I3, rfl, rfl, h⟩ := hq
      change J _ _ _ _ _ _ _ [vI x3] _ _
      refine J_iconst dX11_clashes_63 (ii_c rfl) ?_
      refine J_ic_eq (tgt := 85) dX11_clashes_64 (by decide) (fun c => ?_) (fun c => ?_)
      · replace h := h.1 c
        refine J_iincN dX11_clashes_85 rfl (by decide) h.1 ?_
        replace h := h.2
        refine J_goto (tgt := 41) dX11_clashes_88 (by decide) ?_
        exact h
      · replace h := h.2 c
        refine J_goto (tgt := 82) dX11_clashes_67 (by decide) ?_
        refine J_iincN dX11_clashes_82 rfl (by decide) h.1 ?_
        replace h := h.2
        refine J_iincN dX11_clashes_85 rfl (by decide) h.1 ?_
        replace h := h.2
        refine J_goto (tgt := 41) dX11_clashes_88 (by decide) ?_
        exact h
set_option maxRecDepth 20000 in
set_option maxHeartbeats 2000000 in
theorem bk_X11_meet_0 {d : Nat} {I : HI} {Q : Option AV → AH → Prop} {a1 : Int} {a2 : Int}  (h : CI mX11_isSaint d [vR 489, vI a1] I (fun x1 I1 => ((x1 = 0 → Q (some (vI (-1))) (mk I1)) ∧ (¬ (x1 = 0) → CI mX11_isSaint d [vR 489, vI a2] I1 (fun x2 I2 => ((x2 = 0 → Q (some (vI (-1))) (mk I2)) ∧ (¬ (x2 = 0) → ((a1 ≠ a2 → J none mX11_meet (d + 1) 0 0 25 [(0, vR 489), (1, vI a1), (2, vI a2), (3, vI 0)] [] (mk I2) Q) ∧ (a1 = a2 → Q (some (vI (-1))) (mk I2)))))))))) : J none mX11_meet (d + 1) 0 0 0 [(0, vR 489), (1, vI a1), (2, vI a2)] [] (mk I) Q := by
  refine J_aload_n dX11_meet_0 rfl rfl ?_
  refine J_iload_n dX11_meet_1 rfl rfl ?_
  refine J_callV (as := [_]) (mc1 := 0) (ms1 := 0) (mc := 0) (ms := 0) dX11_meet_2 mv_X11_isSaint lk_X11_481 sh_489 rfl (Nat.le_of_ble_eq_true rfl) (Nat.le_of_ble_eq_true rfl) h (fun r σ hq _ => ?_)
  obtain ⟨x1, I1, rfl, rfl, h⟩ := hq
  change J _ _ _ _ _ _ _ [vI x1] _ _
  refine J_if_eq (tgt := 21) dX11_meet_5 (by decide) (fun c => ?_) (fun c => ?_)
  · replace h := h.1 c
    refine J_iconst dX11_meet_21 (ii_c rfl) ?_
    exact J_reti dX11_meet_22 rfl h
  · replace h := h.2 c
    refine J_aload_n dX11_meet_8 rfl rfl ?_
    refine J_iload_n dX11_meet_9 rfl rfl ?_
    refine J_callV (as := [_]) (mc1 := 0) (ms1 := 0) (mc := 0) (ms := 0) dX11_meet_10 mv_X11_isSaint lk_X11_481 sh_489 rfl (Nat.le_of_ble_eq_true rfl) (Nat.le_of_ble_eq_true rfl) h (fun r σ hq _ => ?_)
    obtain ⟨x2, I2, rfl, rfl, h⟩ := hq
    change J _ _ _ _ _ _ _ [vI x2] _ _
    refine J_if_eq (tgt := 21) dX11_meet_13 (by decide) (fun c => ?_) (fun c => ?_)
    · replace h := h.1 c
      refine J_iconst dX11_meet_21 (ii_c rfl) ?_
      exact J_reti dX11_meet_22 rfl h
    · replace h := h.2 c
      refine J_iload_n dX11_meet_16 rfl rfl ?_
      refine J_iload_n dX11_meet_17 rfl rfl ?_
      refine J_ic_ne (tgt := 23) dX11_meet_18 (by decide) (fun c => ?_) (fun c => ?_)
      · replace h := h.1 c
        refine J_iconst dX11_meet_23 (ii_c rfl) ?_
        refine J_istore_n dX11_meet_24 rfl (by decide) ?_
        exact h
      · replace h := h.2 c
        refine J_iconst dX11_meet_21 (ii_c rfl) ?_
        exact J_reti dX11_meet_22 rfl h
set_option maxRecDepth 20000 in
set_option maxHeartbeats 2000000 in
theorem bk_X11_meet_25 {d : Nat} {I : HI} {Q : Option AV → AH → Prop} {a1 : Int} {a2 : Int} {a3 : Int}  (h : ((999 < a3 → Q (some (vI (-1))) (mk I)) ∧ (¬ (999 < a3) → CI mX11_drums d [vR 489, vI a1, vI a2, vI a3] I (fun x1 I1 => ((x1 ≠ (-1) → Q (some (vI a3)) (mk I1)) ∧ (x1 = (-1) → CI mX11_arePetalsIn d [vR 489, vI a1, vI a2, vI a3] I1 (fun x2 I2 => ((x2 = 0 → (-2147483648 ≤ a3 + 1 ∧ a3 + 1 ≤ 2147483647) ∧ J none mX11_meet (d + 1) 0 0 25 [(0, vR 489), (1, vI a1), (2, vI a2), (3, vI (a3 + 1))] [] (mk I2) Q) ∧ (¬ (x2 = 0) → Q (some (vI a3)) (mk I2)))))))))) : J none mX11_meet (d + 1) 0 0 25 [(0, vR 489), (1, vI a1), (2, vI a2), (3, vI a3)] [] (mk I) Q := by
  refine J_iload_n dX11_meet_25 rfl rfl ?_
  refine J_sipush dX11_meet_26 (ii_c rfl) (by decide) ?_
  refine J_ic_gt (tgt := 61) dX11_meet_29 (by decide) (fun c => ?_) (fun c => ?_)
  · replace h := h.1 c
    refine J_iconst dX11_meet_61 (ii_c rfl) ?_
    exact J_reti dX11_meet_62 rfl h
  · replace h := h.2 c
    refine J_aload_n dX11_meet_32 rfl rfl ?_
    refine J_iload_n dX11_meet_33 rfl rfl ?_
    refine J_iload_n dX11_meet_34 rfl rfl ?_
    refine J_iload_n dX11_meet_35 rfl rfl ?_
    refine J_callV (as := [_, _, _]) (mc1 := 0) (ms1 := 0) (mc := 0) (ms := 0) dX11_meet_36 mv_X11_drums lk_X11_548 sh_489 rfl (Nat.le_of_ble_eq_true rfl) (Nat.le_of_ble_eq_true rfl) h (fun r σ hq _ => ?_)
    obtain ⟨x1, I1, rfl, rfl, h⟩ := hq
    change J _ _ _ _ _ _ _ [vI x1] _ _
    refine J_iconst dX11_meet_39 (ii_c rfl) ?_
    refine J_ic_ne (tgt := 53) dX11_meet_40 (by decide) (fun c => ?_) (fun c => ?_)
    · replace h := h.1 c
      refine J_iload_n dX11_meet_53 rfl rfl ?_
      exact J_reti dX11_meet_54 rfl h
    · replace h := h.2 c
      refine J_aload_n dX11_meet_43 rfl rfl ?_
      refine J_iload_n dX11_meet_44 rfl rfl ?_
      refine J_iload_n dX11_meet_45 rfl rfl ?_
      refine J_iload_n dX11_meet_46 rfl rfl ?_
      refine J_callV (as := [_, _, _]) (mc1 := 0) (ms1 := 0) (mc := 0) (ms := 0) dX11_meet_47 mv_X11_arePetalsIn lk_X11_552 sh_489 rfl (Nat.le_of_ble_eq_true rfl) (Nat.le_of_ble_eq_true rfl) h (fun r σ hq _ => ?_)
      obtain ⟨x2, I2, rfl, rfl, h⟩ := hq
      change J _ _ _ _ _ _ _ [vI x2] _ _
      refine J_if_eq (tgt := 55) dX11_meet_50 (by decide) (fun c => ?_) (fun c => ?_)
      · replace h := h.1 c
        refine J_iincN dX11_meet_55 rfl (by decide) h.1 ?_
        replace h := h.2
        refine J_goto (tgt := 25) dX11_meet_58 (by decide) ?_
        exact h
      · replace h := h.2 c
        refine J_iload_n dX11_meet_53 rfl rfl ?_
        exact J_reti dX11_meet_54 rfl h
set_option maxRecDepth 20000 in
set_option maxHeartbeats 2000000 in
theorem bk_X11_isPleased_0 {d : Nat} {I : HI} {Q : Option AV → AH → Prop} {a1 : Int}  (h : (-2147483648 ≤ 4 * a1 ∧ 4 * a1 ≤ 2147483647) ∧ (-2147483648 ≤ 40 + (4 * a1) ∧ 40 + (4 * a1) ≤ 2147483647) ∧ J none mX11_isPleased (d + 1) 0 0 9 [(0, vR 489), (1, vI a1), (2, vI (40 + (4 * a1))), (3, vI 0)] [] (mk I) Q) : J none mX11_isPleased (d + 1) 0 0 0 [(0, vR 489), (1, vI a1)] [] (mk I) Q := by
  refine J_bipush dX11_isPleased_0 (ii_c rfl) (by decide) ?_
  refine J_iconst dX11_isPleased_2 (ii_c rfl) ?_
  refine J_iload_n dX11_isPleased_3 rfl rfl ?_
  refine J_imulN dX11_isPleased_4 h.1 ?_
  replace h := h.2
  refine J_iaddN dX11_isPleased_5 h.1 ?_
  replace h := h.2
  refine J_istore_n dX11_isPleased_6 rfl (by decide) ?_
  refine J_iconst dX11_isPleased_7 (ii_c rfl) ?_
  refine J_istore_n dX11_isPleased_8 rfl (by decide) ?_
  exact h
set_option maxRecDepth 20000 in
set_option maxHeartbeats 2000000 in
theorem bk_X11_isPleased_9 {d : Nat} {I : HI} {Q : Option AV → AH → Prop} {a1 : Int} {a2 : Int} {a3 : Int}  (h : CI mX11_saintMany d [vR 489] I (fun x1 I1 => ((x1 ≤ a3 → Q (some (vI 0)) (mk I1)) ∧ (¬ (x1 ≤ a3) → ((0 : Int) ≤ a3 ∧ (a3 : Int) < 244) ∧ (((I1 532 a3.toNat) ≤ 0 → (-2147483648 ≤ 24 * a3 ∧ 24 * a3 ≤ 2147483647) ∧ J none mX11_isPleased (d + 1) 0 0 59 [(0, vR 489), (1, vI a1), (2, vI a2), (3, vI a3), (4, vI (24 * a3))] [] (mk I1) Q) ∧ (¬ ((I1 532 a3.toNat) ≤ 0) → CI mX11_homeOf d [vR 489, vI a3] I1 (fun x2 I2 => ((0 : Int) ≤ a2 ∧ (a2 : Int) < 80) ∧ ((x2 ≠ (I2 523 a2.toNat) → (-2147483648 ≤ 24 * a3 ∧ 24 * a3 ≤ 2147483647) ∧ J none mX11_isPleased (d + 1) 0 0 59 [(0, vR 489), (1, vI a1), (2, vI a2), (3, vI a3), (4, vI (24 * a3))] [] (mk I2) Q) ∧ (x2 = (I2 523 a2.toNat) → (-2147483648 ≤ a2 + 1 ∧ a2 + 1 ≤ 2147483647) ∧ ((0 : Int) ≤ (a2 + 1) ∧ (a2 + 1 : Int) < 80) ∧ (((I2 523 (a2 + 1).toNat) ≠ 0 → (-2147483648 ≤ 24 * a3 ∧ 24 * a3 ≤ 2147483647) ∧ J none mX11_isPleased (d + 1) 0 0 59 [(0, vR 489), (1, vI a1), (2, vI a2), (3, vI a3), (4, vI (24 * a3))] [] (mk I2) Q) ∧ ((I2 523 (a2 + 1).toNat) = 0 → Q (some (vI 1)) (mk I2)))))))))))) : J none mX11_isPleased (d + 1) 0 0 9 [(0, vR 489), (1, vI a1), (2, vI a2), (3, vI a3)] [] (mk I) Q := by
  refine J_iload_n dX11_isPleased_9 rfl rfl ?_
  refine J_aload_n dX11_isPleased_10 rfl rfl ?_
  refine J_callV (as := []) (mc1 := 0) (ms1 := 0) (mc := 0) (ms := 0) dX11_isPleased_11 mv_X11_saintMany lk_X11_447 sh_489 rfl (Nat.le_of_ble_eq_true rfl) (Nat.le_of_ble_eq_true rfl) h (fun r σ hq _ => ?_)
  obtain ⟨x1, I1, rfl, rfl, h⟩ := hq
  change J _ _ _ _ _ _ _ [vI x1, vI a3] _ _
  refine J_ic_ge (tgt := 148) dX11_isPleased_14 (by decide) (fun c => ?_) (fun c => ?_)
  · replace h := h.1 c
    refine J_iconst dX11_isPleased_148 (ii_c rfl) ?_
    exact J_retz dX11_isPleased_149 rfl (Or.inl rfl) h
  · replace h := h.2 c
    refine J_aload_n dX11_isPleased_17 rfl rfl ?_
    refine J_getR dX11_isPleased_18 ck_11 fw_X11_145 rfl sh_489 rr_489_59 ?_
    refine J_iload_n dX11_isPleased_21 rfl rfl ?_
    refine J_iald dX11_isPleased_22 sh_532 h.1.1 h.1.2 ?_
    replace h := h.2
    refine J_if_le (tgt := 53) dX11_isPleased_23 (by decide) (fun c => ?_) (fun c => ?_)
    · replace h := h.1 c
      refine J_bipush dX11_isPleased_53 (ii_c rfl) (by decide) ?_
      refine J_iload_n dX11_isPleased_55 rfl rfl ?_
      refine J_imulN dX11_isPleased_56 h.1 ?_
      replace h := h.2
      refine J_istore dX11_isPleased_57 (by decide) ?_
      exact h
    · replace h := h.2 c
      refine J_aload_n dX11_isPleased_26 rfl rfl ?_
      refine J_iload_n dX11_isPleased_27 rfl rfl ?_
      refine J_callV (as := [_]) (mc1 := 0) (ms1 := 0) (mc := 0) (ms := 0) dX11_isPleased_28 mv_X11_homeOf lk_X11_456 sh_489 rfl (Nat.le_of_ble_eq_true rfl) (Nat.le_of_ble_eq_true rfl) h (fun r σ hq _ => ?_)
      obtain ⟨x2, I2, rfl, rfl, h⟩ := hq
      change J _ _ _ _ _ _ _ [vI x2] _ _
      refine J_aload_n dX11_isPleased_31 rfl rfl ?_
      refine J_getR dX11_isPleased_32 ck_11 fw_X11_115 rfl sh_489 rr_489_42 ?_
      refine J_iload_n dX11_isPleased_35 rfl rfl ?_
      refine J_iald dX11_isPleased_36 sh_523 h.1.1 h.1.2 ?_
      replace h := h.2
      refine J_ic_ne (tgt := 53) dX11_isPleased_37 (by decide) (fun c => ?_) (fun c => ?_)
      · replace h := h.1 c
        refine J_bipush dX11_isPleased_53 (ii_c rfl) (by decide) ?_
        refine J_iload_n dX11_isPleased_55 rfl rfl ?_
        refine J_imulN dX11_isPleased_56 h.1 ?_
        replace h := h.2
        refine J_istore dX11_isPleased_57 (by decide) ?_
        exact h
      · replace h := h.2 c
        refine J_aload_n dX11_isPleased_40 rfl rfl ?_
        refine J_getR dX11_isPleased_41 ck_11 fw_X11_115 rfl sh_489 rr_489_42 ?_
        refine J_iload_n dX11_isPleased_44 rfl rfl ?_
        refine J_iconst dX11_isPleased_45 (ii_c rfl) ?_
        refine J_iaddN dX11_isPleased_46 h.1 ?_
        replace h := h.2
        refine J_iald dX11_isPleased_47 sh_523 h.1.1 h.1.2 ?_
        replace h := h.2
        refine J_if_ne (tgt := 53) dX11_isPleased_48 (by decide) (fun c => ?_) (fun c => ?_)
        · replace h := h.1 c
          refine J_bipush dX11_isPleased_53 (ii_c rfl) (by decide) ?_
          refine J_iload_n dX11_isPleased_55 rfl rfl ?_
          refine J_imulN dX11_isPleased_56 h.1 ?_
          replace h := h.2
          refine J_istore dX11_isPleased_57 (by decide) ?_
          exact h
        · replace h := h.2 c
          refine J_iconst dX11_isPleased_51 (ii_c rfl) ?_
          exact J_retz dX11_isPleased_52 rfl (Or.inr rfl) h
set_option maxRecDepth 20000 in
set_option maxHeartbeats 2000000 in
theorem bk_X11_isPleased_59 {d : Nat} {I : HI} {Q : Option AV → AH → Prop} {a1 : Int} {a2 : Int} {a3 : Int} {a4 : Int}  (h : (-2147483648 ≤ 24 * a3 ∧ 24 * a3 ≤ 2147483647) ∧ ((0 : Int) ≤ a3 ∧ (a3 : Int) < 244) ∧ (-2147483648 ≤ (24 * a3) + (I 532 a3.toNat) ∧ (24 * a3) + (I 532 a3.toNat) ≤ 2147483647) ∧ ((((24 * a3) + (I 532 a3.toNat)) ≤ a4 → (-2147483648 ≤ a3 + 1 ∧ a3 + 1 ≤ 2147483647) ∧ J none mX11_isPleased (d + 1) 0 0 9 [(0, vR 489), (1, vI a1), (2, vI a2), (3, vI (a3 + 1))] [] (mk I) Q) ∧ (¬ (((24 * a3) + (I 532 a3.toNat)) ≤ a4) → ((0 : Int) ≤ a4 ∧ (a4 : Int) < 5856) ∧ (((I 534 a4.toNat) = (-1) → (-2147483648 ≤ a4 + 1 ∧ a4 + 1 ≤ 2147483647) ∧ J none mX11_isPleased (d + 1) 0 0 59 [(0, vR 489), (1, vI a1), (2, vI a2), (3, vI a3), (4, vI (a4 + 1))] [] (mk I) Q) ∧ (¬ ((I 534 a4.toNat) = (-1)) → ((0 : Int) ≤ a4 ∧ (a4 : Int) < 5856) ∧ ((0 : Int) ≤ a2 ∧ (a2 : Int) < 80) ∧ (((I 533 a4.toNat) ≠ (I 523 a2.toNat) → (-2147483648 ≤ a4 + 1 ∧ a4 + 1 ≤ 2147483647) ∧ J none mX11_isPleased (d + 1) 0 0 59 [(0, vR 489), (1, vI a1), (2, vI a2), (3, vI a3), (4, vI (a4 + 1))] [] (mk I) Q) ∧ ((I 533 a4.toNat) = (I 523 a2.toNat) → ((0 : Int) ≤ a4 ∧ (a4 : Int) < 5856) ∧ (-2147483648 ≤ a2 + 1 ∧ a2 + 1 ≤ 2147483647) ∧ ((0 : Int) ≤ (a2 + 1) ∧ (a2 + 1 : Int) < 80) ∧ (-2147483648 ≤ a2 + 2 ∧ a2 + 2 ≤ 2147483647) ∧ ((0 : Int) ≤ (a2 + 2) ∧ (a2 + 2 : Int) < 80) ∧ CI mX11_isIn d [vL (I 535 a4.toNat), vL (I 523 (a2 + 1).toNat), vL (I 523 (a2 + 2).toNat)] I (fun x1 I1 => ((x1 = 0 → (-2147483648 ≤ a4 + 1 ∧ a4 + 1 ≤ 2147483647) ∧ J none mX11_isPleased (d + 1) 0 0 59 [(0, vR 489), (1, vI a1), (2, vI a2), (3, vI a3), (4, vI (a4 + 1))] [] (mk I1) Q) ∧ (¬ (x1 = 0) → Q (some (vI 1)) (mk I1))))))))))) : J none mX11_isPleased (d + 1) 0 0 59 [(0, vR 489), (1, vI a1), (2, vI a2), (3, vI a3), (4, vI a4)] [] (mk I) Q := by
  refine J_iload dX11_isPleased_59 rfl ?_
  refine J_bipush dX11_isPleased_61 (ii_c rfl) (by decide) ?_
  refine J_iload_n dX11_isPleased_63 rfl rfl ?_
  refine J_imulN dX11_isPleased_64 h.1 ?_
  replace h := h.2
  refine J_aload_n dX11_isPleased_65 rfl rfl ?_
  refine J_getR dX11_isPleased_66 ck_11 fw_X11_145 rfl sh_489 rr_489_59 ?_
  refine J_iload_n dX11_isPleased_69 rfl rfl ?_
  refine J_iald dX11_isPleased_70 sh_532 h.1.1 h.1.2 ?_
  replace h := h.2
  refine J_iaddN dX11_isPleased_71 h.1 ?_
  replace h := h.2
  refine J_ic_ge (tgt := 142) dX11_isPleased_72 (by decide) (fun c => ?_) (fun c => ?_)
  · replace h := h.1 c
    refine J_iincN dX11_isPleased_142 rfl (by decide) h.1 ?_
    replace h := h.2
    refine J_goto (tgt := 9) dX11_isPleased_145 (by decide) ?_
    exact J_loc (ls_sub [0, 1, 2, 3] rfl) h
  · replace h := h.2 c
    refine J_aload_n dX11_isPleased_75 rfl rfl ?_
    refine J_getR dX11_isPleased_76 ck_11 fw_X11_151 rfl sh_489 rr_489_61 ?_
    refine J_iload dX11_isPleased_79 rfl ?_
    refine J_iald dX11_isPleased_81 sh_534 h.1.1 h.1.2 ?_
    replace h := h.2
    refine J_iconst dX11_isPleased_82 (ii_c rfl) ?_
    refine J_ic_eq (tgt := 136) dX11_isPleased_83 (by decide) (fun c => ?_) (fun c => ?_)
    · replace h := h.1 c
      refine J_iincN dX11_isPleased_136 rfl (by decide) h.1 ?_
      replace h := h.2
      refine J_goto (tgt := 59) dX11_isPleased_139 (by decide) ?_
      exact h
    · replace h := h.2 c
      refine J_aload_n dX11_isPleased_86 rfl rfl ?_
      refine J_getR dX11_isPleased_87 ck_11 fw_X11_148 rfl sh_489 rr_489_60 ?_
      refine J_iload dX11_isPleased_90 rfl ?_
      refine J_iald dX11_isPleased_92 sh_533 h.1.1 h.1.2 ?_
      replace h := h.2
      refine J_aload_n dX11_isPleased_93 rfl rfl ?_
      refine J_getR dX11_isPleased_94 ck_11 fw_X11_115 rfl sh_489 rr_489_42 ?_
      refine J_iload_n dX11_isPleased_97 rfl rfl ?_
      refine J_iald dX11_isPleased_98 sh_523 h.1.1 h.1.2 ?_
      replace h := h.2
      refine J_ic_ne (tgt := 136) dX11_isPleased_99 (by decide) (fun c => ?_) (fun c => ?_)
      · replace h := h.1 c
        refine J_iincN dX11_isPleased_136 rfl (by decide) h.1 ?_
        replace h := h.2
        refine J_goto (tgt := 59) dX11_isPleased_139 (by decide) ?_
        exact h
      · replace h := h.2 c
        refine J_aload_n dX11_isPleased_102 rfl rfl ?_
        refine J_getR dX11_isPleased_103 ck_11 fw_X11_154 rfl sh_489 rr_489_62 ?_
        refine J_iload dX11_isPleased_106 rfl ?_
        refine J_iald dX11_isPleased_108 sh_535 h.1.1 h.1.2 ?_
        replace h := h.2
        refine J_i2l dX11_isPleased_109 ?_
        refine J_aload_n dX11_isPleased_110 rfl rfl ?_
        refine J_getR dX11_isPleased_111 ck_11 fw_X11_115 rfl sh_489 rr_489_42 ?_
        refine J_iload_n dX11_isPleased_114 rfl rfl ?_
        refine J_iconst dX11_isPleased_115 (ii_c rfl) ?_
        refine J_iaddN dX11_isPleased_116 h.1 ?_
        replace h := h.2
        refine J_iald dX11_isPleased_117 sh_523 h.1.1 h.1.2 ?_
        replace h := h.2
        refine J_i2l dX11_isPleased_118 ?_
        refine J_aload_n dX11_isPleased_119 rfl rfl ?_
        refine J_getR dX11_isPleased_120 ck_11 fw_X11_115 rfl sh_489 rr_489_42 ?_
        refine J_iload_n dX11_isPleased_123 rfl rfl ?_
        refine J_iconst dX11_isPleased_124 (ii_c rfl) ?_
        refine J_iaddN dX11_isPleased_125 h.1 ?_
        replace h := h.2
        refine J_iald dX11_isPleased_126 sh_523 h.1.1 h.1.2 ?_
        replace h := h.2
        refine J_i2l dX11_isPleased_127 ?_
        refine J_callS (as := [_, _, _]) (mc1 := 0) (ms1 := 0) (mc := 0) (ms := 0) dX11_isPleased_128 ms_X11_isIn lk_X11_264 rfl (Nat.le_of_ble_eq_true rfl) (Nat.le_of_ble_eq_true rfl) h (fun r σ hq _ => ?_)
        obtain ⟨x1, I1, rfl, rfl, h⟩ := hq
        change J _ _ _ _ _ _ _ [vI x1] _ _
        refine J_if_eq (tgt := 136) dX11_isPleased_131 (by decide) (fun c => ?_) (fun c => ?_)
        · replace h := h.1 c
          refine J_iincN dX11_isPleased_136 rfl (by decide) h.1 ?_
          replace h := h.2
          refine J_goto (tgt := 59) dX11_isPleased_139 (by decide) ?_
          exact h
        · replace h := h.2 c
          refine J_iconst dX11_isPleased_134 (ii_c rfl) ?_
          exact J_retz dX11_isPleased_135 rfl (Or.inr rfl) h
set_option maxRecDepth 20000 in
set_option maxHeartbeats 2000000 in
theorem bk_X11_pleased_0 {d : Nat} {I : HI} {Q : Option AV → AH → Prop}   (h : J none mX11_pleased (d + 1) 0 0 4 [(0, vR 489), (1, vI 0), (2, vI 0)] [] (mk I) Q) : J none mX11_pleased (d + 1) 0 0 0 [(0, vR 489)] [] (mk I) Q := by
  refine J_iconst dX11_pleased_0 (ii_c rfl) ?_
  refine J_istore_n dX11_pleased_1 rfl (by decide) ?_
  refine J_iconst dX11_pleased_2 (ii_c rfl) ?_
  refine J_istore_n dX11_pleased_3 rfl (by decide) ?_
  exact h
set_option maxRecDepth 20000 in
set_option maxHeartbeats 2000000 in
theorem bk_X11_pleased_4 {d : Nat} {I : HI} {Q : Option AV → AH → Prop} {a1 : Int} {a2 : Int}  (h : (((I 518 8) ≤ a2 → Q (some (vI a1)) (mk I)) ∧ (¬ ((I 518 8) ≤ a2) → CI mX11_isPleased d [vR 489, vI a2] I (fun x1 I1 => ((x1 = 0 → (-2147483648 ≤ a2 + 1 ∧ a2 + 1 ≤ 2147483647) ∧ J none mX11_pleased (d + 1) 0 0 4 [(0, vR 489), (1, vI a1), (2, vI (a2 + 1))] [] (mk I1) Q) ∧ (¬ (x1 = 0) → (-2147483648 ≤ 4 * a2 ∧ 4 * a2 ≤ 2147483647) ∧ (-2147483648 ≤ 40 + (4 * a2) ∧ 40 + (4 * a2) ≤ 2147483647) ∧ (-2147483648 ≤ (40 + (4 * a2)) + 3 ∧ (40 + (4 * a2)) + 3 ≤ 2147483647) ∧ ((0 : Int) ≤ ((40 + (4 * a2)) + 3) ∧ ((40 + (4 * a2)) + 3 : Int) < 80) ∧ (-2147483648 ≤ a1 + (I1 523 ((40 + (4 * a2)) + 3).toNat) ∧ a1 + (I1 523 ((40 + (4 * a2)) + 3).toNat) ≤ 2147483647) ∧ (-2147483648 ≤ a2 + 1 ∧ a2 + 1 ≤ 2147483647) ∧ J none mX11_pleased (d + 1) 0 0 4 [(0, vR 489), (1, vI (a1 + (I1 523 ((40 + (4 * a2)) + 3).toNat))), (2, vI (a2 + 1))] [] (mk I1) Q)))))) : J none mX11_pleased (d + 1) 0 0 4 [(0, vR 489), (1, vI a1), (2, vI a2)] [] (mk I) Q := by
  refine J_iload_n dX11_pleased_4 rfl rfl ?_
  refine J_aload_n dX11_pleased_5 rfl rfl ?_
  refine J_getR dX11_pleased_6 ck_11 fw_X11_99 rfl sh_489 rr_489_37 ?_
  refine J_bipush dX11_pleased_9 (ii_c rfl) (by decide) ?_
  refine J_iald dX11_pleased_11 sh_518 (by decide) (by decide) ?_
  refine J_ic_ge (tgt := 45) dX11_pleased_12 (by decide) (fun c => ?_) (fun c => ?_)
  · replace h := h.1 c
    refine J_iload_n dX11_pleased_45 rfl rfl ?_
    exact J_reti dX11_pleased_46 rfl h
  · replace h := h.2 c
    refine J_aload_n dX11_pleased_15 rfl rfl ?_
    refine J_iload_n dX11_pleased_16 rfl rfl ?_
    refine J_callV (as := [_]) (mc1 := 0) (ms1 := 0) (mc := 0) (ms := 0) dX11_pleased_17 mv_X11_isPleased lk_X11_559 sh_489 rfl (Nat.le_of_ble_eq_true rfl) (Nat.le_of_ble_eq_true rfl) h (fun r σ hq _ => ?_)
    obtain ⟨x1, I1, rfl, rfl, h⟩ := hq
    change J _ _ _ _ _ _ _ [vI x1] _ _
    refine J_if_eq (tgt := 39) dX11_pleased_20 (by decide) (fun c => ?_) (fun c => ?_)
    · replace h := h.1 c
      refine J_iincN dX11_pleased_39 rfl (by decide) h.1 ?_
      replace h := h.2
      refine J_goto (tgt := 4) dX11_pleased_42 (by decide) ?_
      exact h
    · replace h := h.2 c
      refine J_iload_n dX11_pleased_23 rfl rfl ?_
      refine J_aload_n dX11_pleased_24 rfl rfl ?_
      refine J_getR dX11_pleased_25 ck_11 fw_X11_115 rfl sh_489 rr_489_42 ?_
      refine J_bipush dX11_pleased_28 (ii_c rfl) (by decide) ?_
      refine J_iconst dX11_pleased_30 (ii_c rfl) ?_
      refine J_iload_n dX11_pleased_31 rfl rfl ?_
      refine J_imulN dX11_pleased_32 h.1 ?_
      replace h := h.2
      refine J_iaddN dX11_pleased_33 h.1 ?_
      replace h := h.2
      refine J_iconst dX11_pleased_34 (ii_c rfl) ?_
      refine J_iaddN dX11_pleased_35 h.1 ?_
      replace h := h.2
      refine J_iald dX11_pleased_36 sh_523 h.1.1 h.1.2 ?_
      replace h := h.2
      refine J_iaddN dX11_pleased_37 h.1 ?_
      replace h := h.2
      refine J_istore_n dX11_pleased_38 rfl (by decide) ?_
      refine J_iincN dX11_pleased_39 rfl (by decide) h.1 ?_
      replace h := h.2
      refine J_goto (tgt := 4) dX11_pleased_42 (by decide) ?_
      exact h
set_option maxRecDepth 20000 in
set_option maxHeartbeats 2000000 in
theorem bk_X11_areLawful_0 {d : Nat} {I : HI} {Q : Option AV → AH → Prop} {a1 : Int} {a2 : Int}  (h : ((0 : Int) ≤ a1 ∧ (a1 : Int) < 244) ∧ (((I 532 a1.toNat) = 0 → Q (some (vI 1)) (mk I)) ∧ (¬ ((I 532 a1.toNat) = 0) → ((0 : Int) ≤ a2 ∧ (a2 : Int) < 244) ∧ (((I 532 a2.toNat) ≠ 0 → CI mX11_areQuiet d [vR 489, vI a1, vI a2] I (fun x1 I1 => ((x1 = 0 → Q (some (vI 0)) (mk I1)) ∧ (¬ (x1 = 0) → CI mX11_isOff d [vR 489, vI a1, vI a2] I1 (fun x2 I2 => ((x2 = 0 → Q (some (vI 0)) (mk I2)) ∧ (¬ (x2 = 0) → CI mX11_isOff d [vR 489, vI a2, vI a1] I2 (fun x3 I3 => ((x3 = 0 → Q (some (vI 0)) (mk I3)) ∧ (¬ (x3 = 0) → Q (some (vI 1)) (mk I3))))))))))) ∧ ((I 532 a2.toNat) = 0 → Q (some (vI 1)) (mk I)))))) : J none mX11_areLawful (d + 1) 0 0 0 [(0, vR 489), (1, vI a1), (2, vI a2)] [] (mk I) Q := by
  refine J_aload_n dX11_areLawful_0 rfl rfl ?_
  refine J_getR dX11_areLawful_1 ck_11 fw_X11_145 rfl sh_489 rr_489_59 ?_
  refine J_iload_n dX11_areLawful_4 rfl rfl ?_
  refine J_iald dX11_areLawful_5 sh_532 h.1.1 h.1.2 ?_
  replace h := h.2
  refine J_if_eq (tgt := 18) dX11_areLawful_6 (by decide) (fun c => ?_) (fun c => ?_)
  · replace h := h.1 c
    refine J_iconst dX11_areLawful_18 (ii_c rfl) ?_
    exact J_retz dX11_areLawful_19 rfl (Or.inr rfl) h
  · replace h := h.2 c
    refine J_aload_n dX11_areLawful_9 rfl rfl ?_
    refine J_getR dX11_areLawful_10 ck_11 fw_X11_145 rfl sh_489 rr_489_59 ?_
    refine J_iload_n dX11_areLawful_13 rfl rfl ?_
    refine J_iald dX11_areLawful_14 sh_532 h.1.1 h.1.2 ?_
    replace h := h.2
    refine J_if_ne (tgt := 20) dX11_areLawful_15 (by decide) (fun c => ?_) (fun c => ?_)
    · replace h := h.1 c
      refine J_aload_n dX11_areLawful_20 rfl rfl ?_
      refine J_iload_n dX11_areLawful_21 rfl rfl ?_
      refine J_iload_n dX11_areLawful_22 rfl rfl ?_
      refine J_callV (as := [_, _]) (mc1 := 0) (ms1 := 0) (mc := 0) (ms := 0) dX11_areLawful_23 mv_X11_areQuiet lk_X11_562 sh_489 rfl (Nat.le_of_ble_eq_true rfl) (Nat.le_of_ble_eq_true rfl) h (fun r σ hq _ => ?_)
      obtain ⟨x1, I1, rfl, rfl, h⟩ := hq
      change J _ _ _ _ _ _ _ [vI x1] _ _
      refine J_if_eq (tgt := 51) dX11_areLawful_26 (by decide) (fun c => ?_) (fun c => ?_)
      · replace h := h.1 c
        refine J_iconst dX11_areLawful_51 (ii_c rfl) ?_
        exact J_retz dX11_areLawful_52 rfl (Or.inl rfl) h
      · replace h := h.2 c
        refine J_aload_n dX11_areLawful_29 rfl rfl ?_
        refine J_iload_n dX11_areLawful_30 rfl rfl ?_
        refine J_iload_n dX11_areLawful_31 rfl rfl ?_
        refine J_callV (as := [_, _]) (mc1 := 0) (ms1 := 0) (mc := 0) (ms := 0) dX11_areLawful_32 mv_X11_isOff lk_X11_565 sh_489 rfl (Nat.le_of_ble_eq_true rfl) (Nat.le_of_ble_eq_true rfl) h (fun r σ hq _ => ?_)
        obtain ⟨x2, I2, rfl, rfl, h⟩ := hq
        change J _ _ _ _ _ _ _ [vI x2] _ _
        refine J_if_eq (tgt := 51) dX11_areLawful_35 (by decide) (fun c => ?_) (fun c => ?_)
        · replace h := h.1 c
          refine J_iconst dX11_areLawful_51 (ii_c rfl) ?_
          exact J_retz dX11_areLawful_52 rfl (Or.inl rfl) h
        · replace h := h.2 c
          refine J_aload_n dX11_areLawful_38 rfl rfl ?_
          refine J_iload_n dX11_areLawful_39 rfl rfl ?_
          refine J_iload_n dX11_areLawful_40 rfl rfl ?_
          refine J_callV (as := [_, _]) (mc1 := 0) (ms1 := 0) (mc := 0) (ms := 0) dX11_areLawful_41 mv_X11_isOff lk_X11_565 sh_489 rfl (Nat.le_of_ble_eq_true rfl) (Nat.le_of_ble_eq_true rfl) h (fun r σ hq _ => ?_)
          obtain ⟨x3, I3, rfl, rfl, h⟩ := hq
          change J _ _ _ _ _ _ _ [vI x3] _ _
          refine J_if_eq (tgt := 51) dX11_areLawful_44 (by decide) (fun c => ?_) (fun c => ?_)
          · replace h := h.1 c
            refine J_iconst dX11_areLawful_51 (ii_c rfl) ?_
            exact J_retz dX11_areLawful_52 rfl (Or.inl rfl) h
          · replace h := h.2 c
            refine J_iconst dX11_areLawful_47 (ii_c rfl) ?_
            refine J_goto (tgt := 52) dX11_areLawful_48 (by decide) ?_
            exact J_retz dX11_areLawful_52 rfl (Or.inr rfl) h
    · replace h := h.2 c
      refine J_iconst dX11_areLawful_18 (ii_c rfl) ?_
      exact J_retz dX11_areLawful_19 rfl (Or.inr rfl) h
set_option maxRecDepth 20000 in
set_option maxHeartbeats 2000000 in
theorem bk_X11_greater_0 {d : Nat} {I : HI} {Q : Option AV → AH → Prop} {a0 : Int} {a1 : Int}  (h : ((a0 ≤ a1 → Q (some (vI a1)) (mk I)) ∧ (¬ (a0 ≤ a1) → Q (some (vI a0)) (mk I)))) : J none mX11_greater (d + 1) 0 0 0 [(0, vI a0), (1, vI a1)] [] (mk I) Q := by
  refine J_iload_n dX11_greater_0 rfl rfl ?_
  refine J_iload_n dX11_greater_1 rfl rfl ?_
  refine J_ic_le (tgt := 9) dX11_greater_2 (by decide) (fun c => ?_) (fun c => ?_)
  · replace h := h.1 c
    refine J_iload_n dX11_greater_9 rfl rfl ?_
    exact J_reti dX11_greater_10 rfl h
  · replace h := h.2 c
    refine J_iload_n dX11_greater_5 rfl rfl ?_
    refine J_goto (tgt := 10) dX11_greater_6 (by decide) ?_
    exact J_reti dX11_greater_10 rfl h
set_option maxRecDepth 20000 in
set_option maxHeartbeats 2000000 in
theorem bk_X11_lesser_0 {d : Nat} {I : HI} {Q : Option AV → AH → Prop} {a0 : Int} {a1 : Int}  (h : ((a1 ≤ a0 → Q (some (vI a1)) (mk I)) ∧ (¬ (a1 ≤ a0) → Q (some (vI a0)) (mk I)))) : J none mX11_lesser (d + 1) 0 0 0 [(0, vI a0), (1, vI a1)] [] (mk I) Q := by
  refine J_iload_n dX11_lesser_0 rfl rfl ?_
  refine J_iload_n dX11_lesser_1 rfl rfl ?_
  refine J_ic_ge (tgt := 9) dX11_lesser_2 (by decide) (fun c => ?_) (fun c => ?_)
  · replace h := h.1 c
    refine J_iload_n dX11_lesser_9 rfl rfl ?_
    exact J_reti dX11_lesser_10 rfl h
  · replace h := h.2 c
    refine J_iload_n dX11_lesser_5 rfl rfl ?_
    refine J_goto (tgt := 10) dX11_lesser_6 (by decide) ?_
    exact J_reti dX11_lesser_10 rfl h
set_option maxRecDepth 20000 in
set_option maxHeartbeats 2000000 in
theorem bk_X11_staysTo_0 {d : Nat} {I : HI} {Q : Option AV → AH → Prop} {a1 : Int} {a2 : Int}  (h : ((0 : Int) ≤ a1 ∧ (a1 : Int) < 244) ∧ ((a2 ≠ (I 532 a1.toNat) → (-2147483648 ≤ 24 * a1 ∧ 24 * a1 ≤ 2147483647) ∧ (-2147483648 ≤ (24 * a1) + a2 ∧ (24 * a1) + a2 ≤ 2147483647) ∧ ((0 : Int) ≤ ((24 * a1) + a2) ∧ ((24 * a1) + a2 : Int) < 5856) ∧ (-2147483648 ≤ (I 535 ((24 * a1) + a2).toNat) - 1 ∧ (I 535 ((24 * a1) + a2).toNat) - 1 ≤ 2147483647) ∧ Q (some (vI ((I 535 ((24 * a1) + a2).toNat) - 1))) (mk I)) ∧ (a2 = (I 532 a1.toNat) → CI mX11_endOf d [vR 489, vI a1] I (fun x1 I1 => Q (some (vI x1)) (mk I1))))) : J none mX11_staysTo (d + 1) 0 0 0 [(0, vR 489), (1, vI a1), (2, vI a2)] [] (mk I) Q := by
  refine J_iload_n dX11_staysTo_0 rfl rfl ?_
  refine J_aload_n dX11_staysTo_1 rfl rfl ?_
  refine J_getR dX11_staysTo_2 ck_11 fw_X11_145 rfl sh_489 rr_489_59 ?_
  refine J_iload_n dX11_staysTo_5 rfl rfl ?_
  refine J_iald dX11_staysTo_6 sh_532 h.1.1 h.1.2 ?_
  replace h := h.2
  refine J_ic_ne (tgt := 18) dX11_staysTo_7 (by decide) (fun c => ?_) (fun c => ?_)
  · replace h := h.1 c
    refine J_aload_n dX11_staysTo_18 rfl rfl ?_
    refine J_getR dX11_staysTo_19 ck_11 fw_X11_154 rfl sh_489 rr_489_62 ?_
    refine J_bipush dX11_staysTo_22 (ii_c rfl) (by decide) ?_
    refine J_iload_n dX11_staysTo_24 rfl rfl ?_
    refine J_imulN dX11_staysTo_25 h.1 ?_
    replace h := h.2
    refine J_iload_n dX11_staysTo_26 rfl rfl ?_
    refine J_iaddN dX11_staysTo_27 h.1 ?_
    replace h := h.2
    refine J_iald dX11_staysTo_28 sh_535 h.1.1 h.1.2 ?_
    replace h := h.2
    refine J_iconst dX11_staysTo_29 (ii_c rfl) ?_
    refine J_isubN dX11_staysTo_30 h.1 ?_
    replace h := h.2
    exact J_reti dX11_staysTo_31 rfl h
  · replace h := h.2 c
    refine J_aload_n dX11_staysTo_10 rfl rfl ?_
    refine J_iload_n dX11_staysTo_11 rfl rfl ?_
    refine J_callV (as := [_]) (mc1 := 0) (ms1 := 0) (mc := 0) (ms := 0) dX11_staysTo_12 mv_X11_endOf lk_X11_459 sh_489 rfl (Nat.le_of_ble_eq_true rfl) (Nat.le_of_ble_eq_true rfl) h (fun r σ hq _ => ?_)
    obtain ⟨x1, I1, rfl, rfl, h⟩ := hq
    change J _ _ _ _ _ _ _ [vI x1] _ _
    refine J_goto (tgt := 31) dX11_staysTo_15 (by decide) ?_
    exact J_reti dX11_staysTo_31 rfl h
