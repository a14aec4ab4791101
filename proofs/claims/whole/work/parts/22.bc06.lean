set_option maxRecDepth 20000 in
set_option maxHeartbeats 2000000 in
theorem bk_X7_cut_0 {d : Nat} {I : HI} {Q : Option AV → AH → Prop} {a1 : Int}  (h : J none mX7_cut (d + 1) 0 0 4 [(0, vR 28), (1, vI a1), (2, vI 0), (3, vI 0)] [] (mk I) Q) : J none mX7_cut (d + 1) 0 0 0 [(0, vR 28), (1, vI a1)] [] (mk I) Q := by
  refine J_iconst dX7_cut_0 (ii_c rfl) ?_
  refine J_istore_n dX7_cut_1 rfl (by decide) ?_
  refine J_iconst dX7_cut_2 (ii_c rfl) ?_
  refine J_istore_n dX7_cut_3 rfl (by decide) ?_
  exact h
set_option maxRecDepth 20000 in
set_option maxHeartbeats 2000000 in
theorem bk_X7_cut_4 {d : Nat} {I : HI} {Q : Option AV → AH → Prop} {a1 : Int} {a2 : Int} {a3 : Int}  (h : ((a1 ≤ a3 → ((0 : Int) ≤ a2 ∧ (a2 : Int) < 1601) ∧ (∀ I1 : HI, I1 = up I 29 a2.toNat a1 → ((0 : Int) ≤ a2 ∧ (a2 : Int) < 1601) ∧ (∀ I2 : HI, I2 = up I1 30 a2.toNat a1 → ((0 : Int) ≤ a2 ∧ (a2 : Int) < 1601) ∧ (∀ I3 : HI, I3 = up I2 31 a2.toNat 30 → Q none (mk I3))))) ∧ (¬ (a1 ≤ a3) → (-2147483648 ≤ a3 + 1 ∧ a3 + 1 ≤ 2147483647) ∧ ((0 : Int) ≤ a3 ∧ (a3 : Int) < 1600) ∧ (((I 27 a3.toNat) = 10 → J none mX7_cut (d + 1) 0 0 4 [(0, vR 28), (1, vI a1), (2, vI a2), (3, vI (a3 + 1))] [] (mk I) Q) ∧ (¬ ((I 27 a3.toNat) = 10) → (((I 27 a3.toNat) ≠ 32 → (((I 27 a3.toNat) < 97 → (((I 27 a3.toNat) < 48 → ((0 : Int) ≤ a2 ∧ (a2 : Int) < 1601) ∧ (∀ I4 : HI, I4 = up I 29 a2.toNat a3 → ((0 : Int) ≤ a2 ∧ (a2 : Int) < 1601) ∧ (∀ I5 : HI, I5 = up I4 30 a2.toNat (a3 + 1) → (-2147483648 ≤ a2 + 1 ∧ a2 + 1 ≤ 2147483647) ∧ ((0 : Int) ≤ a2 ∧ (a2 : Int) < 1601) ∧ (∀ I6 : HI, I6 = up I5 31 a2.toNat 29 → J none mX7_cut (d + 1) 0 0 4 [(0, vR 28), (1, vI a1), (2, vI (a2 + 1)), (3, vI (a3 + 1))] [] (mk I6) Q)))) ∧ (¬ ((I 27 a3.toNat) < 48) → ((57 < (I 27 a3.toNat) → ((0 : Int) ≤ a2 ∧ (a2 : Int) < 1601) ∧ (∀ I7 : HI, I7 = up I 29 a2.toNat a3 → ((0 : Int) ≤ a2 ∧ (a2 : Int) < 1601) ∧ (∀ I8 : HI, I8 = up I7 30 a2.toNat (a3 + 1) → (-2147483648 ≤ a2 + 1 ∧ a2 + 1 ≤ 2147483647) ∧ ((0 : Int) ≤ a2 ∧ (a2 : Int) < 1601) ∧ (∀ I9 : HI, I9 = up I8 31 a2.toNat 29 → J none mX7_cut (d + 1) 0 0 4 [(0, vR 28), (1, vI a1), (2, vI (a2 + 1)), (3, vI (a3 + 1))] [] (mk I9) Q)))) ∧ (¬ (57 < (I 27 a3.toNat)) → J none mX7_cut (d + 1) 0 0 117 [(0, vR 28), (1, vI a1), (2, vI a2), (3, vI (a3 + 1)), (4, vI a3), (5, vI (I 27 a3.toNat)), (6, vI 29)] [] (mk I) Q))))) ∧ (¬ ((I 27 a3.toNat) < 97) → ((122 < (I 27 a3.toNat) → (((I 27 a3.toNat) < 48 → ((0 : Int) ≤ a2 ∧ (a2 : Int) < 1601) ∧ (∀ I10 : HI, I10 = up I 29 a2.toNat a3 → ((0 : Int) ≤ a2 ∧ (a2 : Int) < 1601) ∧ (∀ I11 : HI, I11 = up I10 30 a2.toNat (a3 + 1) → (-2147483648 ≤ a2 + 1 ∧ a2 + 1 ≤ 2147483647) ∧ ((0 : Int) ≤ a2 ∧ (a2 : Int) < 1601) ∧ (∀ I12 : HI, I12 = up I11 31 a2.toNat 29 → J none mX7_cut (d + 1) 0 0 4 [(0, vR 28), (1, vI a1), (2, vI (a2 + 1)), (3, vI (a3 + 1))] [] (mk I12) Q)))) ∧ (¬ ((I 27 a3.toNat) < 48) → ((57 < (I 27 a3.toNat) → ((0 : Int) ≤ a2 ∧ (a2 : Int) < 1601) ∧ (∀ I13 : HI, I13 = up I 29 a2.toNat a3 → ((0 : Int) ≤ a2 ∧ (a2 : Int) < 1601) ∧ (∀ I14 : HI, I14 = up I13 30 a2.toNat (a3 + 1) → (-2147483648 ≤ a2 + 1 ∧ a2 + 1 ≤ 2147483647) ∧ ((0 : Int) ≤ a2 ∧ (a2 : Int) < 1601) ∧ (∀ I15 : HI, I15 = up I14 31 a2.toNat 29 → J none mX7_cut (d + 1) 0 0 4 [(0, vR 28), (1, vI a1), (2, vI (a2 + 1)), (3, vI (a3 + 1))] [] (mk I15) Q)))) ∧ (¬ (57 < (I 27 a3.toNat)) → J none mX7_cut (d + 1) 0 0 117 [(0, vR 28), (1, vI a1), (2, vI a2), (3, vI (a3 + 1)), (4, vI a3), (5, vI (I 27 a3.toNat)), (6, vI 29)] [] (mk I) Q))))) ∧ (¬ (122 < (I 27 a3.toNat)) → J none mX7_cut (d + 1) 0 0 58 [(0, vR 28), (1, vI a1), (2, vI a2), (3, vI (a3 + 1)), (4, vI a3), (5, vI (I 27 a3.toNat)), (6, vI 29)] [] (mk I) Q))))) ∧ ((I 27 a3.toNat) = 32 → J none mX7_cut (d + 1) 0 0 4 [(0, vR 28), (1, vI a1), (2, vI a2), (3, vI (a3 + 1))] [] (mk I) Q))))))) : J none mX7_cut (d + 1) 0 0 4 [(0, vR 28), (1, vI a1), (2, vI a2), (3, vI a3)] [] (mk I) Q := by
  refine J_iload_n dX7_cut_4 rfl rfl ?_
  refine J_iload_n dX7_cut_5 rfl rfl ?_
  refine J_ic_ge (tgt := 183) dX7_cut_6 (by decide) (fun c => ?_) (fun c => ?_)
  · replace h := h.1 c
    refine J_aload_n dX7_cut_183 rfl rfl ?_
    refine J_getR dX7_cut_184 ck_7 fw_X7_9 rfl sh_28 rr_28_2 ?_
    refine J_iload_n dX7_cut_187 rfl rfl ?_
    refine J_iload_n dX7_cut_188 rfl rfl ?_
    refine J_iast dX7_cut_189 sh_29 h.1.1 h.1.2 ?_
    replace h := h.2 _ rfl
    refine J_aload_n dX7_cut_190 rfl rfl ?_
    refine J_getR dX7_cut_191 ck_7 fw_X7_15 rfl sh_28 rr_28_3 ?_
    refine J_iload_n dX7_cut_194 rfl rfl ?_
    refine J_iload_n dX7_cut_195 rfl rfl ?_
    refine J_iast dX7_cut_196 sh_30 h.1.1 h.1.2 ?_
    replace h := h.2 _ rfl
    refine J_aload_n dX7_cut_197 rfl rfl ?_
    refine J_getR dX7_cut_198 ck_7 fw_X7_18 rfl sh_28 rr_28_4 ?_
    refine J_iload_n dX7_cut_201 rfl rfl ?_
    refine J_bipush dX7_cut_202 (ii_c rfl) (by decide) ?_
    refine J_iast dX7_cut_204 sh_31 h.1.1 h.1.2 ?_
    replace h := h.2 _ rfl
    exact J_retv dX7_cut_205 rfl h
  · replace h := h.2 c
    refine J_iload_n dX7_cut_9 rfl rfl ?_
    refine J_istore dX7_cut_10 (by decide) ?_
    refine J_aload_n dX7_cut_12 rfl rfl ?_
    refine J_getR dX7_cut_13 ck_7 fw_X7_25 rfl sh_28 rr_28_1 ?_
    refine J_iload_n dX7_cut_16 rfl rfl ?_
    refine J_iincN dX7_cut_17 rfl (by decide) h.1 ?_
    replace h := h.2
    refine J_iald dX7_cut_20 sh_27 h.1.1 h.1.2 ?_
    replace h := h.2
    refine J_istore dX7_cut_21 (by decide) ?_
    refine J_iload dX7_cut_23 rfl ?_
    refine J_bipush dX7_cut_25 (ii_c rfl) (by decide) ?_
    refine J_ic_eq (tgt := 4) dX7_cut_27 (by decide) (fun c => ?_) (fun c => ?_)
    · replace h := h.1 c
      exact J_loc (ls_sub [0, 1, 2, 3] rfl) h
    · replace h := h.2 c
      refine J_iload dX7_cut_30 rfl ?_
      refine J_bipush dX7_cut_32 (ii_c rfl) (by decide) ?_
      refine J_ic_ne (tgt := 40) dX7_cut_34 (by decide) (fun c => ?_) (fun c => ?_)
      · replace h := h.1 c
        refine J_bipush dX7_cut_40 (ii_c rfl) (by decide) ?_
        refine J_istore dX7_cut_42 (by decide) ?_
        refine J_iload dX7_cut_44 rfl ?_
        refine J_bipush dX7_cut_46 (ii_c rfl) (by decide) ?_
        refine J_ic_lt (tgt := 103) dX7_cut_48 (by decide) (fun c => ?_) (fun c => ?_)
        · replace h := h.1 c
          refine J_iload dX7_cut_103 rfl ?_
          refine J_bipush dX7_cut_105 (ii_c rfl) (by decide) ?_
          refine J_ic_lt (tgt := 154) dX7_cut_107 (by decide) (fun c => ?_) (fun c => ?_)
          · replace h := h.1 c
            refine J_aload_n dX7_cut_154 rfl rfl ?_
            refine J_getR dX7_cut_155 ck_7 fw_X7_9 rfl sh_28 rr_28_2 ?_
            refine J_iload_n dX7_cut_158 rfl rfl ?_
            refine J_iload dX7_cut_159 rfl ?_
            refine J_iast dX7_cut_161 sh_29 h.1.1 h.1.2 ?_
            replace h := h.2 _ rfl
            refine J_aload_n dX7_cut_162 rfl rfl ?_
            refine J_getR dX7_cut_163 ck_7 fw_X7_15 rfl sh_28 rr_28_3 ?_
            refine J_iload_n dX7_cut_166 rfl rfl ?_
            refine J_iload_n dX7_cut_167 rfl rfl ?_
            refine J_iast dX7_cut_168 sh_30 h.1.1 h.1.2 ?_
            replace h := h.2 _ rfl
            refine J_aload_n dX7_cut_169 rfl rfl ?_
            refine J_getR dX7_cut_170 ck_7 fw_X7_18 rfl sh_28 rr_28_4 ?_
            refine J_iload_n dX7_cut_173 rfl rfl ?_
            refine J_iincN dX7_cut_174 rfl (by decide) h.1 ?_
            replace h := h.2
            refine J_iload dX7_cut_177 rfl ?_
            refine J_iast dX7_cut_179 sh_31 h.1.1 h.1.2 ?_
            replace h := h.2 _ rfl
            refine J_goto (tgt := 4) dX7_cut_180 (by decide) ?_
            exact J_loc (ls_sub [0, 1, 2, 3] rfl) h
          · replace h := h.2 c
            refine J_iload dX7_cut_110 rfl ?_
            refine J_bipush dX7_cut_112 (ii_c rfl) (by decide) ?_
            refine J_ic_gt (tgt := 154) dX7_cut_114 (by decide) (fun c => ?_) (fun c => ?_)
            · replace h := h.1 c
              refine J_aload_n dX7_cut_154 rfl rfl ?_
              refine J_getR dX7_cut_155 ck_7 fw_X7_9 rfl sh_28 rr_28_2 ?_
              refine J_iload_n dX7_cut_158 rfl rfl ?_
              refine J_iload dX7_cut_159 rfl ?_
              refine J_iast dX7_cut_161 sh_29 h.1.1 h.1.2 ?_
              replace h := h.2 _ rfl
              refine J_aload_n dX7_cut_162 rfl rfl ?_
              refine J_getR dX7_cut_163 ck_7 fw_X7_15 rfl sh_28 rr_28_3 ?_
              refine J_iload_n dX7_cut_166 rfl rfl ?_
              refine J_iload_n dX7_cut_167 rfl rfl ?_
              refine J_iast dX7_cut_168 sh_30 h.1.1 h.1.2 ?_
              replace h := h.2 _ rfl
              refine J_aload_n dX7_cut_169 rfl rfl ?_
              refine J_getR dX7_cut_170 ck_7 fw_X7_18 rfl sh_28 rr_28_4 ?_
              refine J_iload_n dX7_cut_173 rfl rfl ?_
              refine J_iincN dX7_cut_174 rfl (by decide) h.1 ?_
              replace h := h.2
              refine J_iload dX7_cut_177 rfl ?_
              refine J_iast dX7_cut_179 sh_31 h.1.1 h.1.2 ?_
              replace h := h.2 _ rfl
              refine J_goto (tgt := 4) dX7_cut_180 (by decide) ?_
              exact J_loc (ls_sub [0, 1, 2, 3] rfl) h
            · replace h := h.2 c
              exact h
        · replace h := h.2 c
          refine J_iload dX7_cut_51 rfl ?_
          refine J_bipush dX7_cut_53 (ii_c rfl) (by decide) ?_
          refine J_ic_gt (tgt := 103) dX7_cut_55 (by decide) (fun c => ?_) (fun c => ?_)
          · replace h := h.1 c
            refine J_iload dX7_cut_103 rfl ?_
            refine J_bipush dX7_cut_105 (ii_c rfl) (by decide) ?_
            refine J_ic_lt (tgt := 154) dX7_cut_107 (by decide) (fun c => ?_) (fun c => ?_)
            · replace h := h.1 c
              refine J_aload_n dX7_cut_154 rfl rfl ?_
              refine J_getR dX7_cut_155 ck_7 fw_X7_9 rfl sh_28 rr_28_2 ?_
              refine J_iload_n dX7_cut_158 rfl rfl ?_
              refine J_iload dX7_cut_159 rfl ?_
              refine J_iast dX7_cut_161 sh_29 h.1.1 h.1.2 ?_
              replace h := h.2 _ rfl
              refine J_aload_n dX7_cut_162 rfl rfl ?_
              refine J_getR dX7_cut_163 ck_7 fw_X7_15 rfl sh_28 rr_28_3 ?_
              refine J_iload_n dX7_cut_166 rfl rfl ?_
              refine J_iload_n dX7_cut_167 rfl rfl ?_
              refine J_iast dX7_cut_168 sh_30 h.1.1 h.1.2 ?_
              replace h := h.2 _ rfl
              refine J_aload_n dX7_cut_169 rfl rfl ?_
              refine J_getR dX7_cut_170 ck_7 fw_X7_18 rfl sh_28 rr_28_4 ?_
              refine J_iload_n dX7_cut_173 rfl rfl ?_
              refine J_iincN dX7_cut_174 rfl (by decide) h.1 ?_
              replace h := h.2
              refine J_iload dX7_cut_177 rfl ?_
              refine J_iast dX7_cut_179 sh_31 h.1.1 h.1.2 ?_
              replace h := h.2 _ rfl
              refine J_goto (tgt := 4) dX7_cut_180 (by decide) ?_
              exact J_loc (ls_sub [0, 1, 2, 3] rfl) h
            · replace h := h.2 c
              refine J_iload dX7_cut_110 rfl ?_
              refine J_bipush dX7_cut_112 (ii_c rfl) (by decide) ?_
              refine J_ic_gt (tgt := 154) dX7_cut_114 (by decide) (fun c => ?_) (fun c => ?_)
              · replace h := h.1 c
                refine J_aload_n dX7_cut_154 rfl rfl ?_
                refine J_getR dX7_cut_155 ck_7 fw_X7_9 rfl sh_28 rr_28_2 ?_
                refine J_iload_n dX7_cut_158 rfl rfl ?_
                refine J_iload dX7_cut_159 rfl ?_
                refine J_iast dX7_cut_161 sh_29 h.1.1 h.1.2 ?_
                replace h := h.2 _ rfl
                refine J_aload_n dX7_cut_162 rfl rfl ?_
                refine J_getR dX7_cut_163 ck_7 fw_X7_15 rfl sh_28 rr_28_3 ?_
                refine J_iload_n dX7_cut_166 rfl rfl ?_
                refine J_iload_n dX7_cut_167 rfl rfl ?_
                refine J_iast dX7_cut_168 sh_30 h.1.1 h.1.2 ?_
                replace h := h.2 _ rfl
                refine J_aload_n dX7_cut_169 rfl rfl ?_
                refine J_getR dX7_cut_170 ck_7 fw_X7_18 rfl sh_28 rr_28_4 ?_
                refine J_iload_n dX7_cut_173 rfl rfl ?_
                refine J_iincN dX7_cut_174 rfl (by decide) h.1 ?_
                replace h := h.2
                refine J_iload dX7_cut_177 rfl ?_
                refine J_iast dX7_cut_179 sh_31 h.1.1 h.1.2 ?_
                replace h := h.2 _ rfl
                refine J_goto (tgt := 4) dX7_cut_180 (by decide) ?_
                exact J_loc (ls_sub [0, 1, 2, 3] rfl) h
              · replace h := h.2 c
                exact h
          · replace h := h.2 c
            exact h
      · replace h := h.2 c
        refine J_goto (tgt := 4) dX7_cut_37 (by decide) ?_
        exact J_loc (ls_sub [0, 1, 2, 3] rfl) h
set_option maxRecDepth 20000 in
set_option maxHeartbeats 2000000 in
theorem bk_X7_cut_58 {d : Nat} {I : HI} {Q : Option AV → AH → Prop} {a1 : Int} {a2 : Int} {a3 : Int} {a4 : Int} {a5 : Int} {a6 : Int}  (h : ((a1 ≤ a3 → CI mX7_kindOfWord d [vR 28, vI a4, vI a3] I (fun x1 I1 => ((0 : Int) ≤ a2 ∧ (a2 : Int) < 1601) ∧ (∀ I2 : HI, I2 = up I1 29 a2.toNat a4 → ((0 : Int) ≤ a2 ∧ (a2 : Int) < 1601) ∧ (∀ I3 : HI, I3 = up I2 30 a2.toNat a3 → (-2147483648 ≤ a2 + 1 ∧ a2 + 1 ≤ 2147483647) ∧ ((0 : Int) ≤ a2 ∧ (a2 : Int) < 1601) ∧ (∀ I4 : HI, I4 = up I3 31 a2.toNat x1 → J none mX7_cut (d + 1) 0 0 4 [(0, vR 28), (1, vI a1), (2, vI (a2 + 1)), (3, vI a3)] [] (mk I4) Q))))) ∧ (¬ (a1 ≤ a3) → ((0 : Int) ≤ a3 ∧ (a3 : Int) < 1600) ∧ (((I 27 a3.toNat) < 97 → CI mX7_kindOfWord d [vR 28, vI a4, vI a3] I (fun x2 I5 => ((0 : Int) ≤ a2 ∧ (a2 : Int) < 1601) ∧ (∀ I6 : HI, I6 = up I5 29 a2.toNat a4 → ((0 : Int) ≤ a2 ∧ (a2 : Int) < 1601) ∧ (∀ I7 : HI, I7 = up I6 30 a2.toNat a3 → (-2147483648 ≤ a2 + 1 ∧ a2 + 1 ≤ 2147483647) ∧ ((0 : Int) ≤ a2 ∧ (a2 : Int) < 1601) ∧ (∀ I8 : HI, I8 = up I7 31 a2.toNat x2 → J none mX7_cut (d + 1) 0 0 4 [(0, vR 28), (1, vI a1), (2, vI (a2 + 1)), (3, vI a3)] [] (mk I8) Q))))) ∧ (¬ ((I 27 a3.toNat) < 97) → ((0 : Int) ≤ a3 ∧ (a3 : Int) < 1600) ∧ ((122 < (I 27 a3.toNat) → CI mX7_kindOfWord d [vR 28, vI a4, vI a3] I (fun x3 I9 => ((0 : Int) ≤ a2 ∧ (a2 : Int) < 1601) ∧ (∀ I10 : HI, I10 = up I9 29 a2.toNat a4 → ((0 : Int) ≤ a2 ∧ (a2 : Int) < 1601) ∧ (∀ I11 : HI, I11 = up I10 30 a2.toNat a3 → (-2147483648 ≤ a2 + 1 ∧ a2 + 1 ≤ 2147483647) ∧ ((0 : Int) ≤ a2 ∧ (a2 : Int) < 1601) ∧ (∀ I12 : HI, I12 = up I11 31 a2.toNat x3 → J none mX7_cut (d + 1) 0 0 4 [(0, vR 28), (1, vI a1), (2, vI (a2 + 1)), (3, vI a3)] [] (mk I12) Q))))) ∧ (¬ (122 < (I 27 a3.toNat)) → (-2147483648 ≤ a3 + 1 ∧ a3 + 1 ≤ 2147483647) ∧ J none mX7_cut (d + 1) 0 0 58 [(0, vR 28), (1, vI a1), (2, vI a2), (3, vI (a3 + 1)), (4, vI a4), (5, vI a5), (6, vI a6)] [] (mk I) Q))))))) : J none mX7_cut (d + 1) 0 0 58 [(0, vR 28), (1, vI a1), (2, vI a2), (3, vI a3), (4, vI a4), (5, vI a5), (6, vI a6)] [] (mk I) Q := by
  refine J_iload_n dX7_cut_58 rfl rfl ?_
  refine J_iload_n dX7_cut_59 rfl rfl ?_
  refine J_ic_ge (tgt := 91) dX7_cut_60 (by decide) (fun c => ?_) (fun c => ?_)
  · replace h := h.1 c
    refine J_aload_n dX7_cut_91 rfl rfl ?_
    refine J_iload dX7_cut_92 rfl ?_
    refine J_iload_n dX7_cut_94 rfl rfl ?_
    refine J_callV (as := [_, _]) (mc1 := 0) (ms1 := 0) (mc := 0) (ms := 0) dX7_cut_95 mv_X7_kindOfWord lk_X7_65 sh_28 rfl (Nat.le_of_ble_eq_true rfl) (Nat.le_of_ble_eq_true rfl) h (fun r σ hq _ => ?_)
    obtain ⟨x1, I1, rfl, rfl, h⟩ := hq
    change J _ _ _ _ _ _ _ [vI x1] _ _
    refine J_istore dX7_cut_98 (by decide) ?_
    refine J_goto (tgt := 154) dX7_cut_100 (by decide) ?_
    refine J_aload_n dX7_cut_154 rfl rfl ?_
    refine J_getR dX7_cut_155 ck_7 fw_X7_9 rfl sh_28 rr_28_2 ?_
    refine J_iload_n dX7_cut_158 rfl rfl ?_
    refine J_iload dX7_cut_159 rfl ?_
    refine J_iast dX7_cut_161 sh_29 h.1.1 h.1.2 ?_
    replace h := h.2 _ rfl
    refine J_aload_n dX7_cut_162 rfl rfl ?_
    refine J_getR dX7_cut_163 ck_7 fw_X7_15 rfl sh_28 rr_28_3 ?_
    refine J_iload_n dX7_cut_166 rfl rfl ?_
    refine J_iload_n dX7_cut_167 rfl rfl ?_
    refine J_iast dX7_cut_168 sh_30 h.1.1 h.1.2 ?_
    replace h := h.2 _ rfl
    refine J_aload_n dX7_cut_169 rfl rfl ?_
    refine J_getR dX7_cut_170 ck_7 fw_X7_18 rfl sh_28 rr_28_4 ?_
    refine J_iload_n dX7_cut_173 rfl rfl ?_
    refine J_iincN dX7_cut_174 rfl (by decide) h.1 ?_
    replace h := h.2
    refine J_iload dX7_cut_177 rfl ?_
    refine J_iast dX7_cut_179 sh_31 h.1.1 h.1.2 ?_
    replace h := h.2 _ rfl
    refine J_goto (tgt := 4) dX7_cut_180 (by decide) ?_
    exact J_loc (ls_sub [0, 1, 2, 3] rfl) h
  · replace h := h.2 c
    refine J_aload_n dX7_cut_63 rfl rfl ?_
    refine J_getR dX7_cut_64 ck_7 fw_X7_25 rfl sh_28 rr_28_1 ?_
    refine J_iload_n dX7_cut_67 rfl rfl ?_
    refine J_iald dX7_cut_68 sh_27 h.1.1 h.1.2 ?_
    replace h := h.2
    refine J_bipush dX7_cut_69 (ii_c rfl) (by decide) ?_
    refine J_ic_lt (tgt := 91) dX7_cut_71 (by decide) (fun c => ?_) (fun c => ?_)
    · replace h := h.1 c
      refine J_aload_n dX7_cut_91 rfl rfl ?_
      refine J_iload dX7_cut_92 rfl ?_
      refine J_iload_n dX7_cut_94 rfl rfl ?_
      refine J_callV (as := [_, _]) (mc1 := 0) (ms1 := 0) (mc := 0) (ms := 0) dX7_cut_95 mv_X7_kindOfWord lk_X7_65 sh_28 rfl (Nat.le_of_ble_eq_true rfl) (Nat.le_of_ble_eq_true rfl) h (fun r σ hq _ => ?_)
      obtain ⟨x2, I5, rfl, rfl, h⟩ := hq
      change J _ _ _ _ _ _ _ [vI x2] _ _
      refine J_istore dX7_cut_98 (by decide) ?_
      refine J_goto (tgt := 154) dX7_cut_100 (by decide) ?_
      refine J_aload_n dX7_cut_154 rfl rfl ?_
      refine J_getR dX7_cut_155 ck_7 fw_X7_9 rfl sh_28 rr_28_2 ?_
      refine J_iload_n dX7_cut_158 rfl rfl ?_
      refine J_iload dX7_cut_159 rfl ?_
      refine J_iast dX7_cut_161 sh_29 h.1.1 h.1.2 ?_
      replace h := h.2 _ rfl
      refine J_aload_n dX7_cut_162 rfl rfl ?_
      refine J_getR dX7_cut_163 ck_7 fw_X7_15 rfl sh_28 rr_28_3 ?_
      refine J_iload_n dX7_cut_166 rfl rfl ?_
      refine J_iload_n dX7_cut_167 rfl rfl ?_
      refine J_iast dX7_cut_168 sh_30 h.1.1 h.1.2 ?_
      replace h := h.2 _ rfl
      refine J_aload_n dX7_cut_169 rfl rfl ?_
      refine J_getR dX7_cut_170 ck_7 fw_X7_18 rfl sh_28 rr_28_4 ?_
      refine J_iload_n dX7_cut_173 rfl rfl ?_
      refine J_iincN dX7_cut_174 rfl (by decide) h.1 ?_
      replace h := h.2
      refine J_iload dX7_cut_177 rfl ?_
      refine J_iast dX7_cut_179 sh_31 h.1.1 h.1.2 ?_
      replace h := h.2 _ rfl
      refine J_goto (tgt := 4) dX7_cut_180 (by decide) ?_
      exact J_loc (ls_sub [0, 1, 2, 3] rfl) h
    · replace h := h.2 c
      refine J_aload_n dX7_cut_74 rfl rfl ?_
      refine J_getR dX7_cut_75 ck_7 fw_X7_25 rfl sh_28 rr_28_1 ?_
      refine J_iload_n dX7_cut_78 rfl rfl ?_
      refine J_iald dX7_cut_79 sh_27 h.1.1 h.1.2 ?_
      replace h := h.2
      refine J_bipush dX7_cut_80 (ii_c rfl) (by decide) ?_
      refine J_ic_gt (tgt := 91) dX7_cut_82 (by decide) (fun c => ?_) (fun c => ?_)
      · replace h := h.1 c
        refine J_aload_n dX7_cut_91 rfl rfl ?_
        refine J_iload dX7_cut_92 rfl ?_
        refine J_iload_n dX7_cut_94 rfl rfl ?_
        refine J_callV (as := [_, _]) (mc1 := 0) (ms1 := 0) (mc := 0) (ms := 0) dX7_cut_95 mv_X7_kindOfWord lk_X7_65 sh_28 rfl (Nat.le_of_ble_eq_true rfl) (Nat.le_of_ble_eq_true rfl) h (fun r σ hq _ => ?_)
        obtain ⟨x3, I9, rfl, rfl, h⟩ := hq
        change J _ _ _ _ _ _ _ [vI x3] _ _
        refine J_istore dX7_cut_98 (by decide) ?_
        refine J_goto (tgt := 154) dX7_cut_100 (by decide) ?_
        refine J_aload_n dX7_cut_154 rfl rfl ?_
        refine J_getR dX7_cut_155 ck_7 fw_X7_9 rfl sh_28 rr_28_2 ?_
        refine J_iload_n dX7_cut_158 rfl rfl ?_
        refine J_iload dX7_cut_159 rfl ?_
        refine J_iast dX7_cut_161 sh_29 h.1.1 h.1.2 ?_
        replace h := h.2 _ rfl
        refine J_aload_n dX7_cut_162 rfl rfl ?_
        refine J_getR dX7_cut_163 ck_7 fw_X7_15 rfl sh_28 rr_28_3 ?_
        refine J_iload_n dX7_cut_166 rfl rfl ?_
        refine J_iload_n dX7_cut_167 rfl rfl ?_
        refine J_iast dX7_cut_168 sh_30 h.1.1 h.1.2 ?_
        replace h := h.2 _ rfl
        refine J_aload_n dX7_cut_169 rfl rfl ?_
        refine J_getR dX7_cut_170 ck_7 fw_X7_18 rfl sh_28 rr_28_4 ?_
        refine J_iload_n dX7_cut_173 rfl rfl ?_
        refine J_iincN dX7_cut_174 rfl (by decide) h.1 ?_
        replace h := h.2
        refine J_iload dX7_cut_177 rfl ?_
        refine J_iast dX7_cut_179 sh_31 h.1.1 h.1.2 ?_
        replace h := h.2 _ rfl
        refine J_goto (tgt := 4) dX7_cut_180 (by decide) ?_
        exact J_loc (ls_sub [0, 1, 2, 3] rfl) h
      · replace h := h.2 c
        refine J_iincN dX7_cut_85 rfl (by decide) h.1 ?_
        replace h := h.2
        refine J_goto (tgt := 58) dX7_cut_88 (by decide) ?_
        exact h
set_option maxRecDepth 20000 in
set_option maxHeartbeats 2000000 in
theorem bk_X7_cut_117 {d : Nat} {I : HI} {Q : Option AV → AH → Prop} {a1 : Int} {a2 : Int} {a3 : Int} {a4 : Int} {a5 : Int} {a6 : Int}  (h : ((a1 ≤ a3 → ((0 : Int) ≤ a2 ∧ (a2 : Int) < 1601) ∧ (∀ I1 : HI, I1 = up I 29 a2.toNat a4 → ((0 : Int) ≤ a2 ∧ (a2 : Int) < 1601) ∧ (∀ I2 : HI, I2 = up I1 30 a2.toNat a3 → (-2147483648 ≤ a2 + 1 ∧ a2 + 1 ≤ 2147483647) ∧ ((0 : Int) ≤ a2 ∧ (a2 : Int) < 1601) ∧ (∀ I3 : HI, I3 = up I2 31 a2.toNat 28 → J none mX7_cut (d + 1) 0 0 4 [(0, vR 28), (1, vI a1), (2, vI (a2 + 1)), (3, vI a3)] [] (mk I3) Q)))) ∧ (¬ (a1 ≤ a3) → ((0 : Int) ≤ a3 ∧ (a3 : Int) < 1600) ∧ (((I 27 a3.toNat) < 48 → ((0 : Int) ≤ a2 ∧ (a2 : Int) < 1601) ∧ (∀ I4 : HI, I4 = up I 29 a2.toNat a4 → ((0 : Int) ≤ a2 ∧ (a2 : Int) < 1601) ∧ (∀ I5 : HI, I5 = up I4 30 a2.toNat a3 → (-2147483648 ≤ a2 + 1 ∧ a2 + 1 ≤ 2147483647) ∧ ((0 : Int) ≤ a2 ∧ (a2 : Int) < 1601) ∧ (∀ I6 : HI, I6 = up I5 31 a2.toNat 28 → J none mX7_cut (d + 1) 0 0 4 [(0, vR 28), (1, vI a1), (2, vI (a2 + 1)), (3, vI a3)] [] (mk I6) Q)))) ∧ (¬ ((I 27 a3.toNat) < 48) → ((0 : Int) ≤ a3 ∧ (a3 : Int) < 1600) ∧ ((57 < (I 27 a3.toNat) → ((0 : Int) ≤ a2 ∧ (a2 : Int) < 1601) ∧ (∀ I7 : HI, I7 = up I 29 a2.toNat a4 → ((0 : Int) ≤ a2 ∧ (a2 : Int) < 1601) ∧ (∀ I8 : HI, I8 = up I7 30 a2.toNat a3 → (-2147483648 ≤ a2 + 1 ∧ a2 + 1 ≤ 2147483647) ∧ ((0 : Int) ≤ a2 ∧ (a2 : Int) < 1601) ∧ (∀ I9 : HI, I9 = up I8 31 a2.toNat 28 → J none mX7_cut (d + 1) 0 0 4 [(0, vR 28), (1, vI a1), (2, vI (a2 + 1)), (3, vI a3)] [] (mk I9) Q)))) ∧ (¬ (57 < (I 27 a3.toNat)) → (-2147483648 ≤ a3 + 1 ∧ a3 + 1 ≤ 2147483647) ∧ J none mX7_cut (d + 1) 0 0 117 [(0, vR 28), (1, vI a1), (2, vI a2), (3, vI (a3 + 1)), (4, vI a4), (5, vI a5), (6, vI a6)] [] (mk I) Q))))))) : J none mX7_cut (d + 1) 0 0 117 [(0, vR 28), (1, vI a1), (2, vI a2), (3, vI a3), (4, vI a4), (5, vI a5), (6, vI a6)] [] (mk I) Q := by
  refine J_iload_n dX7_cut_117 rfl rfl ?_
  refine J_iload_n dX7_cut_118 rfl rfl ?_
  refine J_ic_ge (tgt := 150) dX7_cut_119 (by decide) (fun c => ?_) (fun c => ?_)
  · replace h := h.1 c
    refine J_bipush dX7_cut_150 (ii_c rfl) (by decide) ?_
    refine J_istore dX7_cut_152 (by decide) ?_
    refine J_aload_n dX7_cut_154 rfl rfl ?_
    refine J_getR dX7_cut_155 ck_7 fw_X7_9 rfl sh_28 rr_28_2 ?_
    refine J_iload_n dX7_cut_158 rfl rfl ?_
    refine J_iload dX7_cut_159 rfl ?_
    refine J_iast dX7_cut_161 sh_29 h.1.1 h.1.2 ?_
    replace h := h.2 _ rfl
    refine J_aload_n dX7_cut_162 rfl rfl ?_
    refine J_getR dX7_cut_163 ck_7 fw_X7_15 rfl sh_28 rr_28_3 ?_
    refine J_iload_n dX7_cut_166 rfl rfl ?_
    refine J_iload_n dX7_cut_167 rfl rfl ?_
    refine J_iast dX7_cut_168 sh_30 h.1.1 h.1.2 ?_
    replace h := h.2 _ rfl
    refine J_aload_n dX7_cut_169 rfl rfl ?_
    refine J_getR dX7_cut_170 ck_7 fw_X7_18 rfl sh_28 rr_28_4 ?_
    refine J_iload_n dX7_cut_173 rfl rfl ?_
    refine J_iincN dX7_cut_174 rfl (by decide) h.1 ?_
    replace h := h.2
    refine J_iload dX7_cut_177 rfl ?_
    refine J_iast dX7_cut_179 sh_31 h.1.1 h.1.2 ?_
    replace h := h.2 _ rfl
    refine J_goto (tgt := 4) dX7_cut_180 (by decide) ?_
    exact J_loc (ls_sub [0, 1, 2, 3] rfl) h
  · replace h := h.2 c
    refine J_aload_n dX7_cut_122 rfl rfl ?_
    refine J_getR dX7_cut_123 ck_7 fw_X7_25 rfl sh_28 rr_28_1 ?_
    refine J_iload_n dX7_cut_126 rfl rfl ?_
    refine J_iald dX7_cut_127 sh_27 h.1.1 h.1.2 ?_
    replace h := h.2
    refine J_bipush dX7_cut_128 (ii_c rfl) (by decide) ?_
    refine J_ic_lt (tgt := 150) dX7_cut_130 (by decide) (fun c => ?_) (fun c => ?_)
    · replace h := h.1 c
      refine J_bipush dX7_cut_150 (ii_c rfl) (by decide) ?_
      refine J_istore dX7_cut_152 (by decide) ?_
      refine J_aload_n dX7_cut_154 rfl rfl ?_
      refine J_getR dX7_cut_155 ck_7 fw_X7_9 rfl sh_28 rr_28_2 ?_
      refine J_iload_n dX7_cut_158 rfl rfl ?_
      refine J_iload dX7_cut_159 rfl ?_
      refine J_iast dX7_cut_161 sh_29 h.1.1 h.1.2 ?_
      replace h := h.2 _ rfl
      refine J_aload_n dX7_cut_162 rfl rfl ?_
      refine J_getR dX7_cut_163 ck_7 fw_X7_15 rfl sh_28 rr_28_3 ?_
      refine J_iload_n dX7_cut_166 rfl rfl ?_
      refine J_iload_n dX7_cut_167 rfl rfl ?_
      refine J_iast dX7_cut_168 sh_30 h.1.1 h.1.2 ?_
      replace h := h.2 _ rfl
      refine J_aload_n dX7_cut_169 rfl rfl ?_
      refine J_getR dX7_cut_170 ck_7 fw_X7_18 rfl sh_28 rr_28_4 ?_
      refine J_iload_n dX7_cut_173 rfl rfl ?_
      refine J_iincN dX7_cut_174 rfl (by decide) h.1 ?_
      replace h := h.2
      refine J_iload dX7_cut_177 rfl ?_
      refine J_iast dX7_cut_179 sh_31 h.1.1 h.1.2 ?_
      replace h := h.2 _ rfl
      refine J_goto (tgt := 4) dX7_cut_180 (by decide) ?_
      exact J_loc (ls_sub [0, 1, 2, 3] rfl) h
    · replace h := h.2 c
      refine J_aload_n dX7_cut_133 rfl rfl ?_
      refine J_getR dX7_cut_134 ck_7 fw_X7_25 rfl sh_28 rr_28_1 ?_
      refine J_iload_n dX7_cut_137 rfl rfl ?_
      refine J_iald dX7_cut_138 sh_27 h.1.1 h.1.2 ?_
      replace h := h.2
      refine J_bipush dX7_cut_139 (ii_c rfl) (by decide) ?_
      refine J_ic_gt (tgt := 150) dX7_cut_141 (by decide) (fun c => ?_) (fun c => ?_)
      · replace h := h.1 c
        refine J_bipush dX7_cut_150 (ii_c rfl) (by decide) ?_
        refine J_istore dX7_cut_152 (by decide) ?_
        refine J_aload_n dX7_cut_154 rfl rfl ?_
        refine J_getR dX7_cut_155 ck_7 fw_X7_9 rfl sh_28 rr_28_2 ?_
        refine J_iload_n dX7_cut_158 rfl rfl ?_
        refine J_iload dX7_cut_159 rfl ?_
        refine J_iast dX7_cut_161 sh_29 h.1.1 h.1.2 ?_
        replace h := h.2 _ rfl
        refine J_aload_n dX7_cut_162 rfl rfl ?_
        refine J_getR dX7_cut_163 ck_7 fw_X7_15 rfl sh_28 rr_28_3 ?_
        refine J_iload_n dX7_cut_166 rfl rfl ?_
        refine J_iload_n dX7_cut_167 rfl rfl ?_
        refine J_iast dX7_cut_168 sh_30 h.1.1 h.1.2 ?_
        replace h := h.2 _ rfl
        refine J_aload_n dX7_cut_169 rfl rfl ?_
        refine J_getR dX7_cut_170 ck_7 fw_X7_18 rfl sh_28 rr_28_4 ?_
        refine J_iload_n dX7_cut_173 rfl rfl ?_
        refine J_iincN dX7_cut_174 rfl (by decide) h.1 ?_
        replace h := h.2
        refine J_iload dX7_cut_177 rfl ?_
        refine J_iast dX7_cut_179 sh_31 h.1.1 h.1.2 ?_
        replace h := h.2 _ rfl
        refine J_goto (tgt := 4) dX7_cut_180 (by decide) ?_
        exact J_loc (ls_sub [0, 1, 2, 3] rfl) h
      · replace h := h.2 c
        refine J_iincN dX7_cut_144 rfl (by decide) h.1 ?_
        replace h := h.2
        refine J_goto (tgt := 117) dX7_cut_147 (by decide) ?_
        exact h
set_option maxRecDepth 20000 in
set_option maxHeartbeats 2000000 in
theorem bk_X7_kindOfWord_0 {d : Nat} {I : HI} {Q : Option AV → AH → Prop} {a1 : Int} {a2 : Int}  (h : (-2147483648 ≤ a2 - a1 ∧ a2 - a1 ≤ 2147483647) ∧ J none mX7_kindOfWord (d + 1) 0 0 7 [(0, vR 28), (1, vI a1), (2, vI a2), (3, vI (a2 - a1)), (4, vI 0)] [] (mk I) Q) : J none mX7_kindOfWord (d + 1) 0 0 0 [(0, vR 28), (1, vI a1), (2, vI a2)] [] (mk I) Q := by
  refine J_iload_n dX7_kindOfWord_0 rfl rfl ?_
  refine J_iload_n dX7_kindOfWord_1 rfl rfl ?_
  refine J_isubN dX7_kindOfWord_2 h.1 ?_
  replace h := h.2
  refine J_istore_n dX7_kindOfWord_3 rfl (by decide) ?_
  refine J_iconst dX7_kindOfWord_4 (ii_c rfl) ?_
  refine J_istore dX7_kindOfWord_5 (by decide) ?_
  exact h
set_option maxRecDepth 20000 in
set_option maxHeartbeats 2000000 in
theorem bk_X7_kindOfWord_7 {d : Nat} {I : HI} {Q : Option AV → AH → Prop} {a1 : Int} {a2 : Int} {a3 : Int} {a4 : Int}  (h : ((26 < a4 → Q (some (vI 27)) (mk I)) ∧ (¬ (26 < a4) → ((8 ≤ a3 → Q (some (vI 27)) (mk I)) ∧ (¬ (8 ≤ a3) → J none mX7_kindOfWord (d + 1) 0 0 23 [(0, vR 28), (1, vI a1), (2, vI a2), (3, vI a3), (4, vI a4), (5, vI 0)] [] (mk I) Q))))) : J none mX7_kindOfWord (d + 1) 0 0 7 [(0, vR 28), (1, vI a1), (2, vI a2), (3, vI a3), (4, vI a4)] [] (mk I) Q := by
  refine J_iload dX7_kindOfWord_7 rfl ?_
  refine J_bipush dX7_kindOfWord_9 (ii_c rfl) (by decide) ?_
  refine J_ic_gt (tgt := 93) dX7_kindOfWord_11 (by decide) (fun c => ?_) (fun c => ?_)
  · replace h := h.1 c
    refine J_bipush dX7_kindOfWord_93 (ii_c rfl) (by decide) ?_
    exact J_reti dX7_kindOfWord_95 rfl h
  · replace h := h.2 c
    refine J_iload_n dX7_kindOfWord_14 rfl rfl ?_
    refine J_bipush dX7_kindOfWord_15 (ii_c rfl) (by decide) ?_
    refine J_ic_ge (tgt := 93) dX7_kindOfWord_17 (by decide) (fun c => ?_) (fun c => ?_)
    · replace h := h.1 c
      refine J_bipush dX7_kindOfWord_93 (ii_c rfl) (by decide) ?_
      exact J_reti dX7_kindOfWord_95 rfl h
    · replace h := h.2 c
      refine J_iconst dX7_kindOfWord_20 (ii_c rfl) ?_
      refine J_istore dX7_kindOfWord_21 (by decide) ?_
      exact h
set_option maxRecDepth 20000 in
set_option maxHeartbeats 2000000 in
theorem bk_X7_kindOfWord_23 {d : Nat} {I : HI} {Q : Option AV → AH → Prop} {a1 : Int} {a2 : Int} {a3 : Int} {a4 : Int} {a5 : Int}  (h : ((a3 ≤ a5 → ((a5 ≠ a3 → (-2147483648 ≤ a4 + 1 ∧ a4 + 1 ≤ 2147483647) ∧ J none mX7_kindOfWord (d + 1) 0 0 7 [(0, vR 28), (1, vI a1), (2, vI a2), (3, vI a3), (4, vI (a4 + 1))] [] (mk I) Q) ∧ (a5 = a3 → (-2147483648 ≤ a4 * 8 ∧ a4 * 8 ≤ 2147483647) ∧ (-2147483648 ≤ (a4 * 8) + a5 ∧ (a4 * 8) + a5 ≤ 2147483647) ∧ CI mJ0_charAt_5068e d [vS, vI ((a4 * 8) + a5)] I (fun x1 I1 => ((x1 ≠ 32 → (-2147483648 ≤ a4 + 1 ∧ a4 + 1 ≤ 2147483647) ∧ J none mX7_kindOfWord (d + 1) 0 0 7 [(0, vR 28), (1, vI a1), (2, vI a2), (3, vI a3), (4, vI (a4 + 1))] [] (mk I1) Q) ∧ (x1 = 32 → Q (some (vI a4)) (mk I1))))))) ∧ (¬ (a3 ≤ a5) → (-2147483648 ≤ a4 * 8 ∧ a4 * 8 ≤ 2147483647) ∧ (-2147483648 ≤ (a4 * 8) + a5 ∧ (a4 * 8) + a5 ≤ 2147483647) ∧ CI mJ0_charAt_5068e d [vS, vI ((a4 * 8) + a5)] I (fun x2 I2 => (-2147483648 ≤ a1 + a5 ∧ a1 + a5 ≤ 2147483647) ∧ ((0 : Int) ≤ (a1 + a5) ∧ (a1 + a5 : Int) < 1600) ∧ ((x2 ≠ (I2 27 (a1 + a5).toNat) → ((a5 ≠ a3 → (-2147483648 ≤ a4 + 1 ∧ a4 + 1 ≤ 2147483647) ∧ J none mX7_kindOfWord (d + 1) 0 0 7 [(0, vR 28), (1, vI a1), (2, vI a2), (3, vI a3), (4, vI (a4 + 1))] [] (mk I2) Q) ∧ (a5 = a3 → (-2147483648 ≤ a4 * 8 ∧ a4 * 8 ≤ 2147483647) ∧ (-2147483648 ≤ (a4 * 8) + a5 ∧ (a4 * 8) + a5 ≤ 2147483647) ∧ CI mJ0_charAt_5068e d [vS, vI ((a4 * 8) + a5)] I2 (fun x3 I3 => ((x3 ≠ 32 → (-2147483648 ≤ a4 + 1 ∧ a4 + 1 ≤ 2147483647) ∧ J none mX7_kindOfWord (d + 1) 0 0 7 [(0, vR 28), (1, vI a1), (2, vI a2), (3, vI a3), (4, vI (a4 + 1))] [] (mk I3) Q) ∧ (x3 = 32 → Q (some (vI a4)) (mk I3))))))) ∧ (x2 = (I2 27 (a1 + a5).toNat) → (-2147483648 ≤ a5 + 1 ∧ a5 + 1 ≤ 2147483647) ∧ J none mX7_kindOfWord (d + 1) 0 0 23 [(0, vR 28), (1, vI a1), (2, vI a2), (3, vI a3), (4, vI a4), (5, vI (a5 + 1))] [] (mk I2) Q)))))) : J none mX7_kindOfWord (d + 1) 0 0 23 [(0, vR 28), (1, vI a1), (2, vI a2), (3, vI a3), (4, vI a4), (5, vI a5)] [] (mk I) Q := by
  refine J_iload dX7_kindOfWord_23 rfl ?_
  refine J_iload_n dX7_kindOfWord_25 rfl rfl ?_
  refine J_ic_ge (tgt := 60) dX7_kindOfWord_26 (by decide) (fun c => ?_) (fun c => ?_)
  · replace h := h.1 c
    refine J_iload dX7_kindOfWord_60 rfl ?_
    refine J_iload_n dX7_kindOfWord_62 rfl rfl ?_
    refine J_ic_ne (tgt := 87) dX7_kindOfWord_63 (by decide) (fun c => ?_) (fun c => ?_)
    · replace h := h.1 c
      refine J_iincN dX7_kindOfWord_87 rfl (by decide) h.1 ?_
      replace h := h.2
      refine J_goto (tgt := 7) dX7_kindOfWord_90 (by decide) ?_
      exact J_loc (ls_sub [0, 1, 2, 3, 4] rfl) h
    · replace h := h.2 c
      refine J_ldcS dX7_kindOfWord_66 rfl ?_
      refine J_iload dX7_kindOfWord_68 rfl ?_
      refine J_bipush dX7_kindOfWord_70 (ii_c rfl) (by decide) ?_
      refine J_imulN dX7_kindOfWord_72 h.1 ?_
      replace h := h.2
      refine J_iload dX7_kindOfWord_73 rfl ?_
      refine J_iaddN dX7_kindOfWord_75 h.1 ?_
      replace h := h.2
      refine J_callVF (as := [_]) (mc1 := 0) (ms1 := 0) (mc := 0) (ms := 0) dX7_kindOfWord_76 mv_J0_charAt_5068e lk_X7_70 rfl (Nat.le_of_ble_eq_true rfl) (Nat.le_of_ble_eq_true rfl) h (fun r σ hq _ => ?_)
      obtain ⟨x1, I1, rfl, rfl, h⟩ := hq
      change J _ _ _ _ _ _ _ [vI x1] _ _
      refine J_bipush dX7_kindOfWord_79 (ii_c rfl) (by decide) ?_
      refine J_ic_ne (tgt := 87) dX7_kindOfWord_81 (by decide) (fun c => ?_) (fun c => ?_)
      · replace h := h.1 c
        refine J_iincN dX7_kindOfWord_87 rfl (by decide) h.1 ?_
        replace h := h.2
        refine J_goto (tgt := 7) dX7_kindOfWord_90 (by decide) ?_
        exact J_loc (ls_sub [0, 1, 2, 3, 4] rfl) h
      · replace h := h.2 c
        refine J_iload dX7_kindOfWord_84 rfl ?_
        exact J_reti dX7_kindOfWord_86 rfl h
  · replace h := h.2 c
    refine J_ldcS dX7_kindOfWord_29 rfl ?_
    refine J_iload dX7_kindOfWord_31 rfl ?_
    refine J_bipush dX7_kindOfWord_33 (ii_c rfl) (by decide) ?_
    refine J_imulN dX7_kindOfWord_35 h.1 ?_
    replace h := h.2
    refine J_iload dX7_kindOfWord_36 rfl ?_
    refine J_iaddN dX7_kindOfWord_38 h.1 ?_
    replace h := h.2
    refine J_callVF (as := [_]) (mc1 := 0) (ms1 := 0) (mc := 0) (ms := 0) dX7_kindOfWord_39 mv_J0_charAt_5068e lk_X7_70 rfl (Nat.le_of_ble_eq_true rfl) (Nat.le_of_ble_eq_true rfl) h (fun r σ hq _ => ?_)
    obtain ⟨x2, I2, rfl, rfl, h⟩ := hq
    change J _ _ _ _ _ _ _ [vI x2] _ _
    refine J_aload_n dX7_kindOfWord_42 rfl rfl ?_
    refine J_getR dX7_kindOfWord_43 ck_7 fw_X7_25 rfl sh_28 rr_28_1 ?_
    refine J_iload_n dX7_kindOfWord_46 rfl rfl ?_
    refine J_iload dX7_kindOfWord_47 rfl ?_
    refine J_iaddN dX7_kindOfWord_49 h.1 ?_
    replace h := h.2
    refine J_iald dX7_kindOfWord_50 sh_27 h.1.1 h.1.2 ?_
    replace h := h.2
    refine J_ic_ne (tgt := 60) dX7_kindOfWord_51 (by decide) (fun c => ?_) (fun c => ?_)
    · replace h := h.1 c
      refine J_iload dX7_kindOfWord_60 rfl ?_
      refine J_iload_n dX7_kindOfWord_62 rfl rfl ?_
      refine J_ic_ne (tgt := 87) dX7_kindOfWord_63 (by decide) (fun c => ?_) (fun c => ?_)
      · replace h := h.1 c
        refine J_iincN dX7_kindOfWord_87 rfl (by decide) h.1 ?_
        replace h := h.2
        refine J_goto (tgt := 7) dX7_kindOfWord_90 (by decide) ?_
        exact J_loc (ls_sub [0, 1, 2, 3, 4] rfl) h
      · replace h := h.2 c
        refine J_ldcS dX7_kindOfWord_66 rfl ?_
        refine J_iload dX7_kindOfWord_68 rfl ?_
        refine J_bipush dX7_kindOfWord_70 (ii_c rfl) (by decide) ?_
        refine J_imulN dX7_kindOfWord_72 h.1 ?_
        replace h := h.2
        refine J_iload dX7_kindOfWord_73 rfl ?_
        refine J_iaddN dX7_kindOfWord_75 h.1 ?_
        replace h := h.2
        refine J_callVF (as := [_]) (mc1 := 0) (ms1 := 0) (mc := 0) (ms := 0) dX7_kindOfWord_76 mv_J0_charAt_5068e lk_X7_70 rfl (Nat.le_of_ble_eq_true rfl) (Nat.le_of_ble_eq_true rfl) h (fun r σ hq _ => ?_)
        obtain ⟨x3, I3, rfl, rfl, h⟩ := hq
        change J _ _ _ _ _ _ _ [vI x3] _ _
        refine J_bipush dX7_kindOfWord_79 (ii_c rfl) (by decide) ?_
        refine J_ic_ne (tgt := 87) dX7_kindOfWord_81 (by decide) (fun c => ?_) (fun c => ?_)
        · replace h := h.1 c
          refine J_iincN dX7_kindOfWord_87 rfl (by decide) h.1 ?_
          replace h := h.2
          refine J_goto (tgt := 7) dX7_kindOfWord_90 (by decide) ?_
          exact J_loc (ls_sub [0, 1, 2, 3, 4] rfl) h
        · replace h := h.2 c
          refine J_iload dX7_kindOfWord_84 rfl ?_
          exact J_reti dX7_kindOfWord_86 rfl h
    · replace h := h.2 c
      refine J_iincN dX7_kindOfWord_54 rfl (by decide) h.1 ?_
      replace h := h.2
      refine J_goto (tgt := 23) dX7_kindOfWord_57 (by decide) ?_
      exact h
set_option maxRecDepth 20000 in
set_option maxHeartbeats 2000000 in
theorem bk_X7_advance_0 {d : Nat} {I : HI} {Q : Option AV → AH → Prop}   (h : ((28 < (I 28 8) → J none mX7_advance (d + 1) 0 0 34 [(0, vR 28), (1, vI 0), (2, vI (I 28 7))] [] (mk I) Q) ∧ (¬ (28 < (I 28 8)) → (-2147483648 ≤ (I 28 11) + 1 ∧ (I 28 11) + 1 ≤ 2147483647) ∧ (∀ I1 : HI, I1 = up I 28 11 ((I 28 11) + 1) → J none mX7_advance (d + 1) 0 0 34 [(0, vR 28), (1, vI 1), (2, vI (I 28 7))] [] (mk I1) Q)))) : J none mX7_advance (d + 1) 0 0 0 [(0, vR 28)] [] (mk I) Q := by
  refine J_aload_n dX7_advance_0 rfl rfl ?_
  refine J_getI dX7_advance_1 ck_7 fw_X7_45 rfl sh_28 ?_
  refine J_bipush dX7_advance_4 (ii_c rfl) (by decide) ?_
  refine J_ic_gt (tgt := 13) dX7_advance_6 (by decide) (fun c => ?_) (fun c => ?_)
  · replace h := h.1 c
    refine J_iconst dX7_advance_13 (ii_c rfl) ?_
    refine J_istore_n dX7_advance_14 rfl (by decide) ?_
    refine J_aload_n dX7_advance_15 rfl rfl ?_
    refine J_getI dX7_advance_16 ck_7 fw_X7_42 rfl sh_28 ?_
    refine J_istore_n dX7_advance_19 rfl (by decide) ?_
    refine J_iload_n dX7_advance_20 rfl rfl ?_
    refine J_if_eq (tgt := 34) dX7_advance_21 (by decide) (fun _ => ?_) (fun c => absurd (by decide) c)
    exact h
  · replace h := h.2 c
    refine J_iconst dX7_advance_9 (ii_c rfl) ?_
    refine J_goto (tgt := 14) dX7_advance_10 (by decide) ?_
    refine J_istore_n dX7_advance_14 rfl (by decide) ?_
    refine J_aload_n dX7_advance_15 rfl rfl ?_
    refine J_getI dX7_advance_16 ck_7 fw_X7_42 rfl sh_28 ?_
    refine J_istore_n dX7_advance_19 rfl (by decide) ?_
    refine J_iload_n dX7_advance_20 rfl rfl ?_
    refine J_if_eq (tgt := 34) dX7_advance_21 (by decide) (fun c => absurd c (by decide)) (fun _ => ?_)
    refine J_aload_n dX7_advance_24 rfl rfl ?_
    refine J_dup dX7_advance_25 rfl ?_
    refine J_getI dX7_advance_26 ck_7 fw_X7_76 rfl sh_28 ?_
    refine J_iconst dX7_advance_29 (ii_c rfl) ?_
    refine J_iaddN dX7_advance_30 h.1 ?_
    replace h := h.2
    refine J_putI dX7_advance_31 ck_7 fw_X7_76 rfl rfl (Or.inl rfl) sh_28 ?_
    replace h := h _ rfl
    exact h
set_option maxRecDepth 20000 in
set_option maxHeartbeats 2000000 in
theorem bk_X7_advance_34 {d : Nat} {I : HI} {Q : Option AV → AH → Prop} {a1 : Int} {a2 : Int}  (h : ((0 : Int) ≤ (I 28 5) ∧ (I 28 5 : Int) < 1601) ∧ (∀ I1 : HI, I1 = up I 28 8 (I 31 (I 28 5).toNat) → ((0 : Int) ≤ (I1 28 5) ∧ (I1 28 5 : Int) < 1601) ∧ (∀ I2 : HI, I2 = up I1 28 6 (I1 29 (I1 28 5).toNat) → ((0 : Int) ≤ (I2 28 5) ∧ (I2 28 5 : Int) < 1601) ∧ (∀ I3 : HI, I3 = up I2 28 7 (I2 30 (I2 28 5).toNat) → ((a1 = 0 → (∀ I4 : HI, I4 = up I3 28 9 0 → (((I4 28 8) = 30 → Q none (mk I4)) ∧ (¬ ((I4 28 8) = 30) → (-2147483648 ≤ (I4 28 5) + 1 ∧ (I4 28 5) + 1 ≤ 2147483647) ∧ (∀ I5 : HI, I5 = up I4 28 5 ((I4 28 5) + 1) → Q none (mk I5)))))) ∧ (¬ (a1 = 0) → (((I3 28 6) ≠ a2 → (∀ I6 : HI, I6 = up I3 28 9 0 → (((I6 28 8) = 30 → Q none (mk I6)) ∧ (¬ ((I6 28 8) = 30) → (-2147483648 ≤ (I6 28 5) + 1 ∧ (I6 28 5) + 1 ≤ 2147483647) ∧ (∀ I7 : HI, I7 = up I6 28 5 ((I6 28 5) + 1) → Q none (mk I7)))))) ∧ ((I3 28 6) = a2 → ((28 < (I3 28 8) → (∀ I8 : HI, I8 = up I3 28 9 0 → (((I8 28 8) = 30 → Q none (mk I8)) ∧ (¬ ((I8 28 8) = 30) → (-2147483648 ≤ (I8 28 5) + 1 ∧ (I8 28 5) + 1 ≤ 2147483647) ∧ (∀ I9 : HI, I9 = up I8 28 5 ((I8 28 5) + 1) → Q none (mk I9)))))) ∧ (¬ (28 < (I3 28 8)) → (∀ I10 : HI, I10 = up I3 28 9 1 → (((I10 28 8) = 30 → Q none (mk I10)) ∧ (¬ ((I10 28 8) = 30) → (-2147483648 ≤ (I10 28 5) + 1 ∧ (I10 28 5) + 1 ≤ 2147483647) ∧ (∀ I11 : HI, I11 = up I10 28 5 ((I10 28 5) + 1) → Q none (mk I11))))))))))))))) : J none mX7_advance (d + 1) 0 0 34 [(0, vR 28), (1, vI a1), (2, vI a2)] [] (mk I) Q := by
  refine J_aload_n dX7_advance_34 rfl rfl ?_
  refine J_aload_n dX7_advance_35 rfl rfl ?_
  refine J_getR dX7_advance_36 ck_7 fw_X7_18 rfl sh_28 rr_28_4 ?_
  refine J_aload_n dX7_advance_39 rfl rfl ?_
  refine J_getI dX7_advance_40 ck_7 fw_X7_38 rfl sh_28 ?_
  refine J_iald dX7_advance_43 sh_31 h.1.1 h.1.2 ?_
  replace h := h.2
  refine J_putI dX7_advance_44 ck_7 fw_X7_45 rfl rfl (Or.inl rfl) sh_28 ?_
  replace h := h _ rfl
  refine J_aload_n dX7_advance_47 rfl rfl ?_
  refine J_aload_n dX7_advance_48 rfl rfl ?_
  refine J_getR dX7_advance_49 ck_7 fw_X7_9 rfl sh_28 rr_28_2 ?_
  refine J_aload_n dX7_advance_52 rfl rfl ?_
  refine J_getI dX7_advance_53 ck_7 fw_X7_38 rfl sh_28 ?_
  refine J_iald dX7_advance_56 sh_29 h.1.1 h.1.2 ?_
  replace h := h.2
  refine J_putI dX7_advance_57 ck_7 fw_X7_79 rfl rfl (Or.inl rfl) sh_28 ?_
  replace h := h _ rfl
  refine J_aload_n dX7_advance_60 rfl rfl ?_
  refine J_aload_n dX7_advance_61 rfl rfl ?_
  refine J_getR dX7_advance_62 ck_7 fw_X7_15 rfl sh_28 rr_28_3 ?_
  refine J_aload_n dX7_advance_65 rfl rfl ?_
  refine J_getI dX7_advance_66 ck_7 fw_X7_38 rfl sh_28 ?_
  refine J_iald dX7_advance_69 sh_30 h.1.1 h.1.2 ?_
  replace h := h.2
  refine J_putI dX7_advance_70 ck_7 fw_X7_42 rfl rfl (Or.inl rfl) sh_28 ?_
  replace h := h _ rfl
  refine J_aload_n dX7_advance_73 rfl rfl ?_
  refine J_iload_n dX7_advance_74 rfl rfl ?_
  refine J_if_eq (tgt := 99) dX7_advance_75 (by decide) (fun c => ?_) (fun c => ?_)
  · replace h := h.1 c
    refine J_iconst dX7_advance_99 (ii_c rfl) ?_
    refine J_putI dX7_advance_100 ck_7 fw_X7_82 rfl rfl (Or.inr ⟨rfl, Or.inl rfl⟩) sh_28 ?_
    replace h := h _ rfl
    refine J_aload_n dX7_advance_103 rfl rfl ?_
    refine J_getI dX7_advance_104 ck_7 fw_X7_45 rfl sh_28 ?_
    refine J_bipush dX7_advance_107 (ii_c rfl) (by decide) ?_
    refine J_ic_eq (tgt := 122) dX7_advance_109 (by decide) (fun c => ?_) (fun c => ?_)
    · replace h := h.1 c
      exact J_retv dX7_advance_122 rfl h
    · replace h := h.2 c
      refine J_aload_n dX7_advance_112 rfl rfl ?_
      refine J_dup dX7_advance_113 rfl ?_
      refine J_getI dX7_advance_114 ck_7 fw_X7_38 rfl sh_28 ?_
      refine J_iconst dX7_advance_117 (ii_c rfl) ?_
      refine J_iaddN dX7_advance_118 h.1 ?_
      replace h := h.2
      refine J_putI dX7_advance_119 ck_7 fw_X7_38 rfl rfl (Or.inl rfl) sh_28 ?_
      replace h := h _ rfl
      exact J_retv dX7_advance_122 rfl h
  · replace h := h.2 c
    refine J_aload_n dX7_advance_78 rfl rfl ?_
    refine J_getI dX7_advance_79 ck_7 fw_X7_79 rfl sh_28 ?_
    refine J_iload_n dX7_advance_82 rfl rfl ?_
    refine J_ic_ne (tgt := 99) dX7_advance_83 (by decide) (fun c => ?_) (fun c => ?_)
    · replace h := h.1 c
      refine J_iconst dX7_advance_99 (ii_c rfl) ?_
      refine J_putI dX7_advance_100 ck_7 fw_X7_82 rfl rfl (Or.inr ⟨rfl, Or.inl rfl⟩) sh_28 ?_
      replace h := h _ rfl
      refine J_aload_n dX7_advance_103 rfl rfl ?_
      refine J_getI dX7_advance_104 ck_7 fw_X7_45 rfl sh_28 ?_
      refine J_bipush dX7_advance_107 (ii_c rfl) (by decide) ?_
      refine J_ic_eq (tgt := 122) dX7_advance_109 (by decide) (fun c => ?_) (fun c => ?_)
      · replace h := h.1 c
        exact J_retv dX7_advance_122 rfl h
      · replace h := h.2 c
        refine J_aload_n dX7_advance_112 rfl rfl ?_
        refine J_dup dX7_advance_113 rfl ?_
        refine J_getI dX7_advance_114 ck_7 fw_X7_38 rfl sh_28 ?_
        refine J_iconst dX7_advance_117 (ii_c rfl) ?_
        refine J_iaddN dX7_advance_118 h.1 ?_
        replace h := h.2
        refine J_putI dX7_advance_119 ck_7 fw_X7_38 rfl rfl (Or.inl rfl) sh_28 ?_
        replace h := h _ rfl
        exact J_retv dX7_advance_122 rfl h
    · replace h := h.2 c
      refine J_aload_n dX7_advance_86 rfl rfl ?_
      refine J_getI dX7_advance_87 ck_7 fw_X7_45 rfl sh_28 ?_
      refine J_bipush dX7_advance_90 (ii_c rfl) (by decide) ?_
      refine J_ic_gt (tgt := 99) dX7_advance_92 (by decide) (fun c => ?_) (fun c => ?_)
      · replace h := h.1 c
        refine J_iconst dX7_advance_99 (ii_c rfl) ?_
        refine J_putI dX7_advance_100 ck_7 fw_X7_82 rfl rfl (Or.inr ⟨rfl, Or.inl rfl⟩) sh_28 ?_
        replace h := h _ rfl
        refine J_aload_n dX7_advance_103 rfl rfl ?_
        refine J_getI dX7_advance_104 ck_7 fw_X7_45 rfl sh_28 ?_
        refine J_bipush dX7_advance_107 (ii_c rfl) (by decide) ?_
        refine J_ic_eq (tgt := 122) dX7_advance_109 (by decide) (fun c => ?_) (fun c => ?_)
        · replace h := h.1 c
          exact J_retv dX7_advance_122 rfl h
        · replace h := h.2 c
          refine J_aload_n dX7_advance_112 rfl rfl ?_
          refine J_dup dX7_advance_113 rfl ?_
          refine J_getI dX7_advance_114 ck_7 fw_X7_38 rfl sh_28 ?_
          refine J_iconst dX7_advance_117 (ii_c rfl) ?_
          refine J_iaddN dX7_advance_118 h.1 ?_
          replace h := h.2
          refine J_putI dX7_advance_119 ck_7 fw_X7_38 rfl rfl (Or.inl rfl) sh_28 ?_
          replace h := h _ rfl
          exact J_retv dX7_advance_122 rfl h
      · replace h := h.2 c
        refine J_iconst dX7_advance_95 (ii_c rfl) ?_
        refine J_goto (tgt := 100) dX7_advance_96 (by decide) ?_
        refine J_putI dX7_advance_100 ck_7 fw_X7_82 rfl rfl (Or.inr ⟨rfl, Or.inr rfl⟩) sh_28 ?_
        replace h := h _ rfl
        refine J_aload_n dX7_advance_103 rfl rfl ?_
        refine J_getI dX7_advance_104 ck_7 fw_X7_45 rfl sh_28 ?_
        refine J_bipush dX7_advance_107 (ii_c rfl) (by decide) ?_
        refine J_ic_eq (tgt := 122) dX7_advance_109 (by decide) (fun c => ?_) (fun c => ?_)
        · replace h := h.1 c
          exact J_retv dX7_advance_122 rfl h
        · replace h := h.2 c
          refine J_aload_n dX7_advance_112 rfl rfl ?_
          refine J_dup dX7_advance_113 rfl ?_
          refine J_getI dX7_advance_114 ck_7 fw_X7_38 rfl sh_28 ?_
          refine J_iconst dX7_advance_117 (ii_c rfl) ?_
          refine J_iaddN dX7_advance_118 h.1 ?_
          replace h := h.2
          refine J_putI dX7_advance_119 ck_7 fw_X7_38 rfl rfl (Or.inl rfl) sh_28 ?_
          replace h := h _ rfl
          exact J_retv dX7_advance_122 rfl h
set_option maxRecDepth 20000 in
set_option maxHeartbeats 2000000 in
theorem bk_X7_more_0 {d : Nat} {I : HI} {Q : Option AV → AH → Prop}   (h : (((I 28 8) = 30 → Q (some (vI 0)) (mk I)) ∧ (¬ ((I 28 8) = 30) → Q (some (vI 1)) (mk I)))) : J none mX7_more (d + 1) 0 0 0 [(0, vR 28)] [] (mk I) Q := by
  refine J_aload_n dX7_more_0 rfl rfl ?_
  refine J_getI dX7_more_1 ck_7 fw_X7_45 rfl sh_28 ?_
  refine J_bipush dX7_more_4 (ii_c rfl) (by decide) ?_
  refine J_ic_eq (tgt := 13) dX7_more_6 (by decide) (fun c => ?_) (fun c => ?_)
  · replace h := h.1 c
    refine J_iconst dX7_more_13 (ii_c rfl) ?_
    exact J_retz dX7_more_14 rfl (Or.inl rfl) h
  · replace h := h.2 c
    refine J_iconst dX7_more_9 (ii_c rfl) ?_
    refine J_goto (tgt := 14) dX7_more_10 (by decide) ?_
    exact J_retz dX7_more_14 rfl (Or.inr rfl) h
set_option maxRecDepth 20000 in
set_option maxHeartbeats 2000000 in
theorem bk_X7_fail_0 {d : Nat} {I : HI} {Q : Option AV → AH → Prop} {a1 : Int} {a2 : Int}  (h : (∀ I1 : HI, I1 = up I 28 13 a1 → (∀ I2 : HI, I2 = up I1 28 14 a2 → Q (some (vI 0)) (mk I2)))) : J none mX7_fail (d + 1) 0 0 0 [(0, vR 28), (1, vI a1), (2, vI a2)] [] (mk I) Q := by
  refine J_aload_n dX7_fail_0 rfl rfl ?_
  refine J_iload_n dX7_fail_1 rfl rfl ?_
  refine J_putI dX7_fail_2 ck_7 fw_X7_51 rfl rfl (Or.inl rfl) sh_28 ?_
  replace h := h _ rfl
  refine J_aload_n dX7_fail_5 rfl rfl ?_
  refine J_iload_n dX7_fail_6 rfl rfl ?_
  refine J_putI dX7_fail_7 ck_7 fw_X7_54 rfl rfl (Or.inl rfl) sh_28 ?_
  replace h := h _ rfl
  refine J_iconst dX7_fail_10 (ii_c rfl) ?_
  exact J_retz dX7_fail_11 rfl (Or.inl rfl) h
set_option maxRecDepth 20000 in
set_option maxHeartbeats 2000000 in
theorem bk_X7_statement_0 {d : Nat} {I : HI} {Q : Option AV → AH → Prop}   (h : ((((I 28 8) < 0 ∨ 15 < (I 28 8)) → CI mX7_fail d [vR 28, vI 1, vI (I 28 6)] I (fun x1 I1 => ((x1 = 0 → Q (some (vI 0)) (mk I1)) ∧ (¬ (x1 = 0) → CI mX7_sign d [vR 28, vI 59] I1 (fun x2 I2 => ((x2 = 0 → Q (some (vI 0)) (mk I2)) ∧ (¬ (x2 = 0) → Q (some (vI 1)) (mk I2)))))))) ∧ ((I 28 8) = 0 → CI mX7_tellCorner d [vR 28] I (fun x3 I3 => ((x3 = 0 → Q (some (vI 0)) (mk I3)) ∧ (¬ (x3 = 0) → CI mX7_sign d [vR 28, vI 59] I3 (fun x4 I4 => ((x4 = 0 → Q (some (vI 0)) (mk I4)) ∧ (¬ (x4 = 0) → Q (some (vI 1)) (mk I4)))))))) ∧ ((I 28 8) = 1 → CI mX7_fail d [vR 28, vI 1, vI (I 28 6)] I (fun x5 I5 => ((x5 = 0 → Q (some (vI 0)) (mk I5)) ∧ (¬ (x5 = 0) → CI mX7_sign d [vR 28, vI 59] I5 (fun x6 I6 => ((x6 = 0 → Q (some (vI 0)) (mk I6)) ∧ (¬ (x6 = 0) → Q (some (vI 1)) (mk I6)))))))) ∧ ((I 28 8) = 2 → CI mX7_tellLane d [vR 28] I (fun x7 I7 => ((x7 = 0 → Q (some (vI 0)) (mk I7)) ∧ (¬ (x7 = 0) → CI mX7_sign d [vR 28, vI 59] I7 (fun x8 I8 => ((x8 = 0 → Q (some (vI 0)) (mk I8)) ∧ (¬ (x8 = 0) → Q (some (vI 1)) (mk I8)))))))) ∧ ((3 ≤ (I 28 8) ∧ (I 28 8) ≤ 4) → CI mX7_fail d [vR 28, vI 1, vI (I 28 6)] I (fun x9 I9 => ((x9 = 0 → Q (some (vI 0)) (mk I9)) ∧ (¬ (x9 = 0) → CI mX7_sign d [vR 28, vI 59] I9 (fun x10 I10 => ((x10 = 0 → Q (some (vI 0)) (mk I10)) ∧ (¬ (x10 = 0) → Q (some (vI 1)) (mk I10)))))))) ∧ ((I 28 8) = 5 → CI mX7_tellSaint d [vR 28] I (fun x13 I13 => ((x13 = 0 → Q (some (vI 0)) (mk I13)) ∧ (¬ (x13 = 0) → CI mX7_sign d [vR 28, vI 59] I13 (fun x14 I14 => ((x14 = 0 → Q (some (vI 0)) (mk I14)) ∧ (¬ (x14 = 0) → Q (some (vI 1)) (mk I14)))))))) ∧ ((6 ≤ (I 28 8) ∧ (I 28 8) ≤ 9) → CI mX7_fail d [vR 28, vI 1, vI (I 28 6)] I (fun x15 I15 => ((x15 = 0 → Q (some (vI 0)) (mk I15)) ∧ (¬ (x15 = 0) → CI mX7_sign d [vR 28, vI 59] I15 (fun x16 I16 => ((x16 = 0 → Q (some (vI 0)) (mk I16)) ∧ (¬ (x16 = 0) → Q (some (vI 1)) (mk I16)))))))) ∧ ((I 28 8) = 10 → CI mX7_tellBalcony d [vR 28] I (fun x23 I23 => ((x23 = 0 → Q (some (vI 0)) (mk I23)) ∧ (¬ (x23 = 0) → CI mX7_sign d [vR 28, vI 59] I23 (fun x24 I24 => ((x24 = 0 → Q (some (vI 0)) (mk I24)) ∧ (¬ (x24 = 0) → Q (some (vI 1)) (mk I24)))))))) ∧ ((11 ≤ (I 28 8) ∧ (I 28 8) ≤ 13) → CI mX7_fail d [vR 28, vI 1, vI (I 28 6)] I (fun x25 I25 => ((x25 = 0 → Q (some (vI 0)) (mk I25)) ∧ (¬ (x25 = 0) → CI mX7_sign d [vR 28, vI 59] I25 (fun x26 I26 => ((x26 = 0 → Q (some (vI 0)) (mk I26)) ∧ (¬ (x26 = 0) → Q (some (vI 1)) (mk I26)))))))) ∧ ((I 28 8) = 14 → CI mX7_full d [vR 28, vI 4, vI 6] I (fun x31 I31 => ((x31 ≠ 0 → Q (some (vI 0)) (mk I31)) ∧ (x31 = 0 → CI mX7_test d [vR 28, vI 0] I31 (fun x32 I32 => ((x32 = 0 → Q (some (vI 0)) (mk I32)) ∧ (¬ (x32 = 0) → CI mX7_exceptionStands d [vR 28] I32 (fun x33 I33 => ((x33 = 0 → Q (some (vI 0)) (mk I33)) ∧ (¬ (x33 = 0) → CI mX7_sign d [vR 28, vI 59] I33 (fun x34 I34 => ((x34 = 0 → Q (some (vI 0)) (mk I34)) ∧ (¬ (x34 = 0) → Q (some (vI 1)) (mk I34)))))))))))))) ∧ ((I 28 8) = 15 → CV mX7_advance d [vR 28] I (fun I35 => CI mX7_number d [vR 28, vI 0, vI 999] I35 (fun x36 I36 => (∀ I37 : HI, I37 = up I36 14 13 (I36 28 10) → ((x36 = 0 → Q (some (vI 0)) (mk I37)) ∧ (¬ (x36 = 0) → CI mX7_sign d [vR 28, vI 59] I37 (fun x37 I38 => ((x37 = 0 → Q (some (vI 0)) (mk I38)) ∧ (¬ (x37 = 0) → Q (some (vI 1)) (mk I38)))))))))))) : J none mX7_statement (d + 1) 0 0 0 [(0, vR 28)] [] (mk I) Q := by
  refine J_aload_n dX7_statement_0 rfl rfl ?_
  refine J_getI dX7_statement_1 ck_7 fw_X7_45 rfl sh_28 ?_
  rcases (show ((I 28 8) < 0 ∨ 15 < (I 28 8)) ∨ (I 28 8) = 0 ∨ (I 28 8) = 1 ∨ (I 28 8) = 2 ∨ (I 28 8) = 3 ∨ (I 28 8) = 4 ∨ (I 28 8) = 5 ∨ (I 28 8) = 6 ∨ (I 28 8) = 7 ∨ (I 28 8) = 8 ∨ (I 28 8) = 9 ∨ (I 28 8) = 10 ∨ (I 28 8) = 11 ∨ (I 28 8) = 12 ∨ (I 28 8) = 13 ∨ (I 28 8) = 14 ∨ (I 28 8) = 15 by omega) with c | c | c | c | c | c | c | c | c | c | c | c | c | c | c | c | c
  · replace h := h.1 c
    refine J_tabOut (tgt := 177) dX7_statement_4 c (by decide) ?_
    refine J_aload_n dX7_statement_177 rfl rfl ?_
    refine J_iconst dX7_statement_178 (ii_c rfl) ?_
    refine J_aload_n dX7_statement_179 rfl rfl ?_
    refine J_getI dX7_statement_180 ck_7 fw_X7_79 rfl sh_28 ?_
    refine J_callV (as := [_, _]) (mc1 := 0) (ms1 := 0) (mc := 0) (ms := 0) dX7_statement_183 mv_X7_fail lk_X7_119 sh_28 rfl (Nat.le_of_ble_eq_true rfl) (Nat.le_of_ble_eq_true rfl) h (fun r σ hq _ => ?_)
    obtain ⟨x1, I1, rfl, rfl, h⟩ := hq
    change J _ _ _ _ _ _ _ [vI x1] _ _
    refine J_istore_n dX7_statement_186 rfl (by decide) ?_
    refine J_iload_n dX7_statement_187 rfl rfl ?_
    refine J_if_eq (tgt := 204) dX7_statement_188 (by decide) (fun c => ?_) (fun c => ?_)
    · replace h := h.1 c
      refine J_iconst dX7_statement_204 (ii_c rfl) ?_
      exact J_retz dX7_statement_205 rfl (Or.inl rfl) h
    · replace h := h.2 c
      refine J_aload_n dX7_statement_191 rfl rfl ?_
      refine J_bipush dX7_statement_192 (ii_c rfl) (by decide) ?_
      refine J_callV (as := [_]) (mc1 := 0) (ms1 := 0) (mc := 0) (ms := 0) dX7_statement_194 mv_X7_sign lk_X7_122 sh_28 rfl (Nat.le_of_ble_eq_true rfl) (Nat.le_of_ble_eq_true rfl) h (fun r σ hq _ => ?_)
      obtain ⟨x2, I2, rfl, rfl, h⟩ := hq
      change J _ _ _ _ _ _ _ [vI x2] _ _
      refine J_if_eq (tgt := 204) dX7_statement_197 (by decide) (fun c => ?_) (fun c => ?_)
      · replace h := h.1 c
        refine J_iconst dX7_statement_204 (ii_c rfl) ?_
        exact J_retz dX7_statement_205 rfl (Or.inl rfl) h
      · replace h := h.2 c
        refine J_iconst dX7_statement_200 (ii_c rfl) ?_
        refine J_goto (tgt := 205) dX7_statement_201 (by decide) ?_
        exact J_retz dX7_statement_205 rfl (Or.inr rfl) h
  · replace h := h.2.1 c
    refine J_tabIn (tgt := 84) (off := 80) dX7_statement_4 (by omega) (by omega) (by rw [c]; rfl) (by decide) ?_
    refine J_aload_n dX7_statement_84 rfl rfl ?_
    refine J_callV (as := []) (mc1 := 0) (ms1 := 0) (mc := 0) (ms := 0) dX7_statement_85 mv_X7_tellCorner lk_X7_86 sh_28 rfl (Nat.le_of_ble_eq_true rfl) (Nat.le_of_ble_eq_true rfl) h (fun r σ hq _ => ?_)
    obtain ⟨x3, I3, rfl, rfl, h⟩ := hq
    change J _ _ _ _ _ _ _ [vI x3] _ _
    refine J_istore_n dX7_statement_88 rfl (by decide) ?_
    refine J_goto (tgt := 187) dX7_statement_89 (by decide) ?_
    refine J_iload_n dX7_statement_187 rfl rfl ?_
    refine J_if_eq (tgt := 204) dX7_statement_188 (by decide) (fun c => ?_) (fun c => ?_)
    · replace h := h.1 c
      refine J_iconst dX7_statement_204 (ii_c rfl) ?_
      exact J_retz dX7_statement_205 rfl (Or.inl rfl) h
    · replace h := h.2 c
      refine J_aload_n dX7_statement_191 rfl rfl ?_
      refine J_bipush dX7_statement_192 (ii_c rfl) (by decide) ?_
      refine J_callV (as := [_]) (mc1 := 0) (ms1 := 0) (mc := 0) (ms := 0) dX7_statement_194 mv_X7_sign lk_X7_122 sh_28 rfl (Nat.le_of_ble_eq_true rfl) (Nat.le_of_ble_eq_true rfl) h (fun r σ hq _ => ?_)
      obtain ⟨x4, I4, rfl, rfl, h⟩ := hq
      change J _ _ _ _ _ _ _ [vI x4] _ _
      refine J_if_eq (tgt := 204) dX7_statement_197 (by decide) (fun c => ?_) (fun c => ?_)
      · replace h := h.1 c
        refine J_iconst dX7_statement_204 (ii_c rfl) ?_
        exact J_retz dX7_statement_205 rfl (Or.inl rfl) h
      · replace h := h.2 c
        refine J_iconst dX7_statement_200 (ii_c rfl) ?_
        refine J_goto (tgt := 205) dX7_statement_201 (by decide) ?_
        exact J_retz dX7_statement_205 rfl (Or.inr rfl) h
  · replace h := h.2.2.1 c
    refine J_tabIn (tgt := 177) (off := 173) dX7_statement_4 (by omega) (by omega) (by rw [c]; rfl) (by decide) ?_
    refine J_aload_n dX7_statement_177 rfl rfl ?_
    refine J_iconst dX7_statement_178 (ii_c rfl) ?_
    refine J_aload_n dX7_statement_179 rfl rfl ?_
    refine J_getI dX7_statement_180 ck_7 fw_X7_79 rfl sh_28 ?_
    refine J_callV (as := [_, _]) (mc1 := 0) (ms1 := 0) (mc := 0) (ms := 0) dX7_statement_183 mv_X7_fail lk_X7_119 sh_28 rfl (Nat.le_of_ble_eq_true rfl) (Nat.le_of_ble_eq_true rfl) h (fun r σ hq _ => ?_)
    obtain ⟨x5, I5, rfl, rfl, h⟩ := hq
    change J _ _ _ _ _ _ _ [vI x5] _ _
    refine J_istore_n dX7_statement_186 rfl (by decide) ?_
    refine J_iload_n dX7_statement_187 rfl rfl ?_
    refine J_if_eq (tgt := 204) dX7_statement_188 (by decide) (fun c => ?_) (fun c => ?_)
    · replace h := h.1 c
      refine J_iconst dX7_statement_204 (ii_c rfl) ?_
      exact J_retz dX7_statement_205 rfl (Or.inl rfl) h
    · replace h := h.2 c
      refine J_aload_n dX7_statement_191 rfl rfl ?_
      refine J_bipush dX7_statement_192 (ii_c rfl) (by decide) ?_
      refine J_callV (as := [_]) (mc1 := 0) (ms1 := 0) (mc := 0) (ms := 0) dX7_statement_194 mv_X7_sign lk_X7_122 sh_28 rfl (Nat.le_of_ble_eq_true rfl) (Nat.le_of_ble_eq_true rfl) h (fun r σ hq _ => ?_)
      obtain ⟨x6, I6, rfl, rfl, h⟩ := hq
      change J _ _ _ _ _ _ _ [vI x6] _ _
      refine J_if_eq (tgt := 204) dX7_statement_197 (by decide) (fun c => ?_) (fun c => ?_)
      · replace h := h.1 c
        refine J_iconst dX7_statement_204 (ii_c rfl) ?_
        exact J_retz dX7_statement_205 rfl (Or.inl rfl) h
      · replace h := h.2 c
        refine J_iconst dX7_statement_200 (ii_c rfl) ?_
        refine J_goto (tgt := 205) dX7_statement_201 (by decide) ?_
        exact J_retz dX7_statement_205 rfl (Or.inr rfl) h
  · replace h := h.2.2.2.1 c
    refine J_tabIn (tgt := 92) (off := 88) dX7_statement_4 (by omega) (by omega) (by rw [c]; rfl) (by decide) ?_
    refine J_aload_n dX7_statement_92 rfl rfl ?_
    refine J_callV (as := []) (mc1 := 0) (ms1 := 0) (mc := 0) (ms := 0) dX7_statement_93 mv_X7_tellLane lk_X7_90 sh_28 rfl (Nat.le_of_ble_eq_true rfl) (Nat.le_of_ble_eq_true rfl) h (fun r σ hq _ => ?_)
    obtain ⟨x7, I7, rfl, rfl, h⟩ := hq
    change J _ _ _ _ _ _ _ [vI x7] _ _
    refine J_istore_n dX7_statement_96 rfl (by decide) ?_
    refine J_goto (tgt := 187) dX7_statement_97 (by decide) ?_
    refine J_iload_n dX7_statement_187 rfl rfl ?_
    refine J_if_eq (tgt := 204) dX7_statement_188 (by decide) (fun c => ?_) (fun c => ?_)
    · replace h := h.1 c
      refine J_iconst dX7_statement_204 (ii_c rfl) ?_
      exact J_retz dX7_statement_205 rfl (Or.inl rfl) h
    · replace h := h.2 c
      refine J_aload_n dX7_statement_191 rfl rfl ?_
      refine J_bipush dX7_statement_192 (ii_c rfl) (by decide) ?_
      refine J_callV (as := [_]) (mc1 := 0) (ms1 := 0) (mc := 0) (ms := 0) dX7_statement_194 mv_X7_sign lk_X7_122 sh_28 rfl (Nat.le_of_ble_eq_true rfl) (Nat.le_of_ble_eq_true rfl) h (fun r σ hq _ => ?_)
      obtain ⟨x8, I8, rfl, rfl, h⟩ := hq
      change J _ _ _ _ _ _ _ [vI x8] _ _
      refine J_if_eq (tgt := 204) dX7_statement_197 (by decide) (fun c => ?_) (fun c => ?_)
      · replace h := h.1 c
        refine J_iconst dX7_statement_204 (ii_c rfl) ?_
        exact J_retz dX7_statement_205 rfl (Or.inl rfl) h
      · replace h := h.2 c
        refine J_iconst dX7_statement_200 (ii_c rfl) ?_
        refine J_goto (tgt := 205) dX7_statement_201 (by decide) ?_
        exact J_retz dX7_statement_205 rfl (Or.inr rfl) h
  · replace h := h.2.2.2.2.1 (by omega)
    refine J_tabIn (tgt := 177) (off := 173) dX7_statement_4 (by omega) (by omega) (by rw [c]; rfl) (by decide) ?_
    refine J_aload_n dX7_statement_177 rfl rfl ?_
    refine J_iconst dX7_statement_178 (ii_c rfl) ?_
    refine J_aload_n dX7_statement_179 rfl rfl ?_
    refine J_getI dX7_statement_180 ck_7 fw_X7_79 rfl sh_28 ?_
    refine J_callV (as := [_, _]) (mc1 := 0) (ms1 := 0) (mc := 0) (ms := 0) dX7_statement_183 mv_X7_fail lk_X7_119 sh_28 rfl (Nat.le_of_ble_eq_true rfl) (Nat.le_of_ble_eq_true rfl) h (fun r σ hq _ => ?_)
    obtain ⟨x9, I9, rfl, rfl, h⟩ := hq
    change J _ _ _ _ _ _ _ [vI x9] _ _
    refine J_istore_n dX7_statement_186 rfl (by decide) ?_
    refine J_iload_n dX7_statement_187 rfl rfl ?_
    refine J_if_eq (tgt := 204) dX7_statement_188 (by decide) (fun c => ?_) (fun c => ?_)
    · replace h := h.1 c
      refine J_iconst dX7_statement_204 (ii_c rfl) ?_
      exact J_retz dX7_statement_205 rfl (Or.inl rfl) h
    · replace h := h.2 c
      refine J_aload_n dX7_statement_191 rfl rfl ?_
      refine J_bipush dX7_statement_192 (ii_c rfl) (by decide) ?_
      refine J_callV (as := [_]) (mc1 := 0) (ms1 := 0) (mc := 0) (ms := 0) dX7_statement_194 mv_X7_sign lk_X7_122 sh_28 rfl (Nat.le_of_ble_eq_true rfl) (Nat.le_of_ble_eq_true rfl) h (fun r σ hq _ => ?_)
      obtain ⟨x10, I10, rfl, rfl, h⟩ := hq
      change J _ _ _ _ _ _ _ [vI x10] _ _
      refine J_if_eq (tgt := 204) dX7_statement_197 (by decide) (fun c => ?_) (fun c => ?_)
      · replace h := h.1 c
        refine J_iconst dX7_statement_204 (ii_c rfl) ?_
        exact J_retz dX7_statement_205 rfl (Or.inl rfl) h
      · replace h := h.2 c
        refine J_iconst dX7_statement_200 (ii_c rfl) ?_
        refine J_goto (tgt := 205) dX7_statement_201 (by decide) ?_
        exact J_retz dX7_statement_205 rfl (Or.inr rfl) h
  · replace h := h.2.2.2.2.1 (by omega)
    refine J_tabIn (tgt := 177) (off := 173) dX7_statement_4 (by omega) (by omega) (by rw [c]; rfl) (by decide) ?_
    refine J_aload_n dX7_statement_177 rfl rfl ?_
    refine J_iconst dX7_statement_178 (ii_c rfl) ?_
    refine J_aload_n dX7_statement_179 rfl rfl ?_
    refine J_getI dX7_statement_180 ck_7 fw_X7_79 rfl sh_28 ?_
    refine J_callV (as := [_, _]) (mc1 := 0) (ms1 := 0) (mc := 0) (ms := 0) dX7_statement_183 mv_X7_fail lk_X7_119 sh_28 rfl (Nat.le_of_ble_eq_true rfl) (Nat.le_of_ble_eq_true rfl) h (fun r σ hq _ => ?_)
    obtain ⟨x11, I11, rfl, rfl, h⟩ := hq
    change J _ _ _ _ _ _ _ [vI x11] _ _
    refine J_istore_n dX7_statement_186 rfl (by decide) ?_
    refine J_iload_n dX7_statement_187 rfl rfl ?_
    refine J_if_eq (tgt := 204) dX7_statement_188 (by decide) (fun c => ?_) (fun c => ?_)
    · replace h := h.1 c
      refine J_iconst dX7_statement_204 (ii_c rfl) ?_
      exact J_retz dX7_statement_205 rfl (Or.inl rfl) h
    · replace h := h.2 c
      refine J_aload_n dX7_statement_191 rfl rfl ?_
      refine J_bipush dX7_statement_192 (ii_c rfl) (by decide) ?_
      refine J_callV (as := [_]) (mc1 := 0) (ms1 := 0) (mc := 0) (ms := 0) dX7_statement_194 mv_X7_sign lk_X7_122 sh_28 rfl (Nat.le_of_ble_eq_true rfl) (Nat.le_of_ble_eq_true rfl) h (fun r σ hq _ => ?_)
      obtain ⟨x12, I12, rfl, rfl, h⟩ := hq
      change J _ _ _ _ _ _ _ [vI x12] _ _
      refine J_if_eq (tgt := 204) dX7_statement_197 (by decide) (fun c => ?_) (fun c => ?_)
      · replace h := h.1 c
        refine J_iconst dX7_statement_204 (ii_c rfl) ?_
        exact J_retz dX7_statement_205 rfl (Or.inl rfl) h
      · replace h := h.2 c
        refine J_iconst dX7_statement_200 (ii_c rfl) ?_
        refine J_goto (tgt := 205) dX7_statement_201 (by decide) ?_
        exact J_retz dX7_statement_205 rfl (Or.inr rfl) h
  · replace h := h.2.2.2.2.2.1 c
    refine J_tabIn (tgt := 100) (off := 96) dX7_statement_4 (by omega) (by omega) (by rw [c]; rfl) (by decide) ?_
    refine J_aload_n dX7_statement_100 rfl rfl ?_
    refine J_callV (as := []) (mc1 := 0) (ms1 := 0) (mc := 0) (ms := 0) dX7_statement_101 mv_X7_tellSaint lk_X7_93 sh_28 rfl (Nat.le_of_ble_eq_true rfl) (Nat.le_of_ble_eq_true rfl) h (fun r σ hq _ => ?_)
    obtain ⟨x13, I13, rfl, rfl, h⟩ := hq
    change J _ _ _ _ _ _ _ [vI x13] _ _
    refine J_istore_n dX7_statement_104 rfl (by decide) ?_
    refine J_goto (tgt := 187) dX7_statement_105 (by decide) ?_
    refine J_iload_n dX7_statement_187 rfl rfl ?_
    refine J_if_eq (tgt := 204) dX7_statement_188 (by decide) (fun c => ?_) (fun c => ?_)
    · replace h := h.1 c
      refine J_iconst dX7_statement_204 (ii_c rfl) ?_
      exact J_retz dX7_statement_205 rfl (Or.inl rfl) h
    · replace h := h.2 c
      refine J_aload_n dX7_statement_191 rfl rfl ?_
      refine J_bipush dX7_statement_192 (ii_c rfl) (by decide) ?_
      refine J_callV (as := [_]) (mc1 := 0) (ms1 := 0) (mc := 0) (ms := 0) dX7_statement_194 mv_X7_sign lk_X7_122 sh_28 rfl (Nat.le_of_ble_eq_true rfl) (Nat.le_of_ble_eq_true rfl) h (fun r σ hq _ => ?_)
      obtain ⟨x14, I14, rfl, rfl, h⟩ := hq
      change J _ _ _ _ _ _ _ [vI x14] _ _
      refine J_if_eq (tgt := 204) dX7_statement_197 (by decide) (fun c => ?_) (fun c => ?_)
      · replace h := h.1 c
        refine J_iconst dX7_statement_204 (ii_c rfl) ?_
        exact J_retz dX7_statement_205 rfl (Or.inl rfl) h
      · replace h := h.2 c
        refine J_iconst dX7_statement_200 (ii_c rfl) ?_
        refine J_goto (tgt := 205) dX7_statement_201 (by decide) ?_
        exact J_retz dX7_statement_205 rfl (Or.inr rfl) h
  · replace h := h.2.2.2.2.2.2.1 (by omega)
    refine J_tabIn (tgt := 177) (off := 173) dX7_statement_4 (by omega) (by omega) (by rw [c]; rfl) (by decide) ?_
    refine J_aload_n dX7_statement_177 rfl rfl ?_
    refine J_iconst dX7_statement_178 (ii_c rfl) ?_
    refine J_aload_n dX7_statement_179 rfl rfl ?_
    refine J_getI dX7_statement_180 ck_7 fw_X7_79 rfl sh_28 ?_
    refine J_callV (as := [_, _]) (mc1 := 0) (ms1 := 0) (mc := 0) (ms := 0) dX7_statement_183 mv_X7_fail lk_X7_119 sh_28 rfl (Nat.le_of_ble_eq_true rfl) (Nat.le_of_ble_eq_true rfl) h (fun r σ hq _ => ?_)
    obtain ⟨x15, I15, rfl, rfl, h⟩ := hq
    change J _ _ _ _ _ _ _ [vI x15] _ _
    refine J_istore_n dX7_statement_186 rfl (by decide) ?_
    refine J_iload_n dX7_statement_187 rfl rfl ?_
    refine J_if_eq (tgt := 204) dX7_statement_188 (by decide) (fun c => ?_) (fun c => ?_)
    · replace h := h.1 c
      refine J_iconst dX7_statement_204 (ii_c rfl) ?_
      exact J_retz dX7_statement_205 rfl (Or.inl rfl) h
    · replace h := h.2 c
      refine J_aload_n dX7_statement_191 rfl rfl ?_
      refine J_bipush dX7_statement_192 (ii_c rfl) (by decide) ?_
      refine J_callV (as := [_]) (mc1 := 0) (ms1 := 0) (mc := 0) (ms := 0) dX7_statement_194 mv_X7_sign lk_X7_122 sh_28 rfl (Nat.le_of_ble_eq_true rfl) (Nat.le_of_ble_eq_true rfl) h (fun r σ hq _ => ?_)
      obtain ⟨x16, I16, rfl, rfl, h⟩ := hq
      change J _ _ _ _ _ _ _ [vI x16] _ _
      refine J_if_eq (tgt := 204) dX7_statement_197 (by decide) (fun c => ?_) (fun c => ?_)
      · replace h := h.1 c
        refine J_iconst dX7_statement_204 (ii_c rfl) ?_
        exact J_retz dX7_statement_205 rfl (Or.inl rfl) h
      · replace h := h.2 c
        refine J_iconst dX7_statement_200 (ii_c rfl) ?_
        refine J_goto (tgt := 205) dX7_statement_201 (by decide) ?_
        exact J_retz dX7_statement_205 rfl (Or.inr rfl) h
  · replace h := h.2.2.2.2.2.2.1 (by omega)
    refine J_tabIn (tgt := 177) (off := 173) dX7_statement_4 (by omega) (by omega) (by rw [c]; rfl) (by decide) ?_
    refine J_aload_n dX7_statement_177 rfl rfl ?_
    refine J_iconst dX7_statement_178 (ii_c rfl) ?_
    refine J_aload_n dX7_statement_179 rfl rfl ?_
    refine J_getI dX7_statement_180 ck_7 fw_X7_79 rfl sh_28 ?_
    refine J_callV (as := [_, _]) (mc1 := 0) (ms1 := 0) (mc := 0) (ms := 0) dX7_statement_183 mv_X7_fail lk_X7_119 sh_28 rfl (Nat.le_of_ble_eq_true rfl) (Nat.le_of_ble_eq_true rfl) h (fun r σ hq _ => ?_)
    obtain ⟨x17, I17, rfl, rfl, h⟩ := hq
    change J _ _ _ _ _ _ _ [vI x17] _ _
    refine J_istore_n dX7_statement_186 rfl (by decide) ?_
    refine J_iload_n dX7_statement_187 rfl rfl ?_
    refine J_if_eq (tgt := 204) dX7_statement_188 (by decide) (fun c => ?_) (fun c => ?_)
    · replace h := h.1 c
      refine J_iconst dX7_statement_204 (ii_c rfl) ?_
      exact J_retz dX7_statement_205 rfl (Or.inl rfl) h
    · replace h := h.2 c
      refine J_aload_n dX7_statement_191 rfl rfl ?_
      refine J_bipush dX7_statement_192 (ii_c rfl) (by decide) ?_
      refine J_callV (as := [_]) (mc1 := 0) (ms1 := 0) (mc := 0) (ms := 0) dX7_statement_194 mv_X7_sign lk_X7_122 sh_28 rfl (Nat.le_of_ble_eq_true rfl) (Nat.le_of_ble_eq_true rfl) h (fun r σ hq _ => ?_)
      obtain ⟨x18, I18, rfl, rfl, h⟩ := hq
      change J _ _ _ _ _ _ _ [vI x18] _ _
      refine J_if_eq (tgt := 204) dX7_statement_197 (by decide) (fun c => ?_) (fun c => ?_)
      · replace h := h.1 c
        refine J_iconst dX7_statement_204 (ii_c rfl) ?_
        exact J_retz dX7_statement_205 rfl (Or.inl rfl) h
      · replace h := h.2 c
        refine J_iconst dX7_statement_200 (ii_c rfl) ?_
        refine J_goto (tgt := 205) dX7_statement_201 (by decide) ?_
        exact J_retz dX7_statement_205 rfl (Or.inr rfl) h
  · replace h := h.2.2.2.2.2.2.1 (by omega)
    refine J_tabIn (tgt := 177) (off := 173) dX7_statement_4 (by omega) (by omega) (by rw [c]; rfl) (by decide) ?_
    refine J_aload_n dX7_statement_177 rfl rfl ?_
    refine J_iconst dX7_statement_178 (ii_c rfl) ?_
    refine J_aload_n dX7_statement_179 rfl rfl ?_
    refine J_getI dX7_statement_180 ck_7 fw_X7_79 rfl sh_28 ?_
    refine J_callV (as := [_, _]) (mc1 := 0) (ms1 := 0) (mc := 0) (ms := 0) dX7_statement_183 mv_X7_fail lk_X7_119 sh_28 rfl (Nat.le_of_ble_eq_true rfl) (Nat.le_of_ble_eq_true rfl) h (fun r σ hq _ => ?_)
    obtain ⟨x19, I19, rfl, rfl, h⟩ := hq
    change J _ _ _ _ _ _ _ [vI x19] _ _
    refine J_istore_n dX7_statement_186 rfl (by decide) ?_
    refine J_iload_n dX7_statement_187 rfl rfl ?_
    refine J_if_eq (tgt := 204) dX7_statement_188 (by decide) (fun c => ?_) (fun c => ?_)
    · replace h := h.1 c
      refine J_iconst dX7_statement_204 (ii_c rfl) ?_
      exact J_retz dX7_statement_205 rfl (Or.inl rfl) h
    · replace h := h.2 c
      refine J_aload_n dX7_statement_191 rfl rfl ?_
      refine J_bipush dX7_statement_192 (ii_c rfl) (by decide) ?_
      refine J_callV (as := [_]) (mc1 := 0) (ms1 := 0) (mc := 0) (ms := 0) dX7_statement_194 mv_X7_sign lk_X7_122 sh_28 rfl (Nat.le_of_ble_eq_true rfl) (Nat.le_of_ble_eq_true rfl) h (fun r σ hq _ => ?_)
      obtain ⟨x20, I20, rfl, rfl, h⟩ := hq
      change J _ _ _ _ _ _ _ [vI x20] _ _
      refine J_if_eq (tgt := 204) dX7_statement_197 (by decide) (fun c => ?_) (fun c => ?_)
      · replace h := h.1 c
        refine J_iconst dX7_statement_204 (ii_c rfl) ?_
        exact J_retz dX7_statement_205 rfl (Or.inl rfl) h
      · replace h := h.2 c
        refine J_iconst dX7_statement_200 (ii_c rfl) ?_
        refine J_goto (tgt := 205) dX7_statement_201 (by decide) ?_
        exact J_retz dX7_statement_205 rfl (Or.inr rfl) h
  · replace h := h.2.2.2.2.2.2.1 (by omega)
    refine J_tabIn (tgt := 177) (off := 173) dX7_statement_4 (by omega) (by omega) (by rw [c]; rfl) (by decide) ?_
    refine J_aload_n dX7_statement_177 rfl rfl ?_
    refine J_iconst dX7_statement_178 (ii_c rfl) ?_
    refine J_aload_n dX7_statement_179 rfl rfl ?_
    refine J_getI dX7_statement_180 ck_7 fw_X7_79 rfl sh_28 ?_
    refine J_callV (as := [_, _]) (mc1 := 0) (ms1 := 0) (mc := 0) (ms := 0) dX7_statement_183 mv_X7_fail lk_X7_119 sh_28 rfl (Nat.le_of_ble_eq_true rfl) (Nat.le_of_ble_eq_true rfl) h (fun r σ hq _ => ?_)
    obtain ⟨x21, I21, rfl, rfl, h⟩ := hq
    change J _ _ _ _ _ _ _ [vI x21] _ _
    refine J_istore_n dX7_statement_186 rfl (by decide) ?_
    refine J_iload_n dX7_statement_187 rfl rfl ?_
    refine J_if_eq (tgt := 204) dX7_statement_188 (by decide) (fun c => ?_) (fun c => ?_)
    · replace h := h.1 c
      refine J_iconst dX7_statement_204 (ii_c rfl) ?_
      exact J_retz dX7_statement_205 rfl (Or.inl rfl) h
    · replace h := h.2 c
      refine J_aload_n dX7_statement_191 rfl rfl ?_
      refine J_bipush dX7_statement_192 (ii_c rfl) (by decide) ?_
      refine J_callV (as := [_]) (mc1 := 0) (ms1 := 0) (mc := 0) (ms := 0) dX7_statement_194 mv_X7_sign lk_X7_122 sh_28 rfl (Nat.le_of_ble_eq_true rfl) (Nat.le_of_ble_eq_true rfl) h (fun r σ hq _ => ?_)
      obtain ⟨x22, I22, rfl, rfl, h⟩ := hq
      change J _ _ _ _ _ _ _ [vI x22] _ _
      refine J_if_eq (tgt := 204) dX7_statement_197 (by decide) (fun c => ?_) (fun c => ?_)
      · replace h := h.1 c
        refine J_iconst dX7_statement_204 (ii_c rfl) ?_
        exact J_retz dX7_statement_205 rfl (Or.inl rfl) h
      · replace h := h.2 c
        refine J_iconst dX7_statement_200 (ii_c rfl) ?_
        refine J_goto (tgt := 205) dX7_statement_201 (by decide) ?_
        exact J_retz dX7_statement_205 rfl (Or.inr rfl) h
  · replace h := h.2.2.2.2.2.2.2.1 c
    refine J_tabIn (tgt := 108) (off := 104) dX7_statement_4 (by omega) (by omega) (by rw [c]; rfl) (by decide) ?_
    refine J_aload_n dX7_statement_108 rfl rfl ?_
    refine J_callV (as := []) (mc1 := 0) (ms1 := 0) (mc := 0) (ms := 0) dX7_statement_109 mv_X7_tellBalcony lk_X7_96 sh_28 rfl (Nat.le_of_ble_eq_true rfl) (Nat.le_of_ble_eq_true rfl) h (fun r σ hq _ => ?_)
    obtain ⟨x23, I23, rfl, rfl, h⟩ := hq
    change J _ _ _ _ _ _ _ [vI x23] _ _
    refine J_istore_n dX7_statement_112 rfl (by decide) ?_
    refine J_goto (tgt := 187) dX7_statement_113 (by decide) ?_
    refine J_iload_n dX7_statement_187 rfl rfl ?_
    refine J_if_eq (tgt := 204) dX7_statement_188 (by decide) (fun c => ?_) (fun c => ?_)
    · replace h := h.1 c
      refine J_iconst dX7_statement_204 (ii_c rfl) ?_
      exact J_retz dX7_statement_205 rfl (Or.inl rfl) h
    · replace h := h.2 c
      refine J_aload_n dX7_statement_191 rfl rfl ?_
      refine J_bipush dX7_statement_192 (ii_c rfl) (by decide) ?_
      refine J_callV (as := [_]) (mc1 := 0) (ms1 := 0) (mc := 0) (ms := 0) dX7_statement_194 mv_X7_sign lk_X7_122 sh_28 rfl (Nat.le_of_ble_eq_true rfl) (Nat.le_of_ble_eq_true rfl) h (fun r σ hq _ => ?_)
      obtain ⟨x24, I24, rfl, rfl, h⟩ := hq
      change J _ _ _ _ _ _ _ [vI x24] _ _
      refine J_if_eq (tgt := 204) dX7_statement_197 (by decide) (fun c => ?_) (fun c => ?_)
      · replace h := h.1 c
        refine J_iconst dX7_statement_204 (ii_c rfl) ?_
        exact J_retz dX7_statement_205 rfl (Or.inl rfl) h
      · replace h := h.2 c
        refine J_iconst dX7_statement_200 (ii_c rfl) ?_
        refine J_goto (tgt := 205) dX7_statement_201 (by decide) ?_
        exact J_retz dX7_statement_205 rfl (Or.inr rfl) h
  · replace h := h.2.2.2.2.2.2.2.2.1 (by omega)
    refine J_tabIn (tgt := 177) (off := 173) dX7_statement_4 (by omega) (by omega) (by rw [c]; rfl) (by decide) ?_
    refine J_aload_n dX7_statement_177 rfl rfl ?_
    refine J_iconst dX7_statement_178 (ii_c rfl) ?_
    refine J_aload_n dX7_statement_179 rfl rfl ?_
    refine J_getI dX7_statement_180 ck_7 fw_X7_79 rfl sh_28 ?_
    refine J_callV (as := [_, _]) (mc1 := 0) (ms1 := 0) (mc := 0) (ms := 0) dX7_statement_183 mv_X7_fail lk_X7_119 sh_28 rfl (Nat.le_of_ble_eq_true rfl) (Nat.le_of_ble_eq_true rfl) h (fun r σ hq _ => ?_)
    obtain ⟨x25, I25, rfl, rfl, h⟩ := hq
    change J _ _ _ _ _ _ _ [vI x25] _ _
    refine J_istore_n dX7_statement_186 rfl (by decide) ?_
    refine J_iload_n dX7_statement_187 rfl rfl ?_
    refine J_if_eq (tgt := 204) dX7_statement_188 (by decide) (fun c => ?_) (fun c => ?_)
    · replace h := h.1 c
      refine J_iconst dX7_statement_204 (ii_c rfl) ?_
      exact J_retz dX7_statement_205 rfl (Or.inl rfl) h
    · replace h := h.2 c
      refine J_aload_n dX7_statement_191 rfl rfl ?_
      refine J_bipush dX7_statement_192 (ii_c rfl) (by decide) ?_
      refine J_callV (as := [_]) (mc1 := 0) (ms1 := 0) (mc := 0) (ms := 0) dX7_statement_194 mv_X7_sign lk_X7_122 sh_28 rfl (Nat.le_of_ble_eq_true rfl) (Nat.le_of_ble_eq_true rfl) h (fun r σ hq _ => ?_)
      obtain ⟨x26, I26, rfl, rfl, h⟩ := hq
      change J _ _ _ _ _ _ _ [vI x26] _ _
      refine J_if_eq (tgt := 204) dX7_statement_197 (by decide) (fun c => ?_) (fun c => ?_)
      · replace h := h.1 c
        refine J_iconst dX7_statement_204 (ii_c rfl) ?_
        exact J_retz dX7_statement_205 rfl (Or.inl rfl) h
      · replace h := h.2 c
        refine J_iconst dX7_statement_200 (ii_c rfl) ?_
        refine J_goto (tgt := 205) dX7_statement_201 (by decide) ?_
        exact J_retz dX7_statement_205 rfl (Or.inr rfl) h
  · replace h := h.2.2.2.2.2.2.2.2.1 (by omega)
    refine J_tabIn (tgt := 177) (off := 173) dX7_statement_4 (by omega) (by omega) (by rw [c]; rfl) (by decide) ?_
    refine J_aload_n dX7_statement_177 rfl rfl ?_
    refine J_iconst dX7_statement_178 (ii_c rfl) ?_
    refine J_aload_n dX7_statement_179 rfl rfl ?_
    refine J_getI dX7_statement_180 ck_7 fw_X7_79 rfl sh_28 ?_
    refine J_callV (as := [_, _]) (mc1 := 0) (ms1 := 0) (mc := 0) (ms := 0) dX7_statement_183 mv_X7_fail lk_X7_119 sh_28 rfl (Nat.le_of_ble_eq_true rfl) (Nat.le_of_ble_eq_true rfl) h (fun r σ hq _ => ?_)
    obtain ⟨x27, I27, rfl, rfl, h⟩ := hq
    change J _ _ _ _ _ _ _ [vI x27] _ _
    refine J_istore_n dX7_statement_186 rfl (by decide) ?_
    refine J_iload_n dX7_statement_187 rfl rfl ?_
    refine J_if_eq (tgt := 204) dX7_statement_188 (by decide) (fun c => ?_) (fun c => ?_)
    · replace h := h.1 c
      refine J_iconst dX7_statement_204 (ii_c rfl) ?_
      exact J_retz dX7_statement_205 rfl (Or.inl rfl) h
    · replace h := h.2 c
      refine J_aload_n dX7_statement_191 rfl rfl ?_
      refine J_bipush dX7_statement_192 (ii_c rfl) (by decide) ?_
      refine J_callV (as := [_]) (mc1 := 0) (ms1 := 0) (mc := 0) (ms := 0) dX7_statement_194 mv_X7_sign lk_X7_122 sh_28 rfl (Nat.le_of_ble_eq_true rfl) (Nat.le_of_ble_eq_true rfl) h (fun r σ hq _ => ?_)
      obtain ⟨x28, I28, rfl, rfl, h⟩ := hq
      change J _ _ _ _ _ _ _ [vI x28] _ _
      refine J_if_eq (tgt := 204) dX7_statement_197 (by decide) (fun c => ?_) (fun c => ?_)
      · replace h := h.1 c
        refine J_iconst dX7_statement_204 (ii_c rfl) ?_
        exact J_retz dX7_statement_205 rfl (Or.inl rfl) h
      · replace h := h.2 c
        refine J_iconst dX7_statement_200 (ii_c rfl) ?_
        refine J_goto (tgt := 205) dX7_statement_201 (by decide) ?_
        exact J_retz dX7_statement_205 rfl (Or.inr rfl) h
  · replace h := h.2.2.2.2.2.2.2.2.1 (by omega)
    refine J_tabIn (tgt := 177) (off := 173) dX7_statement_4 (by omega) (by omega) (by rw [c]; rfl) (by decide) ?_
    refine J_aload_n dX7_statement_177 rfl rfl ?_
    refine J_iconst dX7_statement_178 (ii_c rfl) ?_
    refine J_aload_n dX7_statement_179 rfl rfl ?_
    refine J_getI dX7_statement_180 ck_7 fw_X7_79 rfl sh_28 ?_
    refine J_callV (as := [_, _]) (mc1 := 0) (ms1 := 0) (mc := 0) (ms := 0) dX7_statement_183 mv_X7_fail lk_X7_119 sh_28 rfl (Nat.le_of_ble_eq_true rfl) (Nat.le_of_ble_eq_true rfl) h (fun r σ hq _ => ?_)
    obtain ⟨x29, I29, rfl, rfl, h⟩ := hq
    change J _ _ _ _ _ _ _ [vI x29] _ _
    refine J_istore_n dX7_statement_186 rfl (by decide) ?_
    refine J_iload_n dX7_statement_187 rfl rfl ?_
    refine J_if_eq (tgt := 204) dX7_statement_188 (by decide) (fun c => ?_) (fun c => ?_)
    · replace h := h.1 c
      refine J_iconst dX7_statement_204 (ii_c rfl) ?_
      exact J_retz dX7_statement_205 rfl (Or.inl rfl) h
    · replace h := h.2 c
      refine J_aload_n dX7_statement_191 rfl rfl ?_
      refine J_bipush dX7_statement_192 (ii_c rfl) (by decide) ?_
      refine J_callV (as := [_]) (mc1 := 0) (ms1 := 0) (mc := 0) (ms := 0) dX7_statement_194 mv_X7_sign lk_X7_122 sh_28 rfl (Nat.le_of_ble_eq_true rfl) (Nat.le_of_ble_eq_true rfl) h (fun r σ hq _ => ?_)
      obtain ⟨x30, I30, rfl, rfl, h⟩ := hq
      change J _ _ _ _ _ _ _ [vI x30] _ _
      refine J_if_eq (tgt := 204) dX7_statement_197 (by decide) (fun c => ?_) (fun c => ?_)
      · replace h := h.1 c
        refine J_iconst dX7_statement_204 (ii_c rfl) ?_
        exact J_retz dX7_statement_205 rfl (Or.inl rfl) h
      · replace h := h.2 c
        refine J_iconst dX7_statement_200 (ii_c rfl) ?_
        refine J_goto (tgt := 205) dX7_statement_201 (by decide) ?_
        exact J_retz dX7_statement_205 rfl (Or.inr rfl) h
  · replace h := h.2.2.2.2.2.2.2.2.2.1 c
    refine J_tabIn (tgt := 116) (off := 112) dX7_statement_4 (by omega) (by omega) (by rw [c]; rfl) (by decide) ?_
    refine J_aload_n dX7_statement_116 rfl rfl ?_
    refine J_iconst dX7_statement_117 (ii_c rfl) ?_
    refine J_bipush dX7_statement_118 (ii_c rfl) (by decide) ?_
    refine J_callV (as := [_, _]) (mc1 := 0) (ms1 := 0) (mc := 0) (ms := 0) dX7_statement_120 mv_X7_full lk_X7_99 sh_28 rfl (Nat.le_of_ble_eq_true rfl) (Nat.le_of_ble_eq_true rfl) h (fun r σ hq _ => ?_)
    obtain ⟨x31, I31, rfl, rfl, h⟩ := hq
    change J _ _ _ _ _ _ _ [vI x31] _ _
    refine J_if_ne (tgt := 145) dX7_statement_123 (by decide) (fun c => ?_) (fun c => ?_)
    · replace h := h.1 c
      refine J_iconst dX7_statement_145 (ii_c rfl) ?_
      refine J_istore_n dX7_statement_146 rfl (by decide) ?_
      refine J_goto (tgt := 187) dX7_statement_147 (by decide) ?_
      refine J_iload_n dX7_statement_187 rfl rfl ?_
      refine J_if_eq (tgt := 204) dX7_statement_188 (by decide) (fun _ => ?_) (fun c => absurd (by decide) c)
      refine J_iconst dX7_statement_204 (ii_c rfl) ?_
      exact J_retz dX7_statement_205 rfl (Or.inl rfl) h
    · replace h := h.2 c
      refine J_aload_n dX7_statement_126 rfl rfl ?_
      refine J_iconst dX7_statement_127 (ii_c rfl) ?_
      refine J_callV (as := [_]) (mc1 := 0) (ms1 := 0) (mc := 0) (ms := 0) dX7_statement_128 mv_X7_test lk_X7_103 sh_28 rfl (Nat.le_of_ble_eq_true rfl) (Nat.le_of_ble_eq_true rfl) h (fun r σ hq _ => ?_)
      obtain ⟨x32, I32, rfl, rfl, h⟩ := hq
      change J _ _ _ _ _ _ _ [vI x32] _ _
      refine J_if_eq (tgt := 145) dX7_statement_131 (by decide) (fun c => ?_) (fun c => ?_)
      · replace h := h.1 c
        refine J_iconst dX7_statement_145 (ii_c rfl) ?_
        refine J_istore_n dX7_statement_146 rfl (by decide) ?_
        refine J_goto (tgt := 187) dX7_statement_147 (by decide) ?_
        refine J_iload_n dX7_statement_187 rfl rfl ?_
        refine J_if_eq (tgt := 204) dX7_statement_188 (by decide) (fun _ => ?_) (fun c => absurd (by decide) c)
        refine J_iconst dX7_statement_204 (ii_c rfl) ?_
        exact J_retz dX7_statement_205 rfl (Or.inl rfl) h
      · replace h := h.2 c
        refine J_aload_n dX7_statement_134 rfl rfl ?_
        refine J_callV (as := []) (mc1 := 0) (ms1 := 0) (mc := 0) (ms := 0) dX7_statement_135 mv_X7_exceptionStands lk_X7_107 sh_28 rfl (Nat.le_of_ble_eq_true rfl) (Nat.le_of_ble_eq_true rfl) h (fun r σ hq _ => ?_)
        obtain ⟨x33, I33, rfl, rfl, h⟩ := hq
        change J _ _ _ _ _ _ _ [vI x33] _ _
        refine J_if_eq (tgt := 145) dX7_statement_138 (by decide) (fun c => ?_) (fun c => ?_)
        · replace h := h.1 c
          refine J_iconst dX7_statement_145 (ii_c rfl) ?_
          refine J_istore_n dX7_statement_146 rfl (by decide) ?_
          refine J_goto (tgt := 187) dX7_statement_147 (by decide) ?_
          refine J_iload_n dX7_statement_187 rfl rfl ?_
          refine J_if_eq (tgt := 204) dX7_statement_188 (by decide) (fun _ => ?_) (fun c => absurd (by decide) c)
          refine J_iconst dX7_statement_204 (ii_c rfl) ?_
          exact J_retz dX7_statement_205 rfl (Or.inl rfl) h
        · replace h := h.2 c
          refine J_iconst dX7_statement_141 (ii_c rfl) ?_
          refine J_goto (tgt := 146) dX7_statement_142 (by decide) ?_
          refine J_istore_n dX7_statement_146 rfl (by decide) ?_
          refine J_goto (tgt := 187) dX7_statement_147 (by decide) ?_
          refine J_iload_n dX7_statement_187 rfl rfl ?_
          refine J_if_eq (tgt := 204) dX7_statement_188 (by decide) (fun c => absurd c (by decide)) (fun _ => ?_)
          refine J_aload_n dX7_statement_191 rfl rfl ?_
          refine J_bipush dX7_statement_192 (ii_c rfl) (by decide) ?_
          refine J_callV (as := [_]) (mc1 := 0) (ms1 := 0) (mc := 0) (ms := 0) dX7_statement_194 mv_X7_sign lk_X7_122 sh_28 rfl (Nat.le_of_ble_eq_true rfl) (Nat.le_of_ble_eq_true rfl) h (fun r σ hq _ => ?_)
          obtain ⟨x34, I34, rfl, rfl, h⟩ := hq
          change J _ _ _ _ _ _ _ [vI x34] _ _
          refine J_if_eq (tgt := 204) dX7_statement_197 (by decide) (fun c => ?_) (fun c => ?_)
          · replace h := h.1 c
            refine J_iconst dX7_statement_204 (ii_c rfl) ?_
            exact J_retz dX7_statement_205 rfl (Or.inl rfl) h
          · replace h := h.2 c
            refine J_iconst dX7_statement_200 (ii_c rfl) ?_
            refine J_goto (tgt := 205) dX7_statement_201 (by decide) ?_
            exact J_retz dX7_statement_205 rfl (Or.inr rfl) h
  · replace h := h.2.2.2.2.2.2.2.2.2.2 c
    refine J_tabIn (tgt := 150) (off := 146) dX7_statement_4 (by omega) (by omega) (by rw [c]; rfl) (by decide) ?_
    refine J_aload_n dX7_statement_150 rfl rfl ?_
    refine J_callV (as := []) (mc1 := 0) (ms1 := 0) (mc := 0) (ms := 0) dX7_statement_151 mv_X7_advance lk_X7_62 sh_28 rfl (Nat.le_of_ble_eq_true rfl) (Nat.le_of_ble_eq_true rfl) h (fun r σ hq _ => ?_)
    obtain ⟨I35, rfl, rfl, h⟩ := hq
    change J _ _ _ _ _ _ _ [] _ _
    refine J_aload_n dX7_statement_154 rfl rfl ?_
    refine J_iconst dX7_statement_155 (ii_c rfl) ?_
    refine J_sipush dX7_statement_156 (ii_c rfl) (by decide) ?_
    refine J_callV (as := [_, _]) (mc1 := 0) (ms1 := 0) (mc := 0) (ms := 0) dX7_statement_159 mv_X7_number lk_X7_110 sh_28 rfl (Nat.le_of_ble_eq_true rfl) (Nat.le_of_ble_eq_true rfl) h (fun r σ hq _ => ?_)
    obtain ⟨x36, I36, rfl, rfl, h⟩ := hq
    change J _ _ _ _ _ _ _ [vI x36] _ _
    refine J_istore_n dX7_statement_162 rfl (by decide) ?_
    refine J_aload_n dX7_statement_163 rfl rfl ?_
    refine J_getR dX7_statement_164 ck_7 fw_X7_21 rfl sh_28 rr_28_0 ?_
    refine J_aload_n dX7_statement_167 rfl rfl ?_
    refine J_getI dX7_statement_168 ck_7 fw_X7_113 rfl sh_28 ?_
    refine J_putI dX7_statement_171 ck_0 fw_X7_116 rfl rfl (Or.inl rfl) sh_14 ?_
    replace h := h _ rfl
    refine J_goto (tgt := 187) dX7_statement_174 (by decide) ?_
    refine J_iload_n dX7_statement_187 rfl rfl ?_
    refine J_if_eq (tgt := 204) dX7_statement_188 (by decide) (fun c => ?_) (fun c => ?_)
    · replace h := h.1 c
      refine J_iconst dX7_statement_204 (ii_c rfl) ?_
      exact J_retz dX7_statement_205 rfl (Or.inl rfl) h
    · replace h := h.2 c
      refine J_aload_n dX7_statement_191 rfl rfl ?_
      refine J_bipush dX7_statement_192 (ii_c rfl) (by decide) ?_
      refine J_callV (as := [_]) (mc1 := 0) (ms1 := 0) (mc := 0) (ms := 0) dX7_statement_194 mv_X7_sign lk_X7_122 sh_28 rfl (Nat.le_of_ble_eq_true rfl) (Nat.le_of_ble_eq_true rfl) h (fun r σ hq _ => ?_)
      obtain ⟨x37, I38, rfl, rfl, h⟩ := hq
      change J _ _ _ _ _ _ _ [vI x37] _ _
      refine J_if_eq (tgt := 204) dX7_statement_197 (by decide) (fun c => ?_) (fun c => ?_)
      · replace h := h.1 c
        refine J_iconst dX7_statement_204 (ii_c rfl) ?_
        exact J_retz dX7_statement_205 rfl (Or.inl rfl) h
      · replace h := h.2 c
        refine J_iconst dX7_statement_200 (ii_c rfl) ?_
        refine J_goto (tgt := 205) dX7_statement_201 (by decide) ?_
        exact J_retz dX7_statement_205 rfl (Or.inr rfl) h
set_option maxRecDepth 20000 in
set_option maxHeartbeats 2000000 in
theorem bk_X7_full_0 {d : Nat} {I : HI} {Q : Option AV → AH → Prop} {a1 : Int} {a2 : Int}  (h : ((0 : Int) ≤ a1 ∧ (a1 : Int) < 5) ∧ (((I 15 a1.toNat) < a2 → CV mX7_advance d [vR 28] I (fun I1 => (∀ I2 : HI, I2 = up I1 28 11 0 → Q (some (vI 0)) (mk I2)))) ∧ (¬ ((I 15 a1.toNat) < a2) → CI mX7_fail d [vR 28, vI 5, vI (I 28 6)] I (fun x2 I3 => Q (some (vI 1)) (mk I3))))) : J none mX7_full (d + 1) 0 0 0 [(0, vR 28), (1, vI a1), (2, vI a2)] [] (mk I) Q := by
  refine J_aload_n dX7_full_0 rfl rfl ?_
  refine J_getR dX7_full_1 ck_7 fw_X7_21 rfl sh_28 rr_28_0 ?_
  refine J_getR dX7_full_4 ck_0 fw_X7_125 rfl sh_14 rr_14_0 ?_
  refine J_iload_n dX7_full_7 rfl rfl ?_
  refine J_iald dX7_full_8 sh_15 h.1.1 h.1.2 ?_
  replace h := h.2
  refine J_iload_n dX7_full_9 rfl rfl ?_
  refine J_ic_lt (tgt := 25) dX7_full_10 (by decide) (fun c => ?_) (fun c => ?_)
  · replace h := h.1 c
    refine J_aload_n dX7_full_25 rfl rfl ?_
    refine J_callV (as := []) (mc1 := 0) (ms1 := 0) (mc := 0) (ms := 0) dX7_full_26 mv_X7_advance lk_X7_62 sh_28 rfl (Nat.le_of_ble_eq_true rfl) (Nat.le_of_ble_eq_true rfl) h (fun r σ hq _ => ?_)
    obtain ⟨I1, rfl, rfl, h⟩ := hq
    change J _ _ _ _ _ _ _ [] _ _
    refine J_aload_n dX7_full_29 rfl rfl ?_
    refine J_iconst dX7_full_30 (ii_c rfl) ?_
    refine J_putI dX7_full_31 ck_7 fw_X7_76 rfl rfl (Or.inl rfl) sh_28 ?_
    replace h := h _ rfl
    refine J_iconst dX7_full_34 (ii_c rfl) ?_
    exact J_retz dX7_full_35 rfl (Or.inl rfl) h
  · replace h := h.2 c
    refine J_aload_n dX7_full_13 rfl rfl ?_
    refine J_iconst dX7_full_14 (ii_c rfl) ?_
    refine J_aload_n dX7_full_15 rfl rfl ?_
    refine J_getI dX7_full_16 ck_7 fw_X7_79 rfl sh_28 ?_
    refine J_callV (as := [_, _]) (mc1 := 0) (ms1 := 0) (mc := 0) (ms := 0) dX7_full_19 mv_X7_fail lk_X7_119 sh_28 rfl (Nat.le_of_ble_eq_true rfl) (Nat.le_of_ble_eq_true rfl) h (fun r σ hq _ => ?_)
    obtain ⟨x2, I3, rfl, rfl, h⟩ := hq
    change J _ _ _ _ _ _ _ [vI x2] _ _
    refine J_pop dX7_full_22 rfl ?_
    refine J_iconst dX7_full_23 (ii_c rfl) ?_
    exact J_retz dX7_full_24 rfl (Or.inr rfl) h
set_option maxRecDepth 20000 in
set_option maxHeartbeats 2000000 in
theorem bk_X7_tellCorner_0 {d : Nat} {I : HI} {Q : Option AV → AH → Prop}   (h : CI mX7_full d [vR 28, vI 0, vI 10] I (fun x1 I1 => ((x1 = 0 → CI mX7_newName d [vR 28, vR 16, vI (I1 15 0)] I1 (fun x2 I2 => ((x2 = 0 → Q (some (vI 0)) (mk I2)) ∧ (¬ (x2 = 0) → CI mX7_word d [vR 28, vI 1] I2 (fun x3 I3 => ((x3 = 0 → Q (some (vI 0)) (mk I3)) ∧ (¬ (x3 = 0) → CI mX7_number d [vR 28, vI 1, vI 9] I3 (fun x4 I4 => ((x4 ≠ 0 → ((0 : Int) ≤ (I1 15 0) ∧ (I1 15 0 : Int) < 10) ∧ (∀ I5 : HI, I5 = up I4 18 (I1 15 0).toNat (I4 28 10) → (-2147483648 ≤ (I5 15 0) + 1 ∧ (I5 15 0) + 1 ≤ 2147483647) ∧ (∀ I6 : HI, I6 = up I5 15 0 ((I5 15 0) + 1) → Q (some (vI 1)) (mk I6)))) ∧ (x4 = 0 → Q (some (vI 0)) (mk I4))))))))))) ∧ (¬ (x1 = 0) → Q (some (vI 0)) (mk I1))))) : J none mX7_tellCorner (d + 1) 0 0 0 [(0, vR 28)] [] (mk I) Q := by
  refine J_aload_n dX7_tellCorner_0 rfl rfl ?_
  refine J_iconst dX7_tellCorner_1 (ii_c rfl) ?_
  refine J_bipush dX7_tellCorner_2 (ii_c rfl) (by decide) ?_
  refine J_callV (as := [_, _]) (mc1 := 0) (ms1 := 0) (mc := 0) (ms := 0) dX7_tellCorner_4 mv_X7_full lk_X7_99 sh_28 rfl (Nat.le_of_ble_eq_true rfl) (Nat.le_of_ble_eq_true rfl) h (fun r σ hq _ => ?_)
  obtain ⟨x1, I1, rfl, rfl, h⟩ := hq
  change J _ _ _ _ _ _ _ [vI x1] _ _
  refine J_if_eq (tgt := 12) dX7_tellCorner_7 (by decide) (fun c => ?_) (fun c => ?_)
  · replace h := h.1 c
    refine J_aload_n dX7_tellCorner_12 rfl rfl ?_
    refine J_getR dX7_tellCorner_13 ck_7 fw_X7_21 rfl sh_28 rr_28_0 ?_
    refine J_getR dX7_tellCorner_16 ck_0 fw_X7_125 rfl sh_14 rr_14_0 ?_
    refine J_iconst dX7_tellCorner_19 (ii_c rfl) ?_
    refine J_iald dX7_tellCorner_20 sh_15 (by decide) (by decide) ?_
    refine J_istore_n dX7_tellCorner_21 rfl (by decide) ?_
    refine J_aload_n dX7_tellCorner_22 rfl rfl ?_
    refine J_aload_n dX7_tellCorner_23 rfl rfl ?_
    refine J_getR dX7_tellCorner_24 ck_7 fw_X7_21 rfl sh_28 rr_28_0 ?_
    refine J_getR dX7_tellCorner_27 ck_0 fw_X7_128 rfl sh_14 rr_14_1 ?_
    refine J_iload_n dX7_tellCorner_30 rfl rfl ?_
    refine J_callV (as := [_, _]) (mc1 := 0) (ms1 := 0) (mc := 0) (ms := 0) dX7_tellCorner_31 mv_X7_newName lk_X7_131 sh_28 rfl (Nat.le_of_ble_eq_true rfl) (Nat.le_of_ble_eq_true rfl) h (fun r σ hq _ => ?_)
    obtain ⟨x2, I2, rfl, rfl, h⟩ := hq
    change J _ _ _ _ _ _ _ [vI x2] _ _
    refine J_if_eq (tgt := 55) dX7_tellCorner_34 (by decide) (fun c => ?_) (fun c => ?_)
    · replace h := h.1 c
      refine J_iconst dX7_tellCorner_55 (ii_c rfl) ?_
      exact J_retz dX7_tellCorner_56 rfl (Or.inl rfl) h
    · replace h := h.2 c
      refine J_aload_n dX7_tellCorner_37 rfl rfl ?_
      refine J_iconst dX7_tellCorner_38 (ii_c rfl) ?_
      refine J_callV (as := [_]) (mc1 := 0) (ms1 := 0) (mc := 0) (ms := 0) dX7_tellCorner_39 mv_X7_word lk_X7_135 sh_28 rfl (Nat.le_of_ble_eq_true rfl) (Nat.le_of_ble_eq_true rfl) h (fun r σ hq _ => ?_)
      obtain ⟨x3, I3, rfl, rfl, h⟩ := hq
      change J _ _ _ _ _ _ _ [vI x3] _ _
      refine J_if_eq (tgt := 55) dX7_tellCorner_42 (by decide) (fun c => ?_) (fun c => ?_)
      · replace h := h.1 c
        refine J_iconst dX7_tellCorner_55 (ii_c rfl) ?_
        exact J_retz dX7_tellCorner_56 rfl (Or.inl rfl) h
      · replace h := h.2 c
        refine J_aload_n dX7_tellCorner_45 rfl rfl ?_
        refine J_iconst dX7_tellCorner_46 (ii_c rfl) ?_
        refine J_bipush dX7_tellCorner_47 (ii_c rfl) (by decide) ?_
        refine J_callV (as := [_, _]) (mc1 := 0) (ms1 := 0) (mc := 0) (ms := 0) dX7_tellCorner_49 mv_X7_number lk_X7_110 sh_28 rfl (Nat.le_of_ble_eq_true rfl) (Nat.le_of_ble_eq_true rfl) h (fun r σ hq _ => ?_)
        obtain ⟨x4, I4, rfl, rfl, h⟩ := hq
        change J _ _ _ _ _ _ _ [vI x4] _ _
        refine J_if_ne (tgt := 57) dX7_tellCorner_52 (by decide) (fun c => ?_) (fun c => ?_)
        · replace h := h.1 c
          refine J_aload_n dX7_tellCorner_57 rfl rfl ?_
          refine J_getR dX7_tellCorner_58 ck_7 fw_X7_21 rfl sh_28 rr_28_0 ?_
          refine J_getR dX7_tellCorner_61 ck_0 fw_X7_138 rfl sh_14 rr_14_3 ?_
          refine J_iload_n dX7_tellCorner_64 rfl rfl ?_
          refine J_aload_n dX7_tellCorner_65 rfl rfl ?_
          refine J_getI dX7_tellCorner_66 ck_7 fw_X7_113 rfl sh_28 ?_
          refine J_iast dX7_tellCorner_69 sh_18 h.1.1 h.1.2 ?_
          replace h := h.2 _ rfl
          refine J_aload_n dX7_tellCorner_70 rfl rfl ?_
          refine J_getR dX7_tellCorner_71 ck_7 fw_X7_21 rfl sh_28 rr_28_0 ?_
          refine J_getR dX7_tellCorner_74 ck_0 fw_X7_125 rfl sh_14 rr_14_0 ?_
          refine J_iconst dX7_tellCorner_77 (ii_c rfl) ?_
          refine J_dup2 dX7_tellCorner_78 rfl rfl ?_
          refine J_iald dX7_tellCorner_79 sh_15 (by decide) (by decide) ?_
          refine J_iconst dX7_tellCorner_80 (ii_c rfl) ?_
          refine J_iaddN dX7_tellCorner_81 h.1 ?_
          replace h := h.2
          refine J_iast dX7_tellCorner_82 sh_15 (by decide) (by decide) ?_
          replace h := h _ rfl
          refine J_iconst dX7_tellCorner_83 (ii_c rfl) ?_
          exact J_retz dX7_tellCorner_84 rfl (Or.inr rfl) h
        · replace h := h.2 c
          refine J_iconst dX7_tellCorner_55 (ii_c rfl) ?_
          exact J_retz dX7_tellCorner_56 rfl (Or.inl rfl) h
  · replace h := h.2 c
    refine J_iconst dX7_tellCorner_10 (ii_c rfl) ?_
    exact J_retz dX7_tellCorner_11 rfl (Or.inl rfl) h
set_option maxRecDepth 20000 in
set_option maxHeartbeats 2000000 in
theorem bk_X7_tellLane_0 {d : Nat} {I : HI} {Q : Option AV → AH → Prop}   (h : CI mX7_full d [vR 28, vI 1, vI 16] I (fun x1 I1 => ((x1 = 0 → CI mX7_askedCorner d [vR 28, vI (-1)] I1 (fun x2 I2 => ((x2 ≠ (-1) → CI mX7_askedCorner d [vR 28, vI x2] I2 (fun x3 I3 => ((x3 = (-1) → Q (some (vI 0)) (mk I3)) ∧ (¬ (x3 = (-1)) → CI mX7_word d [vR 28, vI 3] I3 (fun x4 I4 => ((x4 = 0 → Q (some (vI 0)) (mk I4)) ∧ (¬ (x4 = 0) → CI mX7_number d [vR 28, vI 1, vI 9] I4 (fun x5 I5 => ((x5 ≠ 0 → CI mX7_word d [vR 28, vI 4] I5 (fun x6 I6 => ((x6 = 0 → Q (some (vI 0)) (mk I6)) ∧ (¬ (x6 = 0) → CI mX7_number d [vR 28, vI 0, vI 9] I6 (fun x7 I7 => ((x7 ≠ 0 → CV mX0_addLane d [vR 14, vI x2, vI x3, vI (I5 28 10), vI (I7 28 10)] I7 (fun I8 => Q (some (vI 1)) (mk I8))) ∧ (x7 = 0 → Q (some (vI 0)) (mk I7)))))))) ∧ (x5 = 0 → Q (some (vI 0)) (mk I5))))))))))) ∧ (x2 = (-1) → Q (some (vI 0)) (mk I2))))) ∧ (¬ (x1 = 0) → Q (some (vI 0)) (mk I1))))) : J none mX7_tellLane (d + 1) 0 0 0 [(0, vR 28)] [] (mk I) Q := by
  refine J_aload_n dX7_tellLane_0 rfl rfl ?_
  refine J_iconst dX7_tellLane_1 (ii_c rfl) ?_
  refine J_bipush dX7_tellLane_2 (ii_c rfl) (by decide) ?_
  refine J_callV (as := [_, _]) (mc1 := 0) (ms1 := 0) (mc := 0) (ms := 0) dX7_tellLane_4 mv_X7_full lk_X7_99 sh_28 rfl (Nat.le_of_ble_eq_true rfl) (Nat.le_of_ble_eq_true rfl) h (fun r σ hq _ => ?_)
  obtain ⟨x1, I1, rfl, rfl, h⟩ := hq
  change J _ _ _ _ _ _ _ [vI x1] _ _
  refine J_if_eq (tgt := 12) dX7_tellLane_7 (by decide) (fun c => ?_) (fun c => ?_)
  · replace h := h.1 c
    refine J_aload_n dX7_tellLane_12 rfl rfl ?_
    refine J_iconst dX7_tellLane_13 (ii_c rfl) ?_
    refine J_callV (as := [_]) (mc1 := 0) (ms1 := 0) (mc := 0) (ms := 0) dX7_tellLane_14 mv_X7_askedCorner lk_X7_141 sh_28 rfl (Nat.le_of_ble_eq_true rfl) (Nat.le_of_ble_eq_true rfl) h (fun r σ hq _ => ?_)
    obtain ⟨x2, I2, rfl, rfl, h⟩ := hq
    change J _ _ _ _ _ _ _ [vI x2] _ _
    refine J_istore_n dX7_tellLane_17 rfl (by decide) ?_
    refine J_iload_n dX7_tellLane_18 rfl rfl ?_
    refine J_iconst dX7_tellLane_19 (ii_c rfl) ?_
    refine J_ic_ne (tgt := 25) dX7_tellLane_20 (by decide) (fun c => ?_) (fun c => ?_)
    · replace h := h.1 c
      refine J_aload_n dX7_tellLane_25 rfl rfl ?_
      refine J_iload_n dX7_tellLane_26 rfl rfl ?_
      refine J_callV (as := [_]) (mc1 := 0) (ms1 := 0) (mc := 0) (ms := 0) dX7_tellLane_27 mv_X7_askedCorner lk_X7_141 sh_28 rfl (Nat.le_of_ble_eq_true rfl) (Nat.le_of_ble_eq_true rfl) h (fun r σ hq _ => ?_)
      obtain ⟨x3, I3, rfl, rfl, h⟩ := hq
      change J _ _ _ _ _ _ _ [vI x3] _ _
      refine J_istore_n dX7_tellLane_30 rfl (by decide) ?_
      refine J_iload_n dX7_tellLane_31 rfl rfl ?_
      refine J_iconst dX7_tellLane_32 (ii_c rfl) ?_
      refine J_ic_eq (tgt := 54) dX7_tellLane_33 (by decide) (fun c => ?_) (fun c => ?_)
      · replace h := h.1 c
        refine J_iconst dX7_tellLane_54 (ii_c rfl) ?_
        exact J_retz dX7_tellLane_55 rfl (Or.inl rfl) h
      · replace h := h.2 c
        refine J_aload_n dX7_tellLane_36 rfl rfl ?_
        refine J_iconst dX7_tellLane_37 (ii_c rfl) ?_
        refine J_callV (as := [_]) (mc1 := 0) (ms1 := 0) (mc := 0) (ms := 0) dX7_tellLane_38 mv_X7_word lk_X7_135 sh_28 rfl (Nat.le_of_ble_eq_true rfl) (Nat.le_of_ble_eq_true rfl) h (fun r σ hq _ => ?_)
        obtain ⟨x4, I4, rfl, rfl, h⟩ := hq
        change J _ _ _ _ _ _ _ [vI x4] _ _
        refine J_if_eq (tgt := 54) dX7_tellLane_41 (by decide) (fun c => ?_) (fun c => ?_)
        · replace h := h.1 c
          refine J_iconst dX7_tellLane_54 (ii_c rfl) ?_
          exact J_retz dX7_tellLane_55 rfl (Or.inl rfl) h
        · replace h := h.2 c
          refine J_aload_n dX7_tellLane_44 rfl rfl ?_
          refine J_iconst dX7_tellLane_45 (ii_c rfl) ?_
          refine J_bipush dX7_tellLane_46 (ii_c rfl) (by decide) ?_
          refine J_callV (as := [_, _]) (mc1 := 0) (ms1 := 0) (mc := 0) (ms := 0) dX7_tellLane_48 mv_X7_number lk_X7_110 sh_28 rfl (Nat.le_of_ble_eq_true rfl) (Nat.le_of_ble_eq_true rfl) h (fun r σ hq _ => ?_)
          obtain ⟨x5, I5, rfl, rfl, h⟩ := hq
          change J _ _ _ _ _ _ _ [vI x5] _ _
          refine J_if_ne (tgt := 56) dX7_tellLane_51 (by decide) (fun c => ?_) (fun c => ?_)
          · replace h := h.1 c
            refine J_aload_n dX7_tellLane_56 rfl rfl ?_
            refine J_getI dX7_tellLane_57 ck_7 fw_X7_113 rfl sh_28 ?_
            refine J_istore_n dX7_tellLane_60 rfl (by decide) ?_
            refine J_aload_n dX7_tellLane_61 rfl rfl ?_
            refine J_iconst dX7_tellLane_62 (ii_c rfl) ?_
            refine J_callV (as := [_]) (mc1 := 0) (ms1 := 0) (mc := 0) (ms := 0) dX7_tellLane_63 mv_X7_word lk_X7_135 sh_28 rfl (Nat.le_of_ble_eq_true rfl) (Nat.le_of_ble_eq_true rfl) h (fun r σ hq _ => ?_)
            obtain ⟨x6, I6, rfl, rfl, h⟩ := hq
            change J _ _ _ _ _ _ _ [vI x6] _ _
            refine J_if_eq (tgt := 79) dX7_tellLane_66 (by decide) (fun c => ?_) (fun c => ?_)
            · replace h := h.1 c
              refine J_iconst dX7_tellLane_79 (ii_c rfl) ?_
              exact J_retz dX7_tellLane_80 rfl (Or.inl rfl) h
            · replace h := h.2 c
              refine J_aload_n dX7_tellLane_69 rfl rfl ?_
              refine J_iconst dX7_tellLane_70 (ii_c rfl) ?_
              refine J_bipush dX7_tellLane_71 (ii_c rfl) (by decide) ?_
              refine J_callV (as := [_, _]) (mc1 := 0) (ms1 := 0) (mc := 0) (ms := 0) dX7_tellLane_73 mv_X7_number lk_X7_110 sh_28 rfl (Nat.le_of_ble_eq_true rfl) (Nat.le_of_ble_eq_true rfl) h (fun r σ hq _ => ?_)
              obtain ⟨x7, I7, rfl, rfl, h⟩ := hq
              change J _ _ _ _ _ _ _ [vI x7] _ _
              refine J_if_ne (tgt := 81) dX7_tellLane_76 (by decide) (fun c => ?_) (fun c => ?_)
              · replace h := h.1 c
                refine J_aload_n dX7_tellLane_81 rfl rfl ?_
                refine J_getR dX7_tellLane_82 ck_7 fw_X7_21 rfl sh_28 rr_28_0 ?_
                refine J_iload_n dX7_tellLane_85 rfl rfl ?_
                refine J_iload_n dX7_tellLane_86 rfl rfl ?_
                refine J_iload_n dX7_tellLane_87 rfl rfl ?_
                refine J_aload_n dX7_tellLane_88 rfl rfl ?_
                refine J_getI dX7_tellLane_89 ck_7 fw_X7_113 rfl sh_28 ?_
                refine J_callV (as := [_, _, _, _]) (mc1 := 0) (ms1 := 0) (mc := 0) (ms := 0) dX7_tellLane_92 mv_X0_addLane lk_X7_145 sh_14 rfl (Nat.le_of_ble_eq_true rfl) (Nat.le_of_ble_eq_true rfl) h (fun r σ hq _ => ?_)
                obtain ⟨I8, rfl, rfl, h⟩ := hq
                change J _ _ _ _ _ _ _ [] _ _
                refine J_iconst dX7_tellLane_95 (ii_c rfl) ?_
                exact J_retz dX7_tellLane_96 rfl (Or.inr rfl) h
              · replace h := h.2 c
                refine J_iconst dX7_tellLane_79 (ii_c rfl) ?_
                exact J_retz dX7_tellLane_80 rfl (Or.inl rfl) h
          · replace h := h.2 c
            refine J_iconst dX7_tellLane_54 (ii_c rfl) ?_
            exact J_retz dX7_tellLane_55 rfl (Or.inl rfl) h
    · replace h := h.2 c
      refine J_iconst dX7_tellLane_23 (ii_c rfl) ?_
      exact J_retz dX7_tellLane_24 rfl (Or.inl rfl) h
  · replace h := h.2 c
    refine J_iconst dX7_tellLane_10 (ii_c rfl) ?_
    exact J_retz dX7_tellLane_11 rfl (Or.inl rfl) h
set_option maxRecDepth 20000 in
set_option maxHeartbeats 2000000 in
theorem bk_X7_tellSaint_0 {d : Nat} {I : HI} {Q : Option AV → AH → Prop}   (h : CI mX7_full d [vR 28, vI 2, vI 4] I (fun x1 I1 => ((x1 = 0 → CI mX7_newName d [vR 28, vR 17, vI (I1 15 2)] I1 (fun x2 I2 => ((x2 = 0 → Q (some (vI 0)) (mk I2)) ∧ (¬ (x2 = 0) → CI mX7_word d [vR 28, vI 6] I2 (fun x3 I3 => ((x3 ≠ 0 → CI mX7_askedCorner d [vR 28, vI (-1)] I3 (fun x4 I4 => (-2147483648 ≤ (I1 15 2) * 4 ∧ (I1 15 2) * 4 ≤ 2147483647) ∧ ((0 : Int) ≤ ((I1 15 2) * 4) ∧ ((I1 15 2) * 4 : Int) < 16) ∧ (∀ I5 : HI, I5 = up I4 20 ((I1 15 2) * 4).toNat x4 → ((x4 = (-1) → Q (some (vI 0)) (mk I5)) ∧ (¬ (x4 = (-1)) → CI mX7_word d [vR 28, vI 7] I5 (fun x5 I6 => ((x5 = 0 → Q (some (vI 0)) (mk I6)) ∧ (¬ (x5 = 0) → CI mX7_number d [vR 28, vI 1, vI 5] I6 (fun x6 I7 => ((x6 ≠ 0 → (-2147483648 ≤ (I1 15 2) * 4 ∧ (I1 15 2) * 4 ≤ 2147483647) ∧ (-2147483648 ≤ ((I1 15 2) * 4) + 1 ∧ ((I1 15 2) * 4) + 1 ≤ 2147483647) ∧ ((0 : Int) ≤ (((I1 15 2) * 4) + 1) ∧ (((I1 15 2) * 4) + 1 : Int) < 16) ∧ (∀ I8 : HI, I8 = up I7 20 (((I1 15 2) * 4) + 1).toNat (I7 28 10) → CI mX7_word d [vR 28, vI 8] I8 (fun x7 I9 => ((x7 = 0 → Q (some (vI 0)) (mk I9)) ∧ (¬ (x7 = 0) → CI mX7_number d [vR 28, vI 0, vI 20] I9 (fun x8 I10 => ((x8 ≠ 0 → (-2147483648 ≤ (I1 15 2) * 4 ∧ (I1 15 2) * 4 ≤ 2147483647) ∧ (-2147483648 ≤ ((I1 15 2) * 4) + 2 ∧ ((I1 15 2) * 4) + 2 ≤ 2147483647) ∧ ((0 : Int) ≤ (((I1 15 2) * 4) + 2) ∧ (((I1 15 2) * 4) + 2 : Int) < 16) ∧ (∀ I11 : HI, I11 = up I10 20 (((I1 15 2) * 4) + 2).toNat (I10 28 10) → CI mX7_word d [vR 28, vI 9] I11 (fun x9 I12 => ((x9 = 0 → Q (some (vI 0)) (mk I12)) ∧ (¬ (x9 = 0) → CI mX7_number d [vR 28, vI 0, vI 99] I12 (fun x10 I13 => ((x10 ≠ 0 → (-2147483648 ≤ (I1 15 2) * 4 ∧ (I1 15 2) * 4 ≤ 2147483647) ∧ (-2147483648 ≤ ((I1 15 2) * 4) + 3 ∧ ((I1 15 2) * 4) + 3 ≤ 2147483647) ∧ ((0 : Int) ≤ (((I1 15 2) * 4) + 3) ∧ (((I1 15 2) * 4) + 3 : Int) < 16) ∧ (∀ I14 : HI, I14 = up I13 20 (((I1 15 2) * 4) + 3).toNat (I13 28 10) → (-2147483648 ≤ (I14 15 2) + 1 ∧ (I14 15 2) + 1 ≤ 2147483647) ∧ (∀ I15 : HI, I15 = up I14 15 2 ((I14 15 2) + 1) → Q (some (vI 1)) (mk I15)))) ∧ (x10 = 0 → Q (some (vI 0)) (mk I13))))))))) ∧ (x8 = 0 → Q (some (vI 0)) (mk I10))))))))) ∧ (x6 = 0 → Q (some (vI 0)) (mk I7)))))))))))) ∧ (x3 = 0 → Q (some (vI 0)) (mk I3)))))))) ∧ (¬ (x1 = 0) → Q (some (vI 0)) (mk I1))))) : J none mX7_tellSaint (d + 1) 0 0 0 [(0, vR 28)] [] (mk I) Q := by
  refine J_aload_n dX7_tellSaint_0 rfl rfl ?_
  refine J_iconst dX7_tellSaint_1 (ii_c rfl) ?_
  refine J_iconst dX7_tellSaint_2 (ii_c rfl) ?_
  refine J_callV (as := [_, _]) (mc1 := 0) (ms1 := 0) (mc := 0) (ms := 0) dX7_tellSaint_3 mv_X7_full lk_X7_99 sh_28 rfl (Nat.le_of_ble_eq_true rfl) (Nat.le_of_ble_eq_true rfl) h (fun r σ hq _ => ?_)
  obtain ⟨x1, I1, rfl, rfl, h⟩ := hq
  change J _ _ _ _ _ _ _ [vI x1] _ _
  refine J_if_eq (tgt := 11) dX7_tellSaint_6 (by decide) (fun c => ?_) (fun c => ?_)
  · replace h := h.1 c
    refine J_aload_n dX7_tellSaint_11 rfl rfl ?_
    refine J_getR dX7_tellSaint_12 ck_7 fw_X7_21 rfl sh_28 rr_28_0 ?_
    refine J_getR dX7_tellSaint_15 ck_0 fw_X7_125 rfl sh_14 rr_14_0 ?_
    refine J_iconst dX7_tellSaint_18 (ii_c rfl) ?_
    refine J_iald dX7_tellSaint_19 sh_15 (by decide) (by decide) ?_
    refine J_istore_n dX7_tellSaint_20 rfl (by decide) ?_
    refine J_aload_n dX7_tellSaint_21 rfl rfl ?_
    refine J_aload_n dX7_tellSaint_22 rfl rfl ?_
    refine J_getR dX7_tellSaint_23 ck_7 fw_X7_21 rfl sh_28 rr_28_0 ?_
    refine J_getR dX7_tellSaint_26 ck_0 fw_X7_149 rfl sh_14 rr_14_2 ?_
    refine J_iload_n dX7_tellSaint_29 rfl rfl ?_
    refine J_callV (as := [_, _]) (mc1 := 0) (ms1 := 0) (mc := 0) (ms := 0) dX7_tellSaint_30 mv_X7_newName lk_X7_131 sh_28 rfl (Nat.le_of_ble_eq_true rfl) (Nat.le_of_ble_eq_true rfl) h (fun r σ hq _ => ?_)
    obtain ⟨x2, I2, rfl, rfl, h⟩ := hq
    change J _ _ _ _ _ _ _ [vI x2] _ _
    refine J_if_eq (tgt := 45) dX7_tellSaint_33 (by decide) (fun c => ?_) (fun c => ?_)
    · replace h := h.1 c
      refine J_iconst dX7_tellSaint_45 (ii_c rfl) ?_
      exact J_retz dX7_tellSaint_46 rfl (Or.inl rfl) h
    · replace h := h.2 c
      refine J_aload_n dX7_tellSaint_36 rfl rfl ?_
      refine J_bipush dX7_tellSaint_37 (ii_c rfl) (by decide) ?_
      refine J_callV (as := [_]) (mc1 := 0) (ms1 := 0) (mc := 0) (ms := 0) dX7_tellSaint_39 mv_X7_word lk_X7_135 sh_28 rfl (Nat.le_of_ble_eq_true rfl) (Nat.le_of_ble_eq_true rfl) h (fun r σ hq _ => ?_)
      obtain ⟨x3, I3, rfl, rfl, h⟩ := hq
      change J _ _ _ _ _ _ _ [vI x3] _ _
      refine J_if_ne (tgt := 47) dX7_tellSaint_42 (by decide) (fun c => ?_) (fun c => ?_)
      · replace h := h.1 c
        refine J_aload_n dX7_tellSaint_47 rfl rfl ?_
        refine J_iconst dX7_tellSaint_48 (ii_c rfl) ?_
        refine J_callV (as := [_]) (mc1 := 0) (ms1 := 0) (mc := 0) (ms := 0) dX7_tellSaint_49 mv_X7_askedCorner lk_X7_141 sh_28 rfl (Nat.le_of_ble_eq_true rfl) (Nat.le_of_ble_eq_true rfl) h (fun r σ hq _ => ?_)
        obtain ⟨x4, I4, rfl, rfl, h⟩ := hq
        change J _ _ _ _ _ _ _ [vI x4] _ _
        refine J_istore_n dX7_tellSaint_52 rfl (by decide) ?_
        refine J_aload_n dX7_tellSaint_53 rfl rfl ?_
        refine J_getR dX7_tellSaint_54 ck_7 fw_X7_21 rfl sh_28 rr_28_0 ?_
        refine J_getR dX7_tellSaint_57 ck_0 fw_X7_152 rfl sh_14 rr_14_5 ?_
        refine J_iload_n dX7_tellSaint_60 rfl rfl ?_
        refine J_iconst dX7_tellSaint_61 (ii_c rfl) ?_
        refine J_imulN dX7_tellSaint_62 h.1 ?_
        replace h := h.2
        refine J_iload_n dX7_tellSaint_63 rfl rfl ?_
        refine J_iast dX7_tellSaint_64 sh_20 h.1.1 h.1.2 ?_
        replace h := h.2 _ rfl
        refine J_iload_n dX7_tellSaint_65 rfl rfl ?_
        refine J_iconst dX7_tellSaint_66 (ii_c rfl) ?_
        refine J_ic_eq (tgt := 88) dX7_tellSaint_67 (by decide) (fun c => ?_) (fun c => ?_)
        · replace h := h.1 c
          refine J_iconst dX7_tellSaint_88 (ii_c rfl) ?_
          exact J_retz dX7_tellSaint_89 rfl (Or.inl rfl) h
        · replace h := h.2 c
          refine J_aload_n dX7_tellSaint_70 rfl rfl ?_
          refine J_bipush dX7_tellSaint_71 (ii_c rfl) (by decide) ?_
          refine J_callV (as := [_]) (mc1 := 0) (ms1 := 0) (mc := 0) (ms := 0) dX7_tellSaint_73 mv_X7_word lk_X7_135 sh_28 rfl (Nat.le_of_ble_eq_true rfl) (Nat.le_of_ble_eq_true rfl) h (fun r σ hq _ => ?_)
          obtain ⟨x5, I6, rfl, rfl, h⟩ := hq
          change J _ _ _ _ _ _ _ [vI x5] _ _
          refine J_if_eq (tgt := 88) dX7_tellSaint_76 (by decide) (fun c => ?_) (fun c => ?_)
          · replace h := h.1 c
            refine J_iconst dX7_tellSaint_88 (ii_c rfl) ?_
            exact J_retz dX7_tellSaint_89 rfl (Or.inl rfl) h
          · replace h := h.2 c
            refine J_aload_n dX7_tellSaint_79 rfl rfl ?_
            refine J_iconst dX7_tellSaint_80 (ii_c rfl) ?_
            refine J_iconst dX7_tellSaint_81 (ii_c rfl) ?_
            refine J_callV (as := [_, _]) (mc1 := 0) (ms1 := 0) (mc := 0) (ms := 0) dX7_tellSaint_82 mv_X7_number lk_X7_110 sh_28 rfl (Nat.le_of_ble_eq_true rfl) (Nat.le_of_ble_eq_true rfl) h (fun r σ hq _ => ?_)
            obtain ⟨x6, I7, rfl, rfl, h⟩ := hq
            change J _ _ _ _ _ _ _ [vI x6] _ _
            refine J_if_ne (tgt := 90) dX7_tellSaint_85 (by decide) (fun c => ?_) (fun c => ?_)
            · replace h := h.1 c
              refine J_aload_n dX7_tellSaint_90 rfl rfl ?_
              refine J_getR dX7_tellSaint_91 ck_7 fw_X7_21 rfl sh_28 rr_28_0 ?_
              refine J_getR dX7_tellSaint_94 ck_0 fw_X7_152 rfl sh_14 rr_14_5 ?_
              refine J_iload_n dX7_tellSaint_97 rfl rfl ?_
              refine J_iconst dX7_tellSaint_98 (ii_c rfl) ?_
              refine J_imulN dX7_tellSaint_99 h.1 ?_
              replace h := h.2
              refine J_iconst dX7_tellSaint_100 (ii_c rfl) ?_
              refine J_iaddN dX7_tellSaint_101 h.1 ?_
              replace h := h.2
              refine J_aload_n dX7_tellSaint_102 rfl rfl ?_
              refine J_getI dX7_tellSaint_103 ck_7 fw_X7_113 rfl sh_28 ?_
              refine J_iast dX7_tellSaint_106 sh_20 h.1.1 h.1.2 ?_
              replace h := h.2 _ rfl
              refine J_aload_n dX7_tellSaint_107 rfl rfl ?_
              refine J_bipush dX7_tellSaint_108 (ii_c rfl) (by decide) ?_
              refine J_callV (as := [_]) (mc1 := 0) (ms1 := 0) (mc := 0) (ms := 0) dX7_tellSaint_110 mv_X7_word lk_X7_135 sh_28 rfl (Nat.le_of_ble_eq_true rfl) (Nat.le_of_ble_eq_true rfl) h (fun r σ hq _ => ?_)
              obtain ⟨x7, I9, rfl, rfl, h⟩ := hq
              change J _ _ _ _ _ _ _ [vI x7] _ _
              refine J_if_eq (tgt := 126) dX7_tellSaint_113 (by decide) (fun c => ?_) (fun c => ?_)
              · replace h := h.1 c
                refine J_iconst dX7_tellSaint_126 (ii_c rfl) ?_
                exact J_retz dX7_tellSaint_127 rfl (Or.inl rfl) h
              · replace h := h.2 c
                refine J_aload_n dX7_tellSaint_116 rfl rfl ?_
                refine J_iconst dX7_tellSaint_117 (ii_c rfl) ?_
                refine J_bipush dX7_tellSaint_118 (ii_c rfl) (by decide) ?_
                refine J_callV (as := [_, _]) (mc1 := 0) (ms1 := 0) (mc := 0) (ms := 0) dX7_tellSaint_120 mv_X7_number lk_X7_110 sh_28 rfl (Nat.le_of_ble_eq_true rfl) (Nat.le_of_ble_eq_true rfl) h (fun r σ hq _ => ?_)
                obtain ⟨x8, I10, rfl, rfl, h⟩ := hq
                change J _ _ _ _ _ _ _ [vI x8] _ _
                refine J_if_ne (tgt := 128) dX7_tellSaint_123 (by decide) (fun c => ?_) (fun c => ?_)
                · replace h := h.1 c
                  refine J_aload_n dX7_tellSaint_128 rfl rfl ?_
                  refine J_getR dX7_tellSaint_129 ck_7 fw_X7_21 rfl sh_28 rr_28_0 ?_
                  refine J_getR dX7_tellSaint_132 ck_0 fw_X7_152 rfl sh_14 rr_14_5 ?_
                  refine J_iload_n dX7_tellSaint_135 rfl rfl ?_
                  refine J_iconst dX7_tellSaint_136 (ii_c rfl) ?_
                  refine J_imulN dX7_tellSaint_137 h.1 ?_
                  replace h := h.2
                  refine J_iconst dX7_tellSaint_138 (ii_c rfl) ?_
                  refine J_iaddN dX7_tellSaint_139 h.1 ?_
                  replace h := h.2
                  refine J_aload_n dX7_tellSaint_140 rfl rfl ?_
                  refine J_getI dX7_tellSaint_141 ck_7 fw_X7_113 rfl sh_28 ?_
                  refine J_iast dX7_tellSaint_144 sh_20 h.1.1 h.1.2 ?_
                  replace h := h.2 _ rfl
                  refine J_aload_n dX7_tellSaint_145 rfl rfl ?_
                  refine J_bipush dX7_tellSaint_146 (ii_c rfl) (by decide) ?_
                  refine J_callV (as := [_]) (mc1 := 0) (ms1 := 0) (mc := 0) (ms := 0) dX7_tellSaint_148 mv_X7_word lk_X7_135 sh_28 rfl (Nat.le_of_ble_eq_true rfl) (Nat.le_of_ble_eq_true rfl) h (fun r σ hq _ => ?_)
                  obtain ⟨x9, I12, rfl, rfl, h⟩ := hq
                  change J _ _ _ _ _ _ _ [vI x9] _ _
                  refine J_if_eq (tgt := 164) dX7_tellSaint_151 (by decide) (fun c => ?_) (fun c => ?_)
                  · replace h := h.1 c
                    refine J_iconst dX7_tellSaint_164 (ii_c rfl) ?_
                    exact J_retz dX7_tellSaint_165 rfl (Or.inl rfl) h
                  · replace h := h.2 c
                    refine J_aload_n dX7_tellSaint_154 rfl rfl ?_
                    refine J_iconst dX7_tellSaint_155 (ii_c rfl) ?_
                    refine J_bipush dX7_tellSaint_156 (ii_c rfl) (by decide) ?_
                    refine J_callV (as := [_, _]) (mc1 := 0) (ms1 := 0) (mc := 0) (ms := 0) dX7_tellSaint_158 mv_X7_number lk_X7_110 sh_28 rfl (Nat.le_of_ble_eq_true rfl) (Nat.le_of_ble_eq_true rfl) h (fun r σ hq _ => ?_)
                    obtain ⟨x10, I13, rfl, rfl, h⟩ := hq
                    change J _ _ _ _ _ _ _ [vI x10] _ _
                    refine J_if_ne (tgt := 166) dX7_tellSaint_161 (by decide) (fun c => ?_) (fun c => ?_)
                    · replace h := h.1 c
                      refine J_aload_n dX7_tellSaint_166 rfl rfl ?_
                      refine J_getR dX7_tellSaint_167 ck_7 fw_X7_21 rfl sh_28 rr_28_0 ?_
                      refine J_getR dX7_tellSaint_170 ck_0 fw_X7_152 rfl sh_14 rr_14_5 ?_
                      refine J_iload_n dX7_tellSaint_173 rfl rfl ?_
                      refine J_iconst dX7_tellSaint_174 (ii_c rfl) ?_
                      refine J_imulN dX7_tellSaint_175 h.1 ?_
                      replace h := h.2
                      refine J_iconst dX7_tellSaint_176 (ii_c rfl) ?_
                      refine J_iaddN dX7_tellSaint_177 h.1 ?_
                      replace h := h.2
                      refine J_aload_n dX7_tellSaint_178 rfl rfl ?_
                      refine J_getI dX7_tellSaint_179 ck_7 fw_X7_113 rfl sh_28 ?_
                      refine J_iast dX7_tellSaint_182 sh_20 h.1.1 h.1.2 ?_
                      replace h := h.2 _ rfl
                      refine J_aload_n dX7_tellSaint_183 rfl rfl ?_
                      refine J_getR dX7_tellSaint_184 ck_7 fw_X7_21 rfl sh_28 rr_28_0 ?_
                      refine J_getR dX7_tellSaint_187 ck_0 fw_X7_125 rfl sh_14 rr_14_0 ?_
                      refine J_iconst dX7_tellSaint_190 (ii_c rfl) ?_
                      refine J_dup2 dX7_tellSaint_191 rfl rfl ?_
                      refine J_iald dX7_tellSaint_192 sh_15 (by decide) (by decide) ?_
                      refine J_iconst dX7_tellSaint_193 (ii_c rfl) ?_
                      refine J_iaddN dX7_tellSaint_194 h.1 ?_
                      replace h := h.2
                      refine J_iast dX7_tellSaint_195 sh_15 (by decide) (by decide) ?_
                      replace h := h _ rfl
                      refine J_iconst dX7_tellSaint_196 (ii_c rfl) ?_
                      exact J_retz dX7_tellSaint_197 rfl (Or.inr rfl) h
                    · replace h := h.2 c
                      refine J_iconst dX7_tellSaint_164 (ii_c rfl) ?_
                      exact J_retz dX7_tellSaint_165 rfl (Or.inl rfl) h
                · replace h := h.2 c
                  refine J_iconst dX7_tellSaint_126 (ii_c rfl) ?_
                  exact J_retz dX7_tellSaint_127 rfl (Or.inl rfl) h
            · replace h := h.2 c
              refine J_iconst dX7_tellSaint_88 (ii_c rfl) ?_
              exact J_retz dX7_tellSaint_89 rfl (Or.inl rfl) h
      · replace h := h.2 c
        refine J_iconst dX7_tellSaint_45 (ii_c rfl) ?_
        exact J_retz dX7_tellSaint_46 rfl (Or.inl rfl) h
  · replace h := h.2 c
    refine J_iconst dX7_tellSaint_9 (ii_c rfl) ?_
    exact J_retz dX7_tellSaint_10 rfl (Or.inl rfl) h
set_option maxRecDepth 20000 in
set_option maxHeartbeats 2000000 in
theorem bk_X7_tellBalcony_0 {d : Nat} {I : HI} {Q : Option AV → AH → Prop}   (h : CI mX7_full d [vR 28, vI 3, vI 10] I (fun x1 I1 => ((x1 ≠ 0 → Q (some (vI 0)) (mk I1)) ∧ (x1 = 0 → CI mX7_word d [vR 28, vI 6] I1 (fun x2 I2 => ((x2 ≠ 0 → (-2147483648 ≤ (I2 15 3) * 4 ∧ (I2 15 3) * 4 ≤ 2147483647) ∧ CI mX7_askedCorner d [vR 28, vI (-1)] I2 (fun x3 I3 => ((0 : Int) ≤ ((I2 15 3) * 4) ∧ ((I2 15 3) * 4 : Int) < 40) ∧ (∀ I4 : HI, I4 = up I3 21 ((I2 15 3) * 4).toNat x3 → ((x3 = (-1) → Q (some (vI 0)) (mk I4)) ∧ (¬ (x3 = (-1)) → CI mX7_word d [vR 28, vI 11] I4 (fun x4 I5 => ((x4 = 0 → Q (some (vI 0)) (mk I5)) ∧ (¬ (x4 = 0) → CI mX7_number d [vR 28, vI 0, vI 999] I5 (fun x5 I6 => ((x5 ≠ 0 → (-2147483648 ≤ ((I2 15 3) * 4) + 1 ∧ ((I2 15 3) * 4) + 1 ≤ 2147483647) ∧ ((0 : Int) ≤ (((I2 15 3) * 4) + 1) ∧ (((I2 15 3) * 4) + 1 : Int) < 40) ∧ (∀ I7 : HI, I7 = up I6 21 (((I2 15 3) * 4) + 1).toNat (I6 28 10) → CI mX7_word d [vR 28, vI 12] I7 (fun x6 I8 => ((x6 = 0 → Q (some (vI 0)) (mk I8)) ∧ (¬ (x6 = 0) → CI mX7_number d [vR 28, vI (I8 28 10), vI 999] I8 (fun x7 I9 => ((x7 ≠ 0 → (-2147483648 ≤ ((I2 15 3) * 4) + 2 ∧ ((I2 15 3) * 4) + 2 ≤ 2147483647) ∧ ((0 : Int) ≤ (((I2 15 3) * 4) + 2) ∧ (((I2 15 3) * 4) + 2 : Int) < 40) ∧ (∀ I10 : HI, I10 = up I9 21 (((I2 15 3) * 4) + 2).toNat (I9 28 10) → CI mX7_word d [vR 28, vI 13] I10 (fun x8 I11 => ((x8 = 0 → Q (some (vI 0)) (mk I11)) ∧ (¬ (x8 = 0) → CI mX7_number d [vR 28, vI 1, vI 99] I11 (fun x9 I12 => ((x9 ≠ 0 → (-2147483648 ≤ ((I2 15 3) * 4) + 3 ∧ ((I2 15 3) * 4) + 3 ≤ 2147483647) ∧ ((0 : Int) ≤ (((I2 15 3) * 4) + 3) ∧ (((I2 15 3) * 4) + 3 : Int) < 40) ∧ (∀ I13 : HI, I13 = up I12 21 (((I2 15 3) * 4) + 3).toNat (I12 28 10) → (-2147483648 ≤ (I13 15 3) + 1 ∧ (I13 15 3) + 1 ≤ 2147483647) ∧ (∀ I14 : HI, I14 = up I13 15 3 ((I13 15 3) + 1) → Q (some (vI 1)) (mk I14)))) ∧ (x9 = 0 → Q (some (vI 0)) (mk I12))))))))) ∧ (x7 = 0 → Q (some (vI 0)) (mk I9))))))))) ∧ (x5 = 0 → Q (some (vI 0)) (mk I6)))))))))))) ∧ (x2 = 0 → Q (some (vI 0)) (mk I2)))))))) : J none mX7_tellBalcony (d + 1) 0 0 0 [(0, vR 28)] [] (mk I) Q := by
  refine J_aload_n dX7_tellBalcony_0 rfl rfl ?_
  refine J_iconst dX7_tellBalcony_1 (ii_c rfl) ?_
  refine J_bipush dX7_tellBalcony_2 (ii_c rfl) (by decide) ?_
  refine J_callV (as := [_, _]) (mc1 := 0) (ms1 := 0) (mc := 0) (ms := 0) dX7_tellBalcony_4 mv_X7_full lk_X7_99 sh_28 rfl (Nat.le_of_ble_eq_true rfl) (Nat.le_of_ble_eq_true rfl) h (fun r σ hq _ => ?_)
  obtain ⟨x1, I1, rfl, rfl, h⟩ := hq
  change J _ _ _ _ _ _ _ [vI x1] _ _
  refine J_if_ne (tgt := 19) dX7_tellBalcony_7 (by decide) (fun c => ?_) (fun c => ?_)
  · replace h := h.1 c
    refine J_iconst dX7_tellBalcony_19 (ii_c rfl) ?_
    exact J_retz dX7_tellBalcony_20 rfl (Or.inl rfl) h
  · replace h := h.2 c
    refine J_aload_n dX7_tellBalcony_10 rfl rfl ?_
    refine J_bipush dX7_tellBalcony_11 (ii_c rfl) (by decide) ?_
    refine J_callV (as := [_]) (mc1 := 0) (ms1 := 0) (mc := 0) (ms := 0) dX7_tellBalcony_13 mv_X7_word lk_X7_135 sh_28 rfl (Nat.le_of_ble_eq_true rfl) (Nat.le_of_ble_eq_true rfl) h (fun r σ hq _ => ?_)
    obtain ⟨x2, I2, rfl, rfl, h⟩ := hq
    change J _ _ _ _ _ _ _ [vI x2] _ _
    refine J_if_ne (tgt := 21) dX7_tellBalcony_16 (by decide) (fun c => ?_) (fun c => ?_)
    · replace h := h.1 c
      refine J_aload_n dX7_tellBalcony_21 rfl rfl ?_
      refine J_getR dX7_tellBalcony_22 ck_7 fw_X7_21 rfl sh_28 rr_28_0 ?_
      refine J_getR dX7_tellBalcony_25 ck_0 fw_X7_125 rfl sh_14 rr_14_0 ?_
      refine J_iconst dX7_tellBalcony_28 (ii_c rfl) ?_
      refine J_iald dX7_tellBalcony_29 sh_15 (by decide) (by decide) ?_
      refine J_iconst dX7_tellBalcony_30 (ii_c rfl) ?_
      refine J_imulN dX7_tellBalcony_31 h.1 ?_
      replace h := h.2
      refine J_istore_n dX7_tellBalcony_32 rfl (by decide) ?_
      refine J_aload_n dX7_tellBalcony_33 rfl rfl ?_
      refine J_iconst dX7_tellBalcony_34 (ii_c rfl) ?_
      refine J_callV (as := [_]) (mc1 := 0) (ms1 := 0) (mc := 0) (ms := 0) dX7_tellBalcony_35 mv_X7_askedCorner lk_X7_141 sh_28 rfl (Nat.le_of_ble_eq_true rfl) (Nat.le_of_ble_eq_true rfl) h (fun r σ hq _ => ?_)
      obtain ⟨x3, I3, rfl, rfl, h⟩ := hq
      change J _ _ _ _ _ _ _ [vI x3] _ _
      refine J_istore_n dX7_tellBalcony_38 rfl (by decide) ?_
      refine J_aload_n dX7_tellBalcony_39 rfl rfl ?_
      refine J_getR dX7_tellBalcony_40 ck_7 fw_X7_21 rfl sh_28 rr_28_0 ?_
      refine J_getR dX7_tellBalcony_43 ck_0 fw_X7_155 rfl sh_14 rr_14_6 ?_
      refine J_iload_n dX7_tellBalcony_46 rfl rfl ?_
      refine J_iload_n dX7_tellBalcony_47 rfl rfl ?_
      refine J_iast dX7_tellBalcony_48 sh_21 h.1.1 h.1.2 ?_
      replace h := h.2 _ rfl
      refine J_iload_n dX7_tellBalcony_49 rfl rfl ?_
      refine J_iconst dX7_tellBalcony_50 (ii_c rfl) ?_
      refine J_ic_eq (tgt := 74) dX7_tellBalcony_51 (by decide) (fun c => ?_) (fun c => ?_)
      · replace h := h.1 c
        refine J_iconst dX7_tellBalcony_74 (ii_c rfl) ?_
        exact J_retz dX7_tellBalcony_75 rfl (Or.inl rfl) h
      · replace h := h.2 c
        refine J_aload_n dX7_tellBalcony_54 rfl rfl ?_
        refine J_bipush dX7_tellBalcony_55 (ii_c rfl) (by decide) ?_
        refine J_callV (as := [_]) (mc1 := 0) (ms1 := 0) (mc := 0) (ms := 0) dX7_tellBalcony_57 mv_X7_word lk_X7_135 sh_28 rfl (Nat.le_of_ble_eq_true rfl) (Nat.le_of_ble_eq_true rfl) h (fun r σ hq _ => ?_)
        obtain ⟨x4, I5, rfl, rfl, h⟩ := hq
        change J _ _ _ _ _ _ _ [vI x4] _ _
        refine J_if_eq (tgt := 74) dX7_tellBalcony_60 (by decide) (fun c => ?_) (fun c => ?_)
        · replace h := h.1 c
          refine J_iconst dX7_tellBalcony_74 (ii_c rfl) ?_
          exact J_retz dX7_tellBalcony_75 rfl (Or.inl rfl) h
        · replace h := h.2 c
          refine J_aload_n dX7_tellBalcony_63 rfl rfl ?_
          refine J_iconst dX7_tellBalcony_64 (ii_c rfl) ?_
          refine J_sipush dX7_tellBalcony_65 (ii_c rfl) (by decide) ?_
          refine J_callV (as := [_, _]) (mc1 := 0) (ms1 := 0) (mc := 0) (ms := 0) dX7_tellBalcony_68 mv_X7_number lk_X7_110 sh_28 rfl (Nat.le_of_ble_eq_true rfl) (Nat.le_of_ble_eq_true rfl) h (fun r σ hq _ => ?_)
          obtain ⟨x5, I6, rfl, rfl, h⟩ := hq
          change J _ _ _ _ _ _ _ [vI x5] _ _
          refine J_if_ne (tgt := 76) dX7_tellBalcony_71 (by decide) (fun c => ?_) (fun c => ?_)
          · replace h := h.1 c
            refine J_aload_n dX7_tellBalcony_76 rfl rfl ?_
            refine J_getR dX7_tellBalcony_77 ck_7 fw_X7_21 rfl sh_28 rr_28_0 ?_
            refine J_getR dX7_tellBalcony_80 ck_0 fw_X7_155 rfl sh_14 rr_14_6 ?_
            refine J_iload_n dX7_tellBalcony_83 rfl rfl ?_
            refine J_iconst dX7_tellBalcony_84 (ii_c rfl) ?_
            refine J_iaddN dX7_tellBalcony_85 h.1 ?_
            replace h := h.2
            refine J_aload_n dX7_tellBalcony_86 rfl rfl ?_
            refine J_getI dX7_tellBalcony_87 ck_7 fw_X7_113 rfl sh_28 ?_
            refine J_iast dX7_tellBalcony_90 sh_21 h.1.1 h.1.2 ?_
            replace h := h.2 _ rfl
            refine J_aload_n dX7_tellBalcony_91 rfl rfl ?_
            refine J_bipush dX7_tellBalcony_92 (ii_c rfl) (by decide) ?_
            refine J_callV (as := [_]) (mc1 := 0) (ms1 := 0) (mc := 0) (ms := 0) dX7_tellBalcony_94 mv_X7_word lk_X7_135 sh_28 rfl (Nat.le_of_ble_eq_true rfl) (Nat.le_of_ble_eq_true rfl) h (fun r σ hq _ => ?_)
            obtain ⟨x6, I8, rfl, rfl, h⟩ := hq
            change J _ _ _ _ _ _ _ [vI x6] _ _
            refine J_if_eq (tgt := 114) dX7_tellBalcony_97 (by decide) (fun c => ?_) (fun c => ?_)
            · replace h := h.1 c
              refine J_iconst dX7_tellBalcony_114 (ii_c rfl) ?_
              exact J_retz dX7_tellBalcony_115 rfl (Or.inl rfl) h
            · replace h := h.2 c
              refine J_aload_n dX7_tellBalcony_100 rfl rfl ?_
              refine J_aload_n dX7_tellBalcony_101 rfl rfl ?_
              refine J_getI dX7_tellBalcony_102 ck_7 fw_X7_113 rfl sh_28 ?_
              refine J_sipush dX7_tellBalcony_105 (ii_c rfl) (by decide) ?_
              refine J_callV (as := [_, _]) (mc1 := 0) (ms1 := 0) (mc := 0) (ms := 0) dX7_tellBalcony_108 mv_X7_number lk_X7_110 sh_28 rfl (Nat.le_of_ble_eq_true rfl) (Nat.le_of_ble_eq_true rfl) h (fun r σ hq _ => ?_)
              obtain ⟨x7, I9, rfl, rfl, h⟩ := hq
              change J _ _ _ _ _ _ _ [vI x7] _ _
              refine J_if_ne (tgt := 116) dX7_tellBalcony_111 (by decide) (fun c => ?_) (fun c => ?_)
              · replace h := h.1 c
                refine J_aload_n dX7_tellBalcony_116 rfl rfl ?_
                refine J_getR dX7_tellBalcony_117 ck_7 fw_X7_21 rfl sh_28 rr_28_0 ?_
                refine J_getR dX7_tellBalcony_120 ck_0 fw_X7_155 rfl sh_14 rr_14_6 ?_
                refine J_iload_n dX7_tellBalcony_123 rfl rfl ?_
                refine J_iconst dX7_tellBalcony_124 (ii_c rfl) ?_
                refine J_iaddN dX7_tellBalcony_125 h.1 ?_
                replace h := h.2
                refine J_aload_n dX7_tellBalcony_126 rfl rfl ?_
                refine J_getI dX7_tellBalcony_127 ck_7 fw_X7_113 rfl sh_28 ?_
                refine J_iast dX7_tellBalcony_130 sh_21 h.1.1 h.1.2 ?_
                replace h := h.2 _ rfl
                refine J_aload_n dX7_tellBalcony_131 rfl rfl ?_
                refine J_bipush dX7_tellBalcony_132 (ii_c rfl) (by decide) ?_
                refine J_callV (as := [_]) (mc1 := 0) (ms1 := 0) (mc := 0) (ms := 0) dX7_tellBalcony_134 mv_X7_word lk_X7_135 sh_28 rfl (Nat.le_of_ble_eq_true rfl) (Nat.le_of_ble_eq_true rfl) h (fun r σ hq _ => ?_)
                obtain ⟨x8, I11, rfl, rfl, h⟩ := hq
                change J _ _ _ _ _ _ _ [vI x8] _ _
                refine J_if_eq (tgt := 150) dX7_tellBalcony_137 (by decide) (fun c => ?_) (fun c => ?_)
                · replace h := h.1 c
                  refine J_iconst dX7_tellBalcony_150 (ii_c rfl) ?_
                  exact J_retz dX7_tellBalcony_151 rfl (Or.inl rfl) h
                · replace h := h.2 c
                  refine J_aload_n dX7_tellBalcony_140 rfl rfl ?_
                  refine J_iconst dX7_tellBalcony_141 (ii_c rfl) ?_
                  refine J_bipush dX7_tellBalcony_142 (ii_c rfl) (by decide) ?_
                  refine J_callV (as := [_, _]) (mc1 := 0) (ms1 := 0) (mc := 0) (ms := 0) dX7_tellBalcony_144 mv_X7_number lk_X7_110 sh_28 rfl (Nat.le_of_ble_eq_true rfl) (Nat.le_of_ble_eq_true rfl) h (fun r σ hq _ => ?_)
                  obtain ⟨x9, I12, rfl, rfl, h⟩ := hq
                  change J _ _ _ _ _ _ _ [vI x9] _ _
                  refine J_if_ne (tgt := 152) dX7_tellBalcony_147 (by decide) (fun c => ?_) (fun c => ?_)
                  · replace h := h.1 c
                    refine J_aload_n dX7_tellBalcony_152 rfl rfl ?_
                    refine J_getR dX7_tellBalcony_153 ck_7 fw_X7_21 rfl sh_28 rr_28_0 ?_
                    refine J_getR dX7_tellBalcony_156 ck_0 fw_X7_155 rfl sh_14 rr_14_6 ?_
                    refine J_iload_n dX7_tellBalcony_159 rfl rfl ?_
                    refine J_iconst dX7_tellBalcony_160 (ii_c rfl) ?_
                    refine J_iaddN dX7_tellBalcony_161 h.1 ?_
                    replace h := h.2
                    refine J_aload_n dX7_tellBalcony_162 rfl rfl ?_
                    refine J_getI dX7_tellBalcony_163 ck_7 fw_X7_113 rfl sh_28 ?_
                    refine J_iast dX7_tellBalcony_166 sh_21 h.1.1 h.1.2 ?_
                    replace h := h.2 _ rfl
                    refine J_aload_n dX7_tellBalcony_167 rfl rfl ?_
                    refine J_getR dX7_tellBalcony_168 ck_7 fw_X7_21 rfl sh_28 rr_28_0 ?_
                    refine J_getR dX7_tellBalcony_171 ck_0 fw_X7_125 rfl sh_14 rr_14_0 ?_
                    refine J_iconst dX7_tellBalcony_174 (ii_c rfl) ?_
                    refine J_dup2 dX7_tellBalcony_175 rfl rfl ?_
                    refine J_iald dX7_tellBalcony_176 sh_15 (by decide) (by decide) ?_
                    refine J_iconst dX7_tellBalcony_177 (ii_c rfl) ?_
                    refine J_iaddN dX7_tellBalcony_178 h.1 ?_
                    replace h := h.2
                    refine J_iast dX7_tellBalcony_179 sh_15 (by decide) (by decide) ?_
                    replace h := h _ rfl
                    refine J_iconst dX7_tellBalcony_180 (ii_c rfl) ?_
                    exact J_retz dX7_tellBalcony_181 rfl (Or.inr rfl) h
                  · replace h := h.2 c
                    refine J_iconst dX7_tellBalcony_150 (ii_c rfl) ?_
                    exact J_retz dX7_tellBalcony_151 rfl (Or.inl rfl) h
              · replace h := h.2 c
                refine J_iconst dX7_tellBalcony_114 (ii_c rfl) ?_
                exact J_retz dX7_tellBalcony_115 rfl (Or.inl rfl) h
          · replace h := h.2 c
            refine J_iconst dX7_tellBalcony_74 (ii_c rfl) ?_
            exact J_retz dX7_tellBalcony_75 rfl (Or.inl rfl) h
    · replace h := h.2 c
      refine J_iconst dX7_tellBalcony_19 (ii_c rfl) ?_
      exact J_retz dX7_tellBalcony_20 rfl (Or.inl rfl) h
set_option maxRecDepth 20000 in
set_option maxHeartbeats 2000000 in
theorem bk_X7_exceptionStands_0 {d : Nat} {I : HI} {Q : Option AV → AH → Prop}   (h : (-2147483648 ≤ (I 15 4) + 1 ∧ (I 15 4) + 1 ≤ 2147483647) ∧ (∀ I1 : HI, I1 = up I 15 4 ((I 15 4) + 1) → ((0 : Int) ≤ (I 15 4) ∧ (I 15 4 : Int) < 6) ∧ (∀ I2 : HI, I2 = up I1 24 (I 15 4).toNat (I1 28 11) → (-2147483648 ≤ (I 15 4) + 1 ∧ (I 15 4) + 1 ≤ 2147483647) ∧ ((0 : Int) ≤ ((I 15 4) + 1) ∧ ((I 15 4) + 1 : Int) < 7) ∧ (∀ I3 : HI, I3 = up I2 23 ((I 15 4) + 1).toNat (I2 28 12) → Q (some (vI 1)) (mk I3))))) : J none mX7_exceptionStands (d + 1) 0 0 0 [(0, vR 28)] [] (mk I) Q := by
  refine J_aload_n dX7_exceptionStands_0 rfl rfl ?_
  refine J_getR dX7_exceptionStands_1 ck_7 fw_X7_21 rfl sh_28 rr_28_0 ?_
  refine J_getR dX7_exceptionStands_4 ck_0 fw_X7_125 rfl sh_14 rr_14_0 ?_
  refine J_iconst dX7_exceptionStands_7 (ii_c rfl) ?_
  refine J_dup2 dX7_exceptionStands_8 rfl rfl ?_
  refine J_iald dX7_exceptionStands_9 sh_15 (by decide) (by decide) ?_
  refine J_dup_x2 dX7_exceptionStands_10 rfl rfl rfl ?_
  refine J_iconst dX7_exceptionStands_11 (ii_c rfl) ?_
  refine J_iaddN dX7_exceptionStands_12 h.1 ?_
  replace h := h.2
  refine J_iast dX7_exceptionStands_13 sh_15 (by decide) (by decide) ?_
  replace h := h _ rfl
  refine J_istore_n dX7_exceptionStands_14 rfl (by decide) ?_
  refine J_aload_n dX7_exceptionStands_15 rfl rfl ?_
  refine J_getR dX7_exceptionStands_16 ck_7 fw_X7_21 rfl sh_28 rr_28_0 ?_
  refine J_getR dX7_exceptionStands_19 ck_0 fw_X7_158 rfl sh_14 rr_14_9 ?_
  refine J_iload_n dX7_exceptionStands_22 rfl rfl ?_
  refine J_aload_n dX7_exceptionStands_23 rfl rfl ?_
  refine J_getI dX7_exceptionStands_24 ck_7 fw_X7_76 rfl sh_28 ?_
  refine J_iast dX7_exceptionStands_27 sh_24 h.1.1 h.1.2 ?_
  replace h := h.2 _ rfl
  refine J_aload_n dX7_exceptionStands_28 rfl rfl ?_
  refine J_getR dX7_exceptionStands_29 ck_7 fw_X7_21 rfl sh_28 rr_28_0 ?_
  refine J_getR dX7_exceptionStands_32 ck_0 fw_X7_161 rfl sh_14 rr_14_8 ?_
  refine J_iload_n dX7_exceptionStands_35 rfl rfl ?_
  refine J_iconst dX7_exceptionStands_36 (ii_c rfl) ?_
  refine J_iaddN dX7_exceptionStands_37 h.1 ?_
  replace h := h.2
  refine J_aload_n dX7_exceptionStands_38 rfl rfl ?_
  refine J_getI dX7_exceptionStands_39 ck_7 fw_X7_48 rfl sh_28 ?_
  refine J_iast dX7_exceptionStands_42 sh_23 h.1.1 h.1.2 ?_
  replace h := h.2 _ rfl
  refine J_iconst dX7_exceptionStands_43 (ii_c rfl) ?_
  exact J_retz dX7_exceptionStands_44 rfl (Or.inr rfl) h
set_option maxRecDepth 20000 in
set_option maxHeartbeats 2000000 in
theorem bk_X7_word_0 {d : Nat} {I : HI} {Q : Option AV → AH → Prop} {a1 : Int}  (h : (((I 28 8) ≠ a1 → CI mX7_fail d [vR 28, vI 1, vI (I 28 6)] I (fun x1 I1 => (x1 = 0 ∨ x1 = 1) ∧ Q (some (vI x1)) (mk I1))) ∧ ((I 28 8) = a1 → (((I 28 9) = 0 → CV mX7_advance d [vR 28] I (fun I2 => Q (some (vI 1)) (mk I2))) ∧ (¬ ((I 28 9) = 0) → CI mX7_fail d [vR 28, vI 1, vI (I 28 6)] I (fun x3 I3 => (x3 = 0 ∨ x3 = 1) ∧ Q (some (vI x3)) (mk I3))))))) : J none mX7_word (d + 1) 0 0 0 [(0, vR 28), (1, vI a1)] [] (mk I) Q := by
  refine J_aload_n dX7_word_0 rfl rfl ?_
  refine J_getI dX7_word_1 ck_7 fw_X7_45 rfl sh_28 ?_
  refine J_iload_n dX7_word_4 rfl rfl ?_
  refine J_ic_ne (tgt := 15) dX7_word_5 (by decide) (fun c => ?_) (fun c => ?_)
  · replace h := h.1 c
    refine J_aload_n dX7_word_15 rfl rfl ?_
    refine J_iconst dX7_word_16 (ii_c rfl) ?_
    refine J_aload_n dX7_word_17 rfl rfl ?_
    refine J_getI dX7_word_18 ck_7 fw_X7_79 rfl sh_28 ?_
    refine J_callV (as := [_, _]) (mc1 := 0) (ms1 := 0) (mc := 0) (ms := 0) dX7_word_21 mv_X7_fail lk_X7_119 sh_28 rfl (Nat.le_of_ble_eq_true rfl) (Nat.le_of_ble_eq_true rfl) h (fun r σ hq _ => ?_)
    obtain ⟨x1, I1, rfl, rfl, h⟩ := hq
    change J _ _ _ _ _ _ _ [vI x1] _ _
    exact J_retz dX7_word_24 rfl h.1 h.2
  · replace h := h.2 c
    refine J_aload_n dX7_word_8 rfl rfl ?_
    refine J_getI dX7_word_9 ck_7 fw_X7_82 rfl sh_28 ?_
    refine J_if_eq (tgt := 25) dX7_word_12 (by decide) (fun c => ?_) (fun c => ?_)
    · replace h := h.1 c
      refine J_aload_n dX7_word_25 rfl rfl ?_
      refine J_callV (as := []) (mc1 := 0) (ms1 := 0) (mc := 0) (ms := 0) dX7_word_26 mv_X7_advance lk_X7_62 sh_28 rfl (Nat.le_of_ble_eq_true rfl) (Nat.le_of_ble_eq_true rfl) h (fun r σ hq _ => ?_)
      obtain ⟨I2, rfl, rfl, h⟩ := hq
      change J _ _ _ _ _ _ _ [] _ _
      refine J_iconst dX7_word_29 (ii_c rfl) ?_
      exact J_retz dX7_word_30 rfl (Or.inr rfl) h
    · replace h := h.2 c
      refine J_aload_n dX7_word_15 rfl rfl ?_
      refine J_iconst dX7_word_16 (ii_c rfl) ?_
      refine J_aload_n dX7_word_17 rfl rfl ?_
      refine J_getI dX7_word_18 ck_7 fw_X7_79 rfl sh_28 ?_
      refine J_callV (as := [_, _]) (mc1 := 0) (ms1 := 0) (mc := 0) (ms := 0) dX7_word_21 mv_X7_fail lk_X7_119 sh_28 rfl (Nat.le_of_ble_eq_true rfl) (Nat.le_of_ble_eq_true rfl) h (fun r σ hq _ => ?_)
      obtain ⟨x3, I3, rfl, rfl, h⟩ := hq
      change J _ _ _ _ _ _ _ [vI x3] _ _
      exact J_retz dX7_word_24 rfl h.1 h.2
set_option maxRecDepth 20000 in
set_option maxHeartbeats 2000000 in
theorem bk_X7_isSign_0 {d : Nat} {I : HI} {Q : Option AV → AH → Prop} {a1 : Int}  (h : (((I 28 8) ≠ 29 → Q (some (vI 0)) (mk I)) ∧ ((I 28 8) = 29 → ((0 : Int) ≤ (I 28 6) ∧ (I 28 6 : Int) < 1600) ∧ (((I 27 (I 28 6).toNat) ≠ a1 → Q (some (vI 0)) (mk I)) ∧ ((I 27 (I 28 6).toNat) = a1 → Q (some (vI 1)) (mk I)))))) : J none mX7_isSign (d + 1) 0 0 0 [(0, vR 28), (1, vI a1)] [] (mk I) Q := by
  refine J_aload_n dX7_isSign_0 rfl rfl ?_
  refine J_getI dX7_isSign_1 ck_7 fw_X7_45 rfl sh_28 ?_
  refine J_bipush dX7_isSign_4 (ii_c rfl) (by decide) ?_
  refine J_ic_ne (tgt := 26) dX7_isSign_6 (by decide) (fun c => ?_) (fun c => ?_)
  · replace h := h.1 c
    refine J_iconst dX7_isSign_26 (ii_c rfl) ?_
    exact J_retz dX7_isSign_27 rfl (Or.inl rfl) h
  · replace h := h.2 c
    refine J_aload_n dX7_isSign_9 rfl rfl ?_
    refine J_getR dX7_isSign_10 ck_7 fw_X7_25 rfl sh_28 rr_28_1 ?_
    refine J_aload_n dX7_isSign_13 rfl rfl ?_
    refine J_getI dX7_isSign_14 ck_7 fw_X7_79 rfl sh_28 ?_
    refine J_iald dX7_isSign_17 sh_27 h.1.1 h.1.2 ?_
    replace h := h.2
    refine J_iload_n dX7_isSign_18 rfl rfl ?_
    refine J_ic_ne (tgt := 26) dX7_isSign_19 (by decide) (fun c => ?_) (fun c => ?_)
    · replace h := h.1 c
      refine J_iconst dX7_isSign_26 (ii_c rfl) ?_
      exact J_retz dX7_isSign_27 rfl (Or.inl rfl) h
    · replace h := h.2 c
      refine J_iconst dX7_isSign_22 (ii_c rfl) ?_
      refine J_goto (tgt := 27) dX7_isSign_23 (by decide) ?_
      exact J_retz dX7_isSign_27 rfl (Or.inr rfl) h
set_option maxRecDepth 20000 in
set_option maxHeartbeats 2000000 in
theorem bk_X7_sign_0 {d : Nat} {I : HI} {Q : Option AV → AH → Prop} {a1 : Int}  (h : CI mX7_isSign d [vR 28, vI a1] I (fun x1 I1 => ((x1 ≠ 0 → CV mX7_advance d [vR 28] I1 (fun I2 => Q (some (vI 1)) (mk I2))) ∧ (x1 = 0 → CI mX7_fail d [vR 28, vI 1, vI (I1 28 6)] I1 (fun x3 I3 => (x3 = 0 ∨ x3 = 1) ∧ Q (some (vI x3)) (mk I3)))))) : J none mX7_sign (d + 1) 0 0 0 [(0, vR 28), (1, vI a1)] [] (mk I) Q := by
  refine J_aload_n dX7_sign_0 rfl rfl ?_
  refine J_iload_n dX7_sign_1 rfl rfl ?_
  refine J_callV (as := [_]) (mc1 := 0) (ms1 := 0) (mc := 0) (ms := 0) dX7_sign_2 mv_X7_isSign lk_X7_164 sh_28 rfl (Nat.le_of_ble_eq_true rfl) (Nat.le_of_ble_eq_true rfl) h (fun r σ hq _ => ?_)
  obtain ⟨x1, I1, rfl, rfl, h⟩ := hq
  change J _ _ _ _ _ _ _ [vI x1] _ _
  refine J_if_ne (tgt := 18) dX7_sign_5 (by decide) (fun c => ?_) (fun c => ?_)
  · replace h := h.1 c
    refine J_aload_n dX7_sign_18 rfl rfl ?_
    refine J_callV (as := []) (mc1 := 0) (ms1 := 0) (mc := 0) (ms := 0) dX7_sign_19 mv_X7_advance lk_X7_62 sh_28 rfl (Nat.le_of_ble_eq_true rfl) (Nat.le_of_ble_eq_true rfl) h (fun r σ hq _ => ?_)
    obtain ⟨I2, rfl, rfl, h⟩ := hq
    change J _ _ _ _ _ _ _ [] _ _
    refine J_iconst dX7_sign_22 (ii_c rfl) ?_
    exact J_retz dX7_sign_23 rfl (Or.inr rfl) h
  · replace h := h.2 c
    refine J_aload_n dX7_sign_8 rfl rfl ?_
    refine J_iconst dX7_sign_9 (ii_c rfl) ?_
    refine J_aload_n dX7_sign_10 rfl rfl ?_
    refine J_getI dX7_sign_11 ck_7 fw_X7_79 rfl sh_28 ?_
    refine J_callV (as := [_, _]) (mc1 := 0) (ms1 := 0) (mc := 0) (ms := 0) dX7_sign_14 mv_X7_fail lk_X7_119 sh_28 rfl (Nat.le_of_ble_eq_true rfl) (Nat.le_of_ble_eq_true rfl) h (fun r σ hq _ => ?_)
    obtain ⟨x3, I3, rfl, rfl, h⟩ := hq
    change J _ _ _ _ _ _ _ [vI x3] _ _
    exact J_retz dX7_sign_17 rfl h.1 h.2
