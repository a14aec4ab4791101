set_option maxRecDepth 20000 in
set_option maxHeartbeats 2000000 in
theorem bk_J6_numberOfTrailingZeros_0f7a4_0 {d : Nat} {I : HI} {Q : Option AV → AH → Prop} {a0 : Int}  (h : ((0 < (oA (oX a0 (-1)) (wr (a0 - 1))) → (((oA (oX a0 (-1)) (wr (a0 - 1))) ≤ 65536 → (((oA (oX a0 (-1)) (wr (a0 - 1))) ≤ 256 → J none mJ6_numberOfTrailingZeros_0f7a4 (d + 1) 0 0 49 [(0, vI (oA (oX a0 (-1)) (wr (a0 - 1)))), (1, vI 1)] [] (mk I) Q) ∧ (¬ ((oA (oX a0 (-1)) (wr (a0 - 1))) ≤ 256) → J none mJ6_numberOfTrailingZeros_0f7a4 (d + 1) 0 0 49 [(0, vI (oUr (oA (oX a0 (-1)) (wr (a0 - 1))) 8)), (1, vI 9)] [] (mk I) Q))) ∧ (¬ ((oA (oX a0 (-1)) (wr (a0 - 1))) ≤ 65536) → (((oUr (oA (oX a0 (-1)) (wr (a0 - 1))) 16) ≤ 256 → J none mJ6_numberOfTrailingZeros_0f7a4 (d + 1) 0 0 49 [(0, vI (oUr (oA (oX a0 (-1)) (wr (a0 - 1))) 16)), (1, vI 17)] [] (mk I) Q) ∧ (¬ ((oUr (oA (oX a0 (-1)) (wr (a0 - 1))) 16) ≤ 256) → J none mJ6_numberOfTrailingZeros_0f7a4 (d + 1) 0 0 49 [(0, vI (oUr (oUr (oA (oX a0 (-1)) (wr (a0 - 1))) 16) 8)), (1, vI 25)] [] (mk I) Q))))) ∧ (¬ (0 < (oA (oX a0 (-1)) (wr (a0 - 1)))) → Q (some (vI (oA (oA (oX a0 (-1)) (wr (a0 - 1))) 32))) (mk I)))) : J none mJ6_numberOfTrailingZeros_0f7a4 (d + 1) 0 0 0 [(0, vI a0)] [] (mk I) Q := by
  refine J_iload_n dJ6_numberOfTrailingZeros_0f7a4_0 rfl rfl ?_
  refine J_iconst dJ6_numberOfTrailingZeros_0f7a4_1 (ii_c rfl) ?_
  refine J_ixor dJ6_numberOfTrailingZeros_0f7a4_2 ?_
  refine J_iload_n dJ6_numberOfTrailingZeros_0f7a4_3 rfl rfl ?_
  refine J_iconst dJ6_numberOfTrailingZeros_0f7a4_4 (ii_c rfl) ?_
  refine J_isub dJ6_numberOfTrailingZeros_0f7a4_5 ?_
  refine J_iand dJ6_numberOfTrailingZeros_0f7a4_6 ?_
  refine J_istore_n dJ6_numberOfTrailingZeros_0f7a4_7 rfl (by decide) ?_
  change J _ _ _ _ _ _ [(0, _)] _ _ _
  refine J_iload_n dJ6_numberOfTrailingZeros_0f7a4_8 rfl rfl ?_
  refine J_if_gt (tgt := 17) dJ6_numberOfTrailingZeros_0f7a4_9 (by decide) (fun c => ?_) (fun c => ?_)
  · replace h := h.1 c
    refine J_iconst dJ6_numberOfTrailingZeros_0f7a4_17 (ii_c rfl) ?_
    refine J_istore_n dJ6_numberOfTrailingZeros_0f7a4_18 rfl (by decide) ?_
    change J _ _ _ _ _ _ [(0, _), (1, _)] _ _ _
    refine J_iload_n dJ6_numberOfTrailingZeros_0f7a4_19 rfl rfl ?_
    refine J_ldcw 65536 dJ6_numberOfTrailingZeros_0f7a4_20 kw_J6_264 (ii_c rfl) ?_
    refine J_ic_le (tgt := 34) dJ6_numberOfTrailingZeros_0f7a4_23 (by decide) (fun c => ?_) (fun c => ?_)
    · replace h := h.1 c
      refine J_iload_n dJ6_numberOfTrailingZeros_0f7a4_34 rfl rfl ?_
      refine J_sipush dJ6_numberOfTrailingZeros_0f7a4_35 (ii_c rfl) (by decide) ?_
      refine J_ic_le (tgt := 49) dJ6_numberOfTrailingZeros_0f7a4_38 (by decide) (fun c => ?_) (fun c => ?_)
      · replace h := h.1 c
        exact h
      · replace h := h.2 c
        refine J_iincN dJ6_numberOfTrailingZeros_0f7a4_41 rfl (by decide) (by decide) ?_
        refine J_iload_n dJ6_numberOfTrailingZeros_0f7a4_44 rfl rfl ?_
        refine J_bipush dJ6_numberOfTrailingZeros_0f7a4_45 (ii_c rfl) (by decide) ?_
        refine J_iushr dJ6_numberOfTrailingZeros_0f7a4_47 ?_
        refine J_istore_n dJ6_numberOfTrailingZeros_0f7a4_48 rfl (by decide) ?_
        change J _ _ _ _ _ _ [(0, _), (1, _)] _ _ _
        exact h
    · replace h := h.2 c
      refine J_iincN dJ6_numberOfTrailingZeros_0f7a4_26 rfl (by decide) (by decide) ?_
      refine J_iload_n dJ6_numberOfTrailingZeros_0f7a4_29 rfl rfl ?_
      refine J_bipush dJ6_numberOfTrailingZeros_0f7a4_30 (ii_c rfl) (by decide) ?_
      refine J_iushr dJ6_numberOfTrailingZeros_0f7a4_32 ?_
      refine J_istore_n dJ6_numberOfTrailingZeros_0f7a4_33 rfl (by decide) ?_
      change J _ _ _ _ _ _ [(0, _), (1, _)] _ _ _
      refine J_iload_n dJ6_numberOfTrailingZeros_0f7a4_34 rfl rfl ?_
      refine J_sipush dJ6_numberOfTrailingZeros_0f7a4_35 (ii_c rfl) (by decide) ?_
      refine J_ic_le (tgt := 49) dJ6_numberOfTrailingZeros_0f7a4_38 (by decide) (fun c => ?_) (fun c => ?_)
      · replace h := h.1 c
        exact h
      · replace h := h.2 c
        refine J_iincN dJ6_numberOfTrailingZeros_0f7a4_41 rfl (by decide) (by decide) ?_
        refine J_iload_n dJ6_numberOfTrailingZeros_0f7a4_44 rfl rfl ?_
        refine J_bipush dJ6_numberOfTrailingZeros_0f7a4_45 (ii_c rfl) (by decide) ?_
        refine J_iushr dJ6_numberOfTrailingZeros_0f7a4_47 ?_
        refine J_istore_n dJ6_numberOfTrailingZeros_0f7a4_48 rfl (by decide) ?_
        change J _ _ _ _ _ _ [(0, _), (1, _)] _ _ _
        exact h
  · replace h := h.2 c
    refine J_iload_n dJ6_numberOfTrailingZeros_0f7a4_12 rfl rfl ?_
    refine J_bipush dJ6_numberOfTrailingZeros_0f7a4_13 (ii_c rfl) (by decide) ?_
    refine J_iand dJ6_numberOfTrailingZeros_0f7a4_15 ?_
    exact J_reti dJ6_numberOfTrailingZeros_0f7a4_16 rfl h
set_option maxRecDepth 20000 in
set_option maxHeartbeats 2000000 in
theorem bk_J6_numberOfTrailingZeros_0f7a4_49 {d : Nat} {I : HI} {Q : Option AV → AH → Prop} {a0 : Int} {a1 : Int}  (h : ((a0 ≤ 16 → ((a0 ≤ 4 → Q (some (vI (wr (a1 + (oUr a0 1))))) (mk I)) ∧ (¬ (a0 ≤ 4) → (-2147483648 ≤ a1 + 2 ∧ a1 + 2 ≤ 2147483647) ∧ Q (some (vI (wr ((a1 + 2) + (oUr (oUr a0 2) 1))))) (mk I)))) ∧ (¬ (a0 ≤ 16) → (-2147483648 ≤ a1 + 4 ∧ a1 + 4 ≤ 2147483647) ∧ (((oUr a0 4) ≤ 4 → Q (some (vI (wr ((a1 + 4) + (oUr (oUr a0 4) 1))))) (mk I)) ∧ (¬ ((oUr a0 4) ≤ 4) → (-2147483648 ≤ (a1 + 4) + 2 ∧ (a1 + 4) + 2 ≤ 2147483647) ∧ Q (some (vI (wr (((a1 + 4) + 2) + (oUr (oUr (oUr a0 4) 2) 1))))) (mk I)))))) : J none mJ6_numberOfTrailingZeros_0f7a4 (d + 1) 0 0 49 [(0, vI a0), (1, vI a1)] [] (mk I) Q := by
  refine J_iload_n dJ6_numberOfTrailingZeros_0f7a4_49 rfl rfl ?_
  refine J_bipush dJ6_numberOfTrailingZeros_0f7a4_50 (ii_c rfl) (by decide) ?_
  refine J_ic_le (tgt := 62) dJ6_numberOfTrailingZeros_0f7a4_52 (by decide) (fun c => ?_) (fun c => ?_)
  · replace h := h.1 c
    refine J_iload_n dJ6_numberOfTrailingZeros_0f7a4_62 rfl rfl ?_
    refine J_iconst dJ6_numberOfTrailingZeros_0f7a4_63 (ii_c rfl) ?_
    refine J_ic_le (tgt := 74) dJ6_numberOfTrailingZeros_0f7a4_64 (by decide) (fun c => ?_) (fun c => ?_)
    · replace h := h.1 c
      refine J_iload_n dJ6_numberOfTrailingZeros_0f7a4_74 rfl rfl ?_
      refine J_iload_n dJ6_numberOfTrailingZeros_0f7a4_75 rfl rfl ?_
      refine J_iconst dJ6_numberOfTrailingZeros_0f7a4_76 (ii_c rfl) ?_
      refine J_iushr dJ6_numberOfTrailingZeros_0f7a4_77 ?_
      refine J_iadd dJ6_numberOfTrailingZeros_0f7a4_78 ?_
      exact J_reti dJ6_numberOfTrailingZeros_0f7a4_79 rfl h
    · replace h := h.2 c
      refine J_iincN dJ6_numberOfTrailingZeros_0f7a4_67 rfl (by decide) h.1 ?_
      replace h := h.2
      change J _ _ _ _ _ _ [(0, _), (1, _)] _ _ _
      refine J_iload_n dJ6_numberOfTrailingZeros_0f7a4_70 rfl rfl ?_
      refine J_iconst dJ6_numberOfTrailingZeros_0f7a4_71 (ii_c rfl) ?_
      refine J_iushr dJ6_numberOfTrailingZeros_0f7a4_72 ?_
      refine J_istore_n dJ6_numberOfTrailingZeros_0f7a4_73 rfl (by decide) ?_
      change J _ _ _ _ _ _ [(0, _), (1, _)] _ _ _
      refine J_iload_n dJ6_numberOfTrailingZeros_0f7a4_74 rfl rfl ?_
      refine J_iload_n dJ6_numberOfTrailingZeros_0f7a4_75 rfl rfl ?_
      refine J_iconst dJ6_numberOfTrailingZeros_0f7a4_76 (ii_c rfl) ?_
      refine J_iushr dJ6_numberOfTrailingZeros_0f7a4_77 ?_
      refine J_iadd dJ6_numberOfTrailingZeros_0f7a4_78 ?_
      exact J_reti dJ6_numberOfTrailingZeros_0f7a4_79 rfl h
  · replace h := h.2 c
    refine J_iincN dJ6_numberOfTrailingZeros_0f7a4_55 rfl (by decide) h.1 ?_
    replace h := h.2
    change J _ _ _ _ _ _ [(0, _), (1, _)] _ _ _
    refine J_iload_n dJ6_numberOfTrailingZeros_0f7a4_58 rfl rfl ?_
    refine J_iconst dJ6_numberOfTrailingZeros_0f7a4_59 (ii_c rfl) ?_
    refine J_iushr dJ6_numberOfTrailingZeros_0f7a4_60 ?_
    refine J_istore_n dJ6_numberOfTrailingZeros_0f7a4_61 rfl (by decide) ?_
    change J _ _ _ _ _ _ [(0, _), (1, _)] _ _ _
    refine J_iload_n dJ6_numberOfTrailingZeros_0f7a4_62 rfl rfl ?_
    refine J_iconst dJ6_numberOfTrailingZeros_0f7a4_63 (ii_c rfl) ?_
    refine J_ic_le (tgt := 74) dJ6_numberOfTrailingZeros_0f7a4_64 (by decide) (fun c => ?_) (fun c => ?_)
    · replace h := h.1 c
      refine J_iload_n dJ6_numberOfTrailingZeros_0f7a4_74 rfl rfl ?_
      refine J_iload_n dJ6_numberOfTrailingZeros_0f7a4_75 rfl rfl ?_
      refine J_iconst dJ6_numberOfTrailingZeros_0f7a4_76 (ii_c rfl) ?_
      refine J_iushr dJ6_numberOfTrailingZeros_0f7a4_77 ?_
      refine J_iadd dJ6_numberOfTrailingZeros_0f7a4_78 ?_
      exact J_reti dJ6_numberOfTrailingZeros_0f7a4_79 rfl h
    · replace h := h.2 c
      refine J_iincN dJ6_numberOfTrailingZeros_0f7a4_67 rfl (by decide) h.1 ?_
      replace h := h.2
      change J _ _ _ _ _ _ [(0, _), (1, _)] _ _ _
      refine J_iload_n dJ6_numberOfTrailingZeros_0f7a4_70 rfl rfl ?_
      refine J_iconst dJ6_numberOfTrailingZeros_0f7a4_71 (ii_c rfl) ?_
      refine J_iushr dJ6_numberOfTrailingZeros_0f7a4_72 ?_
      refine J_istore_n dJ6_numberOfTrailingZeros_0f7a4_73 rfl (by decide) ?_
      change J _ _ _ _ _ _ [(0, _), (1, _)] _ _ _
      refine J_iload_n dJ6_numberOfTrailingZeros_0f7a4_74 rfl rfl ?_
      refine J_iload_n dJ6_numberOfTrailingZeros_0f7a4_75 rfl rfl ?_
      refine J_iconst dJ6_numberOfTrailingZeros_0f7a4_76 (ii_c rfl) ?_
      refine J_iushr dJ6_numberOfTrailingZeros_0f7a4_77 ?_
      refine J_iadd dJ6_numberOfTrailingZeros_0f7a4_78 ?_
      exact J_reti dJ6_numberOfTrailingZeros_0f7a4_79 rfl h
set_option maxRecDepth 20000 in
set_option maxHeartbeats 2000000 in
theorem bk_J6_bitCount_0f7a4_0 {d : Nat} {I : HI} {Q : Option AV → AH → Prop} {a0 : Int}  (h : Q (some (vI (oA (wr ((wr ((oA (wr ((wr ((oA (wr (a0 - (oA (oUr a0 1) 1431655765))) 858993459) + (oA (oUr (wr (a0 - (oA (oUr a0 1) 1431655765))) 2) 858993459))) + (oUr (wr ((oA (wr (a0 - (oA (oUr a0 1) 1431655765))) 858993459) + (oA (oUr (wr (a0 - (oA (oUr a0 1) 1431655765))) 2) 858993459))) 4))) 252645135) + (oUr (oA (wr ((wr ((oA (wr (a0 - (oA (oUr a0 1) 1431655765))) 858993459) + (oA (oUr (wr (a0 - (oA (oUr a0 1) 1431655765))) 2) 858993459))) + (oUr (wr ((oA (wr (a0 - (oA (oUr a0 1) 1431655765))) 858993459) + (oA (oUr (wr (a0 - (oA (oUr a0 1) 1431655765))) 2) 858993459))) 4))) 252645135) 8))) + (oUr (wr ((oA (wr ((wr ((oA (wr (a0 - (oA (oUr a0 1) 1431655765))) 858993459) + (oA (oUr (wr (a0 - (oA (oUr a0 1) 1431655765))) 2) 858993459))) + (oUr (wr ((oA (wr (a0 - (oA (oUr a0 1) 1431655765))) 858993459) + (oA (oUr (wr (a0 - (oA (oUr a0 1) 1431655765))) 2) 858993459))) 4))) 252645135) + (oUr (oA (wr ((wr ((oA (wr (a0 - (oA (oUr a0 1) 1431655765))) 858993459) + (oA (oUr (wr (a0 - (oA (oUr a0 1) 1431655765))) 2) 858993459))) + (oUr (wr ((oA (wr (a0 - (oA (oUr a0 1) 1431655765))) 858993459) + (oA (oUr (wr (a0 - (oA (oUr a0 1) 1431655765))) 2) 858993459))) 4))) 252645135) 8))) 16))) 63))) (mk I)) : J none mJ6_bitCount_0f7a4 (d + 1) 0 0 0 [(0, vI a0)] [] (mk I) Q := by
  refine J_iload_n dJ6_bitCount_0f7a4_0 rfl rfl ?_
  refine J_iload_n dJ6_bitCount_0f7a4_1 rfl rfl ?_
  refine J_iconst dJ6_bitCount_0f7a4_2 (ii_c rfl) ?_
  refine J_iushr dJ6_bitCount_0f7a4_3 ?_
  refine J_ldcw 1431655765 dJ6_bitCount_0f7a4_4 kw_J6_265 (ii_c rfl) ?_
  refine J_iand dJ6_bitCount_0f7a4_7 ?_
  refine J_isub dJ6_bitCount_0f7a4_8 ?_
  refine J_istore_n dJ6_bitCount_0f7a4_9 rfl (by decide) ?_
  change J _ _ _ _ _ _ [(0, _)] _ _ _
  refine J_iload_n dJ6_bitCount_0f7a4_10 rfl rfl ?_
  refine J_ldcw 858993459 dJ6_bitCount_0f7a4_11 kw_J6_266 (ii_c rfl) ?_
  refine J_iand dJ6_bitCount_0f7a4_14 ?_
  refine J_iload_n dJ6_bitCount_0f7a4_15 rfl rfl ?_
  refine J_iconst dJ6_bitCount_0f7a4_16 (ii_c rfl) ?_
  refine J_iushr dJ6_bitCount_0f7a4_17 ?_
  refine J_ldcw 858993459 dJ6_bitCount_0f7a4_18 kw_J6_266 (ii_c rfl) ?_
  refine J_iand dJ6_bitCount_0f7a4_21 ?_
  refine J_iadd dJ6_bitCount_0f7a4_22 ?_
  refine J_istore_n dJ6_bitCount_0f7a4_23 rfl (by decide) ?_
  change J _ _ _ _ _ _ [(0, _)] _ _ _
  refine J_iload_n dJ6_bitCount_0f7a4_24 rfl rfl ?_
  refine J_iload_n dJ6_bitCount_0f7a4_25 rfl rfl ?_
  refine J_iconst dJ6_bitCount_0f7a4_26 (ii_c rfl) ?_
  refine J_iushr dJ6_bitCount_0f7a4_27 ?_
  refine J_iadd dJ6_bitCount_0f7a4_28 ?_
  refine J_ldcw 252645135 dJ6_bitCount_0f7a4_29 kw_J6_267 (ii_c rfl) ?_
  refine J_iand dJ6_bitCount_0f7a4_32 ?_
  refine J_istore_n dJ6_bitCount_0f7a4_33 rfl (by decide) ?_
  change J _ _ _ _ _ _ [(0, _)] _ _ _
  refine J_iload_n dJ6_bitCount_0f7a4_34 rfl rfl ?_
  refine J_iload_n dJ6_bitCount_0f7a4_35 rfl rfl ?_
  refine J_bipush dJ6_bitCount_0f7a4_36 (ii_c rfl) (by decide) ?_
  refine J_iushr dJ6_bitCount_0f7a4_38 ?_
  refine J_iadd dJ6_bitCount_0f7a4_39 ?_
  refine J_istore_n dJ6_bitCount_0f7a4_40 rfl (by decide) ?_
  change J _ _ _ _ _ _ [(0, _)] _ _ _
  refine J_iload_n dJ6_bitCount_0f7a4_41 rfl rfl ?_
  refine J_iload_n dJ6_bitCount_0f7a4_42 rfl rfl ?_
  refine J_bipush dJ6_bitCount_0f7a4_43 (ii_c rfl) (by decide) ?_
  refine J_iushr dJ6_bitCount_0f7a4_45 ?_
  refine J_iadd dJ6_bitCount_0f7a4_46 ?_
  refine J_istore_n dJ6_bitCount_0f7a4_47 rfl (by decide) ?_
  change J _ _ _ _ _ _ [(0, _)] _ _ _
  refine J_iload_n dJ6_bitCount_0f7a4_48 rfl rfl ?_
  refine J_bipush dJ6_bitCount_0f7a4_49 (ii_c rfl) (by decide) ?_
  refine J_iand dJ6_bitCount_0f7a4_51 ?_
  exact J_reti dJ6_bitCount_0f7a4_52 rfl h
set_option maxRecDepth 20000 in
set_option maxHeartbeats 2000000 in
theorem bk_J9_floorDiv_7cf53_0 {d : Nat} {I : HI} {Q : Option AV → AH → Prop} {a0 : Int} {a1 : Int}  (h : a1 ≠ 0 ∧ ((0 ≤ (oX a0 a1) → Q (some (vI (oD a0 a1))) (mk I)) ∧ (¬ (0 ≤ (oX a0 a1)) → (((wr ((oD a0 a1) * a1)) = a0 → Q (some (vI (oD a0 a1))) (mk I)) ∧ (¬ ((wr ((oD a0 a1) * a1)) = a0) → Q (some (vI (wr ((oD a0 a1) - 1)))) (mk I)))))) : J none mJ9_floorDiv_7cf53 (d + 1) 0 0 0 [(0, vI a0), (1, vI a1)] [] (mk I) Q := by
  refine J_iload_n dJ9_floorDiv_7cf53_0 rfl rfl ?_
  refine J_iload_n dJ9_floorDiv_7cf53_1 rfl rfl ?_
  refine J_idiv dJ9_floorDiv_7cf53_2 h.1 ?_
  replace h := h.2
  refine J_istore_n dJ9_floorDiv_7cf53_3 rfl (by decide) ?_
  change J _ _ _ _ _ _ [(0, _), (1, _), (2, _)] _ _ _
  refine J_iload_n dJ9_floorDiv_7cf53_4 rfl rfl ?_
  refine J_iload_n dJ9_floorDiv_7cf53_5 rfl rfl ?_
  refine J_ixor dJ9_floorDiv_7cf53_6 ?_
  refine J_if_ge (tgt := 21) dJ9_floorDiv_7cf53_7 (by decide) (fun c => ?_) (fun c => ?_)
  · replace h := h.1 c
    refine J_iload_n dJ9_floorDiv_7cf53_21 rfl rfl ?_
    exact J_reti dJ9_floorDiv_7cf53_22 rfl h
  · replace h := h.2 c
    refine J_iload_n dJ9_floorDiv_7cf53_10 rfl rfl ?_
    refine J_iload_n dJ9_floorDiv_7cf53_11 rfl rfl ?_
    refine J_imul dJ9_floorDiv_7cf53_12 ?_
    refine J_iload_n dJ9_floorDiv_7cf53_13 rfl rfl ?_
    refine J_ic_eq (tgt := 21) dJ9_floorDiv_7cf53_14 (by decide) (fun c => ?_) (fun c => ?_)
    · replace h := h.1 c
      refine J_iload_n dJ9_floorDiv_7cf53_21 rfl rfl ?_
      exact J_reti dJ9_floorDiv_7cf53_22 rfl h
    · replace h := h.2 c
      refine J_iload_n dJ9_floorDiv_7cf53_17 rfl rfl ?_
      refine J_iconst dJ9_floorDiv_7cf53_18 (ii_c rfl) ?_
      refine J_isub dJ9_floorDiv_7cf53_19 ?_
      exact J_reti dJ9_floorDiv_7cf53_20 rfl h
set_option maxRecDepth 20000 in
set_option maxHeartbeats 2000000 in
theorem bk_J7_fill_d0a16_0 {d : Nat} {I : HI} {Q : Option AV → AH → Prop} {a0 n0 : Nat} {a1 : Int} (ha0 : SH0[a0]? = some (.inr (1, n0))) (h : ((n0 : Nat) : Int) ≤ 2147483647 ∧ J none mJ7_fill_d0a16 (d + 1) 0 0 6 [(0, vR a0), (1, vL a1), (3, vI 0), (4, vI (n0 : Int))] [] (mk I) Q) : J none mJ7_fill_d0a16 (d + 1) 0 0 0 [(0, vR a0), (1, vL a1)] [] (mk I) Q := by
  refine J_iconst dJ7_fill_d0a16_0 (ii_c rfl) ?_
  refine J_istore_n dJ7_fill_d0a16_1 rfl (by decide) ?_
  change J _ _ _ _ _ _ [(0, _), (1, _), (3, _)] _ _ _
  refine J_aload_n dJ7_fill_d0a16_2 rfl rfl ?_
  refine J_alen dJ7_fill_d0a16_3 ha0 (by decide) h.1 ?_
  replace h := h.2
  refine J_istore dJ7_fill_d0a16_4 (by decide) ?_
  change J _ _ _ _ _ _ [(0, _), (1, _), (3, _), (4, _)] _ _ _
  exact h
set_option maxRecDepth 20000 in
set_option maxHeartbeats 2000000 in
theorem bk_J7_fill_d0a16_6 {d : Nat} {I : HI} {Q : Option AV → AH → Prop} {a0 n0 : Nat} {a1 : Int} {a3 : Int} {a4 : Int} (ha0 : SH0[a0]? = some (.inr (1, n0))) (h : ((a4 ≤ a3 → Q none (mk I)) ∧ (¬ (a4 ≤ a3) → ((0 : Int) ≤ a3 ∧ (a3 : Int) < n0) ∧ (∀ I1 : HI, I1 = up I a0 a3.toNat a1 → (-2147483648 ≤ a3 + 1 ∧ a3 + 1 ≤ 2147483647) ∧ J none mJ7_fill_d0a16 (d + 1) 0 0 6 [(0, vR a0), (1, vL a1), (3, vI (a3 + 1)), (4, vI a4)] [] (mk I1) Q)))) : J none mJ7_fill_d0a16 (d + 1) 0 0 6 [(0, vR a0), (1, vL a1), (3, vI a3), (4, vI a4)] [] (mk I) Q := by
  refine J_iload_n dJ7_fill_d0a16_6 rfl rfl ?_
  refine J_iload dJ7_fill_d0a16_7 rfl ?_
  refine J_ic_ge (tgt := 22) dJ7_fill_d0a16_9 (by decide) (fun c => ?_) (fun c => ?_)
  · replace h := h.1 c
    exact J_retv dJ7_fill_d0a16_22 rfl h
  · replace h := h.2 c
    refine J_aload_n dJ7_fill_d0a16_12 rfl rfl ?_
    refine J_iload_n dJ7_fill_d0a16_13 rfl rfl ?_
    refine J_lload_n dJ7_fill_d0a16_14 rfl rfl ?_
    refine J_last dJ7_fill_d0a16_15 ha0 h.1.1 h.1.2 ?_
    replace h := h.2 _ rfl
    refine J_iincN dJ7_fill_d0a16_16 rfl (by decide) h.1 ?_
    replace h := h.2
    change J _ _ _ _ _ _ [(0, _), (1, _), (3, _), (4, _)] _ _ _
    refine J_goto (tgt := 6) dJ7_fill_d0a16_19 (by decide) ?_
    exact h
set_option maxRecDepth 20000 in
set_option maxHeartbeats 2000000 in
theorem bk_J7_fill_53178_0 {d : Nat} {I : HI} {Q : Option AV → AH → Prop} {a0 n0 : Nat} {a1 : Int} (ha0 : SH0[a0]? = some (.inr (0, n0))) (h : ((n0 : Nat) : Int) ≤ 2147483647 ∧ J none mJ7_fill_53178 (d + 1) 0 0 5 [(0, vR a0), (1, vI a1), (2, vI 0), (3, vI (n0 : Int))] [] (mk I) Q) : J none mJ7_fill_53178 (d + 1) 0 0 0 [(0, vR a0), (1, vI a1)] [] (mk I) Q := by
  refine J_iconst dJ7_fill_53178_0 (ii_c rfl) ?_
  refine J_istore_n dJ7_fill_53178_1 rfl (by decide) ?_
  change J _ _ _ _ _ _ [(0, _), (1, _), (2, _)] _ _ _
  refine J_aload_n dJ7_fill_53178_2 rfl rfl ?_
  refine J_alen dJ7_fill_53178_3 ha0 (by decide) h.1 ?_
  replace h := h.2
  refine J_istore_n dJ7_fill_53178_4 rfl (by decide) ?_
  change J _ _ _ _ _ _ [(0, _), (1, _), (2, _), (3, _)] _ _ _
  exact h
set_option maxRecDepth 20000 in
set_option maxHeartbeats 2000000 in
theorem bk_J7_fill_53178_5 {d : Nat} {I : HI} {Q : Option AV → AH → Prop} {a0 n0 : Nat} {a1 : Int} {a2 : Int} {a3 : Int} (ha0 : SH0[a0]? = some (.inr (0, n0))) (h : ((a3 ≤ a2 → Q none (mk I)) ∧ (¬ (a3 ≤ a2) → ((0 : Int) ≤ a2 ∧ (a2 : Int) < n0) ∧ (∀ I1 : HI, I1 = up I a0 a2.toNat a1 → (-2147483648 ≤ a2 + 1 ∧ a2 + 1 ≤ 2147483647) ∧ J none mJ7_fill_53178 (d + 1) 0 0 5 [(0, vR a0), (1, vI a1), (2, vI (a2 + 1)), (3, vI a3)] [] (mk I1) Q)))) : J none mJ7_fill_53178 (d + 1) 0 0 5 [(0, vR a0), (1, vI a1), (2, vI a2), (3, vI a3)] [] (mk I) Q := by
  refine J_iload_n dJ7_fill_53178_5 rfl rfl ?_
  refine J_iload_n dJ7_fill_53178_6 rfl rfl ?_
  refine J_ic_ge (tgt := 20) dJ7_fill_53178_7 (by decide) (fun c => ?_) (fun c => ?_)
  · replace h := h.1 c
    exact J_retv dJ7_fill_53178_20 rfl h
  · replace h := h.2 c
    refine J_aload_n dJ7_fill_53178_10 rfl rfl ?_
    refine J_iload_n dJ7_fill_53178_11 rfl rfl ?_
    refine J_iload_n dJ7_fill_53178_12 rfl rfl ?_
    refine J_iast dJ7_fill_53178_13 ha0 h.1.1 h.1.2 ?_
    replace h := h.2 _ rfl
    refine J_iincN dJ7_fill_53178_14 rfl (by decide) h.1 ?_
    replace h := h.2
    change J _ _ _ _ _ _ [(0, _), (1, _), (2, _), (3, _)] _ _ _
    refine J_goto (tgt := 5) dJ7_fill_53178_17 (by decide) ?_
    exact h
