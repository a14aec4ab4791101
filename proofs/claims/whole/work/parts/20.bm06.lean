set_option maxRecDepth 20000 in
set_option maxHeartbeats 2000000 in
theorem bk_X11_canBeBetter_0 {d : Nat} {I : HI} {Q : Option AV → AH → Prop} {a1 : Int} {a2 : Int} {a3 : Int}  (h : (((I 489 84) ≠ (-1) → ((a3 = 0 → ((0 < (I 489 83) → Q (some (vI 1)) (mk I)) ∧ (¬ (0 < (I 489 83)) → ((0 ≠ (I 489 83) → Q (some (vI 0)) (mk I)) ∧ (0 = (I 489 83) → CI mX11_endsTo d [vR 489, vI a1, vI a2] I (fun x1 I1 => (((I1 489 84) ≤ x1 → Q (some (vI 0)) (mk I1)) ∧ (¬ ((I1 489 84) ≤ x1) → Q (some (vI 1)) (mk I1))))))))) ∧ (¬ (a3 = 0) → CI mX11_changesTo d [vR 489, vI a1, vI a2] I (fun x2 I2 => ((x2 < (I2 489 83) → Q (some (vI 1)) (mk I2)) ∧ (¬ (x2 < (I2 489 83)) → ((x2 ≠ (I2 489 83) → Q (some (vI 0)) (mk I2)) ∧ (x2 = (I2 489 83) → CI mX11_endsTo d [vR 489, vI a1, vI a2] I2 (fun x3 I3 => (((I3 489 84) ≤ x3 → Q (some (vI 0)) (mk I3)) ∧ (¬ ((I3 489 84) ≤ x3) → Q (some (vI 1)) (mk I3)))))))))))) ∧ ((I 489 84) = (-1) → Q (some (vI 1)) (mk I)))) : J none mX11_canBeBetter (d + 1) 0 0 0 [(0, vR 489), (1, vI a1), (2, vI a2), (3, vI a3)] [] (mk I) Q := by
  refine J_aload_n dX11_canBeBetter_0 rfl rfl ?_
  refine J_getI dX11_canBeBetter_1 ck_11 fw_X11_619 rfl sh_489 ?_
  refine J_iconst dX11_canBeBetter_4 (ii_c rfl) ?_
  refine J_ic_ne (tgt := 10) dX11_canBeBetter_5 (by decide) (fun c => ?_) (fun c => ?_)
  · replace h := h.1 c
    refine J_iload_n dX11_canBeBetter_10 rfl rfl ?_
    refine J_if_eq (tgt := 23) dX11_canBeBetter_11 (by decide) (fun c => ?_) (fun c => ?_)
    · replace h := h.1 c
      refine J_iconst dX11_canBeBetter_23 (ii_c rfl) ?_
      refine J_istore dX11_canBeBetter_24 (by decide) ?_
      refine J_iload dX11_canBeBetter_26 rfl ?_
      refine J_aload_n dX11_canBeBetter_28 rfl rfl ?_
      refine J_getI dX11_canBeBetter_29 ck_11 fw_X11_625 rfl sh_489 ?_
      refine J_ic_lt (tgt := 57) dX11_canBeBetter_32 (by decide) (fun c => ?_) (fun c => ?_)
      · replace h := h.1 c
        refine J_iconst dX11_canBeBetter_57 (ii_c rfl) ?_
        refine J_goto (tgt := 62) dX11_canBeBetter_58 (by decide) ?_
        exact J_retz dX11_canBeBetter_62 rfl (Or.inr rfl) h
      · replace h := h.2 c
        refine J_iload dX11_canBeBetter_35 rfl ?_
        refine J_aload_n dX11_canBeBetter_37 rfl rfl ?_
        refine J_getI dX11_canBeBetter_38 ck_11 fw_X11_625 rfl sh_489 ?_
        refine J_ic_ne (tgt := 61) dX11_canBeBetter_41 (by decide) (fun c => ?_) (fun c => ?_)
        · replace h := h.1 c
          refine J_iconst dX11_canBeBetter_61 (ii_c rfl) ?_
          exact J_retz dX11_canBeBetter_62 rfl (Or.inl rfl) h
        · replace h := h.2 c
          refine J_aload_n dX11_canBeBetter_44 rfl rfl ?_
          refine J_iload_n dX11_canBeBetter_45 rfl rfl ?_
          refine J_iload_n dX11_canBeBetter_46 rfl rfl ?_
          refine J_callV (as := [_, _]) (mc1 := 0) (ms1 := 0) (mc := 0) (ms := 0) dX11_canBeBetter_47 mv_X11_endsTo lk_X11_628 sh_489 rfl (Nat.le_of_ble_eq_true rfl) (Nat.le_of_ble_eq_true rfl) h (fun r σ hq _ => ?_)
          obtain ⟨x1, I1, rfl, rfl, h⟩ := hq
          change J _ _ _ _ _ _ _ [vI x1] _ _
          refine J_aload_n dX11_canBeBetter_50 rfl rfl ?_
          refine J_getI dX11_canBeBetter_51 ck_11 fw_X11_619 rfl sh_489 ?_
          refine J_ic_ge (tgt := 61) dX11_canBeBetter_54 (by decide) (fun c => ?_) (fun c => ?_)
          · replace h := h.1 c
            refine J_iconst dX11_canBeBetter_61 (ii_c rfl) ?_
            exact J_retz dX11_canBeBetter_62 rfl (Or.inl rfl) h
          · replace h := h.2 c
            refine J_iconst dX11_canBeBetter_57 (ii_c rfl) ?_
            refine J_goto (tgt := 62) dX11_canBeBetter_58 (by decide) ?_
            exact J_retz dX11_canBeBetter_62 rfl (Or.inr rfl) h
    · replace h := h.2 c
      refine J_aload_n dX11_canBeBetter_14 rfl rfl ?_
      refine J_iload_n dX11_canBeBetter_15 rfl rfl ?_
      refine J_iload_n dX11_canBeBetter_16 rfl rfl ?_
      refine J_callV (as := [_, _]) (mc1 := 0) (ms1 := 0) (mc := 0) (ms := 0) dX11_canBeBetter_17 mv_X11_changesTo lk_X11_622 sh_489 rfl (Nat.le_of_ble_eq_true rfl) (Nat.le_of_ble_eq_true rfl) h (fun r σ hq _ => ?_)
      obtain ⟨x2, I2, rfl, rfl, h⟩ := hq
      change J _ _ _ _ _ _ _ [vI x2] _ _
      refine J_goto (tgt := 24) dX11_canBeBetter_20 (by decide) ?_
      refine J_istore dX11_canBeBetter_24 (by decide) ?_
      refine J_iload dX11_canBeBetter_26 rfl ?_
      refine J_aload_n dX11_canBeBetter_28 rfl rfl ?_
      refine J_getI dX11_canBeBetter_29 ck_11 fw_X11_625 rfl sh_489 ?_
      refine J_ic_lt (tgt := 57) dX11_canBeBetter_32 (by decide) (fun c => ?_) (fun c => ?_)
      · replace h := h.1 c
        refine J_iconst dX11_canBeBetter_57 (ii_c rfl) ?_
        refine J_goto (tgt := 62) dX11_canBeBetter_58 (by decide) ?_
        exact J_retz dX11_canBeBetter_62 rfl (Or.inr rfl) h
      · replace h := h.2 c
        refine J_iload dX11_canBeBetter_35 rfl ?_
        refine J_aload_n dX11_canBeBetter_37 rfl rfl ?_
        refine J_getI dX11_canBeBetter_38 ck_11 fw_X11_625 rfl sh_489 ?_
        refine J_ic_ne (tgt := 61) dX11_canBeBetter_41 (by decide) (fun c => ?_) (fun c => ?_)
        · replace h := h.1 c
          refine J_iconst dX11_canBeBetter_61 (ii_c rfl) ?_
          exact J_retz dX11_canBeBetter_62 rfl (Or.inl rfl) h
        · replace h := h.2 c
          refine J_aload_n dX11_canBeBetter_44 rfl rfl ?_
          refine J_iload_n dX11_canBeBetter_45 rfl rfl ?_
          refine J_iload_n dX11_canBeBetter_46 rfl rfl ?_
          refine J_callV (as := [_, _]) (mc1 := 0) (ms1 := 0) (mc := 0) (ms := 0) dX11_canBeBetter_47 mv_X11_endsTo lk_X11_628 sh_489 rfl (Nat.le_of_ble_eq_true rfl) (Nat.le_of_ble_eq_true rfl) h (fun r σ hq _ => ?_)
          obtain ⟨x3, I3, rfl, rfl, h⟩ := hq
          change J _ _ _ _ _ _ _ [vI x3] _ _
          refine J_aload_n dX11_canBeBetter_50 rfl rfl ?_
          refine J_getI dX11_canBeBetter_51 ck_11 fw_X11_619 rfl sh_489 ?_
          refine J_ic_ge (tgt := 61) dX11_canBeBetter_54 (by decide) (fun c => ?_) (fun c => ?_)
          · replace h := h.1 c
            refine J_iconst dX11_canBeBetter_61 (ii_c rfl) ?_
            exact J_retz dX11_canBeBetter_62 rfl (Or.inl rfl) h
          · replace h := h.2 c
            refine J_iconst dX11_canBeBetter_57 (ii_c rfl) ?_
            refine J_goto (tgt := 62) dX11_canBeBetter_58 (by decide) ?_
            exact J_retz dX11_canBeBetter_62 rfl (Or.inr rfl) h
  · replace h := h.2 c
    refine J_iconst dX11_canBeBetter_8 (ii_c rfl) ?_
    exact J_retz dX11_canBeBetter_9 rfl (Or.inr rfl) h
set_option maxRecDepth 20000 in
set_option maxHeartbeats 2000000 in
theorem bk_X11_isChosen_0 {d : Nat} {I : HI} {Q : Option AV → AH → Prop} {a1 : Int} {a2 : Int} {a3 : Int}  (h : (∀ I1 : HI, I1 = up I 489 84 (-1) → (∀ I2 : HI, I2 = up I1 489 83 0 → (∀ I3 : HI, I3 = up I2 550 0 (-1) → J none mX11_isChosen (d + 1) 0 0 20 [(0, vR 489), (1, vI a1), (2, vI a2), (3, vI a3), (4, vI 0)] [] (mk I3) Q)))) : J none mX11_isChosen (d + 1) 0 0 0 [(0, vR 489), (1, vI a1), (2, vI a2), (3, vI a3)] [] (mk I) Q := by
  refine J_aload_n dX11_isChosen_0 rfl rfl ?_
  refine J_iconst dX11_isChosen_1 (ii_c rfl) ?_
  refine J_putI dX11_isChosen_2 ck_11 fw_X11_619 rfl rfl (Or.inl rfl) sh_489 ?_
  replace h := h _ rfl
  refine J_aload_n dX11_isChosen_5 rfl rfl ?_
  refine J_iconst dX11_isChosen_6 (ii_c rfl) ?_
  refine J_putI dX11_isChosen_7 ck_11 fw_X11_625 rfl rfl (Or.inl rfl) sh_489 ?_
  replace h := h _ rfl
  refine J_iconst dX11_isChosen_10 (ii_c rfl) ?_
  refine J_istore dX11_isChosen_11 (by decide) ?_
  refine J_aload_n dX11_isChosen_13 rfl rfl ?_
  refine J_getR dX11_isChosen_14 ck_11 fw_X11_200 rfl sh_489 rr_489_81 ?_
  refine J_iconst dX11_isChosen_17 (ii_c rfl) ?_
  refine J_iconst dX11_isChosen_18 (ii_c rfl) ?_
  refine J_iast dX11_isChosen_19 sh_550 (by decide) (by decide) ?_
  replace h := h _ rfl
  exact h
set_option maxRecDepth 20000 in
set_option maxHeartbeats 2000000 in
theorem bk_X11_isChosen_20 {d : Nat} {I : HI} {Q : Option AV → AH → Prop} {a1 : Int} {a2 : Int} {a3 : Int} {a4 : Int}  (h : ((a4 < 0 → (((I 489 84) = (-1) → Q (some (vI 0)) (mk I)) ∧ (¬ ((I 489 84) = (-1)) → Q (some (vI 1)) (mk I)))) ∧ (¬ (a4 < 0) → CI mX11_saintMany d [vR 489] I (fun x1 I1 => ((a4 ≠ x1 → J none mX11_isChosen (d + 1) 0 0 113 [(0, vR 489), (1, vI a1), (2, vI a2), (3, vI a3), (4, vI a4), (5, vI 0)] [] (mk I1) Q) ∧ (a4 = x1 → (-2147483648 ≤ a4 - 1 ∧ a4 - 1 ≤ 2147483647) ∧ CI mX11_endsTo d [vR 489, vI (a4 - 1), vI a1] I1 (fun x2 I2 => (∀ I3 : HI, I3 = up I2 489 84 x2 → ((a2 = 0 → (∀ I4 : HI, I4 = up I3 489 83 0 → J none mX11_isChosen (d + 1) 0 0 71 [(0, vR 489), (1, vI a1), (2, vI a2), (3, vI a3), (4, vI a4), (5, vI 0)] [] (mk I4) Q)) ∧ (¬ (a2 = 0) → (-2147483648 ≤ a4 - 1 ∧ a4 - 1 ≤ 2147483647) ∧ CI mX11_changesTo d [vR 489, vI (a4 - 1), vI a1] I3 (fun x3 I5 => (∀ I6 : HI, I6 = up I5 489 83 x3 → J none mX11_isChosen (d + 1) 0 0 71 [(0, vR 489), (1, vI a1), (2, vI a2), (3, vI a3), (4, vI a4), (5, vI 0)] [] (mk I6) Q)))))))))))) : J none mX11_isChosen (d + 1) 0 0 20 [(0, vR 489), (1, vI a1), (2, vI a2), (3, vI a3), (4, vI a4)] [] (mk I) Q := by
  refine J_iload dX11_isChosen_20 rfl ?_
  refine J_if_lt (tgt := 218) dX11_isChosen_22 (by decide) (fun c => ?_) (fun c => ?_)
  · replace h := h.1 c
    refine J_aload_n dX11_isChosen_218 rfl rfl ?_
    refine J_getI dX11_isChosen_219 ck_11 fw_X11_619 rfl sh_489 ?_
    refine J_iconst dX11_isChosen_222 (ii_c rfl) ?_
    refine J_ic_eq (tgt := 230) dX11_isChosen_223 (by decide) (fun c => ?_) (fun c => ?_)
    · replace h := h.1 c
      refine J_iconst dX11_isChosen_230 (ii_c rfl) ?_
      exact J_retz dX11_isChosen_231 rfl (Or.inl rfl) h
    · replace h := h.2 c
      refine J_iconst dX11_isChosen_226 (ii_c rfl) ?_
      refine J_goto (tgt := 231) dX11_isChosen_227 (by decide) ?_
      exact J_retz dX11_isChosen_231 rfl (Or.inr rfl) h
  · replace h := h.2 c
    refine J_iload dX11_isChosen_25 rfl ?_
    refine J_aload_n dX11_isChosen_27 rfl rfl ?_
    refine J_callV (as := []) (mc1 := 0) (ms1 := 0) (mc := 0) (ms := 0) dX11_isChosen_28 mv_X11_saintMany lk_X11_447 sh_489 rfl (Nat.le_of_ble_eq_true rfl) (Nat.le_of_ble_eq_true rfl) h (fun r σ hq _ => ?_)
    obtain ⟨x1, I1, rfl, rfl, h⟩ := hq
    change J _ _ _ _ _ _ _ [vI x1, vI a4] _ _
    refine J_ic_ne (tgt := 110) dX11_isChosen_31 (by decide) (fun c => ?_) (fun c => ?_)
    · replace h := h.1 c
      refine J_iconst dX11_isChosen_110 (ii_c rfl) ?_
      refine J_istore dX11_isChosen_111 (by decide) ?_
      exact h
    · replace h := h.2 c
      refine J_aload_n dX11_isChosen_34 rfl rfl ?_
      refine J_aload_n dX11_isChosen_35 rfl rfl ?_
      refine J_iload dX11_isChosen_36 rfl ?_
      refine J_iconst dX11_isChosen_38 (ii_c rfl) ?_
      refine J_isubN dX11_isChosen_39 h.1 ?_
      replace h := h.2
      refine J_iload_n dX11_isChosen_40 rfl rfl ?_
      refine J_callV (as := [_, _]) (mc1 := 0) (ms1 := 0) (mc := 0) (ms := 0) dX11_isChosen_41 mv_X11_endsTo lk_X11_628 sh_489 rfl (Nat.le_of_ble_eq_true rfl) (Nat.le_of_ble_eq_true rfl) h (fun r σ hq _ => ?_)
      obtain ⟨x2, I2, rfl, rfl, h⟩ := hq
      change J _ _ _ _ _ _ _ [vI x2, vR 489] _ _
      refine J_putI dX11_isChosen_44 ck_11 fw_X11_619 rfl rfl (Or.inl rfl) sh_489 ?_
      replace h := h _ rfl
      refine J_aload_n dX11_isChosen_47 rfl rfl ?_
      refine J_iload_n dX11_isChosen_48 rfl rfl ?_
      refine J_if_eq (tgt := 64) dX11_isChosen_49 (by decide) (fun c => ?_) (fun c => ?_)
      · replace h := h.1 c
        refine J_iconst dX11_isChosen_64 (ii_c rfl) ?_
        refine J_putI dX11_isChosen_65 ck_11 fw_X11_625 rfl rfl (Or.inl rfl) sh_489 ?_
        replace h := h _ rfl
        refine J_iconst dX11_isChosen_68 (ii_c rfl) ?_
        refine J_istore dX11_isChosen_69 (by decide) ?_
        exact h
      · replace h := h.2 c
        refine J_aload_n dX11_isChosen_52 rfl rfl ?_
        refine J_iload dX11_isChosen_53 rfl ?_
        refine J_iconst dX11_isChosen_55 (ii_c rfl) ?_
        refine J_isubN dX11_isChosen_56 h.1 ?_
        replace h := h.2
        refine J_iload_n dX11_isChosen_57 rfl rfl ?_
        refine J_callV (as := [_, _]) (mc1 := 0) (ms1 := 0) (mc := 0) (ms := 0) dX11_isChosen_58 mv_X11_changesTo lk_X11_622 sh_489 rfl (Nat.le_of_ble_eq_true rfl) (Nat.le_of_ble_eq_true rfl) h (fun r σ hq _ => ?_)
        obtain ⟨x3, I5, rfl, rfl, h⟩ := hq
        change J _ _ _ _ _ _ _ [vI x3, vR 489] _ _
        refine J_goto (tgt := 65) dX11_isChosen_61 (by decide) ?_
        refine J_putI dX11_isChosen_65 ck_11 fw_X11_625 rfl rfl (Or.inl rfl) sh_489 ?_
        replace h := h _ rfl
        refine J_iconst dX11_isChosen_68 (ii_c rfl) ?_
        refine J_istore dX11_isChosen_69 (by decide) ?_
        exact h
set_option maxRecDepth 20000 in
set_option maxHeartbeats 2000000 in
theorem bk_X11_isChosen_71 {d : Nat} {I : HI} {Q : Option AV → AH → Prop} {a1 : Int} {a2 : Int} {a3 : Int} {a4 : Int} {a5 : Int}  (h : ((a4 ≤ a5 → ((a3 = 0 → (-2147483648 ≤ a4 + (-1) ∧ a4 + (-1) ≤ 2147483647) ∧ J none mX11_isChosen (d + 1) 0 0 20 [(0, vR 489), (1, vI a1), (2, vI a2), (3, vI a3), (4, vI (a4 + (-1)))] [] (mk I) Q) ∧ (¬ (a3 = 0) → Q (some (vI 1)) (mk I)))) ∧ (¬ (a4 ≤ a5) → ((0 : Int) ≤ a5 ∧ (a5 : Int) < 4) ∧ ((0 : Int) ≤ a5 ∧ (a5 : Int) < 4) ∧ (∀ I1 : HI, I1 = up I 551 a5.toNat (I 550 a5.toNat) → (-2147483648 ≤ a5 + 1 ∧ a5 + 1 ≤ 2147483647) ∧ J none mX11_isChosen (d + 1) 0 0 71 [(0, vR 489), (1, vI a1), (2, vI a2), (3, vI a3), (4, vI a4), (5, vI (a5 + 1))] [] (mk I1) Q)))) : J none mX11_isChosen (d + 1) 0 0 71 [(0, vR 489), (1, vI a1), (2, vI a2), (3, vI a3), (4, vI a4), (5, vI a5)] [] (mk I) Q := by
  refine J_iload dX11_isChosen_71 rfl ?_
  refine J_iload dX11_isChosen_73 rfl ?_
  refine J_ic_ge (tgt := 98) dX11_isChosen_75 (by decide) (fun c => ?_) (fun c => ?_)
  · replace h := h.1 c
    refine J_iload_n dX11_isChosen_98 rfl rfl ?_
    refine J_if_eq (tgt := 104) dX11_isChosen_99 (by decide) (fun c => ?_) (fun c => ?_)
    · replace h := h.1 c
      refine J_iincN dX11_isChosen_104 rfl (by decide) h.1 ?_
      replace h := h.2
      refine J_goto (tgt := 20) dX11_isChosen_107 (by decide) ?_
      exact J_loc (ls_sub [0, 1, 2, 3, 4] rfl) h
    · replace h := h.2 c
      refine J_iconst dX11_isChosen_102 (ii_c rfl) ?_
      exact J_retz dX11_isChosen_103 rfl (Or.inr rfl) h
  · replace h := h.2 c
    refine J_aload_n dX11_isChosen_78 rfl rfl ?_
    refine J_getR dX11_isChosen_79 ck_11 fw_X11_203 rfl sh_489 rr_489_82 ?_
    refine J_iload dX11_isChosen_82 rfl ?_
    refine J_aload_n dX11_isChosen_84 rfl rfl ?_
    refine J_getR dX11_isChosen_85 ck_11 fw_X11_200 rfl sh_489 rr_489_81 ?_
    refine J_iload dX11_isChosen_88 rfl ?_
    refine J_iald dX11_isChosen_90 sh_550 h.1.1 h.1.2 ?_
    replace h := h.2
    refine J_iast dX11_isChosen_91 sh_551 h.1.1 h.1.2 ?_
    replace h := h.2 _ rfl
    refine J_iincN dX11_isChosen_92 rfl (by decide) h.1 ?_
    replace h := h.2
    refine J_goto (tgt := 71) dX11_isChosen_95 (by decide) ?_
    exact h
set_option maxRecDepth 20000 in
set_option maxHeartbeats 2000000 in
theorem bk_X11_isChosen_113 {d : Nat} {I : HI} {Q : Option AV → AH → Prop} {a1 : Int} {a2 : Int} {a3 : Int} {a4 : Int} {a5 : Int}  (h : ((a5 ≠ 0 → ((a5 = 0 → (-2147483648 ≤ a4 + (-1) ∧ a4 + (-1) ≤ 2147483647) ∧ J none mX11_isChosen (d + 1) 0 0 20 [(0, vR 489), (1, vI a1), (2, vI a2), (3, vI a3), (4, vI (a4 + (-1)))] [] (mk I) Q) ∧ (¬ (a5 = 0) → (-2147483648 ≤ a4 + 1 ∧ a4 + 1 ≤ 2147483647) ∧ ((4 ≤ (a4 + 1) → J none mX11_isChosen (d + 1) 0 0 20 [(0, vR 489), (1, vI a1), (2, vI a2), (3, vI a3), (4, vI (a4 + 1))] [] (mk I) Q) ∧ (¬ (4 ≤ (a4 + 1)) → ((0 : Int) ≤ (a4 + 1) ∧ (a4 + 1 : Int) < 4) ∧ (∀ I1 : HI, I1 = up I 550 (a4 + 1).toNat (-1) → J none mX11_isChosen (d + 1) 0 0 20 [(0, vR 489), (1, vI a1), (2, vI a2), (3, vI a3), (4, vI (a4 + 1))] [] (mk I1) Q)))))) ∧ (a5 = 0 → ((0 : Int) ≤ a4 ∧ (a4 : Int) < 4) ∧ CI mX11_lastOf d [vR 489, vI a4, vI a1] I (fun x1 I2 => ((x1 ≤ (I 550 a4.toNat) → ((a5 = 0 → (-2147483648 ≤ a4 + (-1) ∧ a4 + (-1) ≤ 2147483647) ∧ J none mX11_isChosen (d + 1) 0 0 20 [(0, vR 489), (1, vI a1), (2, vI a2), (3, vI a3), (4, vI (a4 + (-1)))] [] (mk I2) Q) ∧ (¬ (a5 = 0) → (-2147483648 ≤ a4 + 1 ∧ a4 + 1 ≤ 2147483647) ∧ ((4 ≤ (a4 + 1) → J none mX11_isChosen (d + 1) 0 0 20 [(0, vR 489), (1, vI a1), (2, vI a2), (3, vI a3), (4, vI (a4 + 1))] [] (mk I2) Q) ∧ (¬ (4 ≤ (a4 + 1)) → ((0 : Int) ≤ (a4 + 1) ∧ (a4 + 1 : Int) < 4) ∧ (∀ I3 : HI, I3 = up I2 550 (a4 + 1).toNat (-1) → J none mX11_isChosen (d + 1) 0 0 20 [(0, vR 489), (1, vI a1), (2, vI a2), (3, vI a3), (4, vI (a4 + 1))] [] (mk I3) Q)))))) ∧ (¬ (x1 ≤ (I 550 a4.toNat)) → ((0 : Int) ≤ a4 ∧ (a4 : Int) < 4) ∧ (-2147483648 ≤ (I2 550 a4.toNat) + 1 ∧ (I2 550 a4.toNat) + 1 ≤ 2147483647) ∧ ((0 : Int) ≤ a4 ∧ (a4 : Int) < 4) ∧ (∀ I4 : HI, I4 = up I2 550 a4.toNat ((I2 550 a4.toNat) + 1) → (((oA (oSr a1 a4) 1) = 0 → J none mX11_isChosen (d + 1) 0 0 113 [(0, vR 489), (1, vI a1), (2, vI a2), (3, vI a3), (4, vI a4), (5, vI 1)] [] (mk I4) Q) ∧ (¬ ((oA (oSr a1 a4) 1) = 0) → CI mX11_fits d [vR 489, vI a4, vI a1, vI a2] I4 (fun x2 I5 => ((x2 = 0 → J none mX11_isChosen (d + 1) 0 0 113 [(0, vR 489), (1, vI a1), (2, vI a2), (3, vI a3), (4, vI a4), (5, vI 0)] [] (mk I5) Q) ∧ (¬ (x2 = 0) → CI mX11_canBeBetter d [vR 489, vI a4, vI a1, vI a2] I5 (fun x3 I6 => ((x3 = 0 → J none mX11_isChosen (d + 1) 0 0 113 [(0, vR 489), (1, vI a1), (2, vI a2), (3, vI a3), (4, vI a4), (5, vI 0)] [] (mk I6) Q) ∧ (¬ (x3 = 0) → J none mX11_isChosen (d + 1) 0 0 113 [(0, vR 489), (1, vI a1), (2, vI a2), (3, vI a3), (4, vI a4), (5, vI 1)] [] (mk I6) Q))))))))))))))) : J none mX11_isChosen (d + 1) 0 0 113 [(0, vR 489), (1, vI a1), (2, vI a2), (3, vI a3), (4, vI a4), (5, vI a5)] [] (mk I) Q := by
  refine J_iload dX11_isChosen_113 rfl ?_
  refine J_if_ne (tgt := 187) dX11_isChosen_115 (by decide) (fun c => ?_) (fun c => ?_)
  · replace h := h.1 c
    refine J_iload dX11_isChosen_187 rfl ?_
    refine J_if_eq (tgt := 212) dX11_isChosen_189 (by decide) (fun c => ?_) (fun c => ?_)
    · replace h := h.1 c
      refine J_iincN dX11_isChosen_212 rfl (by decide) h.1 ?_
      replace h := h.2
      refine J_goto (tgt := 20) dX11_isChosen_215 (by decide) ?_
      exact J_loc (ls_sub [0, 1, 2, 3, 4] rfl) h
    · replace h := h.2 c
      refine J_iincN dX11_isChosen_192 rfl (by decide) h.1 ?_
      replace h := h.2
      refine J_iload dX11_isChosen_195 rfl ?_
      refine J_iconst dX11_isChosen_197 (ii_c rfl) ?_
      refine J_ic_ge (tgt := 215) dX11_isChosen_198 (by decide) (fun c => ?_) (fun c => ?_)
      · replace h := h.1 c
        refine J_goto (tgt := 20) dX11_isChosen_215 (by decide) ?_
        exact J_loc (ls_sub [0, 1, 2, 3, 4] rfl) h
      · replace h := h.2 c
        refine J_aload_n dX11_isChosen_201 rfl rfl ?_
        refine J_getR dX11_isChosen_202 ck_11 fw_X11_200 rfl sh_489 rr_489_81 ?_
        refine J_iload dX11_isChosen_205 rfl ?_
        refine J_iconst dX11_isChosen_207 (ii_c rfl) ?_
        refine J_iast dX11_isChosen_208 sh_550 h.1.1 h.1.2 ?_
        replace h := h.2 _ rfl
        refine J_goto (tgt := 215) dX11_isChosen_209 (by decide) ?_
        refine J_goto (tgt := 20) dX11_isChosen_215 (by decide) ?_
        exact J_loc (ls_sub [0, 1, 2, 3, 4] rfl) h
  · replace h := h.2 c
    refine J_aload_n dX11_isChosen_118 rfl rfl ?_
    refine J_getR dX11_isChosen_119 ck_11 fw_X11_200 rfl sh_489 rr_489_81 ?_
    refine J_iload dX11_isChosen_122 rfl ?_
    refine J_iald dX11_isChosen_124 sh_550 h.1.1 h.1.2 ?_
    replace h := h.2
    refine J_aload_n dX11_isChosen_125 rfl rfl ?_
    refine J_iload dX11_isChosen_126 rfl ?_
    refine J_iload_n dX11_isChosen_128 rfl rfl ?_
    refine J_callV (as := [_, _]) (mc1 := 0) (ms1 := 0) (mc := 0) (ms := 0) dX11_isChosen_129 mv_X11_lastOf lk_X11_631 sh_489 rfl (Nat.le_of_ble_eq_true rfl) (Nat.le_of_ble_eq_true rfl) h (fun r σ hq _ => ?_)
    obtain ⟨x1, I2, rfl, rfl, h⟩ := hq
    change J _ _ _ _ _ _ _ [vI x1, vI (I 550 a4.toNat)] _ _
    refine J_ic_ge (tgt := 187) dX11_isChosen_132 (by decide) (fun c => ?_) (fun c => ?_)
    · replace h := h.1 c
      refine J_iload dX11_isChosen_187 rfl ?_
      refine J_if_eq (tgt := 212) dX11_isChosen_189 (by decide) (fun c => ?_) (fun c => ?_)
      · replace h := h.1 c
        refine J_iincN dX11_isChosen_212 rfl (by decide) h.1 ?_
        replace h := h.2
        refine J_goto (tgt := 20) dX11_isChosen_215 (by decide) ?_
        exact J_loc (ls_sub [0, 1, 2, 3, 4] rfl) h
      · replace h := h.2 c
        refine J_iincN dX11_isChosen_192 rfl (by decide) h.1 ?_
        replace h := h.2
        refine J_iload dX11_isChosen_195 rfl ?_
        refine J_iconst dX11_isChosen_197 (ii_c rfl) ?_
        refine J_ic_ge (tgt := 215) dX11_isChosen_198 (by decide) (fun c => ?_) (fun c => ?_)
        · replace h := h.1 c
          refine J_goto (tgt := 20) dX11_isChosen_215 (by decide) ?_
          exact J_loc (ls_sub [0, 1, 2, 3, 4] rfl) h
        · replace h := h.2 c
          refine J_aload_n dX11_isChosen_201 rfl rfl ?_
          refine J_getR dX11_isChosen_202 ck_11 fw_X11_200 rfl sh_489 rr_489_81 ?_
          refine J_iload dX11_isChosen_205 rfl ?_
          refine J_iconst dX11_isChosen_207 (ii_c rfl) ?_
          refine J_iast dX11_isChosen_208 sh_550 h.1.1 h.1.2 ?_
          replace h := h.2 _ rfl
          refine J_goto (tgt := 215) dX11_isChosen_209 (by decide) ?_
          refine J_goto (tgt := 20) dX11_isChosen_215 (by decide) ?_
          exact J_loc (ls_sub [0, 1, 2, 3, 4] rfl) h
    · replace h := h.2 c
      refine J_aload_n dX11_isChosen_135 rfl rfl ?_
      refine J_getR dX11_isChosen_136 ck_11 fw_X11_200 rfl sh_489 rr_489_81 ?_
      refine J_iload dX11_isChosen_139 rfl ?_
      refine J_dup2 dX11_isChosen_141 rfl rfl ?_
      refine J_iald dX11_isChosen_142 sh_550 h.1.1 h.1.2 ?_
      replace h := h.2
      refine J_iconst dX11_isChosen_143 (ii_c rfl) ?_
      refine J_iaddN dX11_isChosen_144 h.1 ?_
      replace h := h.2
      refine J_iast dX11_isChosen_145 sh_550 h.1.1 h.1.2 ?_
      replace h := h.2 _ rfl
      refine J_iload_n dX11_isChosen_146 rfl rfl ?_
      refine J_iload dX11_isChosen_147 rfl ?_
      refine J_ishr dX11_isChosen_149 ?_
      refine J_iconst dX11_isChosen_150 (ii_c rfl) ?_
      refine J_iand dX11_isChosen_151 ?_
      refine J_if_eq (tgt := 177) dX11_isChosen_152 (by decide) (fun c => ?_) (fun c => ?_)
      · replace h := h.1 c
        refine J_iconst dX11_isChosen_177 (ii_c rfl) ?_
        refine J_goto (tgt := 182) dX11_isChosen_178 (by decide) ?_
        refine J_istore dX11_isChosen_182 (by decide) ?_
        refine J_goto (tgt := 113) dX11_isChosen_184 (by decide) ?_
        exact h
      · replace h := h.2 c
        refine J_aload_n dX11_isChosen_155 rfl rfl ?_
        refine J_iload dX11_isChosen_156 rfl ?_
        refine J_iload_n dX11_isChosen_158 rfl rfl ?_
        refine J_iload_n dX11_isChosen_159 rfl rfl ?_
        refine J_callV (as := [_, _, _]) (mc1 := 0) (ms1 := 0) (mc := 0) (ms := 0) dX11_isChosen_160 mv_X11_fits lk_X11_634 sh_489 rfl (Nat.le_of_ble_eq_true rfl) (Nat.le_of_ble_eq_true rfl) h (fun r σ hq _ => ?_)
        obtain ⟨x2, I5, rfl, rfl, h⟩ := hq
        change J _ _ _ _ _ _ _ [vI x2] _ _
        refine J_if_eq (tgt := 181) dX11_isChosen_163 (by decide) (fun c => ?_) (fun c => ?_)
        · replace h := h.1 c
          refine J_iconst dX11_isChosen_181 (ii_c rfl) ?_
          refine J_istore dX11_isChosen_182 (by decide) ?_
          refine J_goto (tgt := 113) dX11_isChosen_184 (by decide) ?_
          exact h
        · replace h := h.2 c
          refine J_aload_n dX11_isChosen_166 rfl rfl ?_
          refine J_iload dX11_isChosen_167 rfl ?_
          refine J_iload_n dX11_isChosen_169 rfl rfl ?_
          refine J_iload_n dX11_isChosen_170 rfl rfl ?_
          refine J_callV (as := [_, _, _]) (mc1 := 0) (ms1 := 0) (mc := 0) (ms := 0) dX11_isChosen_171 mv_X11_canBeBetter lk_X11_638 sh_489 rfl (Nat.le_of_ble_eq_true rfl) (Nat.le_of_ble_eq_true rfl) h (fun r σ hq _ => ?_)
          obtain ⟨x3, I6, rfl, rfl, h⟩ := hq
          change J _ _ _ _ _ _ _ [vI x3] _ _
          refine J_if_eq (tgt := 181) dX11_isChosen_174 (by decide) (fun c => ?_) (fun c => ?_)
          · replace h := h.1 c
            refine J_iconst dX11_isChosen_181 (ii_c rfl) ?_
            refine J_istore dX11_isChosen_182 (by decide) ?_
            refine J_goto (tgt := 113) dX11_isChosen_184 (by decide) ?_
            exact h
          · replace h := h.2 c
            refine J_iconst dX11_isChosen_177 (ii_c rfl) ?_
            refine J_goto (tgt := 182) dX11_isChosen_178 (by decide) ?_
            refine J_istore dX11_isChosen_182 (by decide) ?_
            refine J_goto (tgt := 113) dX11_isChosen_184 (by decide) ?_
            exact h
set_option maxRecDepth 20000 in
set_option maxHeartbeats 2000000 in
theorem bk_X11_lastOf_0 {d : Nat} {I : HI} {Q : Option AV → AH → Prop} {a1 : Int} {a2 : Int}  (h : (((oA (oSr a2 a1) 1) ≠ 0 → CI mX11_optionMany d [vR 489, vI a1] I (fun x1 I1 => Q (some (vI x1)) (mk I1))) ∧ ((oA (oSr a2 a1) 1) = 0 → Q (some (vI 0)) (mk I)))) : J none mX11_lastOf (d + 1) 0 0 0 [(0, vR 489), (1, vI a1), (2, vI a2)] [] (mk I) Q := by
  refine J_iload_n dX11_lastOf_0 rfl rfl ?_
  refine J_iload_n dX11_lastOf_1 rfl rfl ?_
  refine J_ishr dX11_lastOf_2 ?_
  refine J_iconst dX11_lastOf_3 (ii_c rfl) ?_
  refine J_iand dX11_lastOf_4 ?_
  refine J_if_ne (tgt := 12) dX11_lastOf_5 (by decide) (fun c => ?_) (fun c => ?_)
  · replace h := h.1 c
    refine J_aload_n dX11_lastOf_12 rfl rfl ?_
    refine J_iload_n dX11_lastOf_13 rfl rfl ?_
    refine J_callV (as := [_]) (mc1 := 0) (ms1 := 0) (mc := 0) (ms := 0) dX11_lastOf_14 mv_X11_optionMany lk_X11_641 sh_489 rfl (Nat.le_of_ble_eq_true rfl) (Nat.le_of_ble_eq_true rfl) h (fun r σ hq _ => ?_)
    obtain ⟨x1, I1, rfl, rfl, h⟩ := hq
    change J _ _ _ _ _ _ _ [vI x1] _ _
    exact J_reti dX11_lastOf_17 rfl h
  · replace h := h.2 c
    refine J_iconst dX11_lastOf_8 (ii_c rfl) ?_
    refine J_goto (tgt := 17) dX11_lastOf_9 (by decide) ?_
    exact J_reti dX11_lastOf_17 rfl h
set_option maxRecDepth 20000 in
set_option maxHeartbeats 2000000 in
theorem bk_X11_everybody_0 {d : Nat} {I : HI} {Q : Option AV → AH → Prop}   (h : CI mX11_saintMany d [vR 489] I (fun x1 I1 => (-2147483648 ≤ (oSl 1 x1) - 1 ∧ (oSl 1 x1) - 1 ≤ 2147483647) ∧ Q (some (vI ((oSl 1 x1) - 1))) (mk I1))) : J none mX11_everybody (d + 1) 0 0 0 [(0, vR 489)] [] (mk I) Q := by
  refine J_iconst dX11_everybody_0 (ii_c rfl) ?_
  refine J_aload_n dX11_everybody_1 rfl rfl ?_
  refine J_callV (as := []) (mc1 := 0) (ms1 := 0) (mc := 0) (ms := 0) dX11_everybody_2 mv_X11_saintMany lk_X11_447 sh_489 rfl (Nat.le_of_ble_eq_true rfl) (Nat.le_of_ble_eq_true rfl) h (fun r σ hq _ => ?_)
  obtain ⟨x1, I1, rfl, rfl, h⟩ := hq
  change J _ _ _ _ _ _ _ [vI x1, vI 1] _ _
  refine J_ishl dX11_everybody_5 ?_
  refine J_iconst dX11_everybody_6 (ii_c rfl) ?_
  refine J_isubN dX11_everybody_7 h.1 ?_
  replace h := h.2
  exact J_reti dX11_everybody_8 rfl h
set_option maxRecDepth 20000 in
set_option maxHeartbeats 2000000 in
theorem bk_X11_together_0 {d : Nat} {I : HI} {Q : Option AV → AH → Prop} {a1 : Int}  (h : ((a1 = (-1) → CV mX11_options d [vR 489] I (fun I1 => CI mX11_everybody d [vR 489] I1 (fun x2 I2 => CI mX11_isChosen d [vR 489, vI x2, vI 0, vI 0] I2 (fun x3 I3 => ((x3 ≠ 0 → ((a1 ≠ (-1) → ((0 : Int) ≤ a1 ∧ (a1 : Int) < 4) ∧ (-2147483648 ≤ (I3 551 a1.toNat) - 1 ∧ (I3 551 a1.toNat) - 1 ≤ 2147483647) ∧ Q (some (vI ((I3 551 a1.toNat) - 1))) (mk I3)) ∧ (a1 = (-1) → Q (some (vI (I3 489 84))) (mk I3)))) ∧ (x3 = 0 → Q (some (vI (-1))) (mk I3))))))) ∧ (¬ (a1 = (-1)) → CI mX11_isSaint d [vR 489, vI a1] I (fun x4 I4 => ((x4 ≠ 0 → CV mX11_options d [vR 489] I4 (fun I5 => CI mX11_everybody d [vR 489] I5 (fun x6 I6 => CI mX11_isChosen d [vR 489, vI x6, vI 0, vI 0] I6 (fun x7 I7 => ((x7 ≠ 0 → ((a1 ≠ (-1) → ((0 : Int) ≤ a1 ∧ (a1 : Int) < 4) ∧ (-2147483648 ≤ (I7 551 a1.toNat) - 1 ∧ (I7 551 a1.toNat) - 1 ≤ 2147483647) ∧ Q (some (vI ((I7 551 a1.toNat) - 1))) (mk I7)) ∧ (a1 = (-1) → Q (some (vI (I7 489 84))) (mk I7)))) ∧ (x7 = 0 → Q (some (vI (-1))) (mk I7))))))) ∧ (x4 = 0 → Q (some (vI (-1))) (mk I4))))))) : J none mX11_together (d + 1) 0 0 0 [(0, vR 489), (1, vI a1)] [] (mk I) Q := by
  refine J_iload_n dX11_together_0 rfl rfl ?_
  refine J_iconst dX11_together_1 (ii_c rfl) ?_
  refine J_ic_eq (tgt := 15) dX11_together_2 (by decide) (fun c => ?_) (fun c => ?_)
  · replace h := h.1 c
    refine J_aload_n dX11_together_15 rfl rfl ?_
    refine J_callV (as := []) (mc1 := 0) (ms1 := 0) (mc := 0) (ms := 0) dX11_together_16 mv_X11_options lk_X11_644 sh_489 rfl (Nat.le_of_ble_eq_true rfl) (Nat.le_of_ble_eq_true rfl) h (fun r σ hq _ => ?_)
    obtain ⟨I1, rfl, rfl, h⟩ := hq
    change J _ _ _ _ _ _ _ [] _ _
    refine J_aload_n dX11_together_19 rfl rfl ?_
    refine J_aload_n dX11_together_20 rfl rfl ?_
    refine J_callV (as := []) (mc1 := 0) (ms1 := 0) (mc := 0) (ms := 0) dX11_together_21 mv_X11_everybody lk_X11_647 sh_489 rfl (Nat.le_of_ble_eq_true rfl) (Nat.le_of_ble_eq_true rfl) h (fun r σ hq _ => ?_)
    obtain ⟨x2, I2, rfl, rfl, h⟩ := hq
    change J _ _ _ _ _ _ _ [vI x2, vR 489] _ _
    refine J_iconst dX11_together_24 (ii_c rfl) ?_
    refine J_iconst dX11_together_25 (ii_c rfl) ?_
    refine J_callV (as := [_, _, _]) (mc1 := 0) (ms1 := 0) (mc := 0) (ms := 0) dX11_together_26 mv_X11_isChosen lk_X11_650 sh_489 rfl (Nat.le_of_ble_eq_true rfl) (Nat.le_of_ble_eq_true rfl) h (fun r σ hq _ => ?_)
    obtain ⟨x3, I3, rfl, rfl, h⟩ := hq
    change J _ _ _ _ _ _ _ [vI x3] _ _
    refine J_if_ne (tgt := 34) dX11_together_29 (by decide) (fun c => ?_) (fun c => ?_)
    · replace h := h.1 c
      refine J_iload_n dX11_together_34 rfl rfl ?_
      refine J_iconst dX11_together_35 (ii_c rfl) ?_
      refine J_ic_ne (tgt := 46) dX11_together_36 (by decide) (fun c => ?_) (fun c => ?_)
      · replace h := h.1 c
        refine J_aload_n dX11_together_46 rfl rfl ?_
        refine J_getR dX11_together_47 ck_11 fw_X11_203 rfl sh_489 rr_489_82 ?_
        refine J_iload_n dX11_together_50 rfl rfl ?_
        refine J_iald dX11_together_51 sh_551 h.1.1 h.1.2 ?_
        replace h := h.2
        refine J_iconst dX11_together_52 (ii_c rfl) ?_
        refine J_isubN dX11_together_53 h.1 ?_
        replace h := h.2
        exact J_reti dX11_together_54 rfl h
      · replace h := h.2 c
        refine J_aload_n dX11_together_39 rfl rfl ?_
        refine J_getI dX11_together_40 ck_11 fw_X11_619 rfl sh_489 ?_
        refine J_goto (tgt := 54) dX11_together_43 (by decide) ?_
        exact J_reti dX11_together_54 rfl h
    · replace h := h.2 c
      refine J_iconst dX11_together_32 (ii_c rfl) ?_
      exact J_reti dX11_together_33 rfl h
  · replace h := h.2 c
    refine J_aload_n dX11_together_5 rfl rfl ?_
    refine J_iload_n dX11_together_6 rfl rfl ?_
    refine J_callV (as := [_]) (mc1 := 0) (ms1 := 0) (mc := 0) (ms := 0) dX11_together_7 mv_X11_isSaint lk_X11_481 sh_489 rfl (Nat.le_of_ble_eq_true rfl) (Nat.le_of_ble_eq_true rfl) h (fun r σ hq _ => ?_)
    obtain ⟨x4, I4, rfl, rfl, h⟩ := hq
    change J _ _ _ _ _ _ _ [vI x4] _ _
    refine J_if_ne (tgt := 15) dX11_together_10 (by decide) (fun c => ?_) (fun c => ?_)
    · replace h := h.1 c
      refine J_aload_n dX11_together_15 rfl rfl ?_
      refine J_callV (as := []) (mc1 := 0) (ms1 := 0) (mc := 0) (ms := 0) dX11_together_16 mv_X11_options lk_X11_644 sh_489 rfl (Nat.le_of_ble_eq_true rfl) (Nat.le_of_ble_eq_true rfl) h (fun r σ hq _ => ?_)
      obtain ⟨I5, rfl, rfl, h⟩ := hq
      change J _ _ _ _ _ _ _ [] _ _
      refine J_aload_n dX11_together_19 rfl rfl ?_
      refine J_aload_n dX11_together_20 rfl rfl ?_
      refine J_callV (as := []) (mc1 := 0) (ms1 := 0) (mc := 0) (ms := 0) dX11_together_21 mv_X11_everybody lk_X11_647 sh_489 rfl (Nat.le_of_ble_eq_true rfl) (Nat.le_of_ble_eq_true rfl) h (fun r σ hq _ => ?_)
      obtain ⟨x6, I6, rfl, rfl, h⟩ := hq
      change J _ _ _ _ _ _ _ [vI x6, vR 489] _ _
      refine J_iconst dX11_together_24 (ii_c rfl) ?_
      refine J_iconst dX11_together_25 (ii_c rfl) ?_
      refine J_callV (as := [_, _, _]) (mc1 := 0) (ms1 := 0) (mc := 0) (ms := 0) dX11_together_26 mv_X11_isChosen lk_X11_650 sh_489 rfl (Nat.le_of_ble_eq_true rfl) (Nat.le_of_ble_eq_true rfl) h (fun r σ hq _ => ?_)
      obtain ⟨x7, I7, rfl, rfl, h⟩ := hq
      change J _ _ _ _ _ _ _ [vI x7] _ _
      refine J_if_ne (tgt := 34) dX11_together_29 (by decide) (fun c => ?_) (fun c => ?_)
      · replace h := h.1 c
        refine J_iload_n dX11_together_34 rfl rfl ?_
        refine J_iconst dX11_together_35 (ii_c rfl) ?_
        refine J_ic_ne (tgt := 46) dX11_together_36 (by decide) (fun c => ?_) (fun c => ?_)
        · replace h := h.1 c
          refine J_aload_n dX11_together_46 rfl rfl ?_
          refine J_getR dX11_together_47 ck_11 fw_X11_203 rfl sh_489 rr_489_82 ?_
          refine J_iload_n dX11_together_50 rfl rfl ?_
          refine J_iald dX11_together_51 sh_551 h.1.1 h.1.2 ?_
          replace h := h.2
          refine J_iconst dX11_together_52 (ii_c rfl) ?_
          refine J_isubN dX11_together_53 h.1 ?_
          replace h := h.2
          exact J_reti dX11_together_54 rfl h
        · replace h := h.2 c
          refine J_aload_n dX11_together_39 rfl rfl ?_
          refine J_getI dX11_together_40 ck_11 fw_X11_619 rfl sh_489 ?_
          refine J_goto (tgt := 54) dX11_together_43 (by decide) ?_
          exact J_reti dX11_together_54 rfl h
      · replace h := h.2 c
        refine J_iconst dX11_together_32 (ii_c rfl) ?_
        exact J_reti dX11_together_33 rfl h
    · replace h := h.2 c
      refine J_iconst dX11_together_13 (ii_c rfl) ?_
      exact J_reti dX11_together_14 rfl h
set_option maxRecDepth 20000 in
set_option maxHeartbeats 2000000 in
theorem bk_X11_bars_0 {d : Nat} {I : HI} {Q : Option AV → AH → Prop}   (h : CV mX11_options d [vR 489] I (fun I1 => J none mX11_bars (d + 1) 0 0 8 [(0, vR 489), (1, vI 0), (2, vI 0)] [] (mk I1) Q)) : J none mX11_bars (d + 1) 0 0 0 [(0, vR 489)] [] (mk I) Q := by
  refine J_aload_n dX11_bars_0 rfl rfl ?_
  refine J_callV (as := []) (mc1 := 0) (ms1 := 0) (mc := 0) (ms := 0) dX11_bars_1 mv_X11_options lk_X11_644 sh_489 rfl (Nat.le_of_ble_eq_true rfl) (Nat.le_of_ble_eq_true rfl) h (fun r σ hq _ => ?_)
  obtain ⟨I1, rfl, rfl, h⟩ := hq
  change J _ _ _ _ _ _ _ [] _ _
  refine J_iconst dX11_bars_4 (ii_c rfl) ?_
  refine J_istore_n dX11_bars_5 rfl (by decide) ?_
  refine J_iconst dX11_bars_6 (ii_c rfl) ?_
  refine J_istore_n dX11_bars_7 rfl (by decide) ?_
  exact h
set_option maxRecDepth 20000 in
set_option maxHeartbeats 2000000 in
theorem bk_X11_bars_8 {d : Nat} {I : HI} {Q : Option AV → AH → Prop} {a1 : Int} {a2 : Int}  (h : CI mX11_saintMany d [vR 489] I (fun x1 I1 => ((x1 < a2 → Q (some (vI a1)) (mk I1)) ∧ (¬ (x1 < a2) → J none mX11_bars (d + 1) 0 0 18 [(0, vR 489), (1, vI a1), (2, vI a2), (3, vI 0)] [] (mk I1) Q)))) : J none mX11_bars (d + 1) 0 0 8 [(0, vR 489), (1, vI a1), (2, vI a2)] [] (mk I) Q := by
  refine J_iload_n dX11_bars_8 rfl rfl ?_
  refine J_aload_n dX11_bars_9 rfl rfl ?_
  refine J_callV (as := []) (mc1 := 0) (ms1 := 0) (mc := 0) (ms := 0) dX11_bars_10 mv_X11_saintMany lk_X11_447 sh_489 rfl (Nat.le_of_ble_eq_true rfl) (Nat.le_of_ble_eq_true rfl) h (fun r σ hq _ => ?_)
  obtain ⟨x1, I1, rfl, rfl, h⟩ := hq
  change J _ _ _ _ _ _ _ [vI x1, vI a2] _ _
  refine J_ic_gt (tgt := 70) dX11_bars_13 (by decide) (fun c => ?_) (fun c => ?_)
  · replace h := h.1 c
    refine J_iload_n dX11_bars_70 rfl rfl ?_
    exact J_reti dX11_bars_71 rfl h
  · replace h := h.2 c
    refine J_iconst dX11_bars_16 (ii_c rfl) ?_
    refine J_istore_n dX11_bars_17 rfl (by decide) ?_
    exact h
set_option maxRecDepth 20000 in
set_option maxHeartbeats 2000000 in
theorem bk_X11_bars_18 {d : Nat} {I : HI} {Q : Option AV → AH → Prop} {a1 : Int} {a2 : Int} {a3 : Int}  (h : CI mX11_everybody d [vR 489] I (fun x1 I1 => ((x1 < a3 → (-2147483648 ≤ a2 + 1 ∧ a2 + 1 ≤ 2147483647) ∧ J none mX11_bars (d + 1) 0 0 8 [(0, vR 489), (1, vI a1), (2, vI (a2 + 1))] [] (mk I1) Q) ∧ (¬ (x1 < a3) → CI mX11_bits d [vI a3] I1 (fun x2 I2 => ((x2 = a2 → CI mX11_everybody d [vR 489] I2 (fun x3 I3 => CI mX11_isChosen d [vR 489, vI (oA x3 (oX a3 (-1))), vI 0, vI 1] I3 (fun x4 I4 => ((x4 = 0 → (-2147483648 ≤ a3 + 1 ∧ a3 + 1 ≤ 2147483647) ∧ J none mX11_bars (d + 1) 0 0 18 [(0, vR 489), (1, vI a3), (2, vI a2), (3, vI (a3 + 1))] [] (mk I4) Q) ∧ (¬ (x4 = 0) → Q (some (vI a3)) (mk I4)))))) ∧ (¬ (x2 = a2) → (-2147483648 ≤ a3 + 1 ∧ a3 + 1 ≤ 2147483647) ∧ J none mX11_bars (d + 1) 0 0 18 [(0, vR 489), (1, vI a1), (2, vI a2), (3, vI (a3 + 1))] [] (mk I2) Q))))))) : J none mX11_bars (d + 1) 0 0 18 [(0, vR 489), (1, vI a1), (2, vI a2), (3, vI a3)] [] (mk I) Q := by
  refine J_iload_n dX11_bars_18 rfl rfl ?_
  refine J_aload_n dX11_bars_19 rfl rfl ?_
  refine J_callV (as := []) (mc1 := 0) (ms1 := 0) (mc := 0) (ms := 0) dX11_bars_20 mv_X11_everybody lk_X11_647 sh_489 rfl (Nat.le_of_ble_eq_true rfl) (Nat.le_of_ble_eq_true rfl) h (fun r σ hq _ => ?_)
  obtain ⟨x1, I1, rfl, rfl, h⟩ := hq
  change J _ _ _ _ _ _ _ [vI x1, vI a3] _ _
  refine J_ic_gt (tgt := 64) dX11_bars_23 (by decide) (fun c => ?_) (fun c => ?_)
  · replace h := h.1 c
    refine J_iincN dX11_bars_64 rfl (by decide) h.1 ?_
    replace h := h.2
    refine J_goto (tgt := 8) dX11_bars_67 (by decide) ?_
    exact J_loc (ls_sub [0, 1, 2] rfl) h
  · replace h := h.2 c
    refine J_iload_n dX11_bars_26 rfl rfl ?_
    refine J_callS (as := [_]) (mc1 := 0) (ms1 := 0) (mc := 0) (ms := 0) dX11_bars_27 ms_X11_bits lk_X11_468 rfl (Nat.le_of_ble_eq_true rfl) (Nat.le_of_ble_eq_true rfl) h (fun r σ hq _ => ?_)
    obtain ⟨x2, I2, rfl, rfl, h⟩ := hq
    change J _ _ _ _ _ _ _ [vI x2] _ _
    refine J_iload_n dX11_bars_30 rfl rfl ?_
    refine J_ic_eq (tgt := 37) dX11_bars_31 (by decide) (fun c => ?_) (fun c => ?_)
    · replace h := h.1 c
      refine J_iload_n dX11_bars_37 rfl rfl ?_
      refine J_istore_n dX11_bars_38 rfl (by decide) ?_
      refine J_aload_n dX11_bars_39 rfl rfl ?_
      refine J_aload_n dX11_bars_40 rfl rfl ?_
      refine J_callV (as := []) (mc1 := 0) (ms1 := 0) (mc := 0) (ms := 0) dX11_bars_41 mv_X11_everybody lk_X11_647 sh_489 rfl (Nat.le_of_ble_eq_true rfl) (Nat.le_of_ble_eq_true rfl) h (fun r σ hq _ => ?_)
      obtain ⟨x3, I3, rfl, rfl, h⟩ := hq
      change J _ _ _ _ _ _ _ [vI x3, vR 489] _ _
      refine J_iload_n dX11_bars_44 rfl rfl ?_
      refine J_iconst dX11_bars_45 (ii_c rfl) ?_
      refine J_ixor dX11_bars_46 ?_
      refine J_iand dX11_bars_47 ?_
      refine J_iconst dX11_bars_48 (ii_c rfl) ?_
      refine J_iconst dX11_bars_49 (ii_c rfl) ?_
      refine J_callV (as := [_, _, _]) (mc1 := 0) (ms1 := 0) (mc := 0) (ms := 0) dX11_bars_50 mv_X11_isChosen lk_X11_650 sh_489 rfl (Nat.le_of_ble_eq_true rfl) (Nat.le_of_ble_eq_true rfl) h (fun r σ hq _ => ?_)
      obtain ⟨x4, I4, rfl, rfl, h⟩ := hq
      change J _ _ _ _ _ _ _ [vI x4] _ _
      refine J_if_eq (tgt := 58) dX11_bars_53 (by decide) (fun c => ?_) (fun c => ?_)
      · replace h := h.1 c
        refine J_iincN dX11_bars_58 rfl (by decide) h.1 ?_
        replace h := h.2
        refine J_goto (tgt := 18) dX11_bars_61 (by decide) ?_
        exact h
      · replace h := h.2 c
        refine J_iload_n dX11_bars_56 rfl rfl ?_
        exact J_reti dX11_bars_57 rfl h
    · replace h := h.2 c
      refine J_goto (tgt := 58) dX11_bars_34 (by decide) ?_
      refine J_iincN dX11_bars_58 rfl (by decide) h.1 ?_
      replace h := h.2
      refine J_goto (tgt := 18) dX11_bars_61 (by decide) ?_
      exact h
set_option maxRecDepth 20000 in
set_option maxHeartbeats 2000000 in
theorem bk_X11_comesTo_0 {d : Nat} {I : HI} {Q : Option AV → AH → Prop} {a1 : Int} {a2 : Int}  (h : ((0 : Int) ≤ a2 ∧ (a2 : Int) < 244) ∧ ((0 : Int) ≤ a1 ∧ (a1 : Int) < 244) ∧ (∀ I1 : HI, I1 = up I 532 a1.toNat (I 532 a2.toNat) → J none mX11_comesTo (d + 1) 0 0 14 [(0, vR 489), (1, vI a1), (2, vI a2), (3, vI 0)] [] (mk I1) Q)) : J none mX11_comesTo (d + 1) 0 0 0 [(0, vR 489), (1, vI a1), (2, vI a2)] [] (mk I) Q := by
  refine J_aload_n dX11_comesTo_0 rfl rfl ?_
  refine J_getR dX11_comesTo_1 ck_11 fw_X11_145 rfl sh_489 rr_489_59 ?_
  refine J_iload_n dX11_comesTo_4 rfl rfl ?_
  refine J_aload_n dX11_comesTo_5 rfl rfl ?_
  refine J_getR dX11_comesTo_6 ck_11 fw_X11_145 rfl sh_489 rr_489_59 ?_
  refine J_iload_n dX11_comesTo_9 rfl rfl ?_
  refine J_iald dX11_comesTo_10 sh_532 h.1.1 h.1.2 ?_
  replace h := h.2
  refine J_iast dX11_comesTo_11 sh_532 h.1.1 h.1.2 ?_
  replace h := h.2 _ rfl
  refine J_iconst dX11_comesTo_12 (ii_c rfl) ?_
  refine J_istore_n dX11_comesTo_13 rfl (by decide) ?_
  exact h
set_option maxRecDepth 20000 in
set_option maxHeartbeats 2000000 in
theorem bk_X11_comesTo_14 {d : Nat} {I : HI} {Q : Option AV → AH → Prop} {a1 : Int} {a2 : Int} {a3 : Int}  (h : ((0 : Int) ≤ a2 ∧ (a2 : Int) < 244) ∧ (((I 532 a2.toNat) ≤ a3 → Q none (mk I)) ∧ (¬ ((I 532 a2.toNat) ≤ a3) → (-2147483648 ≤ 24 * a1 ∧ 24 * a1 ≤ 2147483647) ∧ (-2147483648 ≤ (24 * a1) + a3 ∧ (24 * a1) + a3 ≤ 2147483647) ∧ (-2147483648 ≤ 24 * a2 ∧ 24 * a2 ≤ 2147483647) ∧ (-2147483648 ≤ (24 * a2) + a3 ∧ (24 * a2) + a3 ≤ 2147483647) ∧ ((0 : Int) ≤ ((24 * a2) + a3) ∧ ((24 * a2) + a3 : Int) < 5856) ∧ ((0 : Int) ≤ ((24 * a1) + a3) ∧ ((24 * a1) + a3 : Int) < 5856) ∧ (∀ I1 : HI, I1 = up I 533 ((24 * a1) + a3).toNat (I 533 ((24 * a2) + a3).toNat) → (-2147483648 ≤ 24 * a1 ∧ 24 * a1 ≤ 2147483647) ∧ (-2147483648 ≤ (24 * a1) + a3 ∧ (24 * a1) + a3 ≤ 2147483647) ∧ (-2147483648 ≤ 24 * a2 ∧ 24 * a2 ≤ 2147483647) ∧ (-2147483648 ≤ (24 * a2) + a3 ∧ (24 * a2) + a3 ≤ 2147483647) ∧ ((0 : Int) ≤ ((24 * a2) + a3) ∧ ((24 * a2) + a3 : Int) < 5856) ∧ ((0 : Int) ≤ ((24 * a1) + a3) ∧ ((24 * a1) + a3 : Int) < 5856) ∧ (∀ I2 : HI, I2 = up I1 534 ((24 * a1) + a3).toNat (I1 534 ((24 * a2) + a3).toNat) → (-2147483648 ≤ 24 * a1 ∧ 24 * a1 ≤ 2147483647) ∧ (-2147483648 ≤ (24 * a1) + a3 ∧ (24 * a1) + a3 ≤ 2147483647) ∧ (-2147483648 ≤ 24 * a2 ∧ 24 * a2 ≤ 2147483647) ∧ (-2147483648 ≤ (24 * a2) + a3 ∧ (24 * a2) + a3 ≤ 2147483647) ∧ ((0 : Int) ≤ ((24 * a2) + a3) ∧ ((24 * a2) + a3 : Int) < 5856) ∧ ((0 : Int) ≤ ((24 * a1) + a3) ∧ ((24 * a1) + a3 : Int) < 5856) ∧ (∀ I3 : HI, I3 = up I2 535 ((24 * a1) + a3).toNat (I2 535 ((24 * a2) + a3).toNat) → (-2147483648 ≤ a3 + 1 ∧ a3 + 1 ≤ 2147483647) ∧ J none mX11_comesTo (d + 1) 0 0 14 [(0, vR 489), (1, vI a1), (2, vI a2), (3, vI (a3 + 1))] [] (mk I3) Q)))))) : J none mX11_comesTo (d + 1) 0 0 14 [(0, vR 489), (1, vI a1), (2, vI a2), (3, vI a3)] [] (mk I) Q := by
  refine J_iload_n dX11_comesTo_14 rfl rfl ?_
  refine J_aload_n dX11_comesTo_15 rfl rfl ?_
  refine J_getR dX11_comesTo_16 ck_11 fw_X11_145 rfl sh_489 rr_489_59 ?_
  refine J_iload_n dX11_comesTo_19 rfl rfl ?_
  refine J_iald dX11_comesTo_20 sh_532 h.1.1 h.1.2 ?_
  replace h := h.2
  refine J_ic_ge (tgt := 96) dX11_comesTo_21 (by decide) (fun c => ?_) (fun c => ?_)
  · replace h := h.1 c
    exact J_retv dX11_comesTo_96 rfl h
  · replace h := h.2 c
    refine J_aload_n dX11_comesTo_24 rfl rfl ?_
    refine J_getR dX11_comesTo_25 ck_11 fw_X11_148 rfl sh_489 rr_489_60 ?_
    refine J_bipush dX11_comesTo_28 (ii_c rfl) (by decide) ?_
    refine J_iload_n dX11_comesTo_30 rfl rfl ?_
    refine J_imulN dX11_comesTo_31 h.1 ?_
    replace h := h.2
    refine J_iload_n dX11_comesTo_32 rfl rfl ?_
    refine J_iaddN dX11_comesTo_33 h.1 ?_
    replace h := h.2
    refine J_aload_n dX11_comesTo_34 rfl rfl ?_
    refine J_getR dX11_comesTo_35 ck_11 fw_X11_148 rfl sh_489 rr_489_60 ?_
    refine J_bipush dX11_comesTo_38 (ii_c rfl) (by decide) ?_
    refine J_iload_n dX11_comesTo_40 rfl rfl ?_
    refine J_imulN dX11_comesTo_41 h.1 ?_
    replace h := h.2
    refine J_iload_n dX11_comesTo_42 rfl rfl ?_
    refine J_iaddN dX11_comesTo_43 h.1 ?_
    replace h := h.2
    refine J_iald dX11_comesTo_44 sh_533 h.1.1 h.1.2 ?_
    replace h := h.2
    refine J_iast dX11_comesTo_45 sh_533 h.1.1 h.1.2 ?_
    replace h := h.2 _ rfl
    refine J_aload_n dX11_comesTo_46 rfl rfl ?_
    refine J_getR dX11_comesTo_47 ck_11 fw_X11_151 rfl sh_489 rr_489_61 ?_
    refine J_bipush dX11_comesTo_50 (ii_c rfl) (by decide) ?_
    refine J_iload_n dX11_comesTo_52 rfl rfl ?_
    refine J_imulN dX11_comesTo_53 h.1 ?_
    replace h := h.2
    refine J_iload_n dX11_comesTo_54 rfl rfl ?_
    refine J_iaddN dX11_comesTo_55 h.1 ?_
    replace h := h.2
    refine J_aload_n dX11_comesTo_56 rfl rfl ?_
    refine J_getR dX11_comesTo_57 ck_11 fw_X11_151 rfl sh_489 rr_489_61 ?_
    refine J_bipush dX11_comesTo_60 (ii_c rfl) (by decide) ?_
    refine J_iload_n dX11_comesTo_62 rfl rfl ?_
    refine J_imulN dX11_comesTo_63 h.1 ?_
    replace h := h.2
    refine J_iload_n dX11_comesTo_64 rfl rfl ?_
    refine J_iaddN dX11_comesTo_65 h.1 ?_
    replace h := h.2
    refine J_iald dX11_comesTo_66 sh_534 h.1.1 h.1.2 ?_
    replace h := h.2
    refine J_iast dX11_comesTo_67 sh_534 h.1.1 h.1.2 ?_
    replace h := h.2 _ rfl
    refine J_aload_n dX11_comesTo_68 rfl rfl ?_
    refine J_getR dX11_comesTo_69 ck_11 fw_X11_154 rfl sh_489 rr_489_62 ?_
    refine J_bipush dX11_comesTo_72 (ii_c rfl) (by decide) ?_
    refine J_iload_n dX11_comesTo_74 rfl rfl ?_
    refine J_imulN dX11_comesTo_75 h.1 ?_
    replace h := h.2
    refine J_iload_n dX11_comesTo_76 rfl rfl ?_
    refine J_iaddN dX11_comesTo_77 h.1 ?_
    replace h := h.2
    refine J_aload_n dX11_comesTo_78 rfl rfl ?_
    refine J_getR dX11_comesTo_79 ck_11 fw_X11_154 rfl sh_489 rr_489_62 ?_
    refine J_bipush dX11_comesTo_82 (ii_c rfl) (by decide) ?_
    refine J_iload_n dX11_comesTo_84 rfl rfl ?_
    refine J_imulN dX11_comesTo_85 h.1 ?_
    replace h := h.2
    refine J_iload_n dX11_comesTo_86 rfl rfl ?_
    refine J_iaddN dX11_comesTo_87 h.1 ?_
    replace h := h.2
    refine J_iald dX11_comesTo_88 sh_535 h.1.1 h.1.2 ?_
    replace h := h.2
    refine J_iast dX11_comesTo_89 sh_535 h.1.1 h.1.2 ?_
    replace h := h.2 _ rfl
    refine J_iincN dX11_comesTo_90 rfl (by decide) h.1 ?_
    replace h := h.2
    refine J_goto (tgt := 14) dX11_comesTo_93 (by decide) ?_
    exact h
set_option maxRecDepth 20000 in
set_option maxHeartbeats 2000000 in
theorem bk_X11_take_0 {d : Nat} {I : HI} {Q : Option AV → AH → Prop}   (h : CI mX11_saintMany d [vR 489] I (fun x1 I1 => ((x1 ≠ 0 → CV mX11_options d [vR 489] I1 (fun I2 => CI mX11_everybody d [vR 489] I2 (fun x3 I3 => CI mX11_isChosen d [vR 489, vI x3, vI 0, vI 0] I3 (fun x4 I4 => ((x4 ≠ 0 → CV mX11_keeps d [vR 489] I4 (fun I5 => J none mX11_take (d + 1) 0 0 34 [(0, vR 489), (1, vI 0)] [] (mk I5) Q)) ∧ (x4 = 0 → Q (some (vI (-1))) (mk I4))))))) ∧ (x1 = 0 → Q (some (vI (-1))) (mk I1))))) : J none mX11_take (d + 1) 0 0 0 [(0, vR 489)] [] (mk I) Q := by
  refine J_aload_n dX11_take_0 rfl rfl ?_
  refine J_callV (as := []) (mc1 := 0) (ms1 := 0) (mc := 0) (ms := 0) dX11_take_1 mv_X11_saintMany lk_X11_447 sh_489 rfl (Nat.le_of_ble_eq_true rfl) (Nat.le_of_ble_eq_true rfl) h (fun r σ hq _ => ?_)
  obtain ⟨x1, I1, rfl, rfl, h⟩ := hq
  change J _ _ _ _ _ _ _ [vI x1] _ _
  refine J_if_ne (tgt := 9) dX11_take_4 (by decide) (fun c => ?_) (fun c => ?_)
  · replace h := h.1 c
    refine J_aload_n dX11_take_9 rfl rfl ?_
    refine J_callV (as := []) (mc1 := 0) (ms1 := 0) (mc := 0) (ms := 0) dX11_take_10 mv_X11_options lk_X11_644 sh_489 rfl (Nat.le_of_ble_eq_true rfl) (Nat.le_of_ble_eq_true rfl) h (fun r σ hq _ => ?_)
    obtain ⟨I2, rfl, rfl, h⟩ := hq
    change J _ _ _ _ _ _ _ [] _ _
    refine J_aload_n dX11_take_13 rfl rfl ?_
    refine J_aload_n dX11_take_14 rfl rfl ?_
    refine J_callV (as := []) (mc1 := 0) (ms1 := 0) (mc := 0) (ms := 0) dX11_take_15 mv_X11_everybody lk_X11_647 sh_489 rfl (Nat.le_of_ble_eq_true rfl) (Nat.le_of_ble_eq_true rfl) h (fun r σ hq _ => ?_)
    obtain ⟨x3, I3, rfl, rfl, h⟩ := hq
    change J _ _ _ _ _ _ _ [vI x3, vR 489] _ _
    refine J_iconst dX11_take_18 (ii_c rfl) ?_
    refine J_iconst dX11_take_19 (ii_c rfl) ?_
    refine J_callV (as := [_, _, _]) (mc1 := 0) (ms1 := 0) (mc := 0) (ms := 0) dX11_take_20 mv_X11_isChosen lk_X11_650 sh_489 rfl (Nat.le_of_ble_eq_true rfl) (Nat.le_of_ble_eq_true rfl) h (fun r σ hq _ => ?_)
    obtain ⟨x4, I4, rfl, rfl, h⟩ := hq
    change J _ _ _ _ _ _ _ [vI x4] _ _
    refine J_if_ne (tgt := 28) dX11_take_23 (by decide) (fun c => ?_) (fun c => ?_)
    · replace h := h.1 c
      refine J_aload_n dX11_take_28 rfl rfl ?_
      refine J_callV (as := []) (mc1 := 0) (ms1 := 0) (mc := 0) (ms := 0) dX11_take_29 mv_X11_keeps lk_X11_509 sh_489 rfl (Nat.le_of_ble_eq_true rfl) (Nat.le_of_ble_eq_true rfl) h (fun r σ hq _ => ?_)
      obtain ⟨I5, rfl, rfl, h⟩ := hq
      change J _ _ _ _ _ _ _ [] _ _
      refine J_iconst dX11_take_32 (ii_c rfl) ?_
      refine J_istore_n dX11_take_33 rfl (by decide) ?_
      exact h
    · replace h := h.2 c
      refine J_iconst dX11_take_26 (ii_c rfl) ?_
      exact J_reti dX11_take_27 rfl h
  · replace h := h.2 c
    refine J_iconst dX11_take_7 (ii_c rfl) ?_
    exact J_reti dX11_take_8 rfl h
set_option maxRecDepth 20000 in
set_option maxHeartbeats 2000000 in
theorem bk_X11_take_34 {d : Nat} {I : HI} {Q : Option AV → AH → Prop} {a1 : Int}  (h : CI mX11_saintMany d [vR 489] I (fun x1 I1 => ((x1 ≤ a1 → Q (some (vI (I1 489 84))) (mk I1)) ∧ (¬ (x1 ≤ a1) → ((0 : Int) ≤ a1 ∧ (a1 : Int) < 4) ∧ (-2147483648 ≤ (I1 551 a1.toNat) - 1 ∧ (I1 551 a1.toNat) - 1 ≤ 2147483647) ∧ CI mX11_wayOf d [vI a1, vI ((I1 551 a1.toNat) - 1)] I1 (fun x2 I2 => CV mX11_comesTo d [vR 489, vI a1, vI x2] I2 (fun I3 => (-2147483648 ≤ a1 + 1 ∧ a1 + 1 ≤ 2147483647) ∧ J none mX11_take (d + 1) 0 0 34 [(0, vR 489), (1, vI (a1 + 1))] [] (mk I3) Q)))))) : J none mX11_take (d + 1) 0 0 34 [(0, vR 489), (1, vI a1)] [] (mk I) Q := by
  refine J_iload_n dX11_take_34 rfl rfl ?_
  refine J_aload_n dX11_take_35 rfl rfl ?_
  refine J_callV (as := []) (mc1 := 0) (ms1 := 0) (mc := 0) (ms := 0) dX11_take_36 mv_X11_saintMany lk_X11_447 sh_489 rfl (Nat.le_of_ble_eq_true rfl) (Nat.le_of_ble_eq_true rfl) h (fun r σ hq _ => ?_)
  obtain ⟨x1, I1, rfl, rfl, h⟩ := hq
  change J _ _ _ _ _ _ _ [vI x1, vI a1] _ _
  refine J_ic_ge (tgt := 65) dX11_take_39 (by decide) (fun c => ?_) (fun c => ?_)
  · replace h := h.1 c
    refine J_aload_n dX11_take_65 rfl rfl ?_
    refine J_getI dX11_take_66 ck_11 fw_X11_619 rfl sh_489 ?_
    exact J_reti dX11_take_69 rfl h
  · replace h := h.2 c
    refine J_aload_n dX11_take_42 rfl rfl ?_
    refine J_iload_n dX11_take_43 rfl rfl ?_
    refine J_iload_n dX11_take_44 rfl rfl ?_
    refine J_aload_n dX11_take_45 rfl rfl ?_
    refine J_getR dX11_take_46 ck_11 fw_X11_203 rfl sh_489 rr_489_82 ?_
    refine J_iload_n dX11_take_49 rfl rfl ?_
    refine J_iald dX11_take_50 sh_551 h.1.1 h.1.2 ?_
    replace h := h.2
    refine J_iconst dX11_take_51 (ii_c rfl) ?_
    refine J_isubN dX11_take_52 h.1 ?_
    replace h := h.2
    refine J_callS (as := [_, _]) (mc1 := 0) (ms1 := 0) (mc := 0) (ms := 0) dX11_take_53 ms_X11_wayOf lk_X11_604 rfl (Nat.le_of_ble_eq_true rfl) (Nat.le_of_ble_eq_true rfl) h (fun r σ hq _ => ?_)
    obtain ⟨x2, I2, rfl, rfl, h⟩ := hq
    change J _ _ _ _ _ _ _ [vI x2, vI a1, vR 489] _ _
    refine J_callV (as := [_, _]) (mc1 := 0) (ms1 := 0) (mc := 0) (ms := 0) dX11_take_56 mv_X11_comesTo lk_X11_654 sh_489 rfl (Nat.le_of_ble_eq_true rfl) (Nat.le_of_ble_eq_true rfl) h (fun r σ hq _ => ?_)
    obtain ⟨I3, rfl, rfl, h⟩ := hq
    change J _ _ _ _ _ _ _ [] _ _
    refine J_iincN dX11_take_59 rfl (by decide) h.1 ?_
    replace h := h.2
    refine J_goto (tgt := 34) dX11_take_62 (by decide) ?_
    exact h
set_option maxRecDepth 20000 in
set_option maxHeartbeats 2000000 in
theorem bk_X11_mend_0 {d : Nat} {I : HI} {Q : Option AV → AH → Prop}   (h : CV mX11_options d [vR 489] I (fun I1 => CI mX11_everybody d [vR 489] I1 (fun x2 I2 => CI mX11_isChosen d [vR 489, vI x2, vI 1, vI 0] I2 (fun x3 I3 => ((x3 ≠ 0 → (((I3 489 83) ≠ 0 → CV mX11_keeps d [vR 489] I3 (fun I4 => J none mX11_mend (d + 1) 0 0 34 [(0, vR 489), (1, vI 0)] [] (mk I4) Q)) ∧ ((I3 489 83) = 0 → Q (some (vI 0)) (mk I3)))) ∧ (x3 = 0 → Q (some (vI (-1))) (mk I3))))))) : J none mX11_mend (d + 1) 0 0 0 [(0, vR 489)] [] (mk I) Q := by
  refine J_aload_n dX11_mend_0 rfl rfl ?_
  refine J_callV (as := []) (mc1 := 0) (ms1 := 0) (mc := 0) (ms := 0) dX11_mend_1 mv_X11_options lk_X11_644 sh_489 rfl (Nat.le_of_ble_eq_true rfl) (Nat.le_of_ble_eq_true rfl) h (fun r σ hq _ => ?_)
  obtain ⟨I1, rfl, rfl, h⟩ := hq
  change J _ _ _ _ _ _ _ [] _ _
  refine J_aload_n dX11_mend_4 rfl rfl ?_
  refine J_aload_n dX11_mend_5 rfl rfl ?_
  refine J_callV (as := []) (mc1 := 0) (ms1 := 0) (mc := 0) (ms := 0) dX11_mend_6 mv_X11_everybody lk_X11_647 sh_489 rfl (Nat.le_of_ble_eq_true rfl) (Nat.le_of_ble_eq_true rfl) h (fun r σ hq _ => ?_)
  obtain ⟨x2, I2, rfl, rfl, h⟩ := hq
  change J _ _ _ _ _ _ _ [vI x2, vR 489] _ _
  refine J_iconst dX11_mend_9 (ii_c rfl) ?_
  refine J_iconst dX11_mend_10 (ii_c rfl) ?_
  refine J_callV (as := [_, _, _]) (mc1 := 0) (ms1 := 0) (mc := 0) (ms := 0) dX11_mend_11 mv_X11_isChosen lk_X11_650 sh_489 rfl (Nat.le_of_ble_eq_true rfl) (Nat.le_of_ble_eq_true rfl) h (fun r σ hq _ => ?_)
  obtain ⟨x3, I3, rfl, rfl, h⟩ := hq
  change J _ _ _ _ _ _ _ [vI x3] _ _
  refine J_if_ne (tgt := 19) dX11_mend_14 (by decide) (fun c => ?_) (fun c => ?_)
  · replace h := h.1 c
    refine J_aload_n dX11_mend_19 rfl rfl ?_
    refine J_getI dX11_mend_20 ck_11 fw_X11_625 rfl sh_489 ?_
    refine J_if_ne (tgt := 28) dX11_mend_23 (by decide) (fun c => ?_) (fun c => ?_)
    · replace h := h.1 c
      refine J_aload_n dX11_mend_28 rfl rfl ?_
      refine J_callV (as := []) (mc1 := 0) (ms1 := 0) (mc := 0) (ms := 0) dX11_mend_29 mv_X11_keeps lk_X11_509 sh_489 rfl (Nat.le_of_ble_eq_true rfl) (Nat.le_of_ble_eq_true rfl) h (fun r σ hq _ => ?_)
      obtain ⟨I4, rfl, rfl, h⟩ := hq
      change J _ _ _ _ _ _ _ [] _ _
      refine J_iconst dX11_mend_32 (ii_c rfl) ?_
      refine J_istore_n dX11_mend_33 rfl (by decide) ?_
      exact h
    · replace h := h.2 c
      refine J_iconst dX11_mend_26 (ii_c rfl) ?_
      exact J_reti dX11_mend_27 rfl h
  · replace h := h.2 c
    refine J_iconst dX11_mend_17 (ii_c rfl) ?_
    exact J_reti dX11_mend_18 rfl h
set_option maxRecDepth 20000 in
set_option maxHeartbeats 2000000 in
theorem bk_X11_mend_34 {d : Nat} {I : HI} {Q : Option AV → AH → Prop} {a1 : Int}  (h : CI mX11_saintMany d [vR 489] I (fun x1 I1 => ((x1 ≤ a1 → Q (some (vI (I1 489 83))) (mk I1)) ∧ (¬ (x1 ≤ a1) → ((0 : Int) ≤ a1 ∧ (a1 : Int) < 4) ∧ (((I1 551 a1.toNat) ≤ 0 → (-2147483648 ≤ a1 + 1 ∧ a1 + 1 ≤ 2147483647) ∧ J none mX11_mend (d + 1) 0 0 34 [(0, vR 489), (1, vI (a1 + 1))] [] (mk I1) Q) ∧ (¬ ((I1 551 a1.toNat) ≤ 0) → ((0 : Int) ≤ a1 ∧ (a1 : Int) < 4) ∧ (-2147483648 ≤ (I1 551 a1.toNat) - 1 ∧ (I1 551 a1.toNat) - 1 ≤ 2147483647) ∧ CI mX11_wayOf d [vI a1, vI ((I1 551 a1.toNat) - 1)] I1 (fun x2 I2 => CV mX11_comesTo d [vR 489, vI a1, vI x2] I2 (fun I3 => (-2147483648 ≤ a1 + 1 ∧ a1 + 1 ≤ 2147483647) ∧ J none mX11_mend (d + 1) 0 0 34 [(0, vR 489), (1, vI (a1 + 1))] [] (mk I3) Q)))))))) : J none mX11_mend (d + 1) 0 0 34 [(0, vR 489), (1, vI a1)] [] (mk I) Q := by
  refine J_iload_n dX11_mend_34 rfl rfl ?_
  refine J_aload_n dX11_mend_35 rfl rfl ?_
  refine J_callV (as := []) (mc1 := 0) (ms1 := 0) (mc := 0) (ms := 0) dX11_mend_36 mv_X11_saintMany lk_X11_447 sh_489 rfl (Nat.le_of_ble_eq_true rfl) (Nat.le_of_ble_eq_true rfl) h (fun r σ hq _ => ?_)
  obtain ⟨x1, I1, rfl, rfl, h⟩ := hq
  change J _ _ _ _ _ _ _ [vI x1, vI a1] _ _
  refine J_ic_ge (tgt := 74) dX11_mend_39 (by decide) (fun c => ?_) (fun c => ?_)
  · replace h := h.1 c
    refine J_aload_n dX11_mend_74 rfl rfl ?_
    refine J_getI dX11_mend_75 ck_11 fw_X11_625 rfl sh_489 ?_
    exact J_reti dX11_mend_78 rfl h
  · replace h := h.2 c
    refine J_aload_n dX11_mend_42 rfl rfl ?_
    refine J_getR dX11_mend_43 ck_11 fw_X11_203 rfl sh_489 rr_489_82 ?_
    refine J_iload_n dX11_mend_46 rfl rfl ?_
    refine J_iald dX11_mend_47 sh_551 h.1.1 h.1.2 ?_
    replace h := h.2
    refine J_if_le (tgt := 68) dX11_mend_48 (by decide) (fun c => ?_) (fun c => ?_)
    · replace h := h.1 c
      refine J_iincN dX11_mend_68 rfl (by decide) h.1 ?_
      replace h := h.2
      refine J_goto (tgt := 34) dX11_mend_71 (by decide) ?_
      exact h
    · replace h := h.2 c
      refine J_aload_n dX11_mend_51 rfl rfl ?_
      refine J_iload_n dX11_mend_52 rfl rfl ?_
      refine J_iload_n dX11_mend_53 rfl rfl ?_
      refine J_aload_n dX11_mend_54 rfl rfl ?_
      refine J_getR dX11_mend_55 ck_11 fw_X11_203 rfl sh_489 rr_489_82 ?_
      refine J_iload_n dX11_mend_58 rfl rfl ?_
      refine J_iald dX11_mend_59 sh_551 h.1.1 h.1.2 ?_
      replace h := h.2
      refine J_iconst dX11_mend_60 (ii_c rfl) ?_
      refine J_isubN dX11_mend_61 h.1 ?_
      replace h := h.2
      refine J_callS (as := [_, _]) (mc1 := 0) (ms1 := 0) (mc := 0) (ms := 0) dX11_mend_62 ms_X11_wayOf lk_X11_604 rfl (Nat.le_of_ble_eq_true rfl) (Nat.le_of_ble_eq_true rfl) h (fun r σ hq _ => ?_)
      obtain ⟨x2, I2, rfl, rfl, h⟩ := hq
      change J _ _ _ _ _ _ _ [vI x2, vI a1, vR 489] _ _
      refine J_callV (as := [_, _]) (mc1 := 0) (ms1 := 0) (mc := 0) (ms := 0) dX11_mend_65 mv_X11_comesTo lk_X11_654 sh_489 rfl (Nat.le_of_ble_eq_true rfl) (Nat.le_of_ble_eq_true rfl) h (fun r σ hq _ => ?_)
      obtain ⟨I3, rfl, rfl, h⟩ := hq
      change J _ _ _ _ _ _ _ [] _ _
      refine J_iincN dX11_mend_68 rfl (by decide) h.1 ?_
      replace h := h.2
      refine J_goto (tgt := 34) dX11_mend_71 (by decide) ?_
      exact h
set_option maxRecDepth 20000 in
set_option maxHeartbeats 2000000 in
theorem bk_X11_isAlone_0 {d : Nat} {I : HI} {Q : Option AV → AH → Prop} {a1 : Int} {a2 : Int}  (h : J none mX11_isAlone (d + 1) 0 0 2 [(0, vR 489), (1, vI a1), (2, vI a2), (3, vI 0)] [] (mk I) Q) : J none mX11_isAlone (d + 1) 0 0 0 [(0, vR 489), (1, vI a1), (2, vI a2)] [] (mk I) Q := by
  refine J_iconst dX11_isAlone_0 (ii_c rfl) ?_
  refine J_istore_n dX11_isAlone_1 rfl (by decide) ?_
  exact h
set_option maxRecDepth 20000 in
set_option maxHeartbeats 2000000 in
theorem bk_X11_isAlone_2 {d : Nat} {I : HI} {Q : Option AV → AH → Prop} {a1 : Int} {a2 : Int} {a3 : Int}  (h : CI mX11_saintMany d [vR 489] I (fun x1 I1 => ((x1 ≤ a3 → Q (some (vI 1)) (mk I1)) ∧ (¬ (x1 ≤ a3) → ((a3 = a2 → (-2147483648 ≤ a3 + 1 ∧ a3 + 1 ≤ 2147483647) ∧ J none mX11_isAlone (d + 1) 0 0 2 [(0, vR 489), (1, vI a1), (2, vI a2), (3, vI (a3 + 1))] [] (mk I1) Q) ∧ (¬ (a3 = a2) → CI mX11_areLawful d [vR 489, vI a1, vI a3] I1 (fun x2 I2 => ((x2 ≠ 0 → (-2147483648 ≤ a3 + 1 ∧ a3 + 1 ≤ 2147483647) ∧ J none mX11_isAlone (d + 1) 0 0 2 [(0, vR 489), (1, vI a1), (2, vI a2), (3, vI (a3 + 1))] [] (mk I2) Q) ∧ (x2 = 0 → Q (some (vI 0)) (mk I2)))))))))) : J none mX11_isAlone (d + 1) 0 0 2 [(0, vR 489), (1, vI a1), (2, vI a2), (3, vI a3)] [] (mk I) Q := by
  refine J_iload_n dX11_isAlone_2 rfl rfl ?_
  refine J_aload_n dX11_isAlone_3 rfl rfl ?_
  refine J_callV (as := []) (mc1 := 0) (ms1 := 0) (mc := 0) (ms := 0) dX11_isAlone_4 mv_X11_saintMany lk_X11_447 sh_489 rfl (Nat.le_of_ble_eq_true rfl) (Nat.le_of_ble_eq_true rfl) h (fun r σ hq _ => ?_)
  obtain ⟨x1, I1, rfl, rfl, h⟩ := hq
  change J _ _ _ _ _ _ _ [vI x1, vI a3] _ _
  refine J_ic_ge (tgt := 32) dX11_isAlone_7 (by decide) (fun c => ?_) (fun c => ?_)
  · replace h := h.1 c
    refine J_iconst dX11_isAlone_32 (ii_c rfl) ?_
    exact J_retz dX11_isAlone_33 rfl (Or.inr rfl) h
  · replace h := h.2 c
    refine J_iload_n dX11_isAlone_10 rfl rfl ?_
    refine J_iload_n dX11_isAlone_11 rfl rfl ?_
    refine J_ic_eq (tgt := 26) dX11_isAlone_12 (by decide) (fun c => ?_) (fun c => ?_)
    · replace h := h.1 c
      refine J_iincN dX11_isAlone_26 rfl (by decide) h.1 ?_
      replace h := h.2
      refine J_goto (tgt := 2) dX11_isAlone_29 (by decide) ?_
      exact h
    · replace h := h.2 c
      refine J_aload_n dX11_isAlone_15 rfl rfl ?_
      refine J_iload_n dX11_isAlone_16 rfl rfl ?_
      refine J_iload_n dX11_isAlone_17 rfl rfl ?_
      refine J_callV (as := [_, _]) (mc1 := 0) (ms1 := 0) (mc := 0) (ms := 0) dX11_isAlone_18 mv_X11_areLawful lk_X11_580 sh_489 rfl (Nat.le_of_ble_eq_true rfl) (Nat.le_of_ble_eq_true rfl) h (fun r σ hq _ => ?_)
      obtain ⟨x2, I2, rfl, rfl, h⟩ := hq
      change J _ _ _ _ _ _ _ [vI x2] _ _
      refine J_if_ne (tgt := 26) dX11_isAlone_21 (by decide) (fun c => ?_) (fun c => ?_)
      · replace h := h.1 c
        refine J_iincN dX11_isAlone_26 rfl (by decide) h.1 ?_
        replace h := h.2
        refine J_goto (tgt := 2) dX11_isAlone_29 (by decide) ?_
        exact h
      · replace h := h.2 c
        refine J_iconst dX11_isAlone_24 (ii_c rfl) ?_
        exact J_retz dX11_isAlone_25 rfl (Or.inl rfl) h
set_option maxRecDepth 20000 in
set_option maxHeartbeats 2000000 in
theorem bk_X11_turn_0 {d : Nat} {I : HI} {Q : Option AV → AH → Prop}   (h : CV mX11_options d [vR 489] I (fun I1 => CV mX11_remembers d [vR 489] I1 (fun I2 => J none mX11_turn (d + 1) 0 0 12 [(0, vR 489), (1, vI 0), (2, vI 0)] [] (mk I2) Q))) : J none mX11_turn (d + 1) 0 0 0 [(0, vR 489)] [] (mk I) Q := by
  refine J_aload_n dX11_turn_0 rfl rfl ?_
  refine J_callV (as := []) (mc1 := 0) (ms1 := 0) (mc := 0) (ms := 0) dX11_turn_1 mv_X11_options lk_X11_644 sh_489 rfl (Nat.le_of_ble_eq_true rfl) (Nat.le_of_ble_eq_true rfl) h (fun r σ hq _ => ?_)
  obtain ⟨I1, rfl, rfl, h⟩ := hq
  change J _ _ _ _ _ _ _ [] _ _
  refine J_aload_n dX11_turn_4 rfl rfl ?_
  refine J_callV (as := []) (mc1 := 0) (ms1 := 0) (mc := 0) (ms := 0) dX11_turn_5 mv_X11_remembers lk_X11_490 sh_489 rfl (Nat.le_of_ble_eq_true rfl) (Nat.le_of_ble_eq_true rfl) h (fun r σ hq _ => ?_)
  obtain ⟨I2, rfl, rfl, h⟩ := hq
  change J _ _ _ _ _ _ _ [] _ _
  refine J_iconst dX11_turn_8 (ii_c rfl) ?_
  refine J_istore_n dX11_turn_9 rfl (by decide) ?_
  refine J_iconst dX11_turn_10 (ii_c rfl) ?_
  refine J_istore_n dX11_turn_11 rfl (by decide) ?_
  exact h
set_option maxRecDepth 20000 in
set_option maxHeartbeats 2000000 in
theorem bk_X11_turn_12 {d : Nat} {I : HI} {Q : Option AV → AH → Prop} {a1 : Int} {a2 : Int}  (h : CI mX11_saintMany d [vR 489] I (fun x1 I1 => ((x1 ≤ a2 → ((a1 ≤ 0 → Q (some (vI a1)) (mk I1)) ∧ (¬ (a1 ≤ 0) → CV mX11_keepsAside d [vR 489] I1 (fun I2 => Q (some (vI a1)) (mk I2))))) ∧ (¬ (x1 ≤ a2) → J none mX11_turn (d + 1) 0 0 25 [(0, vR 489), (1, vI a1), (2, vI a2), (3, vI (-1)), (4, vI 0)] [] (mk I1) Q)))) : J none mX11_turn (d + 1) 0 0 12 [(0, vR 489), (1, vI a1), (2, vI a2)] [] (mk I) Q := by
  refine J_iload_n dX11_turn_12 rfl rfl ?_
  refine J_aload_n dX11_turn_13 rfl rfl ?_
  refine J_callV (as := []) (mc1 := 0) (ms1 := 0) (mc := 0) (ms := 0) dX11_turn_14 mv_X11_saintMany lk_X11_447 sh_489 rfl (Nat.le_of_ble_eq_true rfl) (Nat.le_of_ble_eq_true rfl) h (fun r σ hq _ => ?_)
  obtain ⟨x1, I1, rfl, rfl, h⟩ := hq
  change J _ _ _ _ _ _ _ [vI x1, vI a2] _ _
  refine J_ic_ge (tgt := 143) dX11_turn_17 (by decide) (fun c => ?_) (fun c => ?_)
  · replace h := h.1 c
    refine J_iload_n dX11_turn_143 rfl rfl ?_
    refine J_if_le (tgt := 151) dX11_turn_144 (by decide) (fun c => ?_) (fun c => ?_)
    · replace h := h.1 c
      refine J_iload_n dX11_turn_151 rfl rfl ?_
      exact J_reti dX11_turn_152 rfl h
    · replace h := h.2 c
      refine J_aload_n dX11_turn_147 rfl rfl ?_
      refine J_callV (as := []) (mc1 := 0) (ms1 := 0) (mc := 0) (ms := 0) dX11_turn_148 mv_X11_keepsAside lk_X11_493 sh_489 rfl (Nat.le_of_ble_eq_true rfl) (Nat.le_of_ble_eq_true rfl) h (fun r σ hq _ => ?_)
      obtain ⟨I2, rfl, rfl, h⟩ := hq
      change J _ _ _ _ _ _ _ [] _ _
      refine J_iload_n dX11_turn_151 rfl rfl ?_
      exact J_reti dX11_turn_152 rfl h
  · replace h := h.2 c
    refine J_iconst dX11_turn_20 (ii_c rfl) ?_
    refine J_istore_n dX11_turn_21 rfl (by decide) ?_
    refine J_iconst dX11_turn_22 (ii_c rfl) ?_
    refine J_istore dX11_turn_23 (by decide) ?_
    exact h
set_option maxRecDepth 20000 in
set_option maxHeartbeats 2000000 in
theorem bk_X11_turn_25 {d : Nat} {I : HI} {Q : Option AV → AH → Prop} {a1 : Int} {a2 : Int} {a3 : Int} {a4 : Int}  (h : CI mX11_optionMany d [vR 489, vI a2] I (fun x1 I1 => ((x1 ≤ a4 → ((a3 = (-1) → (-2147483648 ≤ a2 + 1 ∧ a2 + 1 ≤ 2147483647) ∧ J none mX11_turn (d + 1) 0 0 12 [(0, vR 489), (1, vI a1), (2, vI (a2 + 1))] [] (mk I1) Q) ∧ (¬ (a3 = (-1)) → CI mX11_endOf d [vR 489, vI a3] I1 (fun x2 I2 => CI mX11_endOf d [vR 489, vI a2] I2 (fun x3 I3 => ((x2 < x3 → CV mX11_comesTo d [vR 489, vI a2, vI a3] I3 (fun I4 => (-2147483648 ≤ a1 + 1 ∧ a1 + 1 ≤ 2147483647) ∧ (-2147483648 ≤ a2 + 1 ∧ a2 + 1 ≤ 2147483647) ∧ J none mX11_turn (d + 1) 0 0 12 [(0, vR 489), (1, vI (a1 + 1)), (2, vI (a2 + 1))] [] (mk I4) Q)) ∧ (¬ (x2 < x3) → ((0 : Int) ≤ a2 ∧ (a2 : Int) < 244) ∧ (((I3 532 a2.toNat) ≤ 0 → CV mX11_comesTo d [vR 489, vI a2, vI a3] I3 (fun I5 => (-2147483648 ≤ a1 + 1 ∧ a1 + 1 ≤ 2147483647) ∧ (-2147483648 ≤ a2 + 1 ∧ a2 + 1 ≤ 2147483647) ∧ J none mX11_turn (d + 1) 0 0 12 [(0, vR 489), (1, vI (a1 + 1)), (2, vI (a2 + 1))] [] (mk I5) Q)) ∧ (¬ ((I3 532 a2.toNat) ≤ 0) → CI mX11_isAlone d [vR 489, vI a2, vI a2] I3 (fun x6 I6 => ((x6 = 0 → CV mX11_comesTo d [vR 489, vI a2, vI a3] I6 (fun I7 => (-2147483648 ≤ a1 + 1 ∧ a1 + 1 ≤ 2147483647) ∧ (-2147483648 ≤ a2 + 1 ∧ a2 + 1 ≤ 2147483647) ∧ J none mX11_turn (d + 1) 0 0 12 [(0, vR 489), (1, vI (a1 + 1)), (2, vI (a2 + 1))] [] (mk I7) Q)) ∧ (¬ (x6 = 0) → CI mX11_isWhole d [vR 489, vI a2] I6 (fun x8 I8 => ((x8 = 0 → CV mX11_comesTo d [vR 489, vI a2, vI a3] I8 (fun I9 => (-2147483648 ≤ a1 + 1 ∧ a1 + 1 ≤ 2147483647) ∧ (-2147483648 ≤ a2 + 1 ∧ a2 + 1 ≤ 2147483647) ∧ J none mX11_turn (d + 1) 0 0 12 [(0, vR 489), (1, vI (a1 + 1)), (2, vI (a2 + 1))] [] (mk I9) Q)) ∧ (¬ (x8 = 0) → (-2147483648 ≤ a2 + 1 ∧ a2 + 1 ≤ 2147483647) ∧ J none mX11_turn (d + 1) 0 0 12 [(0, vR 489), (1, vI a1), (2, vI (a2 + 1))] [] (mk I8) Q))))))))))))))) ∧ (¬ (x1 ≤ a4) → CI mX11_wayOf d [vI a2, vI a4] I1 (fun x10 I10 => ((a3 = (-1) → CI mX11_isAlone d [vR 489, vI x10, vI a2] I10 (fun x11 I11 => ((x11 = 0 → (-2147483648 ≤ a4 + 1 ∧ a4 + 1 ≤ 2147483647) ∧ J none mX11_turn (d + 1) 0 0 25 [(0, vR 489), (1, vI a1), (2, vI a2), (3, vI a3), (4, vI (a4 + 1))] [] (mk I11) Q) ∧ (¬ (x11 = 0) → (-2147483648 ≤ a4 + 1 ∧ a4 + 1 ≤ 2147483647) ∧ J none mX11_turn (d + 1) 0 0 25 [(0, vR 489), (1, vI a1), (2, vI a2), (3, vI x10), (4, vI (a4 + 1))] [] (mk I11) Q)))) ∧ (¬ (a3 = (-1)) → CI mX11_endOf d [vR 489, vI x10] I10 (fun x12 I12 => CI mX11_endOf d [vR 489, vI a3] I12 (fun x13 I13 => ((x13 ≤ x12 → (-2147483648 ≤ a4 + 1 ∧ a4 + 1 ≤ 2147483647) ∧ J none mX11_turn (d + 1) 0 0 25 [(0, vR 489), (1, vI a1), (2, vI a2), (3, vI a3), (4, vI (a4 + 1))] [] (mk I13) Q) ∧ (¬ (x13 ≤ x12) → CI mX11_isAlone d [vR 489, vI x10, vI a2] I13 (fun x14 I14 => ((x14 = 0 → (-2147483648 ≤ a4 + 1 ∧ a4 + 1 ≤ 2147483647) ∧ J none mX11_turn (d + 1) 0 0 25 [(0, vR 489), (1, vI a1), (2, vI a2), (3, vI a3), (4, vI (a4 + 1))] [] (mk I14) Q) ∧ (¬ (x14 = 0) → (-2147483648 ≤ a4 + 1 ∧ a4 + 1 ≤ 2147483647) ∧ J none mX11_turn (d + 1) 0 0 25 [(0, vR 489), (1, vI a1), (2, vI a2), (3, vI x10), (4, vI (a4 + 1))] [] (mk I14) Q)))))))))))))) : J none mX11_turn (d + 1) 0 0 25 [(0, vR 489), (1, vI a1), (2, vI a2), (3, vI a3), (4, vI a4)] [] (mk I) Q := by
  refine J_iload dX11_turn_25 rfl ?_
  refine J_aload_n dX11_turn_27 rfl rfl ?_
  refine J_iload_n dX11_turn_28 rfl rfl ?_
  refine J_callV (as := [_]) (mc1 := 0) (ms1 := 0) (mc := 0) (ms := 0) dX11_turn_29 mv_X11_optionMany lk_X11_641 sh_489 rfl (Nat.le_of_ble_eq_true rfl) (Nat.le_of_ble_eq_true rfl) h (fun r σ hq _ => ?_)
  obtain ⟨x1, I1, rfl, rfl, h⟩ := hq
  change J _ _ _ _ _ _ _ [vI x1, vI a4] _ _
  refine J_ic_ge (tgt := 81) dX11_turn_32 (by decide) (fun c => ?_) (fun c => ?_)
  · replace h := h.1 c
    refine J_iload_n dX11_turn_81 rfl rfl ?_
    refine J_iconst dX11_turn_82 (ii_c rfl) ?_
    refine J_ic_eq (tgt := 137) dX11_turn_83 (by decide) (fun c => ?_) (fun c => ?_)
    · replace h := h.1 c
      refine J_iincN dX11_turn_137 rfl (by decide) h.1 ?_
      replace h := h.2
      refine J_goto (tgt := 12) dX11_turn_140 (by decide) ?_
      exact J_loc (ls_sub [0, 1, 2] rfl) h
    · replace h := h.2 c
      refine J_aload_n dX11_turn_86 rfl rfl ?_
      refine J_iload_n dX11_turn_87 rfl rfl ?_
      refine J_callV (as := [_]) (mc1 := 0) (ms1 := 0) (mc := 0) (ms := 0) dX11_turn_88 mv_X11_endOf lk_X11_459 sh_489 rfl (Nat.le_of_ble_eq_true rfl) (Nat.le_of_ble_eq_true rfl) h (fun r σ hq _ => ?_)
      obtain ⟨x2, I2, rfl, rfl, h⟩ := hq
      change J _ _ _ _ _ _ _ [vI x2] _ _
      refine J_aload_n dX11_turn_91 rfl rfl ?_
      refine J_iload_n dX11_turn_92 rfl rfl ?_
      refine J_callV (as := [_]) (mc1 := 0) (ms1 := 0) (mc := 0) (ms := 0) dX11_turn_93 mv_X11_endOf lk_X11_459 sh_489 rfl (Nat.le_of_ble_eq_true rfl) (Nat.le_of_ble_eq_true rfl) h (fun r σ hq _ => ?_)
      obtain ⟨x3, I3, rfl, rfl, h⟩ := hq
      change J _ _ _ _ _ _ _ [vI x3, vI x2] _ _
      refine J_ic_lt (tgt := 128) dX11_turn_96 (by decide) (fun c => ?_) (fun c => ?_)
      · replace h := h.1 c
        refine J_aload_n dX11_turn_128 rfl rfl ?_
        refine J_iload_n dX11_turn_129 rfl rfl ?_
        refine J_iload_n dX11_turn_130 rfl rfl ?_
        refine J_callV (as := [_, _]) (mc1 := 0) (ms1 := 0) (mc := 0) (ms := 0) dX11_turn_131 mv_X11_comesTo lk_X11_654 sh_489 rfl (Nat.le_of_ble_eq_true rfl) (Nat.le_of_ble_eq_true rfl) h (fun r σ hq _ => ?_)
        obtain ⟨I4, rfl, rfl, h⟩ := hq
        change J _ _ _ _ _ _ _ [] _ _
        refine J_iincN dX11_turn_134 rfl (by decide) h.1 ?_
        replace h := h.2
        refine J_iincN dX11_turn_137 rfl (by decide) h.1 ?_
        replace h := h.2
        refine J_goto (tgt := 12) dX11_turn_140 (by decide) ?_
        exact J_loc (ls_sub [0, 1, 2] rfl) h
      · replace h := h.2 c
        refine J_aload_n dX11_turn_99 rfl rfl ?_
        refine J_getR dX11_turn_100 ck_11 fw_X11_145 rfl sh_489 rr_489_59 ?_
        refine J_iload_n dX11_turn_103 rfl rfl ?_
        refine J_iald dX11_turn_104 sh_532 h.1.1 h.1.2 ?_
        replace h := h.2
        refine J_if_le (tgt := 128) dX11_turn_105 (by decide) (fun c => ?_) (fun c => ?_)
        · replace h := h.1 c
          refine J_aload_n dX11_turn_128 rfl rfl ?_
          refine J_iload_n dX11_turn_129 rfl rfl ?_
          refine J_iload_n dX11_turn_130 rfl rfl ?_
          refine J_callV (as := [_, _]) (mc1 := 0) (ms1 := 0) (mc := 0) (ms := 0) dX11_turn_131 mv_X11_comesTo lk_X11_654 sh_489 rfl (Nat.le_of_ble_eq_true rfl) (Nat.le_of_ble_eq_true rfl) h (fun r σ hq _ => ?_)
          obtain ⟨I5, rfl, rfl, h⟩ := hq
          change J _ _ _ _ _ _ _ [] _ _
          refine J_iincN dX11_turn_134 rfl (by decide) h.1 ?_
          replace h := h.2
          refine J_iincN dX11_turn_137 rfl (by decide) h.1 ?_
          replace h := h.2
          refine J_goto (tgt := 12) dX11_turn_140 (by decide) ?_
          exact J_loc (ls_sub [0, 1, 2] rfl) h
        · replace h := h.2 c
          refine J_aload_n dX11_turn_108 rfl rfl ?_
          refine J_iload_n dX11_turn_109 rfl rfl ?_
          refine J_iload_n dX11_turn_110 rfl rfl ?_
          refine J_callV (as := [_, _]) (mc1 := 0) (ms1 := 0) (mc := 0) (ms := 0) dX11_turn_111 mv_X11_isAlone lk_X11_657 sh_489 rfl (Nat.le_of_ble_eq_true rfl) (Nat.le_of_ble_eq_true rfl) h (fun r σ hq _ => ?_)
          obtain ⟨x6, I6, rfl, rfl, h⟩ := hq
          change J _ _ _ _ _ _ _ [vI x6] _ _
          refine J_if_eq (tgt := 128) dX11_turn_114 (by decide) (fun c => ?_) (fun c => ?_)
          · replace h := h.1 c
            refine J_aload_n dX11_turn_128 rfl rfl ?_
            refine J_iload_n dX11_turn_129 rfl rfl ?_
            refine J_iload_n dX11_turn_130 rfl rfl ?_
            refine J_callV (as := [_, _]) (mc1 := 0) (ms1 := 0) (mc := 0) (ms := 0) dX11_turn_131 mv_X11_comesTo lk_X11_654 sh_489 rfl (Nat.le_of_ble_eq_true rfl) (Nat.le_of_ble_eq_true rfl) h (fun r σ hq _ => ?_)
            obtain ⟨I7, rfl, rfl, h⟩ := hq
            change J _ _ _ _ _ _ _ [] _ _
            refine J_iincN dX11_turn_134 rfl (by decide) h.1 ?_
            replace h := h.2
            refine J_iincN dX11_turn_137 rfl (by decide) h.1 ?_
            replace h := h.2
            refine J_goto (tgt := 12) dX11_turn_140 (by decide) ?_
            exact J_loc (ls_sub [0, 1, 2] rfl) h
          · replace h := h.2 c
            refine J_aload_n dX11_turn_117 rfl rfl ?_
            refine J_iload_n dX11_turn_118 rfl rfl ?_
            refine J_callV (as := [_]) (mc1 := 0) (ms1 := 0) (mc := 0) (ms := 0) dX11_turn_119 mv_X11_isWhole lk_X11_610 sh_489 rfl (Nat.le_of_ble_eq_true rfl) (Nat.le_of_ble_eq_true rfl) h (fun r σ hq _ => ?_)
            obtain ⟨x8, I8, rfl, rfl, h⟩ := hq
            change J _ _ _ _ _ _ _ [vI x8] _ _
            refine J_if_eq (tgt := 128) dX11_turn_122 (by decide) (fun c => ?_) (fun c => ?_)
            · replace h := h.1 c
              refine J_aload_n dX11_turn_128 rfl rfl ?_
              refine J_iload_n dX11_turn_129 rfl rfl ?_
              refine J_iload_n dX11_turn_130 rfl rfl ?_
              refine J_callV (as := [_, _]) (mc1 := 0) (ms1 := 0) (mc := 0) (ms := 0) dX11_turn_131 mv_X11_comesTo lk_X11_654 sh_489 rfl (Nat.le_of_ble_eq_true rfl) (Nat.le_of_ble_eq_true rfl) h (fun r σ hq _ => ?_)
              obtain ⟨I9, rfl, rfl, h⟩ := hq
              change J _ _ _ _ _ _ _ [] _ _
              refine J_iincN dX11_turn_134 rfl (by decide) h.1 ?_
              replace h := h.2
              refine J_iincN dX11_turn_137 rfl (by decide) h.1 ?_
              replace h := h.2
              refine J_goto (tgt := 12) dX11_turn_140 (by decide) ?_
              exact J_loc (ls_sub [0, 1, 2] rfl) h
            · replace h := h.2 c
              refine J_goto (tgt := 137) dX11_turn_125 (by decide) ?_
              refine J_iincN dX11_turn_137 rfl (by decide) h.1 ?_
              replace h := h.2
              refine J_goto (tgt := 12) dX11_turn_140 (by decide) ?_
              exact J_loc (ls_sub [0, 1, 2] rfl) h
  · replace h := h.2 c
    refine J_iload_n dX11_turn_35 rfl rfl ?_
    refine J_iload dX11_turn_36 rfl ?_
    refine J_callS (as := [_, _]) (mc1 := 0) (ms1 := 0) (mc := 0) (ms := 0) dX11_turn_38 ms_X11_wayOf lk_X11_604 rfl (Nat.le_of_ble_eq_true rfl) (Nat.le_of_ble_eq_true rfl) h (fun r σ hq _ => ?_)
    obtain ⟨x10, I10, rfl, rfl, h⟩ := hq
    change J _ _ _ _ _ _ _ [vI x10] _ _
    refine J_istore dX11_turn_41 (by decide) ?_
    refine J_iload_n dX11_turn_43 rfl rfl ?_
    refine J_iconst dX11_turn_44 (ii_c rfl) ?_
    refine J_ic_eq (tgt := 62) dX11_turn_45 (by decide) (fun c => ?_) (fun c => ?_)
    · replace h := h.1 c
      refine J_aload_n dX11_turn_62 rfl rfl ?_
      refine J_iload dX11_turn_63 rfl ?_
      refine J_iload_n dX11_turn_65 rfl rfl ?_
      refine J_callV (as := [_, _]) (mc1 := 0) (ms1 := 0) (mc := 0) (ms := 0) dX11_turn_66 mv_X11_isAlone lk_X11_657 sh_489 rfl (Nat.le_of_ble_eq_true rfl) (Nat.le_of_ble_eq_true rfl) h (fun r σ hq _ => ?_)
      obtain ⟨x11, I11, rfl, rfl, h⟩ := hq
      change J _ _ _ _ _ _ _ [vI x11] _ _
      refine J_if_eq (tgt := 75) dX11_turn_69 (by decide) (fun c => ?_) (fun c => ?_)
      · replace h := h.1 c
        refine J_iincN dX11_turn_75 rfl (by decide) h.1 ?_
        replace h := h.2
        refine J_goto (tgt := 25) dX11_turn_78 (by decide) ?_
        exact J_loc (ls_sub [0, 1, 2, 3, 4] rfl) h
      · replace h := h.2 c
        refine J_iload dX11_turn_72 rfl ?_
        refine J_istore_n dX11_turn_74 rfl (by decide) ?_
        refine J_iincN dX11_turn_75 rfl (by decide) h.1 ?_
        replace h := h.2
        refine J_goto (tgt := 25) dX11_turn_78 (by decide) ?_
        exact J_loc (ls_sub [0, 1, 2, 3, 4] rfl) h
    · replace h := h.2 c
      refine J_aload_n dX11_turn_48 rfl rfl ?_
      refine J_iload dX11_turn_49 rfl ?_
      refine J_callV (as := [_]) (mc1 := 0) (ms1 := 0) (mc := 0) (ms := 0) dX11_turn_51 mv_X11_endOf lk_X11_459 sh_489 rfl (Nat.le_of_ble_eq_true rfl) (Nat.le_of_ble_eq_true rfl) h (fun r σ hq _ => ?_)
      obtain ⟨x12, I12, rfl, rfl, h⟩ := hq
      change J _ _ _ _ _ _ _ [vI x12] _ _
      refine J_aload_n dX11_turn_54 rfl rfl ?_
      refine J_iload_n dX11_turn_55 rfl rfl ?_
      refine J_callV (as := [_]) (mc1 := 0) (ms1 := 0) (mc := 0) (ms := 0) dX11_turn_56 mv_X11_endOf lk_X11_459 sh_489 rfl (Nat.le_of_ble_eq_true rfl) (Nat.le_of_ble_eq_true rfl) h (fun r σ hq _ => ?_)
      obtain ⟨x13, I13, rfl, rfl, h⟩ := hq
      change J _ _ _ _ _ _ _ [vI x13, vI x12] _ _
      refine J_ic_ge (tgt := 75) dX11_turn_59 (by decide) (fun c => ?_) (fun c => ?_)
      · replace h := h.1 c
        refine J_iincN dX11_turn_75 rfl (by decide) h.1 ?_
        replace h := h.2
        refine J_goto (tgt := 25) dX11_turn_78 (by decide) ?_
        exact J_loc (ls_sub [0, 1, 2, 3, 4] rfl) h
      · replace h := h.2 c
        refine J_aload_n dX11_turn_62 rfl rfl ?_
        refine J_iload dX11_turn_63 rfl ?_
        refine J_iload_n dX11_turn_65 rfl rfl ?_
        refine J_callV (as := [_, _]) (mc1 := 0) (ms1 := 0) (mc := 0) (ms := 0) dX11_turn_66 mv_X11_isAlone lk_X11_657 sh_489 rfl (Nat.le_of_ble_eq_true rfl) (Nat.le_of_ble_eq_true rfl) h (fun r σ hq _ => ?_)
        obtain ⟨x14, I14, rfl, rfl, h⟩ := hq
        change J _ _ _ _ _ _ _ [vI x14] _ _
        refine J_if_eq (tgt := 75) dX11_turn_69 (by decide) (fun c => ?_) (fun c => ?_)
        · replace h := h.1 c
          refine J_iincN dX11_turn_75 rfl (by decide) h.1 ?_
          replace h := h.2
          refine J_goto (tgt := 25) dX11_turn_78 (by decide) ?_
          exact J_loc (ls_sub [0, 1, 2, 3, 4] rfl) h
        · replace h := h.2 c
          refine J_iload dX11_turn_72 rfl ?_
          refine J_istore_n dX11_turn_74 rfl (by decide) ?_
          refine J_iincN dX11_turn_75 rfl (by decide) h.1 ?_
          replace h := h.2
          refine J_goto (tgt := 25) dX11_turn_78 (by decide) ?_
          exact J_loc (ls_sub [0, 1, 2, 3, 4] rfl) h
set_option maxRecDepth 20000 in
set_option maxHeartbeats 2000000 in
theorem bk_X11_leastAlone_0 {d : Nat} {I : HI} {Q : Option AV → AH → Prop} {a1 : Int}  (h : J none mX11_leastAlone (d + 1) 0 0 4 [(0, vR 489), (1, vI a1), (2, vI (-1)), (3, vI 0)] [] (mk I) Q) : J none mX11_leastAlone (d + 1) 0 0 0 [(0, vR 489), (1, vI a1)] [] (mk I) Q := by
  refine J_iconst dX11_leastAlone_0 (ii_c rfl) ?_
  refine J_istore_n dX11_leastAlone_1 rfl (by decide) ?_
  refine J_iconst dX11_leastAlone_2 (ii_c rfl) ?_
  refine J_istore_n dX11_leastAlone_3 rfl (by decide) ?_
  exact h
set_option maxRecDepth 20000 in
set_option maxHeartbeats 2000000 in
theorem bk_X11_leastAlone_4 {d : Nat} {I : HI} {Q : Option AV → AH → Prop} {a1 : Int} {a2 : Int} {a3 : Int}  (h : CI mX11_optionMany d [vR 489, vI a1] I (fun x1 I1 => ((x1 ≤ a3 → Q (some (vI a2)) (mk I1)) ∧ (¬ (x1 ≤ a3) → CI mX11_wayOf d [vI a1, vI a3] I1 (fun x2 I2 => CI mX11_endOf d [vR 489, vI x2] I2 (fun x3 I3 => ((a2 = (-1) → (-2147483648 ≤ a3 + 1 ∧ a3 + 1 ≤ 2147483647) ∧ J none mX11_leastAlone (d + 1) 0 0 4 [(0, vR 489), (1, vI a1), (2, vI x3), (3, vI (a3 + 1))] [] (mk I3) Q) ∧ (¬ (a2 = (-1)) → ((a2 ≤ x3 → (-2147483648 ≤ a3 + 1 ∧ a3 + 1 ≤ 2147483647) ∧ J none mX11_leastAlone (d + 1) 0 0 4 [(0, vR 489), (1, vI a1), (2, vI a2), (3, vI (a3 + 1))] [] (mk I3) Q) ∧ (¬ (a2 ≤ x3) → (-2147483648 ≤ a3 + 1 ∧ a3 + 1 ≤ 2147483647) ∧ J none mX11_leastAlone (d + 1) 0 0 4 [(0, vR 489), (1, vI a1), (2, vI x3), (3, vI (a3 + 1))] [] (mk I3) Q)))))))))) : J none mX11_leastAlone (d + 1) 0 0 4 [(0, vR 489), (1, vI a1), (2, vI a2), (3, vI a3)] [] (mk I) Q := by
  refine J_iload_n dX11_leastAlone_4 rfl rfl ?_
  refine J_aload_n dX11_leastAlone_5 rfl rfl ?_
  refine J_iload_n dX11_leastAlone_6 rfl rfl ?_
  refine J_callV (as := [_]) (mc1 := 0) (ms1 := 0) (mc := 0) (ms := 0) dX11_leastAlone_7 mv_X11_optionMany lk_X11_641 sh_489 rfl (Nat.le_of_ble_eq_true rfl) (Nat.le_of_ble_eq_true rfl) h (fun r σ hq _ => ?_)
  obtain ⟨x1, I1, rfl, rfl, h⟩ := hq
  change J _ _ _ _ _ _ _ [vI x1, vI a3] _ _
  refine J_ic_ge (tgt := 44) dX11_leastAlone_10 (by decide) (fun c => ?_) (fun c => ?_)
  · replace h := h.1 c
    refine J_iload_n dX11_leastAlone_44 rfl rfl ?_
    exact J_reti dX11_leastAlone_45 rfl h
  · replace h := h.2 c
    refine J_aload_n dX11_leastAlone_13 rfl rfl ?_
    refine J_iload_n dX11_leastAlone_14 rfl rfl ?_
    refine J_iload_n dX11_leastAlone_15 rfl rfl ?_
    refine J_callS (as := [_, _]) (mc1 := 0) (ms1 := 0) (mc := 0) (ms := 0) dX11_leastAlone_16 ms_X11_wayOf lk_X11_604 rfl (Nat.le_of_ble_eq_true rfl) (Nat.le_of_ble_eq_true rfl) h (fun r σ hq _ => ?_)
    obtain ⟨x2, I2, rfl, rfl, h⟩ := hq
    change J _ _ _ _ _ _ _ [vI x2, vR 489] _ _
    refine J_callV (as := [_]) (mc1 := 0) (ms1 := 0) (mc := 0) (ms := 0) dX11_leastAlone_19 mv_X11_endOf lk_X11_459 sh_489 rfl (Nat.le_of_ble_eq_true rfl) (Nat.le_of_ble_eq_true rfl) h (fun r σ hq _ => ?_)
    obtain ⟨x3, I3, rfl, rfl, h⟩ := hq
    change J _ _ _ _ _ _ _ [vI x3] _ _
    refine J_istore dX11_leastAlone_22 (by decide) ?_
    refine J_iload_n dX11_leastAlone_24 rfl rfl ?_
    refine J_iconst dX11_leastAlone_25 (ii_c rfl) ?_
    refine J_ic_eq (tgt := 35) dX11_leastAlone_26 (by decide) (fun c => ?_) (fun c => ?_)
    · replace h := h.1 c
      refine J_iload dX11_leastAlone_35 rfl ?_
      refine J_istore_n dX11_leastAlone_37 rfl (by decide) ?_
      refine J_iincN dX11_leastAlone_38 rfl (by decide) h.1 ?_
      replace h := h.2
      refine J_goto (tgt := 4) dX11_leastAlone_41 (by decide) ?_
      exact J_loc (ls_sub [0, 1, 2, 3] rfl) h
    · replace h := h.2 c
      refine J_iload dX11_leastAlone_29 rfl ?_
      refine J_iload_n dX11_leastAlone_31 rfl rfl ?_
      refine J_ic_ge (tgt := 38) dX11_leastAlone_32 (by decide) (fun c => ?_) (fun c => ?_)
      · replace h := h.1 c
        refine J_iincN dX11_leastAlone_38 rfl (by decide) h.1 ?_
        replace h := h.2
        refine J_goto (tgt := 4) dX11_leastAlone_41 (by decide) ?_
        exact J_loc (ls_sub [0, 1, 2, 3] rfl) h
      · replace h := h.2 c
        refine J_iload dX11_leastAlone_35 rfl ?_
        refine J_istore_n dX11_leastAlone_37 rfl (by decide) ?_
        refine J_iincN dX11_leastAlone_38 rfl (by decide) h.1 ?_
        replace h := h.2
        refine J_goto (tgt := 4) dX11_leastAlone_41 (by decide) ?_
        exact J_loc (ls_sub [0, 1, 2, 3] rfl) h
set_option maxRecDepth 20000 in
set_option maxHeartbeats 2000000 in
theorem bk_X11_getsBeside_0 {d : Nat} {I : HI} {Q : Option AV → AH → Prop} {a1 : Int}  (h : ((0 : Int) ≤ a1 ∧ (a1 : Int) < 4) ∧ J none mX11_getsBeside (d + 1) 0 0 12 [(0, vR 489), (1, vI a1), (2, vI (I 552 a1.toNat)), (3, vI (-1)), (4, vI 0)] [] (mk I) Q) : J none mX11_getsBeside (d + 1) 0 0 0 [(0, vR 489), (1, vI a1)] [] (mk I) Q := by
  refine J_aload_n dX11_getsBeside_0 rfl rfl ?_
  refine J_getR dX11_getsBeside_1 ck_11 fw_X11_206 rfl sh_489 rr_489_85 ?_
  refine J_iload_n dX11_getsBeside_4 rfl rfl ?_
  refine J_iald dX11_getsBeside_5 sh_552 h.1.1 h.1.2 ?_
  replace h := h.2
  refine J_istore_n dX11_getsBeside_6 rfl (by decide) ?_
  refine J_iconst dX11_getsBeside_7 (ii_c rfl) ?_
  refine J_istore_n dX11_getsBeside_8 rfl (by decide) ?_
  refine J_iconst dX11_getsBeside_9 (ii_c rfl) ?_
  refine J_istore dX11_getsBeside_10 (by decide) ?_
  exact h
set_option maxRecDepth 20000 in
set_option maxHeartbeats 2000000 in
theorem bk_X11_getsBeside_12 {d : Nat} {I : HI} {Q : Option AV → AH → Prop} {a1 : Int} {a2 : Int} {a3 : Int} {a4 : Int}  (h : CI mX11_optionMany d [vR 489, vI a2] I (fun x1 I1 => ((x1 ≤ a4 → Q (some (vI a3)) (mk I1)) ∧ (¬ (x1 ≤ a4) → CI mX11_wayOf d [vI a2, vI a4] I1 (fun x2 I2 => ((a3 = (-1) → J none mX11_getsBeside (d + 1) 0 0 59 [(0, vR 489), (1, vI a1), (2, vI a2), (3, vI a3), (4, vI a4), (5, vI x2), (6, vI 1), (7, vI 0)] [] (mk I2) Q) ∧ (¬ (a3 = (-1)) → CI mX11_endOf d [vR 489, vI x2] I2 (fun x3 I3 => CI mX11_endOf d [vR 489, vI a3] I3 (fun x4 I4 => ((x4 ≤ x3 → J none mX11_getsBeside (d + 1) 0 0 59 [(0, vR 489), (1, vI a1), (2, vI a2), (3, vI a3), (4, vI a4), (5, vI x2), (6, vI 0), (7, vI 0)] [] (mk I4) Q) ∧ (¬ (x4 ≤ x3) → J none mX11_getsBeside (d + 1) 0 0 59 [(0, vR 489), (1, vI a1), (2, vI a2), (3, vI a3), (4, vI a4), (5, vI x2), (6, vI 1), (7, vI 0)] [] (mk I4) Q))))))))))) : J none mX11_getsBeside (d + 1) 0 0 12 [(0, vR 489), (1, vI a1), (2, vI a2), (3, vI a3), (4, vI a4)] [] (mk I) Q := by
  refine J_iload dX11_getsBeside_12 rfl ?_
  refine J_aload_n dX11_getsBeside_14 rfl rfl ?_
  refine J_iload_n dX11_getsBeside_15 rfl rfl ?_
  refine J_callV (as := [_]) (mc1 := 0) (ms1 := 0) (mc := 0) (ms := 0) dX11_getsBeside_16 mv_X11_optionMany lk_X11_641 sh_489 rfl (Nat.le_of_ble_eq_true rfl) (Nat.le_of_ble_eq_true rfl) h (fun r σ hq _ => ?_)
  obtain ⟨x1, I1, rfl, rfl, h⟩ := hq
  change J _ _ _ _ _ _ _ [vI x1, vI a4] _ _
  refine J_ic_ge (tgt := 124) dX11_getsBeside_19 (by decide) (fun c => ?_) (fun c => ?_)
  · replace h := h.1 c
    refine J_iload_n dX11_getsBeside_124 rfl rfl ?_
    exact J_reti dX11_getsBeside_125 rfl h
  · replace h := h.2 c
    refine J_iload_n dX11_getsBeside_22 rfl rfl ?_
    refine J_iload dX11_getsBeside_23 rfl ?_
    refine J_callS (as := [_, _]) (mc1 := 0) (ms1 := 0) (mc := 0) (ms := 0) dX11_getsBeside_25 ms_X11_wayOf lk_X11_604 rfl (Nat.le_of_ble_eq_true rfl) (Nat.le_of_ble_eq_true rfl) h (fun r σ hq _ => ?_)
    obtain ⟨x2, I2, rfl, rfl, h⟩ := hq
    change J _ _ _ _ _ _ _ [vI x2] _ _
    refine J_istore dX11_getsBeside_28 (by decide) ?_
    refine J_iload_n dX11_getsBeside_30 rfl rfl ?_
    refine J_iconst dX11_getsBeside_31 (ii_c rfl) ?_
    refine J_ic_eq (tgt := 49) dX11_getsBeside_32 (by decide) (fun c => ?_) (fun c => ?_)
    · replace h := h.1 c
      refine J_iconst dX11_getsBeside_49 (ii_c rfl) ?_
      refine J_goto (tgt := 54) dX11_getsBeside_50 (by decide) ?_
      refine J_istore dX11_getsBeside_54 (by decide) ?_
      refine J_iconst dX11_getsBeside_56 (ii_c rfl) ?_
      refine J_istore dX11_getsBeside_57 (by decide) ?_
      exact h
    · replace h := h.2 c
      refine J_aload_n dX11_getsBeside_35 rfl rfl ?_
      refine J_iload dX11_getsBeside_36 rfl ?_
      refine J_callV (as := [_]) (mc1 := 0) (ms1 := 0) (mc := 0) (ms := 0) dX11_getsBeside_38 mv_X11_endOf lk_X11_459 sh_489 rfl (Nat.le_of_ble_eq_true rfl) (Nat.le_of_ble_eq_true rfl) h (fun r σ hq _ => ?_)
      obtain ⟨x3, I3, rfl, rfl, h⟩ := hq
      change J _ _ _ _ _ _ _ [vI x3] _ _
      refine J_aload_n dX11_getsBeside_41 rfl rfl ?_
      refine J_iload_n dX11_getsBeside_42 rfl rfl ?_
      refine J_callV (as := [_]) (mc1 := 0) (ms1 := 0) (mc := 0) (ms := 0) dX11_getsBeside_43 mv_X11_endOf lk_X11_459 sh_489 rfl (Nat.le_of_ble_eq_true rfl) (Nat.le_of_ble_eq_true rfl) h (fun r σ hq _ => ?_)
      obtain ⟨x4, I4, rfl, rfl, h⟩ := hq
      change J _ _ _ _ _ _ _ [vI x4, vI x3] _ _
      refine J_ic_ge (tgt := 53) dX11_getsBeside_46 (by decide) (fun c => ?_) (fun c => ?_)
      · replace h := h.1 c
        refine J_iconst dX11_getsBeside_53 (ii_c rfl) ?_
        refine J_istore dX11_getsBeside_54 (by decide) ?_
        refine J_iconst dX11_getsBeside_56 (ii_c rfl) ?_
        refine J_istore dX11_getsBeside_57 (by decide) ?_
        exact h
      · replace h := h.2 c
        refine J_iconst dX11_getsBeside_49 (ii_c rfl) ?_
        refine J_goto (tgt := 54) dX11_getsBeside_50 (by decide) ?_
        refine J_istore dX11_getsBeside_54 (by decide) ?_
        refine J_iconst dX11_getsBeside_56 (ii_c rfl) ?_
        refine J_istore dX11_getsBeside_57 (by decide) ?_
        exact h
set_option maxRecDepth 20000 in
set_option maxHeartbeats 2000000 in
theorem bk_X11_getsBeside_59 {d : Nat} {I : HI} {Q : Option AV → AH → Prop} {a1 : Int} {a2 : Int} {a3 : Int} {a4 : Int} {a5 : Int} {a6 : Int} {a7 : Int}  (h : ((a1 ≤ a7 → ((a6 = 0 → (-2147483648 ≤ a4 + 1 ∧ a4 + 1 ≤ 2147483647) ∧ J none mX11_getsBeside (d + 1) 0 0 12 [(0, vR 489), (1, vI a1), (2, vI a2), (3, vI a3), (4, vI (a4 + 1))] [] (mk I) Q) ∧ (¬ (a6 = 0) → (-2147483648 ≤ a4 + 1 ∧ a4 + 1 ≤ 2147483647) ∧ J none mX11_getsBeside (d + 1) 0 0 12 [(0, vR 489), (1, vI a1), (2, vI a2), (3, vI a5), (4, vI (a4 + 1))] [] (mk I) Q))) ∧ (¬ (a1 ≤ a7) → ((a6 = 0 → ((a6 = 0 → (-2147483648 ≤ a4 + 1 ∧ a4 + 1 ≤ 2147483647) ∧ J none mX11_getsBeside (d + 1) 0 0 12 [(0, vR 489), (1, vI a1), (2, vI a2), (3, vI a3), (4, vI (a4 + 1))] [] (mk I) Q) ∧ (¬ (a6 = 0) → (-2147483648 ≤ a4 + 1 ∧ a4 + 1 ≤ 2147483647) ∧ J none mX11_getsBeside (d + 1) 0 0 12 [(0, vR 489), (1, vI a1), (2, vI a2), (3, vI a5), (4, vI (a4 + 1))] [] (mk I) Q))) ∧ (¬ (a6 = 0) → ((0 : Int) ≤ a7 ∧ (a7 : Int) < 4) ∧ (((I 553 a7.toNat) = (-1) → (-2147483648 ≤ a7 + 1 ∧ a7 + 1 ≤ 2147483647) ∧ J none mX11_getsBeside (d + 1) 0 0 59 [(0, vR 489), (1, vI a1), (2, vI a2), (3, vI a3), (4, vI a4), (5, vI a5), (6, vI 1), (7, vI (a7 + 1))] [] (mk I) Q) ∧ (¬ ((I 553 a7.toNat) = (-1)) → ((0 : Int) ≤ a7 ∧ (a7 : Int) < 4) ∧ CI mX11_areKnown d [vR 489, vI (I 553 a7.toNat), vI a5] I (fun x1 I1 => ((x1 = 0 → (-2147483648 ≤ a7 + 1 ∧ a7 + 1 ≤ 2147483647) ∧ J none mX11_getsBeside (d + 1) 0 0 59 [(0, vR 489), (1, vI a1), (2, vI a2), (3, vI a3), (4, vI a4), (5, vI a5), (6, vI 0), (7, vI (a7 + 1))] [] (mk I1) Q) ∧ (¬ (x1 = 0) → (-2147483648 ≤ a7 + 1 ∧ a7 + 1 ≤ 2147483647) ∧ J none mX11_getsBeside (d + 1) 0 0 59 [(0, vR 489), (1, vI a1), (2, vI a2), (3, vI a3), (4, vI a4), (5, vI a5), (6, vI 1), (7, vI (a7 + 1))] [] (mk I1) Q)))))))))) : J none mX11_getsBeside (d + 1) 0 0 59 [(0, vR 489), (1, vI a1), (2, vI a2), (3, vI a3), (4, vI a4), (5, vI a5), (6, vI a6), (7, vI a7)] [] (mk I) Q := by
  refine J_iload dX11_getsBeside_59 rfl ?_
  refine J_iload_n dX11_getsBeside_61 rfl rfl ?_
  refine J_ic_ge (tgt := 110) dX11_getsBeside_62 (by decide) (fun c => ?_) (fun c => ?_)
  · replace h := h.1 c
    refine J_iload dX11_getsBeside_110 rfl ?_
    refine J_if_eq (tgt := 118) dX11_getsBeside_112 (by decide) (fun c => ?_) (fun c => ?_)
    · replace h := h.1 c
      refine J_iincN dX11_getsBeside_118 rfl (by decide) h.1 ?_
      replace h := h.2
      refine J_goto (tgt := 12) dX11_getsBeside_121 (by decide) ?_
      exact J_loc (ls_sub [0, 1, 2, 3, 4] rfl) h
    · replace h := h.2 c
      refine J_iload dX11_getsBeside_115 rfl ?_
      refine J_istore_n dX11_getsBeside_117 rfl (by decide) ?_
      refine J_iincN dX11_getsBeside_118 rfl (by decide) h.1 ?_
      replace h := h.2
      refine J_goto (tgt := 12) dX11_getsBeside_121 (by decide) ?_
      exact J_loc (ls_sub [0, 1, 2, 3, 4] rfl) h
  · replace h := h.2 c
    refine J_iload dX11_getsBeside_65 rfl ?_
    refine J_if_eq (tgt := 110) dX11_getsBeside_67 (by decide) (fun c => ?_) (fun c => ?_)
    · replace h := h.1 c
      refine J_iload dX11_getsBeside_110 rfl ?_
      refine J_if_eq (tgt := 118) dX11_getsBeside_112 (by decide) (fun c => ?_) (fun c => ?_)
      · replace h := h.1 c
        refine J_iincN dX11_getsBeside_118 rfl (by decide) h.1 ?_
        replace h := h.2
        refine J_goto (tgt := 12) dX11_getsBeside_121 (by decide) ?_
        exact J_loc (ls_sub [0, 1, 2, 3, 4] rfl) h
      · replace h := h.2 c
        refine J_iload dX11_getsBeside_115 rfl ?_
        refine J_istore_n dX11_getsBeside_117 rfl (by decide) ?_
        refine J_iincN dX11_getsBeside_118 rfl (by decide) h.1 ?_
        replace h := h.2
        refine J_goto (tgt := 12) dX11_getsBeside_121 (by decide) ?_
        exact J_loc (ls_sub [0, 1, 2, 3, 4] rfl) h
    · replace h := h.2 c
      refine J_aload_n dX11_getsBeside_70 rfl rfl ?_
      refine J_getR dX11_getsBeside_71 ck_11 fw_X11_209 rfl sh_489 rr_489_86 ?_
      refine J_iload dX11_getsBeside_74 rfl ?_
      refine J_iald dX11_getsBeside_76 sh_553 h.1.1 h.1.2 ?_
      replace h := h.2
      refine J_iconst dX11_getsBeside_77 (ii_c rfl) ?_
      refine J_ic_eq (tgt := 97) dX11_getsBeside_78 (by decide) (fun c => ?_) (fun c => ?_)
      · replace h := h.1 c
        refine J_iconst dX11_getsBeside_97 (ii_c rfl) ?_
        refine J_goto (tgt := 102) dX11_getsBeside_98 (by decide) ?_
        refine J_istore dX11_getsBeside_102 (by decide) ?_
        refine J_iincN dX11_getsBeside_104 rfl (by decide) h.1 ?_
        replace h := h.2
        refine J_goto (tgt := 59) dX11_getsBeside_107 (by decide) ?_
        exact h
      · replace h := h.2 c
        refine J_aload_n dX11_getsBeside_81 rfl rfl ?_
        refine J_aload_n dX11_getsBeside_82 rfl rfl ?_
        refine J_getR dX11_getsBeside_83 ck_11 fw_X11_209 rfl sh_489 rr_489_86 ?_
        refine J_iload dX11_getsBeside_86 rfl ?_
        refine J_iald dX11_getsBeside_88 sh_553 h.1.1 h.1.2 ?_
        replace h := h.2
        refine J_iload dX11_getsBeside_89 rfl ?_
        refine J_callV (as := [_, _]) (mc1 := 0) (ms1 := 0) (mc := 0) (ms := 0) dX11_getsBeside_91 mv_X11_areKnown lk_X11_616 sh_489 rfl (Nat.le_of_ble_eq_true rfl) (Nat.le_of_ble_eq_true rfl) h (fun r σ hq _ => ?_)
        obtain ⟨x1, I1, rfl, rfl, h⟩ := hq
        change J _ _ _ _ _ _ _ [vI x1] _ _
        refine J_if_eq (tgt := 101) dX11_getsBeside_94 (by decide) (fun c => ?_) (fun c => ?_)
        · replace h := h.1 c
          refine J_iconst dX11_getsBeside_101 (ii_c rfl) ?_
          refine J_istore dX11_getsBeside_102 (by decide) ?_
          refine J_iincN dX11_getsBeside_104 rfl (by decide) h.1 ?_
          replace h := h.2
          refine J_goto (tgt := 59) dX11_getsBeside_107 (by decide) ?_
          exact h
        · replace h := h.2 c
          refine J_iconst dX11_getsBeside_97 (ii_c rfl) ?_
          refine J_goto (tgt := 102) dX11_getsBeside_98 (by decide) ?_
          refine J_istore dX11_getsBeside_102 (by decide) ?_
          refine J_iincN dX11_getsBeside_104 rfl (by decide) h.1 ?_
          replace h := h.2
          refine J_goto (tgt := 59) dX11_getsBeside_107 (by decide) ?_
          exact h
set_option maxRecDepth 20000 in
set_option maxHeartbeats 2000000 in
theorem bk_X11_isOrder_0 {d : Nat} {I : HI} {Q : Option AV → AH → Prop} {a1 : Int}  (h : J none mX11_isOrder (d + 1) 0 0 7 [(0, vR 489), (1, vI a1), (2, vI 0), (3, vI a1), (4, vI 0)] [] (mk I) Q) : J none mX11_isOrder (d + 1) 0 0 0 [(0, vR 489), (1, vI a1)] [] (mk I) Q := by
  refine J_iconst dX11_isOrder_0 (ii_c rfl) ?_
  refine J_istore_n dX11_isOrder_1 rfl (by decide) ?_
  refine J_iload_n dX11_isOrder_2 rfl rfl ?_
  refine J_istore_n dX11_isOrder_3 rfl (by decide) ?_
  refine J_iconst dX11_isOrder_4 (ii_c rfl) ?_
  refine J_istore dX11_isOrder_5 (by decide) ?_
  exact h
set_option maxRecDepth 20000 in
set_option maxHeartbeats 2000000 in
theorem bk_X11_isOrder_7 {d : Nat} {I : HI} {Q : Option AV → AH → Prop} {a1 : Int} {a2 : Int} {a3 : Int} {a4 : Int}  (h : CI mX11_saintMany d [vR 489] I (fun x1 I1 => ((x1 ≤ a4 → CI mX11_everybody d [vR 489] I1 (fun x2 I2 => ((a2 ≠ x2 → Q (some (vI 0)) (mk I2)) ∧ (a2 = x2 → Q (some (vI 1)) (mk I2))))) ∧ (¬ (x1 ≤ a4) → CI mX11_saintMany d [vR 489] I1 (fun x3 I3 => x3 ≠ 0 ∧ ((0 : Int) ≤ a4 ∧ (a4 : Int) < 4) ∧ (∀ I4 : HI, I4 = up I3 552 a4.toNat (oM a3 x3) → CI mX11_saintMany d [vR 489] I4 (fun x4 I5 => x4 ≠ 0 ∧ ((0 : Int) ≤ a4 ∧ (a4 : Int) < 4) ∧ (-2147483648 ≤ a4 + 1 ∧ a4 + 1 ≤ 2147483647) ∧ J none mX11_isOrder (d + 1) 0 0 7 [(0, vR 489), (1, vI a1), (2, vI (oO a2 (oSl 1 (I5 552 a4.toNat)))), (3, vI (oD a3 x4)), (4, vI (a4 + 1))] [] (mk I5) Q))))))) : J none mX11_isOrder (d + 1) 0 0 7 [(0, vR 489), (1, vI a1), (2, vI a2), (3, vI a3), (4, vI a4)] [] (mk I) Q := by
  refine J_iload dX11_isOrder_7 rfl ?_
  refine J_aload_n dX11_isOrder_9 rfl rfl ?_
  refine J_callV (as := []) (mc1 := 0) (ms1 := 0) (mc := 0) (ms := 0) dX11_isOrder_10 mv_X11_saintMany lk_X11_447 sh_489 rfl (Nat.le_of_ble_eq_true rfl) (Nat.le_of_ble_eq_true rfl) h (fun r σ hq _ => ?_)
  obtain ⟨x1, I1, rfl, rfl, h⟩ := hq
  change J _ _ _ _ _ _ _ [vI x1, vI a4] _ _
  refine J_ic_ge (tgt := 54) dX11_isOrder_13 (by decide) (fun c => ?_) (fun c => ?_)
  · replace h := h.1 c
    refine J_iload_n dX11_isOrder_54 rfl rfl ?_
    refine J_aload_n dX11_isOrder_55 rfl rfl ?_
    refine J_callV (as := []) (mc1 := 0) (ms1 := 0) (mc := 0) (ms := 0) dX11_isOrder_56 mv_X11_everybody lk_X11_647 sh_489 rfl (Nat.le_of_ble_eq_true rfl) (Nat.le_of_ble_eq_true rfl) h (fun r σ hq _ => ?_)
    obtain ⟨x2, I2, rfl, rfl, h⟩ := hq
    change J _ _ _ _ _ _ _ [vI x2, vI a2] _ _
    refine J_ic_ne (tgt := 66) dX11_isOrder_59 (by decide) (fun c => ?_) (fun c => ?_)
    · replace h := h.1 c
      refine J_iconst dX11_isOrder_66 (ii_c rfl) ?_
      exact J_retz dX11_isOrder_67 rfl (Or.inl rfl) h
    · replace h := h.2 c
      refine J_iconst dX11_isOrder_62 (ii_c rfl) ?_
      refine J_goto (tgt := 67) dX11_isOrder_63 (by decide) ?_
      exact J_retz dX11_isOrder_67 rfl (Or.inr rfl) h
  · replace h := h.2 c
    refine J_aload_n dX11_isOrder_16 rfl rfl ?_
    refine J_getR dX11_isOrder_17 ck_11 fw_X11_206 rfl sh_489 rr_489_85 ?_
    refine J_iload dX11_isOrder_20 rfl ?_
    refine J_iload_n dX11_isOrder_22 rfl rfl ?_
    refine J_aload_n dX11_isOrder_23 rfl rfl ?_
    refine J_callV (as := []) (mc1 := 0) (ms1 := 0) (mc := 0) (ms := 0) dX11_isOrder_24 mv_X11_saintMany lk_X11_447 sh_489 rfl (Nat.le_of_ble_eq_true rfl) (Nat.le_of_ble_eq_true rfl) h (fun r σ hq _ => ?_)
    obtain ⟨x3, I3, rfl, rfl, h⟩ := hq
    change J _ _ _ _ _ _ _ [vI x3, vI a3, vI a4, vR 552] _ _
    refine J_irem dX11_isOrder_27 h.1 ?_
    replace h := h.2
    refine J_iast dX11_isOrder_28 sh_552 h.1.1 h.1.2 ?_
    replace h := h.2 _ rfl
    refine J_iload_n dX11_isOrder_29 rfl rfl ?_
    refine J_aload_n dX11_isOrder_30 rfl rfl ?_
    refine J_callV (as := []) (mc1 := 0) (ms1 := 0) (mc := 0) (ms := 0) dX11_isOrder_31 mv_X11_saintMany lk_X11_447 sh_489 rfl (Nat.le_of_ble_eq_true rfl) (Nat.le_of_ble_eq_true rfl) h (fun r σ hq _ => ?_)
    obtain ⟨x4, I5, rfl, rfl, h⟩ := hq
    change J _ _ _ _ _ _ _ [vI x4, vI a3] _ _
    refine J_idiv dX11_isOrder_34 h.1 ?_
    replace h := h.2
    refine J_istore_n dX11_isOrder_35 rfl (by decide) ?_
    refine J_iload_n dX11_isOrder_36 rfl rfl ?_
    refine J_iconst dX11_isOrder_37 (ii_c rfl) ?_
    refine J_aload_n dX11_isOrder_38 rfl rfl ?_
    refine J_getR dX11_isOrder_39 ck_11 fw_X11_206 rfl sh_489 rr_489_85 ?_
    refine J_iload dX11_isOrder_42 rfl ?_
    refine J_iald dX11_isOrder_44 sh_552 h.1.1 h.1.2 ?_
    replace h := h.2
    refine J_ishl dX11_isOrder_45 ?_
    refine J_ior dX11_isOrder_46 ?_
    refine J_istore_n dX11_isOrder_47 rfl (by decide) ?_
    refine J_iincN dX11_isOrder_48 rfl (by decide) h.1 ?_
    replace h := h.2
    refine J_goto (tgt := 7) dX11_isOrder_51 (by decide) ?_
    exact h
set_option maxRecDepth 20000 in
set_option maxHeartbeats 2000000 in
theorem bk_X11_lots_0 {d : Nat} {I : HI} {Q : Option AV → AH → Prop} {a1 : Int}  (h : CI mX11_isSaint d [vR 489, vI a1] I (fun x1 I1 => ((x1 ≠ 0 → CV mX11_options d [vR 489] I1 (fun I2 => J none mX11_lots (d + 1) 0 0 18 [(0, vR 489), (1, vI a1), (2, vI 1), (3, vI 0)] [] (mk I2) Q)) ∧ (x1 = 0 → Q (some (vI (-1))) (mk I1))))) : J none mX11_lots (d + 1) 0 0 0 [(0, vR 489), (1, vI a1)] [] (mk I) Q := by
  refine J_aload_n dX11_lots_0 rfl rfl ?_
  refine J_iload_n dX11_lots_1 rfl rfl ?_
  refine J_callV (as := [_]) (mc1 := 0) (ms1 := 0) (mc := 0) (ms := 0) dX11_lots_2 mv_X11_isSaint lk_X11_481 sh_489 rfl (Nat.le_of_ble_eq_true rfl) (Nat.le_of_ble_eq_true rfl) h (fun r σ hq _ => ?_)
  obtain ⟨x1, I1, rfl, rfl, h⟩ := hq
  change J _ _ _ _ _ _ _ [vI x1] _ _
  refine J_if_ne (tgt := 10) dX11_lots_5 (by decide) (fun c => ?_) (fun c => ?_)
  · replace h := h.1 c
    refine J_aload_n dX11_lots_10 rfl rfl ?_
    refine J_callV (as := []) (mc1 := 0) (ms1 := 0) (mc := 0) (ms := 0) dX11_lots_11 mv_X11_options lk_X11_644 sh_489 rfl (Nat.le_of_ble_eq_true rfl) (Nat.le_of_ble_eq_true rfl) h (fun r σ hq _ => ?_)
    obtain ⟨I2, rfl, rfl, h⟩ := hq
    change J _ _ _ _ _ _ _ [] _ _
    refine J_iconst dX11_lots_14 (ii_c rfl) ?_
    refine J_istore_n dX11_lots_15 rfl (by decide) ?_
    refine J_iconst dX11_lots_16 (ii_c rfl) ?_
    refine J_istore_n dX11_lots_17 rfl (by decide) ?_
    exact h
  · replace h := h.2 c
    refine J_iconst dX11_lots_8 (ii_c rfl) ?_
    exact J_reti dX11_lots_9 rfl h
set_option maxRecDepth 20000 in
set_option maxHeartbeats 2000000 in
theorem bk_X11_lots_18 {d : Nat} {I : HI} {Q : Option AV → AH → Prop} {a1 : Int} {a2 : Int} {a3 : Int}  (h : CI mX11_saintMany d [vR 489] I (fun x1 I1 => ((x1 ≤ a3 → CI mX11_leastAlone d [vR 489, vI a1] I1 (fun x2 I2 => J none mX11_lots (d + 1) 0 0 51 [(0, vR 489), (1, vI a1), (2, vI a2), (3, vI x2), (4, vI 0), (5, vI 0)] [] (mk I2) Q)) ∧ (¬ (x1 ≤ a3) → CI mX11_saintMany d [vR 489] I1 (fun x3 I3 => (-2147483648 ≤ a2 * x3 ∧ a2 * x3 ≤ 2147483647) ∧ (-2147483648 ≤ a3 + 1 ∧ a3 + 1 ≤ 2147483647) ∧ J none mX11_lots (d + 1) 0 0 18 [(0, vR 489), (1, vI a1), (2, vI (a2 * x3)), (3, vI (a3 + 1))] [] (mk I3) Q))))) : J none mX11_lots (d + 1) 0 0 18 [(0, vR 489), (1, vI a1), (2, vI a2), (3, vI a3)] [] (mk I) Q := by
  refine J_iload_n dX11_lots_18 rfl rfl ?_
  refine J_aload_n dX11_lots_19 rfl rfl ?_
  refine J_callV (as := []) (mc1 := 0) (ms1 := 0) (mc := 0) (ms := 0) dX11_lots_20 mv_X11_saintMany lk_X11_447 sh_489 rfl (Nat.le_of_ble_eq_true rfl) (Nat.le_of_ble_eq_true rfl) h (fun r σ hq _ => ?_)
  obtain ⟨x1, I1, rfl, rfl, h⟩ := hq
  change J _ _ _ _ _ _ _ [vI x1, vI a3] _ _
  refine J_ic_ge (tgt := 39) dX11_lots_23 (by decide) (fun c => ?_) (fun c => ?_)
  · replace h := h.1 c
    refine J_aload_n dX11_lots_39 rfl rfl ?_
    refine J_iload_n dX11_lots_40 rfl rfl ?_
    refine J_callV (as := [_]) (mc1 := 0) (ms1 := 0) (mc := 0) (ms := 0) dX11_lots_41 mv_X11_leastAlone lk_X11_660 sh_489 rfl (Nat.le_of_ble_eq_true rfl) (Nat.le_of_ble_eq_true rfl) h (fun r σ hq _ => ?_)
    obtain ⟨x2, I2, rfl, rfl, h⟩ := hq
    change J _ _ _ _ _ _ _ [vI x2] _ _
    refine J_istore_n dX11_lots_44 rfl (by decide) ?_
    refine J_iconst dX11_lots_45 (ii_c rfl) ?_
    refine J_istore dX11_lots_46 (by decide) ?_
    refine J_iconst dX11_lots_48 (ii_c rfl) ?_
    refine J_istore dX11_lots_49 (by decide) ?_
    exact h
  · replace h := h.2 c
    refine J_iload_n dX11_lots_26 rfl rfl ?_
    refine J_aload_n dX11_lots_27 rfl rfl ?_
    refine J_callV (as := []) (mc1 := 0) (ms1 := 0) (mc := 0) (ms := 0) dX11_lots_28 mv_X11_saintMany lk_X11_447 sh_489 rfl (Nat.le_of_ble_eq_true rfl) (Nat.le_of_ble_eq_true rfl) h (fun r σ hq _ => ?_)
    obtain ⟨x3, I3, rfl, rfl, h⟩ := hq
    change J _ _ _ _ _ _ _ [vI x3, vI a2] _ _
    refine J_imulN dX11_lots_31 h.1 ?_
    replace h := h.2
    refine J_istore_n dX11_lots_32 rfl (by decide) ?_
    refine J_iincN dX11_lots_33 rfl (by decide) h.1 ?_
    replace h := h.2
    refine J_goto (tgt := 18) dX11_lots_36 (by decide) ?_
    exact h
set_option maxRecDepth 20000 in
set_option maxHeartbeats 2000000 in
theorem bk_X11_lots_51 {d : Nat} {I : HI} {Q : Option AV → AH → Prop} {a1 : Int} {a2 : Int} {a3 : Int} {a4 : Int} {a5 : Int}  (h : ((a2 ≤ a5 → Q (some (vI a4)) (mk I)) ∧ (¬ (a2 ≤ a5) → CI mX11_isOrder d [vR 489, vI a5] I (fun x1 I1 => ((x1 ≠ 0 → J none mX11_lots (d + 1) 0 0 72 [(0, vR 489), (1, vI a1), (2, vI a2), (3, vI a3), (4, vI a4), (5, vI a5), (6, vI 0)] [] (mk I1) Q) ∧ (x1 = 0 → (-2147483648 ≤ a5 + 1 ∧ a5 + 1 ≤ 2147483647) ∧ J none mX11_lots (d + 1) 0 0 51 [(0, vR 489), (1, vI a1), (2, vI a2), (3, vI a3), (4, vI a4), (5, vI (a5 + 1))] [] (mk I1) Q)))))) : J none mX11_lots (d + 1) 0 0 51 [(0, vR 489), (1, vI a1), (2, vI a2), (3, vI a3), (4, vI a4), (5, vI a5)] [] (mk I) Q := by
  refine J_iload dX11_lots_51 rfl ?_
  refine J_iload_n dX11_lots_53 rfl rfl ?_
  refine J_ic_ge (tgt := 146) dX11_lots_54 (by decide) (fun c => ?_) (fun c => ?_)
  · replace h := h.1 c
    refine J_iload dX11_lots_146 rfl ?_
    exact J_reti dX11_lots_148 rfl h
  · replace h := h.2 c
    refine J_aload_n dX11_lots_57 rfl rfl ?_
    refine J_iload dX11_lots_58 rfl ?_
    refine J_callV (as := [_]) (mc1 := 0) (ms1 := 0) (mc := 0) (ms := 0) dX11_lots_60 mv_X11_isOrder lk_X11_663 sh_489 rfl (Nat.le_of_ble_eq_true rfl) (Nat.le_of_ble_eq_true rfl) h (fun r σ hq _ => ?_)
    obtain ⟨x1, I1, rfl, rfl, h⟩ := hq
    change J _ _ _ _ _ _ _ [vI x1] _ _
    refine J_if_ne (tgt := 69) dX11_lots_63 (by decide) (fun c => ?_) (fun c => ?_)
    · replace h := h.1 c
      refine J_iconst dX11_lots_69 (ii_c rfl) ?_
      refine J_istore dX11_lots_70 (by decide) ?_
      exact h
    · replace h := h.2 c
      refine J_goto (tgt := 140) dX11_lots_66 (by decide) ?_
      refine J_iincN dX11_lots_140 rfl (by decide) h.1 ?_
      replace h := h.2
      refine J_goto (tgt := 51) dX11_lots_143 (by decide) ?_
      exact h
set_option maxRecDepth 20000 in
set_option maxHeartbeats 2000000 in
theorem bk_X11_lots_72 {d : Nat} {I : HI} {Q : Option AV → AH → Prop} {a1 : Int} {a2 : Int} {a3 : Int} {a4 : Int} {a5 : Int} {a6 : Int}  (h : CI mX11_saintMany d [vR 489] I (fun x1 I1 => ((x1 ≤ a6 → (-2147483648 ≤ a5 + 1 ∧ a5 + 1 ≤ 2147483647) ∧ J none mX11_lots (d + 1) 0 0 51 [(0, vR 489), (1, vI a1), (2, vI a2), (3, vI a3), (4, vI a4), (5, vI (a5 + 1))] [] (mk I1) Q) ∧ (¬ (x1 ≤ a6) → CI mX11_getsBeside d [vR 489, vI a6] I1 (fun x2 I2 => ((0 : Int) ≤ a6 ∧ (a6 : Int) < 4) ∧ (∀ I3 : HI, I3 = up I2 553 a6.toNat x2 → ((0 : Int) ≤ a6 ∧ (a6 : Int) < 4) ∧ (((I3 552 a6.toNat) ≠ a1 → (-2147483648 ≤ a6 + 1 ∧ a6 + 1 ≤ 2147483647) ∧ J none mX11_lots (d + 1) 0 0 72 [(0, vR 489), (1, vI a1), (2, vI a2), (3, vI a3), (4, vI a4), (5, vI a5), (6, vI (a6 + 1))] [] (mk I3) Q) ∧ ((I3 552 a6.toNat) = a1 → ((0 : Int) ≤ a6 ∧ (a6 : Int) < 4) ∧ (((I3 553 a6.toNat) = (-1) → (-2147483648 ≤ a6 + 1 ∧ a6 + 1 ≤ 2147483647) ∧ J none mX11_lots (d + 1) 0 0 72 [(0, vR 489), (1, vI a1), (2, vI a2), (3, vI a3), (4, vI a4), (5, vI a5), (6, vI (a6 + 1))] [] (mk I3) Q) ∧ (¬ ((I3 553 a6.toNat) = (-1)) → ((0 : Int) ≤ a6 ∧ (a6 : Int) < 4) ∧ CI mX11_endOf d [vR 489, vI (I3 553 a6.toNat)] I3 (fun x3 I4 => ((x3 ≠ a3 → (-2147483648 ≤ a6 + 1 ∧ a6 + 1 ≤ 2147483647) ∧ J none mX11_lots (d + 1) 0 0 72 [(0, vR 489), (1, vI a1), (2, vI a2), (3, vI a3), (4, vI a4), (5, vI a5), (6, vI (a6 + 1))] [] (mk I4) Q) ∧ (x3 = a3 → (-2147483648 ≤ a4 + 1 ∧ a4 + 1 ≤ 2147483647) ∧ (-2147483648 ≤ a6 + 1 ∧ a6 + 1 ≤ 2147483647) ∧ J none mX11_lots (d + 1) 0 0 72 [(0, vR 489), (1, vI a1), (2, vI a2), (3, vI a3), (4, vI (a4 + 1)), (5, vI a5), (6, vI (a6 + 1))] [] (mk I4) Q))))))))))))) : J none mX11_lots (d + 1) 0 0 72 [(0, vR 489), (1, vI a1), (2, vI a2), (3, vI a3), (4, vI a4), (5, vI a5), (6, vI a6)] [] (mk I) Q := by
  refine J_iload dX11_lots_72 rfl ?_
  refine J_aload_n dX11_lots_74 rfl rfl ?_
  refine J_callV (as := []) (mc1 := 0) (ms1 := 0) (mc := 0) (ms := 0) dX11_lots_75 mv_X11_saintMany lk_X11_447 sh_489 rfl (Nat.le_of_ble_eq_true rfl) (Nat.le_of_ble_eq_true rfl) h (fun r σ hq _ => ?_)
  obtain ⟨x1, I1, rfl, rfl, h⟩ := hq
  change J _ _ _ _ _ _ _ [vI x1, vI a6] _ _
  refine J_ic_ge (tgt := 140) dX11_lots_78 (by decide) (fun c => ?_) (fun c => ?_)
  · replace h := h.1 c
    refine J_iincN dX11_lots_140 rfl (by decide) h.1 ?_
    replace h := h.2
    refine J_goto (tgt := 51) dX11_lots_143 (by decide) ?_
    exact J_loc (ls_sub [0, 1, 2, 3, 4, 5] rfl) h
  · replace h := h.2 c
    refine J_aload_n dX11_lots_81 rfl rfl ?_
    refine J_getR dX11_lots_82 ck_11 fw_X11_209 rfl sh_489 rr_489_86 ?_
    refine J_iload dX11_lots_85 rfl ?_
    refine J_aload_n dX11_lots_87 rfl rfl ?_
    refine J_iload dX11_lots_88 rfl ?_
    refine J_callV (as := [_]) (mc1 := 0) (ms1 := 0) (mc := 0) (ms := 0) dX11_lots_90 mv_X11_getsBeside lk_X11_666 sh_489 rfl (Nat.le_of_ble_eq_true rfl) (Nat.le_of_ble_eq_true rfl) h (fun r σ hq _ => ?_)
    obtain ⟨x2, I2, rfl, rfl, h⟩ := hq
    change J _ _ _ _ _ _ _ [vI x2, vI a6, vR 553] _ _
    refine J_iast dX11_lots_93 sh_553 h.1.1 h.1.2 ?_
    replace h := h.2 _ rfl
    refine J_aload_n dX11_lots_94 rfl rfl ?_
    refine J_getR dX11_lots_95 ck_11 fw_X11_206 rfl sh_489 rr_489_85 ?_
    refine J_iload dX11_lots_98 rfl ?_
    refine J_iald dX11_lots_100 sh_552 h.1.1 h.1.2 ?_
    replace h := h.2
    refine J_iload_n dX11_lots_101 rfl rfl ?_
    refine J_ic_ne (tgt := 134) dX11_lots_102 (by decide) (fun c => ?_) (fun c => ?_)
    · replace h := h.1 c
      refine J_iincN dX11_lots_134 rfl (by decide) h.1 ?_
      replace h := h.2
      refine J_goto (tgt := 72) dX11_lots_137 (by decide) ?_
      exact h
    · replace h := h.2 c
      refine J_aload_n dX11_lots_105 rfl rfl ?_
      refine J_getR dX11_lots_106 ck_11 fw_X11_209 rfl sh_489 rr_489_86 ?_
      refine J_iload dX11_lots_109 rfl ?_
      refine J_iald dX11_lots_111 sh_553 h.1.1 h.1.2 ?_
      replace h := h.2
      refine J_iconst dX11_lots_112 (ii_c rfl) ?_
      refine J_ic_eq (tgt := 134) dX11_lots_113 (by decide) (fun c => ?_) (fun c => ?_)
      · replace h := h.1 c
        refine J_iincN dX11_lots_134 rfl (by decide) h.1 ?_
        replace h := h.2
        refine J_goto (tgt := 72) dX11_lots_137 (by decide) ?_
        exact h
      · replace h := h.2 c
        refine J_aload_n dX11_lots_116 rfl rfl ?_
        refine J_aload_n dX11_lots_117 rfl rfl ?_
        refine J_getR dX11_lots_118 ck_11 fw_X11_209 rfl sh_489 rr_489_86 ?_
        refine J_iload dX11_lots_121 rfl ?_
        refine J_iald dX11_lots_123 sh_553 h.1.1 h.1.2 ?_
        replace h := h.2
        refine J_callV (as := [_]) (mc1 := 0) (ms1 := 0) (mc := 0) (ms := 0) dX11_lots_124 mv_X11_endOf lk_X11_459 sh_489 rfl (Nat.le_of_ble_eq_true rfl) (Nat.le_of_ble_eq_true rfl) h (fun r σ hq _ => ?_)
        obtain ⟨x3, I4, rfl, rfl, h⟩ := hq
        change J _ _ _ _ _ _ _ [vI x3] _ _
        refine J_iload_n dX11_lots_127 rfl rfl ?_
        refine J_ic_ne (tgt := 134) dX11_lots_128 (by decide) (fun c => ?_) (fun c => ?_)
        · replace h := h.1 c
          refine J_iincN dX11_lots_134 rfl (by decide) h.1 ?_
          replace h := h.2
          refine J_goto (tgt := 72) dX11_lots_137 (by decide) ?_
          exact h
        · replace h := h.2 c
          refine J_iincN dX11_lots_131 rfl (by decide) h.1 ?_
          replace h := h.2
          refine J_iincN dX11_lots_134 rfl (by decide) h.1 ?_
          replace h := h.2
          refine J_goto (tgt := 72) dX11_lots_137 (by decide) ?_
          exact h
set_option maxRecDepth 20000 in
set_option maxHeartbeats 2000000 in
theorem bk_X11_dawns_0 {d : Nat} {I : HI} {Q : Option AV → AH → Prop} {a1 : Int} {a2 : Int}  (h : (-2147483648 ≤ 61 * a1 ∧ 61 * a1 ≤ 2147483647) ∧ ((0 : Int) ≤ (61 * a1) ∧ (61 * a1 : Int) < 183) ∧ (∀ I1 : HI, I1 = up I 554 (61 * a1).toNat 0 → (-2147483648 ≤ 61 * a1 ∧ 61 * a1 ≤ 2147483647) ∧ ((0 : Int) ≤ (61 * a1) ∧ (61 * a1 : Int) < 183) ∧ (∀ I2 : HI, I2 = up I1 555 (61 * a1).toNat 0 → J none mX11_dawns (d + 1) 0 0 22 [(0, vR 489), (1, vI a1), (2, vI a2), (3, vI 0)] [] (mk I2) Q))) : J none mX11_dawns (d + 1) 0 0 0 [(0, vR 489), (1, vI a1), (2, vI a2)] [] (mk I) Q := by
  refine J_aload_n dX11_dawns_0 rfl rfl ?_
  refine J_getR dX11_dawns_1 ck_11 fw_X11_212 rfl sh_489 rr_489_87 ?_
  refine J_bipush dX11_dawns_4 (ii_c rfl) (by decide) ?_
  refine J_iload_n dX11_dawns_6 rfl rfl ?_
  refine J_imulN dX11_dawns_7 h.1 ?_
  replace h := h.2
  refine J_iconst dX11_dawns_8 (ii_c rfl) ?_
  refine J_iast dX11_dawns_9 sh_554 h.1.1 h.1.2 ?_
  replace h := h.2 _ rfl
  refine J_aload_n dX11_dawns_10 rfl rfl ?_
  refine J_getR dX11_dawns_11 ck_11 fw_X11_215 rfl sh_489 rr_489_88 ?_
  refine J_bipush dX11_dawns_14 (ii_c rfl) (by decide) ?_
  refine J_iload_n dX11_dawns_16 rfl rfl ?_
  refine J_imulN dX11_dawns_17 h.1 ?_
  replace h := h.2
  refine J_iconst dX11_dawns_18 (ii_c rfl) ?_
  refine J_iast dX11_dawns_19 sh_555 h.1.1 h.1.2 ?_
  replace h := h.2 _ rfl
  refine J_iconst dX11_dawns_20 (ii_c rfl) ?_
  refine J_istore_n dX11_dawns_21 rfl (by decide) ?_
  exact h
set_option maxRecDepth 20000 in
set_option maxHeartbeats 2000000 in
theorem bk_X11_dawns_22 {d : Nat} {I : HI} {Q : Option AV → AH → Prop} {a1 : Int} {a2 : Int} {a3 : Int}  (h : CI mX11_optionMany d [vR 489, vI a1] I (fun x1 I1 => ((x1 ≤ a3 → Q none (mk I1)) ∧ (¬ (x1 ≤ a3) → (-2147483648 ≤ 61 * a1 ∧ 61 * a1 ≤ 2147483647) ∧ (-2147483648 ≤ (61 * a1) + a3 ∧ (61 * a1) + a3 ≤ 2147483647) ∧ (-2147483648 ≤ ((61 * a1) + a3) + 1 ∧ ((61 * a1) + a3) + 1 ≤ 2147483647) ∧ CI mX11_wayOf d [vI a1, vI a3] I1 (fun x2 I2 => ((0 : Int) ≤ (((61 * a1) + a3) + 1) ∧ (((61 * a1) + a3) + 1 : Int) < 183) ∧ (∀ I3 : HI, I3 = up I2 554 (((61 * a1) + a3) + 1).toNat 0 → ((0 : Int) ≤ (((61 * a1) + a3) + 1) ∧ (((61 * a1) + a3) + 1 : Int) < 183) ∧ (∀ I4 : HI, I4 = up I3 555 (((61 * a1) + a3) + 1).toNat 0 → (-2147483648 ≤ 24 * x2 ∧ 24 * x2 ≤ 2147483647) ∧ J none mX11_dawns (d + 1) 0 0 71 [(0, vR 489), (1, vI a1), (2, vI a2), (3, vI a3), (4, vI (((61 * a1) + a3) + 1)), (5, vI x2), (6, vI (24 * x2))] [] (mk I4) Q))))))) : J none mX11_dawns (d + 1) 0 0 22 [(0, vR 489), (1, vI a1), (2, vI a2), (3, vI a3)] [] (mk I) Q := by
  refine J_iload_n dX11_dawns_22 rfl rfl ?_
  refine J_aload_n dX11_dawns_23 rfl rfl ?_
  refine J_iload_n dX11_dawns_24 rfl rfl ?_
  refine J_callV (as := [_]) (mc1 := 0) (ms1 := 0) (mc := 0) (ms := 0) dX11_dawns_25 mv_X11_optionMany lk_X11_641 sh_489 rfl (Nat.le_of_ble_eq_true rfl) (Nat.le_of_ble_eq_true rfl) h (fun r σ hq _ => ?_)
  obtain ⟨x1, I1, rfl, rfl, h⟩ := hq
  change J _ _ _ _ _ _ _ [vI x1, vI a3] _ _
  refine J_ic_ge (tgt := 169) dX11_dawns_28 (by decide) (fun c => ?_) (fun c => ?_)
  · replace h := h.1 c
    exact J_retv dX11_dawns_169 rfl h
  · replace h := h.2 c
    refine J_bipush dX11_dawns_31 (ii_c rfl) (by decide) ?_
    refine J_iload_n dX11_dawns_33 rfl rfl ?_
    refine J_imulN dX11_dawns_34 h.1 ?_
    replace h := h.2
    refine J_iload_n dX11_dawns_35 rfl rfl ?_
    refine J_iaddN dX11_dawns_36 h.1 ?_
    replace h := h.2
    refine J_iconst dX11_dawns_37 (ii_c rfl) ?_
    refine J_iaddN dX11_dawns_38 h.1 ?_
    replace h := h.2
    refine J_istore dX11_dawns_39 (by decide) ?_
    refine J_iload_n dX11_dawns_41 rfl rfl ?_
    refine J_iload_n dX11_dawns_42 rfl rfl ?_
    refine J_callS (as := [_, _]) (mc1 := 0) (ms1 := 0) (mc := 0) (ms := 0) dX11_dawns_43 ms_X11_wayOf lk_X11_604 rfl (Nat.le_of_ble_eq_true rfl) (Nat.le_of_ble_eq_true rfl) h (fun r σ hq _ => ?_)
    obtain ⟨x2, I2, rfl, rfl, h⟩ := hq
    change J _ _ _ _ _ _ _ [vI x2] _ _
    refine J_istore dX11_dawns_46 (by decide) ?_
    refine J_aload_n dX11_dawns_48 rfl rfl ?_
    refine J_getR dX11_dawns_49 ck_11 fw_X11_212 rfl sh_489 rr_489_87 ?_
    refine J_iload dX11_dawns_52 rfl ?_
    refine J_iconst dX11_dawns_54 (ii_c rfl) ?_
    refine J_iast dX11_dawns_55 sh_554 h.1.1 h.1.2 ?_
    replace h := h.2 _ rfl
    refine J_aload_n dX11_dawns_56 rfl rfl ?_
    refine J_getR dX11_dawns_57 ck_11 fw_X11_215 rfl sh_489 rr_489_88 ?_
    refine J_iload dX11_dawns_60 rfl ?_
    refine J_iconst dX11_dawns_62 (ii_c rfl) ?_
    refine J_iast dX11_dawns_63 sh_555 h.1.1 h.1.2 ?_
    replace h := h.2 _ rfl
    refine J_bipush dX11_dawns_64 (ii_c rfl) (by decide) ?_
    refine J_iload dX11_dawns_66 rfl ?_
    refine J_imulN dX11_dawns_68 h.1 ?_
    replace h := h.2
    refine J_istore dX11_dawns_69 (by decide) ?_
    exact h
set_option maxRecDepth 20000 in
set_option maxHeartbeats 2000000 in
theorem bk_X11_dawns_71 {d : Nat} {I : HI} {Q : Option AV → AH → Prop} {a1 : Int} {a2 : Int} {a3 : Int} {a4 : Int} {a5 : Int} {a6 : Int}  (h : (-2147483648 ≤ 24 * a5 ∧ 24 * a5 ≤ 2147483647) ∧ ((0 : Int) ≤ a5 ∧ (a5 : Int) < 244) ∧ (-2147483648 ≤ (24 * a5) + (I 532 a5.toNat) ∧ (24 * a5) + (I 532 a5.toNat) ≤ 2147483647) ∧ ((((24 * a5) + (I 532 a5.toNat)) ≤ a6 → (-2147483648 ≤ a3 + 1 ∧ a3 + 1 ≤ 2147483647) ∧ J none mX11_dawns (d + 1) 0 0 22 [(0, vR 489), (1, vI a1), (2, vI a2), (3, vI (a3 + 1))] [] (mk I) Q) ∧ (¬ (((24 * a5) + (I 532 a5.toNat)) ≤ a6) → ((0 : Int) ≤ a6 ∧ (a6 : Int) < 5856) ∧ (((I 534 a6.toNat) ≠ (-1) → ((0 : Int) ≤ a4 ∧ (a4 : Int) < 183) ∧ ((0 : Int) ≤ a6 ∧ (a6 : Int) < 5856) ∧ ((0 : Int) ≤ a4 ∧ (a4 : Int) < 183) ∧ (∀ I1 : HI, I1 = up I 555 a4.toNat (oO (I 555 a4.toNat) (oSl 1 (I 534 a6.toNat))) → ((0 : Int) ≤ a6 ∧ (a6 : Int) < 5856) ∧ CI mX11_doLie d [vR 489, vI a1, vI (I1 535 a6.toNat), vI a2] I1 (fun x1 I2 => ((x1 = 0 → (-2147483648 ≤ a6 + 1 ∧ a6 + 1 ≤ 2147483647) ∧ J none mX11_dawns (d + 1) 0 0 71 [(0, vR 489), (1, vI a1), (2, vI a2), (3, vI a3), (4, vI a4), (5, vI a5), (6, vI (a6 + 1))] [] (mk I2) Q) ∧ (¬ (x1 = 0) → ((0 : Int) ≤ a4 ∧ (a4 : Int) < 183) ∧ ((0 : Int) ≤ a6 ∧ (a6 : Int) < 5856) ∧ ((0 : Int) ≤ a4 ∧ (a4 : Int) < 183) ∧ (∀ I3 : HI, I3 = up I2 554 a4.toNat (oO (I2 554 a4.toNat) (oSl 1 (I2 534 a6.toNat))) → (-2147483648 ≤ a6 + 1 ∧ a6 + 1 ≤ 2147483647) ∧ J none mX11_dawns (d + 1) 0 0 71 [(0, vR 489), (1, vI a1), (2, vI a2), (3, vI a3), (4, vI a4), (5, vI a5), (6, vI (a6 + 1))] [] (mk I3) Q)))))) ∧ ((I 534 a6.toNat) = (-1) → (-2147483648 ≤ a6 + 1 ∧ a6 + 1 ≤ 2147483647) ∧ J none mX11_dawns (d + 1) 0 0 71 [(0, vR 489), (1, vI a1), (2, vI a2), (3, vI a3), (4, vI a4), (5, vI a5), (6, vI (a6 + 1))] [] (mk I) Q))))) : J none mX11_dawns (d + 1) 0 0 71 [(0, vR 489), (1, vI a1), (2, vI a2), (3, vI a3), (4, vI a4), (5, vI a5), (6, vI a6)] [] (mk I) Q := by
  refine J_iload dX11_dawns_71 rfl ?_
  refine J_bipush dX11_dawns_73 (ii_c rfl) (by decide) ?_
  refine J_iload dX11_dawns_75 rfl ?_
  refine J_imulN dX11_dawns_77 h.1 ?_
  replace h := h.2
  refine J_aload_n dX11_dawns_78 rfl rfl ?_
  refine J_getR dX11_dawns_79 ck_11 fw_X11_145 rfl sh_489 rr_489_59 ?_
  refine J_iload dX11_dawns_82 rfl ?_
  refine J_iald dX11_dawns_84 sh_532 h.1.1 h.1.2 ?_
  replace h := h.2
  refine J_iaddN dX11_dawns_85 h.1 ?_
  replace h := h.2
  refine J_ic_ge (tgt := 163) dX11_dawns_86 (by decide) (fun c => ?_) (fun c => ?_)
  · replace h := h.1 c
    refine J_iincN dX11_dawns_163 rfl (by decide) h.1 ?_
    replace h := h.2
    refine J_goto (tgt := 22) dX11_dawns_166 (by decide) ?_
    exact J_loc (ls_sub [0, 1, 2, 3] rfl) h
  · replace h := h.2 c
    refine J_aload_n dX11_dawns_89 rfl rfl ?_
    refine J_getR dX11_dawns_90 ck_11 fw_X11_151 rfl sh_489 rr_489_61 ?_
    refine J_iload dX11_dawns_93 rfl ?_
    refine J_iald dX11_dawns_95 sh_534 h.1.1 h.1.2 ?_
    replace h := h.2
    refine J_iconst dX11_dawns_96 (ii_c rfl) ?_
    refine J_ic_ne (tgt := 103) dX11_dawns_97 (by decide) (fun c => ?_) (fun c => ?_)
    · replace h := h.1 c
      refine J_aload_n dX11_dawns_103 rfl rfl ?_
      refine J_getR dX11_dawns_104 ck_11 fw_X11_215 rfl sh_489 rr_489_88 ?_
      refine J_iload dX11_dawns_107 rfl ?_
      refine J_dup2 dX11_dawns_109 rfl rfl ?_
      refine J_iald dX11_dawns_110 sh_555 h.1.1 h.1.2 ?_
      replace h := h.2
      refine J_iconst dX11_dawns_111 (ii_c rfl) ?_
      refine J_aload_n dX11_dawns_112 rfl rfl ?_
      refine J_getR dX11_dawns_113 ck_11 fw_X11_151 rfl sh_489 rr_489_61 ?_
      refine J_iload dX11_dawns_116 rfl ?_
      refine J_iald dX11_dawns_118 sh_534 h.1.1 h.1.2 ?_
      replace h := h.2
      refine J_ishl dX11_dawns_119 ?_
      refine J_ior dX11_dawns_120 ?_
      refine J_iast dX11_dawns_121 sh_555 h.1.1 h.1.2 ?_
      replace h := h.2 _ rfl
      refine J_aload_n dX11_dawns_122 rfl rfl ?_
      refine J_iload_n dX11_dawns_123 rfl rfl ?_
      refine J_aload_n dX11_dawns_124 rfl rfl ?_
      refine J_getR dX11_dawns_125 ck_11 fw_X11_154 rfl sh_489 rr_489_62 ?_
      refine J_iload dX11_dawns_128 rfl ?_
      refine J_iald dX11_dawns_130 sh_535 h.1.1 h.1.2 ?_
      replace h := h.2
      refine J_iload_n dX11_dawns_131 rfl rfl ?_
      refine J_callV (as := [_, _, _]) (mc1 := 0) (ms1 := 0) (mc := 0) (ms := 0) dX11_dawns_132 mv_X11_doLie lk_X11_532 sh_489 rfl (Nat.le_of_ble_eq_true rfl) (Nat.le_of_ble_eq_true rfl) h (fun r σ hq _ => ?_)
      obtain ⟨x1, I2, rfl, rfl, h⟩ := hq
      change J _ _ _ _ _ _ _ [vI x1] _ _
      refine J_if_eq (tgt := 157) dX11_dawns_135 (by decide) (fun c => ?_) (fun c => ?_)
      · replace h := h.1 c
        refine J_iincN dX11_dawns_157 rfl (by decide) h.1 ?_
        replace h := h.2
        refine J_goto (tgt := 71) dX11_dawns_160 (by decide) ?_
        exact h
      · replace h := h.2 c
        refine J_aload_n dX11_dawns_138 rfl rfl ?_
        refine J_getR dX11_dawns_139 ck_11 fw_X11_212 rfl sh_489 rr_489_87 ?_
        refine J_iload dX11_dawns_142 rfl ?_
        refine J_dup2 dX11_dawns_144 rfl rfl ?_
        refine J_iald dX11_dawns_145 sh_554 h.1.1 h.1.2 ?_
        replace h := h.2
        refine J_iconst dX11_dawns_146 (ii_c rfl) ?_
        refine J_aload_n dX11_dawns_147 rfl rfl ?_
        refine J_getR dX11_dawns_148 ck_11 fw_X11_151 rfl sh_489 rr_489_61 ?_
        refine J_iload dX11_dawns_151 rfl ?_
        refine J_iald dX11_dawns_153 sh_534 h.1.1 h.1.2 ?_
        replace h := h.2
        refine J_ishl dX11_dawns_154 ?_
        refine J_ior dX11_dawns_155 ?_
        refine J_iast dX11_dawns_156 sh_554 h.1.1 h.1.2 ?_
        replace h := h.2 _ rfl
        refine J_iincN dX11_dawns_157 rfl (by decide) h.1 ?_
        replace h := h.2
        refine J_goto (tgt := 71) dX11_dawns_160 (by decide) ?_
        exact h
    · replace h := h.2 c
      refine J_goto (tgt := 157) dX11_dawns_100 (by decide) ?_
      refine J_iincN dX11_dawns_157 rfl (by decide) h.1 ?_
      replace h := h.2
      refine J_goto (tgt := 71) dX11_dawns_160 (by decide) ?_
      exact h
set_option maxRecDepth 20000 in
set_option maxHeartbeats 2000000 in
theorem bk_X11_choicesOf_0 {d : Nat} {I : HI} {Q : Option AV → AH → Prop} {a1 : Int}  (h : CI mX11_saintMany d [vR 489] I (fun x1 I1 => ((x1 ≤ a1 → Q (some (vI 1)) (mk I1)) ∧ (¬ (x1 ≤ a1) → CI mX11_optionMany d [vR 489, vI a1] I1 (fun x2 I2 => (-2147483648 ≤ 1 + x2 ∧ 1 + x2 ≤ 2147483647) ∧ Q (some (vI (1 + x2))) (mk I2)))))) : J none mX11_choicesOf (d + 1) 0 0 0 [(0, vR 489), (1, vI a1)] [] (mk I) Q := by
  refine J_iload_n dX11_choicesOf_0 rfl rfl ?_
  refine J_aload_n dX11_choicesOf_1 rfl rfl ?_
  refine J_callV (as := []) (mc1 := 0) (ms1 := 0) (mc := 0) (ms := 0) dX11_choicesOf_2 mv_X11_saintMany lk_X11_447 sh_489 rfl (Nat.le_of_ble_eq_true rfl) (Nat.le_of_ble_eq_true rfl) h (fun r σ hq _ => ?_)
  obtain ⟨x1, I1, rfl, rfl, h⟩ := hq
  change J _ _ _ _ _ _ _ [vI x1, vI a1] _ _
  refine J_ic_ge (tgt := 18) dX11_choicesOf_5 (by decide) (fun c => ?_) (fun c => ?_)
  · replace h := h.1 c
    refine J_iconst dX11_choicesOf_18 (ii_c rfl) ?_
    exact J_reti dX11_choicesOf_19 rfl h
  · replace h := h.2 c
    refine J_iconst dX11_choicesOf_8 (ii_c rfl) ?_
    refine J_aload_n dX11_choicesOf_9 rfl rfl ?_
    refine J_iload_n dX11_choicesOf_10 rfl rfl ?_
    refine J_callV (as := [_]) (mc1 := 0) (ms1 := 0) (mc := 0) (ms := 0) dX11_choicesOf_11 mv_X11_optionMany lk_X11_641 sh_489 rfl (Nat.le_of_ble_eq_true rfl) (Nat.le_of_ble_eq_true rfl) h (fun r σ hq _ => ?_)
    obtain ⟨x2, I2, rfl, rfl, h⟩ := hq
    change J _ _ _ _ _ _ _ [vI x2, vI 1] _ _
    refine J_iaddN dX11_choicesOf_14 h.1 ?_
    replace h := h.2
    refine J_goto (tgt := 19) dX11_choicesOf_15 (by decide) ?_
    exact J_reti dX11_choicesOf_19 rfl h
