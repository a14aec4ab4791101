def lens (s : CS) : Bool := decide (s.2.1.length ≤ s.1.length) && decide (s.2.2.length ≤ s.1.length)
theorem lens_ok {s : CS} (h : lens s = true) : s.2.1.length ≤ s.1.length ∧ s.2.2.length ≤ s.1.length := by
  unfold lens at h
  simpa [Bool.and_eq_true] using h
abbrev CO : Type := List (Nat × AV) × List AV × CS × Nat × Nat
def cLoad (ls : List (Nat × AV)) (st : List AV) (s : CS) (i : Nat) (isR : Bool) : Option CO := match lget ls i with
  | some (.inr (.inr (.inl (some a)))) => if isR then some (ls, vR a :: st, s, 0, 0) else none
  | some (.inl x) => if isR then none else some (ls, vI x :: st, s, 0, 0)
  | _ => none
def cStore (M : MD) (ls : List (Nat × AV)) (st : List AV) (s : CS) (i : Nat) : Option CO := match st with
  | .inl x :: st' => if i < M.2.2.1 then some (lset ls i (vI x), st', s, 0, 0) else none
  | _ => none
def cPut (t : TT) (M : MD) (ls : List (Nat × AV)) (st : List AV) (s : CS) (i : Nat) : Option CO := match ffd t.1 M.1.cls i, st with
  | some e, .inl x :: .inr (.inr (.inl (some k))) :: st' => if e.2.2.2.2.1 = false ∧ s.1[k]? = some (.inl e.2.2.1) ∧ (e.2.2.2.2.2.1 = true → x = 0 ∨ x = 1) then some (ls, st', (s.1, s.2.1, lup s.2.2 k e.2.2.2.1 x), 0, 0) else none
  | some e, .inr (.inr (.inl (some v))) :: .inr (.inr (.inl (some k))) :: st' => if e.2.2.2.2.1 = true ∧ e.2.2.2.2.2.2 = true ∧ M.1.name = "<init>" ∧ s.1[k]? = some (.inl e.2.2.1) then some (ls, st', (s.1, lupR s.2.1 k e.2.2.2.1 (some v), s.2.2), 0, 0) else none
  | _, _ => none
def cGet (t : TT) (M : MD) (ls : List (Nat × AV)) (st : List AV) (s : CS) (i : Nat) : Option CO := match ffd t.1 M.1.cls i, st with
  | some e, .inr (.inr (.inl (some k))) :: st' => if s.1[k]? = some (.inl e.2.2.1) then (if e.2.2.2.2.1 = true then (match lr s.2.1 k e.2.2.2.1 with
      | some v => some (ls, vR v :: st', s, 0, 0)
      | none => none) else some (ls, vI (li s.2.2 k e.2.2.2.1) :: st', s, 0, 0)) else none
  | _, _ => none
def cArr (st : List AV) (s : CS) (tg : Nat) : Option (Nat × Nat × Int × List AV × Nat) := match st with
  | .inl x :: .inl i :: .inr (.inr (.inl (some k))) :: st' => (match s.1[k]? with
      | some (.inr (tg', n)) => if tg' = tg ∧ 0 ≤ i ∧ i < n then some (k, i.toNat, x, st', n) else none
      | _ => none)
  | _ => none
def cstep (t : TT) (M : MD) (ls : List (Nat × AV)) (st : List AV) (s : CS) (q : Instr × Nat) : Option CO := match q with
  | (.aload_n k, 1) => cLoad ls st s k true
  | (.aload i, 2) => cLoad ls st s i true
  | (.iload_n k, 1) => cLoad ls st s k false
  | (.iload i, 2) => cLoad ls st s i false
  | (.iconst v, 1) => if iiB v = true then some (ls, vI v :: st, s, 0, 0) else none
  | (.bipush v, 2) => if iiB v = true ∧ (Int8.ofInt v).toInt32 = Int32.ofInt v then some (ls, vI v :: st, s, 0, 0) else none
  | (.sipush v, 3) => if iiB v = true ∧ (Int16.ofInt v).toInt32 = Int32.ofInt v then some (ls, vI v :: st, s, 0, 0) else none
  | (.ldc i, 2) => (match ffd t.2.2.2.1 M.1.cls i with
      | some e => some (ls, vI e.2.2 :: st, s, 0, 0)
      | none => none)
  | (.istore_n k, 1) => cStore M ls st s k
  | (.istore i, 2) => cStore M ls st s i
  | (.dup, 1) => (match st with
      | v :: st' => if ct v = 1 then some (ls, v :: v :: st', s, 0, 0) else none
      | [] => none)
  | (.iinc i n, 3) => (match lget ls i with
      | some (.inl x) => if i < M.2.2.1 ∧ iiB (x + n) = true then some (lset ls i (vI (x + n)), st, s, 0, 0) else none
      | _ => none)
  | (.new i, 3) => (match ffd t.2.1 M.1.cls i with
      | some e => if lens s = true then some (ls, vR s.1.length :: st, (s.1 ++ [.inl e.2.2], s.2.1, s.2.2), 1, (fl e.2.2).length) else none
      | none => none)
  | (.newarray a, 2) => (match st, atag a with
      | .inl n :: st', some tg => if lens s = true ∧ 0 ≤ n ∧ n ≤ 1000000 then some (ls, vR s.1.length :: st', (s.1 ++ [.inr (tg, n.toNat)], s.2.1, s.2.2), 1, n.toNat) else none
      | _, _ => none)
  | (.anewarray i, 3) => (match ffd t.2.2.2.2 M.1.cls i, st with
      | some _, .inl n :: st' => if lens s = true ∧ 0 ≤ n ∧ n ≤ 1000000 then some (ls, vR s.1.length :: st', (s.1 ++ [.inr (4, n.toNat)], s.2.1, s.2.2), 1, n.toNat) else none
      | _, _ => none)
  | (.putfield i, 3) => cPut t M ls st s i
  | (.getfield i, 3) => cGet t M ls st s i
  | (.castore, 1) => (match cArr st s 3 with
      | some (k, i, x, st', _) => if 0 ≤ x ∧ x ≤ 65535 then some (ls, st', (s.1, s.2.1, lup s.2.2 k i x), 0, 0) else none
      | none => none)
  | (.iastore, 1) => (match cArr st s 0 with
      | some (k, i, x, st', _) => some (ls, st', (s.1, s.2.1, lup s.2.2 k i x), 0, 0)
      | none => none)
  | (.aastore, 1) => (match st with
      | .inr (.inr (.inl (some v))) :: .inl i :: .inr (.inr (.inl (some k))) :: st' => (match s.1[k]? with
          | some (.inr (4, n)) => if 0 ≤ i ∧ i < n ∧ s.1[v]? = some (.inl 8) then some (ls, st', (s.1, lupR s.2.1 k i.toNat (some v), s.2.2), 0, 0) else none
          | _ => none)
      | _ => none)
  | (.iaload, 1) => (match st with
      | .inl i :: .inr (.inr (.inl (some k))) :: st' => (match s.1[k]? with
          | some (.inr (0, n)) => if 0 ≤ i ∧ i < n then some (ls, vI (li s.2.2 k i.toNat) :: st', s, 0, 0) else none
          | _ => none)
      | _ => none)
  | (.arraylength, 1) => (match st with
      | .inr (.inr (.inl (some k))) :: st' => (match s.1[k]? with
          | some (.inr (tg, n)) => if tg < 5 ∧ (n : Int) ≤ 2147483647 then some (ls, vI n :: st', s, 0, 0) else none
          | _ => none)
      | _ => none)
  | _ => none
section CR1
variable {t : TT} {M : MD} {d mc ms pc : Nat} {ls ls' : List (Nat × AV)} {st st' : List AV} {s s' : CS} {c k : Nat} {Q : Option AV → AH → Prop}
theorem cArr_ok {tg kk i n : Nat} {x : Int} (h : cArr st s tg = some (kk, i, x, st', n)) : ∃ j : Int, st = vI x :: vI j :: vR kk :: st' ∧ s.1[kk]? = some (.inr (tg, n)) ∧ 0 ≤ j ∧ j < n ∧ j.toNat = i := by
  unfold cArr at h
  split at h
  · split at h
    · rename_i tg' n' hn
      split at h
      · rename_i hc
        obtain ⟨rfl, h0, h1⟩ := hc
        cases h
        exact ⟨_, rfl, hn, h0, h1, rfl⟩
      · cases h
    · cases h
  · cases h
set_option maxHeartbeats 4000000 in
theorem cstep_ok {q : Instr × Nat} (ht : TOK t) (hd : decode M.2.1 pc = .ok q) (h : cstep t M ls st s q = some (ls', st', s', c, k)) (kk : J none M d mc ms (pc + q.2) ls' st' (ah s') Q) : J none M d (mc + c) (ms + k) pc ls st (ah s) Q := by
  obtain ⟨hF, hC, hM, hK, hA⟩ := ht
  unfold cstep at h
  split at h
  · unfold cLoad at h
    split at h
    · rename_i hg
      rw [if_pos rfl] at h
      cases h
      exact J_aload_n hd rfl hg kk
    · rw [if_pos rfl] at h
      cases h
    · cases h
  · unfold cLoad at h
    split at h
    · rename_i hg
      rw [if_pos rfl] at h
      cases h
      exact J_aload hd hg kk
    · rw [if_pos rfl] at h
      cases h
    · cases h
  · unfold cLoad at h
    split at h
    · rw [if_neg (by decide)] at h
      cases h
    · rename_i hg
      rw [if_neg (by decide)] at h
      cases h
      exact J_iload_n hd rfl hg kk
    · cases h
  · unfold cLoad at h
    split at h
    · rw [if_neg (by decide)] at h
      cases h
    · rename_i hg
      rw [if_neg (by decide)] at h
      cases h
      exact J_iload hd hg kk
    · cases h
  · split at h
    · rename_i hi
      cases h
      exact J_iconst hd (iiB_ok hi) kk
    · cases h
  · split at h
    · rename_i hi
      cases h
      exact J_bipush hd (iiB_ok hi.1) hi.2 kk
    · cases h
  · split at h
    · rename_i hi
      cases h
      exact J_sipush hd (iiB_ok hi.1) hi.2 kk
    · cases h
  · split at h
    · rename_i e he
      obtain ⟨h1, h2, h3⟩ := ffd_ok he
      cases h
      obtain ⟨k1, k2⟩ := hK e h1
      rw [h2, h3] at k1
      exact J_ldc _ hd k1 k2 kk
    · cases h
  · unfold cStore at h
    split at h
    · split at h
      · rename_i hi
        cases h
        exact J_istore_n hd rfl hi kk
      · cases h
    · cases h
  · unfold cStore at h
    split at h
    · split at h
      · rename_i hi
        cases h
        exact J_istore hd hi kk
      · cases h
    · cases h
  · split at h
    · split at h
      · rename_i hi
        cases h
        exact J_dup hd hi kk
      · cases h
    · cases h
  · split at h
    · rename_i hg
      split at h
      · rename_i hi
        cases h
        have hb := iiB_ok hi.2
        exact J_iincN hd hg hi.1 hb kk
      · cases h
    · cases h
  · split at h
    · rename_i e he
      obtain ⟨h1, h2, h3⟩ := ffd_ok he
      split at h
      · rename_i hl
        cases h
        obtain ⟨C, T, N, ty, ck, w1, w2, w3, w4⟩ := hC e h1
        rw [h2, h3] at w1
        rw [ck.2.1]
        refine J_new hd ck w1 w2 w3 w4 ?_
        show J none M d mc ms _ _ _ (s.1 ++ [.inl e.2.2], clR (lr s.2.1) s.1.length, clI (li s.2.2) s.1.length) Q
        rw [lr_cl (lens_ok hl).1, li_cl (lens_ok hl).2]
        exact kk
      · cases h
    · cases h
  · split at h
    · rename_i n st0 tg hat
      split at h
      · rename_i hl
        cases h
        refine J_newa (t := tg) hd ?_ ?_ hl.2.1 hl.2.2 ?_
        · unfold atag at hat
          split at hat <;> cases hat <;> simp
        · unfold atag at hat
          split at hat
          · exact aw_int
          · exact aw_long
          · exact aw_boolean
          · exact aw_char
          · cases hat
        · show J none M d mc ms _ _ _ (s.1 ++ [.inr (tg, n.toNat)], clR (lr s.2.1) s.1.length, clI (li s.2.2) s.1.length) Q
          rw [lr_cl (lens_ok hl.1).1, li_cl (lens_ok hl.1).2]
          exact kk
      · cases h
    · cases h
  · split at h
    · rename_i e n st0 he
      obtain ⟨h1, h2, h3⟩ := ffd_ok he
      split at h
      · rename_i hl
        cases h
        have w := hA e h1
        unfold AFk at w
        rw [h2, h3] at w
        refine J_anew hd w hl.2.1 hl.2.2 ?_
        show J none M d mc ms _ _ _ (s.1 ++ [.inr (4, n.toNat)], clR (lr s.2.1) s.1.length, clI (li s.2.2) s.1.length) Q
        rw [lr_cl (lens_ok hl.1).1, li_cl (lens_ok hl.1).2]
        exact kk
      · cases h
    · cases h
  · unfold cPut at h
    split at h
    · rename_i e x k0 st0 he
      obtain ⟨h1, h2, h3⟩ := ffd_ok he
      split at h
      · rename_i hl
        cases h
        obtain ⟨C, T, N, ty, ck, w1, w2, w3, w4, w5, w6⟩ := hF e h1
        rw [h2, h3] at w1
        rw [hl.1] at w2 w3
        refine J_putI hd ck w1 w2 w3 ?_ hl.2.1 ?_
        · rw [w5 hl.1]
          by_cases hz : e.2.2.2.2.2.1 = true
          · rw [if_pos hz]; exact Or.inr ⟨rfl, hl.2.2 hz⟩
          · rw [if_neg hz]; exact Or.inl rfl
        · show J none M d mc ms _ _ _ (s.1, lr s.2.1, up (li s.2.2) k0 e.2.2.2.1 x) Q
          rw [li_up]
          exact kk
      · cases h
    · rename_i e v k0 st0 he
      obtain ⟨h1, h2, h3⟩ := ffd_ok he
      split at h
      · rename_i hl
        cases h
        obtain ⟨C, T, N, ty, ck, w1, w2, w3, w4, w5, w6⟩ := hF e h1
        have hC0 : C = M.1.cls := (w6 hl.2.1).trans h2
        rw [h2, h3] at w1
        rw [hl.1] at w2 w3
        refine J_putR hd ck w1 w2 w3 hC0 hl.2.2.1 (w4 hl.1) hl.2.2.2 ?_
        show J none M d mc ms _ _ _ (s.1, upR (lr s.2.1) k0 e.2.2.2.1 (some v), li s.2.2) Q
        rw [lr_up]
        exact kk
      · cases h
    · cases h
  · unfold cGet at h
    split at h
    · rename_i e k0 st0 he
      obtain ⟨h1, h2, h3⟩ := ffd_ok he
      obtain ⟨C, T, N, ty, ck, w1, w2, w3, w4, w5, w6⟩ := hF e h1
      rw [h2, h3] at w1
      split at h
      · rename_i hl
        split at h
        · rename_i hr
          split at h
          · rename_i v hv
            cases h
            rw [hr] at w2
            exact J_getR hd ck w1 w2 hl hv kk
          · cases h
        · rename_i hr
          cases h
          rw [Bool.not_eq_true] at hr
          rw [hr] at w2
          exact J_getI hd ck w1 w2 hl kk
      · cases h
    · cases h
  · split at h
    · rename_i k0 i x st0 n hc
      obtain ⟨j, rfl, hs, h0, h1, rfl⟩ := cArr_ok hc
      split at h
      · rename_i hx
        cases h
        refine J_cast hd hs h0 h1 hx.1 hx.2 ?_
        show J none M d mc ms _ _ _ (s.1, lr s.2.1, up (li s.2.2) k0 j.toNat x) Q
        rw [li_up]
        exact kk
      · cases h
    · cases h
  · split at h
    · rename_i k0 i x st0 n hc
      obtain ⟨j, rfl, hs, h0, h1, rfl⟩ := cArr_ok hc
      cases h
      refine J_iast hd hs h0 h1 ?_
      show J none M d mc ms _ _ _ (s.1, lr s.2.1, up (li s.2.2) k0 j.toNat x) Q
      rw [li_up]
      exact kk
    · cases h
  · split at h
    · rename_i v i k0 st0
      split at h
      · rename_i n hs
        split at h
        · rename_i hl
          cases h
          refine J_aast hd hs hl.2.2 hl.1 hl.2.1 ?_
          show J none M d mc ms _ _ _ (s.1, upR (lr s.2.1) k0 i.toNat (some v), li s.2.2) Q
          rw [lr_up]
          exact kk
        · cases h
      · cases h
    · cases h
  · split at h
    · split at h
      · rename_i n hs
        split at h
        · rename_i hl
          cases h
          exact J_iald hd hs hl.1 hl.2 kk
        · cases h
      · cases h
    · cases h
  · split at h
    · split at h
      · rename_i tg n hs
        split at h
        · rename_i hl
          cases h
          exact J_alen hd hs hl.1 hl.2 kk
        · cases h
      · cases h
    · cases h
  · cases h
end CR1
