def crunU (t : TT) (stop : Nat) : Nat → Nat → Nat → MD → Nat → List (Nat × AV) → List AV → CS → Option CO
  | 0, _, _, _, _, _, _, _ => none
  | n + 1, u, d, M, pc, ls, st, s => if pc = stop ∧ u = 0 then some (ls, st, s, 0, 0) else match decode M.2.1 pc with
    | .ok (.goto off, 3) => if 0 ≤ (pc : Int) + off then crunU t stop n (if pc = stop then u - 1 else u) d M ((pc : Int) + off).toNat ls st s else none
    | .ok (.if_icmp .ge off, 3) => (match st with
        | .inl y :: .inl x :: st' => if 0 ≤ (pc : Int) + off then (if y ≤ x then crunU t stop n (if pc = stop then u - 1 else u) d M ((pc : Int) + off).toNat ls st' s else crunU t stop n (if pc = stop then u - 1 else u) d M (pc + 3) ls st' s) else none
        | _ => none)
    | .ok (.invokespecial i, 3) => (match ffd t.2.2.1 M.1.cls i, d with
        | some e, d' + 1 => (match e.2.2.2.2.1 with
            | 0 => (match st with
                | .inr (.inr (.inl (some _))) :: st' => if (st'.map ct).sum ≤ 8 then crunU t stop n (if pc = stop then u - 1 else u) (d' + 1) M (pc + 3) ls st' s else none
                | _ => none)
            | 1 => (match popn e.2.2.2.1 st with
                | some (as, .inr (.inr (.inl (some k))) :: st') => if ((vR k :: as).map ct).sum ≤ e.2.2.1.2.2.1 ∧ (st'.map ct).sum ≤ 8 then (match crun t n d' e.2.2.1 0 (ent 0 (vR k :: as)) [] s with
                    | some (s1, c1, k1) => (match crunU t stop n (if pc = stop then u - 1 else u) (d' + 1) M (pc + 3) ls st' s1 with
                        | some (l2, st2, s2, c2, k2) => some (l2, st2, s2, c1 + c2, k1 + k2)
                        | none => none)
                    | none => none) else none
                | _ => none)
            | 2 => (match popn e.2.2.2.1 st with
                | some (as, .inr (.inr (.inl (some k))) :: st') => if ((vR k :: as).map ct).sum ≤ e.2.2.1.2.2.1 ∧ (st'.map ct).sum ≤ 8 then (match crun t n d' e.2.2.1 0 (ent 0 (vR k :: as)) [] s with
                    | some (s1, c1, k1) => (match crunU t stop n (if pc = stop then u - 1 else u) (d' + 1) M (pc + 3) ls st' s1 with
                        | some (l2, st2, s2, c2, k2) => some (l2, st2, s2, c1 + c2, k1 + k2)
                        | none => none)
                    | none => none) else none
                | _ => none)
            | _ => none)
        | _, _ => none)
    | .ok (.invokevirtual i, 3) => (match ffd t.2.2.1 M.1.cls i, d with
        | some e, d' + 1 => (match e.2.2.2.2.1 with
            | 3 => (match popn e.2.2.2.1 st with
                | some (as, .inr (.inr (.inl (some k))) :: st') => if ((vR k :: as).map ct).sum ≤ e.2.2.1.2.2.1 ∧ (st'.map ct).sum ≤ 8 ∧ s.1[k]? = some (.inl e.2.2.2.2.2) then (match crun t n d' e.2.2.1 0 (ent 0 (vR k :: as)) [] s with
                    | some (s1, c1, k1) => (match crunU t stop n (if pc = stop then u - 1 else u) (d' + 1) M (pc + 3) ls st' s1 with
                        | some (l2, st2, s2, c2, k2) => some (l2, st2, s2, c1 + c2, k1 + k2)
                        | none => none)
                    | none => none) else none
                | _ => none)
            | _ => none)
        | _, _ => none)
    | .ok q => (match cstep t M ls st s q with
        | some (ls', st', s', c, k) => (match crunU t stop n (if pc = stop then u - 1 else u) d M (pc + q.2) ls' st' s' with
            | some (l2, st2, s2, c2, k2) => some (l2, st2, s2, c2 + c, k2 + k)
            | none => none)
        | none => none)
    | .error _ => none
set_option maxHeartbeats 8000000 in
theorem crunU_ok {t : TT} (ht : TOK t) (stop : Nat) : ∀ (n u d : Nat) (M : MD) (pc : Nat) (ls ls' : List (Nat × AV)) (st st' : List AV) (s s' : CS) (c k mc ms : Nat) (Q : Option AV → AH → Prop), crunU t stop n u d M pc ls st s = some (ls', st', s', c, k) → J none M d mc ms stop ls' st' (ah s') Q → J none M d (mc + c) (ms + k) pc ls st (ah s) Q
  | 0, u, d, M, pc, ls, ls', st, st', s, s', c, k, mc, ms, Q, h, hq => by cases h
  | n + 1, u, d, M, pc, ls, ls', st, st', s, s', c, k, mc, ms, Q, h, hq => by
    unfold crunU at h
    split at h
    · rename_i hp
      cases h
      obtain ⟨hp, -⟩ := hp
      subst hp
      exact hq
    split at h
    · rename_i off hd
      split at h
      · rename_i h0
        exact J_goto (tgt := ((pc : Int) + off).toNat) hd (by omega) (crunU_ok ht stop n _ d M _ ls ls' st st' s s' c k mc ms Q h hq)
      · cases h
    · rename_i off hd
      split at h
      · split at h
        · rename_i h0
          refine J_ic_ge (tgt := ((pc : Int) + off).toNat) hd (by omega) (fun hc => ?_) (fun hc => ?_)
          · rw [if_pos hc] at h
            exact crunU_ok ht stop n _ d M _ ls ls' _ st' s s' c k mc ms Q h hq
          · rw [if_neg hc] at h
            exact crunU_ok ht stop n _ d M _ ls ls' _ st' s s' c k mc ms Q h hq
        · cases h
      · cases h
    · rename_i i hd
      split at h
      · rename_i e d' he
        obtain ⟨g1, g2, g3⟩ := ffd_ok he
        have hm := ht.2.2.1 e g1
        unfold MFk at hm
        split at h
        · rename_i hk
          rw [hk] at hm
          rw [g2, g3] at hm
          split at h
          · split at h
            · rename_i hs8
              exact J_obj hd hm ow_2 ow_3 hs8 (crunU_ok ht stop n _ (d' + 1) M _ ls ls' _ st' s s' c k mc ms Q h hq)
            · cases h
          · cases h
        · rename_i hk
          rw [hk] at hm
          rw [g2, g3] at hm
          split at h
          · rename_i as k0 st0 hp
            obtain ⟨p1, p2⟩ := popn_ok _ _ _ _ hp
            subst p1
            split at h
            · rename_i hs8
              split at h
              · rename_i s1 c1 k1 hr1
                split at h
                · rename_i l2 st2 s2 c2 k2 hr2
                  cases h
                  exact J_mcs (mc := c1 + (mc + c2)) (ms := k1 + (ms + k2)) (by omega) (by omega) (J_callI hd hm.1 hm.2 p2 hs8.1 hs8.2 (crun_ok ht n d' e.2.2.1 0 _ [] s s1 c1 k1 (fun r σ => r = none ∧ σ = ah s1) hr1 ⟨rfl, rfl⟩) (fun r σ' hr _ => by
                    obtain ⟨rfl, rfl⟩ := hr
                    exact crunU_ok ht stop n _ (d' + 1) M _ ls _ _ _ s1 _ c2 k2 mc ms Q hr2 hq))
                · cases h
              · cases h
            · cases h
          · cases h
        · rename_i hk
          rw [hk] at hm
          rw [g2, g3] at hm
          split at h
          · rename_i as k0 st0 hp
            obtain ⟨p1, p2⟩ := popn_ok _ _ _ _ hp
            subst p1
            split at h
            · rename_i hs8
              split at h
              · rename_i s1 c1 k1 hr1
                split at h
                · rename_i l2 st2 s2 c2 k2 hr2
                  cases h
                  exact J_mcs (mc := c1 + (mc + c2)) (ms := k1 + (ms + k2)) (by omega) (by omega) (J_callIN hd hm.1 hm.2 p2 hs8.1 hs8.2 (crun_ok ht n d' e.2.2.1 0 _ [] s s1 c1 k1 (fun r σ => r = none ∧ σ = ah s1) hr1 ⟨rfl, rfl⟩) (fun r σ' hr _ => by
                    obtain ⟨rfl, rfl⟩ := hr
                    exact crunU_ok ht stop n _ (d' + 1) M _ ls _ _ _ s1 _ c2 k2 mc ms Q hr2 hq))
                · cases h
              · cases h
            · cases h
          · cases h
        · cases h
      · cases h
    · rename_i i hd
      split at h
      · rename_i e d' he
        obtain ⟨g1, g2, g3⟩ := ffd_ok he
        have hm := ht.2.2.1 e g1
        unfold MFk at hm
        split at h
        · rename_i hk
          rw [hk] at hm
          rw [g2, g3] at hm
          split at h
          · rename_i as k0 st0 hp
            obtain ⟨p1, p2⟩ := popn_ok _ _ _ _ hp
            subst p1
            split at h
            · rename_i hs8
              split at h
              · rename_i s1 c1 k1 hr1
                split at h
                · rename_i l2 st2 s2 c2 k2 hr2
                  cases h
                  exact J_mcs (mc := c1 + (mc + c2)) (ms := k1 + (ms + k2)) (by omega) (by omega) (J_callV hd hm.1 hm.2 hs8.2.2 p2 hs8.1 hs8.2.1 (crun_ok ht n d' e.2.2.1 0 _ [] s s1 c1 k1 (fun r σ => r = none ∧ σ = ah s1) hr1 ⟨rfl, rfl⟩) (fun r σ' hr _ => by
                    obtain ⟨rfl, rfl⟩ := hr
                    exact crunU_ok ht stop n _ (d' + 1) M _ ls _ _ _ s1 _ c2 k2 mc ms Q hr2 hq))
                · cases h
              · cases h
            · cases h
          · cases h
        · cases h
      · cases h
    · rename_i q _ _ _ _ hd
      split at h
      · rename_i ls1 st1 s1 c1 k1 hc1
        split at h
        · rename_i l2 st2 s2 c2 k2 hr2
          cases h
          exact J_mcs (mc := mc + c2 + c1) (ms := ms + k2 + k1) (by omega) (by omega) (cstep_ok ht hd hc1 (crunU_ok ht stop n _ d M _ ls1 _ st1 _ s1 _ c2 k2 mc ms Q hr2 hq))
        · cases h
      · cases h
    · cases h
