def crun (t : TT) : Nat → Nat → MD → Nat → List (Nat × AV) → List AV → CS → Option (CS × Nat × Nat)
  | 0, _, _, _, _, _, _ => none
  | n + 1, d, M, pc, ls, st, s => match decode M.2.1 pc with
    | .ok (.return_, 1) => (match st with
        | [] => if M.2.2.2 = none then some (s, 0, 0) else none
        | _ => none)
    | .ok (.goto off, 3) => if 0 ≤ (pc : Int) + off then crun t n d M ((pc : Int) + off).toNat ls st s else none
    | .ok (.if_icmp .ge off, 3) => (match st with
        | .inl y :: .inl x :: st' => if 0 ≤ (pc : Int) + off then (if y ≤ x then crun t n d M ((pc : Int) + off).toNat ls st' s else crun t n d M (pc + 3) ls st' s) else none
        | _ => none)
    | .ok (.invokespecial i, 3) => (match ffd t.2.2.1 M.1.cls i, d with
        | some e, d' + 1 => (match e.2.2.2.2.1 with
            | 0 => (match st with
                | .inr (.inr (.inl (some _))) :: st' => if (st'.map ct).sum ≤ 8 then crun t n (d' + 1) M (pc + 3) ls st' s else none
                | _ => none)
            | 1 => (match popn e.2.2.2.1 st with
                | some (as, .inr (.inr (.inl (some k))) :: st') => if ((vR k :: as).map ct).sum ≤ e.2.2.1.2.2.1 ∧ (st'.map ct).sum ≤ 8 then (match crun t n d' e.2.2.1 0 (ent 0 (vR k :: as)) [] s with
                    | some (s1, c1, k1) => (match crun t n (d' + 1) M (pc + 3) ls st' s1 with
                        | some (s2, c2, k2) => some (s2, c1 + c2, k1 + k2)
                        | none => none)
                    | none => none) else none
                | _ => none)
            | 2 => (match popn e.2.2.2.1 st with
                | some (as, .inr (.inr (.inl (some k))) :: st') => if ((vR k :: as).map ct).sum ≤ e.2.2.1.2.2.1 ∧ (st'.map ct).sum ≤ 8 then (match crun t n d' e.2.2.1 0 (ent 0 (vR k :: as)) [] s with
                    | some (s1, c1, k1) => (match crun t n (d' + 1) M (pc + 3) ls st' s1 with
                        | some (s2, c2, k2) => some (s2, c1 + c2, k1 + k2)
                        | none => none)
                    | none => none) else none
                | _ => none)
            | _ => none)
        | _, _ => none)
    | .ok (.invokevirtual i, 3) => (match ffd t.2.2.1 M.1.cls i, d with
        | some e, d' + 1 => (match e.2.2.2.2.1 with
            | 3 => (match popn e.2.2.2.1 st with
                | some (as, .inr (.inr (.inl (some k))) :: st') => if ((vR k :: as).map ct).sum ≤ e.2.2.1.2.2.1 ∧ (st'.map ct).sum ≤ 8 ∧ s.1[k]? = some (.inl e.2.2.2.2.2) then (match crun t n d' e.2.2.1 0 (ent 0 (vR k :: as)) [] s with
                    | some (s1, c1, k1) => (match crun t n (d' + 1) M (pc + 3) ls st' s1 with
                        | some (s2, c2, k2) => some (s2, c1 + c2, k1 + k2)
                        | none => none)
                    | none => none) else none
                | _ => none)
            | _ => none)
        | _, _ => none)
    | .ok (.invokestatic i, 3) => (match ffd t.2.2.1 M.1.cls i, d with
        | some e, d' + 1 => (match e.2.2.2.2.1 with
            | 4 => (match popn e.2.2.2.1 st with
                | some (as, st') => if (as.map ct).sum ≤ e.2.2.1.2.2.1 ∧ (st'.map ct).sum ≤ 8 then (match crun t n d' e.2.2.1 0 (ent 0 as) [] s with
                    | some (s1, c1, k1) => (match crun t n (d' + 1) M (pc + 3) ls st' s1 with
                        | some (s2, c2, k2) => some (s2, c1 + c2, k1 + k2)
                        | none => none)
                    | none => none) else none
                | none => none)
            | _ => none)
        | _, _ => none)
    | .ok q => (match cstep t M ls st s q with
        | some (ls', st', s', c, k) => (match crun t n d M (pc + q.2) ls' st' s' with
            | some (s2, c2, k2) => some (s2, c2 + c, k2 + k)
            | none => none)
        | none => none)
    | .error _ => none
set_option maxHeartbeats 8000000 in
theorem crun_ok {t : TT} (ht : TOK t) : ∀ (n d : Nat) (M : MD) (pc : Nat) (ls : List (Nat × AV)) (st : List AV) (s s' : CS) (c k : Nat) (Q : Option AV → AH → Prop), crun t n d M pc ls st s = some (s', c, k) → Q none (ah s') → J none M d c k pc ls st (ah s) Q
  | 0, d, M, pc, ls, st, s, s', c, k, Q, h, hq => by cases h
  | n + 1, d, M, pc, ls, st, s, s', c, k, Q, h, hq => by
    unfold crun at h
    split at h
    · rename_i hd
      split at h
      · split at h
        · rename_i hr
          cases h
          exact J_retv hd hr hq
        · cases h
      · cases h
    · rename_i off hd
      split at h
      · rename_i h0
        exact J_goto (tgt := ((pc : Int) + off).toNat) hd (by omega) (crun_ok ht n d M _ ls st s s' c k Q h hq)
      · cases h
    · rename_i off hd
      split at h
      · split at h
        · rename_i h0
          refine J_ic_ge (tgt := ((pc : Int) + off).toNat) hd (by omega) (fun hc => ?_) (fun hc => ?_)
          · rw [if_pos hc] at h
            exact crun_ok ht n d M _ ls _ s s' c k Q h hq
          · rw [if_neg hc] at h
            exact crun_ok ht n d M _ ls _ s s' c k Q h hq
        · cases h
      · cases h
    · rename_i i hd
      split at h
      · rename_i e d' he
        obtain ⟨g1, g2, g3⟩ := ffd_ok he
        have hm := ht.2.2.1 e g1
        unfold MFk at hm
        split at h
        · rename_i hk
          rw [hk] at hm
          rw [g2, g3] at hm
          split at h
          · split at h
            · rename_i hs8
              exact J_obj hd hm ow_2 ow_3 hs8 (crun_ok ht n (d' + 1) M _ ls _ s s' c k Q h hq)
            · cases h
          · cases h
        · rename_i hk
          rw [hk] at hm
          rw [g2, g3] at hm
          split at h
          · rename_i as k0 st0 hp
            obtain ⟨p1, p2⟩ := popn_ok _ _ _ _ hp
            subst p1
            split at h
            · rename_i hs8
              split at h
              · rename_i s1 c1 k1 hr1
                split at h
                · rename_i s2 c2 k2 hr2
                  cases h
                  exact J_callI hd hm.1 hm.2 p2 hs8.1 hs8.2 (crun_ok ht n d' e.2.2.1 0 _ [] s s1 c1 k1 (fun r σ => r = none ∧ σ = ah s1) hr1 ⟨rfl, rfl⟩) (fun r σ' hr _ => by
                    obtain ⟨rfl, rfl⟩ := hr
                    exact crun_ok ht n (d' + 1) M _ ls _ s1 s' c2 k2 Q hr2 hq)
                · cases h
              · cases h
            · cases h
          · cases h
        · rename_i hk
          rw [hk] at hm
          rw [g2, g3] at hm
          split at h
          · rename_i as k0 st0 hp
            obtain ⟨p1, p2⟩ := popn_ok _ _ _ _ hp
            subst p1
            split at h
            · rename_i hs8
              split at h
              · rename_i s1 c1 k1 hr1
                split at h
                · rename_i s2 c2 k2 hr2
                  cases h
                  exact J_callIN hd hm.1 hm.2 p2 hs8.1 hs8.2 (crun_ok ht n d' e.2.2.1 0 _ [] s s1 c1 k1 (fun r σ => r = none ∧ σ = ah s1) hr1 ⟨rfl, rfl⟩) (fun r σ' hr _ => by
                    obtain ⟨rfl, rfl⟩ := hr
                    exact crun_ok ht n (d' + 1) M _ ls _ s1 s' c2 k2 Q hr2 hq)
                · cases h
              · cases h
            · cases h
          · cases h
        · cases h
      · cases h
    · rename_i i hd
      split at h
      · rename_i e d' he
        obtain ⟨g1, g2, g3⟩ := ffd_ok he
        have hm := ht.2.2.1 e g1
        unfold MFk at hm
        split at h
        · rename_i hk
          rw [hk] at hm
          rw [g2, g3] at hm
          split at h
          · rename_i as k0 st0 hp
            obtain ⟨p1, p2⟩ := popn_ok _ _ _ _ hp
            subst p1
            split at h
            · rename_i hs8
              split at h
              · rename_i s1 c1 k1 hr1
                split at h
                · rename_i s2 c2 k2 hr2
                  cases h
                  exact J_callV hd hm.1 hm.2 hs8.2.2 p2 hs8.1 hs8.2.1 (crun_ok ht n d' e.2.2.1 0 _ [] s s1 c1 k1 (fun r σ => r = none ∧ σ = ah s1) hr1 ⟨rfl, rfl⟩) (fun r σ' hr _ => by
                    obtain ⟨rfl, rfl⟩ := hr
                    exact crun_ok ht n (d' + 1) M _ ls _ s1 s' c2 k2 Q hr2 hq)
                · cases h
              · cases h
            · cases h
          · cases h
        · cases h
      · cases h
    · rename_i i hd
      split at h
      · rename_i e d' he
        obtain ⟨g1, g2, g3⟩ := ffd_ok he
        have hm := ht.2.2.1 e g1
        unfold MFk at hm
        split at h
        · rename_i hk
          rw [hk] at hm
          rw [g2, g3] at hm
          split at h
          · rename_i as st0 hp
            obtain ⟨p1, p2⟩ := popn_ok _ _ _ _ hp
            subst p1
            split at h
            · rename_i hs8
              split at h
              · rename_i s1 c1 k1 hr1
                split at h
                · rename_i s2 c2 k2 hr2
                  cases h
                  exact J_callS hd hm.1 hm.2 p2 hs8.1 hs8.2 (crun_ok ht n d' e.2.2.1 0 _ [] s s1 c1 k1 (fun r σ => r = none ∧ σ = ah s1) hr1 ⟨rfl, rfl⟩) (fun r σ' hr _ => by
                    obtain ⟨rfl, rfl⟩ := hr
                    exact crun_ok ht n (d' + 1) M _ ls _ s1 s' c2 k2 Q hr2 hq)
                · cases h
              · cases h
            · cases h
          · cases h
        · cases h
      · cases h
    · rename_i q _ _ _ _ _ _ hd
      split at h
      · rename_i ls1 st1 s1 c1 k1 hc1
        split at h
        · rename_i s2 c2 k2 hr2
          cases h
          exact cstep_ok ht hd hc1 (crun_ok ht n d M _ ls1 st1 s1 s' c2 k2 Q hr2 hq)
        · cases h
      · cases h
    · cases h
