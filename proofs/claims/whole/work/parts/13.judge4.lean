section JS
variable {X : Option (Nat × (Nat → Int32))} {M : MD} {d mc ms pc : Nat} {ls : List (Nat × AV)} {st : List AV} {σ : AH} {Q : Option AV → AH → Prop}
theorem arr_up {f : Nat → Int32} {j : Nat} {x : Int32} (cA : ClassId) (n : Nat) : (arrV cA n (fun i => Value.int (f i))).setSlot j (.int x) = arrV cA n (fun i => Value.int (if i = j then x else f i)) := by
  rw [arrV_store]
  congr 1
  funext q
  by_cases hq : q = j
  · subst hq; simp [updV]
  · simp [updV, hq]
theorem arr_upL {f : Nat → Int64} {j : Nat} {x : Int64} (cA : ClassId) (n : Nat) : (arrV cA n (fun i => Value.long (f i))).setSlot j (.long x) = arrV cA n (fun i => Value.long (if i = j then x else f i)) := by
  rw [arrV_store]
  congr 1
  funext q
  by_cases hq : q = j
  · subst hq; simp [updV]
  · simp [updV, hq]
theorem up_f {I : Nat → Nat → Int} {k j : Nat} {x : Int} : (fun i => Int32.ofInt (up I k j x k i)) = (fun i => if i = j then Int32.ofInt x else Int32.ofInt (I k i)) := by
  funext i
  by_cases h : i = j
  · subst h; simp [up]
  · simp [up, h]
theorem up_fL {I : Nat → Nat → Int} {k j : Nat} {x : Int} : (fun i => Int64.ofInt (up I k j x k i)) = (fun i => if i = j then Int64.ofInt x else Int64.ofInt (I k i)) := by
  funext i
  by_cases h : i = j
  · subst h; simp [up]
  · simp [up, h]
theorem in_sz {cA : ClassId} {n : Nat} {f : Nat → Value} {i : Int32} (h : vp_in i n) : ¬ (i < 0 ∨ (arrV cA n f).slots.size ≤ i.toNatClampNeg) := by rw [arrV_size]; exact h
theorem J_iast {i x : Int} {k n : Nat} (hd : decode M.2.1 pc = .ok (.iastore, 1)) (hs : σ.1[k]? = some (.inr (0, n))) (h0 : 0 ≤ i) (hn : i < n) (kk : J X M d mc ms (pc + 1) ls st (σ.1, σ.2.1, up σ.2.2 k i.toNat x) Q) : J X M d mc ms pc ls (vI x :: vI i :: vR k :: st) σ Q := by
  intro p l e R s m args below meth c D B b dA E C0 S0 Z cx hR he H locs cells slots lsC hH hS h1 h2 hl hol hos
  have hi : ii i := ok_h (ok_t hos)
  have hc : H[B + k]? = some (arrV (dA 0) n (fun j => .int (Int32.ofInt (σ.2.2 k j)))) := hH.1 k _ hs
  refine W.iast cx.1 cx.2.1 hc ((cx.2.2.2.2.2.1.2 0 _ rfl).1 n _) (fun q => by cases q) (in_sz (io_in hi h0 hn)) rfl rfl hd fun H' e1 e2 e3 => ?_
  rw [io_cl hi] at e1 ⊢
  refine kk p l e R s m args below meth c D B b dA E C0 S0 Z cx hR he H' _ cells slots lsC (HR_set (σ' := (σ.1, σ.2.1, up σ.2.2 k i.toNat x)) hH rfl hs e2 e3 ?_ (fun _ _ _ => rfl) (fun k' hk' j' => up_n (fun q => hk' q.1)) ?_) (S_put hS e2 e3) h1 h2 hl hol (ok_t (ok_t (ok_t hos)))
  · show H'[B + k]? = some (arrV (dA 0) n (fun j => .int (Int32.ofInt (up σ.2.2 k i.toNat x k j))))
    skip
    rw [e1, arr_up]
    exact congrArg (fun g => some (arrV (dA 0) n (fun j => Value.int (g j)))) up_f.symm
  · intro j'
    show ii (up σ.2.2 k i.toNat x k j')
    by_cases e : j' = i.toNat
    · rw [e, up_s]; exact ok_h hos
    · rw [up_n (fun q => e q.2)]; exact hH.2.2 k _ hs j'
theorem J_last {i x : Int} {k n : Nat} (hd : decode M.2.1 pc = .ok (.lastore, 1)) (hs : σ.1[k]? = some (.inr (1, n))) (h0 : 0 ≤ i) (hn : i < n) (kk : J X M d mc ms (pc + 1) ls st (σ.1, σ.2.1, up σ.2.2 k i.toNat x) Q) : J X M d mc ms pc ls (vL x :: vI i :: vR k :: st) σ Q := by
  intro p l e R s m args below meth c D B b dA E C0 S0 Z cx hR he H locs cells slots lsC hH hS h1 h2 hl hol hos
  have hi : ii i := ok_h (ok_t hos)
  have hc : H[B + k]? = some (arrV (dA 1) n (fun j => .long (Int64.ofInt (σ.2.2 k j)))) := hH.1 k _ hs
  refine W.last cx.1 cx.2.1 hc ((cx.2.2.2.2.2.1.2 1 _ rfl).1 n _) (fun q => by cases q) (in_sz (io_in hi h0 hn)) rfl rfl hd fun H' e1 e2 e3 => ?_
  rw [io_cl hi] at e1 ⊢
  refine kk p l e R s m args below meth c D B b dA E C0 S0 Z cx hR he H' _ cells slots lsC (HR_set (σ' := (σ.1, σ.2.1, up σ.2.2 k i.toNat x)) hH rfl hs e2 e3 ?_ (fun _ _ _ => rfl) (fun k' hk' j' => up_n (fun q => hk' q.1)) ?_) (S_put hS e2 e3) h1 h2 hl hol (ok_t (ok_t (ok_t hos)))
  · show H'[B + k]? = some (arrV (dA 1) n (fun j => .long (Int64.ofInt (up σ.2.2 k i.toNat x k j))))
    skip
    rw [e1, arr_upL]
    exact congrArg (fun g => some (arrV (dA 1) n (fun j => Value.long (g j)))) up_fL.symm
  · intro j'
    show ll (up σ.2.2 k i.toNat x k j')
    by_cases e : j' = i.toNat
    · rw [e, up_s]; exact ok_h hos
    · rw [up_n (fun q => e q.2)]; exact hH.2.2 k _ hs j'
theorem J_zast {i x : Int} {k n : Nat} (hd : decode M.2.1 pc = .ok (.bastore, 1)) (hs : σ.1[k]? = some (.inr (2, n))) (h0 : 0 ≤ i) (hn : i < n) (hx : x = 0 ∨ x = 1) (kk : J X M d mc ms (pc + 1) ls st (σ.1, σ.2.1, up σ.2.2 k i.toNat x) Q) : J X M d mc ms pc ls (vI x :: vI i :: vR k :: st) σ Q := by
  intro p l e R s m args below meth c D B b dA E C0 S0 Z cx hR he H locs cells slots lsC hH hS h1 h2 hl hol hos
  have hi : ii i := ok_h (ok_t hos)
  have hc : H[B + k]? = some (arrV (dA 2) n (fun j => .int (Int32.ofInt (σ.2.2 k j)))) := hH.1 k _ hs
  refine W.zast cx.1 cx.2.1 hc ((cx.2.2.2.2.2.1.2 2 _ rfl).1 n _) (fun q => by cases q) (in_sz (io_in hi h0 hn)) rfl rfl hd fun H' e1 e2 e3 => ?_
  rw [io_cl hi] at e1 ⊢
  refine kk p l e R s m args below meth c D B b dA E C0 S0 Z cx hR he H' _ cells slots lsC (HR_set (σ' := (σ.1, σ.2.1, up σ.2.2 k i.toNat x)) hH rfl hs e2 e3 ?_ (fun _ _ _ => rfl) (fun k' hk' j' => up_n (fun q => hk' q.1)) ?_) (S_put hS e2 e3) h1 h2 hl hol (ok_t (ok_t (ok_t hos)))
  · show H'[B + k]? = some (arrV (dA 2) n (fun j => .int (Int32.ofInt (up σ.2.2 k i.toNat x k j))))
    rw [(okf_n (t := .boolean) (Or.inr ⟨rfl, hx⟩)).1] at e1
    rw [e1, arr_up]
    exact congrArg (fun g => some (arrV (dA 2) n (fun j => Value.int (g j)))) up_f.symm
  · intro j'
    show ii (up σ.2.2 k i.toNat x k j')
    by_cases e : j' = i.toNat
    · rw [e, up_s]; exact ok_h hos
    · rw [up_n (fun q => e q.2)]; exact hH.2.2 k _ hs j'
theorem nar_c {x : Int} (h0 : 0 ≤ x) (h1 : x ≤ 65535) : narrow .char (.int (Int32.ofInt x)) = .int (Int32.ofInt x) := by
  obtain ⟨n, rfl⟩ : ∃ n : Nat, x = (n : Int) := ⟨x.toNat, by omega⟩
  have e : Int32.ofInt (n : Int) = nI n := by
    apply Int32.toInt_inj.mp
    rw [nI_toInt (by omega), ii_ofI]
    unfold ii; omega
  rw [e]
  exact (pk_charN (by omega)).1
theorem J_cast {i x : Int} {k n : Nat} (hd : decode M.2.1 pc = .ok (.castore, 1)) (hs : σ.1[k]? = some (.inr (3, n))) (h0 : 0 ≤ i) (hn : i < n) (hx : 0 ≤ x) (hx2 : x ≤ 65535) (kk : J X M d mc ms (pc + 1) ls st (σ.1, σ.2.1, up σ.2.2 k i.toNat x) Q) : J X M d mc ms pc ls (vI x :: vI i :: vR k :: st) σ Q := by
  intro p l e R s m args below meth c D B b dA E C0 S0 Z cx hR he H locs cells slots lsC hH hS h1 h2 hl hol hos
  have hi : ii i := ok_h (ok_t hos)
  have hc : H[B + k]? = some (arrV (dA 3) n (fun j => .int (Int32.ofInt (σ.2.2 k j)))) := hH.1 k _ hs
  refine W.cast cx.1 cx.2.1 hc ((cx.2.2.2.2.2.1.2 3 _ rfl).1 n _) (fun q => by cases q) (in_sz (io_in hi h0 hn)) rfl rfl hd fun H' e1 e2 e3 => ?_
  rw [io_cl hi] at e1 ⊢
  refine kk p l e R s m args below meth c D B b dA E C0 S0 Z cx hR he H' _ cells slots lsC (HR_set (σ' := (σ.1, σ.2.1, up σ.2.2 k i.toNat x)) hH rfl hs e2 e3 ?_ (fun _ _ _ => rfl) (fun k' hk' j' => up_n (fun q => hk' q.1)) ?_) (S_put hS e2 e3) h1 h2 hl hol (ok_t (ok_t (ok_t hos)))
  · show H'[B + k]? = some (arrV (dA 3) n (fun j => .int (Int32.ofInt (up σ.2.2 k i.toNat x k j))))
    skip
    rw [nar_c hx hx2] at e1
    rw [e1, arr_up]
    exact congrArg (fun g => some (arrV (dA 3) n (fun j => Value.int (g j)))) up_f.symm
  · intro j'
    show ii (up σ.2.2 k i.toNat x k j')
    by_cases e : j' = i.toNat
    · rw [e, up_s]; exact ok_h hos
    · rw [up_n (fun q => e q.2)]; exact hH.2.2 k _ hs j'
theorem J_alen {k t n : Nat} (hd : decode M.2.1 pc = .ok (.arraylength, 1)) (hs : σ.1[k]? = some (.inr (t, n))) (ht : t < 5) (hn : (n : Int) ≤ 2147483647) (kk : J X M d mc ms (pc + 1) ls (vI n :: st) σ Q) : J X M d mc ms pc ls (vR k :: st) σ Q := by
  intro p l e R s m args below meth c D B b dA E C0 S0 Z cx hR he H locs cells slots lsC hH hS h1 h2 hl hol hos
  have hP := va_P1 (hH.1 k _ hs)
  have hok : ii (n : Int) := by unfold ii; omega
  have hv : Int32.ofNat n = Int32.ofInt (n : Int) := by
    apply Int32.toInt_inj.mp
    rw [ii_ofI hok]
    exact nI_toInt (by omega)
  have kk' := kk p l e R s m args below meth c D B b dA E C0 S0 Z cx hR he H locs cells slots lsC hH hS h1 h2 hl hol (ok_ci hok (ok_t hos))
  match t, ht with
  | 0, _ => exact va_alen cx.1 cx.2.1 cx.2.2.2.2.2.1 hP 0 0 rfl rfl hv hd kk'
  | 1, _ => exact va_alen cx.1 cx.2.1 cx.2.2.2.2.2.1 hP 0 1 rfl rfl hv hd kk'
  | 2, _ => exact va_alen cx.1 cx.2.1 cx.2.2.2.2.2.1 hP 0 2 rfl rfl hv hd kk'
  | 3, _ => exact va_alen cx.1 cx.2.1 cx.2.2.2.2.2.1 hP 0 3 rfl rfl hv hd kk'
  | 4, _ => exact va_alen cx.1 cx.2.1 cx.2.2.2.2.2.1 hP 0 4 rfl rfl hv hd kk'
theorem J_ret {r : Option AV} (hd : decode M.2.1 pc = .ok (retI r, 1)) (ho : okr M.2.2.2 r) (hst : st = r.toList) (hq : Q r σ) : J X M d mc ms pc ls st σ Q := by
  intro p l e R s m args below meth c D B b dA E C0 S0 Z cx hR he H locs cells slots lsC hH hS h1 h2 hl hol hos
  subst hst
  have h := he H locs cells slots pc lsC r σ hH hS (by omega) (by omega) ho hq hd
  have e : (r.map (cv B b)).toList = r.toList.map (cv B b) := by cases r <;> rfl
  rwa [e] at h
theorem J_sld {L : Nat} {xs : Nat → Int32} {i : Int} (hX : X = some (L, xs)) (hd : decode M.2.1 pc = .ok (.iaload, 1)) (h0 : 0 ≤ i) (hn : i < L) (kk : J X M d mc ms (pc + 1) ls (vI (xs i.toNat).toInt :: st) σ Q) : J X M d mc ms pc ls (vI i :: vX :: st) σ Q := by
  intro p l e R s m args below meth c D B b dA E C0 S0 Z cx hR he H locs cells slots lsC hH hS h1 h2 hl hol hos
  have hi : ii i := ok_h hos
  subst hX
  obtain ⟨hXX, hbs, hbB⟩ := cx.2.2.2.2.2.2.2.2.2
  refine va_sld (A := fun q => B ≤ q) cx.1 cx.2.1 hXX hbs (Nat.not_le.mpr hbB) hS (io_in hi h0 hn) hd ?_
  rw [io_cl hi]
  have k2 := kk p l e R s m args below meth c D B b dA E C0 S0 Z cx hR he H locs cells slots lsC hH hS h1 h2 hl hol (ok_ci (ii_of _) (ok_t (ok_t hos)))
  simp only [List.map, cv, Int32.ofInt_toInt] at k2
  exact k2
theorem J_slen {L : Nat} {xs : Nat → Int32} (hX : X = some (L, xs)) (hd : decode M.2.1 pc = .ok (.arraylength, 1)) (hn : (L : Int) ≤ 2147483647) (kk : J X M d mc ms (pc + 1) ls (vI L :: st) σ Q) : J X M d mc ms pc ls (vX :: st) σ Q := by
  intro p l e R s m args below meth c D B b dA E C0 S0 Z cx hR he H locs cells slots lsC hH hS h1 h2 hl hol hos
  subst hX
  obtain ⟨hXX, hbs, hbB⟩ := cx.2.2.2.2.2.2.2.2.2
  have hok : ii (L : Int) := by unfold ii; omega
  have hv : Int32.ofNat L = Int32.ofInt (L : Int) := by
    apply Int32.toInt_inj.mp
    rw [ii_ofI hok]
    exact nI_toInt (by omega)
  refine va_slen (A := fun q => B ≤ q) cx.1 cx.2.1 hXX hbs (Nat.not_le.mpr hbB) hS hd ?_
  rw [hv]
  exact kk p l e R s m args below meth c D B b dA E C0 S0 Z cx hR he H locs cells slots lsC hH hS h1 h2 hl hol (ok_ci hok (ok_t hos))
theorem J_tabOut {x dflt lo hi : Int} {offs : Array Int} {len tgt : Nat} (hd : decode M.2.1 pc = .ok (.tableswitch dflt lo hi offs, len)) (h : x < lo ∨ hi < x) (ht : (pc : Int) + dflt = (tgt : Int)) (k : J X M d mc ms tgt ls st σ Q) : J X M d mc ms pc ls (vI x :: st) σ Q :=
  J_q k (fun B b hx hb _ _ ho kk => lv_tableOut hx hb hd (by rw [ii_ofI (ok_h ho)]; exact h) ht kk) (fun h => ok_t h)
theorem J_tabIn {x dflt lo hi : Int} {offs : Array Int} {len tgt : Nat} {off : Int} (hd : decode M.2.1 pc = .ok (.tableswitch dflt lo hi offs, len)) (h1 : ¬ x < lo) (h2 : ¬ hi < x) (hf : offs[(x - lo).toNat]? = some off) (ht : (pc : Int) + off = (tgt : Int)) (k : J X M d mc ms tgt ls st σ Q) : J X M d mc ms pc ls (vI x :: st) σ Q :=
  J_q k (fun B b hx hb _ _ ho kk => lv_tableIn hx hb hd (by rw [ii_ofI (ok_h ho)]; exact h1) (by rw [ii_ofI (ok_h ho)]; exact h2) (by rw [ii_ofI (ok_h ho)]; exact hf) ht kk) (fun h => ok_t h)
theorem J_look {x dflt : Int} {ps : Array (Int × Int)} {len tgt : Nat} {off : Int} (hd : decode M.2.1 pc = .ok (.lookupswitch dflt ps, len)) (hp : (ps.toList.zip (ps.toList.drop 1)).all (fun (a, next) => a.1 < next.1) = true) (hf : Op.lookupswitch.offset ps.toList dflt x = off) (ht : (pc : Int) + off = (tgt : Int)) (k : J X M d mc ms tgt ls st σ Q) : J X M d mc ms pc ls (vI x :: st) σ Q :=
  J_q k (fun B b hx hb _ _ ho kk => lv_lookup hx hb hd hp (by rw [ii_ofI (ok_h ho)]; exact hf) ht kk) (fun h => ok_t h)
end JS
