def clI (I : Nat → Nat → Int) (n : Nat) : Nat → Nat → Int := fun a b => if a = n then 0 else I a b
def clR (R : Nat → Nat → Option Nat) (n : Nat) : Nat → Nat → Option Nat := fun a b => if a = n then none else R a b
theorem HR_new {D : va_G} {B : Nat} {dA : Nat → ClassId} {σ : AH} {H H1 : Heap} {sh : SH} (hH : HR D B dA σ H) (hz : H1.size = H.size + 1) (ho : ∀ q : Nat, q < H.size → H1[q]? = H[q]?)
    (hk : va_at D vwCl (B + σ.1.length, enc B dA (clR σ.2.1 σ.1.length) (clI σ.2.2 σ.1.length) σ.1.length sh) H1) : HR D B dA (σ.1 ++ [sh], clR σ.2.1 σ.1.length, clI σ.2.2 σ.1.length) H1 := by
  obtain ⟨a1, a2, a3⟩ := hH
  have hcase : ∀ (q : Nat) (s1 : SH), (σ.1 ++ [sh])[q]? = some s1 → (q < σ.1.length ∧ σ.1[q]? = some s1) ∨ (q = σ.1.length ∧ s1 = sh) := by
    intro q s1 hq
    rcases Nat.lt_or_ge q σ.1.length with hlt | hge
    · rw [List.getElem?_append_left hlt] at hq
      exact Or.inl ⟨hlt, hq⟩
    · rw [List.getElem?_append_right hge] at hq
      have h0 : q - σ.1.length < 1 := (List.getElem?_eq_some_iff.mp hq).1
      have e : q = σ.1.length := by omega
      subst e
      rw [Nat.sub_self] at hq
      exact Or.inr ⟨rfl, (Option.some.inj hq).symm⟩
  refine ⟨fun q s1 hq => ?_, by rw [hz, a2]; simp; omega, fun q s1 hq => ?_⟩
  · rcases hcase q s1 hq with ⟨hlt, hq⟩ | ⟨rfl, rfl⟩
    · have hne : q ≠ σ.1.length := Nat.ne_of_lt hlt
      show va_at D vwCl (B + q, enc B dA (clR σ.2.1 σ.1.length) (clI σ.2.2 σ.1.length) q s1) H1
      rw [enc_cong (R := σ.2.1) (I := σ.2.2) (fun j => by simp [clR, hne]) (fun j => by simp [clI, hne])]
      exact (a1 q s1 hq).kept (ho (B + q) (by rw [a2]; omega))
    · exact hk
  · rcases hcase q s1 hq with ⟨hlt, hq⟩ | ⟨rfl, rfl⟩
    · intro j
      show shr s1 (clI σ.2.2 σ.1.length q j)
      have hne : q ≠ σ.1.length := Nat.ne_of_lt hlt
      simp only [clI, hne, if_false]
      exact a3 q s1 hq j
    · intro j
      show shr s1 (clI σ.2.2 σ.1.length σ.1.length j)
      simp only [clI, if_true]
      unfold shr
      split
      · exact ll_0
      · exact ii_0
theorem S_new {B : Nat} {H0 H H1 : Heap} {locs : List Loc} (h : va_S (fun q => B ≤ q) H0 H locs) (z : H1.size = H.size + 1) (ho : ∀ q : Nat, q < H.size → H1[q]? = H[q]?) : va_S (fun q => B ≤ q) H0 H1 locs :=
  ⟨by have := h.1; omega, fun q g1 g2 => (ho q (Nat.lt_of_lt_of_le g1 h.1)).trans (h.2.1 q g1 g2), h.2.2⟩
section JN
variable {X : Option (Nat × (Nat → Int32))} {M M' : MD} {d mc ms pc : Nat} {ls : List (Nat × AV)} {st : List AV} {σ : AH} {Q Q1 : Option AV → AH → Prop}
theorem J_new {idx ci N : Nat} {C : String} {T : u_T} {ty : Nat → FieldType} (hd : decode M.2.1 pc = .ok (.new idx, 3)) (ck : CK ci C T N ty) (hw1 : Cond.classLink M.1.cls idx C ∈ GT) (hw2 : Cond.instantiable C N ∈ GT) (hw3 : Cond.initialized C ∈ GT) (hdf : ∀ j, j < N → ∀ r, (fl ci)[j]? = some r → defaultValue (ty j) = if r then .null else .int 0)
    (kk : J X M d mc ms (pc + 3) ls (vR σ.1.length :: st) (σ.1 ++ [.inl ci], clR σ.2.1 σ.1.length, clI σ.2.2 σ.1.length) Q) : J X M d (mc + 1) (ms + N) pc ls st σ Q := by
  intro p l e R s m args below meth c D B b dA E C0 S0 Z cx hR he H locs cells slots lsC hH hS h1 h2 hl hol hos
  have hts := cx.2.2.2.2.1
  have hK := cx.2.2.2.2.2.1
  obtain ⟨hC, hN, hin, hty, hnm, hown1⟩ := ck
  have hKn := hK.1 ci _ hC
  have hz0 : H.size = B + σ.1.length := hH.2.1
  refine W.newcK cx.1 cx.2.1 cx.2.2.2.1 (hts _ hw1) (hts _ hw2) (hts _ hw3) rfl hd (by have := hR.2.2.1; omega) (by have := hR.2.2.2; omega) hKn.2.1 hz0 fun H1 kC hkC e1 z1 o1 => ?_
  have z2 : H1.size = H.size + 1 := by rw [z1, hz0]
  have o2 : ∀ q : Nat, q < H.size → H1[q]? = H[q]? := fun q hq => o1 q (by rw [← hz0]; exact hq)
  refine kk p l e R s m args below meth c D B b dA E C0 S0 Z cx hR he H1 locs (cells + 1) (slots + N) lsC (HR_new hH z2 o2 ?_) (S_new hS z2 o2) (by omega) (by omega) hl hol (ok_c trivial hos)
  refine ⟨_, hC, (u_born ty hts hin hKn hkC e1 hty).to fun j hj => ?_⟩
  have hj' : j < (fl ci).length := by rw [hN]; exact hj
  obtain ⟨r, hr⟩ : ∃ r, (fl ci)[j]? = some r := ⟨(fl ci)[j], List.getElem?_eq_getElem hj'⟩
  rw [hdf j hj r hr]
  show _ = (fvs B (clR σ.2.1 σ.1.length) (clI σ.2.2 σ.1.length) σ.1.length ci).getD j .null
  rw [List.getD_eq_getElem?_getD, fvs_at hr]
  cases r <;> simp [fV, clR, clI, rfv, io_0]
theorem arrV_cong {cA cB : ClassId} {n : Nat} {f g : Nat → Value} (h1 : cA = cB) (h2 : f = g) : arrV cA n f = arrV cB n g := by rw [h1, h2]
theorem J_newa {t : Nat} {a : ArrayType} {n : Int} (hd : decode M.2.1 pc = .ok (.newarray a, 2)) (ht : (t = 0 ∧ a = .int) ∨ (t = 1 ∧ a = .long) ∨ (t = 2 ∧ a = .boolean) ∨ (t = 3 ∧ a = .char)) (hw : Cond.arrayClass (newarray.typeOf a) ∈ GT) (h0 : 0 ≤ n) (hn : n ≤ 1000000)
    (kk : J X M d mc ms (pc + 2) ls (vR σ.1.length :: st) (σ.1 ++ [.inr (t, n.toNat)], clR σ.2.1 σ.1.length, clI σ.2.2 σ.1.length) Q) : J X M d (mc + 1) (ms + n.toNat) pc ls (vI n :: st) σ Q := by
  intro p l e R s m args below meth c D B b dA E C0 S0 Z cx hR he H locs cells slots lsC hH hS h1 h2 hl hol hos
  have hts := cx.2.2.2.2.1
  have hK := cx.2.2.2.2.2.1
  have hi : ii n := ok_h hos
  have hz0 : H.size = B + σ.1.length := hH.2.1
  refine va_newaK cx.1 cx.2.1 (hts _ hw) rfl hd rfl (n := Int32.ofInt n) (N := n.toNat) (by rw [← io_0, io_lt hi ii_0]; omega) (io_cl hi) ?_ (by have := hR.2.2.1; omega) (by have := hR.2.2.2; omega) hz0 fun H1 cA e1 z1 o1 _ hNm => ?_
  · rcases ht with ⟨-, rfl⟩ | ⟨-, rfl⟩ | ⟨-, rfl⟩ | ⟨-, rfl⟩ <;> simp [newarray.typeOf, componentBytes] <;> omega
  have z2 : H1.size = H.size + 1 := by rw [z1, hz0]
  have o2 : ∀ q : Nat, q < H.size → H1[q]? = H[q]? := fun q hq => o1 q (by rw [← hz0]; exact hq)
  refine kk p l e R s m args below meth c D B b dA E C0 S0 Z cx hR he H1 locs (cells + 1) (slots + n.toNat) lsC (HR_new hH z2 o2 ?_) (S_new hS z2 o2) (by omega) (by omega) hl hol (ok_c trivial (ok_t hos))
  rcases ht with ⟨rfl, rfl⟩ | ⟨rfl, rfl⟩ | ⟨rfl, rfl⟩ | ⟨rfl, rfl⟩
  · have hc : cA = dA 0 := Option.some.inj (hNm.symm.trans (hK.2 0 _ rfl).2)
    show H1[B + σ.1.length]? = some (arrV (dA 0) n.toNat (fun j => .int (Int32.ofInt (clI σ.2.2 σ.1.length σ.1.length j))))
    refine e1.trans (congrArg some (arrV_cong hc (funext fun j => ?_)))
    simp [clI, newarray.typeOf, defaultValue]
  · have hc : cA = dA 1 := Option.some.inj (hNm.symm.trans (hK.2 1 _ rfl).2)
    show H1[B + σ.1.length]? = some (arrV (dA 1) n.toNat (fun j => .long (Int64.ofInt (clI σ.2.2 σ.1.length σ.1.length j))))
    refine e1.trans (congrArg some (arrV_cong hc (funext fun j => ?_)))
    simp [clI, newarray.typeOf, defaultValue]
  · have hc : cA = dA 2 := Option.some.inj (hNm.symm.trans (hK.2 2 _ rfl).2)
    show H1[B + σ.1.length]? = some (arrV (dA 2) n.toNat (fun j => .int (Int32.ofInt (clI σ.2.2 σ.1.length σ.1.length j))))
    refine e1.trans (congrArg some (arrV_cong hc (funext fun j => ?_)))
    simp [clI, newarray.typeOf, defaultValue]
  · have hc : cA = dA 3 := Option.some.inj (hNm.symm.trans (hK.2 3 _ rfl).2)
    show H1[B + σ.1.length]? = some (arrV (dA 3) n.toNat (fun j => .int (Int32.ofInt (clI σ.2.2 σ.1.length σ.1.length j))))
    refine e1.trans (congrArg some (arrV_cong hc (funext fun j => ?_)))
    simp [clI, newarray.typeOf, defaultValue]
theorem J_anew {idx : Nat} {n : Int} (hd : decode M.2.1 pc = .ok (.anewarray idx, 3)) (hw : Cond.classLink M.1.cls idx RX8 ∈ GT) (h0 : 0 ≤ n) (hn : n ≤ 1000000)
    (kk : J X M d mc ms (pc + 3) ls (vR σ.1.length :: st) (σ.1 ++ [.inr (4, n.toNat)], clR σ.2.1 σ.1.length, clI σ.2.2 σ.1.length) Q) : J X M d (mc + 1) (ms + n.toNat) pc ls (vI n :: st) σ Q := by
  intro p l e R s m args below meth c D B b dA E C0 S0 Z cx hR he H locs cells slots lsC hH hS h1 h2 hl hol hos
  have hts := cx.2.2.2.2.1
  have hK := cx.2.2.2.2.2.1
  have hks := cx.2.2.2.2.2.2.2.2.1
  have hi : ii n := ok_h hos
  have hz0 : H.size = B + σ.1.length := hH.2.1
  have hcl := io_cl hi
  refine W.anew cx.1 cx.2.1 cx.2.2.2.1 (hts _ hw) (va_AO.use hks.2.2.2.1) rfl hd rfl (n := Int32.ofInt n) (by rw [← io_0, io_lt hi ii_0]; omega) (by rw [hcl]; omega) (by have := hR.2.2.1; omega) (by have := hR.2.2.2; rw [hcl]; omega) fun cA kA comp f1 f2 f3 f4 => ?_
  rw [hcl]
  generalize hH1 : H.push ({ cls := cA, slots := Array.replicate n.toNat .null, vm := .none } : Cell) = H1
  have z2 : H1.size = H.size + 1 := by rw [← hH1, Array.size_push]
  have e1 : H1[B + σ.1.length]? = some (arrV cA n.toNat (fun _ => .null)) := by rw [← hH1, ← hz0, Array.getElem?_push_size, ← arrV_new]
  have o2 : ∀ q : Nat, q < H.size → H1[q]? = H[q]? := fun q hq => by rw [← hH1, Array.getElem?_push, if_neg (Nat.ne_of_lt hq)]
  rw [hz0]
  refine kk p l e R s m args below meth c D B b dA E C0 S0 Z cx hR he H1 locs (cells + 1) (slots + n.toNat) lsC (HR_new hH z2 o2 ?_) (S_new hS z2 o2) (by omega) (by omega) hl hol (ok_c trivial (ok_t hos))
  obtain ⟨kA', comp', k1, k2, k3, k4⟩ := (hK.2 4 _ rfl).2
  have hc : cA = dA 4 := Option.some.inj (f1.symm.trans k4)
  show H1[B + σ.1.length]? = some (arrV (dA 4) n.toNat (fun j => va_rf ((clR σ.2.1 σ.1.length σ.1.length j).map (fun q => B + q))))
  refine e1.trans (congrArg some (arrV_cong hc (funext fun j => ?_)))
  simp [clR, va_rf]
theorem J_putR {idx j ci k v : Nat} {C : String} {T : u_T} {N : Nat} {ty : Nat → FieldType} (hd : decode M.2.1 pc = .ok (.putfield idx, 3)) (ck : CK ci C T N ty) (hw : Cond.fieldLink M.1.cls idx C (T j).2.1 (T j).2.2.1 ∈ GT) (hf : (fl ci)[j]? = some true) (hfin : (T j).2.2.2 = true) (hC0 : C = M.1.cls) (hnm0 : M.1.name = "<init>") (ht : (∃ n, ty j = .object n) ∨ ∃ t, ty j = .array t) (hs : σ.1[k]? = some (.inl ci)) (kk : J X M d mc ms (pc + 3) ls st (σ.1, upR σ.2.1 k j (some v), σ.2.2) Q) : J X M d mc ms pc ls (vR v :: vR k :: st) σ Q := by
  intro p l e R s m args below meth c D B b dA E C0 S0 Z cx hR he H locs cells slots lsC hH hS h1 h2 hl hol hos
  have hj := fl_get ck.2.1 hf
  have hK := cx.2.2.2.2.2.1
  have hts := cx.2.2.2.2.1
  obtain ⟨hC, hN, hin, hty, hnm, hown1⟩ := ck
  have hap := va_apart (own := M.1.cls) hts hin ty hty hnm hK hC
  obtain ⟨r, g1, cell, q1, q2, q3, q4⟩ := hH.1 k _ hs
  have hr : r = (C, T, N) := Option.some.inj (g1.symm.trans hC)
  subst hr
  obtain ⟨hSl, hfc, kC, hkC, hkind⟩ := hK.1 ci _ hC
  obtain ⟨cf, kf, fi, f, hi, hsl⟩ := hSl j hj
  have hlay := hts _ (hin _ (u_in_lay hj))
  unfold u_lay at hlay
  rw [if_pos hfin] at hlay
  have hst := (u_facts hfc hkC (u_lays hts hin hj) hi).1
  have hcf : m.cls = cf := by
    obtain ⟨_, _, c', _, _, _, -, -, hf', -, -, -, hown2, -⟩ := Cond.laysFinal_spec hlay
    have e1 : c' = cf := by have := hi.symm.trans hf'; simp at this; exact this.1.symm
    rw [hown1 j hj, hC0] at hown2
    rw [← e1]; exact Option.some.inj (cx.2.2.2.1.symm.trans hown2)
  have hnf : narrow (ty j) (.ref (B + v)) = .ref (B + v) ∧ fits (ty j) (.ref (B + v)) = true := by
    rcases ht with ⟨n, e⟩ | ⟨t, e⟩ <;> rw [e] <;> exact ⟨rfl, rfl⟩
  have h6 := u_fits hfc hkC hkind (Or.inr hlay) hi (hty j hj) hnf.1 hnf.2
  refine W.putFinK cx.1 cx.2.1 cx.2.2.2.1 (hts _ hw) (by rw [hown1 j hj] at hi; exact hi) hst hcf (by rw [cx.2.2.2.2.2.2.2.1]; exact hnm0) (by rw [q2]; exact h6) q1 q3 (by rw [hsl]; exact k2_hasslot (q4 j hj)) rfl rfl hd fun H' e1 e2 e3 => ?_
  rw [hsl] at e1 ⊢
  have hl5 : j < (fvs B σ.2.1 σ.2.2 k ci).length := by rw [fvs_len, hN]; exact hj
  refine kk p l e R s m args below meth c D B b dA E C0 S0 Z cx hR he H' _ cells slots lsC (HR_set (σ' := (σ.1, upR σ.2.1 k j (some v), σ.2.2)) hH rfl hs e2 e3 ?_ (fun k' hk' j' => by simp [upR, hk']) (fun _ _ _ => rfl) (hH.2.2 k _ hs)) (S_put hS e2 e3) h1 h2 hl hol (ok_t (ok_t hos))
  refine ⟨_, hC, ?_⟩
  have h7 := t_OB.to (V := updV (vp_V (fvs B σ.2.1 σ.2.2 k ci)) j (.ref (B + v))) ⟨_, e1, q2, q3, t_set q4 hap hj (.ref (B + v))⟩ (fun i _ => vp_updV_set hl5 (.ref (B + v)) i)
  rw [fvs_setR hf] at h7
  exact h7
theorem J_aast {i : Int} {k n v : Nat} (hd : decode M.2.1 pc = .ok (.aastore, 1)) (hs : σ.1[k]? = some (.inr (4, n))) (hsv : σ.1[v]? = some (.inl 8)) (h0 : 0 ≤ i) (hn : i < n) (kk : J X M d mc ms (pc + 1) ls st (σ.1, upR σ.2.1 k i.toNat (some v), σ.2.2) Q) : J X M d mc ms pc ls (vR v :: vI i :: vR k :: st) σ Q := by
  intro p l e R s m args below meth c D B b dA E C0 S0 Z cx hR he H locs cells slots lsC hH hS h1 h2 hl hol hos
  have hK := cx.2.2.2.2.2.1
  have hi : ii i := ok_h (ok_t hos)
  have hc : H[B + k]? = some (arrV (dA 4) n (fun j => va_rf ((σ.2.1 k j).map (fun q => B + q)))) := hH.1 k _ hs
  obtain ⟨r', hr', cellV, g1, g2, g3, -⟩ := hH.1 v _ hsv
  have hcls := (hK.1 8 (RX8, TX8, 8) rfl).2
  obtain ⟨kA, comp, k1, k2, k3, -⟩ := (hK.2 4 _ rfl).2
  have hcomp : comp = D.1 8 := Option.some.inj (k3.symm.trans hcls.1)
  subst hcomp
  obtain ⟨kC, hkC, -⟩ := hcls.2
  have hin := io_in hi h0 hn
  refine W.aast cx.1 cx.2.1 hc (fun q h => by cases h) (fun h => by cases h) k1 k2 rfl hkC ⟨fun q => hin (Or.inl q), by rw [arrV_size]; exact Nat.not_le.mp fun q => hin (Or.inr q)⟩ g1 (fun q h => by rw [g3] at h; cases h) (by rw [g2]; exact hkC) (by rw [g2]; exact va_assign hcls) rfl rfl hd fun H' e1 e2 e3 => ?_
  rw [io_cl hi] at e1 ⊢
  refine kk p l e R s m args below meth c D B b dA E C0 S0 Z cx hR he H' _ cells slots lsC (HR_set (σ' := (σ.1, upR σ.2.1 k i.toNat (some v), σ.2.2)) hH rfl hs e2 e3 ?_ (fun k' hk' j' => by simp [upR, hk']) (fun _ _ _ => rfl) (hH.2.2 k _ hs)) (S_put hS e2 e3) h1 h2 hl hol (ok_t (ok_t (ok_t hos)))
  show H'[B + k]? = some (arrV (dA 4) n (fun j => va_rf ((upR σ.2.1 k i.toNat (some v) k j).map (fun q => B + q))))
  rw [e1, arrV_store]
  refine congrArg some (arrV_cong rfl (funext fun j => ?_))
  by_cases hq : j = i.toNat
  · subst hq; simp [updV, upR, va_rf]
  · simp [updV, upR, hq]
def cpI (I : Nat → Nat → Int) (k0 sp k1 dp n : Nat) : Nat → Nat → Int := fun a j => if a = k1 ∧ dp ≤ j ∧ j < dp + n then I k0 (sp + (j - dp)) else I a j
theorem J_copy {idx k0 k1 n0 n1 : Nat} {sp dp n : Int} (hd : decode M.2.1 pc = .ok (.invokestatic idx, 3)) (hw1 : Cond.methodLink M.1.cls idx arraycopyName ∈ GT) (hw2 : Cond.native arraycopyName ∈ GT) (hw3 : Cond.static arraycopyName ∈ GT) (hw4 : Cond.initialized "java/lang/System" ∈ GT) (hs0 : σ.1[k0]? = some (.inr (0, n0))) (hs1 : σ.1[k1]? = some (.inr (0, n1))) (g1 : 0 ≤ sp) (g2 : 0 ≤ dp) (g3 : 0 ≤ n) (g4 : sp + n ≤ n0) (g5 : dp + n ≤ n1) (hrest : (st.map ct).sum ≤ 8)
    (kk : J X M (d + 1) mc ms (pc + 3) ls st (σ.1, σ.2.1, cpI σ.2.2 k0 sp.toNat k1 dp.toNat n.toNat) Q) : J X M (d + 1) mc ms pc ls (vI n :: vI dp :: vR k1 :: vI sp :: vR k0 :: st) σ Q := by
  intro p l e R s m args below meth c D B b dA E C0 S0 Z cx hR he H locs cells slots lsC hH hS h1 h2 hl hol hos
  have hts := cx.2.2.2.2.1
  have hK := cx.2.2.2.2.2.1
  have hin : ii n := ok_h hos
  have hidp : ii dp := ok_h (ok_t hos)
  have hisp : ii sp := ok_h (ok_t (ok_t (ok_t hos)))
  have cn := io_cl hin
  have cdp := io_cl hidp
  have csp := io_cl hisp
  have nn : ∀ z : Int, ii z → 0 ≤ z → ¬ Int32.ofInt z < 0 := fun z hz h0 q => by rw [← io_0, io_lt hz ii_0] at q; omega
  intro T hT XX
  have hc0 : H[B + k0]? = some (vp_cell (dA 0) (n0, .inl (fun i => Int32.ofInt (σ.2.2 k0 i)))) := hH.1 k0 _ hs0
  have hc1 : H[B + k1]? = some (vp_cell (dA 0) (n1, .inl (fun i => Int32.ofInt (σ.2.2 k1 i)))) := hH.1 k1 _ hs1
  obtain ⟨-, kc0, hk0, cm0, hkk0⟩ := (hK.2 0 _ rfl).1 n0 (fun j => .int (Int32.ofInt (σ.2.2 k0 j)))
  obtain ⟨-, kc1, hk1, cm1, hkk1⟩ := (hK.2 0 _ rfl).1 n1 (fun j => .int (Int32.ofInt (σ.2.2 k1 j)))
  obtain ⟨vm', X', step⟩ := XX.arraycopy cx.1 cx.2.2.2.1 (hts _ hw1) (hts _ hw2) (hts _ hw3) (hts _ hw4) (src := B + k0) (dst := B + k1) (cs := vp_cell (dA 0) (n0, .inl (fun i => Int32.ofInt (σ.2.2 k0 i)))) (cd := vp_cell (dA 0) (n1, .inl (fun i => Int32.ofInt (σ.2.2 k1 i)))) (srcPos := Int32.ofInt sp) (destPos := Int32.ofInt dp) (n := Int32.ofInt n) (by rw [hT]; exact hc0) (by rw [hT]; exact hc1)
    (fun _ h => by cases h) (fun _ h => by cases h) (fun h => by cases h) (fun h => by cases h) hk0 hk1 hkk0 hkk1 (by simp [refKind]) (nn sp hisp g1) (nn dp hidp g2) (nn n hin g3)
    (by rw [ii_ofI hisp, ii_ofI hin]; show ¬ _ > ((arrV (dA 0) n0 (fun j => .int (Int32.ofInt (σ.2.2 k0 j)))).slots.size : Int); rw [arrV_size]; omega)
    (by rw [ii_ofI hidp, ii_ofI hin]; show ¬ _ > ((arrV (dA 0) n1 (fun j => .int (Int32.ofInt (σ.2.2 k1 j)))).slots.size : Int); rw [arrV_size]; omega)
    (fun vm₁ _ i hi => by
      rw [cn] at hi
      have ev : (vp_cell (dA 0) (n0, .inl (fun i => Int32.ofInt (σ.2.2 k0 i)))).slots.getD ((Int32.ofInt sp).toNatClampNeg + i) .null = .int (Int32.ofInt (σ.2.2 k0 ((Int32.ofInt sp).toNatClampNeg + i))) := by
        show (arrV (dA 0) n0 (fun j => .int (Int32.ofInt (σ.2.2 k0 j)))).slots.getD _ _ = _
        rw [Array.getD_eq_getD_getElem?, arrV_read _ _ (by rw [csp]; omega)]
        rfl
      refine ⟨?_, ?_⟩
      · rw [ev]
        rfl
      · rw [ev]
        exact trivial)
    (g := F0 m pc lsC (.int (Int32.ofInt n) :: .int (Int32.ofInt dp) :: .ref (B + k1) :: .int (Int32.ofInt sp) :: .ref (B + k0) :: st.map (cv B b))) rfl (by rw [cx.2.2.1]; exact hl.1) (rest := st.map (cv B b)) rfl (by rw [cx.2.1]; exact hd) (by have := hR.1; omega) (by
      show 2 * 0 + ((st.map (cv B b)).map fun v => v.category).sum + (nativeFrameWords "java/lang/System" "arraycopy" 5 + 11) ≤ _
      rw [cat_sum]
      have h9 : nativeFrameWords "java/lang/System" "arraycopy" 5 ≤ 60 := by decide +kernel
      have := hR.2.1
      omega)
  have h4' : (Int32.ofInt sp).toNatClampNeg + (Int32.ofInt n).toNatClampNeg ≤ n0 := by rw [csp, cn]; omega
  have e1 : copied (vp_cell (dA 0) (n0, .inl (fun i => Int32.ofInt (σ.2.2 k0 i)))) (vp_cell (dA 0) (n1, .inl (fun i => Int32.ofInt (σ.2.2 k1 i)))) (Int32.ofInt sp) (Int32.ofInt dp) (Int32.ofInt n) = vp_cell (dA 0) (n1, .inl (va_cpy (fun i => Int32.ofInt (σ.2.2 k0 i)) (fun i => Int32.ofInt (σ.2.2 k1 i)) (Int32.ofInt sp).toNatClampNeg (Int32.ofInt dp).toNatClampNeg (Int32.ofInt n).toNatClampNeg)) := va_copied (fun z => .int z) (dA 0) (dA 0) (fun i => Int32.ofInt (σ.2.2 k0 i)) (fun i => Int32.ofInt (σ.2.2 k1 i)) h4'
  rw [e1] at X' step
  have hlt : B + k1 < H.size := (Array.getElem?_eq_some_iff.mp hc1).1
  have oq : ∀ (cell : Cell) (q : Nat), q ≠ B + k1 → (H.setIfInBounds (B + k1) cell)[q]? = H[q]? := fun cell q hq => by simp [Array.getElem?_setIfInBounds, Ne.symm hq]
  have hHn : HR D B dA (σ.1, σ.2.1, cpI σ.2.2 k0 sp.toNat k1 dp.toNat n.toNat) (H.setIfInBounds (B + k1) (vp_cell (dA 0) (n1, .inl (va_cpy (fun i => Int32.ofInt (σ.2.2 k0 i)) (fun i => Int32.ofInt (σ.2.2 k1 i)) (Int32.ofInt sp).toNatClampNeg (Int32.ofInt dp).toNatClampNeg (Int32.ofInt n).toNatClampNeg)))) := by
    refine HR_set (σ' := (σ.1, σ.2.1, cpI σ.2.2 k0 sp.toNat k1 dp.toNat n.toNat)) hH rfl hs1 (by simp) (oq _) ?_ (fun _ _ _ => rfl) (fun k' hk' j' => by simp [cpI, hk']) ?_
    · show (H.setIfInBounds (B + k1) _)[B + k1]? = some (arrV (dA 0) n1 (fun j => .int (Int32.ofInt (cpI σ.2.2 k0 sp.toNat k1 dp.toNat n.toNat k1 j))))
      rw [csp, cdp, cn]
      have e9 : (H.setIfInBounds (B + k1) (vp_cell (dA 0) (n1, .inl (va_cpy (fun i => Int32.ofInt (σ.2.2 k0 i)) (fun i => Int32.ofInt (σ.2.2 k1 i)) sp.toNat dp.toNat n.toNat))))[B + k1]? = some (arrV (dA 0) n1 (fun j => .int (va_cpy (fun i => Int32.ofInt (σ.2.2 k0 i)) (fun i => Int32.ofInt (σ.2.2 k1 i)) sp.toNat dp.toNat n.toNat j))) := by
        simp [Array.getElem?_setIfInBounds, hlt, vp_cell_i]
      rw [e9]
      refine congrArg some (arrV_cong rfl (funext fun j => ?_))
      unfold va_cpy cpI
      by_cases hj : dp.toNat ≤ j ∧ j < dp.toNat + n.toNat
      · rw [if_pos hj, if_pos ⟨rfl, hj⟩]
      · rw [if_neg hj, if_neg (fun q => hj q.2)]
    · intro j
      show ii (cpI σ.2.2 k0 sp.toNat k1 dp.toNat n.toNat k1 j)
      unfold cpI
      split
      · exact hH.2.2 k0 _ hs0 _
      · exact hH.2.2 k1 _ hs1 _
  obtain ⟨t, a1, b1⟩ := kk p l e R s m args below meth c D B b dA E C0 S0 Z cx hR he _ _ cells slots lsC hHn ⟨by simp; exact hS.1, fun q a1 a2 => by
      rw [oq _ q (fun e => a2 (by rw [e]; exact Nat.le_add_right _ _))]
      exact hS.2.1 q a1 a2, fun q hq => by
      rcases List.mem_append.mp hq with h | h
      · exact hS.2.2 q h
      · obtain ⟨z, -, hz⟩ := List.mem_map.mp h
        rw [← hz]
        exact Nat.le_add_right B k1⟩ h1 h2 hl hol (ok_t (ok_t (ok_t (ok_t (ok_t hos))))) _ (by rw [← hT]; rfl) X'
  exact ⟨t, step t a1, b1⟩
end JN
