abbrev AV : Type := Int ⊕ (Int ⊕ (Option Nat ⊕ Nat))
abbrev vI (x : Int) : AV := .inl x
abbrev vL (x : Int) : AV := .inr (.inl x)
abbrev vR (k : Nat) : AV := .inr (.inr (.inl (some k)))
abbrev vN : AV := .inr (.inr (.inl none))
abbrev vX : AV := .inr (.inr (.inr 0))
abbrev vS : AV := .inr (.inr (.inr 1))
abbrev vY : AV := .inr (.inr (.inr 2))
abbrev SH : Type := Nat ⊕ (Nat × Nat)
abbrev AH : Type := List SH × (Nat → Nat → Option Nat) × (Nat → Nat → Int)
def ii (x : Int) : Prop := -2147483648 ≤ x ∧ x ≤ 2147483647
def ll (x : Int) : Prop := -9223372036854775808 ≤ x ∧ x ≤ 9223372036854775807
def okv : AV → Prop
  | .inl x => ii x
  | .inr (.inl x) => ll x
  | _ => True
def cv (B : Nat) (b : Nat → Nat) : AV → Value
  | .inl x => .int (Int32.ofInt x)
  | .inr (.inl x) => .long (Int64.ofInt x)
  | .inr (.inr (.inl none)) => .null
  | .inr (.inr (.inl (some k))) => .ref (B + k)
  | .inr (.inr (.inr n)) => .ref (b n)
def ct : AV → Nat
  | .inr (.inl _) => 2
  | _ => 1
theorem cv_ct (B : Nat) (b : Nat → Nat) (v : AV) : (cv B b v).category = ct v := by
  rcases v with x | x | (_ | k) | _ <;> rfl
def wr (z : Int) : Int := if -2147483648 ≤ z ∧ z ≤ 2147483647 then z else (Int32.ofInt z).toInt
def wl (z : Int) : Int := if -9223372036854775808 ≤ z ∧ z ≤ 9223372036854775807 then z else (Int64.ofInt z).toInt
theorem ii_of (x : Int32) : ii x.toInt := by
  have h1 := Int32.le_toInt x
  have h2 := Int32.toInt_lt x
  unfold ii; omega
theorem ll_of (x : Int64) : ll x.toInt := by
  have h1 := Int64.le_toInt x
  have h2 := Int64.toInt_lt x
  unfold ll; omega
theorem ii_ofI {z : Int} (h : ii z) : (Int32.ofInt z).toInt = z := by
  unfold ii at h
  rw [Int32.toInt_ofInt]; show z.bmod (2 ^ 32) = z; rw [Int.bmod_eq_of_le (by omega) (by omega)]
theorem ll_ofI {z : Int} (h : ll z) : (Int64.ofInt z).toInt = z := by
  unfold ll at h
  rw [Int64.toInt_ofInt]; show z.bmod (2 ^ 64) = z; rw [Int.bmod_eq_of_le (by omega) (by omega)]
theorem wr_id {z : Int} (h1 : -2147483648 ≤ z) (h2 : z ≤ 2147483647) : wr z = z := by
  unfold wr; rw [if_pos ⟨h1, h2⟩]
theorem wl_id {z : Int} (h1 : -9223372036854775808 ≤ z) (h2 : z ≤ 9223372036854775807) : wl z = z := by
  unfold wl; rw [if_pos ⟨h1, h2⟩]
theorem wr_ii (z : Int) : ii (wr z) := by
  unfold wr; split
  · rename_i h; exact h
  · exact ii_of _
theorem wl_ll (z : Int) : ll (wl z) := by
  unfold wl; split
  · rename_i h; exact h
  · exact ll_of _
theorem wr_of (z : Int) : Int32.ofInt (wr z) = Int32.ofInt z := by
  unfold wr; split
  · rfl
  · exact Int32.ofInt_toInt _
theorem wl_of (z : Int) : Int64.ofInt (wl z) = Int64.ofInt z := by
  unfold wl; split
  · rfl
  · exact Int64.ofInt_toInt _
theorem io_eq {x y : Int} (hx : ii x) (hy : ii y) : Int32.ofInt x = Int32.ofInt y ↔ x = y := by
  constructor
  · intro h
    have := congrArg Int32.toInt h
    rwa [ii_ofI hx, ii_ofI hy] at this
  · rintro rfl; rfl
theorem io_lt {x y : Int} (hx : ii x) (hy : ii y) : Int32.ofInt x < Int32.ofInt y ↔ x < y := by
  rw [Int32.lt_iff_toInt_lt, ii_ofI hx, ii_ofI hy]
theorem io_le {x y : Int} (hx : ii x) (hy : ii y) : Int32.ofInt x ≤ Int32.ofInt y ↔ x ≤ y := by
  rw [Int32.le_iff_toInt_le, ii_ofI hx, ii_ofI hy]
theorem jo_lt {x y : Int} (hx : ll x) (hy : ll y) : Int64.ofInt x < Int64.ofInt y ↔ x < y := by
  rw [Int64.lt_iff_toInt_lt, ll_ofI hx, ll_ofI hy]
theorem jo_eq {x y : Int} (hx : ll x) (hy : ll y) : Int64.ofInt x = Int64.ofInt y ↔ x = y := by
  constructor
  · intro h
    have := congrArg Int64.toInt h
    rwa [ll_ofI hx, ll_ofI hy] at this
  · rintro rfl; rfl
theorem ii_0 : ii 0 := by unfold ii; omega
theorem io_0 : Int32.ofInt 0 = 0 := by decide
theorem io_in {i : Int} {n : Nat} (hi : ii i) (h0 : 0 ≤ i) (h1 : i < n) : vp_in (Int32.ofInt i) n := by
  rw [vp_in_iff, ii_ofI hi]; exact ⟨h0, h1⟩
theorem io_cl {i : Int} (hi : ii i) : (Int32.ofInt i).toNatClampNeg = i.toNat := by
  show (Int32.ofInt i).toInt.toNat = _
  rw [ii_ofI hi]
def tyl (dA : Nat → ClassId) : List (ClassId × FieldType) := [(dA 0, .int), (dA 1, .long), (dA 2, .boolean), (dA 3, .char), (dA 4, .object RX8)]
def rfv (B : Nat) (o : Option Nat) : Value := match o with
  | none => .null
  | some q => .ref (B + q)
def fV (B : Nat) (R : Nat → Nat → Option Nat) (I : Nat → Nat → Int) (k j : Nat) (r : Bool) : Value := if r then rfv B (R k j) else .int (Int32.ofInt (I k j))
def fvs (B : Nat) (R : Nat → Nat → Option Nat) (I : Nat → Nat → Int) (k ci : Nat) : List Value := (fl ci).mapIdx (fun j r => fV B R I k j r)
def enc (B : Nat) (dA : Nat → ClassId) (R : Nat → Nat → Option Nat) (I : Nat → Nat → Int) (k : Nat) (sh : SH) : va_E := match sh with
  | .inl ci => .inr (ci, fvs B R I k ci)
  | .inr (1, n) => .inl (dA 1, n, .inr (.inl (fun i => Int64.ofInt (I k i))))
  | .inr (4, n) => .inl (dA 4, n, .inr (.inr (.inr (.inr (fun i => (R k i).map (fun q => B + q))))))
  | .inr (t, n) => .inl (dA t, n, .inl (fun i => Int32.ofInt (I k i)))
def shr (sh : SH) (x : Int) : Prop := match sh with
  | .inr (1, _) => ll x
  | _ => ii x
def HR (D : va_G) (B : Nat) (dA : Nat → ClassId) (σ : AH) (H : Heap) : Prop :=
  (∀ (k : Nat) (sh : SH), σ.1[k]? = some sh → va_at D vwCl (B + k, enc B dA σ.2.1 σ.2.2 k sh) H) ∧ H.size = B + σ.1.length ∧ ∀ (k : Nat) (sh : SH), σ.1[k]? = some sh → ∀ j : Nat, shr sh (σ.2.2 k j)
def ownT : String := "corner  parish  lane    long    walls   saint   at      pace    loud    petals  balcony from    to      worth   but     rain    or      and     not     all     minute  sort    far     first   second  min     max     "
def ownB : List Int32 := [99, 111, 114, 110, 101, 114, 32, 32, 112, 97, 114, 105, 115, 104, 32, 32, 108, 97, 110, 101, 32, 32, 32, 32, 108, 111, 110, 103, 32, 32, 32, 32, 119, 97, 108, 108, 115, 32, 32, 32, 115, 97, 105, 110, 116, 32, 32, 32, 97, 116, 32, 32, 32, 32, 32, 32, 112, 97, 99, 101, 32, 32, 32, 32, 108, 111, 117, 100, 32, 32, 32, 32, 112, 101, 116, 97, 108, 115, 32, 32, 98, 97, 108, 99, 111, 110, 121, 32, 102, 114, 111, 109, 32, 32, 32, 32, 116, 111, 32, 32, 32, 32, 32, 32, 119, 111, 114, 116, 104, 32, 32, 32, 98, 117, 116, 32, 32, 32, 32, 32, 114, 97, 105, 110, 32, 32, 32, 32, 111, 114, 32, 32, 32, 32, 32, 32, 97, 110, 100, 32, 32, 32, 32, 32, 110, 111, 116, 32, 32, 32, 32, 32, 97, 108, 108, 32, 32, 32, 32, 32, 109, 105, 110, 117, 116, 101, 32, 32, 115, 111, 114, 116, 32, 32, 32, 32, 102, 97, 114, 32, 32, 32, 32, 32, 102, 105, 114, 115, 116, 32, 32, 32, 115, 101, 99, 111, 110, 100, 32, 32, 109, 105, 110, 32, 32, 32, 32, 32, 109, 97, 120, 32, 32, 32, 32, 32]
def KS (B : Nat) (b : Nat → Nat) (U : State) : Prop :=
  vk_R RX7 68 ownT (b 1) U ∧ vk_S 1 [216] [ownB] (fun _ => b 1) (fun _ => b 2) (fun q => B ≤ q) U U.heap ∧ (va_Z "java/lang/String" "COMPACT_STRINGS" "Z" (.int 1) (fun q => B ≤ q) U U.heap ∧ (va_Z "jdk/internal/util/Preconditions" "SIOOBE_FORMATTER" "Ljava/util/function/BiFunction;" .null (fun q => B ≤ q) U U.heap ∨ va_Z "jdk/internal/util/Preconditions" "SIOOBE_FORMATTER" "Ljava/util/function/BiFunction;" (.ref (b 3)) (fun q => B ≤ q) U U.heap)) ∧ va_AO RX8 U ∧ va_Nw (.methodLinkNest RX10 9 yX0_init RX10) U ∧ va_Nw (.methodLinkNest RX5 140 yX10_pairOf RX10) U ∧ va_Nw (.methodLinkNest RX1 73 yX10_pairOf RX10) U
def Cx (X : Option (Nat × (Nat → Int32))) (M : MD) (p : Program) (s : State) (m : MethodId) (args : Array Value) (meth : Method) (c : Code) (D : va_G) (B : Nat) (b : Nat → Nat) (dA : Nat → ClassId) (E : Nat → Nat) : Prop :=
  p.tables.exec = Jvm.exec ∧ c.code = M.2.1 ∧ c.maxLocals = M.2.2.1 ∧ s.vm.findClass M.1.cls = some m.cls ∧ (∀ w ∈ GT, w.before args s = true) ∧ va_K D vwCl (tyl dA) s ∧ B ≤ s.heap.size ∧ meth.name = M.1.name ∧ KS B b s ∧ (match X with
  | none => True
  | some q => va_X (b 0) q.1 q.2 s s.heap ∧ b 0 < s.heap.size ∧ b 0 < B)
def retI (r : Option AV) : Instr := match r with
  | none => .return_
  | some (.inl _) => .ireturn
  | some (.inr (.inl _)) => .lreturn
  | some (.inr (.inr _)) => .areturn
def okr (t : Option FieldType) (r : Option AV) : Prop := match t, r with
  | none, none => True
  | some .int, some (.inl x) => ii x
  | some .boolean, some (.inl x) => x = 0 ∨ x = 1
  | some .char, some (.inl x) => 0 ≤ x ∧ x ≤ 65535
  | some .long, some (.inr (.inl x)) => ll x
  | some (.object _), some (.inr (.inr (.inl (some _)))) => True
  | _, _ => False
def Hend (M : MD) (p : Program) (l : Launch) (e : Env) (R : Room) (s : State) (m : MethodId) (args : Array Value) (below : List Frame) (meth : Method) (c : Code) (D : va_G) (B : Nat) (b : Nat → Nat) (dA : Nat → ClassId) (C0 S0 : Nat) (Q : Option AV → AH → Prop) (Z : State → Prop) : Prop :=
  ∀ (H : Heap) (locs : List Loc) (cells slots pc : Nat) (lsC : Array Slot) (r : Option AV) (σ : AH), HR D B dA σ H → va_S (fun q => B ≤ q) s.heap H locs → cells ≤ C0 → slots ≤ S0 → okr M.2.2.2 r → Q r σ → decode M.2.1 pc = .ok (retI r, 1) →
    W p l e R s m args below meth c H locs cells slots Z (F0 m pc lsC ((r.map (cv B b)).toList))
def J (X : Option (Nat × (Nat → Int32))) (M : MD) (d mc ms pc : Nat) (ls : List (Nat × AV)) (st : List AV) (σ : AH) (Q : Option AV → AH → Prop) : Prop :=
  ∀ (p : Program) (l : Launch) (e : Env) (R : Room) (s : State) (m : MethodId) (args : Array Value) (below : List Frame) (meth : Method) (c : Code) (D : va_G) (B : Nat) (b : Nat → Nat) (dA : Nat → ClassId) (E : Nat → Nat) (C0 S0 : Nat) (Z : State → Prop),
    Cx X M p s m args meth c D B b dA E → (d ≤ R.frames ∧ 100 * d ≤ R.locals ∧ C0 ≤ R.cells ∧ S0 ≤ R.slots) → Hend M p l e R s m args below meth c D B b dA C0 S0 Q Z →
    ∀ (H : Heap) (locs : List Loc) (cells slots : Nat) (lsC : Array Slot), HR D B dA σ H → va_S (fun q => B ≤ q) s.heap H locs → cells + mc ≤ C0 → slots + ms ≤ S0 → lv_has lsC M.2.2.1 (ls.map (fun q => (q.1, cv B b q.2))) → (∀ q ∈ ls, okv q.2) → (∀ v ∈ st, okv v) →
      W p l e R s m args below meth c H locs cells slots Z (F0 m pc lsC (st.map (cv B b)))
section JJ
variable {X : Option (Nat × (Nat → Int32))} {M : MD} {d mc ms pc : Nat} {ls : List (Nat × AV)} {st : List AV} {σ : AH} {Q : Option AV → AH → Prop}
theorem J_q {pc' : Nat} {st' : List AV} (k : J X M d mc ms pc' ls st' σ Q)
    (h : ∀ {p : Program} {l : Launch} {e : Env} {R : Room} {s : State} {m : MethodId} {args : Array Value} {below : List Frame} {meth : Method} {c : Code} {H : Heap} {locs : List Loc} {cells slots : Nat} {Z : State → Prop} {lsC : Array Slot} (B : Nat) (b : Nat → Nat), p.tables.exec = Jvm.exec → c.code = M.2.1 → s.vm.findClass M.1.cls = some m.cls → (∀ w ∈ GT, w.before args s = true) → (∀ v ∈ st, okv v) → W p l e R s m args below meth c H locs cells slots Z (F0 m pc' lsC (st'.map (cv B b))) → W p l e R s m args below meth c H locs cells slots Z (F0 m pc lsC (st.map (cv B b))))
    (ho : (∀ v ∈ st, okv v) → ∀ v ∈ st', okv v) : J X M d mc ms pc ls st σ Q := by
  intro p l e R s m args below meth c D B b dA E C0 S0 Z cx hR he H locs cells slots lsC hH hS h1 h2 hl hol hos
  exact h B b cx.1 cx.2.1 cx.2.2.2.1 cx.2.2.2.2.1 hos (k p l e R s m args below meth c D B b dA E C0 S0 Z cx hR he H locs cells slots lsC hH hS h1 h2 hl hol (ho hos))
theorem ok_c {v : AV} {st : List AV} (hv : okv v) (h : ∀ w ∈ st, okv w) : ∀ w ∈ v :: st, okv w := List.forall_mem_cons.mpr ⟨hv, h⟩
theorem ok_t {v : AV} {st : List AV} (h : ∀ w ∈ v :: st, okv w) : ∀ w ∈ st, okv w := (List.forall_mem_cons.mp h).2
theorem ok_h {v : AV} {st : List AV} (h : ∀ w ∈ v :: st, okv w) : okv v := (List.forall_mem_cons.mp h).1
theorem ok_ci {x : Int} {st : List AV} (hv : ii x) (h : ∀ w ∈ st, okv w) : ∀ w ∈ vI x :: st, okv w := ok_c hv h
theorem ok_cl {x : Int} {st : List AV} (hv : ll x) (h : ∀ w ∈ st, okv w) : ∀ w ∈ vL x :: st, okv w := ok_c hv h
theorem J_iconst {n : Int} (hd : decode M.2.1 pc = .ok (.iconst n, 1)) (hn : ii n) (k : J X M d mc ms (pc + 1) ls (vI n :: st) σ Q) : J X M d mc ms pc ls st σ Q :=
  J_q k (fun B b hx hb _ _ _ kk => lv_iconst hx hb hd rfl kk) (fun h => ok_ci hn h)
theorem J_bipush {n : Int} (hd : decode M.2.1 pc = .ok (.bipush n, 2)) (hn : ii n) (he : (Int8.ofInt n).toInt32 = Int32.ofInt n) (k : J X M d mc ms (pc + 2) ls (vI n :: st) σ Q) : J X M d mc ms pc ls st σ Q :=
  J_q k (fun B b hx hb _ _ _ kk => lv_bipush hx hb hd he kk) (fun h => ok_ci hn h)
theorem J_sipush {n : Int} (hd : decode M.2.1 pc = .ok (.sipush n, 3)) (hn : ii n) (he : (Int16.ofInt n).toInt32 = Int32.ofInt n) (k : J X M d mc ms (pc + 3) ls (vI n :: st) σ Q) : J X M d mc ms pc ls st σ Q :=
  J_q k (fun B b hx hb _ _ _ kk => lv_sipush hx hb hd he kk) (fun h => ok_ci hn h)
theorem J_lconst {n : Fin 2} (z : Int) (hd : decode M.2.1 pc = .ok (.lconst n, 1)) (hz : ll z) (he : Int64.ofNat (n : Nat) = Int64.ofInt z) (k : J X M d mc ms (pc + 1) ls (vL z :: st) σ Q) : J X M d mc ms pc ls st σ Q :=
  J_q k (fun B b hx hb _ _ _ kk => lv_lconst hx hb hd he kk) (fun h => ok_cl hz h)
theorem J_ldc {i : Nat} (z : Int) (hd : decode M.2.1 pc = .ok (.ldc i, 2)) (hw : Cond.constant M.1.cls i (Int32.ofInt z) ∈ GT) (hz : ii z) (k : J X M d mc ms (pc + 2) ls (vI z :: st) σ Q) : J X M d mc ms pc ls st σ Q :=
  J_q k (fun B b hx hb ho ht _ kk => lv_ldc hx hb ho (ht _ hw) hd kk) (fun h => ok_ci hz h)
theorem J_ldcw {i : Nat} (z : Int) (hd : decode M.2.1 pc = .ok (.ldc_w i, 3)) (hw : Cond.constant M.1.cls i (Int32.ofInt z) ∈ GT) (hz : ii z) (k : J X M d mc ms (pc + 3) ls (vI z :: st) σ Q) : J X M d mc ms pc ls st σ Q :=
  J_q k (fun B b hx hb ho ht _ kk => lv_ldcw hx hb ho (ht _ hw) hd kk) (fun h => ok_ci hz h)
theorem J_ldc2 {i : Nat} (z : Int) (hd : decode M.2.1 pc = .ok (.ldc2_w i, 3)) (hw : Cond.constantLong M.1.cls i (Int64.ofInt z) ∈ GT) (hz : ll z) (k : J X M d mc ms (pc + 3) ls (vL z :: st) σ Q) : J X M d mc ms pc ls st σ Q :=
  J_q k (fun B b hx hb ho ht _ kk => lv_ldc2 hx hb ho (ht _ hw) hd kk) (fun h => ok_cl hz h)
theorem J_iadd {x y : Int} (hd : decode M.2.1 pc = .ok (.iadd, 1)) (k : J X M d mc ms (pc + 1) ls (vI (wr (x + y)) :: st) σ Q) : J X M d mc ms pc ls (vI y :: vI x :: st) σ Q :=
  J_q k (fun B b hx hb _ _ _ kk => lv_iadd hx hb hd (by simpa [cv, wr_of, Int32.ofInt_add] using kk)) (fun h => ok_ci (wr_ii _) (ok_t (ok_t h)))
theorem J_isub {x y : Int} (hd : decode M.2.1 pc = .ok (.isub, 1)) (k : J X M d mc ms (pc + 1) ls (vI (wr (x - y)) :: st) σ Q) : J X M d mc ms pc ls (vI y :: vI x :: st) σ Q :=
  J_q k (fun B b hx hb _ _ _ kk => lv_isub hx hb hd (by simpa [cv, wr_of, Int32.ofInt_sub] using kk)) (fun h => ok_ci (wr_ii _) (ok_t (ok_t h)))
theorem J_imul {x y : Int} (hd : decode M.2.1 pc = .ok (.imul, 1)) (k : J X M d mc ms (pc + 1) ls (vI (wr (x * y)) :: st) σ Q) : J X M d mc ms pc ls (vI y :: vI x :: st) σ Q :=
  J_q k (fun B b hx hb _ _ _ kk => lv_imul hx hb hd (by simpa [cv, wr_of, Int32.ofInt_mul] using kk)) (fun h => ok_ci (wr_ii _) (ok_t (ok_t h)))
theorem J_ladd {x y : Int} (hd : decode M.2.1 pc = .ok (.ladd, 1)) (k : J X M d mc ms (pc + 1) ls (vL (wl (x + y)) :: st) σ Q) : J X M d mc ms pc ls (vL y :: vL x :: st) σ Q :=
  J_q k (fun B b hx hb _ _ _ kk => lv_ladd hx hb hd (by simpa [cv, wl_of, Int64.ofInt_add] using kk)) (fun h => ok_cl (wl_ll _) (ok_t (ok_t h)))
theorem J_lsub {x y : Int} (hd : decode M.2.1 pc = .ok (.lsub, 1)) (k : J X M d mc ms (pc + 1) ls (vL (wl (x - y)) :: st) σ Q) : J X M d mc ms pc ls (vL y :: vL x :: st) σ Q :=
  J_q k (fun B b hx hb _ _ _ kk => lv_lsub hx hb hd (by simpa [cv, wl_of, Int64.ofInt_sub] using kk)) (fun h => ok_cl (wl_ll _) (ok_t (ok_t h)))
theorem J_lmul {x y : Int} (hd : decode M.2.1 pc = .ok (.lmul, 1)) (k : J X M d mc ms (pc + 1) ls (vL (wl (x * y)) :: st) σ Q) : J X M d mc ms pc ls (vL y :: vL x :: st) σ Q :=
  J_q k (fun B b hx hb _ _ _ kk => lv_lmul hx hb hd (by simpa [cv, wl_of, Int64.ofInt_mul] using kk)) (fun h => ok_cl (wl_ll _) (ok_t (ok_t h)))
def oA (x y : Int) : Int := (Int32.ofInt x &&& Int32.ofInt y).toInt
def oO (x y : Int) : Int := (Int32.ofInt x ||| Int32.ofInt y).toInt
def oX (x y : Int) : Int := (Int32.ofInt x ^^^ Int32.ofInt y).toInt
def oSl (x y : Int) : Int := (Int32.ofInt x <<< (Int32.ofInt y &&& 31)).toInt
def oSr (x y : Int) : Int := (Int32.ofInt x >>> (Int32.ofInt y &&& 31)).toInt
def oUr (x y : Int) : Int := ((Int32.ofInt x).toUInt32 >>> ((Int32.ofInt y).toUInt32 &&& Int32.toUInt32 31)).toInt32.toInt
def lA (x y : Int) : Int := (Int64.ofInt x &&& Int64.ofInt y).toInt
def lO (x y : Int) : Int := (Int64.ofInt x ||| Int64.ofInt y).toInt
def lX (x y : Int) : Int := (Int64.ofInt x ^^^ Int64.ofInt y).toInt
def lSl (x y : Int) : Int := (Int64.ofInt x <<< ((Int32.ofInt y).toInt64 &&& 63)).toInt
def lUr (x y : Int) : Int := ((Int64.ofInt x).toUInt64 >>> ((Int32.ofInt y).toInt64.toUInt64 &&& Int64.toUInt64 63)).toInt64.toInt
theorem J_iand {x y : Int} (hd : decode M.2.1 pc = .ok (.iand, 1)) (k : J X M d mc ms (pc + 1) ls (vI (oA x y) :: st) σ Q) : J X M d mc ms pc ls (vI y :: vI x :: st) σ Q :=
  J_q k (fun B b hx hb _ _ _ kk => lv_iand hx hb hd (by simpa [cv, oA, Int32.ofInt_toInt] using kk)) (fun h => ok_ci (ii_of _) (ok_t (ok_t h)))
theorem J_ior {x y : Int} (hd : decode M.2.1 pc = .ok (.ior, 1)) (k : J X M d mc ms (pc + 1) ls (vI (oO x y) :: st) σ Q) : J X M d mc ms pc ls (vI y :: vI x :: st) σ Q :=
  J_q k (fun B b hx hb _ _ _ kk => lv_ior hx hb hd (by simpa [cv, oO, Int32.ofInt_toInt] using kk)) (fun h => ok_ci (ii_of _) (ok_t (ok_t h)))
theorem J_ixor {x y : Int} (hd : decode M.2.1 pc = .ok (.ixor, 1)) (k : J X M d mc ms (pc + 1) ls (vI (oX x y) :: st) σ Q) : J X M d mc ms pc ls (vI y :: vI x :: st) σ Q :=
  J_q k (fun B b hx hb _ _ _ kk => lv_ixor hx hb hd (by simpa [cv, oX, Int32.ofInt_toInt] using kk)) (fun h => ok_ci (ii_of _) (ok_t (ok_t h)))
theorem J_ishl {x y : Int} (hd : decode M.2.1 pc = .ok (.ishl, 1)) (k : J X M d mc ms (pc + 1) ls (vI (oSl x y) :: st) σ Q) : J X M d mc ms pc ls (vI y :: vI x :: st) σ Q :=
  J_q k (fun B b hx hb _ _ _ kk => lv_ishl hx hb hd (by simpa [cv, oSl, Int32.ofInt_toInt] using kk)) (fun h => ok_ci (ii_of _) (ok_t (ok_t h)))
theorem J_ishr {x y : Int} (hd : decode M.2.1 pc = .ok (.ishr, 1)) (k : J X M d mc ms (pc + 1) ls (vI (oSr x y) :: st) σ Q) : J X M d mc ms pc ls (vI y :: vI x :: st) σ Q :=
  J_q k (fun B b hx hb _ _ _ kk => lv_ishr hx hb hd (by simpa [cv, oSr, Int32.ofInt_toInt] using kk)) (fun h => ok_ci (ii_of _) (ok_t (ok_t h)))
theorem J_iushr {x y : Int} (hd : decode M.2.1 pc = .ok (.iushr, 1)) (k : J X M d mc ms (pc + 1) ls (vI (oUr x y) :: st) σ Q) : J X M d mc ms pc ls (vI y :: vI x :: st) σ Q :=
  J_q k (fun B b hx hb _ _ _ kk => lv_iushr (v := _) hx hb hd (Int32.ofInt_toInt _).symm kk) (fun h => ok_ci (ii_of _) (ok_t (ok_t h)))
theorem J_land {x y : Int} (hd : decode M.2.1 pc = .ok (.land, 1)) (k : J X M d mc ms (pc + 1) ls (vL (lA x y) :: st) σ Q) : J X M d mc ms pc ls (vL y :: vL x :: st) σ Q :=
  J_q k (fun B b hx hb _ _ _ kk => lv_land hx hb hd (by simpa [cv, lA, Int64.ofInt_toInt] using kk)) (fun h => ok_cl (ll_of _) (ok_t (ok_t h)))
theorem J_lor {x y : Int} (hd : decode M.2.1 pc = .ok (.lor, 1)) (k : J X M d mc ms (pc + 1) ls (vL (lO x y) :: st) σ Q) : J X M d mc ms pc ls (vL y :: vL x :: st) σ Q :=
  J_q k (fun B b hx hb _ _ _ kk => lv_lor hx hb hd (by simpa [cv, lO, Int64.ofInt_toInt] using kk)) (fun h => ok_cl (ll_of _) (ok_t (ok_t h)))
theorem J_lxor {x y : Int} (hd : decode M.2.1 pc = .ok (.lxor, 1)) (k : J X M d mc ms (pc + 1) ls (vL (lX x y) :: st) σ Q) : J X M d mc ms pc ls (vL y :: vL x :: st) σ Q :=
  J_q k (fun B b hx hb _ _ _ kk => lv_lxor hx hb hd (by simpa [cv, lX, Int64.ofInt_toInt] using kk)) (fun h => ok_cl (ll_of _) (ok_t (ok_t h)))
theorem J_lshl {x y : Int} (hd : decode M.2.1 pc = .ok (.lshl, 1)) (k : J X M d mc ms (pc + 1) ls (vL (lSl x y) :: st) σ Q) : J X M d mc ms pc ls (vI y :: vL x :: st) σ Q :=
  J_q k (fun B b hx hb _ _ _ kk => lv_lshl hx hb hd (Int64.ofInt_toInt _).symm kk) (fun h => ok_cl (ll_of _) (ok_t (ok_t h)))
theorem J_lushr {x y : Int} (hd : decode M.2.1 pc = .ok (.lushr, 1)) (k : J X M d mc ms (pc + 1) ls (vL (lUr x y) :: st) σ Q) : J X M d mc ms pc ls (vI y :: vL x :: st) σ Q :=
  J_q k (fun B b hx hb _ _ _ kk => lv_lushr hx hb hd (Int64.ofInt_toInt _).symm kk) (fun h => ok_cl (ll_of _) (ok_t (ok_t h)))
end JJ
