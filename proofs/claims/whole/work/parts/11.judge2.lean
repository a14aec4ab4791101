section JK
variable {X : Option (Nat × (Nat → Int32))} {M : MD} {d mc ms pc : Nat} {ls : List (Nat × AV)} {st : List AV} {σ : AH} {Q : Option AV → AH → Prop}
def oD (x y : Int) : Int := (Int32.ofInt x / Int32.ofInt y).toInt
def oM (x y : Int) : Int := (Int32.ofInt x - Int32.ofInt x / Int32.ofInt y * Int32.ofInt y).toInt
def lD (x y : Int) : Int := (Int64.ofInt x / Int64.ofInt y).toInt
def lM (x y : Int) : Int := (Int64.ofInt x - Int64.ofInt x / Int64.ofInt y * Int64.ofInt y).toInt
def lC (x y : Int) : Int := if y < x then 1 else if x = y then 0 else -1
def l2 (x : Int) : Int := (Int64.ofInt x).toInt32.toInt
theorem nz_i {y : Int} (hy : ii y) (h : y ≠ 0) : ¬ Int32.ofInt y = 0 := fun e => h ((io_eq hy ii_0).mp (e.trans io_0.symm))
theorem ll_0 : ll 0 := by unfold ll; omega
theorem jo_0 : Int64.ofInt 0 = 0 := by decide
theorem nz_l {y : Int} (hy : ll y) (h : y ≠ 0) : ¬ Int64.ofInt y = 0 := fun e => h ((jo_eq hy ll_0).mp (e.trans jo_0.symm))
theorem lC_ii (x y : Int) : ii (lC x y) := by
  unfold lC ii; split
  · omega
  · split <;> omega
theorem lC_of {x y : Int} (hx : ll x) (hy : ll y) : lg_cmp (Int64.ofInt x) (Int64.ofInt y) = Int32.ofInt (lC x y) := by
  unfold lg_cmp lC
  simp only [gt_iff_lt, jo_lt hy hx, jo_eq hx hy]
  split
  · rfl
  · split <;> rfl
theorem i2_of {x : Int} (hx : ii x) : (Int32.ofInt x).toInt64 = Int64.ofInt x := by
  apply Int64.toInt_inj.mp
  rw [Int32.toInt_toInt64, ii_ofI hx, ll_ofI]
  unfold ii at hx; unfold ll; omega
theorem ii_ll {x : Int} (hx : ii x) : ll x := by unfold ii at hx; unfold ll; omega
theorem J_idiv {x y : Int} (hd : decode M.2.1 pc = .ok (.idiv, 1)) (h0 : y ≠ 0) (k : J X M d mc ms (pc + 1) ls (vI (oD x y) :: st) σ Q) : J X M d mc ms pc ls (vI y :: vI x :: st) σ Q :=
  J_q k (fun B b hx hb _ _ ho kk => lv_idiv hx hb hd (nz_i (ok_h ho) h0) (by simpa only [cv, oD, Int32.ofInt_toInt, List.map] using kk)) (fun h => ok_ci (ii_of _) (ok_t (ok_t h)))
theorem J_irem {x y : Int} (hd : decode M.2.1 pc = .ok (.irem, 1)) (h0 : y ≠ 0) (k : J X M d mc ms (pc + 1) ls (vI (oM x y) :: st) σ Q) : J X M d mc ms pc ls (vI y :: vI x :: st) σ Q :=
  J_q k (fun B b hx hb _ _ ho kk => lv_irem hx hb hd (nz_i (ok_h ho) h0) (by simpa only [cv, oM, Int32.ofInt_toInt, List.map] using kk)) (fun h => ok_ci (ii_of _) (ok_t (ok_t h)))
theorem J_ldiv {x y : Int} (hd : decode M.2.1 pc = .ok (.ldiv, 1)) (h0 : y ≠ 0) (k : J X M d mc ms (pc + 1) ls (vL (lD x y) :: st) σ Q) : J X M d mc ms pc ls (vL y :: vL x :: st) σ Q :=
  J_q k (fun B b hx hb _ _ ho kk => lv_ldiv hx hb hd (nz_l (ok_h ho) h0) (by simpa only [cv, lD, Int64.ofInt_toInt, List.map] using kk)) (fun h => ok_cl (ll_of _) (ok_t (ok_t h)))
theorem J_lrem {x y : Int} (hd : decode M.2.1 pc = .ok (.lrem, 1)) (h0 : y ≠ 0) (k : J X M d mc ms (pc + 1) ls (vL (lM x y) :: st) σ Q) : J X M d mc ms pc ls (vL y :: vL x :: st) σ Q :=
  J_q k (fun B b hx hb _ _ ho kk => lv_lrem hx hb hd (nz_l (ok_h ho) h0) (by simpa only [cv, lM, Int64.ofInt_toInt, List.map] using kk)) (fun h => ok_cl (ll_of _) (ok_t (ok_t h)))
theorem J_lcmp {x y : Int} (hd : decode M.2.1 pc = .ok (.lcmp, 1)) (k : J X M d mc ms (pc + 1) ls (vI (lC x y) :: st) σ Q) : J X M d mc ms pc ls (vL y :: vL x :: st) σ Q :=
  J_q k (fun B b hx hb _ _ ho kk => W.lcmp hx hb hd (by rw [lC_of (ok_h (ok_t ho)) (ok_h ho)]; exact kk)) (fun h => ok_ci (lC_ii _ _) (ok_t (ok_t h)))
theorem J_i2l {x : Int} (hd : decode M.2.1 pc = .ok (.i2l, 1)) (k : J X M d mc ms (pc + 1) ls (vL x :: st) σ Q) : J X M d mc ms pc ls (vI x :: st) σ Q :=
  J_q k (fun B b hx hb _ _ ho kk => lv_i2l hx hb hd (i2_of (ok_h ho)) kk) (fun h => ok_cl (ii_ll (ok_h h)) (ok_t h))
theorem J_l2i {x : Int} (hd : decode M.2.1 pc = .ok (.l2i, 1)) (k : J X M d mc ms (pc + 1) ls (vI (l2 x) :: st) σ Q) : J X M d mc ms pc ls (vL x :: st) σ Q :=
  J_q k (fun B b hx hb _ _ ho kk => lv_l2i hx hb hd (Int32.ofInt_toInt _).symm kk) (fun h => ok_ci (ii_of _) (ok_t h))
theorem J_dup {v : AV} (hd : decode M.2.1 pc = .ok (.dup, 1)) (h1 : ct v = 1) (k : J X M d mc ms (pc + 1) ls (v :: v :: st) σ Q) : J X M d mc ms pc ls (v :: st) σ Q :=
  J_q k (fun B b hx hb _ _ ho kk => lv_dup hx hb hd ((cv_ct B b v).trans h1) kk) (fun h => ok_c (ok_h h) h)
theorem J_pop {v : AV} (hd : decode M.2.1 pc = .ok (.pop, 1)) (h1 : ct v = 1) (k : J X M d mc ms (pc + 1) ls st σ Q) : J X M d mc ms pc ls (v :: st) σ Q :=
  J_q k (fun B b hx hb _ _ ho kk => lv_pop hx hb hd ((cv_ct B b v).trans h1) kk) (fun h => ok_t h)
theorem J_dup_x1 {v w : AV} (hd : decode M.2.1 pc = .ok (.dup_x1, 1)) (h1 : ct v = 1) (h2 : ct w = 1) (k : J X M d mc ms (pc + 1) ls (v :: w :: v :: st) σ Q) : J X M d mc ms pc ls (v :: w :: st) σ Q :=
  J_q k (fun B b hx hb _ _ ho kk => lv_dup_x1 hx hb hd ((cv_ct B b v).trans h1) ((cv_ct B b w).trans h2) kk) (fun h => ok_c (ok_h h) (ok_c (ok_h (ok_t h)) (ok_c (ok_h h) (ok_t (ok_t h)))))
theorem J_dup_x2 {v w u : AV} (hd : decode M.2.1 pc = .ok (.dup_x2, 1)) (h1 : ct v = 1) (h2 : ct w = 1) (h3 : ct u = 1) (k : J X M d mc ms (pc + 1) ls (v :: w :: u :: v :: st) σ Q) : J X M d mc ms pc ls (v :: w :: u :: st) σ Q :=
  J_q k (fun B b hx hb _ _ ho kk => lv_dup_x2 hx hb hd ((cv_ct B b v).trans h1) ((cv_ct B b w).trans h2) ((cv_ct B b u).trans h3) kk) (fun h => ok_c (ok_h h) (ok_c (ok_h (ok_t h)) (ok_c (ok_h (ok_t (ok_t h))) (ok_c (ok_h h) (ok_t (ok_t (ok_t h)))))))
theorem J_dup2 {v w : AV} (hd : decode M.2.1 pc = .ok (.dup2, 1)) (h1 : ct v = 1) (h2 : ct w = 1) (k : J X M d mc ms (pc + 1) ls (v :: w :: v :: w :: st) σ Q) : J X M d mc ms pc ls (v :: w :: st) σ Q :=
  J_q k (fun B b hx hb _ _ ho kk => lv_dup2_11 hx hb hd ((cv_ct B b v).trans h1) ((cv_ct B b w).trans h2) kk) (fun h => ok_c (ok_h h) (ok_c (ok_h (ok_t h)) h))
theorem J_dup2_l {v : AV} (hd : decode M.2.1 pc = .ok (.dup2, 1)) (h1 : ct v = 2) (k : J X M d mc ms (pc + 1) ls (v :: v :: st) σ Q) : J X M d mc ms pc ls (v :: st) σ Q :=
  J_q k (fun B b hx hb _ _ ho kk => lv_dup2_2 hx hb hd ((cv_ct B b v).trans h1) kk) (fun h => ok_c (ok_h h) h)
theorem J_goto {off : Int} {tgt : Nat} (hd : decode M.2.1 pc = .ok (.goto off, 3)) (ht : (pc : Int) + off = (tgt : Int)) (k : J X M d mc ms tgt ls st σ Q) : J X M d mc ms pc ls st σ Q :=
  J_q k (fun B b hx hb _ _ ho kk => lv_goto hx hb hd ht kk) (fun h => h)
theorem J_if_eq {x : Int} {off : Int} {tgt : Nat} (hd : decode M.2.1 pc = .ok (.ifCond .eq off, 3)) (ht : (pc : Int) + off = (tgt : Int)) (kt : x = 0 → J X M d mc ms tgt ls st σ Q) (kf : ¬ (x = 0) → J X M d mc ms (pc + 3) ls st σ Q) : J X M d mc ms pc ls (vI x :: st) σ Q := by
  intro p l e R s m args below meth c D B b dA E C0 S0 Z cx hR he H locs cells slots lsC hH hS h1 h2 hl hol hos
  have hxx : ii x := ok_h hos
  exact lv_if_eq cx.1 cx.2.1 hd ht (fun z => kt ((io_eq hxx ii_0).mp (by rw [io_0]; exact z)) p l e R s m args below meth c D B b dA E C0 S0 Z cx hR he H locs cells slots lsC hH hS h1 h2 hl hol (ok_t hos)) (fun z => kf (fun w => z (by have w2 := (io_eq hxx ii_0).mpr w; rwa [io_0] at w2)) p l e R s m args below meth c D B b dA E C0 S0 Z cx hR he H locs cells slots lsC hH hS h1 h2 hl hol (ok_t hos))
theorem J_if_ne {x : Int} {off : Int} {tgt : Nat} (hd : decode M.2.1 pc = .ok (.ifCond .ne off, 3)) (ht : (pc : Int) + off = (tgt : Int)) (kt : x ≠ 0 → J X M d mc ms tgt ls st σ Q) (kf : x = 0 → J X M d mc ms (pc + 3) ls st σ Q) : J X M d mc ms pc ls (vI x :: st) σ Q := by
  intro p l e R s m args below meth c D B b dA E C0 S0 Z cx hR he H locs cells slots lsC hH hS h1 h2 hl hol hos
  have hxx : ii x := ok_h hos
  exact lv_if_ne cx.1 cx.2.1 hd ht (fun z => kt (fun w => z (by rw [w]; exact io_0)) p l e R s m args below meth c D B b dA E C0 S0 Z cx hR he H locs cells slots lsC hH hS h1 h2 hl hol (ok_t hos)) (fun z => kf ((io_eq hxx ii_0).mp (z.trans io_0.symm)) p l e R s m args below meth c D B b dA E C0 S0 Z cx hR he H locs cells slots lsC hH hS h1 h2 hl hol (ok_t hos))
theorem J_if_lt {x : Int} {off : Int} {tgt : Nat} (hd : decode M.2.1 pc = .ok (.ifCond .lt off, 3)) (ht : (pc : Int) + off = (tgt : Int)) (kt : x < 0 → J X M d mc ms tgt ls st σ Q) (kf : ¬ (x < 0) → J X M d mc ms (pc + 3) ls st σ Q) : J X M d mc ms pc ls (vI x :: st) σ Q := by
  intro p l e R s m args below meth c D B b dA E C0 S0 Z cx hR he H locs cells slots lsC hH hS h1 h2 hl hol hos
  have hxx : ii x := ok_h hos
  exact lv_if_lt cx.1 cx.2.1 hd ht (fun z => kt ((io_lt hxx ii_0).mp (by rw [io_0]; exact z)) p l e R s m args below meth c D B b dA E C0 S0 Z cx hR he H locs cells slots lsC hH hS h1 h2 hl hol (ok_t hos)) (fun z => kf (fun w => z (by have w2 := (io_lt hxx ii_0).mpr w; rwa [io_0] at w2)) p l e R s m args below meth c D B b dA E C0 S0 Z cx hR he H locs cells slots lsC hH hS h1 h2 hl hol (ok_t hos))
theorem J_if_ge {x : Int} {off : Int} {tgt : Nat} (hd : decode M.2.1 pc = .ok (.ifCond .ge off, 3)) (ht : (pc : Int) + off = (tgt : Int)) (kt : 0 ≤ x → J X M d mc ms tgt ls st σ Q) (kf : ¬ (0 ≤ x) → J X M d mc ms (pc + 3) ls st σ Q) : J X M d mc ms pc ls (vI x :: st) σ Q := by
  intro p l e R s m args below meth c D B b dA E C0 S0 Z cx hR he H locs cells slots lsC hH hS h1 h2 hl hol hos
  have hxx : ii x := ok_h hos
  exact lv_if_ge cx.1 cx.2.1 hd ht (fun z => kt ((io_le ii_0 hxx).mp (by rw [io_0]; exact z)) p l e R s m args below meth c D B b dA E C0 S0 Z cx hR he H locs cells slots lsC hH hS h1 h2 hl hol (ok_t hos)) (fun z => kf (fun w => z (by have w2 := (io_le ii_0 hxx).mpr w; rwa [io_0] at w2)) p l e R s m args below meth c D B b dA E C0 S0 Z cx hR he H locs cells slots lsC hH hS h1 h2 hl hol (ok_t hos))
theorem J_if_gt {x : Int} {off : Int} {tgt : Nat} (hd : decode M.2.1 pc = .ok (.ifCond .gt off, 3)) (ht : (pc : Int) + off = (tgt : Int)) (kt : 0 < x → J X M d mc ms tgt ls st σ Q) (kf : ¬ (0 < x) → J X M d mc ms (pc + 3) ls st σ Q) : J X M d mc ms pc ls (vI x :: st) σ Q := by
  intro p l e R s m args below meth c D B b dA E C0 S0 Z cx hR he H locs cells slots lsC hH hS h1 h2 hl hol hos
  have hxx : ii x := ok_h hos
  exact lv_if_gt cx.1 cx.2.1 hd ht (fun z => kt ((io_lt ii_0 hxx).mp (by rw [io_0]; exact z)) p l e R s m args below meth c D B b dA E C0 S0 Z cx hR he H locs cells slots lsC hH hS h1 h2 hl hol (ok_t hos)) (fun z => kf (fun w => z (by have w2 := (io_lt ii_0 hxx).mpr w; rwa [io_0] at w2)) p l e R s m args below meth c D B b dA E C0 S0 Z cx hR he H locs cells slots lsC hH hS h1 h2 hl hol (ok_t hos))
theorem J_if_le {x : Int} {off : Int} {tgt : Nat} (hd : decode M.2.1 pc = .ok (.ifCond .le off, 3)) (ht : (pc : Int) + off = (tgt : Int)) (kt : x ≤ 0 → J X M d mc ms tgt ls st σ Q) (kf : ¬ (x ≤ 0) → J X M d mc ms (pc + 3) ls st σ Q) : J X M d mc ms pc ls (vI x :: st) σ Q := by
  intro p l e R s m args below meth c D B b dA E C0 S0 Z cx hR he H locs cells slots lsC hH hS h1 h2 hl hol hos
  have hxx : ii x := ok_h hos
  exact lv_if_le cx.1 cx.2.1 hd ht (fun z => kt ((io_le hxx ii_0).mp (by rw [io_0]; exact z)) p l e R s m args below meth c D B b dA E C0 S0 Z cx hR he H locs cells slots lsC hH hS h1 h2 hl hol (ok_t hos)) (fun z => kf (fun w => z (by have w2 := (io_le hxx ii_0).mpr w; rwa [io_0] at w2)) p l e R s m args below meth c D B b dA E C0 S0 Z cx hR he H locs cells slots lsC hH hS h1 h2 hl hol (ok_t hos))
theorem J_ic_eq {x y : Int} {off : Int} {tgt : Nat} (hd : decode M.2.1 pc = .ok (.if_icmp .eq off, 3)) (ht : (pc : Int) + off = (tgt : Int)) (kt : x = y → J X M d mc ms tgt ls st σ Q) (kf : ¬ (x = y) → J X M d mc ms (pc + 3) ls st σ Q) : J X M d mc ms pc ls (vI y :: vI x :: st) σ Q := by
  intro p l e R s m args below meth c D B b dA E C0 S0 Z cx hR he H locs cells slots lsC hH hS h1 h2 hl hol hos
  have hyy : ii y := ok_h hos
  have hxx : ii x := ok_h (ok_t hos)
  exact lv_icmp_eq cx.1 cx.2.1 hd ht (fun z => kt ((io_eq hxx hyy).mp z) p l e R s m args below meth c D B b dA E C0 S0 Z cx hR he H locs cells slots lsC hH hS h1 h2 hl hol (ok_t (ok_t hos))) (fun z => kf (fun w => z ((io_eq hxx hyy).mpr w)) p l e R s m args below meth c D B b dA E C0 S0 Z cx hR he H locs cells slots lsC hH hS h1 h2 hl hol (ok_t (ok_t hos)))
theorem J_ic_ne {x y : Int} {off : Int} {tgt : Nat} (hd : decode M.2.1 pc = .ok (.if_icmp .ne off, 3)) (ht : (pc : Int) + off = (tgt : Int)) (kt : x ≠ y → J X M d mc ms tgt ls st σ Q) (kf : x = y → J X M d mc ms (pc + 3) ls st σ Q) : J X M d mc ms pc ls (vI y :: vI x :: st) σ Q := by
  intro p l e R s m args below meth c D B b dA E C0 S0 Z cx hR he H locs cells slots lsC hH hS h1 h2 hl hol hos
  have hyy : ii y := ok_h hos
  have hxx : ii x := ok_h (ok_t hos)
  exact lv_icmp_ne cx.1 cx.2.1 hd ht (fun z => kt (fun w => z (by rw [w])) p l e R s m args below meth c D B b dA E C0 S0 Z cx hR he H locs cells slots lsC hH hS h1 h2 hl hol (ok_t (ok_t hos))) (fun z => kf ((io_eq hxx hyy).mp z) p l e R s m args below meth c D B b dA E C0 S0 Z cx hR he H locs cells slots lsC hH hS h1 h2 hl hol (ok_t (ok_t hos)))
theorem J_ic_lt {x y : Int} {off : Int} {tgt : Nat} (hd : decode M.2.1 pc = .ok (.if_icmp .lt off, 3)) (ht : (pc : Int) + off = (tgt : Int)) (kt : x < y → J X M d mc ms tgt ls st σ Q) (kf : ¬ (x < y) → J X M d mc ms (pc + 3) ls st σ Q) : J X M d mc ms pc ls (vI y :: vI x :: st) σ Q := by
  intro p l e R s m args below meth c D B b dA E C0 S0 Z cx hR he H locs cells slots lsC hH hS h1 h2 hl hol hos
  have hyy : ii y := ok_h hos
  have hxx : ii x := ok_h (ok_t hos)
  exact lv_icmp_lt cx.1 cx.2.1 hd ht (fun z => kt ((io_lt hxx hyy).mp z) p l e R s m args below meth c D B b dA E C0 S0 Z cx hR he H locs cells slots lsC hH hS h1 h2 hl hol (ok_t (ok_t hos))) (fun z => kf (fun w => z ((io_lt hxx hyy).mpr w)) p l e R s m args below meth c D B b dA E C0 S0 Z cx hR he H locs cells slots lsC hH hS h1 h2 hl hol (ok_t (ok_t hos)))
theorem J_ic_ge {x y : Int} {off : Int} {tgt : Nat} (hd : decode M.2.1 pc = .ok (.if_icmp .ge off, 3)) (ht : (pc : Int) + off = (tgt : Int)) (kt : y ≤ x → J X M d mc ms tgt ls st σ Q) (kf : ¬ (y ≤ x) → J X M d mc ms (pc + 3) ls st σ Q) : J X M d mc ms pc ls (vI y :: vI x :: st) σ Q := by
  intro p l e R s m args below meth c D B b dA E C0 S0 Z cx hR he H locs cells slots lsC hH hS h1 h2 hl hol hos
  have hyy : ii y := ok_h hos
  have hxx : ii x := ok_h (ok_t hos)
  exact lv_icmp_ge cx.1 cx.2.1 hd ht (fun z => kt ((io_le hyy hxx).mp z) p l e R s m args below meth c D B b dA E C0 S0 Z cx hR he H locs cells slots lsC hH hS h1 h2 hl hol (ok_t (ok_t hos))) (fun z => kf (fun w => z ((io_le hyy hxx).mpr w)) p l e R s m args below meth c D B b dA E C0 S0 Z cx hR he H locs cells slots lsC hH hS h1 h2 hl hol (ok_t (ok_t hos)))
theorem J_ic_gt {x y : Int} {off : Int} {tgt : Nat} (hd : decode M.2.1 pc = .ok (.if_icmp .gt off, 3)) (ht : (pc : Int) + off = (tgt : Int)) (kt : y < x → J X M d mc ms tgt ls st σ Q) (kf : ¬ (y < x) → J X M d mc ms (pc + 3) ls st σ Q) : J X M d mc ms pc ls (vI y :: vI x :: st) σ Q := by
  intro p l e R s m args below meth c D B b dA E C0 S0 Z cx hR he H locs cells slots lsC hH hS h1 h2 hl hol hos
  have hyy : ii y := ok_h hos
  have hxx : ii x := ok_h (ok_t hos)
  exact lv_icmp_gt cx.1 cx.2.1 hd ht (fun z => kt ((io_lt hyy hxx).mp z) p l e R s m args below meth c D B b dA E C0 S0 Z cx hR he H locs cells slots lsC hH hS h1 h2 hl hol (ok_t (ok_t hos))) (fun z => kf (fun w => z ((io_lt hyy hxx).mpr w)) p l e R s m args below meth c D B b dA E C0 S0 Z cx hR he H locs cells slots lsC hH hS h1 h2 hl hol (ok_t (ok_t hos)))
theorem J_ic_le {x y : Int} {off : Int} {tgt : Nat} (hd : decode M.2.1 pc = .ok (.if_icmp .le off, 3)) (ht : (pc : Int) + off = (tgt : Int)) (kt : x ≤ y → J X M d mc ms tgt ls st σ Q) (kf : ¬ (x ≤ y) → J X M d mc ms (pc + 3) ls st σ Q) : J X M d mc ms pc ls (vI y :: vI x :: st) σ Q := by
  intro p l e R s m args below meth c D B b dA E C0 S0 Z cx hR he H locs cells slots lsC hH hS h1 h2 hl hol hos
  have hyy : ii y := ok_h hos
  have hxx : ii x := ok_h (ok_t hos)
  exact lv_icmp_le cx.1 cx.2.1 hd ht (fun z => kt ((io_le hxx hyy).mp z) p l e R s m args below meth c D B b dA E C0 S0 Z cx hR he H locs cells slots lsC hH hS h1 h2 hl hol (ok_t (ok_t hos))) (fun z => kf (fun w => z ((io_le hxx hyy).mpr w)) p l e R s m args below meth c D B b dA E C0 S0 Z cx hR he H locs cells slots lsC hH hS h1 h2 hl hol (ok_t (ok_t hos)))
def lget : List (Nat × AV) → Nat → Option AV
  | [], _ => none
  | (j, v) :: t, i => bif j == i then some v else lget t i
theorem lget_mem : ∀ {ls : List (Nat × AV)} {i : Nat} {v : AV}, lget ls i = some v → (i, v) ∈ ls
  | [], _, _, h => by cases h
  | (j, w) :: t, i, v, h => by
    unfold lget at h
    cases hj : j == i with
    | true =>
      rw [hj] at h
      have e : j = i := by simpa using hj
      cases h; subst e; exact List.mem_cons_self
    | false =>
      rw [hj] at h
      exact List.mem_cons_of_mem _ (lget_mem h)
def lkeep (i : Nat) (n : Nat) (q : Nat × AV) : Bool := !(q.1 == i) && (!(n == 2 && q.1 == i + 1) && !(q.1 + 1 == i && ct q.2 == 2))
def lins (i : Nat) (v : AV) : List (Nat × AV) → List (Nat × AV)
  | [] => [(i, v)]
  | q :: t => bif Nat.ble i q.1 then (i, v) :: q :: t else q :: lins i v t
def lset (ls : List (Nat × AV)) (i : Nat) (v : AV) : List (Nat × AV) := lins i v (ls.filter (lkeep i (ct v)))
theorem lins_mem {i : Nat} {v : AV} : ∀ {ls : List (Nat × AV)} {q : Nat × AV}, q ∈ lins i v ls → q = (i, v) ∨ q ∈ ls
  | [], q, h => by
    simp only [lins, List.mem_singleton] at h
    exact Or.inl h
  | a :: t, q, h => by
    unfold lins at h
    cases hb : Nat.ble i a.1 with
    | true =>
      rw [hb] at h
      rcases List.mem_cons.mp h with h | h
      · exact Or.inl h
      · exact Or.inr h
    | false =>
      rw [hb] at h
      rcases List.mem_cons.mp h with h | h
      · exact Or.inr (by rw [h]; exact List.mem_cons_self)
      · rcases lins_mem h with h | h
        · exact Or.inl h
        · exact Or.inr (List.mem_cons_of_mem _ h)
theorem lset_ok {i : Nat} {v : AV} (hv : okv v) (h : ∀ q ∈ ls, okv q.2) : ∀ q ∈ lset ls i v, okv q.2 := by
  intro q hq
  rcases lins_mem hq with e | e
  · rw [e]; exact hv
  · exact h q (List.mem_filter.mp e).1
theorem lv_mem {lsC : Array Slot} {n : Nat} {l l' : List (Nat × Value)} (h : lv_has lsC n l) (hs : ∀ q ∈ l', q ∈ l) : lv_has lsC n l' := ⟨h.1, h.2.1, fun q hq => h.2.2 q (hs q hq)⟩
theorem lset_1 {B i : Nat} {b : Nat → Nat} {v : AV} (h1 : ct v = 1) : ∀ q ∈ (lset ls i v).map (fun q => (q.1, cv B b q.2)), q ∈ (i, cv B b v) :: (ls.map (fun q => (q.1, cv B b q.2))).filter (fun q => !(q.1 == i) && !(q.1 + 1 == i && q.2.category == 2)) := by
  intro q hq
  obtain ⟨a, ha, rfl⟩ := List.mem_map.mp hq
  rcases lins_mem ha with e | e
  · rw [e]; exact List.mem_cons_self
  · obtain ⟨e1, e2⟩ := List.mem_filter.mp e
    refine List.mem_cons_of_mem _ (List.mem_filter.mpr ⟨List.mem_map.mpr ⟨a, e1, rfl⟩, ?_⟩)
    simp only [lkeep, h1, Bool.and_eq_true] at e2
    simp only [cv_ct, Bool.and_eq_true]
    exact ⟨e2.1, e2.2.2⟩
theorem lset_2 {B i : Nat} {b : Nat → Nat} {v : AV} (h1 : ct v = 2) : ∀ q ∈ (lset ls i v).map (fun q => (q.1, cv B b q.2)), q ∈ (i, cv B b v) :: (ls.map (fun q => (q.1, cv B b q.2))).filter (fun q => !(q.1 == i) && (!(q.1 == i + 1) && !(q.1 + 1 == i && q.2.category == 2))) := by
  intro q hq
  obtain ⟨a, ha, rfl⟩ := List.mem_map.mp hq
  rcases lins_mem ha with e | e
  · rw [e]; exact List.mem_cons_self
  · obtain ⟨e1, e2⟩ := List.mem_filter.mp e
    refine List.mem_cons_of_mem _ (List.mem_filter.mpr ⟨List.mem_map.mpr ⟨a, e1, rfl⟩, ?_⟩)
    simp only [lkeep, h1, Bool.and_eq_true, beq_self_eq_true, Bool.true_and] at e2
    simp only [cv_ct, Bool.and_eq_true]
    exact e2
theorem J_loc {ls' : List (Nat × AV)} (h : ∀ q ∈ ls', q ∈ ls) (k : J X M d mc ms pc ls' st σ Q) : J X M d mc ms pc ls st σ Q := by
  intro p l e R s m args below meth c D B b dA E C0 S0 Z cx hR he H locs cells slots lsC hH hS h1 h2 hl hol hos
  refine k p l e R s m args below meth c D B b dA E C0 S0 Z cx hR he H locs cells slots lsC hH hS h1 h2 (lv_mem hl ?_) (fun q hq => hol q (h q hq)) hos
  intro q hq
  obtain ⟨a, ha, rfl⟩ := List.mem_map.mp hq
  exact List.mem_map.mpr ⟨a, h a ha, rfl⟩
theorem lat {lsC : Array Slot} {n B i : Nat} {b : Nat → Nat} {v : AV} (hl : lv_has lsC n (ls.map (fun q => (q.1, cv B b q.2)))) (hg : lget ls i = some v) : lsC[i]? = some (.val (cv B b v)) := hl.2.2 (i, cv B b v) (List.mem_map.mpr ⟨(i, v), lget_mem hg, rfl⟩)
theorem J_iload_n {x : Int} {i : Nat} {n : Fin 4} (hd : decode M.2.1 pc = .ok (.iload_n n, 1)) (hi : (n : Nat) = i) (hg : lget ls i = some (vI x)) (k : J X M d mc ms (pc + 1) ls (vI x :: st) σ Q) : J X M d mc ms pc ls st σ Q := by
  intro p l e R s m args below meth c D B b dA E C0 S0 Z cx hR he H locs cells slots lsC hH hS h1 h2 hl hol hos
  exact lv_iload_n cx.1 cx.2.1 hd hi (lat hl hg) (k p l e R s m args below meth c D B b dA E C0 S0 Z cx hR he H locs cells slots lsC hH hS h1 h2 hl hol (ok_c (hol _ (lget_mem hg)) hos))
theorem J_iload {x : Int} {i : Nat} (hd : decode M.2.1 pc = .ok (.iload i, 2)) (hg : lget ls i = some (vI x)) (k : J X M d mc ms (pc + 2) ls (vI x :: st) σ Q) : J X M d mc ms pc ls st σ Q := by
  intro p l e R s m args below meth c D B b dA E C0 S0 Z cx hR he H locs cells slots lsC hH hS h1 h2 hl hol hos
  exact lv_iload cx.1 cx.2.1 hd (lat hl hg) (k p l e R s m args below meth c D B b dA E C0 S0 Z cx hR he H locs cells slots lsC hH hS h1 h2 hl hol (ok_c (hol _ (lget_mem hg)) hos))
theorem J_lload_n {x : Int} {i : Nat} {n : Fin 4} (hd : decode M.2.1 pc = .ok (.lload_n n, 1)) (hi : (n : Nat) = i) (hg : lget ls i = some (vL x)) (k : J X M d mc ms (pc + 1) ls (vL x :: st) σ Q) : J X M d mc ms pc ls st σ Q := by
  intro p l e R s m args below meth c D B b dA E C0 S0 Z cx hR he H locs cells slots lsC hH hS h1 h2 hl hol hos
  exact lv_lload_n cx.1 cx.2.1 hd hi (lat hl hg) (k p l e R s m args below meth c D B b dA E C0 S0 Z cx hR he H locs cells slots lsC hH hS h1 h2 hl hol (ok_c (hol _ (lget_mem hg)) hos))
theorem J_lload {x : Int} {i : Nat} (hd : decode M.2.1 pc = .ok (.lload i, 2)) (hg : lget ls i = some (vL x)) (k : J X M d mc ms (pc + 2) ls (vL x :: st) σ Q) : J X M d mc ms pc ls st σ Q := by
  intro p l e R s m args below meth c D B b dA E C0 S0 Z cx hR he H locs cells slots lsC hH hS h1 h2 hl hol hos
  exact lv_lload cx.1 cx.2.1 hd (lat hl hg) (k p l e R s m args below meth c D B b dA E C0 S0 Z cx hR he H locs cells slots lsC hH hS h1 h2 hl hol (ok_c (hol _ (lget_mem hg)) hos))
theorem J_aload_n {x : Nat} {i : Nat} {n : Fin 4} (hd : decode M.2.1 pc = .ok (.aload_n n, 1)) (hi : (n : Nat) = i) (hg : lget ls i = some (vR x)) (k : J X M d mc ms (pc + 1) ls (vR x :: st) σ Q) : J X M d mc ms pc ls st σ Q := by
  intro p l e R s m args below meth c D B b dA E C0 S0 Z cx hR he H locs cells slots lsC hH hS h1 h2 hl hol hos
  exact lv_aload_n cx.1 cx.2.1 hd hi (lat hl hg) (k p l e R s m args below meth c D B b dA E C0 S0 Z cx hR he H locs cells slots lsC hH hS h1 h2 hl hol (ok_c (hol _ (lget_mem hg)) hos))
theorem J_aload {x : Nat} {i : Nat} (hd : decode M.2.1 pc = .ok (.aload i, 2)) (hg : lget ls i = some (vR x)) (k : J X M d mc ms (pc + 2) ls (vR x :: st) σ Q) : J X M d mc ms pc ls st σ Q := by
  intro p l e R s m args below meth c D B b dA E C0 S0 Z cx hR he H locs cells slots lsC hH hS h1 h2 hl hol hos
  exact lv_aload cx.1 cx.2.1 hd (lat hl hg) (k p l e R s m args below meth c D B b dA E C0 S0 Z cx hR he H locs cells slots lsC hH hS h1 h2 hl hol (ok_c (hol _ (lget_mem hg)) hos))
theorem J_xload_n {i : Nat} {n : Fin 4} (hd : decode M.2.1 pc = .ok (.aload_n n, 1)) (hi : (n : Nat) = i) (hg : lget ls i = some vX) (k : J X M d mc ms (pc + 1) ls (vX :: st) σ Q) : J X M d mc ms pc ls st σ Q := by
  intro p l e R s m args below meth c D B b dA E C0 S0 Z cx hR he H locs cells slots lsC hH hS h1 h2 hl hol hos
  exact lv_aload_n cx.1 cx.2.1 hd hi (lat hl hg) (k p l e R s m args below meth c D B b dA E C0 S0 Z cx hR he H locs cells slots lsC hH hS h1 h2 hl hol (ok_c (hol _ (lget_mem hg)) hos))
theorem J_istore_n {x : Int} {i : Nat} {n : Fin 4} (hd : decode M.2.1 pc = .ok (.istore_n n, 1)) (hi : (n : Nat) = i) (hn : i < M.2.2.1) (k : J X M d mc ms (pc + 1) (lset ls i (vI x)) st σ Q) : J X M d mc ms pc ls (vI x :: st) σ Q := by
  intro p l e R s m args below meth c D B b dA E C0 S0 Z cx hR he H locs cells slots lsC hH hS h1 h2 hl hol hos
  exact lv_istore_n cx.1 cx.2.1 hd hi hl hn rfl (fun ls' hl' => k p l e R s m args below meth c D B b dA E C0 S0 Z cx hR he H locs cells slots ls' hH hS h1 h2 (lv_mem hl' (lset_1 rfl)) (lset_ok (ok_h hos) hol) (ok_t hos))
theorem J_istore {x : Int} {i : Nat} (hd : decode M.2.1 pc = .ok (.istore i, 2)) (hn : i < M.2.2.1) (k : J X M d mc ms (pc + 2) (lset ls i (vI x)) st σ Q) : J X M d mc ms pc ls (vI x :: st) σ Q := by
  intro p l e R s m args below meth c D B b dA E C0 S0 Z cx hR he H locs cells slots lsC hH hS h1 h2 hl hol hos
  exact lv_istore cx.1 cx.2.1 hd hl hn rfl (fun ls' hl' => k p l e R s m args below meth c D B b dA E C0 S0 Z cx hR he H locs cells slots ls' hH hS h1 h2 (lv_mem hl' (lset_1 rfl)) (lset_ok (ok_h hos) hol) (ok_t hos))
theorem J_lstore_n {x : Int} {i : Nat} {n : Fin 4} (hd : decode M.2.1 pc = .ok (.lstore_n n, 1)) (hi : (n : Nat) = i) (hn : i + 1 < M.2.2.1) (k : J X M d mc ms (pc + 1) (lset ls i (vL x)) st σ Q) : J X M d mc ms pc ls (vL x :: st) σ Q := by
  intro p l e R s m args below meth c D B b dA E C0 S0 Z cx hR he H locs cells slots lsC hH hS h1 h2 hl hol hos
  exact lv_lstore_n cx.1 cx.2.1 hd hi hl hn rfl (fun ls' hl' => k p l e R s m args below meth c D B b dA E C0 S0 Z cx hR he H locs cells slots ls' hH hS h1 h2 (lv_mem hl' (lset_2 rfl)) (lset_ok (ok_h hos) hol) (ok_t hos))
theorem J_lstore {x : Int} {i : Nat} (hd : decode M.2.1 pc = .ok (.lstore i, 2)) (hn : i + 1 < M.2.2.1) (k : J X M d mc ms (pc + 2) (lset ls i (vL x)) st σ Q) : J X M d mc ms pc ls (vL x :: st) σ Q := by
  intro p l e R s m args below meth c D B b dA E C0 S0 Z cx hR he H locs cells slots lsC hH hS h1 h2 hl hol hos
  exact lv_lstore cx.1 cx.2.1 hd hl hn rfl (fun ls' hl' => k p l e R s m args below meth c D B b dA E C0 S0 Z cx hR he H locs cells slots ls' hH hS h1 h2 (lv_mem hl' (lset_2 rfl)) (lset_ok (ok_h hos) hol) (ok_t hos))
theorem J_astore_n {x : Nat} {i : Nat} {n : Fin 4} (hd : decode M.2.1 pc = .ok (.astore_n n, 1)) (hi : (n : Nat) = i) (hn : i < M.2.2.1) (k : J X M d mc ms (pc + 1) (lset ls i (vR x)) st σ Q) : J X M d mc ms pc ls (vR x :: st) σ Q := by
  intro p l e R s m args below meth c D B b dA E C0 S0 Z cx hR he H locs cells slots lsC hH hS h1 h2 hl hol hos
  exact lv_astore_n cx.1 cx.2.1 hd hi hl hn rfl (fun ls' hl' => k p l e R s m args below meth c D B b dA E C0 S0 Z cx hR he H locs cells slots ls' hH hS h1 h2 (lv_mem hl' (lset_1 rfl)) (lset_ok (ok_h hos) hol) (ok_t hos))
theorem J_astore {x : Nat} {i : Nat} (hd : decode M.2.1 pc = .ok (.astore i, 2)) (hn : i < M.2.2.1) (k : J X M d mc ms (pc + 2) (lset ls i (vR x)) st σ Q) : J X M d mc ms pc ls (vR x :: st) σ Q := by
  intro p l e R s m args below meth c D B b dA E C0 S0 Z cx hR he H locs cells slots lsC hH hS h1 h2 hl hol hos
  exact lv_astore cx.1 cx.2.1 hd hl hn rfl (fun ls' hl' => k p l e R s m args below meth c D B b dA E C0 S0 Z cx hR he H locs cells slots ls' hH hS h1 h2 (lv_mem hl' (lset_1 rfl)) (lset_ok (ok_h hos) hol) (ok_t hos))
theorem J_iinc {x n : Int} {i : Nat} (hd : decode M.2.1 pc = .ok (.iinc i n, 3)) (hg : lget ls i = some (vI x)) (hn : i < M.2.2.1) (k : J X M d mc ms (pc + 3) (lset ls i (vI (wr (x + n)))) st σ Q) : J X M d mc ms pc ls st σ Q := by
  intro p l e R s m args below meth c D B b dA E C0 S0 Z cx hR he H locs cells slots lsC hH hS h1 h2 hl hol hos
  obtain ⟨kk, hk⟩ := List.getElem?_of_mem (List.mem_map.mpr ⟨(i, vI x), lget_mem hg, rfl⟩ : ((i, cv B b (vI x)) ∈ ls.map (fun q => (q.1, cv B b q.2))))
  exact lv_iinc (v := Int32.ofInt (wr (x + n))) cx.1 cx.2.1 hd hl hk (by rw [wr_of, Int32.ofInt_add]) hn rfl (fun ls' hl' => k p l e R s m args below meth c D B b dA E C0 S0 Z cx hR he H locs cells slots ls' hH hS h1 h2 (lv_mem hl' (lset_1 (v := vI (wr (x + n))) rfl)) (lset_ok (v := vI (wr (x + n))) (wr_ii _) hol) hos)
theorem J_iincW {x n : Int} {i : Nat} (hd : decode M.2.1 pc = .ok (.iinc i n, 6)) (hg : lget ls i = some (vI x)) (hn : i < M.2.2.1) (k : J X M d mc ms (pc + 6) (lset ls i (vI (wr (x + n)))) st σ Q) : J X M d mc ms pc ls st σ Q := by
  intro p l e R s m args below meth c D B b dA E C0 S0 Z cx hR he H locs cells slots lsC hH hS h1 h2 hl hol hos
  obtain ⟨kk, hk⟩ := List.getElem?_of_mem (List.mem_map.mpr ⟨(i, vI x), lget_mem hg, rfl⟩ : ((i, cv B b (vI x)) ∈ ls.map (fun q => (q.1, cv B b q.2))))
  exact lv_iincW (v := Int32.ofInt (wr (x + n))) cx.1 cx.2.1 hd hl hk (by rw [wr_of, Int32.ofInt_add]) hn rfl (fun ls' hl' => k p l e R s m args below meth c D B b dA E C0 S0 Z cx hR he H locs cells slots ls' hH hS h1 h2 (lv_mem hl' (lset_1 (v := vI (wr (x + n))) rfl)) (lset_ok (v := vI (wr (x + n))) (wr_ii _) hol) hos)
end JK
