def R_law : String := "NineSaintsLaw"
def lw_P (b : Addr) (xs : List Int32) (args : Array Value) (s : State) : Prop := args = #[.ref b] ∧ s.IntsAt b xs ∧ xs.length ≤ 3072 ∧ (Jvm.Cond.and given_1 narrow_1).before args s = true
def lw_Q (_ : Array Value) (s : State) (o : Outcome) (t : State) : Prop := o = .returned (some (.int 1)) ∧ Framed s o t [] 600000 7302250
def lw_Z (below : List Frame) (a : Array Value) (s : State) : State → Prop := fun t => ∃ o, t.status = .running ∧ Ended t below o ∧ lw_Q a s o t
/-- the law's own end, with 1 on the stack, nothing written that was there before, its room as the claim has it -/
theorem lw_ret {p : Program} {l : Launch} {e : Env} {s : State} {m : MethodId} {below : List Frame} {meth : Method} {c : Code} {b : Nat} (hx : p.tables.exec = Jvm.exec) (hb : c.code = code) (hr : meth.sig.returnType = ret) (hlocks : meth.locks = false) {pc : Nat} {H : Heap} {ls : Array Slot} (hdg : decode code pc = .ok (.ireturn, 1)) : W p l e room_1 s m #[Value.ref b] below meth c H [] 600000 7302250 (lw_Z below #[Value.ref b] s) (F0 m pc ls [.int 1]) := by
  intro T hT X
  obtain ⟨fs, hret, hrun, hended, hW, hframe⟩ := X.leave (v := some (.int 1)) (hlocks := hlocks) (fun h => by rw [hr] at h; cases h)
  have hmeth' : T.vm.method? m = some meth := X.method'
  refine ⟨T.setFrames fs, ?_, .returned (some (.int 1)), hrun, hended, rfl, ⟨_, rfl⟩, hW, hframe⟩
  jvm_step X.here [X.here.top, hx, hb, hdg, hmeth', hr, ret, narrow_b1]
  (try refine ⟨rfl, ?_⟩); (try refine ⟨rfl, ?_⟩)
  first | (intro acts; rw [hret _ acts rfl rfl rfl]) | rw [hret _ _ rfl rfl rfl]
  exact Steps.refl _
/-- what holds at the law's entry: the machine, the code, the tables' words (any of lw_tbl by 'hts w (by decide +kernel)'), the script of L ints xs at the cell b, what the Statement gives of the start (any of its parts by flat_of_before) -/
def lw_At (p : Program) (s : State) (m : MethodId) (meth : Method) (c : Code) (b L : Nat) (xs : Nat → Int32) : Prop :=
  p.tables.exec = Jvm.exec ∧ c.code = code ∧ meth.sig.returnType = ret ∧ c.maxLocals = 4 ∧ s.vm.findClass R_law = some m.cls ∧ (∀ w ∈ lw_tbl, w.before #[Value.ref b] s = true) ∧ va_X b L xs s s.heap ∧ b < s.heap.size ∧ meth.locks = false ∧ (Jvm.Cond.and given_1 narrow_1).before #[Value.ref b] s = true ∧ meth.name = "law"
def eJ (j : Nat) : Cond := Cond.eq (.elem (.field (.string RX7 68) "java/lang/String" "value" "[B") (.int (Int32.ofNat j))) (.int (ownB.getD j 0))
theorem hel_l : (List.range 216).map eJ = ((flatC (Jvm.Cond.and given_1 narrow_1)).drop 13).take 216 := by decide +kernel
theorem hel_m : ∀ j, j < 216 → Cond.eq (.elem (.field (.string RX7 68) "java/lang/String" "value" "[B") (.int (Int32.ofNat j))) (.int (ownB.getD j 0)) ∈ flatC (Jvm.Cond.and given_1 narrow_1) := fun j hj => List.mem_of_mem_drop (List.mem_of_mem_take (hel_l ▸ List.mem_map.mpr ⟨j, List.mem_range.mpr hj, rfl⟩ : eJ j ∈ _))
set_option maxRecDepth 100000 in
set_option maxHeartbeats 4000000 in
theorem law_ctx {p : Program} {s : State} {m : MethodId} {meth : Method} {c : Code} {b L : Nat} {xs : Nat → Int32} (C0 : lw_At p s m meth c b L xs) : ∃ (D : va_G) (dA : Nat → ClassId) (bb : Nat → Nat), bb 0 = b ∧ Cx (some (L, xs)) mL_law p s m #[Value.ref b] meth c D s.heap.size bb dA (fun _ => 0) := by
  obtain ⟨hx, hb, hr, hml, hown, hts, hX, hbl, hlocks, hgv, hnm⟩ := C0
  have htg : ∀ w ∈ GT, w.before #[Value.ref b] s = true := fun w hw => hts w (List.mem_filter.mp hw).1
  have hkk : ∀ k : Nat, ∃ ci : ClassId × (Nat → Nat), ∀ q : vw_C, vwCl[k]? = some q → u_Kn s q.1 q.2.1 q.2.2 ci.1 ci.2 := by
    intro k
    match k with
    | 0 => obtain ⟨c0, i0, h⟩ := u_known (ws := GT) htg ck_0.2.2.1 (htg _ nw_0); exact ⟨(c0, i0), fun q hq => by cases hq; exact h⟩
    | 1 => obtain ⟨c0, i0, h⟩ := u_known (ws := GT) htg ck_1.2.2.1 (htg _ nw_1); exact ⟨(c0, i0), fun q hq => by cases hq; exact h⟩
    | 2 => obtain ⟨c0, i0, h⟩ := u_known (ws := GT) htg ck_2.2.2.1 (htg _ nw_2); exact ⟨(c0, i0), fun q hq => by cases hq; exact h⟩
    | 3 => obtain ⟨c0, i0, h⟩ := u_known (ws := GT) htg ck_3.2.2.1 (htg _ nw_3); exact ⟨(c0, i0), fun q hq => by cases hq; exact h⟩
    | 4 => obtain ⟨c0, i0, h⟩ := u_known (ws := GT) htg ck_4.2.2.1 (htg _ nw_4); exact ⟨(c0, i0), fun q hq => by cases hq; exact h⟩
    | 5 => obtain ⟨c0, i0, h⟩ := u_known (ws := GT) htg ck_5.2.2.1 (htg _ nw_5); exact ⟨(c0, i0), fun q hq => by cases hq; exact h⟩
    | 6 => obtain ⟨c0, i0, h⟩ := u_known (ws := GT) htg ck_6.2.2.1 (htg _ nw_6); exact ⟨(c0, i0), fun q hq => by cases hq; exact h⟩
    | 7 => obtain ⟨c0, i0, h⟩ := u_known (ws := GT) htg ck_7.2.2.1 (htg _ nw_7); exact ⟨(c0, i0), fun q hq => by cases hq; exact h⟩
    | 8 => obtain ⟨c0, i0, h⟩ := u_known (ws := GT) htg ck_8.2.2.1 (htg _ nw_8); exact ⟨(c0, i0), fun q hq => by cases hq; exact h⟩
    | 9 => obtain ⟨c0, i0, h⟩ := u_known (ws := GT) htg ck_9.2.2.1 (htg _ nw_9); exact ⟨(c0, i0), fun q hq => by cases hq; exact h⟩
    | 10 => obtain ⟨c0, i0, h⟩ := u_known (ws := GT) htg ck_10.2.2.1 (htg _ nw_10); exact ⟨(c0, i0), fun q hq => by cases hq; exact h⟩
    | 11 => obtain ⟨c0, i0, h⟩ := u_known (ws := GT) htg ck_11.2.2.1 (htg _ nw_11); exact ⟨(c0, i0), fun q hq => by cases hq; exact h⟩
    | k + 12 => exact ⟨(0, fun _ => 0), fun q hq => by simp [vwCl] at hq⟩
  obtain ⟨f, hf⟩ := Classical.axiomOfChoice hkk
  obtain ⟨a0, k0, p0, u0, v0, w0⟩ := Cond.arrayClass_spec (htg _ aw_int)
  obtain ⟨a1, k1, p1, u1, v1, w1⟩ := Cond.arrayClass_spec (htg _ aw_long)
  obtain ⟨a2, k2, p2, u2, v2, w2⟩ := Cond.arrayClass_spec (htg _ aw_boolean)
  obtain ⟨a3, k3, p3, u3, v3, w3⟩ := Cond.arrayClass_spec (htg _ aw_char)
  obtain ⟨cp4, a4, k4, u4, x4, v4, w4, y4⟩ := Cond.arrayOver_spec (n := RX8) (hts (.arrayOver (.object RX8)) (List.mem_of_getElem? (i := 350) (by decide +kernel)))
  have hs := flat_of_before _ hgv
  have hA : ∀ a : Nat, a < s.heap.size → ¬ (fun q => s.heap.size ≤ q) a := fun a h => Nat.not_le.mpr h
  obtain ⟨adK, adV, hSt, hev⟩ := vk_Sof (args := #[Value.ref b]) (s := s) (N := 1) (tm := fun _ => .string RX7 68) (len := [216]) (byt := [ownB]) (A := fun q => s.heap.size ≤ q)
    (fun i hi => by obtain rfl : i = 0 := by omega
                    decide) (fun i hi => hs _ (by decide +kernel)) (fun i hi => hs _ (by decide +kernel)) (fun i hi => hs _ (by decide +kernel)) (fun i hi => by
      obtain rfl : i = 0 := by omega
      exact hs _ (by decide +kernel)) (fun i hi j hj => by
      obtain rfl : i = 0 := by omega
      exact hs _ (hel_m j hj)) (fun i j hi hj hne => by omega) hA
  have hq3 : ∃ t3 : Nat, va_Z "jdk/internal/util/Preconditions" "SIOOBE_FORMATTER" "Ljava/util/function/BiFunction;" .null (fun q => s.heap.size ≤ q) s s.heap ∨ va_Z "jdk/internal/util/Preconditions" "SIOOBE_FORMATTER" "Ljava/util/function/BiFunction;" (.ref t3) (fun q => s.heap.size ≤ q) s s.heap := by
    rcases va_Zqof (C := "jdk/internal/util/Preconditions") (n := "SIOOBE_FORMATTER") (d := "Ljava/util/function/BiFunction;") (A := fun q => s.heap.size ≤ q) (hts _ (List.mem_of_getElem? (i := 830) (by decide +kernel))) (htg _ iw_jdk_internal_util_Preconditions) (hs _ (by decide +kernel)) hA with h | ⟨t, h⟩
    · exact ⟨0, Or.inl h⟩
    · exact ⟨t, Or.inr h⟩
  obtain ⟨t3, hz3⟩ := hq3
  refine ⟨(fun k => (f k).1, fun k => (f k).2), fun t => match t with | 0 => a0 | 1 => a1 | 2 => a2 | 3 => a3 | _ => a4, fun n => match n with | 0 => b | 1 => adK 0 | 2 => adV 0 | _ => t3, rfl, hx, hb, hml, hown, htg, ⟨fun k q hq => hf k q hq, fun k q hq => ?_⟩, Nat.le_refl _, hnm, ⟨vk_R.of (A := #[Value.ref b]) (hts _ (List.mem_of_getElem? (i := 812) (by decide +kernel))) (hev 0 (by omega)), ⟨fun i hi => ?_, fun i j hi hj _ => by omega⟩, ⟨va_Zof (hts _ (List.mem_of_getElem? (i := 822) (by decide +kernel))) (htg _ iw_java_lang_String) (va_eqi (hs _ (by decide +kernel))) hA, hz3⟩, va_AO.of (hts _ (List.mem_of_getElem? (i := 350) (by decide +kernel))), va_Nw.of rfl (hts _ (List.mem_of_getElem? (i := 203) (by decide +kernel))), va_Nw.of rfl (hts _ (List.mem_of_getElem? (i := 1383) (by decide +kernel))), va_Nw.of rfl (hts _ (List.mem_of_getElem? (i := 1176) (by decide +kernel)))⟩, hX, hbl, hbl⟩
  · match k, hq with
    | 0, hq => cases hq; exact ⟨fun n z => ⟨fun k h => (by cases h), k0, v0, p0, w0⟩, u0⟩
    | 1, hq => cases hq; exact ⟨fun n z => ⟨fun k h => (by cases h), k1, v1, p1, w1⟩, u1⟩
    | 2, hq => cases hq; exact ⟨fun n z => ⟨fun k h => (by cases h), k2, v2, p2, w2⟩, u2⟩
    | 3, hq => cases hq; exact ⟨fun n z => ⟨fun k h => (by cases h), k3, v3, p3, w3⟩, u3⟩
    | 4, hq => cases hq; exact ⟨fun n z => ⟨fun k h => (by cases h), k4, v4, cp4, w4⟩, k4, cp4, v4, w4, u4, y4⟩
    | k + 5, hq => simp [tyl] at hq
  · obtain rfl : i = 0 := by omega
    exact hSt.1 0 hi
set_option maxRecDepth 100000 in
set_option maxHeartbeats 4000000 in
theorem whole_start {Rel : Nat → HI → Prop} (ops : OPS Rel 60) (h00 : ∀ n, n ≤ 3073 → Rel n iE) {p : Program} {e : Env} {s : State} {m : MethodId} {below : List Frame} {meth : Method} {c : Code} (l : Launch) {b L : Nat} {xs : Nat → Int32} (hL : L ≤ 3072) (C0 : lw_At p s m meth c b L xs) : W p l e room_1 s m #[Value.ref b] below meth c s.heap [] 0 0 (lw_Z below #[Value.ref b] s) (entryFrame m ([Value.ref b] : List Value).toArray 4) := by
  obtain ⟨D, dA, bb, hb0, cx⟩ := law_ctx C0
  obtain ⟨hx, hb, hr, hml, hown, hts, hX, hbl, hlocks, hgv, hnm⟩ := C0
  have hl := lv_entry ([.ref b]) (n := 4) (Nat.le_of_ble_eq_true rfl)
  rw [lg_entry_eq]
  have hJ := law_start (xs := xs) hL (by omega : 20 ≤ 60) ops h00
  refine hJ p l e room_1 s m #[Value.ref b] below meth c D s.heap.size bb dA (fun _ => 0) 600000 7302250 (lw_Z below #[Value.ref b] s) cx ⟨by decide, by decide, by decide, by decide⟩ ?_ s.heap [] 0 0 _ ⟨fun k sh h => by simp [ah] at h, by simp [ah], fun k sh h => by simp [ah] at h⟩ va_S.rf (by decide) (by decide) ?_ (fun q hq => by
    rw [List.mem_singleton.mp hq]; exact trivial) (fun v hv => by cases hv)
  · intro H locs cells slots pc lsC r σ hH hS h1 h2 hor hq hd
    subst hq
    refine W.widen (k := 600000) (n := 7302250) h1 h2 ?_
    refine va_forget (fun q hq => hS.2.2 q hq) ?_
    exact lw_ret hx hb hr hlocks hd
  · show lv_has _ 4 [(0, Value.ref (bb 0))]
    rw [hb0]
    exact hl
set_option maxHeartbeats 4000000 in
theorem lw_walk {Rel : Nat → HI → Prop} (ops : OPS Rel 60) (h00 : ∀ n, n ≤ 3073 → Rel n iE) (l : Launch) (b : Addr) (xs : List Int32) : MetFree l x (headSpec (Jvm.Cond.code x code maxLocals ret :: tables_1) room_1) (lw_P b xs) (fun _ _ _ _ _ => True) lw_Q := by
  refine MetFree.of_bodyS (code := code) (maxLocals := maxLocals) (ret := ret) (by decide) ?_ ?_
  · intro args s m h hn
    obtain ⟨meth, c, h1, h2, h3, h4, h5, h6, -, -⟩ := Cond.code_spec hn (atoms_spec (ws := Jvm.Cond.code x code maxLocals ret :: tables_1) h _ List.mem_cons_self)
    exact ⟨meth, c, h1, h2, h3, h4, h5, h6⟩
  · intro p e s m args below meth c s₁ B hml0 hP _
    obtain ⟨rfl, hx, hbd, hgv⟩ := hP
    obtain ⟨scr, harrAt, hlist, hof, hsmall⟩ := hx
    obtain ⟨hcb, hkn, -, -⟩ := State.arrayAt?_spec harrAt
    have hown : s.vm.findClass R_law = some m.cls := findClass_of_methodNamed B.named
    have hts0 : ∀ c ∈ (Jvm.Cond.code x code maxLocals ret :: tables_1), c.before #[Value.ref b] s = true := atoms_spec (ws := Jvm.Cond.code x code maxLocals ret :: tables_1) B.pre
    have hts : ∀ w ∈ lw_tbl, w.before #[Value.ref b] s = true := k2_hts_sels lw_privs (fun w hw => hts0 w (List.mem_cons_of_mem _ hw)) lw_privs_ok
    have hml : c.maxLocals = 4 := B.maxLocals_eq (hts0 _ List.mem_cons_self)
    have X₀ : Stand p l e room_1 s m #[Value.ref b] below meth c s₁ [] 0 0 := Stand.of_body B
    have hh0 : s₁.heap = s.heap := by rw [B.state]; rfl
    have hsz : scr.slots.size = xs.length := by rw [← Array.length_toList, hlist, List.length_map]
    have hval : ∀ j : Nat, j < xs.length → scr.slots[j]? = some (.int (xs.getD j 0)) := fun j hj => by
      rw [← Array.getElem?_toList, hlist]
      simp [hj]
    have hbl : b < s.heap.size := (Array.getElem?_eq_some_iff.mp hcb).1
    have hX : va_X b xs.length (fun j => xs.getD j 0) s s.heap := ⟨scr, hcb, hof, hkn, hsz, hval⟩
    have K : W p l e room_1 s m #[Value.ref b] below meth c s₁.heap [] 0 0 (lw_Z below #[Value.ref b] s) (entryFrame m ([Value.ref b] : List Value).toArray 4) := by
      rw [hh0]
      exact whole_start ops h00 l hbd ⟨B.exec, B.bytes, B.returns, hml, hown, hts, hX, hbl, B.notSynchronized, hgv, (name_of_methodNamed B.named B.method).1⟩
    obtain ⟨t, a1, o, b1, b2, b3⟩ := K s₁ rfl X₀
    exact ⟨t, o, a1, b1, b2, b3⟩
theorem lw_pre_spec {args : Array Value} {s : State} (h : (Jvm.Cond.and given_1 narrow_1).before args s = true) (hr : rest_1_c.before args s = true) : ∃ (b : Addr) (xs : List Int32), lw_P b xs args s := by
  have hs := flat_of_before _ h
  have hq := flat_of_before _ hr
  have hc : (Cond.count 1).before args s = true := hs _ (by decide +kernel)
  have harr : (Cond.arrayOf (.arg 0) .int).before args s = true := hs _ (by decide +kernel)
  have hle : (Cond.le (.length (.arg 0)) (.int 3072)).before args s = true := hs _ (by decide +kernel)
  have hlen : (Cond.isInt (.length (.arg 0))).before args s = true := hq _ (by decide +kernel)
  have hall : (Cond.all (.arg 0) (.isInt (.elem (.arg 0) (.index 0)))).before args s = true := hq _ (by decide +kernel)
  obtain ⟨b, xs, hb, hx⟩ := State.ints_of_pre rfl harr hlen hall
  have hsm : xs.length < 2 ^ 31 := hx.choose_spec.2.2.2
  have hev : (Term.length (.arg 0)).eval args s none [] s = some (.int xs.length.toInt32) := hx.length_eval hb
  have hv := Cond.le_ints hev (show (Term.int 3072).eval args s none [] s = some (.int 3072) from rfl)
  have hd : xs.length.toInt32 ≤ 3072 := by
    simpa [Cond.before, Cond.holds, hv] using hle
  have hN : xs.length ≤ 3072 := (Int32.ofNat_le_ofNat hsm (by decide)).mp (show Int32.ofNat xs.length ≤ Int32.ofNat 3072 from hd)
  exact ⟨b, xs, Cond.one_arg hc (show args[0]? = some (.ref b) from hb), hx, hN, h⟩
theorem lw_comes {Rel : Nat → HI → Prop} (ops : OPS Rel 60) (h00 : ∀ n, n ≤ 3073 → Rel n iE) (l : Launch) : Comes l x (Jvm.Cond.code x code maxLocals ret :: tables_1) room_1 (fun tb e args s => Calls_1 tb e args s ∧ rest_1 tb e args s ∧ Pre_1 tb e args s)
    (fun _ _ args s o t => lw_Q args s o t) := by
  intro p e ha hc hk s m args below hf hfit hheap happ hpre
  obtain ⟨b, xs, hP⟩ := lw_pre_spec hpre.2.2 hpre.2.1
  obtain ⟨k, o, h1, h2, h3, hQ⟩ := lw_walk ops h00 l b xs p e ha hc hk s m args below hf ((Spec.applies_iff_loose hf).mp happ).1 hP trivial
  exact ⟨k, o, h1, h2, h3, hQ⟩
theorem lw_frame {s t : State} {o : Outcome} {args : Array Value} (h : Framed s o t [] 600000 7302250) :
    Framed s o t (fieldLocs frame_1_writes args s ++ arrayLocs frame_1_arrays args s ++ staticLocs frame_1_statics s) 600000 7302250 := h
theorem lw_limb {Rel : Nat → HI → Prop} (ops : OPS Rel 60) (h00 : ∀ n, n ≤ 3073 → Rel n iE) (L : Cond) (hL : ∀ (args : Array Value) (s t : State), L.after args s (.returned (some (.int 1))) t = true) :
    ArmFor flags0 classFile x code maxLocals ret World_1 tables_1 room_1 Calls_1 rest_1 Pre_1
      (fun tb e a s o t => postC L tb e a s o t ∧ Framed s o t (fieldLocs frame_1_writes a s ++ arrayLocs frame_1_arrays a s ++ staticLocs frame_1_statics s) 600000 7302250) := by
  intro l _ _ _ p e ha hc hk s m args below hf hfit hheap happ hpre
  obtain ⟨k, o, h1, h2, h3, rfl, hF⟩ := lw_comes ops h00 l p e ha hc hk s m args below hf hfit hheap happ hpre
  exact ⟨k, _, h1, h2, h3, hL args s _, lw_frame hF⟩
theorem i_vc_open {Rel : Nat → HI → Prop} (ops : OPS Rel 60) (h00 : ∀ n, n ≤ 3073 → Rel n iE) : Claimed_1_1 ∧ Claimed_1_2 := ⟨lw_limb ops h00 limb_1_1 (fun args s t => by simp [limb_1_1, Cond.after, Cond.holds, Cond.value]), lw_limb ops h00 limb_1_2 (fun args s t => Cond.after_iff.mpr (by
  first | (rw [show limb_1_2 = Cond.eq .result (.int 1) from rfl, Cond.eq_ints (x := 1) (y := 1) rfl rfl]; simp; done) | (simp [limb_1_2, Cond.value, Term.eval]; done)))⟩
