theorem STK_mem {f : Nat → Int} {x : Int} : ∀ (T : List Int), STK f T → (x ∈ T ↔ ∃ k, k < T.length ∧ f k = x)
  | [], _ => by simp
  | y :: T, h => by
    have ih := STK_mem (x := x) T h.2
    constructor
    · intro m
      rcases List.mem_cons.mp m with e | e
      · exact ⟨T.length, by simp only [List.length_cons]; omega, by rw [e]; exact h.1⟩
      · obtain ⟨k, k1, k2⟩ := ih.mp e
        exact ⟨k, by simp only [List.length_cons]; omega, k2⟩
    · rintro ⟨k, k1, k2⟩
      simp only [List.length_cons] at k1
      by_cases e : k = T.length
      · have := h.1
        rw [e, this] at k2
        rw [k2]; exact List.mem_cons_self
      · exact List.mem_cons_of_mem _ (ih.mpr ⟨k, by omega, k2⟩)
def TPx (d : Nat) (Kt : HI → Prop) (X : HI) : Prop := J none mX11_test (d + 9) 0 0 2 [(0, vR 489), (1, vI 1)] [] (mk X) (PV Kt)
def KVx (d : Nat) (Kt : HI → Prop) : Int → HI → Prop := fun x5 I5 => ((x5 = 0 → J none mX11_test (d + 9) 0 0 2 [(0, vR 489), (1, vI 0)] [] (mk I5) (PV Kt)) ∧ (¬ (x5 = 0) → J none mX11_test (d + 9) 0 0 2 [(0, vR 489), (1, vI 1)] [] (mk I5) (PV Kt)))
def VPx (d : Nat) (Kt : HI → Prop) (X : HI) : Prop := J none mX11_goesOnTest (d + 8) 0 0 0 [(0, vR 489)] [] (mk X) (PI (KVx d Kt))
def a16 (N : List Int) : Prop := ∀ x ∈ N, x = 16
theorem spl16 : ∀ T : List Int, ∃ N R, T = N ++ R ∧ a16 N ∧ tpn R 16
  | [] => ⟨[], [], rfl, (fun x h => by cases h), (fun x R e => by cases e)⟩
  | x :: T => by
    by_cases e : x = 16
    · obtain ⟨N, R, h1, h2, h3⟩ := spl16 T
      refine ⟨x :: N, R, by rw [h1]; rfl, fun y hy => ?_, h3⟩
      rcases List.mem_cons.mp hy with u | u
      · rw [u]; exact e
      · exact h2 y u
    · exact ⟨[], x :: T, rfl, (fun x h => by cases h), (fun y R e' => by cases e'; exact e)⟩
section MTT
variable {d : Nat} {X X0 : HI} {K Kt : HI → Prop} {KI : Int → HI → Prop} {t : Txt} {i j b : Nat} {T C : List Int} {o : Int}
theorem sq_lp (r : RSc X0 X T b o C) (t16 : T.length ≤ 1700) (k1 : 25 ∈ T → KI 1 X) (k0 : ¬ 25 ∈ T → KI 0 X) : ∀ (m u : Nat), u + m = T.length → (∀ k, k < u → X 525 k ≠ 25) → J none mX11_hasSquare (d + 1) 0 0 2 [(0, vR 489), (1, vI (u : Int))] [] (mk X) (PI KI)
  | 0, u, e, h => by
    refine bk_X11_hasSquare_2 ?_
    rw [r.2.1.1]
    refine ⟨fun _ => PI_i (k0 (fun m => ?_)), fun z => by omega⟩
    obtain ⟨k, a, c⟩ := (STK_mem T r.2.1.2).mp m
    exact h k (by omega) c
  | m + 1, u, e, h => by
    have ih := sq_lp r t16 k1 k0 m (u + 1) (by omega)
    refine bk_X11_hasSquare_2 ?_
    rw [r.2.1.1, Int.toNat_natCast]
    refine ⟨fun z => by omega, fun _ => ⟨by omega, fun z => ⟨by omega, ?_⟩, fun z => PI_i (k1 ((STK_mem T r.2.1.2).mpr ⟨u, by omega, z⟩))⟩⟩
    have := ih (fun k hk => by
      by_cases ek : k = u
      · rw [ek]; exact z
      · exact h k (by omega))
    exact this
theorem c11_hasSquare (r : RSc X0 X T b o C) (t16 : T.length ≤ 1700) (k1 : 25 ∈ T → KI 1 X) (k0 : ¬ 25 ∈ T → KI 0 X) : CI mX11_hasSquare (d + 1) [vR 489] X KI := by
  refine bk_X11_hasSquare_0 ?_
  have := sq_lp (d := d) r t16 k1 k0 T.length 0 (by omega) (fun k hk => by omega)
  exact this
theorem c11_dropsNots {R : List Int} (hR : tpn R 16) : ∀ (N C : List Int) (o : Int) (X : HI), a16 N → MRk t X i → RSc X0 X (N ++ R) b o C → C.length + (N ++ R).length ≤ 1600 → (N.length : Int) ≤ o → o ≤ 6 → (∀ Y : HI, MRk t Y i → RSc X0 Y R b (o - N.length) (C ++ N) → K Y) → CV mX11_dropsNots (d + 3) [vR 489] X K
  | [], C, o, X, hN, mX, rX, hl, ho, o6, k => by
    have hl' : C.length + R.length ≤ 1600 := hl
    have rX' : RSc X0 X R b o C := rX
    refine bk_X11_dropsNots_0 ⟨fun z => absurd mX.2.2.1.2 z, fun _ => c11_isOnN rX' (by omega) hR ⟨fun _ => PV_i (k X mX ?_), fun z => absurd rfl z⟩⟩
    rw [List.append_nil, show o - (([] : List Int).length : Int) = o from by simp]
    exact rX'
  | x :: N, C, o, X, hN, mX, rX, hl, ho, o6, k => by
    have x16 : x = 16 := hN x List.mem_cons_self
    have hl' : C.length + ((N ++ R).length + 1) ≤ 1600 := hl
    have ho' : ((N.length + 1 : Nat) : Int) ≤ o := ho
    have ih := fun Y => c11_dropsNots hR N (C ++ [x]) (o - 1) Y (fun y hy => hN y (List.mem_cons_of_mem _ hy))
    refine bk_X11_dropsNots_0 ⟨fun z => absurd mX.2.2.1.2 z, fun _ => c11_isOnY (R := N ++ R) rX (by omega) (fun _ => ⟨fun z => by omega, fun _ => ?_⟩) (fun z => absurd x16 z)⟩
    obtain ⟨h1, h2, h3, h4, h5, h6⟩ := rX
    rw [h3.2]
    refine ⟨by omega, fun I2 e2 => ?_⟩
    have m2 : MRk t I2 i := MRk_o mX (fun c a _ _ => by rw [e2, up_k a]) (fun i _ _ => by rw [e2, up_n (by omega)])
    have r2 : RSc X0 I2 (x :: (N ++ R)) b (o - 1) C := by
      refine ⟨?_, ?_, ⟨?_, ?_⟩, ?_, ?_, ?_⟩
      · rw [e2, up_n (by decide), up_k (by decide)]; exact h1
      · rw [e2, up_n (by decide), up_k (by decide)]; exact h2
      · rw [e2, up_n (by decide)]; exact h3.1
      · rw [e2, up_s]
      · exact fun c a b' e => by rw [e2, up_k a, h4 c a b' e]
      · exact fun i a b' c e e2' e3 e4 e5' => by rw [e2, up_n (by omega), h5 i a b' c e e2' e3 e4 e5']
      · exact fun k hk => by rw [e2, up_k (by decide), h6 k hk]
    refine c11_drops m2 r2 (by omega) (by omega) (fun Y mY rY => ?_)
    have := ih Y mY rY (by simp only [List.length_append, List.length_cons, List.length_nil] at *; omega) (by omega) (by omega) (fun Z mZ rZ => k Z mZ (by
      rw [List.append_assoc, show o - 1 - (N.length : Int) = o - ((x :: N).length : Int) from by simp only [List.length_cons]; omega] at rZ
      exact rZ))
    exact this
theorem tp_bad (hb : X 489 5 ≠ 0) (h : Kt X) {a1 : Int} : J none mX11_test (d + 9) 0 0 2 [(0, vR 489), (1, vI a1)] [] (mk X) (PV Kt) := by
  have j110 : J none mX11_test (d + 9) 0 0 110 [(0, vR 489), (1, vI a1)] [] (mk X) (PV Kt) := bk_X11_test_110 ⟨fun _ => PV_i h, fun z => absurd z hb⟩
  exact bk_X11_test_2 ⟨fun _ => j110, fun _ => ⟨fun _ => j110, fun z => absurd z hb⟩⟩
theorem FTm_b {Y : HI} {k p cb : Int} (f : FTm X0 Y k p cb) : Y 489 5 ≠ 0 := by rw [f.2.1.1]; exact f.2.1.2.2
theorem tp_sq (ht : TKN t) (hm : MRk t X i) (r : RSc X0 X T 0 o C) (bd : C.length + T.length + 1 ≤ i) (s : sgn t i 91) (o0 : 0 ≤ o) (o6 : o ≤ 6) (k1 : o ≠ 6 → ∀ Y : HI, MRk t Y (i + 1) → RSc X0 Y (25 :: T) 0 (o + 1) C → TPx d Kt Y) (k0 : o = 6 → ∀ Y : HI, FTm X0 Y 4 (uS t i) 1600 → Kt Y) : TPx d Kt X := by
  have hi' := hm.2.1
  have n16 := ht.1.2
  have lk : lkv t i = 91 := (lkv_sg ht hi' (by omega) (by unfold ltr; omega) (by unfold dgt; omega)).mpr s
  have kk := tK_e ht hi'
  refine bk_X11_test_2 ⟨fun z => absurd z (by decide), fun _ => ⟨fun z => absurd hm.2.2.1.2 z, fun _ => c11_lookK ht hm (fun Y fY mY => ⟨fun z => absurd lk z, fun _ => ?_⟩)⟩⟩
  have y2 := fY.2.2
  rw [y2]
  refine c11_opens mY (RSc_m r (MFr_l fY)) (by omega) o0 (fun on I8 m8 r8 e8 => ?_) (fun on I8 f8 => ?_) o6
  · rw [e8, y2]
    refine ⟨by omega, fun I9 e9 => ?_⟩
    have f9 : LKf I8 I9 (uS t i + 1) := ⟨fun k hk => by rw [e9, up_k hk], fun j hj => by rw [e9, up_n (by omega)], by rw [e9, up_s]; omega⟩
    exact k1 on I9 (MRk_sg ht m8 (sgn_lt ht hi' s) s.1 f9) (RSc_m r8 (MFr_l f9))
  · have ff := FTm_of (cb := 1600) r (MFr_l fY) f8 (by decide) (by omega) (by rw [y2]; omega)
    have e2 : I8 489 2 = uS t i := by rw [f8.2.1 2 (by decide) (by decide), y2]
    rw [e2]
    refine ⟨by omega, fun I9 e9 => ?_⟩
    have ff9 := FTm_2 ff (Y := I9) (fun c hc => by rw [e9, up_k hc]) (fun j hj => by rw [e9, up_n (by omega)]) (by rw [e9, up_s]; have := tK_n ht (sgn_lt ht hi' s); have := ht.1.1; omega)
    exact tp_bad (FTm_b ff9) (k0 on I9 ff9)
theorem tp_not (ht : TKN t) (hm : MRk t X i) (r : RSc X0 X T 0 o C) (bd : C.length + T.length + 1 ≤ i) (s : uK t i = 18 ∧ ¬ jnd t i) (o0 : 0 ≤ o) (o6 : o ≤ 6) (k1 : o ≠ 6 → ∀ Y : HI, MRk t Y (i + 1) → RSc X0 Y (16 :: T) 0 (o + 1) C → TPx d Kt Y) (k0 : o = 6 → ∀ Y : HI, FTm X0 Y 4 (uS t i) 1600 → Kt Y) : TPx d Kt X := by
  have hi' := hm.2.1
  have n16 := ht.1.2
  have lk : lkv t i ≠ 91 := fun u => by
    have := ((lkv_sg ht hi' (by omega) (by unfold ltr; omega) (by unfold dgt; omega)).mp u).1
    omega
  have kk := tK_e ht hi'
  refine bk_X11_test_2 ⟨fun z => absurd z (by decide), fun _ => ⟨fun z => absurd hm.2.2.1.2 z, fun _ => c11_lookK ht hm (fun Y fY mY => ⟨fun _ => ?_, fun z => absurd z lk⟩)⟩⟩
  have rY := RSc_m r (MFr_l fY)
  refine c11_isHereW (w := 18) rfl (by omega) ht mY (fun _ _ Z fZ mZ => ⟨fun z => by omega, fun _ => ?_⟩) (fun u => absurd s u)
  rw [fZ.2.2]
  refine c11_opens mZ (RSc_m rY (MFr_l fZ)) (by omega) o0 (fun on I8 m8 r8 e8 => ?_) (fun on I8 f8 => ?_) o6
  · exact c11_asksW (w := 18) rfl (by omega) ht m8 (fun _ _ V fV mV => k1 on V mV (RSc_m r8 (MFr_t fV))) (fun u => absurd s u)
  · have ff := FTm_of (cb := 1600) rY (MFr_l fZ) f8 (by decide) (by omega) (by rw [fZ.2.2]; omega)
    exact c11_asksB (wl_ok 18 (by omega)).2.2.2 (FTm_b ff) (tp_bad (FTm_b ff) (k0 on I8 ff))
theorem tp_fact (ht : TKN t) (hm : MRk t X i) (r : RSc X0 X T 0 o C) (n1 : ¬ sgn t i 91) (n2 : uK t i ≠ 18) (k : ∀ Y : HI, MRk t Y i → RSc X0 Y T 0 o C → CV mX11_fact (d + 8) [vR 489] Y (fun I3 => CV mX11_dropsNots (d + 8) [vR 489] I3 (fun I4 => (((I4 489 5) ≠ 0 → J none mX11_test (d + 9) 0 0 2 [(0, vR 489), (1, vI 0)] [] (mk I4) (PV Kt)) ∧ ((I4 489 5) = 0 → CI mX11_goesOnTest (d + 8) [vR 489] I4 (KVx d Kt)))))) : TPx d Kt X := by
  have hi' := hm.2.1
  have lk : lkv t i ≠ 91 := fun u => n1 ((lkv_sg ht hi' (by omega) (by unfold ltr; omega) (by unfold dgt; omega)).mp u)
  refine bk_X11_test_2 ⟨fun z => absurd z (by decide), fun _ => ⟨fun z => absurd hm.2.2.1.2 z, fun _ => c11_lookK ht hm (fun Y fY mY => ⟨fun _ => ?_, fun z => absurd z lk⟩)⟩⟩
  have rY := RSc_m r (MFr_l fY)
  exact c11_isHereW (w := 18) rfl (by omega) ht mY (fun u => absurd u n2) (fun _ Z fZ mZ => ⟨fun _ => k Z mZ (RSc_m rY (MFr_l fZ)), fun z => absurd rfl z⟩)
theorem tp_factS {D : Nat} {cs : List Int} (ht : TKN t) (hD : D ≤ 6) (hm : MRk t X i) (r : RSc X0 X T 0 (6 - (D : Int)) C) (bd : C.length + T.length + 1 ≤ i) (hT : tp4 T) (np : npt t i) (h : Fsm t D i j cs) (nl : ∀ N R, T = N ++ R → a16 N → (N.length : Int) ≤ 6 - (D : Int)) (k : ∀ (Y : HI) (N R : List Int), T = N ++ R → a16 N → tpn R 16 → MRk t Y j → RSc X0 Y R 0 (6 - (D : Int) - N.length) (C ++ cs ++ N) → VPx d Kt Y) : TPx d Kt X := by
  have hc : uK t i ≠ 18 ∧ ¬ sgn t i 91 := by
    rcases h with u | u
    · exact ⟨by omega, fun v => by have := v.1; omega⟩
    · exact ⟨u.1.1, u.1.2.2⟩
  have len := Fts_len D i j cs (Fts_b h)
  refine tp_fact ht hm r hc.2 hc.1 (fun Y mY rY => c11_factS ht hD mY rY bd hT np h (fun Z mZ rZ => ?_))
  obtain ⟨N, R, e, hN, hR⟩ := spl16 T
  have jn := mZ.2.1
  have n16 := ht.1.2
  rw [e] at rZ
  refine c11_dropsNots hR N (C ++ cs) _ Z hN mZ rZ (by rw [← e, List.length_append]; omega) (nl N R e hN) (by omega) (fun V mV rV => ⟨fun z => absurd mV.2.2.1.2 z, fun _ => k V N R e hN hR mV rV⟩)
theorem tp_factF {D : Nat} {kf p : Int} (ht : TKN t) (hD : D ≤ 6) (hm : MRk t X i) (r : RSc X0 X T 0 (6 - (D : Int)) C) (bd : C.length + T.length + 1 ≤ i) (hT : tp4 T) (np : npt t i) (h : Fsf t D i kf p) (k : ∀ Y : HI, FTm X0 Y kf p 1600 → Kt Y) : TPx d Kt X := by
  refine tp_fact ht hm r h.1.2.2 h.1.1 (fun Y mY rY => c11_factF ht hD mY rY bd hT np h (fun Z fZ => bk_X11_dropsNots_0 ⟨fun _ => PV_i ⟨fun _ => tp_bad (FTm_b fZ) (k Z fZ), fun z => absurd z (FTm_b fZ)⟩, fun z => absurd z (FTm_b fZ)⟩))
theorem vp_to (ht : TKN t) (hm : MRk t X j) (r : RSc X0 X T 0 o C) (t16 : T.length ≤ 1700) (hn : ¬ sgn t j 93 ∨ ¬ 25 ∈ T) (ka : (uK t j = 17 ∧ ¬ jnd t j) → ∀ Y : HI, MRk t Y (j + 1) → RSc X0 Y T 0 o C → J none mX11_goesOnTest (d + 8) 0 0 87 [(0, vR 489)] [] (mk Y) (PI (KVx d Kt))) (ko : ¬ (uK t j = 17 ∧ ¬ jnd t j) → (uK t j = 16 ∧ ¬ jnd t j) → ∀ Y : HI, MRk t Y (j + 1) → RSc X0 Y T 0 o C → J none mX11_goesOnTest (d + 8) 0 0 137 [(0, vR 489)] [] (mk Y) (PI (KVx d Kt))) (ke : ¬ (uK t j = 17 ∧ ¬ jnd t j) → ¬ (uK t j = 16 ∧ ¬ jnd t j) → ¬ 25 ∈ T → ∀ Y : HI, MRk t Y j → RSc X0 Y T 0 o C → KVx d Kt 0 Y) (kn : ¬ (uK t j = 17 ∧ ¬ jnd t j) → ¬ (uK t j = 16 ∧ ¬ jnd t j) → 25 ∈ T → ∀ Z Y : HI, MFr X Z → Z 489 2 = uS t j → FLf Z Y 1 (uS t j) → KVx d Kt 0 Y) : VPx d Kt X := by
  have sgw := lkv_sg ht hm.2.1 (c := 93) (by omega) (by unfold ltr; omega) (by unfold dgt; omega)
  have block : ∀ Y : HI, MFr X Y → MRk t Y j → RSc X0 Y T 0 o C → CI mX11_takes (d + 7) [vR 489, vR 508] Y (fun x6 I6 => ((x6 = 0 → CI mX11_takes (d + 7) [vR 489, vR 507] I6 (fun x7 I7 => ((x7 = 0 → (((I7 489 5) ≠ 0 → (PI (KVx d Kt)) (some (vI 0)) (mk I7)) ∧ ((I7 489 5) = 0 → CI mX11_hasSquare (d + 7) [vR 489] I7 (fun x8 I8 => ((x8 = 0 → (PI (KVx d Kt)) (some (vI 0)) (mk I8)) ∧ (¬ (x8 = 0) → CV mX11_fail (d + 7) [vR 489, vI 1, vI (I8 489 2)] I8 (fun I9 => (PI (KVx d Kt)) (some (vI 0)) (mk I9)))))))) ∧ (¬ (x7 = 0) → J none mX11_goesOnTest (d + 8) 0 0 137 [(0, vR 489)] [] (mk I7) (PI (KVx d Kt)))))) ∧ (¬ (x6 = 0) → J none mX11_goesOnTest (d + 8) 0 0 87 [(0, vR 489)] [] (mk I6) (PI (KVx d Kt))))) := by
    intro Y fY mY rY
    refine c11_takesW (w := 17) rfl (by omega) ht mY (fun e1 e2 Z fZ mZ => ⟨fun z => by omega, fun _ => ka ⟨e1, e2⟩ Z mZ (RSc_m rY (MFr_t fZ))⟩) (fun na Z fZ mZ => ⟨fun _ => ?_, fun z => absurd rfl z⟩)
    have rZ := RSc_m rY (MFr_l fZ)
    refine c11_takesW (w := 16) rfl (by omega) ht mZ (fun e1 e2 V fV mV => ⟨fun z => by omega, fun _ => ko na ⟨e1, e2⟩ V mV (RSc_m rZ (MFr_t fV))⟩) (fun no V fV mV => ⟨fun _ => ⟨fun z => absurd mV.2.2.1.2 z, fun _ => ?_⟩, fun z => absurd rfl z⟩)
    have rV := RSc_m rZ (MFr_l fV)
    refine c11_hasSquare rV t16 (fun h => ⟨fun z => by omega, fun _ => ?_⟩) (fun h => ⟨fun _ => PI_i (ke na no h V mV rV), fun z => absurd rfl z⟩)
    rw [fV.2.2]
    exact c11_fail mV.2.2.1.2 (fun U fU => PI_i (kn na no h V U (MFr_tr fY (MFr_tr (MFr_l fZ) (MFr_l fV))) fV.2.2 fU))
  refine bk_X11_goesOnTest_0 ⟨fun z => absurd hm.2.2.1.2 z, fun _ => c11_lookK ht hm (fun Y fY mY => ?_)⟩
  have rY := RSc_m r (MFr_l fY)
  refine ⟨fun _ => block Y (MFr_l fY) mY rY, fun w => c11_hasSquare rY t16 (fun h => ?_) (fun h => ⟨fun _ => block Y (MFr_l fY) mY rY, fun z => absurd rfl z⟩)⟩
  rcases hn with u | u
  · exact absurd (sgw.mp w) u
  · exact absurd h u
theorem go_33 {R : List Int} (ho : 1 ≤ o) (o6 : o ≤ 6) (nl : ∀ N R', R = N ++ R' → a16 N → (N.length : Int) ≤ o - 1) (k : ∀ (Y : HI) (N R' : List Int), R = N ++ R' → a16 N → tpn R' 16 → MRk t Y j → RSc X0 Y R' 0 (o - 1 - N.length) (C ++ T ++ N) → VPx d Kt Y) : ∀ (W C1 : List Int) (X : HI), C1 ++ W = C ++ T → (∀ x ∈ W, x ≠ 25) → MRk t X j → RSc X0 X (W ++ 25 :: R) 0 o C1 → C1.length + (W ++ 25 :: R).length ≤ 1600 → J none mX11_goesOnTest (d + 8) 0 0 33 [(0, vR 489)] [] (mk X) (PI (KVx d Kt))
  | [], C1, X, e, hw, mX, rX, hl => by
    have hl' : C1.length + (R.length + 1) ≤ 1600 := hl
    refine bk_X11_goesOnTest_33 (c11_isOnY (x := 25) (R := R) rX (by omega) (fun _ => ⟨fun _ => ?_, fun z => by omega⟩) (fun z => absurd rfl z))
    obtain ⟨h1, h2, h3, h4, h5, h6⟩ := rX
    have l : X 489 49 = (R.length : Int) + 1 := by rw [h2.1]; simp
    rw [l]
    refine ⟨by omega, fun I2 e2 => ?_⟩
    have q2 : I2 489 50 = o := by rw [e2, up_n (by decide)]; exact h3.2
    rw [q2]
    refine ⟨by omega, fun I3 e3 => ?_⟩
    have m3 : MRk t I3 j := MRk_o mX (fun c a _ _ => by rw [e3, up_k a, e2, up_k a]) (fun i _ _ => by rw [e3, up_n (by omega), e2, up_n (by omega)])
    obtain ⟨N, R', eR, hN, hR'⟩ := spl16 R
    have r3 : RSc X0 I3 R 0 (o - 1) C1 := by
      refine ⟨?_, ⟨?_, ?_⟩, ⟨?_, ?_⟩, ?_, ?_, ?_⟩
      · rw [e3, up_n (by decide), up_k (by decide), e2, up_n (by decide), up_k (by decide)]; exact h1
      · rw [e3, up_n (by decide), e2, up_s]; omega
      · rw [e3, up_k (by decide), e2, up_k (by decide)]; exact h2.2.2
      · rw [e3, up_n (by decide), e2, up_n (by decide)]; exact h3.1
      · rw [e3, up_s]
      · exact fun c a b' e => by rw [e3, up_k a, e2, up_k a, h4 c a b' e]
      · exact fun i a b' c e e2' e3' e4 e5' => by rw [e3, up_n (by omega), e2, up_n (by omega), h5 i a b' c e e2' e3' e4 e5']
      · exact fun k hk => by rw [e3, up_k (by decide), e2, up_k (by decide), h6 k hk]
    rw [eR] at r3
    rw [List.append_nil] at e
    exact c11_dropsNots hR' N C1 (o - 1) I3 hN m3 r3 (by rw [← eR]; omega) (nl N R' eR hN) (by omega) (fun Y mY rY => k Y N R' eR hN hR' mY (by rw [← e]; exact rY))
  | x :: W, C1, X, e, hw, mX, rX, hl => by
    have ih := fun Y => go_33 ho o6 nl k W (C1 ++ [x]) Y (by rw [← e]; simp) (fun y hy => hw y (List.mem_cons_of_mem _ hy))
    have hl' : C1.length + ((W ++ 25 :: R).length + 1) ≤ 1600 := hl
    refine bk_X11_goesOnTest_33 (c11_isOnY (R := W ++ 25 :: R) rX (by omega) (fun u => absurd u (hw x List.mem_cons_self)) (fun _ => ⟨fun z => absurd rfl z, fun _ => c11_drops (R := W ++ 25 :: R) mX rX (by omega) (by omega) (fun Y mY rY => ?_)⟩))
    have := ih Y mY rY (by simp only [List.length_append, List.length_cons, List.length_nil] at *; omega)
    exact this
theorem vp_close {R W : List Int} (ht : TKN t) (hm : MRk t X j) (r : RSc X0 X (W ++ 25 :: R) 0 o C) (bd : C.length + (W ++ 25 :: R).length + 1 ≤ j) (hw : ∀ x ∈ W, x ≠ 25) (s : sgn t j 93) (ho : 1 ≤ o) (o6 : o ≤ 6) (nl : ∀ N R', R = N ++ R' → a16 N → (N.length : Int) ≤ o - 1) (k : ∀ (Y : HI) (N R' : List Int), R = N ++ R' → a16 N → tpn R' 16 → MRk t Y (j + 1) → RSc X0 Y R' 0 (o - 1 - N.length) (C ++ W ++ N) → VPx d Kt Y) : VPx d Kt X := by
  have n16 := ht.1.2
  have hj := hm.2.1
  have kk := tK_e ht hj
  have sgw := (lkv_sg ht hm.2.1 (c := 93) (by omega) (by unfold ltr; omega) (by unfold dgt; omega)).mpr s
  refine bk_X11_goesOnTest_0 ⟨fun z => absurd hm.2.2.1.2 z, fun _ => c11_lookK ht hm (fun Y fY mY => ⟨fun z => absurd sgw z, fun _ => ?_⟩)⟩
  have rY := RSc_m r (MFr_l fY)
  refine c11_hasSquare rY (by omega) (fun h => ⟨fun z => by omega, fun _ => ?_⟩) (fun h => absurd (List.mem_append.mpr (Or.inr List.mem_cons_self)) h)
  rw [fY.2.2]
  refine ⟨by omega, fun I15 e15 => ?_⟩
  have f15 : LKf Y I15 (uS t j + 1) := ⟨fun k hk => by rw [e15, up_k hk], fun j hj => by rw [e15, up_n (by omega)], by rw [e15, up_s]; omega⟩
  exact go_33 ho o6 nl k W C I15 rfl hw (MRk_sg ht mY (sgn_lt ht hj s) s.1 f15) (RSc_m rY (MFr_l f15)) (by omega)
theorem go_87 {R : List Int} (nR : tpn R 14) (k : ∀ Y : HI, MRk t Y j → RSc X0 Y (14 :: R) b o (C ++ T) → TPx d Kt Y) : ∀ (W C1 : List Int) (X : HI), C1 ++ W = C ++ T → (∀ x ∈ W, x = 14) → MRk t X j → RSc X0 X (W ++ R) b o C1 → C1.length + (W ++ R).length ≤ 1600 → J none mX11_goesOnTest (d + 8) 0 0 87 [(0, vR 489)] [] (mk X) (PI (KVx d Kt))
  | [], C1, X, e, hw, mX, rX, hl => by
    have hl' : C1.length + R.length ≤ 1600 := hl
    have rX' : RSc X0 X R b o C1 := rX
    refine bk_X11_goesOnTest_87 (c11_isOnN rX' (by omega) nR ⟨fun _ => ?_, fun z => absurd rfl z⟩)
    have l : X 489 49 = (R.length : Int) := rX'.2.1.1
    rw [l, Int.toNat_natCast]
    refine ⟨by omega, fun I4 e4 => ?_⟩
    have l4 : I4 489 49 = (R.length : Int) := by rw [e4, up_k (by decide), l]
    rw [l4]
    refine ⟨by omega, fun I5 e5 => ?_⟩
    obtain ⟨m5, r5⟩ := RSc_push mX rX' e4 e5
    exact PI_i ⟨fun z => absurd z (by decide), fun _ => k I5 m5 (by rw [← e, List.append_nil]; exact r5)⟩
  | x :: W, C1, X, e, hw, mX, rX, hl => by
    have ih := fun Y => go_87 nR k W (C1 ++ [x]) Y (by rw [← e]; simp) (fun y hy => hw y (List.mem_cons_of_mem _ hy))
    have hl' : C1.length + ((W ++ R).length + 1) ≤ 1600 := hl
    refine bk_X11_goesOnTest_87 (c11_isOnY (R := W ++ R) rX (by omega) (fun _ => ⟨fun z => by omega, fun _ => c11_drops (R := W ++ R) mX rX (by omega) (by omega) (fun Y mY rY => ?_)⟩) (fun u => absurd (hw x List.mem_cons_self) u))
    have := ih Y mY rY (by simp only [List.length_append, List.length_cons, List.length_nil] at *; omega)
    exact this
theorem go_137 {R : List Int} (nR : tpn R 14) (nR2 : tpn R 15) (k : ∀ Y : HI, MRk t Y j → RSc X0 Y (15 :: R) b o (C ++ T) → TPx d Kt Y) : ∀ (W C1 : List Int) (X : HI), C1 ++ W = C ++ T → (∀ x ∈ W, x = 14 ∨ x = 15) → MRk t X j → RSc X0 X (W ++ R) b o C1 → C1.length + (W ++ R).length ≤ 1600 → J none mX11_goesOnTest (d + 8) 0 0 137 [(0, vR 489)] [] (mk X) (PI (KVx d Kt))
  | [], C1, X, e, hw, mX, rX, hl => by
    have hl' : C1.length + R.length ≤ 1600 := hl
    have rX' : RSc X0 X R b o C1 := rX
    refine bk_X11_goesOnTest_137 (c11_isOnN rX' (by omega) nR ⟨fun z => absurd rfl z, fun _ => c11_isOnN rX' (by omega) nR2 ⟨fun _ => ?_, fun z => absurd rfl z⟩⟩)
    have l : X 489 49 = (R.length : Int) := rX'.2.1.1
    rw [l, Int.toNat_natCast]
    refine ⟨by omega, fun I4 e4 => ?_⟩
    have l4 : I4 489 49 = (R.length : Int) := by rw [e4, up_k (by decide), l]
    rw [l4]
    refine ⟨by omega, fun I5 e5 => ?_⟩
    obtain ⟨m5, r5⟩ := RSc_push mX rX' e4 e5
    exact PI_i ⟨fun z => absurd z (by decide), fun _ => k I5 m5 (by rw [← e, List.append_nil]; exact r5)⟩
  | x :: W, C1, X, e, hw, mX, rX, hl => by
    have ih := fun Y => go_137 nR nR2 k W (C1 ++ [x]) Y (by rw [← e]; simp) (fun y hy => hw y (List.mem_cons_of_mem _ hy))
    have hl' : C1.length + ((W ++ R).length + 1) ≤ 1600 := hl
    have nx : ∀ Y : HI, MRk t Y j → RSc X0 Y (W ++ R) b o (C1 ++ [x]) → J none mX11_goesOnTest (d + 8) 0 0 137 [(0, vR 489)] [] (mk Y) (PI (KVx d Kt)) := fun Y mY rY => ih Y mY rY (by simp only [List.length_append, List.length_cons, List.length_nil] at *; omega)
    refine bk_X11_goesOnTest_137 (c11_isOnY (R := W ++ R) rX (by omega) (fun _ => ⟨fun _ => c11_drops (R := W ++ R) mX rX (by omega) (by omega) nx, fun z => by omega⟩) (fun n4 => ⟨fun z => absurd rfl z, fun _ => c11_isOnY (R := W ++ R) rX (by omega) (fun _ => ⟨fun z => by omega, fun _ => c11_drops (R := W ++ R) mX rX (by omega) (by omega) nx⟩) (fun n5 => ?_)⟩))
    rcases hw x List.mem_cons_self with u | u
    · exact absurd u n4
    · exact absurd u n5
end MTT
