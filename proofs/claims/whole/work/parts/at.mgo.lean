def GPx (d : Nat) (Kg : Int → HI → Prop) (X : HI) : Prop := J none mX11_goesOn (d + 6) 0 0 0 [(0, vR 489)] [] (mk X) (PI Kg)
/-- what is open last is mv -/
def MKV (d : Nat) (X0 : HI) (T : List Int) (b : Nat) (o : Int) (C : List Int) (mv : Int) : Prop := ∀ (KI : Int → HI → Prop) (Y : HI), RSc X0 Y T b o C → KI mv Y → CI mX11_mark (d + 5) [vR 489] Y KI
def clc (m : Int) : List Int := if m = 20 then [] else if m = 23 then [5] else [6]
section MG
variable {d : Nat} {X X0 : HI} {Kg : Int → HI → Prop} {t : Txt} {j b : Nat} {T C : List Int} {o : Int}
theorem MKV_m {m : Int} {R W : List Int} (t16 : (W ++ m :: R).length ≤ 1700) (hm : mkx m) (hb : b ≤ R.length) (hw : ∀ x ∈ W, ¬ mkx x) : MKV d X0 (W ++ m :: R) b o C m := fun KI Y r k => c11_mark r t16 hm hb hw k
theorem MKV_n {R W : List Int} (t16 : (W ++ R).length ≤ 1700) (hb : b = R.length) (hw : ∀ x ∈ W, ¬ mkx x) : MKV d X0 (W ++ R) b o C (-1) := fun KI Y r k => c11_markN r t16 hb hw k
theorem gp_to {mv : Int} (ht : TKN t) (hm : MRk t X j) (r : RSc X0 X T b o C) (hv : MKV d X0 T b o C mv) (hn : ¬ sgn t j 41 ∨ (mv ≠ 20 ∧ mv ≠ 23 ∧ mv ≠ 24)) (k : ∀ Y : HI, MRk t Y j → RSc X0 Y T b o C → J none mX11_goesOn (d + 6) 0 0 118 [(0, vR 489)] [] (mk Y) (PI Kg)) : GPx d Kg X := by
  have sgw := lkv_sg ht hm.2.1 (c := 41) (by omega) (by unfold ltr; omega) (by unfold dgt; omega)
  refine bk_X11_goesOn_0 ⟨fun z => absurd hm.2.2.1.2 z, fun _ => c11_lookK ht hm (fun Y fY mY => ?_)⟩
  have rY := RSc_m r (MFr_l fY)
  refine ⟨fun _ => k Y mY rY, fun w => ?_⟩
  have nm := hn.resolve_left (fun u => u (sgw.mp w))
  exact hv _ Y rY ⟨fun z => absurd z nm.1, fun _ => hv _ Y rY ⟨fun z => absurd z nm.2.1, fun _ => hv _ Y rY ⟨fun _ => k Y mY rY, fun z => absurd z nm.2.2⟩⟩⟩
theorem gp_close {m : Int} {R W : List Int} (ht : TKN t) (hm : MRk t X j) (r : RSc X0 X (W ++ m :: R) b o C) (bd : C.length + (W ++ m :: R).length + 1 ≤ j) (hv : m = 20 ∨ m = 23 ∨ m = 24) (hb : b ≤ R.length) (hw : ∀ x ∈ W, ¬ mkx x) (o0 : 0 < o) (o6 : o ≤ 6) (s : sgn t j 41) (k : ∀ Y : HI, MRk t Y (j + 1) → RSc X0 Y R b (o - 1) (C ++ W ++ clc m) → GPx d Kg Y) : GPx d Kg X := by
  have n16 := ht.1.2
  have hj := hm.2.1
  have kk := tK_e ht hj
  have mm : mkx m := by unfold mkx; omega
  have lW : (W ++ m :: R).length = W.length + R.length + 1 := by simp only [List.length_append, List.length_cons]; omega
  have sgw := (lkv_sg ht hm.2.1 (c := 41) (by omega) (by unfold ltr; omega) (by unfold dgt; omega)).mpr s
  have mv := MKV_m (d := d) (X0 := X0) (o := o) (C := C) (R := R) (W := W) (by omega) mm hb hw
  have blkp : ∀ I2 : HI, MRk t I2 j → RSc X0 I2 (W ++ m :: R) b o C → I2 489 2 = uS t j → (-2147483648 ≤ (I2 489 2) + 1 ∧ (I2 489 2) + 1 ≤ 2147483647) ∧ (∀ I3 : HI, I3 = up I2 489 2 ((I2 489 2) + 1) → CV mX11_dropsToMark (d + 5) [vR 489] I3 (fun I4 => (-2147483648 ≤ (I4 489 49) - 1 ∧ (I4 489 49) - 1 ≤ 2147483647) ∧ (∀ I5 : HI, I5 = up I4 489 49 ((I4 489 49) - 1) → (-2147483648 ≤ (I5 489 50) - 1 ∧ (I5 489 50) - 1 ≤ 2147483647) ∧ (∀ I6 : HI, I6 = up I5 489 50 ((I5 489 50) - 1) → ((0 : Int) ≤ (I6 489 49) ∧ (I6 489 49 : Int) < 1700) ∧ (((I6 525 (I6 489 49).toNat) = 20 → J none mX11_goesOn (d + 6) 0 0 0 [(0, vR 489)] [] (mk I6) (PI Kg)) ∧ (¬ ((I6 525 (I6 489 49).toNat) = 20) → ((0 : Int) ≤ (I6 489 49) ∧ (I6 489 49 : Int) < 1700) ∧ (((I6 525 (I6 489 49).toNat) ≠ 23 → CV mX11_code (d + 5) [vR 489, vI 6] I6 (fun I7 => J none mX11_goesOn (d + 6) 0 0 0 [(0, vR 489)] [] (mk I7) (PI Kg))) ∧ ((I6 525 (I6 489 49).toNat) = 23 → CV mX11_code (d + 5) [vR 489, vI 5] I6 (fun I8 => J none mX11_goesOn (d + 6) 0 0 0 [(0, vR 489)] [] (mk I8) (PI Kg)))))))))) := by
    intro I2 m2 r2 e2
    rw [e2]
    refine ⟨by omega, fun I3 e3 => ?_⟩
    have f3 : LKf I2 I3 (uS t j + 1) := ⟨fun k hk => by rw [e3, up_k hk], fun i hi => by rw [e3, up_n (by omega)], by rw [e3, up_s]; omega⟩
    have m3 := MRk_sg ht m2 (sgn_lt ht hj s) s.1 f3
    refine c11_dropsToMark (t := t) (i := j + 1) (X0 := X0) (b := b) (o := o) (C := C) (T := W) mm hb (fun I4 C' m4 r4 e4 => ?_) W C I3 rfl hw m3 (RSc_m r2 (MFr_l f3)) (by omega)
    obtain ⟨h1, h2, h3, h4, h5, h6⟩ := r4
    have l4 : I4 489 49 = (R.length : Int) + 1 := by rw [h2.1]; simp
    rw [l4]
    refine ⟨by omega, fun I5 e5 => ?_⟩
    have q5 : I5 489 50 = o := by rw [e5, up_n (by decide)]; exact h3.2
    rw [q5]
    refine ⟨by omega, fun I6 e6 => ?_⟩
    have q6 : I6 489 49 = (R.length : Int) := by rw [e6, up_n (by decide), e5, up_s]; omega
    have q7 : I6 525 R.length = m := by rw [e6, up_k (by decide), e5, up_k (by decide)]; exact h2.2.1
    rw [q6, Int.toNat_natCast, q7]
    have m6 : MRk t I6 (j + 1) := MRk_o m4 (fun c a _ _ => by rw [e6, up_k a, e5, up_k a]) (fun i i2 i5 => by rw [e6, up_n (by omega), e5, up_n (by omega)])
    have r6 : RSc X0 I6 R b (o - 1) C' := by
      refine ⟨?_, ⟨q6, ?_⟩, ⟨?_, ?_⟩, ?_, ?_, ?_⟩
      · rw [e6, up_n (by decide), up_k (by decide), e5, up_n (by decide), up_k (by decide)]; exact h1
      · rw [e6, up_k (by decide), e5, up_k (by decide)]; exact h2.2.2
      · rw [e6, up_n (by decide), e5, up_n (by decide)]; exact h3.1
      · rw [e6, up_s]
      · exact fun c a b' e => by rw [e6, up_k a, e5, up_k a, h4 c a b' e]
      · exact fun i a b' c e e2' e3 e4 e5' => by rw [e6, up_n (by omega), e5, up_n (by omega), h5 i a b' c e e2' e3 e4 e5']
      · exact fun k hk => by rw [e6, up_k (by decide), e5, up_k (by decide), h6 k hk]
    have lc : C'.length < 1600 := by rw [e4, List.length_append]; omega
    refine ⟨by omega, fun z => ?_, fun z => ⟨by omega, fun z2 => ?_, fun z2 => ?_⟩⟩
    · refine k I6 m6 ?_
      unfold clc
      rw [if_pos z, List.append_nil, ← e4]
      exact r6
    · refine c11_codeK m6 r6 lc (fun I7 m7 r7 => k I7 m7 ?_)
      unfold clc
      rw [if_neg z, if_neg z2, ← e4]
      exact r7
    · refine c11_codeK m6 r6 lc (fun I7 m7 r7 => k I7 m7 ?_)
      unfold clc
      rw [if_neg z, if_pos z2, ← e4]
      exact r7
  refine bk_X11_goesOn_0 ⟨fun z => absurd hm.2.2.1.2 z, fun _ => c11_lookK ht hm (fun Y fY mY => ⟨fun z => absurd sgw z, fun _ => ?_⟩)⟩
  have rY := RSc_m r (MFr_l fY)
  have bY := blkp Y mY rY fY.2.2
  exact mv _ Y rY ⟨fun _ => bY, fun z => mv _ Y rY ⟨fun _ => bY, fun z2 => mv _ Y rY ⟨fun z3 => by omega, fun _ => bY⟩⟩⟩
theorem go_158 {q : Int} {R : List Int} (nR3 : tpn R 3) (nR4 : tpn R 4) (k : ∀ Y : HI, MRk t Y j → RSc X0 Y (q :: R) b o (C ++ T) → Kg 1 Y) : ∀ (W C1 : List Int) (X : HI), C1 ++ W = C ++ T → (∀ x ∈ W, x = 3 ∨ x = 4) → MRk t X j → RSc X0 X (W ++ R) b o C1 → C1.length + (W ++ R).length ≤ 1600 → J none mX11_goesOn (d + 6) 0 0 158 [(0, vR 489), (1, vI q)] [] (mk X) (PI Kg)
  | [], C1, X, e, hw, mX, rX, hl => by
    have hl' : C1.length + R.length ≤ 1600 := hl
    have rX' : RSc X0 X R b o C1 := rX
    refine bk_X11_goesOn_158 (c11_isOnN rX' (by omega) nR3 ⟨fun z => absurd rfl z, fun _ => c11_isOnN rX' (by omega) nR4 ⟨fun _ => ?_, fun z => absurd rfl z⟩⟩)
    have l : X 489 49 = (R.length : Int) := rX'.2.1.1
    rw [l, Int.toNat_natCast]
    refine ⟨by omega, fun I4 e4 => ?_⟩
    have l4 : I4 489 49 = (R.length : Int) := by rw [e4, up_k (by decide), l]
    rw [l4]
    refine ⟨by omega, fun I5 e5 => ?_⟩
    obtain ⟨m5, r5⟩ := RSc_push mX rX' e4 e5
    exact PI_i (k I5 m5 (by rw [← e, List.append_nil]; exact r5))
  | x :: W, C1, X, e, hw, mX, rX, hl => by
    have ih := fun Y => go_158 nR3 nR4 k W (C1 ++ [x]) Y (by rw [← e]; simp) (fun y hy => hw y (List.mem_cons_of_mem _ hy))
    have hl' : C1.length + ((W ++ R).length + 1) ≤ 1600 := hl
    have nx : ∀ Y : HI, MRk t Y j → RSc X0 Y (W ++ R) b o (C1 ++ [x]) → J none mX11_goesOn (d + 6) 0 0 158 [(0, vR 489), (1, vI q)] [] (mk Y) (PI Kg) := fun Y mY rY => ih Y mY rY (by simp only [List.length_append, List.length_cons, List.length_nil] at *; omega)
    refine bk_X11_goesOn_158 (c11_isOnY (R := W ++ R) rX (by omega) (fun _ => ⟨fun _ => c11_drops (R := W ++ R) mX rX (by omega) (by omega) nx, fun z => by omega⟩) (fun n3 => ⟨fun z => absurd rfl z, fun _ => c11_isOnY (R := W ++ R) rX (by omega) (fun _ => ⟨fun z => by omega, fun _ => c11_drops (R := W ++ R) mX rX (by omega) (by omega) nx⟩) (fun n4 => ?_)⟩))
    rcases hw x List.mem_cons_self with u | u
    · exact absurd u n3
    · exact absurd u n4
theorem go_243 {q : Int} {R : List Int} (nR1 : tpn R 1) (nR2 : tpn R 2) (nR3 : tpn R 3) (nR4 : tpn R 4) (k : ∀ Y : HI, MRk t Y j → RSc X0 Y (q :: R) b o (C ++ T) → Kg 1 Y) : ∀ (W C1 : List Int) (X : HI), C1 ++ W = C ++ T → (∀ x ∈ W, 1 ≤ x ∧ x ≤ 4) → MRk t X j → RSc X0 X (W ++ R) b o C1 → C1.length + (W ++ R).length ≤ 1600 → J none mX11_goesOn (d + 6) 0 0 243 [(0, vR 489), (1, vI q)] [] (mk X) (PI Kg)
  | [], C1, X, e, hw, mX, rX, hl => by
    have hl' : C1.length + R.length ≤ 1600 := hl
    have rX' : RSc X0 X R b o C1 := rX
    refine bk_X11_goesOn_243 (c11_isOnN rX' (by omega) nR3 ⟨fun z => absurd rfl z, fun _ => c11_isOnN rX' (by omega) nR4 ⟨fun z => absurd rfl z, fun _ => c11_isOnN rX' (by omega) nR1 ⟨fun z => absurd rfl z, fun _ => c11_isOnN rX' (by omega) nR2 ⟨fun _ => ?_, fun z => absurd rfl z⟩⟩⟩⟩)
    have l : X 489 49 = (R.length : Int) := rX'.2.1.1
    rw [l, Int.toNat_natCast]
    refine ⟨by omega, fun I4 e4 => ?_⟩
    have l4 : I4 489 49 = (R.length : Int) := by rw [e4, up_k (by decide), l]
    rw [l4]
    refine ⟨by omega, fun I5 e5 => ?_⟩
    obtain ⟨m5, r5⟩ := RSc_push mX rX' e4 e5
    exact PI_i (k I5 m5 (by rw [← e, List.append_nil]; exact r5))
  | x :: W, C1, X, e, hw, mX, rX, hl => by
    have ih := fun Y => go_243 nR1 nR2 nR3 nR4 k W (C1 ++ [x]) Y (by rw [← e]; simp) (fun y hy => hw y (List.mem_cons_of_mem _ hy))
    have hl' : C1.length + ((W ++ R).length + 1) ≤ 1600 := hl
    have nx : ∀ Y : HI, MRk t Y j → RSc X0 Y (W ++ R) b o (C1 ++ [x]) → J none mX11_goesOn (d + 6) 0 0 243 [(0, vR 489), (1, vI q)] [] (mk Y) (PI Kg) := fun Y mY rY => ih Y mY rY (by simp only [List.length_append, List.length_cons, List.length_nil] at *; omega)
    have h14 := hw x List.mem_cons_self
    refine bk_X11_goesOn_243 (c11_isOnY (R := W ++ R) rX (by omega) (fun _ => ⟨fun _ => c11_drops (R := W ++ R) mX rX (by omega) (by omega) nx, fun z => by omega⟩) (fun n3 => ⟨fun z => absurd rfl z, fun _ => c11_isOnY (R := W ++ R) rX (by omega) (fun _ => ⟨fun _ => c11_drops (R := W ++ R) mX rX (by omega) (by omega) nx, fun z => by omega⟩) (fun n4 => ⟨fun z => absurd rfl z, fun _ => c11_isOnY (R := W ++ R) rX (by omega) (fun _ => ⟨fun _ => c11_drops (R := W ++ R) mX rX (by omega) (by omega) nx, fun z => by omega⟩) (fun n1 => ⟨fun z => absurd rfl z, fun _ => c11_isOnY (R := W ++ R) rX (by omega) (fun _ => ⟨fun z => by omega, fun _ => c11_drops (R := W ++ R) mX rX (by omega) (by omega) nx⟩) (fun n2 => by omega)⟩)⟩)⟩))
theorem gp_m {q : Int} {R W : List Int} {mv : Int} (ht : TKN t) (hm : MRk t X j) (r : RSc X0 X (W ++ R) b o C) (hv : MKV d X0 (W ++ R) b o C mv) (bd : C.length + (W ++ R).length + 1 ≤ j) (hw : ∀ x ∈ W, x = 3 ∨ x = 4) (nR3 : tpn R 3) (nR4 : tpn R 4) (s : mop t j q) (k : ∀ Y : HI, MRk t Y (j + 1) → RSc X0 Y (q :: R) b o (C ++ W) → Kg 1 Y) : GPx d Kg X := by
  have n16 := ht.1.2
  have hj := hm.2.1
  have kk := tK_e ht hj
  have e16 := ht.1.1
  have nc : ¬ sgn t j 41 := fun u => by
    rcases s with v | v
    · have := v.1.2; have := u.2; omega
    · have := v.1.2; have := u.2; omega
  have sn : ∀ c : Int, sgn t j c → j < uN t := fun c u => sgn_lt ht hj u
  refine gp_to ht hm r hv (Or.inl nc) (fun Y mY rY => ?_)
  have pv : ∀ (c : Int) (Z : HI), sgn t j c → LKf Y Z (uS t j + 1) → (-2147483648 ≤ Z 489 2 - 1 ∧ Z 489 2 - 1 ≤ 2147483647) ∧ ((0 : Int) ≤ (Z 489 2) - 1 ∧ ((Z 489 2) - 1 : Int) < 1600) ∧ Z 490 ((Z 489 2) - 1).toNat = c := fun c Z u fZ => by
    have tn := tK_n ht (sn c u)
    rw [fZ.2.2, show ((uS t j + 1 : Nat) : Int) - 1 = (uS t j : Int) from by omega, Int.toNat_natCast, fZ.1 490 (by decide), mY.1.1 _ (by omega)]
    exact ⟨by omega, by omega, u.2⟩
  refine bk_X11_goesOn_118 (c11_takesSg ht mY (by omega) (by unfold ltr; omega) (by unfold dgt; omega) (fun u Z fZ mZ => ⟨fun _ => ?_, fun z => by omega⟩) (fun u Z fZ mZ => ⟨fun z => absurd rfl z, fun _ => ?_⟩))
  · obtain ⟨p1, p2, p3⟩ := pv 42 Z u fZ
    have eq : q = 3 := by
      rcases s with v | v
      · exact v.2
      · have := v.1.2; have := u.2; omega
    subst eq
    exact ⟨p1, p2, fun z => absurd p3 z, fun _ => go_158 nR3 nR4 k W C Z rfl hw mZ (RSc_m rY (MFr_l fZ)) (by omega)⟩
  · have rZ := RSc_m rY (MFr_l fZ)
    have s2 : sgn t j 47 ∧ q = 4 := by
      rcases s with v | v
      · exact absurd v.1 u
      · exact v
    refine c11_takesSg ht mZ (by omega) (by unfold ltr; omega) (by unfold dgt; omega) (fun u2 V fV mV => ⟨fun z => by omega, fun _ => ?_⟩) (fun u2 => absurd s2.1 u2)
    have tn := tK_n ht (sn 47 s2.1)
    have eV : V 490 ((V 489 2) - 1).toNat = 47 := by
      rw [fV.2.2, show ((uS t j + 1 : Nat) : Int) - 1 = (uS t j : Int) from by omega, Int.toNat_natCast, fV.1 490 (by decide), mZ.1.1 _ (by omega)]
      exact s2.1.2
    have l2 : V 489 2 = ((uS t j + 1 : Nat) : Int) := fV.2.2
    have := s2.2
    subst this
    exact ⟨by omega, by omega, fun _ => go_158 nR3 nR4 k W C V rfl hw mV (RSc_m rZ (MFr_l fV)) (by omega), fun z => by omega⟩
theorem gp_118 (ht : TKN t) (hm : MRk t X j) (r : RSc X0 X T b o C) (n1 : ∀ q, ¬ mop t j q) (ka : ∀ q Y, aop t j q → MRk t Y (j + 1) → RSc X0 Y T b o C → J none mX11_goesOn (d + 6) 0 0 243 [(0, vR 489), (1, vI q)] [] (mk Y) (PI Kg)) (k : (∀ q, ¬ aop t j q) → ∀ Y : HI, MRk t Y j → RSc X0 Y T b o C → Y 489 2 = uS t j → CI mX11_mark (d + 5) [vR 489] Y (fun x5 I5 => ((x5 = 21 → CV mX11_asksSign (d + 5) [vR 489, vI 44] I5 (fun I6 => (((I6 489 5) = 0 → CV mX11_dropsToMark (d + 5) [vR 489] I6 (fun I7 => (-2147483648 ≤ (I7 489 49) - 1 ∧ (I7 489 49) - 1 ≤ 2147483647) ∧ ((0 : Int) ≤ ((I7 489 49) - 1) ∧ ((I7 489 49) - 1 : Int) < 1700) ∧ (-2147483648 ≤ (I7 525 ((I7 489 49) - 1).toNat) + 2 ∧ (I7 525 ((I7 489 49) - 1).toNat) + 2 ≤ 2147483647) ∧ ((0 : Int) ≤ ((I7 489 49) - 1) ∧ ((I7 489 49) - 1 : Int) < 1700) ∧ (∀ I8 : HI, I8 = up I7 525 ((I7 489 49) - 1).toNat ((I7 525 ((I7 489 49) - 1).toNat) + 2) → (PI Kg) (some (vI 1)) (mk I8)))) ∧ (¬ ((I6 489 5) = 0) → (PI Kg) (some (vI 0)) (mk I6))))) ∧ (¬ (x5 = 21) → CI mX11_mark (d + 5) [vR 489] I5 (fun x8 I9 => ((x8 ≠ 22 → CI mX11_mark (d + 5) [vR 489] I9 (fun x9 I10 => ((x9 = (-1) → (PI Kg) (some (vI 0)) (mk I10)) ∧ (¬ (x9 = (-1)) → (((I10 489 5) ≠ 0 → (PI Kg) (some (vI 0)) (mk I10)) ∧ ((I10 489 5) = 0 → CV mX11_fail (d + 5) [vR 489, vI 1, vI (I10 489 2)] I10 (fun I11 => (PI Kg) (some (vI 0)) (mk I11)))))))) ∧ (x8 = 22 → CV mX11_asksSign (d + 5) [vR 489, vI 44] I9 (fun I12 => (((I12 489 5) = 0 → CV mX11_dropsToMark (d + 5) [vR 489] I12 (fun I13 => (-2147483648 ≤ (I13 489 49) - 1 ∧ (I13 489 49) - 1 ≤ 2147483647) ∧ ((0 : Int) ≤ ((I13 489 49) - 1) ∧ ((I13 489 49) - 1 : Int) < 1700) ∧ (-2147483648 ≤ (I13 525 ((I13 489 49) - 1).toNat) + 2 ∧ (I13 525 ((I13 489 49) - 1).toNat) + 2 ≤ 2147483647) ∧ ((0 : Int) ≤ ((I13 489 49) - 1) ∧ ((I13 489 49) - 1 : Int) < 1700) ∧ (∀ I14 : HI, I14 = up I13 525 ((I13 489 49) - 1).toNat ((I13 525 ((I13 489 49) - 1).toNat) + 2) → (PI Kg) (some (vI 1)) (mk I14)))) ∧ (¬ ((I12 489 5) = 0) → (PI Kg) (some (vI 0)) (mk I12))))))))))) : J none mX11_goesOn (d + 6) 0 0 118 [(0, vR 489)] [] (mk X) (PI Kg) := by
  have hj := hm.2.1
  have kk := tK_e ht hj
  have e16 := ht.1.1
  refine bk_X11_goesOn_118 (c11_takesSg ht hm (by omega) (by unfold ltr; omega) (by unfold dgt; omega) (fun u => absurd (Or.inl ⟨u, rfl⟩) (n1 3)) (fun u Z fZ mZ => ⟨fun z => absurd rfl z, fun _ => ?_⟩))
  have rZ := RSc_m r (MFr_l fZ)
  refine c11_takesSg ht mZ (by omega) (by unfold ltr; omega) (by unfold dgt; omega) (fun u2 => absurd (Or.inr ⟨u2, rfl⟩) (n1 4)) (fun u2 V fV mV => ⟨fun _ => ?_, fun z => absurd rfl z⟩)
  have rV := RSc_m rZ (MFr_l fV)
  refine c11_takesSg ht mV (by omega) (by unfold ltr; omega) (by unfold dgt; omega) (fun u3 U fU mU => ⟨fun _ => ?_, fun z => by omega⟩) (fun u3 U fU mU => ⟨fun z => absurd rfl z, fun _ => ?_⟩)
  · have tn := tK_n ht (sgn_lt ht hj u3)
    have eV : U 490 ((U 489 2) - 1).toNat = 43 := by
      rw [fU.2.2, show ((uS t j + 1 : Nat) : Int) - 1 = (uS t j : Int) from by omega, Int.toNat_natCast, fU.1 490 (by decide), mV.1.1 _ (by omega)]
      exact u3.2
    have l2 : U 489 2 = ((uS t j + 1 : Nat) : Int) := fU.2.2
    exact ⟨by omega, by omega, fun z => absurd eV z, fun _ => ka 1 U (Or.inl ⟨u3, rfl⟩) mU (RSc_m rV (MFr_l fU))⟩
  · have rU := RSc_m rV (MFr_l fU)
    refine c11_takesSg ht mU (by omega) (by unfold ltr; omega) (by unfold dgt; omega) (fun u4 S fS mS => ⟨fun z => by omega, fun _ => ?_⟩) (fun u4 S fS mS => ⟨fun _ => ?_, fun z => absurd rfl z⟩)
    · have tn := tK_n ht (sgn_lt ht hj u4)
      have eV : S 490 ((S 489 2) - 1).toNat = 45 := by
        rw [fS.2.2, show ((uS t j + 1 : Nat) : Int) - 1 = (uS t j : Int) from by omega, Int.toNat_natCast, fS.1 490 (by decide), mU.1.1 _ (by omega)]
        exact u4.2
      have l2 : S 489 2 = ((uS t j + 1 : Nat) : Int) := fS.2.2
      exact ⟨by omega, by omega, fun _ => ka 2 S (Or.inr ⟨u4, rfl⟩) mS (RSc_m rU (MFr_l fS)), fun z => by omega⟩
    · refine k (fun q v => ?_) S mS (RSc_m rU (MFr_l fS)) fS.2.2
      rcases v with v | v
      · exact u3 v.1
      · exact u4 v.1
theorem gp_a {q : Int} {R W : List Int} {mv : Int} (ht : TKN t) (hm : MRk t X j) (r : RSc X0 X (W ++ R) b o C) (hv : MKV d X0 (W ++ R) b o C mv) (bd : C.length + (W ++ R).length + 1 ≤ j) (hw : ∀ x ∈ W, 1 ≤ x ∧ x ≤ 4) (nR1 : tpn R 1) (nR2 : tpn R 2) (nR3 : tpn R 3) (nR4 : tpn R 4) (n1 : ∀ q, ¬ mop t j q) (s : aop t j q) (k : ∀ Y : HI, MRk t Y (j + 1) → RSc X0 Y (q :: R) b o (C ++ W) → Kg 1 Y) : GPx d Kg X := by
  have n16 := ht.1.2
  have hj := hm.2.1
  have nc : ¬ sgn t j 41 := fun u => by
    rcases s with v | v
    · have := v.1.2; have := u.2; omega
    · have := v.1.2; have := u.2; omega
  refine gp_to ht hm r hv (Or.inl nc) (fun Y mY rY => gp_118 ht mY rY n1 (fun q' Z s' mZ rZ => ?_) (fun n2 => absurd s (n2 q)))
  have eq : q' = q := by
    rcases s with v | v
    · rcases s' with v' | v'
      · omega
      · have := v.1.2; have := v'.1.2; omega
    · rcases s' with v' | v'
      · have := v.1.2; have := v'.1.2; omega
      · omega
  subst eq
  exact go_243 nR1 nR2 nR3 nR4 k W C Z rfl hw mZ rZ (by omega)
theorem gp_comma {m : Int} {R W : List Int} (ht : TKN t) (hm : MRk t X j) (r : RSc X0 X (W ++ m :: R) b o C) (bd : C.length + (W ++ m :: R).length + 1 ≤ j) (hv : m = 21 ∨ m = 22) (hb : b ≤ R.length) (hw : ∀ x ∈ W, ¬ mkx x) (n1 : ∀ q, ¬ mop t j q) (n2 : ∀ q, ¬ aop t j q) (k1 : sgn t j 44 → ∀ Y : HI, MRk t Y (j + 1) → RSc X0 Y ((m + 2) :: R) b o (C ++ W) → Kg 1 Y) (k0 : ¬ sgn t j 44 → ∀ Y : HI, FTm X0 Y 1 (uS t j) C.length → Kg 0 Y) : GPx d Kg X := by
  have n16 := ht.1.2
  have hj := hm.2.1
  have mm : mkx m := by unfold mkx; omega
  have lW : (W ++ m :: R).length = W.length + R.length + 1 := by simp only [List.length_append, List.length_cons]; omega
  have mv := MKV_m (d := d) (X0 := X0) (o := o) (C := C) (R := R) (W := W) (by omega) mm hb hw
  refine gp_to ht hm r mv (Or.inr ⟨by omega, by omega, by omega⟩) (fun Y mY rY => gp_118 ht mY rY n1 (fun q' Z s' => absurd s' (n2 q')) (fun _ Z mZ rZ z2 => ?_))
  have asks : CV mX11_asksSign (d + 5) [vR 489, vI 44] Z (fun I6 => (((I6 489 5) = 0 → CV mX11_dropsToMark (d + 5) [vR 489] I6 (fun I7 => (-2147483648 ≤ (I7 489 49) - 1 ∧ (I7 489 49) - 1 ≤ 2147483647) ∧ ((0 : Int) ≤ ((I7 489 49) - 1) ∧ ((I7 489 49) - 1 : Int) < 1700) ∧ (-2147483648 ≤ (I7 525 ((I7 489 49) - 1).toNat) + 2 ∧ (I7 525 ((I7 489 49) - 1).toNat) + 2 ≤ 2147483647) ∧ ((0 : Int) ≤ ((I7 489 49) - 1) ∧ ((I7 489 49) - 1 : Int) < 1700) ∧ (∀ I8 : HI, I8 = up I7 525 ((I7 489 49) - 1).toNat ((I7 525 ((I7 489 49) - 1).toNat) + 2) → (PI Kg) (some (vI 1)) (mk I8)))) ∧ (¬ ((I6 489 5) = 0) → (PI Kg) (some (vI 0)) (mk I6)))) := by
    refine c11_asksSg ht mZ (by omega) (by unfold ltr; omega) (by unfold dgt; omega) (fun s V fV mV => ⟨fun _ => ?_, fun z => absurd mV.2.2.1.2 z⟩) (fun s V1 V2 f1 f2 => ⟨fun z => ?_, fun _ => PI_i (k0 s V2 (FTm_of rZ (MFr_l f1) f2 (by decide) (Int.le_refl _) (by rw [f1.2.2]; have := tK_e ht hj; omega)))⟩)
    · refine c11_dropsToMark (t := t) (i := j + 1) (X0 := X0) (b := b) (o := o) (C := C) (T := W) mm hb (fun I4 C' m4 r4 e4 => ?_) W C V rfl hw mV (RSc_m rZ (MFr_l fV)) (by omega)
      obtain ⟨h1, h2, h3, h4, h5, h6⟩ := r4
      have l4 : I4 489 49 = (R.length : Int) + 1 := by rw [h2.1]; simp
      rw [l4, show ((R.length : Int) + 1 - 1).toNat = R.length from by omega, h2.2.1]
      refine ⟨by omega, by omega, by omega, by omega, fun I8 e8 => PI_i (k1 s I8 (MRk_o m4 (fun c _ _ a => by rw [e8, up_k a]) (fun i _ _ => by rw [e8, up_k (by decide)])) ?_)⟩
      rw [← e4]
      refine ⟨?_, ⟨?_, ?_, ?_⟩, ?_, ?_, ?_, ?_⟩
      · rw [e8, up_k (by decide), up_k (by decide)]; exact h1
      · rw [e8, up_k (by decide), l4]; simp
      · rw [e8, up_s]
      · exact STK_cg R (fun k hk => by rw [e8, up_n (by omega)]) h2.2.2
      · rw [e8, up_k (by decide)]; exact h3
      · exact fun c a b' e => by rw [e8, up_k e, h4 c a b' e]
      · exact fun i a b' c e e2' e3 e4 e5' => by rw [e8, up_k (by decide), h5 i a b' c e e2' e3 e4 e5']
      · exact fun k hk => by rw [e8, up_k (by decide), h6 k hk]
    · have := f2.2.2.1
      omega
  rcases hv with e | e
  · exact mv _ Z rZ ⟨fun _ => asks, fun z => absurd e z⟩
  · exact mv _ Z rZ ⟨fun z => by omega, fun _ => mv _ Z rZ ⟨fun z => absurd e z, fun _ => asks⟩⟩
theorem gp_no {m : Int} {R W : List Int} (ht : TKN t) (hm : MRk t X j) (r : RSc X0 X (W ++ m :: R) b o C) (bd : C.length + (W ++ m :: R).length + 1 ≤ j) (hv : m = 20 ∨ m = 23 ∨ m = 24) (hb : b ≤ R.length) (hw : ∀ x ∈ W, ¬ mkx x) (n1 : ∀ q, ¬ mop t j q) (n2 : ∀ q, ¬ aop t j q) (s : ¬ sgn t j 41) (k0 : ∀ Y : HI, FTm X0 Y 1 (uS t j) C.length → Kg 0 Y) : GPx d Kg X := by
  have n16 := ht.1.2
  have hj := hm.2.1
  have mm : mkx m := by unfold mkx; omega
  have mv := MKV_m (d := d) (X0 := X0) (o := o) (C := C) (R := R) (W := W) (by omega) mm hb hw
  refine gp_to ht hm r mv (Or.inl s) (fun Y mY rY => gp_118 ht mY rY n1 (fun q' Z s' => absurd s' (n2 q')) (fun _ Z mZ rZ z2 => ?_))
  refine mv _ Z rZ ⟨fun z => by omega, fun _ => mv _ Z rZ ⟨fun _ => mv _ Z rZ ⟨fun z => by omega, fun _ => ⟨fun z => absurd mZ.2.2.1.2 z, fun _ => ?_⟩⟩, fun z => by omega⟩⟩
  rw [z2]
  exact c11_fail mZ.2.2.1.2 (fun V fV => PI_i (k0 V (FTm_of rZ (MFr_rfl Z) fV (by decide) (Int.le_refl _) (by rw [z2]; have := tK_e ht hj; omega))))
theorem gp_end {R W : List Int} (ht : TKN t) (hm : MRk t X j) (r : RSc X0 X (W ++ R) b o C) (bd : C.length + (W ++ R).length + 1 ≤ j) (hb : b = R.length) (hw : ∀ x ∈ W, ¬ mkx x) (n1 : ∀ q, ¬ mop t j q) (n2 : ∀ q, ¬ aop t j q) (k : ∀ Y : HI, MRk t Y j → RSc X0 Y (W ++ R) b o C → Kg 0 Y) : GPx d Kg X := by
  have n16 := ht.1.2
  have hj := hm.2.1
  have mv := MKV_n (d := d) (X0 := X0) (o := o) (C := C) (R := R) (W := W) (by omega) hb hw
  refine gp_to ht hm r mv (Or.inr ⟨by omega, by omega, by omega⟩) (fun Y mY rY => gp_118 ht mY rY n1 (fun q' Z s' => absurd s' (n2 q')) (fun _ Z mZ rZ z2 => ?_))
  exact mv _ Z rZ ⟨fun z => by omega, fun _ => mv _ Z rZ ⟨fun _ => mv _ Z rZ ⟨fun _ => PI_i (k Z mZ rZ), fun z => absurd rfl z⟩, fun z => by omega⟩⟩
end MG
