/-- names on both sides -/
def NMR (X I : HI) : Prop := (X 518 0 = I 15 0 ∧ X 518 1 = I 15 2) ∧ (0 ≤ I 15 0 ∧ I 15 0 ≤ 10) ∧ (0 ≤ I 15 2 ∧ I 15 2 ≤ 4) ∧ (∀ w : Nat, (w : Int) < I 15 0 → NM (X 519 w) (fun k => I 16 (6 * w + k))) ∧ (∀ w : Nat, (w : Int) < I 15 2 → NM (X 519 (10 + w)) (fun k => I 17 (6 * w + k)))
def CTs (I : HI) (t : Txt) (i w : Nat) : Prop := NAs t i ∧ ((w : Int) < I 15 0 ∧ nmq (I 16) t i w ∧ ∀ w', w' < w → ¬ nmq (I 16) t i w')
def CTf (I : HI) (t : Txt) (i : Nat) (k p : Int) : Prop := NAf t i k p ∨ (NAs t i ∧ k = 3 ∧ p = uS t i ∧ ∀ w : Nat, (w : Int) < I 15 0 → ¬ nmq (I 16) t i w)
theorem NMR_f {X Y I : HI} (h : NMR X I) (e1 : Y 518 = X 518) (e2 : Y 519 = X 519) : NMR Y I := by
  obtain ⟨h1, h2, h3, h4, h5⟩ := h
  exact ⟨by rw [e1]; exact h1, h2, h3, fun w hw => by rw [e2]; exact h4 w hw, fun w hw => by rw [e2]; exact h5 w hw⟩
theorem MRk_c {t : Txt} {X Y : HI} {i : Nat} (hm : MRk t X i) (f : ∀ c, (c = 490 ∨ (491 ≤ c ∧ c ≤ 517)) → Y c = X c) (g : ∀ j, 2 ≤ j → j ≤ 6 → Y 489 j = X 489 j) : MRk t Y i := by
  obtain ⟨⟨a1, a2⟩, a3, a4, a5, a6⟩ := hm
  exact ⟨⟨fun j hj => by rw [f 490 (by omega)]; exact a1 j hj, fun w hw k hk => by rw [f (491 + w) (by omega)]; exact a2 w hw k hk⟩, a3, by rw [g 3 (by omega) (by omega), g 5 (by omega) (by omega)]; exact a4, by rw [g 2 (by omega) (by omega), g 6 (by omega) (by omega)]; exact a5, by rw [g 4 (by omega) (by omega)]; exact a6⟩
section MN2
variable {d : Nat} {X I : HI} {K : HI → Prop} {KI : Int → HI → Prop} {t : Txt} {i : Nat}
theorem nm_q0 (ht : TKN t) (hi : i ≤ uN t) (hr : NMR X I) (hn : NAs t i) {w : Nat} (hw : (w : Int) < I 15 0) : X 519 w = nmv (uA t) (uS t i) (uP t i - uS t i) ↔ nmq (I 16) t i w := NM_eq (hr.2.2.2.1 w hw) (NM_tok ht hi hn)
theorem nm_q1 (ht : TKN t) (hi : i ≤ uN t) (hr : NMR X I) (hn : NAs t i) {w : Nat} (hw : (w : Int) < I 15 2) : X 519 (10 + w) = nmv (uA t) (uS t i) (uP t i - uS t i) ↔ nmq (I 17) t i w := NM_eq (hr.2.2.2.2 w hw) (NM_tok ht hi hn)
theorem NAf_k {k p : Int} (h : NAf t i k p) : k = 1 := by
  rcases h with u | u
  · exact u.2.1
  · exact u.2.2.1
theorem FN_f {Y Z : HI} {k p : Int} (h : NTf X Y) (g : FLf Y Z k p) (b2 : 0 ≤ Y 489 2 ∧ Y 489 2 ≤ 1600) : FNf X Z k p := ⟨fun c hc => by rw [g.1 c hc, h.1 c hc], fun j a b c e f => by rw [g.2.1 j c e, h.2 j a b f], g.2.2.1, g.2.2.2, by rw [g.2.1 2 (by decide) (by decide)]; exact b2⟩
theorem MRk_at (ht : TKN t) (hm : MRk t X i) : 0 ≤ X 489 2 ∧ X 489 2 ≤ 1600 := by
  obtain ⟨p, e, _, l, _⟩ := hm.2.2.2.1
  have := tK_e ht hm.2.1
  rw [e]
  omega
theorem c11_newNameK {kd n : Nat} (kc : kd ≤ 1) (ht : TKN t) (hm : MRk t X i) (hr : NMR X I) (en : X 518 kd = n) (n10 : n ≤ 10) (k1 : NNs I t i → ∀ Y : HI, (∀ c, c ≠ 489 → c ≠ 519 → Y c = X c) → (∀ j, j ≠ 2 → j ≠ 4 → j ≠ 36 → Y 489 j = X 489 j) → (Y 519 (10 * kd + n) = nmv (uA t) (uS t i) (uP t i - uS t i) ∧ ∀ j, j ≠ 10 * kd + n → Y 519 j = X 519 j) → MRk t Y (i + 1) → KI (n : Int) Y) (k0 : ∀ k p, NNf I t i k p → ∀ Y : HI, FNf X Y k p → KI (n : Int) Y) : CI mX11_newName (d + 6) [vR 489, vI (kd : Int)] X KI := by
  obtain ⟨q0, e0⟩ : ∃ q0 : Nat, I 15 0 = q0 := ⟨(I 15 0).toNat, by have := hr.2.1; omega⟩
  obtain ⟨q2, e2⟩ : ∃ q2 : Nat, I 15 2 = q2 := ⟨(I 15 2).toNat, by have := hr.2.2.1; omega⟩
  have r0 := hr.2.1
  have r2 := hr.2.2.1
  have hi := hm.2.1
  refine bk_X11_newName_0 (c11_nameK ht hm (fun hn Y fY y36 mY => ⟨fun z => absurd mY.2.2.1.2 z, fun _ => ?_⟩) (fun k p hf Y fY => ?_))
  · have y518 : Y 518 = X 518 := fY.1 518 (by decide)
    have y519 : Y 519 = X 519 := fY.1 519 (by decide)
    have hrY := NMR_f hr y518 y519
    have ba := MRk_at ht mY
    have flt : ∀ (h : (∃ w : Nat, (w : Int) < I 15 0 ∧ nmq (I 16) t i w) ∨ (∃ w : Nat, (w : Int) < I 15 2 ∧ nmq (I 17) t i w)) (I4 : HI), FLf Y I4 3 (uS t i) → ((0 : Int) ≤ (kd : Int) ∧ ((kd : Int) : Int) < 10) ∧ (((I4 489 5) ≠ 0 → PI KI (some (vI (I4 518 (kd : Int).toNat))) (mk I4)) ∧ ((I4 489 5) = 0 → (-2147483648 ≤ 10 * (kd : Int) ∧ 10 * (kd : Int) ≤ 2147483647) ∧ (-2147483648 ≤ (10 * (kd : Int)) + (I4 518 (kd : Int).toNat) ∧ (10 * (kd : Int)) + (I4 518 (kd : Int).toNat) ≤ 2147483647) ∧ ((0 : Int) ≤ ((10 * (kd : Int)) + (I4 518 (kd : Int).toNat)) ∧ (((10 * (kd : Int)) + (I4 518 (kd : Int).toNat)) : Int) < 40) ∧ (∀ I5 : HI, I5 = up I4 519 ((10 * (kd : Int)) + (I4 518 (kd : Int).toNat)).toNat (nmv (uA t) (uS t i) (uP t i - uS t i)) → PI KI (some (vI (I4 518 (kd : Int).toNat))) (mk I5)))) := by
      intro h I4 f4
      refine ⟨by omega, fun _ => PI_i ?_, fun z => by have := f4.2.2.1; omega⟩
      rw [Int.toNat_natCast, f4.1 518 (by decide), y518, en]
      exact k0 3 _ (Or.inr ⟨hn, rfl, rfl, h⟩) I4 (FN_f fY f4 ba)
    refine c11_nameOf (kd := 0) (c := q0) (by omega) (by rw [y518, hr.1.1]; exact e0) (by omega) (fun x hx => ?_)
    rcases hx with ⟨ex, nx⟩ | ⟨w, wc, ex, hx, _⟩
    · subst ex
      refine ⟨fun z => absurd rfl z, fun _ => ?_⟩
      refine c11_nameOf (kd := 1) (c := q2) (by omega) (by rw [y518, hr.1.2]; exact e2) (by omega) (fun y hy => ?_)
      rcases hy with ⟨ey, ny⟩ | ⟨w, wc, ey, hy, _⟩
      · subst ey
        refine ⟨fun _ => ⟨by omega, fun z => absurd mY.2.2.1.2 z, fun _ => ?_⟩, fun z => absurd rfl z⟩
        rw [Int.toNat_natCast, y518, en, show (10 * (kd : Int) + (n : Int)).toNat = 10 * kd + n from by omega]
        refine ⟨by omega, by omega, by omega, fun I7 e7 => PI_i (k1 ⟨hn, fun v hv u => ?_, fun v hv u => ?_⟩ I7 (fun c a b => by rw [e7, up_k b, fY.1 c a]) (fun j a b c => by rw [e7, up_k (by decide), fY.2 j a b c]) ⟨by rw [e7, up_s], fun j hj => by rw [e7, up_n (by omega), y519]⟩ (MRk_c mY (fun c hc => by rw [e7, up_k (by omega)]) (fun j _ _ => by rw [e7, up_k (by decide)])))⟩
        · have := nx v (by omega)
          rw [Nat.mul_zero, Nat.zero_add, y519] at this
          exact this ((nm_q0 ht hi hr hn hv).mpr u)
        · have := ny v (by omega)
          rw [Nat.mul_one, y519] at this
          exact this ((nm_q1 ht hi hr hn hv).mpr u)
      · refine ⟨fun z => by omega, fun _ => ?_⟩
        rw [y36]
        rw [Nat.mul_one, y519] at hy
        exact c11_fail mY.2.2.1.2 (fun I4 f4 => flt (Or.inr ⟨w, by omega, (nm_q1 ht hi hr hn (by omega)).mp hy⟩) I4 f4)
    · refine ⟨fun _ => ?_, fun z => by omega⟩
      rw [y36]
      rw [Nat.mul_zero, Nat.zero_add, y519] at hx
      exact c11_fail mY.2.2.1.2 (fun I4 f4 => flt (Or.inl ⟨w, by omega, (nm_q0 ht hi hr hn (by omega)).mp hx⟩) I4 f4)
  · have nb : Y 489 5 ≠ 0 := by rw [fY.2.2.1, NAf_k hf]; decide
    refine ⟨fun _ => ⟨by omega, fun _ => PI_i ?_, fun z => absurd z nb⟩, fun z => absurd z nb⟩
    rw [Int.toNat_natCast, fY.1 518 (by decide), en]
    exact k0 k p (Or.inl hf) Y fY
theorem c11_newNameB {kd n : Nat} (kc : kd ≤ 1) (en : X 518 kd = n) (hb : X 489 5 ≠ 0) (h : KI (n : Int) X) : CI mX11_newName (d + 2) [vR 489, vI (kd : Int)] X KI := by
  refine bk_X11_newName_0 (c11_nameB hb ⟨fun _ => ⟨by omega, fun _ => PI_i ?_, fun z => absurd z hb⟩, fun z => absurd z hb⟩)
  rw [Int.toNat_natCast, en]
  exact h
theorem c11_cornerK (ht : TKN t) (hm : MRk t X i) (hr : NMR X I) (k1 : ∀ w : Nat, CTs I t i w → ∀ Y : HI, NTf X Y → Y 489 36 = uS t i → MRk t Y (i + 1) → KI (w : Int) Y) (k0 : ∀ k p, CTf I t i k p → ∀ (x : Int) (Y : HI), (0 ≤ x ∧ x ≤ 10) → FNf X Y k p → KI x Y) : CI mX11_cornerTold (d + 6) [vR 489] X KI := by
  obtain ⟨q0, e0⟩ : ∃ q0 : Nat, I 15 0 = q0 := ⟨(I 15 0).toNat, by have := hr.2.1; omega⟩
  have r0 := hr.2.1
  have hi := hm.2.1
  refine bk_X11_cornerTold_0 (c11_nameK ht hm (fun hn Y fY y36 mY => ?_) (fun k p hf Y fY => ?_))
  · have y518 : Y 518 = X 518 := fY.1 518 (by decide)
    have y519 : Y 519 = X 519 := fY.1 519 (by decide)
    refine c11_nameOf (kd := 0) (c := q0) (by omega) (by rw [y518, hr.1.1]; exact e0) (by omega) (fun x hx => ?_)
    rw [Nat.mul_zero, y519] at hx
    rcases hx with ⟨ex, nx⟩ | ⟨w, wc, ex, hx, nx⟩
    · subst ex
      refine ⟨fun z => absurd mY.2.2.1.2 z, fun _ => ⟨fun z => absurd rfl z, fun _ => ?_⟩⟩
      rw [y36]
      refine c11_fail mY.2.2.1.2 (fun Z fZ => ⟨fun z => absurd rfl z, fun _ => PI_i (k0 3 _ (Or.inr ⟨hn, rfl, rfl, fun v hv u => ?_⟩) 0 Z (by omega) (FN_f fY fZ (MRk_at ht mY)))⟩)
      have := nx v (by omega)
      rw [Nat.zero_add] at this
      exact this ((nm_q0 ht hi hr hn hv).mpr u)
    · have ct : CTs I t i w := ⟨hn, by omega, (nm_q0 ht hi hr hn (by omega)).mp (by rw [Nat.zero_add] at hx; exact hx), fun v hv u => by
        have := nx v hv
        rw [Nat.zero_add] at this
        exact this ((nm_q0 ht hi hr hn (by omega)).mpr u)⟩
      subst ex
      exact ⟨fun z => absurd mY.2.2.1.2 z, fun _ => ⟨fun _ => ⟨fun _ => PI_i (k1 w ct Y fY y36 mY), fun z => by omega⟩, fun z => by omega⟩⟩
  · have nb : Y 489 5 ≠ 0 := by rw [fY.2.2.1, NAf_k hf]; decide
    refine c11_nameOf (kd := 0) (c := q0) (by omega) (by rw [fY.1 518 (by decide), hr.1.1]; exact e0) (by omega) (fun x hx => ⟨fun _ => ⟨fun z => PI_i (k0 k p (Or.inl hf) x Y ?_ fY), fun z => PI_i (k0 k p (Or.inl hf) 0 Y (by omega) fY)⟩, fun z => absurd z nb⟩)
    rcases hx with u | ⟨w, u1, u2, _⟩
    · exact absurd u.1 z
    · omega
theorem c11_cornerB {q0 : Nat} (e0 : X 518 0 = q0) (q10 : q0 ≤ 10) (hb : X 489 5 ≠ 0) (h : ∀ x, (0 ≤ x ∧ x ≤ 10) → KI x X) : CI mX11_cornerTold (d + 2) [vR 489] X KI := by
  refine bk_X11_cornerTold_0 (c11_nameB hb (c11_nameOf (kd := 0) (c := q0) (by omega) e0 q10 (fun x hx => ⟨fun _ => ⟨fun z => PI_i (h x ?_), fun z => PI_i (h 0 (by omega))⟩, fun z => absurd z hb⟩)))
  rcases hx with u | ⟨w, u1, u2, _⟩
  · exact absurd u.1 z
  · omega
theorem c11_isFull {kd : Nat} {room begun : Int} (kc : kd < 10) (hb : X 489 5 = 0) (k1 : X 518 kd = room → ∀ Y : HI, FLf X Y 5 begun → KI 1 Y) (k0 : X 518 kd ≠ room → KI 0 X) : CI mX11_isFull (d + 2) [vR 489, vI (kd : Int), vI room, vI begun] X KI := by
  refine bk_X11_isFull_0 ?_
  rw [Int.toNat_natCast]
  refine ⟨fun z => absurd hb z, fun _ => ⟨by omega, fun q => ⟨fun _ => PI_i (k0 q), fun z => absurd hb z⟩, fun q => c11_fail hb (fun Y fY => ⟨fun z => ?_, fun _ => PI_i (k1 q Y fY)⟩)⟩⟩
  have := fY.2.2.1
  omega
end MN2
