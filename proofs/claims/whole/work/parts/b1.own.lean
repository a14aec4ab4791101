theorem LKf_tr {X Y Z : HI} {p q : Nat} (h : LKf X Y p) (g : LKf Y Z q) : LKf X Z q := ⟨fun k hk => by rw [g.1 k hk, h.1 k hk], fun j hj => by rw [g.2.1 j hj, h.2.1 j hj], g.2.2⟩
section OH
variable {d : Nat} {X : HI} {K : HI → Prop} {KI : Int → HI → Prop} {t : Txt} {i : Nat}
theorem c11_isOwnHere (ht : TKN t) (hm : MRk t X i) (k1 : uK t i ≤ 26 ∧ ¬ jnd t i → ∀ Y : HI, LKf X Y (uS t i) → MRk t Y i → KI 1 Y) (k0 : ¬ (uK t i ≤ 26 ∧ ¬ jnd t i) → ∀ Y : HI, LKf X Y (uS t i) → MRk t Y i → KI 0 Y) : CI mX11_isOwnHere (d + 4) [vR 489] X KI := by
  refine bk_X11_isOwnHere_0 (c11_isHereW (w := 0) rfl (by omega) ht hm (fun e1 e2 Y fY mY => ⟨fun _ => bk_X11_isOwnHere_66 (bk_X11_isOwnHere_142 (bk_X11_isOwnHere_218 (PI_i (k1 ⟨by omega, e2⟩ Y fY mY)))), fun z => by omega⟩) (fun n0 Z0 f0 m0 => ⟨fun z => absurd rfl z, fun _ => ?_⟩))
  have g0 := f0
  refine c11_isHereW (w := 1) rfl (by omega) ht m0 (fun e1 e2 Y fY mY => ⟨fun _ => bk_X11_isOwnHere_66 (bk_X11_isOwnHere_142 (bk_X11_isOwnHere_218 (PI_i (k1 ⟨by omega, e2⟩ Y (LKf_tr g0 fY) mY)))), fun z => by omega⟩) (fun n1 Z1 f1 m1 => ⟨fun z => absurd rfl z, fun _ => ?_⟩)
  have g1 := LKf_tr g0 f1
  refine c11_isHereW (w := 2) rfl (by omega) ht m1 (fun e1 e2 Y fY mY => ⟨fun _ => bk_X11_isOwnHere_66 (bk_X11_isOwnHere_142 (bk_X11_isOwnHere_218 (PI_i (k1 ⟨by omega, e2⟩ Y (LKf_tr g1 fY) mY)))), fun z => by omega⟩) (fun n2 Z2 f2 m2 => ⟨fun z => absurd rfl z, fun _ => ?_⟩)
  have g2 := LKf_tr g1 f2
  refine c11_isHereW (w := 3) rfl (by omega) ht m2 (fun e1 e2 Y fY mY => ⟨fun _ => bk_X11_isOwnHere_66 (bk_X11_isOwnHere_142 (bk_X11_isOwnHere_218 (PI_i (k1 ⟨by omega, e2⟩ Y (LKf_tr g2 fY) mY)))), fun z => by omega⟩) (fun n3 Z3 f3 m3 => ⟨fun z => absurd rfl z, fun _ => ?_⟩)
  have g3 := LKf_tr g2 f3
  refine c11_isHereW (w := 4) rfl (by omega) ht m3 (fun e1 e2 Y fY mY => ⟨fun _ => bk_X11_isOwnHere_66 (bk_X11_isOwnHere_142 (bk_X11_isOwnHere_218 (PI_i (k1 ⟨by omega, e2⟩ Y (LKf_tr g3 fY) mY)))), fun z => by omega⟩) (fun n4 Z4 f4 m4 => ⟨fun z => absurd rfl z, fun _ => ?_⟩)
  have g4 := LKf_tr g3 f4
  refine c11_isHereW (w := 5) rfl (by omega) ht m4 (fun e1 e2 Y fY mY => ⟨fun z => by omega, fun _ => bk_X11_isOwnHere_66 (bk_X11_isOwnHere_142 (bk_X11_isOwnHere_218 (PI_i (k1 ⟨by omega, e2⟩ Y (LKf_tr g4 fY) mY))))⟩) (fun n5 Z5 f5 m5 => ⟨fun _ => ?_, fun z => absurd rfl z⟩)
  have g5 := LKf_tr g4 f5
  refine c11_isHereW (w := 6) rfl (by omega) ht m5 (fun e1 e2 Y fY mY => ⟨fun _ => bk_X11_isOwnHere_142 (bk_X11_isOwnHere_218 (PI_i (k1 ⟨by omega, e2⟩ Y (LKf_tr g5 fY) mY))), fun z => by omega⟩) (fun n6 Z6 f6 m6 => ⟨fun z => absurd rfl z, fun _ => ?_⟩)
  have g6 := LKf_tr g5 f6
  refine c11_isHereW (w := 7) rfl (by omega) ht m6 (fun e1 e2 Y fY mY => ⟨fun _ => bk_X11_isOwnHere_142 (bk_X11_isOwnHere_218 (PI_i (k1 ⟨by omega, e2⟩ Y (LKf_tr g6 fY) mY))), fun z => by omega⟩) (fun n7 Z7 f7 m7 => ⟨fun z => absurd rfl z, fun _ => ?_⟩)
  have g7 := LKf_tr g6 f7
  refine c11_isHereW (w := 8) rfl (by omega) ht m7 (fun e1 e2 Y fY mY => ⟨fun _ => bk_X11_isOwnHere_142 (bk_X11_isOwnHere_218 (PI_i (k1 ⟨by omega, e2⟩ Y (LKf_tr g7 fY) mY))), fun z => by omega⟩) (fun n8 Z8 f8 m8 => ⟨fun z => absurd rfl z, fun _ => ?_⟩)
  have g8 := LKf_tr g7 f8
  refine c11_isHereW (w := 9) rfl (by omega) ht m8 (fun e1 e2 Y fY mY => ⟨fun _ => bk_X11_isOwnHere_142 (bk_X11_isOwnHere_218 (PI_i (k1 ⟨by omega, e2⟩ Y (LKf_tr g8 fY) mY))), fun z => by omega⟩) (fun n9 Z9 f9 m9 => ⟨fun z => absurd rfl z, fun _ => ?_⟩)
  have g9 := LKf_tr g8 f9
  refine c11_isHereW (w := 10) rfl (by omega) ht m9 (fun e1 e2 Y fY mY => ⟨fun _ => bk_X11_isOwnHere_142 (bk_X11_isOwnHere_218 (PI_i (k1 ⟨by omega, e2⟩ Y (LKf_tr g9 fY) mY))), fun z => by omega⟩) (fun n10 Z10 f10 m10 => ⟨fun z => absurd rfl z, fun _ => ?_⟩)
  have g10 := LKf_tr g9 f10
  refine c11_isHereW (w := 11) rfl (by omega) ht m10 (fun e1 e2 Y fY mY => ⟨fun z => by omega, fun _ => bk_X11_isOwnHere_142 (bk_X11_isOwnHere_218 (PI_i (k1 ⟨by omega, e2⟩ Y (LKf_tr g10 fY) mY)))⟩) (fun n11 Z11 f11 m11 => ⟨fun _ => ?_, fun z => absurd rfl z⟩)
  have g11 := LKf_tr g10 f11
  refine c11_isHereW (w := 12) rfl (by omega) ht m11 (fun e1 e2 Y fY mY => ⟨fun _ => bk_X11_isOwnHere_218 (PI_i (k1 ⟨by omega, e2⟩ Y (LKf_tr g11 fY) mY)), fun z => by omega⟩) (fun n12 Z12 f12 m12 => ⟨fun z => absurd rfl z, fun _ => ?_⟩)
  have g12 := LKf_tr g11 f12
  refine c11_isHereW (w := 13) rfl (by omega) ht m12 (fun e1 e2 Y fY mY => ⟨fun _ => bk_X11_isOwnHere_218 (PI_i (k1 ⟨by omega, e2⟩ Y (LKf_tr g12 fY) mY)), fun z => by omega⟩) (fun n13 Z13 f13 m13 => ⟨fun z => absurd rfl z, fun _ => ?_⟩)
  have g13 := LKf_tr g12 f13
  refine c11_isHereW (w := 14) rfl (by omega) ht m13 (fun e1 e2 Y fY mY => ⟨fun _ => bk_X11_isOwnHere_218 (PI_i (k1 ⟨by omega, e2⟩ Y (LKf_tr g13 fY) mY)), fun z => by omega⟩) (fun n14 Z14 f14 m14 => ⟨fun z => absurd rfl z, fun _ => ?_⟩)
  have g14 := LKf_tr g13 f14
  refine c11_isHereW (w := 15) rfl (by omega) ht m14 (fun e1 e2 Y fY mY => ⟨fun _ => bk_X11_isOwnHere_218 (PI_i (k1 ⟨by omega, e2⟩ Y (LKf_tr g14 fY) mY)), fun z => by omega⟩) (fun n15 Z15 f15 m15 => ⟨fun z => absurd rfl z, fun _ => ?_⟩)
  have g15 := LKf_tr g14 f15
  refine c11_isHereW (w := 16) rfl (by omega) ht m15 (fun e1 e2 Y fY mY => ⟨fun _ => bk_X11_isOwnHere_218 (PI_i (k1 ⟨by omega, e2⟩ Y (LKf_tr g15 fY) mY)), fun z => by omega⟩) (fun n16 Z16 f16 m16 => ⟨fun z => absurd rfl z, fun _ => ?_⟩)
  have g16 := LKf_tr g15 f16
  refine c11_isHereW (w := 17) rfl (by omega) ht m16 (fun e1 e2 Y fY mY => ⟨fun z => by omega, fun _ => bk_X11_isOwnHere_218 (PI_i (k1 ⟨by omega, e2⟩ Y (LKf_tr g16 fY) mY))⟩) (fun n17 Z17 f17 m17 => ⟨fun _ => ?_, fun z => absurd rfl z⟩)
  have g17 := LKf_tr g16 f17
  refine c11_isHereW (w := 18) rfl (by omega) ht m17 (fun e1 e2 Y fY mY => ⟨fun _ => PI_i (k1 ⟨by omega, e2⟩ Y (LKf_tr g17 fY) mY), fun z => by omega⟩) (fun n18 Z18 f18 m18 => ⟨fun z => absurd rfl z, fun _ => ?_⟩)
  have g18 := LKf_tr g17 f18
  refine c11_isHereW (w := 19) rfl (by omega) ht m18 (fun e1 e2 Y fY mY => ⟨fun _ => PI_i (k1 ⟨by omega, e2⟩ Y (LKf_tr g18 fY) mY), fun z => by omega⟩) (fun n19 Z19 f19 m19 => ⟨fun z => absurd rfl z, fun _ => ?_⟩)
  have g19 := LKf_tr g18 f19
  refine c11_isHereW (w := 20) rfl (by omega) ht m19 (fun e1 e2 Y fY mY => ⟨fun _ => PI_i (k1 ⟨by omega, e2⟩ Y (LKf_tr g19 fY) mY), fun z => by omega⟩) (fun n20 Z20 f20 m20 => ⟨fun z => absurd rfl z, fun _ => ?_⟩)
  have g20 := LKf_tr g19 f20
  refine c11_isHereW (w := 21) rfl (by omega) ht m20 (fun e1 e2 Y fY mY => ⟨fun _ => PI_i (k1 ⟨by omega, e2⟩ Y (LKf_tr g20 fY) mY), fun z => by omega⟩) (fun n21 Z21 f21 m21 => ⟨fun z => absurd rfl z, fun _ => ?_⟩)
  have g21 := LKf_tr g20 f21
  refine c11_isHereW (w := 22) rfl (by omega) ht m21 (fun e1 e2 Y fY mY => ⟨fun _ => PI_i (k1 ⟨by omega, e2⟩ Y (LKf_tr g21 fY) mY), fun z => by omega⟩) (fun n22 Z22 f22 m22 => ⟨fun z => absurd rfl z, fun _ => ?_⟩)
  have g22 := LKf_tr g21 f22
  refine c11_isHereW (w := 23) rfl (by omega) ht m22 (fun e1 e2 Y fY mY => ⟨fun z => by omega, fun _ => PI_i (k1 ⟨by omega, e2⟩ Y (LKf_tr g22 fY) mY)⟩) (fun n23 Z23 f23 m23 => ⟨fun _ => ?_, fun z => absurd rfl z⟩)
  have g23 := LKf_tr g22 f23
  refine c11_isHereW (w := 24) rfl (by omega) ht m23 (fun e1 e2 Y fY mY => ⟨fun _ => PI_i (k1 ⟨by omega, e2⟩ Y (LKf_tr g23 fY) mY), fun z => by omega⟩) (fun n24 Z24 f24 m24 => ⟨fun z => absurd rfl z, fun _ => ?_⟩)
  have g24 := LKf_tr g23 f24
  refine c11_isHereW (w := 25) rfl (by omega) ht m24 (fun e1 e2 Y fY mY => ⟨fun _ => PI_i (k1 ⟨by omega, e2⟩ Y (LKf_tr g24 fY) mY), fun z => by omega⟩) (fun n25 Z25 f25 m25 => ⟨fun z => absurd rfl z, fun _ => ?_⟩)
  have g25 := LKf_tr g24 f25
  refine c11_isHereW (w := 26) rfl (by omega) ht m25 (fun e1 e2 Y fY mY => ⟨fun z => by omega, fun _ => PI_i (k1 ⟨by omega, e2⟩ Y (LKf_tr g25 fY) mY)⟩) (fun n26 Z26 f26 m26 => ⟨fun _ => ?_, fun z => absurd rfl z⟩)
  have g26 := LKf_tr g25 f26
  refine PI_i (k0 (fun u => ?_) Z26 g26 m26)
  obtain ⟨u1, u2⟩ := u
  rcases (by omega : uK t i = 0 ∨ uK t i = 1 ∨ uK t i = 2 ∨ uK t i = 3 ∨ uK t i = 4 ∨ uK t i = 5 ∨ uK t i = 6 ∨ uK t i = 7 ∨ uK t i = 8 ∨ uK t i = 9 ∨ uK t i = 10 ∨ uK t i = 11 ∨ uK t i = 12 ∨ uK t i = 13 ∨ uK t i = 14 ∨ uK t i = 15 ∨ uK t i = 16 ∨ uK t i = 17 ∨ uK t i = 18 ∨ uK t i = 19 ∨ uK t i = 20 ∨ uK t i = 21 ∨ uK t i = 22 ∨ uK t i = 23 ∨ uK t i = 24 ∨ uK t i = 25 ∨ uK t i = 26) with e | e | e | e | e | e | e | e | e | e | e | e | e | e | e | e | e | e | e | e | e | e | e | e | e | e | e
  · exact n0 ⟨e, u2⟩
  · exact n1 ⟨e, u2⟩
  · exact n2 ⟨e, u2⟩
  · exact n3 ⟨e, u2⟩
  · exact n4 ⟨e, u2⟩
  · exact n5 ⟨e, u2⟩
  · exact n6 ⟨e, u2⟩
  · exact n7 ⟨e, u2⟩
  · exact n8 ⟨e, u2⟩
  · exact n9 ⟨e, u2⟩
  · exact n10 ⟨e, u2⟩
  · exact n11 ⟨e, u2⟩
  · exact n12 ⟨e, u2⟩
  · exact n13 ⟨e, u2⟩
  · exact n14 ⟨e, u2⟩
  · exact n15 ⟨e, u2⟩
  · exact n16 ⟨e, u2⟩
  · exact n17 ⟨e, u2⟩
  · exact n18 ⟨e, u2⟩
  · exact n19 ⟨e, u2⟩
  · exact n20 ⟨e, u2⟩
  · exact n21 ⟨e, u2⟩
  · exact n22 ⟨e, u2⟩
  · exact n23 ⟨e, u2⟩
  · exact n24 ⟨e, u2⟩
  · exact n25 ⟨e, u2⟩
  · exact n26 ⟨e, u2⟩
end OH
