section SV
variable {d : Nat} {I : HI} {KI : Int → HI → Prop} {KL : Int → HI → Prop} {K2 : Int → Int → HI → Prop} {cs : Int → List Int}
theorem PLN_of (h : RDP I cs) (v : I 69 11 ≤ 1000000) : PLN I cs := ⟨h.1.1, h.2.2.1, h.2.2.2.1, RDP_opt h, h.1.2.2.2.2, h.2.2.2.2.1, ⟨h.2.2.2.2.2.1, v⟩⟩
theorem c6_solve {bits z : Int} (hp : PLN I cs) (b0 : 0 ≤ bits) (b1 : bits < 16) (hz : z = 0 ∨ z = 1) (h : ∀ (Y : HI) (r : Int), QFr I Y → RDP Y cs → VrC I Y → SOL Y cs z (mbs bits (I 518 6).toNat) r (Y 481) → MSs Y (mbs bits (I 518 6).toNat) → KI r Y) : CI mX6_solve (d + 15) [vR 477, vI bits, vI z] I KI := by
  refine bk_X6_solve_0 (c5_prep2 hp (fun X pX rX vX => ?_))
  have qX := QFr_p pX
  have f518 : X 518 = I 518 := (CF_p pX).1 518 (by omega)
  have n6 := rX.1.1.1.1.2.2.1
  -- a fresh look
  have go : ∀ I2 I3 : HI, I2 = up X 477 9 z → I3 = up I2 477 7 0 → J none mX6_solve (d + 15) 0 0 50 [(0, vR 477), (1, vI bits), (2, vI z), (3, vI 0)] [] (mk I3) (PI KI) := by
    intro I2 I3 e2 e3
    have f3 : ∀ k, k ≠ 477 → I3 k = X k := fun k hk => by rw [e3, up_k hk, e2, up_k hk]
    have k3 : KNW I3 cs := KNW_47 rX.1 (fun k h1 _ _ _ _ => f3 k h1)
    have v3 : VFr X I3 := VFr_u (fun k hk => f3 k (by omega))
    have e489 : I3 489 = X 489 := f3 489 (by decide)
    have g518 : I3 518 = X 518 := f3 518 (by decide)
    have := fill_lp2 (d := d) (KI := KI) (K := fun _ => True) (I := I3) (z := z) (bits := bits) k3 (by rw [f3 33 (by decide), e489]; exact rX.2.2.1) (by rw [e489]; exact rX.2.2.2.1) b0 b1 hz (fun U fU gU mU rU => ?_) (I3 518 6).toNat 0 I3 (by rw [g518]; omega) (fun _ _ _ _ => rfl) (fun _ _ => rfl) (by rw [e3, up_e]; rfl) (fun i t ht => by simp [mbs] at ht) (fun t ht => by simp [mbs] at ht)
    · exact this
    · have vU : VFr I3 U := VFr_u (fun k hk => fU k (by omega) (by omega) (by omega))
      have h518 : U 518 = I3 518 := fU 518 (by decide) (by decide) (by decide)
      have kU : KNW U cs := KNW_47 k3 (fun k h1 h2 h3 _ _ => fU k h1 h2 h3)
      have cU := CF_v vU
      have shU := sh_v vU
      have rU' : RW0 U U cs z (mbs bits (U 518 6).toNat) := by
        intro t ht
        rw [h518] at ht
        obtain ⟨g1, g2⟩ := rU t ht
        refine ⟨g1, fun y hy => ?_⟩
        rw [g2 y hy, rts_fr cU shU.1]
        unfold dmo
        rw [wy_cf cU, WHL_fr shU.1]
      have := solve_b (d := d) (KI := KI) (z := z) (bits := bits) kU (by rw [h518]; exact mU) (by rw [gU 9 (by decide), e3, up_j (by decide), e2, up_e]) rU' (fun Y r vY kY sY mY y11 y12 y13 => ?_)
      · rw [h518] at this
        exact this
      · have vXY : VFr X Y := VFr_tr (VFr_tr v3 vU) vY
        have ef : (U 518 6).toNat = (I 518 6).toNat := by rw [h518, g518, f518]
        rw [ef] at sY mY
        have e489' : Y 489 = X 489 := vXY.1 489 (by omega) (by omega) (by omega) (by omega)
        have e32 : Y 32 = X 32 := vXY.1 32 (by omega) (by omega) (by omega) (by omega)
        have e33 : Y 33 = X 33 := vXY.1 33 (by omega) (by omega) (by omega) (by omega)
        have e69 : Y 69 = X 69 := vXY.1 69 (by omega) (by omega) (by omega) (by omega)
        have y518 : Y 518 = I 518 := by rw [(CF_v vXY).1 518 (by omega), f518]
        refine h Y r (QFr_tr qX (QFr_v vXY)) ⟨kY, by rw [e32]; exact rX.2.1, by rw [e33, e489']; exact rX.2.2.1, by rw [e489']; exact rX.2.2.2.1, ⟨by omega, fun h1 h2 _ _ => ?_⟩, by rw [e69]; exact rX.2.2.2.2.2⟩ (by unfold VrC at vX ⊢; rw [e69]; exact vX) sY mY
        have z0 : z = 0 := by
          rcases hz with hz | hz
          · exact hz
          · rw [hz, if_neg (by decide)] at y11
            exact absurd y11 h1
        rw [if_pos z0] at y11
        rw [y11, y518, y13]
        rw [z0] at sY
        exact ⟨fun cs' => SOL_cs cs' sY, mY⟩
  have hz01 : z = 0 ∨ z = 1 := hz
  refine ⟨fun q => ⟨hz01, fun I2 e2 I3 e3 => go I2 I3 e2 e3⟩, fun q => ⟨fun q2 => ⟨hz01, fun I4 e4 I5 e5 => go I4 I5 e4 e5⟩, fun q2 => ⟨fun q3 => ⟨hz01, fun I6 e6 I7 e7 => go I6 I7 e6 e7⟩, fun q3 => PI_i ?_⟩⟩⟩
  obtain ⟨g1, g2⟩ := rX.2.2.2.2.1.2 (by rw [← q2]; omega) q3 rX.2.1.2.1 rX.2.1.2.2
  rw [← q2, f518] at g1 g2
  exact h X _ qX rX vX (by rw [q]; exact g1 cs) g2
end SV
