theorem OQ0 {Rel : Nat → HI → Prop} {d : Nat} {M1 M2 : MD} (h : ∀ (m : Nat) (I : HI), Rel (m + 1) I → CI M1 d [vR 0] I (fun x1 I1 => CI M2 d [vR 489] I1 (fun x2 I2 => x1 = x2 ∧ Rel m I2))) : OPn Rel d M1 M2 0 := fun m I as ha hr _ => by
  match as, ha with
  | [], _ => exact h m I hr
theorem OQ1 {Rel : Nat → HI → Prop} {d : Nat} {M1 M2 : MD} (h : ∀ (m : Nat) (I : HI) (a : Int), Rel (m + 1) I → CI M1 d [vR 0, vI a] I (fun x1 I1 => CI M2 d [vR 489, vI a] I1 (fun x2 I2 => x1 = x2 ∧ Rel m I2))) : OPn Rel d M1 M2 1 := fun m I as ha hr _ => by
  match as, ha with
  | [a], _ => exact h m I a hr
theorem OQ2 {Rel : Nat → HI → Prop} {d : Nat} {M1 M2 : MD} (h : ∀ (m : Nat) (I : HI) (a b : Int), Rel (m + 1) I → CI M1 d [vR 0, vI a, vI b] I (fun x1 I1 => CI M2 d [vR 489, vI a, vI b] I1 (fun x2 I2 => x1 = x2 ∧ Rel m I2))) : OPn Rel d M1 M2 2 := fun m I as ha hr _ => by
  match as, ha with
  | [a, b], _ => exact h m I a b hr
theorem OQ3 {Rel : Nat → HI → Prop} {d : Nat} {M1 M2 : MD} (h : ∀ (m : Nat) (I : HI) (a b c : Int), Rel (m + 1) I → CI M1 d [vR 0, vI a, vI b, vI c] I (fun x1 I1 => CI M2 d [vR 489, vI a, vI b, vI c] I1 (fun x2 I2 => x1 = x2 ∧ Rel m I2))) : OPn Rel d M1 M2 3 := fun m I as ha hr _ => by
  match as, ha with
  | [a, b, c], _ => exact h m I a b c hr
theorem OQ5 {Rel : Nat → HI → Prop} {d : Nat} {M1 M2 : MD} (h : ∀ (m : Nat) (I : HI) (a b c e f : Int), Rel (m + 1) I → CI M1 d [vR 0, vI a, vI b, vI c, vI e, vI f] I (fun x1 I1 => CI M2 d [vR 489, vI a, vI b, vI c, vI e, vI f] I1 (fun x2 I2 => x1 = x2 ∧ Rel m I2))) : OPn Rel d M1 M2 5 := fun m I as ha hr _ => by
  match as, ha with
  | [a, b, c, e, f], _ => exact h m I a b c e f hr
theorem R_feed : OPn REL 60 mX10_feed mX11_feed 5 := OQ5 (fun m I a b c e f hr => by
  obtain ⟨hb, cs, H, hd⟩ := id hr
  refine op_feed (d := 58) (K := fun x1 x2 I2 => x1 = x2 ∧ REL m I2) hb.2.1.1 ⟨rfl, REL_d hr⟩ (fun hn => ⟨rfl, ?_⟩)
  refine REL_o hb hd (fun k k1 k2 k3 k4 k5 k6 => by rw [mps_f k4 k5, cps_f k1 k2]) (fun j j1 j2 => by rw [mps_f (by decide) (by decide), cps_j j1]) (fun j j1 j2 => by rw [mps_j j1, cps_f (by decide) (by decide)]) (op_feed_tape hb.2.1.1 hn) ?_
  exact RIm_f hb.2.1.2.1 (by rw [mps_f (by decide) (by decide), cps_j (by decide)]) (by rw [mps_f (by decide) (by decide), cps_f (by decide) (by decide)]) (by rw [mps_f (by decide) (by decide), cps_f (by decide) (by decide)]) (by rw [mps_j (by decide), cps_f (by decide) (by decide)]))
theorem R_end : OPn REL 60 mX10_end mX11_end 1 := OQ1 (fun m I a hr => by
  obtain ⟨hb, cs, H, hd⟩ := id hr
  obtain ⟨r1, r2, r3, r4⟩ := hb.2.1.1
  refine op_end (d := 59) (K := fun x1 x2 I2 => x1 = x2 ∧ REL m I2) hb.2.1.1 ⟨rfl, REL_d hr⟩ (fun a0 a1 => ⟨rfl, ?_⟩)
  refine REL_o hb hd (fun k k1 k2 k3 k4 k5 k6 => by rw [up_k k4, up_k k1]) (fun j j1 j2 => by rw [up_k (by decide), up_j j1]) (fun j j1 j2 => by rw [up_j j1, up_k (by decide)]) ?_ ?_
  · rw [up_k (k' := 0) (by decide), up_k (k' := 27) (by decide), up_k (k' := 27) (by decide), up_k (k' := 490) (by decide), up_k (k' := 490) (by decide), up_e, up_e]
    exact ⟨rfl, a0, by omega, fun j hj => r4 j (by omega)⟩
  · exact RIm_f hb.2.1.2.1 (by rw [up_k (by decide), up_j (by decide)]) (by rw [up_k (by decide), up_k (by decide)]) (by rw [up_k (by decide), up_k (by decide)]) (by rw [up_j (by decide), up_k (by decide)]))
theorem R_city : OPn REL 60 mX10_city mX11_city 0 := OQ0 (fun m I hr => by
  have hb := hr.1
  obtain ⟨h1, ⟨t1, t2, t3, t4⟩, ⟨h3, h4⟩, h5, h6, h7⟩ := id hb
  exact op_city (d := 38) (K2 := fun x1 x2 I2 => x1 = x2 ∧ REL m I2) t1 t4 ⟨h7.1, by omega⟩ ⟨h6.1, by omega⟩ (fun Y c => ⟨rfl, REL_F hr c⟩) (fun mf Y c => ⟨rfl, REL_S hr c⟩))
theorem R_fault : OPn REL 60 mX10_fault mX11_fault 1 := OQ1 (fun m I a hr => op_fault (d := 57) (K2 := fun x1 x2 I2 => x1 = x2 ∧ REL m I2) hr.1.2.1.2.2.1.1 hr.1.2.1.2.2.1.2 (fun x => ⟨rfl, REL_d hr⟩))
theorem R_has : OPn REL 60 mX10_has mX11_has 1 := OQ1 (fun m I a hr => by
  obtain ⟨hb, cs, H, hd⟩ := id hr
  obtain ⟨a1, a2, a3, a4, a5, a6, a7, a8, a9⟩ := hb.1.1
  exact op_has (d := 57) (K2 := fun x1 x2 I2 => x1 = x2 ∧ REL m I2) a1 a7 a8 a5 (W_RSh hd.1 a1) (W_H hd.1) (fun x => ⟨rfl, REL_d hr⟩))
theorem R_letter : OPn REL 60 mX10_letter mX11_letter 3 := OQ3 (fun m I a b c hr => op_letter (d := 57) (K2 := fun x1 x2 I2 => x1 = x2 ∧ REL m I2) hr.1.1.1.1 hr.1.1.2.1 (fun x => ⟨rfl, REL_d hr⟩))
theorem R_lane : OPn REL 60 mX10_lane mX11_lane 2 := OQ2 (fun m I a b hr => by
  obtain ⟨hb, cs, H, hd⟩ := id hr
  obtain ⟨a1, a2, a3, a4, a5, a6, a7, a8, a9⟩ := hb.1.1
  exact op_lane (d := 57) (K2 := fun x1 x2 I2 => x1 = x2 ∧ REL m I2) a1 a3 (W_RSh hd.1 a1) (fun x => ⟨rfl, REL_d hr⟩))
theorem R_sound : OPn REL 60 mX10_sound mX11_sound 2 := OQ2 (fun m I a b hr => op_sound (d := 57) (K2 := fun x1 x2 I2 => x1 = x2 ∧ REL m I2) hr.1.1.1.1 hr.1.1.1.2.2.2.1 (fun x => ⟨rfl, REL_d hr⟩))
theorem R_saint : OPn REL 60 mX10_saint mX11_saint 2 := OQ2 (fun m I a b hr => by
  obtain ⟨hb, cs, H, hd⟩ := id hr
  obtain ⟨a1, a2, a3, a4, a5, a6, a7, a8, a9⟩ := hb.1.1
  exact op_saint (d := 57) (K2 := fun x1 x2 I2 => x1 = x2 ∧ REL m I2) a1 a2 a3 (W_RWy hd.1) (fun x => ⟨rfl, REL_d hr⟩))
theorem R_go : OPn REL 60 mX10_go mX11_go 2 := OQ2 (fun m I a b hr => by
  obtain ⟨hb, cs, H, hd⟩ := id hr
  obtain ⟨a1, a2, a3, a4, a5, a6, a7, a8, a9⟩ := hb.1.1
  exact op_go (d := 55) (K2 := fun x1 x2 I2 => x1 = x2 ∧ REL m I2) a1 a2 a3 hd.1 (fun x I' cs' H' w f c => ⟨rfl, REL_w hb hd w f c⟩))
theorem R_rest : OPn REL 60 mX10_rest mX11_rest 2 := OQ2 (fun m I a b hr => by
  obtain ⟨hb, cs, H, hd⟩ := id hr
  obtain ⟨a1, a2, a3, a4, a5, a6, a7, a8, a9⟩ := hb.1.1
  exact op_rest (d := 55) (K2 := fun x1 x2 I2 => x1 = x2 ∧ REL m I2) a1 a2 a3 hd.1 (fun x I' cs' H' w f c => ⟨rfl, REL_w hb hd w f c⟩))
theorem R_clear : OPn REL 60 mX10_clear mX11_clear 1 := OQ1 (fun m I a hr => by
  obtain ⟨hb, cs, H, hd⟩ := id hr
  obtain ⟨a1, a2, a3, a4, a5, a6, a7, a8, a9⟩ := hb.1.1
  exact op_clear (d := 55) (K2 := fun x1 x2 I2 => x1 = x2 ∧ REL m I2) a1 a2 a3 hd.1 (fun x I' cs' H' w f c => ⟨rfl, REL_w hb hd w f c⟩))
theorem R_undo : OPn REL 60 mX10_undo mX11_undo 0 := OQ0 (fun m I hr => by
  obtain ⟨hb, cs, H, hd⟩ := id hr
  obtain ⟨a1, a2, a3, a4, a5, a6, a7, a8, a9⟩ := hb.1.1
  exact op_undo (d := 55) (K2 := fun x1 x2 I2 => x1 = x2 ∧ REL m I2) a1 a2 a3 hd.1 (fun x I' cs' H' w f c => ⟨rfl, REL_w hb hd w f c⟩))
theorem R_where : OPn REL 60 mX10_where mX11_where 2 := OQ2 (fun m I a b hr => by
  obtain ⟨hb, cs, H, hd⟩ := id hr
  obtain ⟨a1, a2, a3, a4, a5, a6, a7, a8, a9⟩ := hb.1.1
  exact op_where (d := 57) (K2 := fun x1 x2 I2 => x1 = x2 ∧ REL m I2) a1 a2 a3 (W_RWy hd.1) (fun x => ⟨rfl, REL_d hr⟩))
theorem R_on : OPn REL 60 mX10_on mX11_on 2 := OQ2 (fun m I a b hr => by
  obtain ⟨hb, cs, H, hd⟩ := id hr
  obtain ⟨a1, a2, a3, a4, a5, a6, a7, a8, a9⟩ := hb.1.1
  exact op_on (d := 57) (K2 := fun x1 x2 I2 => x1 = x2 ∧ REL m I2) a1 a2 a3 (W_RWy hd.1) (fun x => ⟨rfl, REL_d hr⟩))
theorem R_petals : OPn REL 60 mX10_petals mX11_petals 2 := OQ2 (fun m I a b hr => by
  obtain ⟨hb, cs, H, hd⟩ := id hr
  obtain ⟨a1, a2, a3, a4, a5, a6, a7, a8, a9⟩ := hb.1.1
  exact op_petals (d := 56) (K2 := fun x1 x2 I2 => x1 = x2 ∧ REL m I2) a1 a2 a3 a5 (W_RWy hd.1) (fun x => ⟨rfl, REL_d hr⟩))
theorem R_passes : OPn REL 60 mX10_passes mX11_passes 2 := OQ2 (fun m I a b hr => by
  obtain ⟨hb, cs, H, hd⟩ := id hr
  obtain ⟨a1, a2, a3, a4, a5, a6, a7, a8, a9⟩ := hb.1.1
  exact op_passes (d := 57) (K2 := fun x1 x2 I2 => x1 = x2 ∧ REL m I2) a1 a2 a3 a7 (W_RWy hd.1) (fun x => ⟨rfl, REL_d hr⟩))
