theorem R_clash : OPn REL 60 mX10_clash mX11_clash 1 := OQ1 (fun m I a hr => by
  obtain ⟨hb, cs, H, hd⟩ := id hr
  obtain ⟨a1, a2, a3, a4, a5, a6, a7, a8, a9⟩ := hb.1.1
  exact op_clash (d := 52) (K2 := fun x1 x2 I2 => x1 = x2 ∧ REL m I2) a1 a2 a3 a4 a5 a6 hd.2.2.2 hd.1 (fun x X Y l r f => ⟨rfl, REL_x hb hd l r f⟩))
theorem R_clashes : OPn REL 60 mX10_clashes mX11_clashes 1 := OQ1 (fun m I a hr => by
  obtain ⟨hb, cs, H, hd⟩ := id hr
  obtain ⟨a1, a2, a3, a4, a5, a6, a7, a8, a9⟩ := hb.1.1
  have h4 := hb.2.2.1.2
  exact op_clashes (d := 52) (K2 := fun x1 x2 I2 => x1 = x2 ∧ REL m I2) a1 a2 a3 a4 a5 hd.1 hb.2.2.1.1 (by omega) (fun x X f r b => ⟨rfl, REL_n hb hd f.1 ⟨r, b⟩⟩))
theorem R_meet : OPn REL 60 mX10_meet mX11_meet 2 := OQ2 (fun m I a b hr => by
  obtain ⟨hb, cs, H, hd⟩ := id hr
  obtain ⟨a1, a2, a3, a4, a5, a6, a7, a8, a9⟩ := hb.1.1
  exact op_meet (d := 53) (K2 := fun x1 x2 I2 => x1 = x2 ∧ REL m I2) a1 a2 a3 a4 a5 hd.1 (fun x X f => ⟨rfl, REL_n hb hd (fun k hk _ _ => f k hk) (RNi_f hb.2.2.1.1 (f 67 (by omega)) (f 68 (by omega)))⟩))
theorem R_pleased : OPn REL 60 mX10_pleased mX11_pleased 0 := OQ0 (fun m I hr => by
  obtain ⟨hb, cs, H, hd⟩ := id hr
  obtain ⟨a1, a2, a3, a4, a5, a6, a7, a8, a9⟩ := hb.1.1
  exact op_pleased (d := 56) (K2 := fun x1 x2 I2 => x1 = x2 ∧ REL m I2) a1 a2 a3 (W_RWy hd.1) hb.1.2.2.1 hb.1.2.2.2 (fun x => ⟨rfl, REL_d hr⟩))
theorem R_but : OPn REL 60 mX10_but mX11_but 1 := OQ1 (fun m I a hr => by
  obtain ⟨hb, cs, H, hd⟩ := id hr
  exact op_but (d := 55) (K2 := fun x1 x2 I2 => x1 = x2 ∧ REL m I2) hb.1.1.1 hd.1 (fun x I' cs' H' w f c => ⟨rfl, REL_w hb hd w f c⟩))
theorem R_words : OPn REL 60 mX10_words mX11_words 1 := OQ1 (fun m I a hr => by
  obtain ⟨a1, a2, a3, a4, a5, a6, a7, a8, a9⟩ := hr.1.1.1
  exact op_words (d := 57) (K2 := fun x1 x2 I2 => x1 = x2 ∧ REL m I2) a1 a9 (fun x => ⟨rfl, REL_d hr⟩))
theorem R_softer : OPn REL 60 mX10_softer mX11_softer 1 := OQ1 (fun m I a hr => by
  obtain ⟨hb, cs, H, hd⟩ := id hr
  exact op_softer (d := 51) (K2 := fun x1 x2 I2 => x1 = x2 ∧ REL m I2) hb.1.1 hd.2.2.2 hd.1 (fun x X Y l r f => ⟨rfl, REL_x hb hd l r f⟩))
theorem R_shut : OPz REL 60 mX10_shut mX11_shut := fun m I a z hz hr _ => by
  obtain ⟨hb, cs, H, hd⟩ := id hr
  exact op_shut (d := 55) (K2 := fun x1 x2 I2 => x1 = x2 ∧ REL m I2) hz hb.1.1.1 hd.1 (fun x I' cs' H' w f c => ⟨rfl, REL_w hb hd w f c⟩)
theorem R_sweep : OPn REL 60 mX10_sweep mX11_sweep 1 := OQ1 (fun m I a hr => by
  obtain ⟨hb, cs, H, hd⟩ := id hr
  obtain ⟨a1, a2, a3, a4, a5, a6, a7, a8, a9⟩ := hb.1.1
  exact op_sweep (d := 52) (K2 := fun x1 x2 I2 => x1 = x2 ∧ REL m I2) a1 a2 a3 a4 a5 a6 hd.2.2.2 hd.1 (fun x X Y l r f => ⟨rfl, REL_x hb hd l r f⟩))
theorem R_routes : OPn REL 60 mX10_routes mX11_routes 1 := OQ1 (fun m I a hr => by
  obtain ⟨hb, cs, H, hd⟩ := id hr
  obtain ⟨p, w⟩ := D_PLN hb hd
  exact op_routes (d := 44) (K2 := fun x1 x2 I2 => x1 = x2 ∧ REL m I2) p w (fun x X Y q r v f => ⟨rfl, REL_e hb (EF_plan hd.1 (BAS_4 hb) q r v f)⟩) (fun x => ⟨rfl, REL_d hr⟩))
theorem R_route : OPn REL 60 mX10_route mX11_route 3 := OQ3 (fun m I a b c hr => by
  obtain ⟨hb, cs, H, hd⟩ := id hr
  obtain ⟨p, w⟩ := D_PLN hb hd
  exact op_route (d := 44) (K2 := fun x1 x2 I2 => x1 = x2 ∧ REL m I2) p w (fun x X Y q r v f => ⟨rfl, REL_e hb (EF_plan hd.1 (BAS_4 hb) q r v f)⟩) (fun x X Y e f => ⟨rfl, REL_h hb hd (e ▸ f)⟩))
theorem R_together : OPn REL 60 mX10_together mX11_together 1 := OQ1 (fun m I a hr => by
  obtain ⟨hb, cs, H, hd⟩ := id hr
  obtain ⟨p, w⟩ := D_PLN hb hd
  exact op_together (d := 44) (K2 := fun x1 x2 I2 => x1 = x2 ∧ REL m I2) p w (fun x X Y q r v f => ⟨rfl, REL_e hb (EF_plan hd.1 (BAS_4 hb) q r v f)⟩))
theorem R_bars : OPn REL 60 mX10_bars mX11_bars 0 := OQ0 (fun m I hr => by
  obtain ⟨hb, cs, H, hd⟩ := id hr
  obtain ⟨p, w⟩ := D_PLN hb hd
  have h5 := hb.2.2.2.1
  exact op_bars (d := 44) (K2 := fun x1 x2 I2 => x1 = x2 ∧ REL m I2) p (by omega) w (fun x X Y q r v f => ⟨rfl, REL_e hb (EF_plan hd.1 (BAS_4 hb) q r v f)⟩))
theorem R_take : OPn REL 60 mX10_take mX11_take 0 := OQ0 (fun m I hr => by
  obtain ⟨hb, cs, H, hd⟩ := id hr
  obtain ⟨p, w⟩ := D_PLN hb hd
  exact op_take (d := 44) (K2 := fun x1 x2 I2 => x1 = x2 ∧ REL m I2) p hd.1 w (fun x Y cs' H' e => ⟨rfl, REL_e hb e⟩))
theorem R_mend : OPn REL 60 mX10_mend mX11_mend 0 := OQ0 (fun m I hr => by
  obtain ⟨hb, cs, H, hd⟩ := id hr
  obtain ⟨p, w⟩ := D_PLN hb hd
  exact op_mend (d := 44) (K2 := fun x1 x2 I2 => x1 = x2 ∧ REL m I2) p hd.1 w (fun x Y cs' H' e => ⟨rfl, REL_e hb e⟩))
theorem R_turn : OPn REL 60 mX10_turn mX11_turn 0 := OQ0 (fun m I hr => by
  obtain ⟨hb, cs, H, hd⟩ := id hr
  obtain ⟨p, w⟩ := D_PLN hb hd
  have h5 := hb.2.2.2.1
  exact op_turn (d := 44) (K2 := fun x1 x2 I2 => x1 = x2 ∧ REL m I2) (by omega) p hd.1 w (fun x Y cs' H' e => ⟨rfl, REL_e hb e⟩))
theorem R_lots : OPn REL 60 mX10_lots mX11_lots 1 := OQ1 (fun m I a hr => by
  obtain ⟨hb, cs, H, hd⟩ := id hr
  obtain ⟨p, w⟩ := D_PLN hb hd
  have h5 := hb.2.2.2.1
  exact op_lots (d := 43) (K2 := fun x1 x2 I2 => x1 = x2 ∧ REL m I2) (by omega) p hd.1 w (fun x Y e => ⟨rfl, REL_e hb e⟩))
theorem R_dawn : OPn REL 60 mX10_dawn mX11_dawn 3 := OQ3 (fun m I a b c hr => by
  obtain ⟨hb, cs, H, hd⟩ := id hr
  obtain ⟨p, w⟩ := D_PLN hb hd
  have h5 := hb.2.2.2.1
  exact op_dawn (d := 43) (K2 := fun x1 x2 I2 => x1 = x2 ∧ REL m I2) (by omega) p hd.1 w (fun x Y e => ⟨rfl, REL_e hb e⟩))
theorem R_image : OPn REL 60 mX10_image mX11_image 0 := OQ0 (fun m I hr => by
  obtain ⟨hb, cs, H, hd⟩ := id hr
  obtain ⟨a1, a2, a3, a4, a5, a6, a7, a8, a9⟩ := hb.1.1
  refine op_image (d := 56) (K2 := fun x1 x2 I2 => x1 = x2 ∧ REL m I2) a1 a2 a3 hd.1 (fun x Y i e e0 g => ⟨rfl, ?_⟩)
  refine REL_o hb hd (fun k k1 k2 k3 k4 k5 k6 => e k k1 k3 k4 k6) (fun j j1 j2 => e0 j j2) (fun j j1 j2 => g j j2) ?_ i
  rw [e0 12 (by decide), e 27 (by decide) (by decide) (by decide) (by decide), g 1 (by decide), e 490 (by decide) (by decide) (by decide) (by decide)]
  exact hb.2.1.1)
theorem R_octet : OPn REL 60 mX10_octet mX11_octet 1 := OQ1 (fun m I a hr => op_octet (d := 57) (K2 := fun x1 x2 I2 => x1 = x2 ∧ REL m I2) hr.1.2.1.2.1 (fun x => ⟨rfl, REL_d hr⟩))
theorem R_back : OPn REL 60 mX10_back mX11_back 0 := OQ0 (fun m I hr => by
  obtain ⟨hb, cs, H, hd⟩ := id hr
  obtain ⟨a1, a2, a3, a4, a5, a6, a7, a8, a9⟩ := hb.1.1
  exact op_back (d := 55) (K2 := fun x1 x2 I2 => x1 = x2 ∧ REL m I2) a1 a2 a3 hb.2.1.1 hd.1 (fun x I' cs' H' w f c y0 y1 => ⟨rfl, REL_b hb hd w f c y0 y1⟩))
theorem R_all : OPS REL 60 := ⟨fun _ _ h => REL_d h, R_feed, R_end, R_city, R_fault, R_has, R_letter, R_lane, R_sound, R_saint, R_go, R_rest, R_clear, R_undo, R_where, R_on, R_petals, R_passes, R_clash, R_clashes, R_meet, R_pleased, R_but, R_words, R_softer, R_shut, R_sweep, R_routes, R_route, R_together, R_bars, R_take, R_mend, R_turn, R_lots, R_dawn, R_image, R_octet, R_back⟩
