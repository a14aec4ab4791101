theorem DRV_fr {Z Y : HI} {C : List Int} (f : ∀ c, 14 ≤ c → c ≤ 26 → Y c = Z c) (h : DRV Z C) : DRV Y C := by
  unfold DRV CRg DBv at *
  rw [f 14 (by omega) (by omega), f 15 (by omega) (by omega), f 18 (by omega) (by omega), f 19 (by omega) (by omega), f 20 (by omega) (by omega), f 21 (by omega) (by omega), f 23 (by omega) (by omega), f 24 (by omega) (by omega), f 25 (by omega) (by omega)]
  exact h
/-- the class has opened, the tape is empty -/
def OPZ (t : Txt) (I Z0 : HI) : Prop := ∃ Z, OPN t I Z ∧ Z0 = up Z 0 12 0
/-- what settling, copying and beginning do with a told draft -/
def SETt (F V : HI) (n nl ns : Nat) : Prop := ∃ Y1 Y2 Y3 : HI, STf (up (up F 0 14 0) 0 15 (-1)) Y1 ∧ Y1 14 12 = parS (fun u => F 18 (u - 10)) n 0 0 ∧ MX (Y1 26) n (fwn (lnk (fun l => F 19 (4 * l)) (fun l => F 19 (4 * l + 1)) (fun l => F 19 (4 * l + 3)) nl) n) ∧ CPY Y1 Y2 ∧ ((∀ k, k ≠ 32 → k ≠ 33 → (k < 37 ∨ 56 < k) → Y3 k = Y2 k) ∧ (∀ j, j ≠ 6 → j ≠ 7 → j ≠ 8 → j ≠ 9 → Y3 32 j = Y2 32 j) ∧ (Y3 32 6 = 0 ∧ Y3 32 7 = 1 ∧ Y3 32 8 = 1 ∧ Y3 32 9 = 1) ∧ (∀ j, j < 102 → Y3 33 j = 0) ∧ (∀ s, s < ns → TB0 Y3 (37 + 5 * s) (Y2 7 (4 * s)))) ∧ V = up Y3 62 5 (Y3 62 5 + 1)
section CY
variable {d : Nat} {I : HI} {KI : Int → HI → Prop}
theorem c10_city {e : Nat} (ee : I 0 12 = e) (e16 : e ≤ 1600) (t0 : 0 ≤ I 28 11 ∧ I 28 11 ≤ 10000000) (c62 : 0 ≤ I 62 5 ∧ I 62 5 ≤ 1000000000) (kF : ∀ (t : Txt) (L : Nat) (k p : Int) (Z0 V : HI), TKN t → uA t = I 27 → uE t = e → uO t = I 28 11 → OPZ t I Z0 → CHu t L 0 0 Z0 k p → (∀ c, (31 < c ∨ c = 27 ∨ (0 < c ∧ c < 14)) → V c = I c) → (V 0 12 = 0 ∧ V 0 14 = k ∧ V 0 15 = p ∧ ∀ j, j ≠ 12 → j ≠ 14 → j ≠ 15 → V 0 j = I 0 j) → (0 ≤ V 28 11 ∧ V 28 11 ≤ I 28 11 + 2000) → KI (-1) V) (kS : ∀ (t : Txt) (L mf : Nat) (Z0 F V : HI) (C : List Int) (n nl ns : Nat), TKN t → uA t = I 27 → uE t = e → uO t = I 28 11 → OPZ t I Z0 → CHt t L 0 0 Z0 mf F → DRV F C → CDt F C → F 23 (F 15 4).toNat = C.length → (F 15 0 = n ∧ F 15 1 = nl ∧ F 15 2 = ns) → (∀ c, (31 < c ∨ c = 27 ∨ (0 < c ∧ c < 14)) → F c = I c) → (F 0 12 = 0 ∧ ∀ j, j ≠ 12 → F 0 j = I 0 j) → (0 ≤ F 28 11 ∧ F 28 11 ≤ I 28 11 + 2000) → SETt F V n nl ns → KI (mf : Int) V) : CI mX10_city (d + 22) [vR 0] I KI := by
  refine bk_X10_city_0 (c7_open (d := d + 14) ee e16 t0 (fun t Z ht hA hE hO op I2 e2 => ?_))
  obtain ⟨dv, dC⟩ := OPN_v op
  have op' := op
  obtain ⟨rZ, fZ, ⟨g12, g13, g14⟩, z15, z25, z23, z1, z2⟩ := op
  have f2 : ∀ c, c ≠ 0 → I2 c = Z c := fun c hc => by rw [e2, up_k hc]
  have i0 : I2 0 12 = 0 ∧ ∀ j, j ≠ 12 → I2 0 j = I 0 j := ⟨by rw [e2, up_s], fun j hj => by rw [e2, up_n (by omega), fZ 0 (by omega)]⟩
  have q4 : I2 15 4 = 0 := by rw [f2 15 (by decide)]; exact z15 4 (by omega)
  have oz : OPZ t I I2 := ⟨Z, op', e2⟩
  have lp := city_20 (d := d) (KI := KI) ht 70 0 0 I2 [] (by omega) (RD_f rZ (fun c hc => f2 c (by omega))) (DRV_fr (fun c a b => f2 c (by omega)) dv) (CDt_f dC (f2 22 (by decide)) (by rw [f2 28 (by decide)])) (by rw [q4, f2 23 (by decide)]; exact z23) (by simp) (by rw [f2 28 (by decide)]; exact ⟨g13, g14⟩) (fun L mf F C' hc m70 fF bF dvF dCF e23 J2 q2 => ?_) (fun L k p V hc fq J2 q2 => ?_)
  · exact lp
  · obtain ⟨n, en⟩ : ∃ n : Nat, F 15 0 = n := ⟨(F 15 0).toNat, by have := dvF.1.1; omega⟩
    obtain ⟨nl, enl⟩ : ∃ n : Nat, F 15 1 = n := ⟨(F 15 1).toNat, by have := dvF.1.2.1; omega⟩
    obtain ⟨ns, ens⟩ : ∃ n : Nat, F 15 2 = n := ⟨(F 15 2).toNat, by have := dvF.1.2.2.1; omega⟩
    have jf : ∀ c, c ≠ 0 → J2 c = F c := fun c hc => by rw [q2, up_k hc, up_k hc]
    have fI : ∀ c, (31 < c ∨ c = 27 ∨ (0 < c ∧ c < 14)) → F c = I c := fun c hc => by rw [fF c (by omega) (by omega), f2 c (by omega), fZ c (by omega)]
    have f0 : F 0 12 = 0 ∧ ∀ j, j ≠ 12 → F 0 j = I 0 j := by rw [fF 0 (by omega) (by omega)]; exact i0
    have hL : LNo n nl (fun l => J2 19 (4 * l)) (fun l => J2 19 (4 * l + 1)) (fun l => J2 19 (4 * l + 3)) := fun l hl => by
      have := dvF.2.2.1 l (by omega)
      dsimp only
      rw [jf 19 (by decide)]
      omega
    refine c0_settle (d := d + 19) (n := n) (nl := nl) (P := fun u => F 18 (u - 10)) (by rw [jf 15 (by decide)]; exact en) (by have := dvF.1.1; omega) (by rw [jf 15 (by decide)]; exact enl) (by have := dvF.1.2.1; omega) hL (fun c hc => by rw [jf 18 (by decide)]; show F 18 (10 + c - 10) = _; rw [Nat.add_sub_cancel_left]) (by rw [jf 14 (by decide)]; exact dvF.2.2.2.2.2.2.1.2) (fun Y1 s1 p1 m1 => ?_)
    rw [jf 19 (by decide)] at m1
    refine c0_copyFrom (d := d + 19) (fun Y2 c2 => ?_)
    have y22 : Y2 2 2 = ns := by rw [c2.2.2.2 2 2 (by omega) (by omega) (by decide), s1.1 15 (by decide) (by decide), jf 15 (by decide)]; exact ens
    refine c9_begin (d := d + 17) (n := ns) y22 (by have := dvF.1.2.2.1; omega) (fun Y3 b1 b2 b3 b4 b5 => ?_)
    have y62 : Y3 62 5 = I 62 5 := by rw [b1 62 (by decide) (by decide) (by omega), c2.1 62 (by omega), s1.1 62 (by decide) (by decide), jf 62 (by decide), fI 62 (by omega)]
    refine bk_X1_forget_0 ⟨by rw [y62]; omega, fun V eV => PV_i (PI_i (kS t L mf I2 F V C' n nl ns ht hA hE hO oz hc dvF dCF e23 ⟨en, enl, ens⟩ fI f0 (by rw [hO] at bF; exact bF) ⟨Y1, Y2, Y3, by rw [← q2]; exact s1, p1, m1, c2, ⟨b1, b2, b3, b4, b5⟩, eV⟩))⟩
  · have v0 : V 0 = I2 0 := fq.1 0 (by omega) (by omega)
    refine kF t L k p I2 J2 ht hA hE hO oz hc (fun c hc => by rw [q2, up_k (by omega), up_k (by omega), fq.1 c (by omega) (by omega), f2 c (by omega), fZ c (by omega)]) ⟨?_, ?_, ?_, fun j a b c => ?_⟩ ?_
    · rw [q2, up_n (by decide), up_n (by decide), v0]; exact i0.1
    · rw [q2, up_n (by decide), up_s]
    · rw [q2, up_s]
    · rw [q2, up_n (by omega), up_n (by omega), v0]; exact i0.2 j a
    · rw [q2, up_k (by decide), up_k (by decide)]
      have := fq.2.2.1
      rw [hO] at this
      exact this
end CY
