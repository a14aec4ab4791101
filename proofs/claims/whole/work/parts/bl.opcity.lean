/-- a text with a fault: what is left -/
def CYF (I Y : HI) : Prop := (∀ c, ((0 < c ∧ c < 14) ∨ c = 27 ∨ (31 < c ∧ c < 489) ∨ (489 < c ∧ c < 518) ∨ 528 < c) → Y c = I c) ∧ (Y 0 12 = 0 ∧ Y 489 1 = 0 ∧ Y 0 14 = Y 489 7 ∧ Y 0 15 = Y 489 8 ∧ ∀ j, j ≠ 12 → j ≠ 14 → j ≠ 15 → Y 0 j = I 0 j) ∧ ((∀ u, 5 ≤ u → Y 518 u = I 518 u) ∧ (∀ u, 20 ≤ u → Y 519 u = I 519 u) ∧ (∀ u, 10 ≤ u → Y 520 u = I 520 u) ∧ (∀ u, 64 ≤ u → Y 521 u = I 521 u) ∧ (∀ u, 16 ≤ u → Y 522 u = I 522 u) ∧ (∀ u, 40 ≤ u → Y 523 u = I 523 u) ∧ (∀ u, 1600 ≤ u → Y 524 u = I 524 u) ∧ (∀ u, 6 ≤ u → Y 526 u = I 526 u) ∧ (∀ u, 6 ≤ u → Y 527 u = I 527 u) ∧ (∀ u, 6 ≤ u → Y 528 u = I 528 u)) ∧ (∀ j, (j = 0 ∨ 8 < j) → j ≠ 36 → j ≠ 43 → j ≠ 45 → j ≠ 47 → j ≠ 49 → j ≠ 50 → j ≠ 54 → Y 489 j = I 489 j) ∧ (0 ≤ Y 28 11 ∧ Y 28 11 ≤ I 28 11 + 2000)
/-- a text that is told: the class's draft F, what became of it, the reference's side -/
def CYS (I Y : HI) (mf : Nat) : Prop := ∃ (F V W Z XR : HI) (C : List Int) (n nl ns : Nat), (F 15 0 = n ∧ F 15 1 = nl ∧ F 15 2 = ns) ∧ (∀ c, (31 < c ∨ c = 27 ∨ (0 < c ∧ c < 14)) → F c = I c) ∧ (F 0 12 = 0 ∧ ∀ j, j ≠ 12 → F 0 j = I 0 j) ∧ (0 ≤ F 28 11 ∧ F 28 11 ≤ I 28 11 + 2000) ∧ SETt F V n nl ns ∧ INm V W (I 0 12).toNat ∧ MSx W Z ∧ Z 489 5 = 0 ∧ XR = up (up Z 489 7 0) 489 8 (-1) ∧ Mdr XR F C ∧ DRV F C ∧ C.length ≤ 1600 ∧ STD XR Y C.length ∧ MX (Y 531) 10 (fwn (lnk (fun l => XR 521 (4 * l)) (fun l => XR 521 (4 * l + 1)) (fun l => XR 521 (4 * l + 3)) nl) 10)
section OC
variable {d : Nat} {I : HI} {K2 : Int → Int → HI → Prop}
theorem SET_f {F V : HI} {n nl ns : Nat} (h : SETt F V n nl ns) : ∀ c, 66 < c → V c = F c := by
  obtain ⟨Y1, Y2, Y3, s1, _, _, c2, ⟨b1, _⟩, eV⟩ := h
  intro c hc
  rw [eV, up_k (by omega), b1 c (by omega) (by omega) (by omega), c2.1 c (by omega), s1.1 c (by omega) (by omega), up_k (by omega), up_k (by omega)]
theorem op_city (rt : RTape (I 0 12) (I 27) (I 489 1) (I 490)) (ow : OWR I) (t0 : 0 ≤ I 28 11 ∧ I 28 11 ≤ 10000000) (c62 : 0 ≤ I 62 5 ∧ I 62 5 ≤ 1000000000) (kF : ∀ Y : HI, CYF I Y → K2 (-1) (-1) Y) (kS : ∀ (mf : Nat) (Y : HI), CYS I Y mf → K2 (mf : Int) (mf : Int) Y) : CI mX10_city (d + 22) [vR 0] I (fun x1 I1 => CI mX11_city (d + 22) [vR 489] I1 (K2 x1)) := by
  obtain ⟨r1, r2, r3, r4⟩ := rt
  obtain ⟨e, ee⟩ : ∃ e : Nat, I 0 12 = e := ⟨(I 0 12).toNat, by omega⟩
  refine c10_city (d := d) ee (by omega) t0 c62 (fun t L k p Z0 V ht hA hE hO oz hc fV v0 bV => ?_) (fun t L mf Z0 F V C n nl ns ht hA hE hO oz hc dv dC e23 hn fF f0 bF sV => ?_)
  · have v489 : V 489 = I 489 := fV 489 (by omega)
    refine c11_cityF (d := d + 10) ht (fun j hj => by rw [hA]; exact (r4 j (by omega)).2.1) (by rw [v489, ← r1, ee, hE]) (fun j hj => by rw [fV 490 (by omega), hA]; exact (r4 j (by omega)).1.symm) (fun w hw k hk => by rw [fV (491 + w) (by omega)]; exact ow w hw k hk) oz hc (fun W Z Y iW fZ eY => kF Y ?_)
    obtain ⟨i1, ⟨i2, i3⟩, ⟨g3, g1, g2, g4, g5, g6, g45, g47, g43⟩, i4⟩ := iW
    obtain ⟨⟨Z1, ⟨m1, ⟨c1, c2, c3, c4, c5, c6, c7, c8, c9, c10⟩, m2⟩, a2, a3⟩, z5, z6, kne⟩ := fZ
    have yc : ∀ c, c ≠ 489 → Y c = Z1 c := fun c hc => by rw [eY, up_k hc, up_k hc, a2 c hc]
    have yj : ∀ j, j ≠ 7 → j ≠ 8 → j ≠ 45 → Y 489 j = Z1 489 j := fun j a b c => by rw [eY, up_n (by omega), up_n (by omega), a3 j c]
    have y0 : Y 0 = V 0 := by rw [yc 0 (by decide), m1 0 (by decide) (by omega), i1 0 (by decide) (by decide)]
    refine ⟨fun c hc => ?_, ⟨?_, ?_, ?_, ?_, fun j a b c => ?_⟩, ⟨fun u hu => ?_, fun u hu => ?_, fun u hu => ?_, fun u hu => ?_, fun u hu => ?_, fun u hu => ?_, fun u hu => ?_, fun u hu => ?_, fun u hu => ?_, fun u hu => ?_⟩, fun j a b c f g h1 h2 h3 => ?_, ?_⟩
    · rw [yc c (by omega), m1 c (by omega) (by omega), i1 c (by omega) (by omega), fV c (by omega)]
    · rw [y0]; exact v0.1
    · rw [yj 1 (by decide) (by decide) (by decide), m2 1 (by decide) (by decide) (by decide) (by decide) (by decide) (by decide) (by decide) (by decide) (by decide) (by decide)]; exact g1
    · rw [y0, v0.2.1, eY, up_n (by decide), up_s]
    · rw [y0, v0.2.2.1, eY, up_s]
    · rw [y0]; exact v0.2.2.2 j a b c
    · rw [yc 518 (by decide), c1 u hu, i2 u hu, fV 518 (by omega)]
    · rw [yc 519 (by decide), c2 u hu, i1 519 (by decide) (by decide), fV 519 (by omega)]
    · rw [yc 520 (by decide), c3 u hu, i1 520 (by decide) (by decide), fV 520 (by omega)]
    · rw [yc 521 (by decide), c4 u hu, i1 521 (by decide) (by decide), fV 521 (by omega)]
    · rw [yc 522 (by decide), c5 u hu, i1 522 (by decide) (by decide), fV 522 (by omega)]
    · rw [yc 523 (by decide), c6 u hu, i1 523 (by decide) (by decide), fV 523 (by omega)]
    · rw [yc 524 (by decide), c7 u hu, i1 524 (by decide) (by decide), fV 524 (by omega)]
    · rw [yc 526 (by decide), c8 u hu, i1 526 (by decide) (by decide), fV 526 (by omega)]
    · rw [yc 527 (by decide), c9 u hu, i1 527 (by decide) (by decide), fV 527 (by omega)]
    · rw [yc 528 (by decide), c10 u hu, i1 528 (by decide) (by decide), fV 528 (by omega)]
    · rw [yj j (by omega) (by omega) f, m2 j (by omega) (by omega) (by omega) (by omega) b c g h1 h2 h3, i4 j (by omega) c f g, v489]
    · rw [yc 28 (by decide), m1 28 (by decide) (by omega), i1 28 (by decide) (by decide)]; exact bV
  · have vc := SET_f sV
    have v489 : V 489 = I 489 := by rw [vc 489 (by omega), fF 489 (by omega)]
    refine c11_cityS (d := d + 10) (n := n) (nl := nl) ht (fun j hj => by rw [hA]; exact (r4 j (by omega)).2.1) (by rw [v489, ← r1, ee, hE]) (fun j hj => by rw [vc 490 (by omega), fF 490 (by omega), hA]; exact (r4 j (by omega)).1.symm) (fun w hw k hk => by rw [vc (491 + w) (by omega), fF (491 + w) (by omega)]; exact ow w hw k hk) oz hc hn.1 hn.2.1 (fun W Z XR Y C' iW sZ z5 xr mo dv' lC std mx => kS mf Y ⟨F, V, W, Z, XR, C', n, nl, ns, hn, fF, f0, bF, sV, by rw [ee, Int.toNat_natCast, ← hE]; exact iW, sZ, z5, xr, mo, dv', lC, std, mx⟩)
end OC
