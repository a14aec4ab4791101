section TA
variable {d : Nat} {I : HI} {K : HI → Prop} {KI : Int → HI → Prop}
theorem c11_fail {k p : Int} (bad : I 489 5 = 0) (h : ∀ Y : HI, FLf I Y k p → K Y) : CV mX11_fail (d + 1) [vR 489, vI k, vI p] I K := by
  refine bk_X11_fail_0 ⟨fun _ I1 e1 I2 e2 => PV_i (h I2 ⟨fun c hc => by rw [e2, up_k hc, e1, up_k hc], fun j h5 h6 => by rw [e2, up_n (by omega), e1, up_n (by omega)], by rw [e2, up_n (by omega), e1, up_s], by rw [e2, up_s]⟩), fun w => absurd bad w⟩
/-- once a fault is told, no later one is -/
theorem c11_failB {k p : Int} (bad : I 489 5 ≠ 0) (h : K I) : CV mX11_fail (d + 1) [vR 489, vI k, vI p] I K :=
  bk_X11_fail_0 ⟨fun w => absurd w bad, fun _ => PV_i h⟩
theorem c11_asks {a n e p q r : Nat} (ha : SH0[a]? = some (.inr (3, n))) (n1 : n ≤ 100) (a489 : a ≠ 489) (e16 : e ≤ 1600) (ee : I 489 3 = e) (ep : I 489 2 = p) (bad : I 489 5 = 0) (hn : NXT (I 490) e p q) (hr : q < e → RUN ltr (I 490) e q r) (k1 : HRE I e q r n a → ∀ Y : HI, TKf I Y r → K Y) (k0 : ¬ HRE I e q r n a → ∀ X Y : HI, LKf I X q → FLf X Y 1 q → K Y) : CV mX11_asks (d + 5) [vR 489, vR a] I K := by
  refine bk_X11_asks_0 ha ⟨fun w => absurd bad w, fun _ => c11_takes ha n1 a489 e16 ee ep bad hn hr (fun hh Y fY => ⟨fun _ => PV_i (k1 hh Y fY), fun z => by omega⟩) (fun nh X fX => ⟨fun z => absurd rfl z, fun _ => ?_⟩)⟩
  rw [fX.2.2]
  exact c11_fail (by rw [fX.2.1 5 (by decide)]; exact bad) (fun Y fY => PV_i (k0 nh X Y fX fY))
theorem c11_asksB {a n : Nat} (ha : SH0[a]? = some (.inr (3, n))) (bad : I 489 5 ≠ 0) (h : K I) : CV mX11_asks (d + 1) [vR 489, vR a] I K :=
  bk_X11_asks_0 ha ⟨fun _ => PV_i h, fun w => absurd w bad⟩
theorem c11_takesSign {c : Int} {e p q : Nat} (e16 : e ≤ 1600) (c0 : 0 ≤ c) (ee : I 489 3 = e) (ep : I 489 2 = p) (bad : I 489 5 = 0) (hn : NXT (I 490) e p q) (k1 : q < e ∧ I 490 q = c → ∀ Y : HI, LKf I Y (q + 1) → KI 1 Y) (k0 : ¬ (q < e ∧ I 490 q = c) → ∀ Y : HI, LKf I Y q → KI 0 Y) : CI mX11_takesSign (d + 2) [vR 489, vI c] I KI := by
  have qe := hn.1
  refine bk_X11_takesSign_0 ⟨fun w => absurd bad w, fun _ => c11_look e16 ee ep hn (fun q1 Y fY => ⟨fun w => by omega, fun _ => PI_i (k0 (fun u => by omega) Y fY)⟩) (fun q1 Y fY => ⟨fun w => ?_, fun w => PI_i (k0 (fun u => w u.2) Y fY)⟩)⟩
  rw [fY.2.2]
  refine ⟨by omega, fun I2 e2 => PI_i (k1 ⟨q1, w⟩ I2 ⟨fun k hk => by rw [e2, up_k hk, fY.1 k hk], fun j hj => by rw [e2, up_n (by omega), fY.2.1 j hj], by rw [e2, up_s]; omega⟩)⟩
theorem c11_asksSign {c : Int} {e p q : Nat} (e16 : e ≤ 1600) (c0 : 0 ≤ c) (ee : I 489 3 = e) (ep : I 489 2 = p) (bad : I 489 5 = 0) (hn : NXT (I 490) e p q) (k1 : q < e ∧ I 490 q = c → ∀ Y : HI, LKf I Y (q + 1) → K Y) (k0 : ¬ (q < e ∧ I 490 q = c) → ∀ X Y : HI, LKf I X q → FLf X Y 1 q → K Y) : CV mX11_asksSign (d + 3) [vR 489, vI c] I K := by
  refine bk_X11_asksSign_0 ⟨fun w => absurd bad w, fun _ => c11_takesSign e16 c0 ee ep bad hn (fun hh Y fY => ⟨fun _ => PV_i (k1 hh Y fY), fun z => by omega⟩) (fun nh X fX => ⟨fun z => absurd rfl z, fun _ => ?_⟩)⟩
  rw [fX.2.2]
  exact c11_fail (by rw [fX.2.1 5 (by decide)]; exact bad) (fun Y fY => PV_i (k0 nh X Y fX fY))
theorem c11_asksSignB {c : Int} (bad : I 489 5 ≠ 0) (h : K I) : CV mX11_asksSign (d + 1) [vR 489, vI c] I K :=
  bk_X11_asksSign_0 ⟨fun _ => PV_i h, fun w => absurd w bad⟩
end TA
