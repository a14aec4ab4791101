section TA
variable {d : Nat} {I : HI} {K : HI → Prop} {KI : Int → HI → Prop}
/-- a word is behind us: the place, and where it ended -/
def TKf (I Y : HI) (q : Nat) : Prop := (∀ k, k ≠ 489 → Y k = I k) ∧ (∀ j, j ≠ 2 → j ≠ 4 → Y 489 j = I 489 j) ∧ Y 489 2 = q ∧ Y 489 4 = q
/-- a fault is told -/
def FLf (I Y : HI) (kind place : Int) : Prop := (∀ k, k ≠ 489 → Y k = I k) ∧ (∀ j, j ≠ 5 → j ≠ 6 → Y 489 j = I 489 j) ∧ Y 489 5 = kind ∧ Y 489 6 = place
theorem c11_takes {a n e p q r : Nat} (ha : SH0[a]? = some (.inr (3, n))) (n1 : n ≤ 100) (a489 : a ≠ 489) (e16 : e ≤ 1600) (ee : I 489 3 = e) (ep : I 489 2 = p) (bad : I 489 5 = 0) (hn : NXT (I 490) e p q) (hr : q < e → RUN ltr (I 490) e q r) (k1 : HRE I e q r n a → ∀ Y : HI, TKf I Y r → KI 1 Y) (k0 : ¬ HRE I e q r n a → ∀ Y : HI, LKf I Y q → KI 0 Y) : CI mX11_takes (d + 4) [vR 489, vR a] I KI := by
  have qe := hn.1
  refine bk_X11_takes_0 ha (c11_isHere ha n1 a489 e16 ee ep bad hn hr (fun hh Y fY => ⟨fun _ => ?_, fun z => by omega⟩) (fun nh Y fY => ⟨fun z => absurd rfl z, fun _ => PI_i (k0 nh Y fY)⟩))
  rw [fY.2.2]
  refine ⟨by omega, by omega, fun I2 e2 I3 e3 => PI_i (k1 hh I3 ⟨fun k hk => by rw [e3, up_k hk, e2, up_k hk, fY.1 k hk], fun j h2 h4 => by rw [e3, up_n (by omega), e2, up_n (by omega), fY.2.1 j h2], ?_, ?_⟩)⟩
  · rw [e3, up_n (by omega), e2, up_s, hh.2.2.1]
    omega
  · rw [e3, up_s, e2, up_s, hh.2.2.1]
    omega
end TA
