section SM
variable {d : Nat} {I : HI} {K : HI → Prop}
theorem snd_t {c f : Nat} {S : Nat → Nat → Int} (hS : FWo 10 S) (hc : c < 10) (hf : f < 10) (h : ∀ Y : HI, (∀ k, k ≠ 531 → Y k = I k) → MXp (Y 531) 10 S c (f + 1) 0 → J none mX11_sounds (d + 2) 0 0 146 [(0, vR 489), (1, vI (c : Int)), (2, vI ((f : Int) + 1))] [] (mk Y) (PV K)) : ∀ (m t : Nat) (X : HI), t + m = 10 → (∀ k, k ≠ 531 → X k = I k) → MXp (X 531) 10 S c f t → J none mX11_sounds (d + 2) 0 0 154 [(0, vR 489), (1, vI (c : Int)), (2, vI (f : Int)), (3, vI (t : Int))] [] (mk X) (PV K)
  | 0, t, X, e, fX, mX => by
    refine bk_X11_sounds_154 ⟨fun _ => ⟨by omega, h X fX (fun a b ha hb => ?_)⟩, fun q => by omega⟩
    rw [mX a b ha hb]
    by_cases q : a < f ∨ (a = f ∧ b < t)
    · rw [if_pos q, if_pos (by omega)]
    · rw [if_neg q, if_neg (by omega)]
  | m + 1, t, X, e, fX, mX => by
    have ih := fun Y => snd_t hS hc hf h m (t + 1) Y
    have g1 := hS f c hf hc
    have g2 := hS c t hc (by omega)
    have g3 := hS f t hf (by omega)
    have e1 : X 531 (10 * c + t) = S c t := MXp_at hS mX hc hc (by omega) (Or.inl rfl)
    have e2 : X 531 (10 * f + t) = S f t := by rw [mX f t hf (by omega), if_neg (by omega)]
    have e0 : X 531 (10 * f + c) = S f c := MXp_at hS mX hc hf hc (Or.inr rfl)
    refine bk_X11_sounds_154 ?_
    rw [show (10 * (c : Int) + (t : Int)).toNat = 10 * c + t from by omega, show (10 * (f : Int) + (t : Int)).toNat = 10 * f + t from by omega, show (10 * (f : Int) + (c : Int)).toNat = 10 * f + c from by omega, e1, e2, e0]
    refine ⟨fun q => by omega, fun _ => ⟨by omega, by omega, by omega, by omega, by omega, by omega, by omega, by omega, by omega, by omega, fun q3 => ⟨by omega, ?_⟩, fun q3 => ⟨by omega, by omega, by omega, fun I1 E1 => ⟨by omega, ?_⟩⟩⟩⟩
    · have := ih X (by omega) fX (fun a b ha hb => by
        rw [mX a b ha hb]
        by_cases q : a < f ∨ (a = f ∧ b < t)
        · rw [if_pos q, if_pos (by omega)]
        · rw [if_neg q]
          by_cases q2 : a = f ∧ b = t
          · obtain ⟨r1, r2⟩ := q2
            subst r1 r2
            rw [if_pos (by omega)]
            unfold fw1
            rw [if_neg (by omega)]
          · rw [if_neg (by omega)])
      exact this
    · have := ih I1 (by omega) (fun k hk => by rw [E1, up_k hk, fX k hk]) (fun a b ha hb => by
        by_cases q2 : a = f ∧ b = t
        · obtain ⟨r1, r2⟩ := q2
          subst r1 r2
          rw [E1, up_s, if_pos (by omega)]
          unfold fw1
          rw [if_pos (by omega)]
        · rw [E1, up_n (by omega), mX a b ha hb]
          by_cases q : a < f ∨ (a = f ∧ b < t)
          · rw [if_pos q, if_pos (by omega)]
          · rw [if_neg q, if_neg (by omega)])
      exact this
theorem snd_f {c : Nat} {S : Nat → Nat → Int} (hS : FWo 10 S) (hc : c < 10) (h : ∀ Y : HI, (∀ k, k ≠ 531 → Y k = I k) → MX (Y 531) 10 (fw1 S c) → J none mX11_sounds (d + 2) 0 0 138 [(0, vR 489), (1, vI ((c : Int) + 1))] [] (mk Y) (PV K)) : ∀ (m f : Nat) (X : HI), f + m = 10 → (∀ k, k ≠ 531 → X k = I k) → MXp (X 531) 10 S c f 0 → J none mX11_sounds (d + 2) 0 0 146 [(0, vR 489), (1, vI (c : Int)), (2, vI (f : Int))] [] (mk X) (PV K)
  | 0, f, X, e, fX, mX => by
    refine bk_X11_sounds_146 ⟨fun _ => ⟨by omega, h X fX (fun a b ha hb => ?_)⟩, fun q => by omega⟩
    rw [mX a b ha hb, if_pos (by omega)]
  | m + 1, f, X, e, fX, mX => by
    have ih := fun Y => snd_f hS hc h m (f + 1) Y
    refine bk_X11_sounds_146 ⟨fun q => by omega, fun _ => ?_⟩
    have := snd_t (d := d) (K := K) (I := I) hS hc (show f < 10 from by omega) (fun Y fY mY => ih Y (by omega) fY mY) 10 0 X (by omega) fX mX
    exact this
theorem snd_c {S : Nat → Nat → Int} (hS : FWo 10 S) (h : ∀ Y : HI, (∀ k, k ≠ 531 → Y k = I k) → MX (Y 531) 10 (fwn S 10) → K Y) : ∀ (m c : Nat) (X : HI), c + m = 10 → (∀ k, k ≠ 531 → X k = I k) → MX (X 531) 10 (fwn S c) → J none mX11_sounds (d + 2) 0 0 138 [(0, vR 489), (1, vI (c : Int))] [] (mk X) (PV K)
  | 0, c, X, e, fX, mX => by
    refine bk_X11_sounds_138 ⟨fun _ => PV_i (h X fX ?_), fun q => by omega⟩
    have ec : c = 10 := by omega
    subst ec
    exact mX
  | m + 1, c, X, e, fX, mX => by
    have ih := fun Y => snd_c hS h m (c + 1) Y
    refine bk_X11_sounds_138 ⟨fun q => by omega, fun _ => ?_⟩
    have := snd_f (d := d) (K := K) (I := X) (c := c) (S := fwn S c) (fwn_ok hS c (by omega)) (by omega) (fun Y fY mY => ih Y (by omega) (fun k hk => by rw [fY k hk, fX k hk]) mY) 10 0 X (by omega) (fun _ _ => rfl) (fun a b ha hb => by rw [if_neg (by omega)]; exact mX a b ha hb)
    exact this
theorem snd_l {n nl : Nat} (n10 : n ≤ 10) (enl : I 518 7 = nl) (nl16 : nl ≤ 16) (hL : LNo n nl (fun l => I 521 (64 + 4 * l)) (fun l => I 521 (64 + 4 * l + 1)) (fun l => I 521 (64 + 4 * l + 3))) (h : ∀ Y : HI, (∀ k, k ≠ 531 → Y k = I k) → MX (Y 531) 10 (fwn (lnk (fun l => I 521 (64 + 4 * l)) (fun l => I 521 (64 + 4 * l + 1)) (fun l => I 521 (64 + 4 * l + 3)) nl) 10) → K Y) : ∀ (m l : Nat) (X : HI), l + m = nl → (∀ k, k ≠ 531 → X k = I k) → MX (X 531) 10 (lnk (fun l => I 521 (64 + 4 * l)) (fun l => I 521 (64 + 4 * l + 1)) (fun l => I 521 (64 + 4 * l + 3)) l) → J none mX11_sounds (d + 2) 0 0 53 [(0, vR 489), (1, vI (l : Int))] [] (mk X) (PV K)
  | 0, l, X, e, fX, mX => by
    refine bk_X11_sounds_53 (c11_laneMany ?_)
    rw [fX 518 (by decide), enl]
    refine ⟨fun _ => ?_, fun q => by omega⟩
    rw [show l = nl from by omega] at mX
    have := snd_c (d := d) (K := K) (I := X) (lnk_ok hL 10 nl (Nat.le_refl _)) (fun Y fY mY => h Y (fun k hk => by rw [fY k hk, fX k hk]) mY) 10 0 X (by omega) (fun _ _ => rfl) mX
    exact this
  | m + 1, l, X, e, fX, mX => by
    have ih := fun Y => snd_l n10 enl nl16 hL h m (l + 1) Y
    obtain ⟨h1, h2, h3, h4⟩ := hL l (by omega)
    dsimp only at h1 h2 h3 h4
    obtain ⟨f, hf⟩ : ∃ f : Nat, I 521 (64 + 4 * l) = f := ⟨(I 521 (64 + 4 * l)).toNat, by omega⟩
    obtain ⟨g, hg⟩ : ∃ g : Nat, I 521 (64 + 4 * l + 1) = g := ⟨(I 521 (64 + 4 * l + 1)).toNat, by omega⟩
    rw [hf] at h1
    rw [hg] at h2
    rw [hf, hg] at h3
    have e1 : (64 + 4 * (l : Int)).toNat = 64 + 4 * l := by omega
    have e2 : (64 + 4 * (l : Int) + 1).toNat = 64 + 4 * l + 1 := by omega
    have e3 : (64 + 4 * (l : Int) + 3).toNat = 64 + 4 * l + 3 := by omega
    refine bk_X11_sounds_53 (c11_laneMany ?_)
    rw [fX 518 (by decide), enl, e1, e2, e3, fX 521 (by decide), hf, hg]
    refine ⟨fun q => by omega, fun _ => ⟨by omega, by omega, by omega, by omega, by omega, by omega, by omega, by omega, by omega, by omega, fun I2 E2 => ?_⟩⟩
    have i21 : I2 521 = I 521 := by rw [E2, up_k (by decide), fX 521 (by decide)]
    rw [show (10 * (f : Int) + (g : Int)).toNat = 10 * f + g from by omega] at E2
    rw [i21, hf, hg]
    refine ⟨by omega, by omega, by omega, by omega, by omega, by omega, by omega, by omega, fun I3 E3 => ⟨by omega, ?_⟩⟩
    rw [show (10 * (g : Int) + (f : Int)).toNat = 10 * g + f from by omega] at E3
    have := ih I3 (by omega) (fun k hk => by rw [E3, up_k hk, E2, up_k hk, fX k hk]) (fun a b ha hb => ?_)
    · exact this
    · show I3 531 (10 * a + b) = if ((a : Int) = I 521 (64 + 4 * l) ∧ (b : Int) = I 521 (64 + 4 * l + 1)) ∨ ((a : Int) = I 521 (64 + 4 * l + 1) ∧ (b : Int) = I 521 (64 + 4 * l)) then I 521 (64 + 4 * l + 3) else lnk (fun l => I 521 (64 + 4 * l)) (fun l => I 521 (64 + 4 * l + 1)) (fun l => I 521 (64 + 4 * l + 3)) l a b
      rw [hf, hg]
      by_cases q1 : a = g ∧ b = f
      · rw [if_pos (by omega), q1.1, q1.2, E3, up_s]
      · by_cases q2 : a = f ∧ b = g
        · rw [if_pos (by omega), q2.1, q2.2, E3, up_n (by omega), E2, up_s]
        · rw [if_neg (by omega), E3, up_n (by omega), E2, up_n (by omega)]
          exact mX a b ha hb
/-- the matrix as it begins -/
theorem snd_b {a : Nat} (ha : a < 10) (h : ∀ Y : HI, (∀ k, k ≠ 531 → Y k = I k) → (∀ i j, i < 10 → j < 10 → i < a + 1 → Y 531 (10 * i + j) = if i = j then 0 else 999) → J none mX11_sounds (d + 2) 0 0 2 [(0, vR 489), (1, vI ((a : Int) + 1))] [] (mk Y) (PV K)) : ∀ (m b : Nat) (X : HI), b + m = 10 → (∀ k, k ≠ 531 → X k = I k) → (∀ i j, i < 10 → j < 10 → (i < a ∨ (i = a ∧ j < b)) → X 531 (10 * i + j) = if i = j then 0 else 999) → J none mX11_sounds (d + 2) 0 0 10 [(0, vR 489), (1, vI (a : Int)), (2, vI (b : Int))] [] (mk X) (PV K)
  | 0, b, X, e, fX, mX => bk_X11_sounds_10 ⟨fun _ => ⟨by omega, h X fX (fun i j hi hj hij => mX i j hi hj (by omega))⟩, fun q => by omega⟩
  | m + 1, b, X, e, fX, mX => by
    have ih := fun Y => snd_b ha h m (b + 1) Y
    have put : ∀ (I1 : HI) (v : Int), v = (if a = b then 0 else 999) → I1 = up X 531 (10 * a + b) v → J none mX11_sounds (d + 2) 0 0 10 [(0, vR 489), (1, vI (a : Int)), (2, vI ((b : Int) + 1))] [] (mk I1) (PV K) := fun I1 v hv E1 => by
      have := ih I1 (by omega) (fun k hk => by rw [E1, up_k hk, fX k hk]) (fun i j hi hj hij => by
        by_cases q : i = a ∧ j = b
        · rw [q.1, q.2, E1, up_s, hv]
        · rw [E1, up_n (by omega)]
          exact mX i j hi hj (by omega))
      exact this
    refine bk_X11_sounds_10 ?_
    rw [show (10 * (a : Int) + (b : Int)).toNat = 10 * a + b from by omega]
    exact ⟨fun q => by omega, fun _ => ⟨by omega, by omega, fun q => ⟨by omega, fun I1 E1 => ⟨by omega, put I1 999 (by rw [if_neg (by omega)]) E1⟩⟩, fun q => ⟨by omega, fun I1 E1 => ⟨by omega, put I1 0 (by rw [if_pos (by omega)]) E1⟩⟩⟩⟩
theorem snd_a {n nl : Nat} (n10 : n ≤ 10) (enl : I 518 7 = nl) (nl16 : nl ≤ 16) (hL : LNo n nl (fun l => I 521 (64 + 4 * l)) (fun l => I 521 (64 + 4 * l + 1)) (fun l => I 521 (64 + 4 * l + 3))) (h : ∀ Y : HI, (∀ k, k ≠ 531 → Y k = I k) → MX (Y 531) 10 (fwn (lnk (fun l => I 521 (64 + 4 * l)) (fun l => I 521 (64 + 4 * l + 1)) (fun l => I 521 (64 + 4 * l + 3)) nl) 10) → K Y) : ∀ (m a : Nat) (X : HI), a + m = 10 → (∀ k, k ≠ 531 → X k = I k) → (∀ i j, i < 10 → j < 10 → i < a → X 531 (10 * i + j) = if i = j then 0 else 999) → J none mX11_sounds (d + 2) 0 0 2 [(0, vR 489), (1, vI (a : Int))] [] (mk X) (PV K)
  | 0, a, X, e, fX, mX => by
    refine bk_X11_sounds_2 ⟨fun _ => ?_, fun q => by omega⟩
    exact snd_l n10 enl nl16 hL h nl 0 X (by omega) fX (fun i j hi hj => mX i j hi hj (by omega))
  | m + 1, a, X, e, fX, mX => by
    have ih := fun Y => snd_a n10 enl nl16 hL h m (a + 1) Y
    refine bk_X11_sounds_2 ⟨fun q => by omega, fun _ => ?_⟩
    have := snd_b (d := d) (K := K) (I := I) (a := a) (by omega) (fun Y fY mY => ih Y (by omega) fY (fun i j hi hj hij => mY i j hi hj hij)) 10 0 X (by omega) fX (fun i j hi hj hij => mX i j hi hj (by omega))
    exact this
theorem c11_sounds {n nl : Nat} (n10 : n ≤ 10) (enl : I 518 7 = nl) (nl16 : nl ≤ 16) (hL : LNo n nl (fun l => I 521 (64 + 4 * l)) (fun l => I 521 (64 + 4 * l + 1)) (fun l => I 521 (64 + 4 * l + 3))) (h : ∀ Y : HI, (∀ k, k ≠ 531 → Y k = I k) → MX (Y 531) 10 (fwn (lnk (fun l => I 521 (64 + 4 * l)) (fun l => I 521 (64 + 4 * l + 1)) (fun l => I 521 (64 + 4 * l + 3)) nl) 10) → K Y) : CV mX11_sounds (d + 2) [vR 489] I K :=
  bk_X11_sounds_0 (snd_a n10 enl nl16 hL h 10 0 I (by omega) (fun _ _ => rfl) (fun i j hi hj hij => by omega))
/-- both hear alike -/
theorem sound_eq {n nl : Nat} {F G W : Nat → Int} (n10 : n ≤ 10) (hL : LNo n nl F G W) : FWo 10 (fwn (lnk F G W nl) 10) ∧ ∀ a b, a < n → b < n → fwn (lnk F G W nl) 10 a b = fwn (lnk F G W nl) n a b :=
  ⟨fwn_ok (lnk_ok hL 10 nl (Nat.le_refl _)) 10 (Nat.le_refl _), (fwn_far (lnk_ok hL 10 nl (Nat.le_refl _)) n10 (fun a b ha hb _ => lnk_far hL nl (Nat.le_refl _) a b ha hb) 10 (Nat.le_refl _)).2 n10⟩
end SM
