def WS (t : Txt) (i w : Nat) : Prop := uK t i = w ∧ ¬ jnd t i
def WFx (t : Txt) (i w : Nat) (k p : Int) : Prop := ¬ WS t i w ∧ k = 1 ∧ p = uS t i
def GF (t : Txt) (i : Nat) (c k p : Int) : Prop := ¬ sgn t i c ∧ k = 1 ∧ p = uS t i
def AP1 (f g : Nat → Int) (n : Nat) (v : Int) : Prop := g n = v ∧ ∀ u, u ≠ n → g u = f u
def AP2 (f g : Nat → Int) (m n : Nat) (v : Int) : Prop := g m = v ∧ g n = v ∧ ∀ u, u ≠ m → u ≠ n → g u = f u
def AP4 (f g : Nat → Int) (n : Nat) (a b c e : Int) : Prop := (g (4 * n) = a ∧ g (4 * n + 1) = b ∧ g (4 * n + 2) = c ∧ g (4 * n + 3) = e) ∧ ∀ u, (u < 4 * n ∨ 4 * n + 4 ≤ u) → g u = f u
def AP6 (f g : Nat → Int) (n : Nat) (t : Txt) (i : Nat) : Prop := (∀ k, k < 6 → g (6 * n + k) = lt6 t i k) ∧ ∀ u, (u < 6 * n ∨ 6 * n + 6 ≤ u) → g u = f u
def CNT (I Y : HI) (w : Nat) : Prop := AP1 (I 15) (Y 15) w (I 15 w + 1) ∧ Y 28 12 = I 28 12
def SS_corner (t : Txt) (i j : Nat) (I Y : HI) : Prop := j = i + 5 ∧ uK t i = 0 ∧ I 15 0 < 10 ∧ ∃ v3 : Int, (NNs I t (i + 1) ∧ WS t (i + 2) 1 ∧ NUs t (i + 3) 1 9 v3 ∧ sgn t (i + 4) 59) ∧ CNT I Y 0 ∧ AP1 (I 18) (Y 18) (I 15 0).toNat v3 ∧ AP6 (I 16) (Y 16) (I 15 0).toNat t (i + 1) ∧ (∀ c, 14 ≤ c → c ≤ 26 → c ≠ 15 → c ≠ 16 → c ≠ 18 → Y c = I c)
def SF_corner (t : Txt) (i : Nat) (I : HI) (k p : Int) : Prop := uK t i = 0 ∧ ((¬ I 15 0 < 10 ∧ k = 5 ∧ p = uS t i) ∨ (I 15 0 < 10 ∧ (NNf I t (i + 1) k p ∨ (NNs I t (i + 1) ∧ (WFx t (i + 2) 1 k p ∨ (WS t (i + 2) 1 ∧ (NUf t (i + 3) 1 9 k p ∨ (∃ v3 : Int, NUs t (i + 3) 1 9 v3 ∧ GF t (i + 4) 59 k p))))))))
def SS_lane (t : Txt) (i j : Nat) (I Y : HI) : Prop := j = i + 8 ∧ uK t i = 2 ∧ I 15 1 < 16 ∧ ∃ a1 : Nat, ∃ a2 : Nat, ∃ v4 : Int, ∃ v6 : Int, (ACs I t (i + 1) (-1) a1 ∧ ACs I t (i + 2) (a1 : Int) a2 ∧ WS t (i + 3) 3 ∧ NUs t (i + 4) 1 9 v4 ∧ WS t (i + 5) 4 ∧ NUs t (i + 6) 0 9 v6 ∧ sgn t (i + 7) 59) ∧ CNT I Y 1 ∧ AP4 (I 19) (Y 19) (I 15 1).toNat a1 a2 v4 v6 ∧ AP2 (I 25) (Y 25) (10 * a1 + a2) (10 * a2 + a1) (I 15 1) ∧ (∀ c, 14 ≤ c → c ≤ 26 → c ≠ 15 → c ≠ 19 → c ≠ 25 → Y c = I c)
def SF_lane (t : Txt) (i : Nat) (I : HI) (k p : Int) : Prop := uK t i = 2 ∧ ((¬ I 15 1 < 16 ∧ k = 5 ∧ p = uS t i) ∨ (I 15 1 < 16 ∧ (ACf I t (i + 1) (-1) k p ∨ (∃ a1 : Nat, ACs I t (i + 1) (-1) a1 ∧ (ACf I t (i + 2) (a1 : Int) k p ∨ (∃ a2 : Nat, ACs I t (i + 2) (a1 : Int) a2 ∧ (WFx t (i + 3) 3 k p ∨ (WS t (i + 3) 3 ∧ (NUf t (i + 4) 1 9 k p ∨ (∃ v4 : Int, NUs t (i + 4) 1 9 v4 ∧ (WFx t (i + 5) 4 k p ∨ (WS t (i + 5) 4 ∧ (NUf t (i + 6) 0 9 k p ∨ (∃ v6 : Int, NUs t (i + 6) 0 9 v6 ∧ GF t (i + 7) 59 k p))))))))))))))
def SS_saint (t : Txt) (i j : Nat) (I Y : HI) : Prop := j = i + 11 ∧ uK t i = 5 ∧ I 15 2 < 4 ∧ ∃ a3 : Nat, ∃ v5 : Int, ∃ v7 : Int, ∃ v9 : Int, (NNs I t (i + 1) ∧ WS t (i + 2) 6 ∧ ACs I t (i + 3) (-1) a3 ∧ WS t (i + 4) 7 ∧ NUs t (i + 5) 1 5 v5 ∧ WS t (i + 6) 8 ∧ NUs t (i + 7) 0 20 v7 ∧ WS t (i + 8) 9 ∧ NUs t (i + 9) 0 99 v9 ∧ sgn t (i + 10) 59) ∧ CNT I Y 2 ∧ AP4 (I 20) (Y 20) (I 15 2).toNat a3 v5 v7 v9 ∧ AP6 (I 17) (Y 17) (I 15 2).toNat t (i + 1) ∧ (∀ c, 14 ≤ c → c ≤ 26 → c ≠ 15 → c ≠ 17 → c ≠ 20 → Y c = I c)
def SF_saint (t : Txt) (i : Nat) (I : HI) (k p : Int) : Prop := uK t i = 5 ∧ ((¬ I 15 2 < 4 ∧ k = 5 ∧ p = uS t i) ∨ (I 15 2 < 4 ∧ (NNf I t (i + 1) k p ∨ (NNs I t (i + 1) ∧ (WFx t (i + 2) 6 k p ∨ (WS t (i + 2) 6 ∧ (ACf I t (i + 3) (-1) k p ∨ (∃ a3 : Nat, ACs I t (i + 3) (-1) a3 ∧ (WFx t (i + 4) 7 k p ∨ (WS t (i + 4) 7 ∧ (NUf t (i + 5) 1 5 k p ∨ (∃ v5 : Int, NUs t (i + 5) 1 5 v5 ∧ (WFx t (i + 6) 8 k p ∨ (WS t (i + 6) 8 ∧ (NUf t (i + 7) 0 20 k p ∨ (∃ v7 : Int, NUs t (i + 7) 0 20 v7 ∧ (WFx t (i + 8) 9 k p ∨ (WS t (i + 8) 9 ∧ (NUf t (i + 9) 0 99 k p ∨ (∃ v9 : Int, NUs t (i + 9) 0 99 v9 ∧ GF t (i + 10) 59 k p))))))))))))))))))))
def SS_balcony (t : Txt) (i j : Nat) (I Y : HI) : Prop := j = i + 10 ∧ uK t i = 10 ∧ I 15 3 < 10 ∧ ∃ a2 : Nat, ∃ v4 : Int, ∃ v6 : Int, ∃ v8 : Int, (WS t (i + 1) 6 ∧ ACs I t (i + 2) (-1) a2 ∧ WS t (i + 3) 11 ∧ NUs t (i + 4) 0 999 v4 ∧ WS t (i + 5) 12 ∧ NUs t (i + 6) v4 999 v6 ∧ WS t (i + 7) 13 ∧ NUs t (i + 8) 1 99 v8 ∧ sgn t (i + 9) 59) ∧ CNT I Y 3 ∧ AP4 (I 21) (Y 21) (I 15 3).toNat a2 v4 v6 v8 ∧ (∀ c, 14 ≤ c → c ≤ 26 → c ≠ 15 → c ≠ 21 → Y c = I c)
def SF_balcony (t : Txt) (i : Nat) (I : HI) (k p : Int) : Prop := uK t i = 10 ∧ ((¬ I 15 3 < 10 ∧ k = 5 ∧ p = uS t i) ∨ (I 15 3 < 10 ∧ (WFx t (i + 1) 6 k p ∨ (WS t (i + 1) 6 ∧ (ACf I t (i + 2) (-1) k p ∨ (∃ a2 : Nat, ACs I t (i + 2) (-1) a2 ∧ (WFx t (i + 3) 11 k p ∨ (WS t (i + 3) 11 ∧ (NUf t (i + 4) 0 999 k p ∨ (∃ v4 : Int, NUs t (i + 4) 0 999 v4 ∧ (WFx t (i + 5) 12 k p ∨ (WS t (i + 5) 12 ∧ (NUf t (i + 6) v4 999 k p ∨ (∃ v6 : Int, NUs t (i + 6) v4 999 v6 ∧ (WFx t (i + 7) 13 k p ∨ (WS t (i + 7) 13 ∧ (NUf t (i + 8) 1 99 k p ∨ (∃ v8 : Int, NUs t (i + 8) 1 99 v8 ∧ GF t (i + 9) 59 k p))))))))))))))))))
def SS_but (t : Txt) (i j : Nat) (I Y : HI) : Prop := uK t i = 14 ∧ I 15 4 < 6 ∧ ∃ (j1 : Nat) (cs : List Int), Tss t 6 (i + 1) j1 cs ∧ sgn t j1 59 ∧ j = j1 + 1 ∧ (∀ C, CDt I C → CDt Y (C ++ cs)) ∧ AP1 (I 15) (Y 15) 4 (I 15 4 + 1) ∧ AP1 (I 24) (Y 24) (I 15 4).toNat (wct t (i + 1) j1) ∧ AP1 (I 23) (Y 23) ((I 15 4).toNat + 1) (Y 28 12) ∧ (∀ c, 14 ≤ c → c ≤ 26 → c ≠ 15 → c ≠ 22 → c ≠ 23 → c ≠ 24 → Y c = I c)
def SF_but (t : Txt) (i : Nat) (I : HI) (k p : Int) : Prop := uK t i = 14 ∧ ((¬ I 15 4 < 6 ∧ k = 5 ∧ p = uS t i) ∨ (I 15 4 < 6 ∧ (Tsf t 6 (i + 1) k p ∨ ∃ (j1 : Nat) (cs : List Int), Tss t 6 (i + 1) j1 cs ∧ GF t j1 59 k p)))
def SS_rain (t : Txt) (i j : Nat) (I Y : HI) : Prop := j = i + 3 ∧ uK t i = 15 ∧ (∃ v : Int, NUs t (i + 1) 0 999 v ∧ sgn t (i + 2) 59 ∧ AP1 (I 14) (Y 14) 13 v) ∧ (∀ c, 15 ≤ c → c ≤ 26 → Y c = I c) ∧ Y 28 12 = I 28 12
def SF_rain (t : Txt) (i : Nat) (I : HI) (k p : Int) : Prop := uK t i = 15 ∧ (NUf t (i + 1) 0 999 k p ∨ ∃ v : Int, NUs t (i + 1) 0 999 v ∧ GF t (i + 2) 59 k p)
def SF_no (t : Txt) (i : Nat) (k p : Int) : Prop := (uK t i ≠ 0 ∧ uK t i ≠ 2 ∧ uK t i ≠ 5 ∧ uK t i ≠ 10 ∧ uK t i ≠ 14 ∧ uK t i ≠ 15) ∧ k = 1 ∧ p = uS t i
def SS (t : Txt) (i j : Nat) (I Y : HI) : Prop := SS_corner t i j I Y ∨ SS_lane t i j I Y ∨ SS_saint t i j I Y ∨ SS_balcony t i j I Y ∨ SS_but t i j I Y ∨ SS_rain t i j I Y
def SF (t : Txt) (i : Nat) (I : HI) (k p : Int) : Prop := SF_corner t i I k p ∨ SF_lane t i I k p ∨ SF_saint t i I k p ∨ SF_balcony t i I k p ∨ SF_but t i I k p ∨ SF_rain t i I k p ∨ SF_no t i k p
/-- what the class has changed in the middle of a statement -/
def MID (I Z : HI) (a b : Nat) : Prop := (∀ c, c ≠ 28 → c ≠ a → c ≠ b → Z c = I c) ∧ (∀ j, 11 < j → Z 28 j = I 28 j)
section CSM
variable {d : Nat} {I Z : HI} {K : HI → Prop} {KI : Int → HI → Prop} {t : Txt} {i a b : Nat}
theorem MID_av {Y : HI} (h : MID I Z a b) (f : AVf Z Y) : MID I Y a b := ⟨fun c x y z => by rw [f.1 c x, h.1 c x y z], fun j hj => by rw [f.2 j (by omega), h.2 j hj]⟩
theorem MID_nv {Y : HI} (h : MID I Z a b) (f : NVf Z Y) : MID I Y a b := ⟨fun c x y z => by rw [f.1 c x, h.1 c x y z], fun j hj => by rw [f.2 j (by omega), h.2 j hj]⟩
theorem FQ_mid {Y : HI} {k p : Int} (ht : TKN t) (hr : RDk t Z i) (h : MID I Z a b) (ha : 14 ≤ a ∧ a ≤ 26) (hb : 14 ≤ b ∧ b ≤ 26) (w0 : 0 ≤ I 28 12) (f : FLc Z Y k p) : FQc t I Y k p := by
  have bd := hr.2.2.2.2
  have n := hr.2.1
  have n16 := ht.1.2
  exact ⟨fun c x y => by rw [f.1 c y, h.1 c y (by omega) (by omega)], f.2.2, by rw [f.2.1 11 (by decide) (by decide)]; omega, by rw [f.2.1 12 (by decide) (by decide), h.2 12 (by omega)]; exact w0⟩
theorem FQ_midN {X Y : HI} {k p : Int} (ht : TKN t) (hr : RDk t Z i) (h : MID I Z a b) (ha : 14 ≤ a ∧ a ≤ 26) (hb : 14 ≤ b ∧ b ≤ 26) (w0 : 0 ≤ I 28 12) (fX : NVf Z X) (e : X 28 11 = Z 28 11) (f : FLc X Y k p) : FQc t I Y k p := by
  have bd := hr.2.2.2.2
  have n := hr.2.1
  have n16 := ht.1.2
  exact ⟨fun c x y => by rw [f.1 c y, fX.1 c y, h.1 c y (by omega) (by omega)], f.2.2, by rw [f.2.1 11 (by decide) (by decide), e]; omega, by rw [f.2.1 12 (by decide) (by decide), fX.2 12 (by omega), h.2 12 (by omega)]; exact w0⟩
theorem c7_full {w : Nat} {m : Int} (ht : TKN t) (hr : RDk t I i) (hi : i < uN t) (w5 : w < 5) (k0 : I 15 w < m → ∀ Y : HI, MID I Y 28 28 → RDk t Y (i + 1) → Y 28 11 = 0 → KI 0 Y) (k1 : ¬ I 15 w < m → ∀ Y : HI, FLc I Y 5 (uS t i) → KI 1 Y) : CI mX7_full (d + 2) [vR 28, vI (w : Int), vI m] I KI := by
  have r5 := hr.2.2.1.2.1
  have t0 := ht.2.2.2.2
  refine bk_X7_full_0 ?_
  rw [Int.toNat_natCast, r5]
  refine ⟨by omega, fun q => c7_advance ht hr hi (fun Y fY rY eY I2 e2 => PI_i (k0 q I2 ⟨fun c x _ _ => by rw [e2, up_k x, fY.1 c x], fun j hj => by rw [e2, up_n (by omega), fY.2 j (by omega)]⟩ ?_ (by rw [e2, up_s]))), fun q => c7_fail (fun Y fY => PI_i (k1 q Y fY))⟩
  obtain ⟨⟨r1, r2⟩, r3, r4, r6, r7⟩ := rY
  exact ⟨⟨by rw [e2, up_k (by decide)]; exact r1, fun u hu => by rw [e2, up_k (by decide), up_k (by decide), up_k (by decide)]; exact r2 u hu⟩, r3, by rw [e2, up_n (by decide), up_n (by decide), up_n (by decide), up_n (by decide)]; exact r4, by rw [e2, up_n (by decide)]; exact r6, by rw [e2, up_s]; omega⟩
theorem MID_ab (h : MID I Z 28 28) : MID I Z a b := ⟨fun c x _ _ => h.1 c x x x, h.2⟩
theorem MID_nn {Y : HI} {w i' : Nat} (h : MID I Z a b) (f : NWc Z Y t i' a w) : MID I Y a b := ⟨fun c x y z => by rw [f.1 c x y, h.1 c x y z], fun j hj => by rw [f.2.1 j (by omega), h.2 j hj]⟩
theorem MID_up {Y : HI} {u : Nat} {v : Int} (h : MID I Z a b) (e : Y = up Z b u v) (b28 : b ≠ 28) : MID I Y a b := ⟨fun c x y z => by rw [e, up_k z, h.1 c x y z], fun j hj => by rw [e, up_k (by omega), h.2 j hj]⟩
theorem RD_up {Y : HI} {c u : Nat} {v : Int} (h : RDk t Z i) (e : Y = up Z c u v) (hc : c < 27) : RDk t Y i := by
  obtain ⟨⟨r1, r2⟩, r3, r4, r6, r7⟩ := h
  have f : ∀ k, 26 < k → Y k = Z k := fun k hk => by rw [e, up_k (by omega)]
  exact ⟨⟨by rw [f 27 (by omega)]; exact r1, fun u hu => by rw [f 29 (by omega), f 30 (by omega), f 31 (by omega)]; exact r2 u hu⟩, r3, by rw [f 28 (by omega)]; exact r4, by rw [f 28 (by omega)]; exact r6, by rw [f 28 (by omega)]; exact r7⟩
theorem NNs_m (h : ∀ c, 15 ≤ c → c ≤ 17 → Z c = I c) : NNs Z t i ↔ NNs I t i := by
  unfold NNs
  rw [h 15 (by omega) (by omega), h 16 (by omega) (by omega), h 17 (by omega) (by omega)]
theorem NNf_m {k p : Int} (h : ∀ c, 15 ≤ c → c ≤ 17 → Z c = I c) : NNf Z t i k p ↔ NNf I t i k p := by
  unfold NNf
  rw [h 15 (by omega) (by omega), h 16 (by omega) (by omega), h 17 (by omega) (by omega)]
theorem ACs_m {f : Int} {w : Nat} (h1 : Z 15 = I 15) (h2 : Z 16 = I 16) (h3 : Z 25 = I 25) : ACs Z t i f w ↔ ACs I t i f w := by
  unfold ACs
  rw [h1, h2, h3]
theorem ACf_m {f k p : Int} (h1 : Z 15 = I 15) (h2 : Z 16 = I 16) (h3 : Z 25 = I 25) : ACf Z t i f k p ↔ ACf I t i f k p := by
  unfold ACf
  rw [h1, h2, h3]
end CSM
