/-- the first i places of a row, told anew o places further -/
def CPo (I X : HI) (c o i : Nat) : Prop := (∀ k, k ≠ c → X k = I k) ∧ (∀ j, o ≤ j → j < o + i → X c j = I c (j - o)) ∧ (∀ j, (j < o ∨ o + i ≤ j) → X c j = I c j)
theorem CPo_0 (I : HI) (c o : Nat) : CPo I I c o 0 := ⟨fun _ _ => rfl, fun j h1 h2 => by omega, fun _ _ => rfl⟩
theorem CPo_s {I X Y : HI} {c o i : Nat} (h : CPo I X c o i) (io : i < o) (e : Y = up X c (o + i) (X c i)) : CPo I Y c o (i + 1) := by
  refine ⟨fun k hk => by rw [e, up_k hk, h.1 k hk], fun j h1 h2 => ?_, fun j hj => by rw [e, up_n (by omega), h.2.2 j (by omega)]⟩
  by_cases q : j = o + i
  · rw [q, e, up_s, h.2.2 i (by omega)]
    congr 1
    omega
  · rw [e, up_n (by omega)]
    exact h.2.1 j h1 (by omega)
section ST
variable {d : Nat} {I : HI} {K : HI → Prop}
theorem st_2 (h : ∀ Y : HI, CPo I Y 518 5 5 → J none mX11_stands (d + 3) 0 0 29 [(0, vR 489), (1, vI 0)] [] (mk Y) (PV K)) : ∀ (m i : Nat) (X : HI), i + m = 5 → CPo I X 518 5 i → J none mX11_stands (d + 3) 0 0 2 [(0, vR 489), (1, vI (i : Int))] [] (mk X) (PV K)
  | 0, i, X, e, hX => by
    have ei : i = 5 := by omega
    subst ei
    exact bk_X11_stands_2 ⟨fun _ => h X hX, fun q => by omega⟩
  | m + 1, i, X, e, hX => by
    refine bk_X11_stands_2 ⟨fun q => by omega, fun _ => ⟨by omega, by omega, by omega, fun I1 e1 => ⟨by omega, ?_⟩⟩⟩
    rw [show (5 + (i : Int)).toNat = 5 + i from by omega, Int.toNat_natCast] at e1
    have := st_2 h m (i + 1) I1 (by omega) (CPo_s hX (by omega) e1)
    exact this
theorem st_29 (h : ∀ Y : HI, CPo I Y 519 20 20 → J none mX11_stands (d + 3) 0 0 58 [(0, vR 489), (1, vI 0)] [] (mk Y) (PV K)) : ∀ (m i : Nat) (X : HI), i + m = 20 → CPo I X 519 20 i → J none mX11_stands (d + 3) 0 0 29 [(0, vR 489), (1, vI (i : Int))] [] (mk X) (PV K)
  | 0, i, X, e, hX => by
    have ei : i = 20 := by omega
    subst ei
    exact bk_X11_stands_29 ⟨fun _ => h X hX, fun q => by omega⟩
  | m + 1, i, X, e, hX => by
    refine bk_X11_stands_29 ⟨fun q => by omega, fun _ => ⟨by omega, by omega, by omega, fun I1 e1 => ⟨by omega, ?_⟩⟩⟩
    rw [show (20 + (i : Int)).toNat = 20 + i from by omega, Int.toNat_natCast] at e1
    have := st_29 h m (i + 1) I1 (by omega) (CPo_s hX (by omega) e1)
    exact this
theorem st_58 (h : ∀ Y : HI, CPo I Y 520 10 10 → J none mX11_stands (d + 3) 0 0 87 [(0, vR 489), (1, vI 0)] [] (mk Y) (PV K)) : ∀ (m i : Nat) (X : HI), i + m = 10 → CPo I X 520 10 i → J none mX11_stands (d + 3) 0 0 58 [(0, vR 489), (1, vI (i : Int))] [] (mk X) (PV K)
  | 0, i, X, e, hX => by
    have ei : i = 10 := by omega
    subst ei
    exact bk_X11_stands_58 ⟨fun _ => h X hX, fun q => by omega⟩
  | m + 1, i, X, e, hX => by
    refine bk_X11_stands_58 ⟨fun q => by omega, fun _ => ⟨by omega, by omega, by omega, fun I1 e1 => ⟨by omega, ?_⟩⟩⟩
    rw [show (10 + (i : Int)).toNat = 10 + i from by omega, Int.toNat_natCast] at e1
    have := st_58 h m (i + 1) I1 (by omega) (CPo_s hX (by omega) e1)
    exact this
theorem st_87 (h : ∀ Y : HI, CPo I Y 521 64 64 → J none mX11_stands (d + 3) 0 0 116 [(0, vR 489), (1, vI 0)] [] (mk Y) (PV K)) : ∀ (m i : Nat) (X : HI), i + m = 64 → CPo I X 521 64 i → J none mX11_stands (d + 3) 0 0 87 [(0, vR 489), (1, vI (i : Int))] [] (mk X) (PV K)
  | 0, i, X, e, hX => by
    have ei : i = 64 := by omega
    subst ei
    exact bk_X11_stands_87 ⟨fun _ => h X hX, fun q => by omega⟩
  | m + 1, i, X, e, hX => by
    refine bk_X11_stands_87 ⟨fun q => by omega, fun _ => ⟨by omega, by omega, by omega, fun I1 e1 => ⟨by omega, ?_⟩⟩⟩
    rw [show (64 + (i : Int)).toNat = 64 + i from by omega, Int.toNat_natCast] at e1
    have := st_87 h m (i + 1) I1 (by omega) (CPo_s hX (by omega) e1)
    exact this
theorem st_116 (h : ∀ Y : HI, CPo I Y 522 16 16 → J none mX11_stands (d + 3) 0 0 145 [(0, vR 489), (1, vI 0)] [] (mk Y) (PV K)) : ∀ (m i : Nat) (X : HI), i + m = 16 → CPo I X 522 16 i → J none mX11_stands (d + 3) 0 0 116 [(0, vR 489), (1, vI (i : Int))] [] (mk X) (PV K)
  | 0, i, X, e, hX => by
    have ei : i = 16 := by omega
    subst ei
    exact bk_X11_stands_116 ⟨fun _ => h X hX, fun q => by omega⟩
  | m + 1, i, X, e, hX => by
    refine bk_X11_stands_116 ⟨fun q => by omega, fun _ => ⟨by omega, by omega, by omega, fun I1 e1 => ⟨by omega, ?_⟩⟩⟩
    rw [show (16 + (i : Int)).toNat = 16 + i from by omega, Int.toNat_natCast] at e1
    have := st_116 h m (i + 1) I1 (by omega) (CPo_s hX (by omega) e1)
    exact this
theorem st_145 (h : ∀ Y : HI, CPo I Y 523 40 40 → J none mX11_stands (d + 3) 0 0 174 [(0, vR 489), (1, vI 0)] [] (mk Y) (PV K)) : ∀ (m i : Nat) (X : HI), i + m = 40 → CPo I X 523 40 i → J none mX11_stands (d + 3) 0 0 145 [(0, vR 489), (1, vI (i : Int))] [] (mk X) (PV K)
  | 0, i, X, e, hX => by
    have ei : i = 40 := by omega
    subst ei
    exact bk_X11_stands_145 ⟨fun _ => h X hX, fun q => by omega⟩
  | m + 1, i, X, e, hX => by
    refine bk_X11_stands_145 ⟨fun q => by omega, fun _ => ⟨by omega, by omega, by omega, fun I1 e1 => ⟨by omega, ?_⟩⟩⟩
    rw [show (40 + (i : Int)).toNat = 40 + i from by omega, Int.toNat_natCast] at e1
    have := st_145 h m (i + 1) I1 (by omega) (CPo_s hX (by omega) e1)
    exact this
theorem st_174 (h : ∀ X1 X2 Y : HI, CPo I X1 526 6 6 → CPo X1 X2 527 6 6 → CPo X2 Y 528 6 6 → J none mX11_stands (d + 3) 0 0 233 [(0, vR 489), (1, vI 0)] [] (mk Y) (PV K)) : ∀ (m i : Nat) (X1 X2 X : HI), i + m = 6 → CPo I X1 526 6 i → CPo X1 X2 527 6 i → CPo X2 X 528 6 i → J none mX11_stands (d + 3) 0 0 174 [(0, vR 489), (1, vI (i : Int))] [] (mk X) (PV K)
  | 0, i, X1, X2, X, e, h1, h2, h3 => by
    have ei : i = 6 := by omega
    subst ei
    exact bk_X11_stands_174 ⟨fun _ => h X1 X2 X h1 h2 h3, fun q => by omega⟩
  | m + 1, i, X1, X2, X, e, h1, h2, h3 => by
    refine bk_X11_stands_174 ⟨fun q => by omega, fun _ => ⟨by omega, by omega, by omega, fun I1 e1 => ⟨by omega, by omega, by omega, fun I2 e2 => ⟨by omega, by omega, by omega, fun I3 e3 => ⟨by omega, ?_⟩⟩⟩⟩⟩
    have en : (6 + (i : Int)).toNat = 6 + i := by omega
    rw [en, Int.toNat_natCast] at e1 e2 e3
    have x6 : X 526 = X1 526 := by rw [h3.1 526 (by decide), h2.1 526 (by decide)]
    have x7 : X 527 = X2 527 := h3.1 527 (by decide)
    have a1 : CPo I (up X1 526 (6 + i) (X1 526 i)) 526 6 (i + 1) := CPo_s h1 (by omega) rfl
    have a2 : CPo (up X1 526 (6 + i) (X1 526 i)) (up (up X2 526 (6 + i) (X1 526 i)) 527 (6 + i) (X2 527 i)) 527 6 (i + 1) := by
      refine ⟨fun k hk => ?_, fun j j1 j2 => ?_, fun j hj => ?_⟩
      · funext j
        by_cases e6 : k = 526
        · subst e6
          by_cases ej : j = 6 + i
          · rw [up_k (by decide), ej, up_s, up_s]
          · rw [up_k (by decide), up_n (by omega), up_n (by omega), h2.1 526 (by decide)]
        · rw [up_k hk, up_k e6, up_k e6, h2.1 k hk]
      · rw [up_k (k := 526) (by decide)]
        by_cases ej : j = 6 + i
        · rw [ej, up_s, h2.2.2 i (by omega)]
          congr 1
          omega
        · rw [up_n (by omega), up_k (by decide)]
          exact h2.2.1 j j1 (by omega)
      · rw [up_n (by omega), up_k (by decide), up_k (by decide)]
        exact h2.2.2 j (by omega)
    have a3 : CPo (up (up X2 526 (6 + i) (X1 526 i)) 527 (6 + i) (X2 527 i)) I3 528 6 (i + 1) := by
      have i18 : I2 528 i = X 528 i := by rw [e2, up_k (by decide), e1, up_k (by decide)]
      have i17 : I1 527 i = X2 527 i := by rw [e1, up_k (by decide), x7]
      refine ⟨fun k hk => ?_, fun j j1 j2 => ?_, fun j hj => ?_⟩
      · funext j
        rw [e3, up_k hk, e2, i17, e1, x6]
        by_cases e7 : k = 527
        · subst e7
          by_cases ej : j = 6 + i
          · rw [ej, up_s, up_s]
          · rw [up_n (by omega), up_n (by omega), up_n (by omega), up_n (by omega), h3.1 527 (by decide)]
        · rw [up_k e7, up_k e7]
          by_cases e6 : k = 526
          · subst e6
            by_cases ej : j = 6 + i
            · rw [ej, up_s, up_s]
            · rw [up_n (by omega), up_n (by omega), h3.1 526 (by decide)]
          · rw [up_k e6, up_k e6, h3.1 k hk]
      · rw [up_k (k := 527) (by decide), up_k (k := 526) (by decide)]
        by_cases ej : j = 6 + i
        · rw [ej, e3, up_s, i18, h3.2.2 i (by omega)]
          congr 1
          omega
        · rw [e3, up_n (by omega), e2, up_k (by decide), e1, up_k (by decide)]
          exact h3.2.1 j j1 (by omega)
      · rw [e3, up_n (by omega), e2, up_k (by decide), e1, up_k (by decide), up_k (by decide), up_k (by decide)]
        exact h3.2.2 j (by omega)
    have := st_174 h m (i + 1) _ _ I3 (by omega) a1 a2 a3
    exact this
end ST
