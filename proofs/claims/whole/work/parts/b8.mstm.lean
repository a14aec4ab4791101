/-- what a statement leaves alone in the reference -/
def MSd (X Y : HI) : Prop := (∀ c, c ≠ 489 → (c < 518 ∨ 528 < c) → Y c = X c) ∧ ((∀ u, 5 ≤ u → Y 518 u = X 518 u) ∧ (∀ u, 20 ≤ u → Y 519 u = X 519 u) ∧ (∀ u, 10 ≤ u → Y 520 u = X 520 u) ∧ (∀ u, 64 ≤ u → Y 521 u = X 521 u) ∧ (∀ u, 16 ≤ u → Y 522 u = X 522 u) ∧ (∀ u, 40 ≤ u → Y 523 u = X 523 u) ∧ (∀ u, 1600 ≤ u → Y 524 u = X 524 u) ∧ (∀ u, 6 ≤ u → Y 526 u = X 526 u) ∧ (∀ u, 6 ≤ u → Y 527 u = X 527 u) ∧ (∀ u, 6 ≤ u → Y 528 u = X 528 u)) ∧ (∀ j, j ≠ 2 → j ≠ 4 → j ≠ 5 → j ≠ 6 → j ≠ 36 → j ≠ 43 → j ≠ 47 → j ≠ 49 → j ≠ 50 → j ≠ 54 → Y 489 j = X 489 j)
theorem MSd_rfl (X : HI) : MSd X X := ⟨fun _ _ _ => rfl, ⟨fun _ _ => rfl, fun _ _ => rfl, fun _ _ => rfl, fun _ _ => rfl, fun _ _ => rfl, fun _ _ => rfl, fun _ _ => rfl, fun _ _ => rfl, fun _ _ => rfl, fun _ _ => rfl⟩, fun _ _ _ _ _ _ _ _ _ _ _ => rfl⟩
theorem MSd_tr {X Y Z : HI} (h : MSd X Y) (g : MSd Y Z) : MSd X Z := by
  obtain ⟨h1, ⟨a1, a2, a3, a4, a5, a6, a7, a8, a9, a10⟩, h3⟩ := h
  obtain ⟨g1, ⟨b1, b2, b3, b4, b5, b6, b7, b8, b9, b10⟩, g3⟩ := g
  exact ⟨fun c x y => by rw [g1 c x y, h1 c x y], ⟨fun u hu => by rw [b1 u hu, a1 u hu], fun u hu => by rw [b2 u hu, a2 u hu], fun u hu => by rw [b3 u hu, a3 u hu], fun u hu => by rw [b4 u hu, a4 u hu], fun u hu => by rw [b5 u hu, a5 u hu], fun u hu => by rw [b6 u hu, a6 u hu], fun u hu => by rw [b7 u hu, a7 u hu], fun u hu => by rw [b8 u hu, a8 u hu], fun u hu => by rw [b9 u hu, a9 u hu], fun u hu => by rw [b10 u hu, a10 u hu]⟩, fun j c1 c2 c3 c4 c5 c6 c7 c8 c9 c10 => by rw [g3 j c1 c2 c3 c4 c5 c6 c7 c8 c9 c10, h3 j c1 c2 c3 c4 c5 c6 c7 c8 c9 c10]⟩
/-- places of the drafts -/
def drw (c u : Nat) : Prop := match c with
  | 518 => u < 5
  | 519 => u < 20
  | 520 => u < 10
  | 521 => u < 64
  | 522 => u < 16
  | 523 => u < 40
  | 524 => u < 1600
  | 526 => u < 6
  | 527 => u < 6
  | 528 => u < 6
  | _ => False
theorem drw_c {c u : Nat} (h : drw c u) : 518 ≤ c ∧ c ≤ 528 := by
  unfold drw at h
  split at h <;> first | omega | exact h.elim
/-- one store into a draft -/
theorem MSd_up {X Y : HI} {c u : Nat} {v : Int} (e : Y = up X c u v) (h : drw c u) : MSd X Y := by
  have hc := drw_c h
  refine ⟨fun k k1 k2 => by rw [e, up_k (by omega)], ⟨?_, ?_, ?_, ?_, ?_, ?_, ?_, ?_, ?_, ?_⟩, fun j c1 c2 c3 c4 c5 c6 c7 c8 c9 c10 => by rw [e, up_k (by omega)]⟩
  · intro w hw
    rw [e, up_n (fun q => by
      have h' := h
      rw [← q.1] at h'
      have h2 : u < 5 := h'
      omega)]
  · intro w hw
    rw [e, up_n (fun q => by
      have h' := h
      rw [← q.1] at h'
      have h2 : u < 20 := h'
      omega)]
  · intro w hw
    rw [e, up_n (fun q => by
      have h' := h
      rw [← q.1] at h'
      have h2 : u < 10 := h'
      omega)]
  · intro w hw
    rw [e, up_n (fun q => by
      have h' := h
      rw [← q.1] at h'
      have h2 : u < 64 := h'
      omega)]
  · intro w hw
    rw [e, up_n (fun q => by
      have h' := h
      rw [← q.1] at h'
      have h2 : u < 16 := h'
      omega)]
  · intro w hw
    rw [e, up_n (fun q => by
      have h' := h
      rw [← q.1] at h'
      have h2 : u < 40 := h'
      omega)]
  · intro w hw
    rw [e, up_n (fun q => by
      have h' := h
      rw [← q.1] at h'
      have h2 : u < 1600 := h'
      omega)]
  · intro w hw
    rw [e, up_n (fun q => by
      have h' := h
      rw [← q.1] at h'
      have h2 : u < 6 := h'
      omega)]
  · intro w hw
    rw [e, up_n (fun q => by
      have h' := h
      rw [← q.1] at h'
      have h2 : u < 6 := h'
      omega)]
  · intro w hw
    rw [e, up_n (fun q => by
      have h' := h
      rw [← q.1] at h'
      have h2 : u < 6 := h'
      omega)]
theorem MSd_u9 {X Y : HI} {u : Nat} {v : Int} (e : Y = up X 489 u v) (h : u = 43 ∨ u = 49 ∨ u = 50 ∨ u = 54) : MSd X Y :=
  ⟨fun k k1 k2 => by rw [e, up_k k1], ⟨fun w _ => by rw [e, up_k (by decide)], fun w _ => by rw [e, up_k (by decide)], fun w _ => by rw [e, up_k (by decide)], fun w _ => by rw [e, up_k (by decide)], fun w _ => by rw [e, up_k (by decide)], fun w _ => by rw [e, up_k (by decide)], fun w _ => by rw [e, up_k (by decide)], fun w _ => by rw [e, up_k (by decide)], fun w _ => by rw [e, up_k (by decide)], fun w _ => by rw [e, up_k (by decide)]⟩, fun j c1 c2 c3 c4 c5 c6 c7 c8 c9 c10 => by rw [e, up_n (by omega)]⟩
theorem MSd_9 {X Y : HI} (f : ∀ c, c ≠ 489 → Y c = X c) (g : ∀ j, j ≠ 2 → j ≠ 4 → j ≠ 5 → j ≠ 6 → j ≠ 36 → Y 489 j = X 489 j) : MSd X Y :=
  ⟨fun c x _ => f c x, ⟨fun u _ => by rw [f 518 (by decide)], fun u _ => by rw [f 519 (by decide)], fun u _ => by rw [f 520 (by decide)], fun u _ => by rw [f 521 (by decide)], fun u _ => by rw [f 522 (by decide)], fun u _ => by rw [f 523 (by decide)], fun u _ => by rw [f 524 (by decide)], fun u _ => by rw [f 526 (by decide)], fun u _ => by rw [f 527 (by decide)], fun u _ => by rw [f 528 (by decide)]⟩, fun j a b c e h _ _ _ _ _ => g j a b c e h⟩
theorem MSd_n {X Y : HI} (h : NTf X Y) : MSd X Y := MSd_9 h.1 (fun j a b _ _ c => h.2 j a b c)
theorem NTf_l {X Y : HI} {q : Nat} (h : LKf X Y q) : NTf X Y := ⟨h.1, fun j a _ _ => h.2.1 j a⟩
theorem NTf_t {X Y : HI} {q : Nat} (h : TKf X Y q) : NTf X Y := ⟨h.1, fun j a b _ => h.2.1 j a b⟩
theorem NTf_tr {X Y Z : HI} (h : NTf X Y) (g : NTf Y Z) : NTf X Z := ⟨fun k hk => by rw [g.1 k hk, h.1 k hk], fun j a b c => by rw [g.2 j a b c, h.2 j a b c]⟩
theorem NTf_rfl (X : HI) : NTf X X := ⟨fun _ _ => rfl, fun _ _ _ _ => rfl⟩
/-- a fault told in a statement -/
def MFq (X Y : HI) (k p : Int) : Prop := MSd X Y ∧ Y 489 5 = k ∧ Y 489 6 = p ∧ k ≠ 0
theorem MFq_l {X Z Y : HI} {k p : Int} (h : MSd X Z) (g : FLf Z Y k p) (hk : k ≠ 0) : MFq X Y k p := ⟨MSd_tr h (MSd_9 g.1 (fun j _ _ c e _ => g.2.1 j c e)), g.2.2.1, g.2.2.2, hk⟩
theorem MFq_n {X Z Y : HI} {k p : Int} (h : MSd X Z) (g : FNf Z Y k p) (hk : k ≠ 0) : MFq X Y k p := ⟨MSd_tr h (MSd_9 g.1 g.2.1), g.2.2.1, g.2.2.2.1, hk⟩
theorem MFq_up {X Z Y : HI} {k p v : Int} {c u : Nat} (h : MFq X Z k p) (e : Y = up Z c u v) (hc : drw c u) : MFq X Y k p := by
  have c5 := drw_c hc
  exact ⟨MSd_tr h.1 (MSd_up e hc), by rw [e, up_k (by omega)]; exact h.2.1, by rw [e, up_k (by omega)]; exact h.2.2.1, h.2.2.2⟩
theorem MFq_u9 {X Z Y : HI} {k p v : Int} {u : Nat} (h : MFq X Z k p) (e : Y = up Z 489 u v) (hu : u = 43) : MFq X Y k p :=
  ⟨MSd_tr h.1 (MSd_u9 e (by omega)), by rw [e, up_n (by omega)]; exact h.2.1, by rw [e, up_n (by omega)]; exact h.2.2.1, h.2.2.2⟩
theorem MFq_b {X Y : HI} {k p : Int} (h : MFq X Y k p) : Y 489 5 ≠ 0 := by rw [h.2.1]; exact h.2.2.2
theorem MSd_45 {X Y : HI} (h : MSd X Y) : Y 489 45 = X 489 45 := h.2.2 45 (by decide) (by decide) (by decide) (by decide) (by decide) (by decide) (by decide) (by decide) (by decide) (by decide)
/-- as MSd, but for how many statements there are -/
def MSx (X Y : HI) : Prop := ∃ Z, MSd X Z ∧ (∀ c, c ≠ 489 → Y c = Z c) ∧ ∀ j, j ≠ 45 → Y 489 j = Z 489 j
def MFx (X Y : HI) (k p : Int) : Prop := MSx X Y ∧ Y 489 5 = k ∧ Y 489 6 = p ∧ k ≠ 0
section UQ
variable {t : Txt} {i : Nat}
theorem NUs_u {lo hi v v' : Int} (h : NUs t i lo hi v) (g : NUs t i lo hi v') : v' = v := by rw [h.2.2.1, g.2.2.1]
theorem NUf_u {lo hi k p k' p' : Int} (h : NUf t i lo hi k p) (g : NUf t i lo hi k' p') : k' = k ∧ p' = p := by
  rcases h with u | u | u
  · rcases g with v | v | v
    · omega
    · exact absurd v.1 u.1
    · exact absurd v.1 u.1
  · rcases g with v | v | v
    · exact absurd u.1 v.1
    · omega
    · omega
  · rcases g with v | v | v
    · exact absurd u.1 v.1
    · omega
    · have := u.2.2.2; have := v.2.2.2; omega
theorem NA_x {k p : Int} (h : NAs t i) (g : NAf t i k p) : False := by
  rcases g with u | u
  · exact u.1 h.1
  · have := h.2; omega
theorem NAf_u {k p k' p' : Int} (h : NAf t i k p) (g : NAf t i k' p') : k' = k ∧ p' = p := by
  rcases h with u | u
  · rcases g with v | v
    · omega
    · exact absurd v.1 u.1
  · rcases g with v | v
    · exact absurd u.1 v.1
    · omega
theorem NN_x {I : HI} {k p : Int} (h : NNs I t i) (g : NNf I t i k p) : False := by
  rcases g with u | ⟨_, _, _, ⟨w, a, b⟩ | ⟨w, a, b⟩⟩
  · exact NA_x h.1 u
  · exact h.2.1 w a b
  · exact h.2.2 w a b
theorem NNf_u {I : HI} {k p k' p' : Int} (h : NNf I t i k p) (g : NNf I t i k' p') : k' = k ∧ p' = p := by
  rcases h with u | u
  · rcases g with v | v
    · exact NAf_u u v
    · exact (NA_x v.1 u).elim
  · rcases g with v | v
    · exact (NA_x u.1 v).elim
    · have := u.2; have := v.2; omega
theorem NNf_k {I : HI} {k p : Int} (h : NNf I t i k p) : k ≠ 0 := by
  rcases h with u | u
  · have := NAf_k u; omega
  · have := u.2.1; omega
theorem CT_x {I : HI} {k p : Int} {w : Nat} (h : CTs I t i w) (g : CTf I t i k p) : False := by
  rcases g with u | u
  · exact NA_x h.1 u
  · exact u.2.2.2 w h.2.1 h.2.2.1
theorem CTs_u {I : HI} {w w' : Nat} (h : CTs I t i w) (g : CTs I t i w') : w' = w := by
  rcases Nat.lt_trichotomy w w' with a | a | a
  · exact absurd h.2.2.1 (g.2.2.2 w a)
  · exact a.symm
  · exact absurd g.2.2.1 (h.2.2.2 w' a)
theorem CTf_u {I : HI} {k p k' p' : Int} (h : CTf I t i k p) (g : CTf I t i k' p') : k' = k ∧ p' = p := by
  rcases h with u | u
  · rcases g with v | v
    · exact NAf_u u v
    · exact (NA_x v.1 u).elim
  · rcases g with v | v
    · exact (NA_x u.1 v).elim
    · have := u.2; have := v.2; omega
theorem CTf_k {I : HI} {k p : Int} (h : CTf I t i k p) : k ≠ 0 := by
  rcases h with u | u
  · have := NAf_k u; omega
  · have := u.2.1; omega
theorem AC_s {I : HI} {f : Int} {w : Nat} (h : ACs I t i f w) : CTs I t i w := ⟨h.1, h.2.1⟩
theorem AC_f {I : HI} {k p : Int} (h : ACf I t i (-1) k p) : CTf I t i k p := by
  rcases h with u | ⟨a, b, c, e | ⟨e, _⟩⟩
  · exact Or.inl u
  · exact Or.inr ⟨a, b, c, e⟩
  · exact absurd rfl e
end UQ
section RS9
variable {d : Nat} {X : HI} {K : HI → Prop} {KI : Int → HI → Prop} {t : Txt} {i : Nat}
theorem aB {w a : Nat} (ha : a = 491 + w) (hw : w ≤ 26) (hb : X 489 5 ≠ 0) (h : K X) : CV mX11_asks (d + 1) [vR 489, vR a] X K := by
  subst ha
  exact c11_asksB (wl_ok w hw).2.2.2 hb h
theorem c11_asksS {w a : Nat} (ha : a = 491 + w) (hw : w ≤ 26) (ht : TKN t) (hm : MRk t X i) (s : WS t i w) (k : ∀ Y : HI, NTf X Y → MRk t Y (i + 1) → K Y) : CV mX11_asks (d + 5) [vR 489, vR a] X K :=
  c11_asksW ha hw ht hm (fun _ _ Y fY mY => k Y (NTf_t fY) mY) (fun u => absurd s u)
theorem c11_asksF {w a : Nat} {k p : Int} {X0 : HI} (ha : a = 491 + w) (hw : w ≤ 26) (ht : TKN t) (hm : MRk t X i) (f0 : MSd X0 X) (s : WFx t i w k p) (h : ∀ Y : HI, MFq X0 Y k p → K Y) : CV mX11_asks (d + 5) [vR 489, vR a] X K := by
  obtain ⟨s1, s2, s3⟩ := s
  subst s2; subst s3
  exact c11_asksW ha hw ht hm (fun e1 e2 => absurd ⟨e1, e2⟩ s1) (fun _ Z Y fZ fY => h Y (MFq_l (MSd_tr f0 (MSd_n (NTf_l fZ))) fY (by decide)))
theorem c11_numS {lo hi v : Int} (ht : TKN t) (hm : MRk t X i) (s : NUs t i lo hi v) (k : ∀ Y : HI, NTf X Y → MRk t Y (i + 1) → KI v Y) : CI mX11_number (d + 2) [vR 489, vI lo, vI hi] X KI :=
  c11_numberK ht hm (fun v' Y hv fY mY => by rw [NUs_u s hv]; exact k Y (NTf_t fY) mY) (fun k' p' hf => (NU_x s hf).elim)
theorem c11_numF {lo hi k p : Int} {X0 : HI} (ht : TKN t) (hm : MRk t X i) (f0 : MSd X0 X) (s : NUf t i lo hi k p) (h : ∀ (x : Int) (Y : HI), (0 ≤ x ∧ x ≤ 9999) → MFq X0 Y k p → KI x Y) : CI mX11_number (d + 2) [vR 489, vI lo, vI hi] X KI :=
  c11_numberK ht hm (fun v' Y hv => (NU_x hv s).elim) (fun k' p' hf x Y hx fY => by
    obtain ⟨e1, e2⟩ := NUf_u s hf
    subst e1; subst e2
    exact h x Y hx (MFq_n f0 (FN_x fY) (NUf_k s)))
theorem c11_corS {I : HI} {w : Nat} (ht : TKN t) (hm : MRk t X i) (hr : NMR X I) (s : CTs I t i w) (k : ∀ Y : HI, NTf X Y → Y 489 36 = uS t i → MRk t Y (i + 1) → KI (w : Int) Y) : CI mX11_cornerTold (d + 6) [vR 489] X KI :=
  c11_cornerK ht hm hr (fun w' hw Y fY y36 mY => by rw [CTs_u s hw]; exact k Y fY y36 mY) (fun k' p' hf => (CT_x s hf).elim)
theorem c11_corF {I : HI} {k p : Int} {X0 : HI} (ht : TKN t) (hm : MRk t X i) (hr : NMR X I) (f0 : MSd X0 X) (s : CTf I t i k p) (h : ∀ (x : Int) (Y : HI), (0 ≤ x ∧ x ≤ 10) → MFq X0 Y k p → (∀ c, c ≠ 489 → Y c = X c) → KI x Y) : CI mX11_cornerTold (d + 6) [vR 489] X KI :=
  c11_cornerK ht hm hr (fun w' hw => (CT_x hw s).elim) (fun k' p' hf x Y hx fY => by
    obtain ⟨e1, e2⟩ := CTf_u s hf
    subst e1; subst e2
    exact h x Y hx (MFq_n f0 fY (CTf_k s)) fY.1)
end RS9
