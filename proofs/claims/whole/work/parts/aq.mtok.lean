def jnx (t : Txt) (i : Nat) : Prop := 0 < i ∧ uK t (i - 1) ≤ 28 ∧ uS t i = uP t (i - 1)
def OWR (X : HI) : Prop := ∀ w, w ≤ 26 → ∀ k, k < wln w → X (491 + w) k = ow (8 * w + k)
/-- the reference stands ahead of token i -/
def MRk (t : Txt) (X : HI) (i : Nat) : Prop := ((∀ j, j < uE t → X 490 j = uA t j) ∧ OWR X) ∧ i ≤ uN t ∧ (X 489 3 = uE t ∧ X 489 5 = 0) ∧ (∃ p : Nat, X 489 2 = p ∧ pe (uP t) i ≤ p ∧ p ≤ uS t i ∧ X 489 6 = -1) ∧ ((jnx t i → X 489 4 = uS t i) ∧ (¬ jnx t i → X 489 4 < uS t i))
def MFr (X Y : HI) : Prop := (∀ k, k ≠ 489 → Y k = X k) ∧ (∀ j, j ≠ 2 → j ≠ 4 → Y 489 j = X 489 j)
theorem MFr_rfl (X : HI) : MFr X X := ⟨fun _ _ => rfl, fun _ _ _ => rfl⟩
theorem MFr_tr {X Y Z : HI} (h : MFr X Y) (g : MFr Y Z) : MFr X Z := ⟨fun k hk => by rw [g.1 k hk, h.1 k hk], fun j a b => by rw [g.2 j a b, h.2 j a b]⟩
theorem MFr_l {X Y : HI} {q : Nat} (h : LKf X Y q) : MFr X Y := ⟨h.1, fun j a _ => h.2.1 j a⟩
theorem MFr_t {X Y : HI} {q : Nat} (h : TKf X Y q) : MFr X Y := ⟨h.1, fun j a b => h.2.1 j a b⟩
theorem tk_ltr {t : Txt} (ht : TKN t) {i : Nat} (hi : i < uN t) : (ltr (uA t (uS t i)) ↔ uK t i ≤ 27) ∧ (dgt (uA t (uS t i)) ↔ uK t i = 28) ∧ (uK t i = 29 → uP t i = uS t i + 1) := by
  have h := ht.2.2.1 i hi
  rcases h.2.2 with a | a | a
  · have k27 : uK t i ≤ 27 := by rcases a.2.2 with b | b <;> omega
    refine ⟨⟨fun _ => k27, fun _ => a.1⟩, ⟨fun q => ?_, fun q => by omega⟩, fun q => by omega⟩
    have := a.1
    unfold ltr at this
    unfold dgt at q
    omega
  · have k28 : uK t i = 28 := a.2.2
    refine ⟨⟨fun q => ?_, fun q => by omega⟩, ⟨fun _ => k28, fun _ => a.1⟩, fun q => by omega⟩
    have := a.1
    unfold dgt at this
    unfold ltr at q
    omega
  · have k29 : uK t i = 29 := a.2.2.2
    exact ⟨⟨fun q => absurd q a.1, fun q => by omega⟩, ⟨fun q => absurd q a.2.1, fun q => by omega⟩, fun _ => a.2.2.1⟩
theorem gap_n {t : Txt} (ht : TKN t) {i : Nat} (hi : i < uN t) : uP t i ≤ uS t (i + 1) := by
  have := (ht.2.2.2.1 (i + 1) (by omega)).1
  unfold pe at this
  rw [if_neg (by omega), show i + 1 - 1 = i from by omega] at this
  exact this
section MT
variable {d : Nat} {X : HI} {K : HI → Prop} {KI : Int → HI → Prop} {t : Txt} {i : Nat}
theorem MRk_nxt (ht : TKN t) (hm : MRk t X i) : ∃ p : Nat, X 489 2 = p ∧ NXT (X 490) (uE t) p (uS t i) := by
  obtain ⟨⟨a1, a2⟩, a3, a4, ⟨p, b1, b2, b3, b6⟩, a5⟩ := hm
  have g := ht.2.2.2.1 i a3
  have se : uS t i ≤ uE t := by
    by_cases e : i = uN t
    · rw [e, ht.2.1.1]; omega
    · have := tK_n ht (i := i) (by omega)
      omega
  refine ⟨p, b1, ⟨b3, se⟩, fun j j1 j2 => ?_, ?_⟩
  · rw [a1 j (by omega)]
    exact g.2 j (by omega) j2
  · by_cases e : i = uN t
    · left
      rw [e]; exact ht.2.1.1
    · right
      have := ht.2.2.1 i (by omega)
      rw [a1 _ (by have := this.1; omega)]
      exact this.2.1
theorem MRk_lk {Y : HI} (hm : MRk t X i) (h : LKf X Y (uS t i)) : MRk t Y i := by
  obtain ⟨⟨a1, a2⟩, a3, a4, ⟨p, b1, b2, b3, b6⟩, a5⟩ := hm
  exact ⟨⟨fun j hj => by rw [h.1 490 (by decide)]; exact a1 j hj, fun w hw k hk => by rw [h.1 (491 + w) (by omega)]; exact a2 w hw k hk⟩, a3, by rw [h.2.1 3 (by decide), h.2.1 5 (by decide)]; exact a4, ⟨uS t i, h.2.2, by omega, Nat.le_refl _, by rw [h.2.1 6 (by decide)]; exact b6⟩, by rw [h.2.1 4 (by decide)]; exact a5⟩
theorem MRk_w {Y : HI} (ht : TKN t) (hm : MRk t X i) (hi : i < uN t) (hk : uK t i ≤ 28) (h : TKf X Y (uP t i)) : MRk t Y (i + 1) := by
  obtain ⟨⟨a1, a2⟩, a3, a4, ⟨p, b1, b2, b3, b6⟩, a5⟩ := hm
  have g := gap_n ht hi
  refine ⟨⟨fun j hj => by rw [h.1 490 (by decide)]; exact a1 j hj, fun w hw k hk => by rw [h.1 (491 + w) (by omega)]; exact a2 w hw k hk⟩, by omega, by rw [h.2.1 3 (by decide) (by decide), h.2.1 5 (by decide) (by decide)]; exact a4, ⟨uP t i, h.2.2.1, ?_, g, by rw [h.2.1 6 (by decide) (by decide)]; exact b6⟩, ?_⟩
  · unfold pe
    rw [if_neg (by omega), show i + 1 - 1 = i from by omega]
    exact Nat.le_refl _
  · rw [h.2.2.2]
    unfold jnx
    rw [show i + 1 - 1 = i from by omega]
    exact ⟨fun q => by omega, fun q => by omega⟩
theorem MRk_sg {Y : HI} (ht : TKN t) (hm : MRk t X i) (hi : i < uN t) (hk : uK t i = 29) (h : LKf X Y (uS t i + 1)) : MRk t Y (i + 1) := by
  obtain ⟨⟨a1, a2⟩, a3, a4, ⟨p, b1, b2, b3, b6⟩, a5⟩ := hm
  have g := gap_n ht hi
  have e := (tk_ltr ht hi).2.2 hk
  refine ⟨⟨fun j hj => by rw [h.1 490 (by decide)]; exact a1 j hj, fun w hw k hk => by rw [h.1 (491 + w) (by omega)]; exact a2 w hw k hk⟩, by omega, by rw [h.2.1 3 (by decide), h.2.1 5 (by decide)]; exact a4, ⟨uS t i + 1, h.2.2, ?_, by omega, by rw [h.2.1 6 (by decide)]; exact b6⟩, ?_⟩
  · unfold pe
    rw [if_neg (by omega), show i + 1 - 1 = i from by omega]
    omega
  · rw [h.2.1 4 (by decide)]
    have : X 489 4 ≤ uS t i := by
      by_cases j : jnx t i
      · have := a5.1 j; omega
      · have := a5.2 j; omega
    unfold jnx
    rw [show i + 1 - 1 = i from by omega]
    exact ⟨fun q => by omega, fun q => by omega⟩
/-- what the reference sees there -/
def lkv (t : Txt) (i : Nat) : Int := if i = uN t then -1 else uA t (uS t i)
theorem lkv_sg (ht : TKN t) (hi : i ≤ uN t) {c : Int} (c0 : 0 ≤ c) (c1 : ¬ ltr c) (c2 : ¬ dgt c) : lkv t i = c ↔ sgn t i c := by
  unfold lkv
  by_cases e : i = uN t
  · rw [if_pos e]
    refine ⟨fun q => by omega, fun q => ?_⟩
    have := q.1
    have := ht.2.1.2.2
    rw [← e] at this
    omega
  · rw [if_neg e]
    have a := tk_ltr ht (i := i) (by omega)
    have b := tK_n ht (i := i) (by omega)
    refine ⟨fun q => ⟨?_, q⟩, fun q => q.2⟩
    rw [q] at a
    have n1 := (not_congr a.1).mp c1
    have n2 := (not_congr a.2.1).mp c2
    omega
theorem c11_lookK (ht : TKN t) (hm : MRk t X i) (h : ∀ Y : HI, LKf X Y (uS t i) → MRk t Y i → KI (lkv t i) Y) : CI mX11_look (d + 1) [vR 489] X KI := by
  obtain ⟨p, b1, b2⟩ := MRk_nxt ht hm
  have e16 := ht.1.1
  refine c11_look e16 hm.2.2.1.1 b1 b2 (fun q Y fY => ?_) (fun q Y fY => ?_)
  · have e : i = uN t := by
      by_cases e : i = uN t
      · exact e
      · have := tK_n ht (i := i) (by have := hm.2.1; omega)
        omega
    have := h Y fY (MRk_lk hm fY)
    unfold lkv at this
    rw [if_pos e] at this
    exact this
  · have e : i ≠ uN t := by
      intro e
      have := ht.2.1.1
      rw [← e] at this
      omega
    have := h Y fY (MRk_lk hm fY)
    unfold lkv at this
    rw [if_neg e, ← hm.1.1 _ q] at this
    exact this
def rr (t : Txt) (i : Nat) : Nat := if uK t i ≤ 27 then uP t i else uS t i
theorem rr_run (ht : TKN t) (hm : MRk t X i) (q : uS t i < uE t) : i < uN t ∧ RUN ltr (X 490) (uE t) (uS t i) (rr t i) := by
  have hi : i < uN t := by
    have := hm.2.1
    by_cases e : i = uN t
    · have := ht.2.1.1
      rw [← e] at this
      omega
    · omega
  refine ⟨hi, ?_⟩
  have h := ht.2.2.1 i hi
  have a := tk_ltr ht hi
  have ag := hm.1.1
  unfold rr
  by_cases k : uK t i ≤ 27
  · rw [if_pos k]
    rcases h.2.2 with b | b | b
    · obtain ⟨r1, r2, r3⟩ := b.2.1
      refine ⟨r1, fun j j1 j2 => by rw [ag j (by omega)]; exact r2 j j1 j2, ?_⟩
      rcases r3 with r | r
      · exact Or.inl r
      · by_cases e : uP t i = uE t
        · exact Or.inl e
        · exact Or.inr (by rw [ag _ (by omega)]; exact r)
    · omega
    · omega
  · rw [if_neg k]
    refine ⟨⟨Nat.le_refl _, by omega⟩, fun j j1 j2 => by omega, Or.inr ?_⟩
    rw [ag _ q]
    exact fun u => k (a.1.mp u)
theorem jnx_jnd (h : uK t i ≤ 28) : jnx t i ↔ jnd t i := ⟨fun q => ⟨q.1, q.2.1, q.2.2, h⟩, fun q => ⟨q.1, q.2.1, q.2.2.1⟩⟩
theorem HRE_iff {w : Nat} (ht : TKN t) (hm : MRk t X i) (hw : w ≤ 26) : HRE X (uE t) (uS t i) (rr t i) (wln w) (491 + w) ↔ (uK t i = w ∧ ¬ jnd t i) := by
  obtain ⟨o1, o2, o3, o4⟩ := wl_ok w hw
  constructor
  · intro h
    obtain ⟨⟨h1, h2⟩, h3, h4, h5⟩ := h
    obtain ⟨hi, _⟩ := rr_run ht hm h1
    have a := tk_ltr ht hi
    rw [hm.1.1 _ h1] at h2
    have k := a.1.mp h2
    unfold rr at h4
    rw [if_pos k] at h4
    have kn := tK_n ht hi
    have sp : SPL (uA t) (uS t i) (uP t i) w := ⟨h4, fun k hk => by rw [← hm.1.1 _ (by omega), h5 k hk, hm.1.2 w hw k hk]⟩
    have b := ht.2.2.1 i hi
    refine ⟨?_, fun j => ?_⟩
    · rcases b.2.2 with c | c | c
      · rcases c.2.2 with e | e
        · exact SPL_u e.2 sp e.1 hw
        · exact absurd sp (e.2 w hw)
      · omega
      · omega
    · have := hm.2.2.2.2.1 ((jnx_jnd (by omega)).mpr j)
      omega
  · intro h
    have hi : i < uN t := by
      have := tK_e ht hm.2.1
      have := hm.2.1
      omega
    have kn := tK_n ht hi
    have a := tk_ltr ht hi
    have b := ht.2.2.1 i hi
    have sp : SPL (uA t) (uS t i) (uP t i) w := by
      rcases b.2.2 with c | c | c
      · rcases c.2.2 with e | e
        · rw [← h.1]; exact e.2
        · omega
      · omega
      · omega
    refine ⟨⟨by omega, by rw [hm.1.1 _ (by omega)]; exact a.1.mpr (by omega)⟩, ?_, ?_, fun k hk => ?_⟩
    · have := hm.2.2.2.2.2 (fun u => h.2 ((jnx_jnd (by omega)).mp u))
      omega
    · unfold rr
      rw [if_pos (by omega)]
      exact sp.1
    · rw [hm.1.1 _ (by have := sp.1; omega), sp.2 k hk, hm.1.2 w hw k hk]
theorem c11_isHereW {w a : Nat} (ha : a = 491 + w) (hw : w ≤ 26) (ht : TKN t) (hm : MRk t X i) (k1 : uK t i = w → ¬ jnd t i → ∀ Y : HI, LKf X Y (uS t i) → MRk t Y i → KI 1 Y) (k0 : ¬ (uK t i = w ∧ ¬ jnd t i) → ∀ Y : HI, LKf X Y (uS t i) → MRk t Y i → KI 0 Y) : CI mX11_isHere (d + 3) [vR 489, vR a] X KI := by
  subst ha
  obtain ⟨p, b1, b2⟩ := MRk_nxt ht hm
  obtain ⟨o1, o2, o3, o4⟩ := wl_ok w hw
  exact c11_isHere o4 (by omega) (by omega) ht.1.1 hm.2.2.1.1 b1 hm.2.2.1.2 b2 (fun q => (rr_run ht hm q).2) (fun h Y fY => k1 ((HRE_iff ht hm hw).mp h).1 ((HRE_iff ht hm hw).mp h).2 Y fY (MRk_lk hm fY)) (fun h Y fY => k0 (fun u => h ((HRE_iff ht hm hw).mpr u)) Y fY (MRk_lk hm fY))
theorem rr_w {w : Nat} (hw : w ≤ 26) (h : uK t i = w) : rr t i = uP t i := by
  unfold rr
  rw [if_pos (by omega)]
theorem c11_takesW {w a : Nat} (ha : a = 491 + w) (hw : w ≤ 26) (ht : TKN t) (hm : MRk t X i) (k1 : uK t i = w → ¬ jnd t i → ∀ Y : HI, TKf X Y (uP t i) → MRk t Y (i + 1) → KI 1 Y) (k0 : ¬ (uK t i = w ∧ ¬ jnd t i) → ∀ Y : HI, LKf X Y (uS t i) → MRk t Y i → KI 0 Y) : CI mX11_takes (d + 4) [vR 489, vR a] X KI := by
  subst ha
  obtain ⟨p, b1, b2⟩ := MRk_nxt ht hm
  obtain ⟨o1, o2, o3, o4⟩ := wl_ok w hw
  have kk := tK_e ht hm.2.1
  have hin := hm.2.1
  refine c11_takes o4 (by omega) (by omega) ht.1.1 hm.2.2.1.1 b1 hm.2.2.1.2 b2 (fun q => (rr_run ht hm q).2) (fun h Y fY => ?_) (fun h Y fY => k0 (fun u => h ((HRE_iff ht hm hw).mpr u)) Y fY (MRk_lk hm fY))
  obtain ⟨e1, e2⟩ := (HRE_iff ht hm hw).mp h
  rw [rr_w hw e1] at fY
  exact k1 e1 e2 Y fY (MRk_w ht hm (by omega) (by omega) fY)
theorem c11_asksW {w a : Nat} (ha : a = 491 + w) (hw : w ≤ 26) (ht : TKN t) (hm : MRk t X i) (k1 : uK t i = w → ¬ jnd t i → ∀ Y : HI, TKf X Y (uP t i) → MRk t Y (i + 1) → K Y) (k0 : ¬ (uK t i = w ∧ ¬ jnd t i) → ∀ Z Y : HI, LKf X Z (uS t i) → FLf Z Y 1 (uS t i) → K Y) : CV mX11_asks (d + 5) [vR 489, vR a] X K := by
  subst ha
  obtain ⟨p, b1, b2⟩ := MRk_nxt ht hm
  obtain ⟨o1, o2, o3, o4⟩ := wl_ok w hw
  have kk := tK_e ht hm.2.1
  have hin := hm.2.1
  refine c11_asks o4 (by omega) (by omega) ht.1.1 hm.2.2.1.1 b1 hm.2.2.1.2 b2 (fun q => (rr_run ht hm q).2) (fun h Y fY => ?_) (fun h Z Y fZ fY => k0 (fun u => h ((HRE_iff ht hm hw).mpr u)) Z Y fZ fY)
  obtain ⟨e1, e2⟩ := (HRE_iff ht hm hw).mp h
  rw [rr_w hw e1] at fY
  exact k1 e1 e2 Y fY (MRk_w ht hm (by omega) (by omega) fY)
theorem sg_see {c : Int} (ht : TKN t) (hm : MRk t X i) (c0 : 0 ≤ c) (c1 : ¬ ltr c) (c2 : ¬ dgt c) : (uS t i < uE t ∧ X 490 (uS t i) = c) ↔ sgn t i c := by
  rw [← lkv_sg ht hm.2.1 c0 c1 c2]
  unfold lkv
  by_cases e : i = uN t
  · rw [if_pos e]
    have := ht.2.1.1
    rw [← e] at this
    omega
  · rw [if_neg e]
    have := tK_n ht (i := i) (by have := hm.2.1; omega)
    rw [hm.1.1 _ (by omega)]
    exact ⟨fun q => q.2, fun q => ⟨by omega, q⟩⟩
theorem c11_takesSg {c : Int} (ht : TKN t) (hm : MRk t X i) (c0 : 0 ≤ c) (c1 : ¬ ltr c) (c2 : ¬ dgt c) (k1 : sgn t i c → ∀ Y : HI, LKf X Y (uS t i + 1) → MRk t Y (i + 1) → KI 1 Y) (k0 : ¬ sgn t i c → ∀ Y : HI, LKf X Y (uS t i) → MRk t Y i → KI 0 Y) : CI mX11_takesSign (d + 2) [vR 489, vI c] X KI := by
  obtain ⟨p, b1, b2⟩ := MRk_nxt ht hm
  have s := sg_see ht hm c0 c1 c2
  exact c11_takesSign ht.1.1 c0 hm.2.2.1.1 b1 hm.2.2.1.2 b2 (fun h Y fY => k1 (s.mp h) Y fY (MRk_sg ht hm (sgn_lt ht hm.2.1 (s.mp h)) (s.mp h).1 fY)) (fun h Y fY => k0 (fun u => h (s.mpr u)) Y fY (MRk_lk hm fY))
theorem c11_asksSg {c : Int} (ht : TKN t) (hm : MRk t X i) (c0 : 0 ≤ c) (c1 : ¬ ltr c) (c2 : ¬ dgt c) (k1 : sgn t i c → ∀ Y : HI, LKf X Y (uS t i + 1) → MRk t Y (i + 1) → K Y) (k0 : ¬ sgn t i c → ∀ Z Y : HI, LKf X Z (uS t i) → FLf Z Y 1 (uS t i) → K Y) : CV mX11_asksSign (d + 3) [vR 489, vI c] X K := by
  obtain ⟨p, b1, b2⟩ := MRk_nxt ht hm
  have s := sg_see ht hm c0 c1 c2
  exact c11_asksSign ht.1.1 c0 hm.2.2.1.1 b1 hm.2.2.1.2 b2 (fun h Y fY => k1 (s.mp h) Y fY (MRk_sg ht hm (sgn_lt ht hm.2.1 (s.mp h)) (s.mp h).1 fY)) (fun h Z Y fZ fY => k0 (fun u => h (s.mpr u)) Z Y fZ fY)
theorem c11_isDigit {x : Int} (k1 : dgt x → KI 1 X) (k0 : ¬ dgt x → KI 0 X) : CI mX11_isDigit (d + 1) [vI x] X KI := by
  unfold dgt at k1 k0
  exact bk_X11_isDigit_0 ⟨fun q => PI_i (k0 (by omega)), fun q => ⟨fun q2 => PI_i (k0 (by omega)), fun q2 => PI_i (k1 (by omega))⟩⟩
theorem c11_isInK {v lo hi : Int} (k1 : lo ≤ v ∧ v ≤ hi → KI 1 X) (k0 : ¬ (lo ≤ v ∧ v ≤ hi) → KI 0 X) : CI mX11_isIn (d + 1) [vL v, vL lo, vL hi] X KI :=
  bk_X11_isIn_0 ⟨fun q => PI_i (k0 (by omega)), fun q => ⟨fun q2 => PI_i (k0 (by omega)), fun q2 => PI_i (k1 (by omega))⟩⟩
/-- a fault is told, whatever place -/
def FXf (X Y : HI) (k p : Int) : Prop := (∀ c, c ≠ 489 → Y c = X c) ∧ (∀ j, j ≠ 2 → j ≠ 4 → j ≠ 5 → j ≠ 6 → Y 489 j = X 489 j) ∧ Y 489 5 = k ∧ Y 489 6 = p ∧ (0 ≤ Y 489 2 ∧ Y 489 2 ≤ 1600)
theorem FXf_m {X Z Y : HI} {k p : Int} (m : MFr X Z) (f : FLf Z Y k p) (b2 : 0 ≤ Z 489 2 ∧ Z 489 2 ≤ 1600) : FXf X Y k p := ⟨fun c hc => by rw [f.1 c hc, m.1 c hc], fun j a b c e => by rw [f.2.1 j c e, m.2 j a b], f.2.2.1, f.2.2.2, by rw [f.2.1 2 (by decide) (by decide)]; exact b2⟩
end MT
