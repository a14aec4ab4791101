theorem fold_FM {tot : List Nat → Int} {ms P : List Nat} : ∀ (L : List (List Nat)) (st : Bst), (∃ ys ∈ L, tot ys < st.1) → ∃ xs A, FMn L tot xs ∧ tot xs < st.1 ∧ L.foldl (bup 0 tot ms P) st = (tot xs, wrs A ms (P ++ xs))
  | [], st, h => by
    obtain ⟨ys, hy, _⟩ := h
    cases hy
  | y :: L, st, h => by
    rw [List.foldl_cons]
    by_cases q : tot y < st.1
    · have eu : bup 0 tot ms P st y = (tot y, wrs st.2 ms (P ++ y)) := by
        unfold bup
        rw [if_pos q, if_pos rfl]
      rw [eu]
      by_cases w : ∃ ys ∈ L, tot ys < tot y
      · obtain ⟨xs, A, ⟨l1, l2, e, f1, f2⟩, g2, g3⟩ := fold_FM L (tot y, wrs st.2 ms (P ++ y)) w
        refine ⟨xs, A, ⟨y :: l1, l2, by rw [e]; rfl, fun z hz => ?_, f2⟩, by simp only at g2; omega, g3⟩
        rcases List.mem_cons.mp hz with rfl | hz
        · exact g2
        · exact f1 z hz
      · refine ⟨y, st.2, ⟨[], L, rfl, fun z hz => (by cases hz), fun z hz => ?_⟩, q, ?_⟩
        · rcases Int.lt_or_le (tot z) (tot y) with v | v
          · exact absurd ⟨z, hz, v⟩ w
          · exact v
        · refine bup_skip L _ (fun z hz => ?_)
          rcases Int.lt_or_le (tot z) (tot y) with v | v
          · exact absurd ⟨z, hz, v⟩ w
          · exact v
    · have eu : bup 0 tot ms P st y = st := by
        unfold bup
        rw [if_neg q]
      rw [eu]
      obtain ⟨ys, hy, w⟩ := h
      rcases List.mem_cons.mp hy with rfl | hy
      · exact absurd w q
      · obtain ⟨xs, A, ⟨l1, l2, e, f1, f2⟩, g2, g3⟩ := fold_FM L st ⟨ys, hy, w⟩
        refine ⟨xs, A, ⟨y :: l1, l2, by rw [e]; rfl, fun z hz => ?_, f2⟩, g2, g3⟩
        rcases List.mem_cons.mp hz with rfl | hz
        · omega
        · exact f1 z hz
theorem vis_odeq {od od' : Nat → List Nat} {lw : Nat → Nat → Nat → Nat → Prop} : ∀ (ms : List Nat) (ok : Nat → Nat → Prop), (∀ s ∈ ms, od s = od' s) → vis od lw ms ok = vis od' lw ms ok
  | [], ok, h => rfl
  | s :: ms, ok, h => by
    show (od s).flatMap _ = (od' s).flatMap _
    rw [h s List.mem_cons_self]
    refine flatMap_congr' _ (fun x hx => ?_)
    rw [vis_odeq ms _ (fun t ht => h t (List.mem_cons_of_mem _ ht))]
theorem cst_congr {f g : Nat → Nat → Int} : ∀ (ms xs : List Nat), (∀ s ∈ ms, ∀ x, f s x = g s x) → cst f ms xs = cst g ms xs
  | [], xs, h => by cases xs <;> rfl
  | s :: ms, [], h => rfl
  | s :: ms, x :: xs, h => by
    show f s x + cst f ms xs = g s x + cst g ms xs
    rw [h s List.mem_cons_self, cst_congr ms xs (fun t ht => h t (List.mem_cons_of_mem _ ht))]
/-- nothing is lost by those that aren't asked -/
theorem vne {I : HI} {cs : Int → List Int} {bits : Int} : ∀ (rs : List Nat) (ok ok' : Nat → Nat → Prop), (∀ t y : Nat, bit bits (t : Int) = true → (ok t y ↔ ok' t y)) → (∀ t y : Nat, bit bits (t : Int) = false → ok t y) → ((∃ ys, ys ∈ vis (odm I bits) (lwm I cs bits) rs ok) ↔ ∃ ys, ys ∈ vis (odn I) (LW I cs) (rs.filter (fun t : Nat => bit bits t)) ok')
  | [], ok, ok', h1, h2 => ⟨fun _ => ⟨[], List.mem_singleton.mpr rfl⟩, fun _ => ⟨[], List.mem_singleton.mpr rfl⟩⟩
  | s :: rs, ok, ok', h1, h2 => by
    by_cases hb : bit bits (s : Int) = true
    · have ef : (s :: rs).filter (fun t : Nat => bit bits t) = s :: rs.filter (fun t : Nat => bit bits t) := List.filter_cons_of_pos hb
      have eo : odm I bits s = odn I s := by
        unfold odm
        rw [if_pos hb]
      rw [ef]
      have key : ∀ x, ok s x → ((∃ ys, ys ∈ vis (odm I bits) (lwm I cs bits) rs (fun t y => ok t y ∧ lwm I cs bits s x t y)) ↔ ∃ ys, ys ∈ vis (odn I) (LW I cs) (rs.filter (fun t : Nat => bit bits t)) (fun t y => ok' t y ∧ LW I cs s x t y)) := fun x _ => vne rs _ _ (fun t y ht => by
        unfold lwm
        rw [h1 t y ht]
        exact and_congr Iff.rfl ⟨fun w => w hb ht, fun w _ _ => w⟩) (fun t y ht => ⟨h2 t y ht, fun _ w => by rw [ht] at w; cases w⟩)
      constructor
      · rintro ⟨ys, hy⟩
        rw [vis_mem] at hy
        cases ys with
        | nil => exact hy.elim
        | cons x ys =>
          obtain ⟨g1, g2, g3⟩ := hy
          obtain ⟨zs, hz⟩ := (key x g2).mp ⟨ys, g3⟩
          refine ⟨x :: zs, ?_⟩
          rw [vis_mem]
          exact ⟨by rw [← eo]; exact g1, (h1 s x hb).mp g2, hz⟩
      · rintro ⟨ys, hy⟩
        rw [vis_mem] at hy
        cases ys with
        | nil => exact hy.elim
        | cons x ys =>
          obtain ⟨g1, g2, g3⟩ := hy
          obtain ⟨zs, hz⟩ := (key x ((h1 s x hb).mpr g2)).mpr ⟨ys, g3⟩
          refine ⟨x :: zs, ?_⟩
          rw [vis_mem]
          exact ⟨by rw [eo]; exact g1, (h1 s x hb).mpr g2, hz⟩
    · have hbf : bit bits (s : Int) = false := by simpa using hb
      have ef : (s :: rs).filter (fun t : Nat => bit bits t) = rs.filter (fun t : Nat => bit bits t) := List.filter_cons_of_neg (by simpa using hbf)
      have eo : odm I bits s = [0] := by
        unfold odm
        rw [if_neg hb]
      rw [ef]
      have key := vne (I := I) (cs := cs) rs (fun t y => ok t y ∧ lwm I cs bits s 0 t y) ok' (fun t y ht => by
        unfold lwm
        rw [h1 t y ht]
        exact ⟨fun w => w.1, fun w => ⟨w, fun w2 => absurd w2 hb⟩⟩) (fun t y ht => ⟨h2 t y ht, fun w => absurd w hb⟩)
      rw [← key]
      constructor
      · rintro ⟨ys, hy⟩
        rw [vis_mem] at hy
        cases ys with
        | nil => exact hy.elim
        | cons x ys =>
          obtain ⟨g1, g2, g3⟩ := hy
          rw [eo, List.mem_singleton] at g1
          rw [g1] at g3
          exact ⟨ys, g3⟩
      · rintro ⟨ys, hy⟩
        refine ⟨0 :: ys, ?_⟩
        rw [vis_mem]
        exact ⟨by rw [eo]; exact List.mem_singleton.mpr rfl, h2 s 0 hbf, hy⟩
section PN
variable {d : Nat} {I : HI} {KI : Int → HI → Prop} {K2 : Int → Int → HI → Prop} {cs : Int → List Int} {H : List Sn}
theorem c11_isChosen {bits z any : Int} {n : Nat} (h : MDW I cs) (en : (n : Int) = I 518 6) (b0 : 0 ≤ bits) (b1 : bits < 16) (k1 : ∀ (Y : HI) (xs : List Nat), GFr I Y → MDW Y cs → any = 0 → FMn (vism I cs bits (List.range' 0 n) (okm I cs bits z)) (cst (prm I cs bits z) (List.range' 0 n)) xs → BS z Y (cst (prm I cs bits z) (List.range' 0 n) xs) → (∀ (i x : Nat), xs[i]? = some x → i < n → Y 551 i = x) → KI 1 Y) (ka : ∀ (Y : HI) (ys : List Nat), GFr I Y → any ≠ 0 → ys ∈ vism I cs bits (List.range' 0 n) (okm I cs bits z) → KI 1 Y) (k0 : ∀ Y : HI, GFr I Y → MDW Y cs → vism I cs bits (List.range' 0 n) (okm I cs bits z) = [] → KI 0 Y) : CI mX11_isChosen (d + 9) [vR 489, vI bits, vI z, vI any] I KI := by
  have n6 := h.1.1.1.2.2.1
  refine bk_X11_isChosen_0 (fun I1 e1 I2 e2 I3 e3 => ?_)
  have f3 : ∀ k, k ≠ 489 → k ≠ 550 → I3 k = I k := fun k h1 h2 => by rw [e3, up_k h2, e2, up_k h1, e1, up_k h1]
  have g3 : ∀ j, j ≠ 83 → j ≠ 84 → I3 489 j = I 489 j := fun j h1 h2 => by rw [e3, up_k (by decide), e2, up_j h1, e1, up_j h2]
  have G3 : GFr I I3 := ⟨fun k k1 _ _ _ k5 _ => f3 k k1 k5, fun j _ j2 j3 => g3 j j2 j3⟩
  have := m_cho (d := d) (KI := KI) (any := any) (z := z) (bits := bits) (n := n) h en b0 b1 (fun q Y ys gY hy => ka Y ys gY q hy) n [] (okm I cs bits z) I3 100000 (by simp) G3 (MDW_g h (fun k k1 k2 _ => f3 k k1 k2) g3) (fun i x hx => by simp at hx) (fun _ => by rw [e3]; exact up_e) (Or.inl ⟨by rw [e3, up_k (by decide), e2, up_j (by decide), e1, up_e], rfl, by rw [e3, up_k (by decide), e2, up_e]⟩) (fun t y _ hb => ⟨fun w => ⟨w hb, fun i x hx => by simp at hx⟩, fun w _ => w.1⟩) (fun t y hb w => by rw [hb] at w; cases w) (fun ys hy => hy) (by simp [cst]) (fun _ => rfl) (fun Y B' gY hY cY bY hf hfa => ?_)
  · exact this
  · have tu : ∀ ys : List Nat, cst (prm I cs bits z) (List.range' 0 n) ys < 100000 := fun ys => by
      have := cst_up (M := 10999) (fun s x => (prm_rng I cs bits z s x).2) (by omega) (List.range' 0 n) ys
      rw [List.length_range'] at this
      omega
    have et : (fun ys => cst (prm I cs bits z) (List.range' 0 ([] : List Nat).length) [] + cst (prm I cs bits z) (List.range' ([] : List Nat).length n) ys) = (fun ys => cst (prm I cs bits z) (List.range' 0 n) ys) := by
      funext ys
      show 0 + _ = _
      exact Int.zero_add _
    rw [et] at hf
    simp only [List.length_nil] at hf hfa
    by_cases hL : vism I cs bits (List.range' 0 n) (okm I cs bits z) = []
    · rw [hL] at hf
      injection hf with hf1 _
      refine bk_X11_isChosen_20 ⟨fun _ => ⟨fun q => PI_i (k0 Y gY hY hL), fun q => ?_⟩, fun q => ?_⟩
      · rcases bY with w | w
        · exact absurd w.1 q
        · exfalso
          have := w.2.2.1
          split at this <;> omega
      · simp at q
    · have any0 : any = 0 := Classical.byContradiction fun q => hL (hfa q)
      obtain ⟨y, l, ey⟩ : ∃ y l, vism I cs bits (List.range' 0 n) (okm I cs bits z) = y :: l := by
        cases e : vism I cs bits (List.range' 0 n) (okm I cs bits z) with
        | nil => exact absurd e hL
        | cons y l => exact ⟨y, l, rfl⟩
      obtain ⟨xs, A, g1, g2, g4⟩ := fold_FM (tot := fun ys => cst (prm I cs bits z) (List.range' 0 n) ys) (ms := List.range' 0 n) (P := []) (vism I cs bits (List.range' 0 n) (okm I cs bits z)) (100000, I3 551) ⟨y, by rw [ey]; exact List.mem_cons_self, tu y⟩
      rw [g4] at hf
      injection hf with hf1 hf2
      rw [hf1] at bY
      refine bk_X11_isChosen_20 ⟨fun _ => ⟨fun q => ?_, fun q => PI_i (k1 Y xs gY hY any0 g1 bY (fun i x hx hi => ?_))⟩, fun q => ?_⟩
      · exfalso
        have c0 := cst_nn (fun s x => (prm_rng I cs bits z s x).1) (List.range' 0 n) xs
        have := tu xs
        rcases bY with w | w
        · omega
        · omega
      · rw [hf2, List.nil_append]
        have nd : (List.range' 0 n).Nodup := List.nodup_range'
        refine wrs_get (List.range' 0 n) xs A i i x nd ?_ hx
        rw [List.getElem?_range' hi]
        simp
      · simp at q
/-- everybody's choices are those of all -/
theorem vism_all {bits z : Int} {n : Nat} (hb : ∀ t : Nat, t < n → bit bits (t : Int) = true) : vism I cs bits (List.range' 0 n) (okm I cs bits z) = LL I cs z (mbs bits n) ∧ mbs bits n = List.range' 0 n ∧ ∀ ys, cst (prm I cs bits z) (List.range' 0 n) ys = cst (prc I cs z) (mbs bits n) ys := by
  have em : mbs bits n = List.range' 0 n := by
    unfold mbs
    rw [List.range_eq_range']
    refine List.filter_eq_self.mpr (fun t ht => ?_)
    rw [List.mem_range'_1] at ht
    exact hb t (by omega)
  refine ⟨?_, em, fun ys => ?_⟩
  · rw [em]
    unfold vism LL
    rw [vis_odeq (od' := odn I) (List.range' 0 n) _ (fun s hs => ?_)]
    · rw [vis_congr.vis_ok' (List.range' 0 n) (okm I cs bits z) (dmo I cs z) (fun s hs x _ => ?_)]
      · refine vis_congr (List.range' 0 n) _ _ (fun s x => Iff.rfl) (fun s x t y hs ht _ _ _ _ => ?_)
        rw [List.mem_range'_1] at hs ht
        unfold lwm
        exact ⟨fun w => w (hb s (by omega)) (hb t (by omega)), fun w _ _ => w⟩
      · rw [List.mem_range'_1] at hs
        unfold okm
        exact ⟨fun w => w (hb s (by omega)), fun w _ => w⟩
    · rw [List.mem_range'_1] at hs
      unfold odm
      rw [if_pos (hb s (by omega))]
  · rw [em]
    refine cst_congr _ _ (fun s hs x => ?_)
    rw [List.mem_range'_1] at hs
    unfold prm
    rw [if_pos (hb s (by omega))]
end PN
