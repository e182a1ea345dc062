abbrev hg (g : PG) (t : Nat) : Prop := t < g.1 ∧ 0 < g.2.2.1 t
def sg (g g' : PG) (t : Nat) : Prop := (hg g' t ↔ hg g t) ∧ (hg g t → g'.2.2.1 t = g.2.2.1 t ∧ ∀ i, i < g.2.2.1 t → g'.2.2.2 (g'.2.1 t + i) = g.2.2.2 (g.2.1 t + i))
theorem sg_refl (g : PG) (t : Nat) : sg g g t := ⟨Iff.rfl, fun _ => ⟨rfl, fun _ _ => rfl⟩⟩
theorem sg_trans {g g' g'' : PG} {t : Nat} (h1 : sg g g' t) (h2 : sg g' g'' t) : sg g g'' t := by
  refine ⟨h2.1.trans h1.1, fun h => ?_⟩
  have a := h1.2 h
  have b := h2.2 (h1.1.mpr h)
  refine ⟨b.1.trans a.1, fun i hi => ?_⟩
  rw [b.2 i (by rw [a.1]; exact hi), a.2 i hi]
theorem sg_wipe {g : PG} (hW : WF g) {s t : Nat} (hs : s < g.1 ∨ g.2.2.1 s = 0) (c : t ≠ s) : sg g (wipe g s) t := by
  have e1 : (wipe g s).2.2.1 t = g.2.2.1 t := va_upN c
  have e2 : (wipe g s).2.1 t = g.2.1 t := va_upN c
  refine ⟨?_, fun h => ⟨e1, fun i hi => ?_⟩⟩
  · unfold hg
    rw [e1]
    exact Iff.rfl
  · rw [e2]
    show zf g.2.2.2 (g.2.1 s) (g.2.2.1 s) (g.2.1 t + i) = _
    by_cases d : g.2.2.1 s = 0
    · rw [d, zf_0]
    · have hs' : s < g.1 := by rcases hs with q | q <;> omega
      have := hW.2.2.2.1 s t hs' h.1 (fun q => c q.symm) (by omega) h.2
      rw [zf_out (by omega)]
theorem sg_trim (g : PG) (t : Nat) : sg g (trim g) t := by
  refine ⟨⟨fun h => ⟨Nat.lt_of_lt_of_le h.1 (tr_le g g.1), h.2⟩, fun h => ⟨?_, h.2⟩⟩, fun _ => ⟨rfl, fun _ _ => rfl⟩⟩
  refine Nat.lt_of_not_le fun q => ?_
  have := tr_out g g.1 t q h.1
  have := h.2
  omega
theorem sg_rem {g : PG} (hW : WF g) {s t : Nat} (hs : s < g.1) (c : t ≠ s) : sg g (rem g s) t := sg_trans (sg_wipe hW (Or.inl hs) c) (sg_trim _ t)
theorem rem_s (g : PG) (s : Nat) : ¬ hg (rem g s) s := by
  intro h
  have h2 : 0 < va_up g.2.2.1 s 0 s := h.2
  rw [va_upS] at h2
  omega
theorem sg_ext {g : PG} (hW : WF g) {s : Nat} (hs : s ≤ g.1) (h31 : s < 31) (t : Nat) : sg g (ext g s) t := by
  by_cases c : s < g.1
  · rw [ext_id c]; exact sg_refl g t
  · have e : s = g.1 := by omega
    have q := hW.2.2.1 s (by omega) h31
    rw [ext_new e]
    refine ⟨⟨fun h => ⟨?_, h.2⟩, fun h => ⟨?_, h.2⟩⟩, fun _ => ⟨rfl, fun _ _ => rfl⟩⟩
    · have h1 : t < g.1 + 1 := h.1
      have h2 : 0 < g.2.2.1 t := h.2
      refine Nat.lt_of_not_le fun w => ?_
      rw [show t = s by omega] at h2
      omega
    · show t < g.1 + 1
      have := h.1
      omega
theorem cdat_at {g : PG} (hs : sm g g.1 ≤ 126) : ∀ n s i, n ≤ g.1 → s < n → i < g.2.2.1 s → cdat g n (cof g s + i) = g.2.2.2 (g.2.1 s + i)
  | 0, s, i, _, h, _ => absurd h (Nat.not_lt_zero s)
  | n + 1, s, i, hn, h, hi => by
    have hm := sm_mono g (n + 1) g.1 hn
    have e : cof g s = 128 - sm g (s + 1) := if_neg (by omega)
    rw [cdat_s]
    show (if _ then _ else _) = _
    by_cases c : s = n
    · subst c
      have hss := sm_s g s
      rw [if_pos (by rw [e]; omega)]
      rw [show g.2.1 s + (cof g s + i - (128 - sm g (s + 1))) = g.2.1 s + i by rw [e]; omega]
    · have hm2 := sm_mono g (s + 1) n (by omega)
      rw [if_neg (by rw [e]; omega)]
      exact cdat_at hs n s i (by omega) (by omega) hi
theorem sg_comp {g : PG} (hs : sm g g.1 ≤ 126) (t : Nat) : sg g (comp g) t := by
  refine ⟨Iff.rfl, fun h => ⟨rfl, fun i hi => ?_⟩⟩
  show cdat g g.1 ((if t < g.1 then cof g t else g.2.1 t) + i) = _
  rw [if_pos h.1]
  exact cdat_at hs g.1 t i (Nat.le_refl _) h.1 hi
theorem sg_pl {h : PG} {s z t : Nat} (c : t ≠ s) : sg h (pl h s z) t := by
  have e1 : (pl h s z).2.2.1 t = h.2.2.1 t := va_upN c
  have e2 : (pl h s z).2.1 t = h.2.1 t := va_upN c
  refine ⟨?_, fun _ => ⟨e1, fun i _ => ?_⟩⟩
  · unfold hg
    rw [e1]
    exact Iff.rfl
  · rw [e2]; rfl
theorem sg_wb {g : PG} (hW : WF g) {s t n : Nat} {b : Nat → Int32} (hs : s < g.1) (hn : n ≤ g.2.2.1 s) (c : t ≠ s) : sg g (wb g s b n) t := by
  refine ⟨Iff.rfl, fun h => ⟨rfl, fun i hi => ?_⟩⟩
  show cpy g.2.2.2 (g.2.1 s) n b (g.2.1 t + i) = _
  by_cases d : n = 0
  · rw [d, cpy_0]
  · have := hW.2.2.2.1 s t hs h.1 (fun q => c q.symm) (by omega) h.2
    rw [cpy_out (by omega)]
theorem put_eff {g : PG} (hW : WF g) {s z : Nat} {b : Nat → Int32} (hs : s ≤ g.1) (h31 : s < 31) (h3 : 3 ≤ z) (hr : sm (wipe g s) g.1 + 2 + 2 * (ext g s).1 + z ≤ 128) : (∀ t, t ≠ s → sg g (put g s z b) t) ∧ hg (put g s z b) s ∧ (put g s z b).2.2.1 s = z ∧ ∀ i, i < z → (put g s z b).2.2.2 ((put g s z b).2.1 s + i) = b i := by
  obtain ⟨k1, k2, k3, k4, k5⟩ := put_WF (b := b) hW hs h31 h3 hr
  have hl : (put g s z b).2.2.1 s = z := va_upS
  have ho : (put g s z b).2.1 s = (pl (pg (wipe g s) s z) s z).2.1 s := rfl
  refine ⟨?_, ⟨k3, by rw [hl]; omega⟩, hl, ?_⟩
  · intro t ht
    have hww : WF (wipe g s) := by
      by_cases c : s < g.1
      · exact wipe_WF hW c
      · have q := hW.2.2.1 s (by omega) h31
        rw [wipe_id q.1 q.2]; exact hW
    have h1 : sg g (wipe g s) t := by
      refine sg_wipe hW ?_ ht
      by_cases c : s < g.1
      · exact Or.inl c
      · exact Or.inr (hW.2.2.1 s (by omega) h31).1
    have h2 : sg (wipe g s) (pg (wipe g s) s z) t := by
      have h0 := sg_ext (g := wipe g s) hww hs h31 t
      have hex := sm_ext (g := wipe g s) (s := s) hww hs h31
      unfold pg
      split
      · refine sg_trans h0 (sg_comp ?_ t)
        rw [hex]
        show sm (wipe g s) g.1 ≤ 126
        omega
      · exact h0
    refine sg_trans (sg_trans (sg_trans h1 h2) (sg_pl ht)) (sg_wb k2 k3 ?_ ht)
    show z ≤ va_up _ s z s
    rw [va_upS]; exact Nat.le_refl _
  · intro i hi
    show cpy _ ((pl (pg (wipe g s) s z) s z).2.1 s) z b ((pl (pg (wipe g s) s z) s z).2.1 s + i) = b i
    rw [cpy_in (by omega), Nat.add_sub_cancel_left]
def Same (A A' : AS) (q t : Nat) : Prop := (has A' q t ↔ has A q t) ∧ (has A q t → ln A' q t = ln A q t ∧ ∀ i, i < ln A q t → db A' q t i = db A q t i)
theorem Same_refl (A : AS) (q t : Nat) : Same A A q t := ⟨Iff.rfl, fun _ => ⟨rfl, fun _ _ => rfl⟩⟩
theorem Same_trans {A B C : AS} {q t : Nat} (h1 : Same A B q t) (h2 : Same B C q t) : Same A C q t := by
  refine ⟨h2.1.trans h1.1, fun h => ?_⟩
  have a := h1.2 h
  have b := h2.2 (h1.1.mpr h)
  refine ⟨b.1.trans a.1, fun i hi => ?_⟩
  rw [b.2 i (by rw [a.1]; exact hi), a.2 i hi]
theorem Same_sp {A : AS} {p : Nat} {g : PG} {q t : Nat} (h : q = p → sg (A.2.1 p) g t) : Same A (sp A p g) q t := by
  by_cases c : q = p
  · subst c
    have h := h rfl
    have e : (sp A q g).2.1 q = g := va_upS
    unfold Same has ln db
    rw [e]
    refine ⟨⟨fun w => ⟨w.1, h.1.mp ⟨w.2.1, w.2.2⟩⟩, fun w => ⟨w.1, h.1.mpr ⟨w.2.1, w.2.2⟩⟩⟩, fun w => h.2 ⟨w.2.1, w.2.2⟩⟩
  · have e : (sp A p g).2.1 q = A.2.1 q := va_upN c
    unfold Same has ln db
    rw [e]
    exact ⟨Iff.rfl, fun _ => ⟨rfl, fun _ _ => rfl⟩⟩
theorem Same_rems {A : AS} (hA : WA A) {p s q t : Nat} (hp : p < A.1) (hs : s < (A.2.1 p).1) (c : ¬ (q = p ∧ t = s)) : Same A (rems A p s) q t :=
  Same_sp fun e => sg_rem (hA.2.1 p (by have := hA.1; omega)) hs (fun w => c ⟨e, w⟩)
theorem rems_s {A : AS} {p s : Nat} : ¬ has (rems A p s) p s := by
  intro h
  have e : (rems A p s).2.1 p = rem (A.2.1 p) s := va_upS
  unfold has ln at h
  rw [e] at h
  exact rem_s _ s ⟨h.2.1, h.2.2⟩
theorem Same_opn {A : AS} (hA : WA A) {p q t : Nat} (hp : p < 8) : Same A (opn A p) q t := by
  refine ⟨⟨fun h => ⟨?_, h.2⟩, fun h => ⟨?_, h.2⟩⟩, fun _ => ⟨rfl, fun _ _ => rfl⟩⟩
  · refine Nat.lt_of_not_le fun w => ?_
    have h1 : q < if p = A.1 then A.1 + 1 else A.1 := h.1
    have h2 : 0 < (A.2.1 q).2.2.1 t := h.2.2
    by_cases c : p = A.1
    · rw [if_pos c] at h1
      rw [hA.2.2 q w (by omega)] at h2
      exact absurd h2 (Nat.not_lt_zero 0)
    · rw [if_neg c] at h1; omega
  · show q < if p = A.1 then A.1 + 1 else A.1
    have := h.1
    split <;> omega
theorem puts_eff {A : AS} (hA : WA A) {p s z : Nat} {b : Nat → Int32} (hp : p < A.1) (hs : s ≤ (A.2.1 p).1) (h31 : s < 31) (h3 : 3 ≤ z) (hr : sm (wipe (A.2.1 p) s) (A.2.1 p).1 + 2 + 2 * (ext (A.2.1 p) s).1 + z ≤ 128) : (∀ q t, ¬ (q = p ∧ t = s) → Same A (puts A p s z b) q t) ∧ has (puts A p s z b) p s ∧ ln (puts A p s z b) p s = z ∧ (∀ i, i < z → db (puts A p s z b) p s i = b i) ∧ WA (puts A p s z b) := by
  have hW := hA.2.1 p (by have := hA.1; omega)
  obtain ⟨k1, k2, k3, k4⟩ := put_eff (b := b) hW hs h31 h3 hr
  have e : (puts A p s z b).2.1 p = put (A.2.1 p) s z b := va_upS
  refine ⟨fun q t c => Same_sp (A := A) (p := p) (g := put (A.2.1 p) s z b) fun w => k1 t (fun v => c ⟨w, v⟩), ?_, ?_, ?_, ?_⟩
  · unfold has ln
    rw [e]
    exact ⟨hp, k2.1, k2.2⟩
  · unfold ln
    rw [e]; exact k3
  · intro i hi
    unfold db
    rw [e]; exact k4 i hi
  · exact WA_bk (WA_sp hA hp (put_WF hW hs h31 h3 hr).1) _

