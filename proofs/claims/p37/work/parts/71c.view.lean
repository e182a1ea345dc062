def RJ (A : AS) : Prop := ∀ p s, kn A p s = 3 → ∃ q t, db A p s 1 = nI q ∧ db A p s 2 = nI t ∧ kn A q t = 2 ∧ tp A q t = p ∧ ts A q t = s
abbrev isr (A : AS) (p s : Nat) : Prop := kn A p s = 1 ∨ kn A p s = 2
def rln (A : AS) (p s : Nat) : Nat := rl A (pp A p s) (ps A p s)
def rby (A : AS) (p s i : Nat) : Int32 := rb A (pp A p s) (ps A p s) i
def RV (A A' : AS) (a b : Nat) : Prop := (isr A' a b ↔ isr A a b) ∧ (isr A a b → kn A' a b = kn A a b ∧ rln A' a b = rln A a b ∧ ∀ i, i < rln A a b → rby A' a b i = rby A a b i)
def RC (A A' : AS) (a b : Nat) : Prop := (isr A' a b ↔ isr A a b) ∧ (isr A a b → rln A' a b = rln A a b ∧ ∀ i, i < rln A a b → rby A' a b i = rby A a b i)
theorem RV.c {A A' : AS} {a b : Nat} (h : RV A A' a b) : RC A A' a b := ⟨h.1, fun w => (h.2 w).2⟩
theorem RC_refl (A : AS) (a b : Nat) : RC A A a b := ⟨Iff.rfl, fun _ => ⟨rfl, fun _ _ => rfl⟩⟩
theorem RC_trans {A B C : AS} {a b : Nat} (h1 : RC A B a b) (h2 : RC B C a b) : RC A C a b := by
  refine ⟨h2.1.trans h1.1, fun h => ?_⟩
  have x := h1.2 h
  have y := h2.2 (h1.1.mpr h)
  exact ⟨y.1.trans x.1, fun i hi => (y.2 i (by rw [x.1]; exact hi)).trans (x.2 i hi)⟩
theorem RV_no {A A' : AS} {a b : Nat} (h1 : ¬ isr A a b) (h2 : ¬ isr A' a b) : RV A A' a b := ⟨⟨fun h => absurd h h2, fun h => absurd h h1⟩, fun h => absurd h h1⟩
theorem isr_has {A : AS} {p s : Nat} (h : isr A p s) : has A p s := kn_has (by rcases h with e | e <;> omega)
section VW
variable {A A' : AS} {p s l : Nat} {c : Nat → Int32} {D : Nat → Nat → Prop}
theorem tp_same (hA : WA A) (h : Same A A' p s) (hh : has A p s) : tp A' p s = tp A p s ∧ ts A' p s = ts A p s := by
  have hb := has_b hA hh
  unfold tp ts
  rw [(h.2 hh).2 1 (by omega), (h.2 hh).2 2 (by omega)]
  exact ⟨rfl, rfl⟩
theorem rl_same (hA : WA A) (h : Same A A' p s) (hh : has A p s) : rl A' p s = rl A p s := by
  have hb := has_b hA hh
  unfold rl
  rw [(h.2 hh).1, (h.2 hh).2 0 (by omega)]
theorem rb_same (hA : WA A) (hI : RI A) (h : Same A A' p s) (hh : has A p s) (h2 : db A p s 0 ≠ nI 2) {i : Nat} (hi : i < rl A p s) : rb A' p s i = rb A p s i := by
  have hl := rl_le hA hI hh h2
  have hb := has_b hA hh
  unfold rb
  rw [(h.2 hh).2 0 (by omega)]
  by_cases c3 : db A p s 0 = nI 3
  · simp only [if_pos c3] at hl ⊢
    exact (h.2 hh).2 _ (by omega)
  · simp only [if_neg c3] at hl ⊢
    exact (h.2 hh).2 _ (by omega)
theorem RV_step (hA : WA A) (hI : RI A) (h : Chg A A' D) {a b : Nat} (hn : ¬ D a b) : RV A A' a b := by
  have s1 := h.1 a b hn
  have k := kn_same hA s1
  refine ⟨by unfold isr; rw [k], fun hr => ⟨k, ?_⟩⟩
  have hh : has A a b := isr_has hr
  unfold rln rby pp ps
  rw [k]
  by_cases d : kn A a b = 2
  · have q := nt' hA hI d
    have s2 := h.1 _ _ (h.2 a b d hn)
    have e := tp_same hA s1 hh
    simp only [if_pos d, e.1, e.2]
    exact ⟨rl_same hA s2 q.2.2.1, fun i hi => rb_same hA hI s2 q.2.2.1 (rl_tgt hA hI d).2 hi⟩
  · simp only [if_neg d]
    exact ⟨rl_same hA s1 hh, fun i hi => rb_same hA hI s1 hh (fun w => d (kn_2.mpr ⟨hh, w⟩)) hi⟩
theorem home_row (hl : l ≤ 60) (h : has A p s) (h1 : ln A p s = hs l) (h2 : ∀ i, i < hs l → db A p s i = bh l c i) : kn A p s = 1 ∧ rln A p s = l ∧ ∀ i, i < l → rby A p s i = c i := by
  have hz := hs_b hl
  have h0 := h2 0 (by omega)
  have hne := bh_ne l c
  have k : kn A p s = 1 := kn_1 h (by rw [h0]; exact hne.1) (by rw [h0]; exact hne.2)
  have e1 : pp A p s = p := if_neg (by omega)
  have e2 : ps A p s = s := if_neg (by omega)
  unfold rln rby
  rw [e1, e2]
  have h3 : db A p s 0 ≠ nI 3 := by rw [h0]; exact hne.2
  refine ⟨k, ?_, fun i hi => ?_⟩
  · unfold rl
    rw [if_neg h3, h1, h0]
    rcases bh_0 l c with ⟨e, el⟩ | ⟨e, el⟩ | ⟨e, el⟩
    · rw [e, if_pos rfl, el]
    · rw [e, if_neg (nI_ne (by omega) (by omega) (by omega)), if_pos rfl, el]
    · rw [e, if_neg (nI_ne (by omega) (by omega) (by omega)), if_neg (nI_ne (by omega) (by omega) (by omega))]
      unfold hs
      rw [if_pos el]
      omega
  · unfold rb
    rw [if_neg h3, h2 _ (by omega)]
    unfold bh
    rw [if_neg (by omega), if_pos (by omega), Nat.add_sub_cancel_left]
theorem moved_row {q t : Nat} (hk : kn A p s = 2) (e1 : tp A p s = q) (e2 : ts A p s = t) (h1 : ln A q t = l + 3) (h2 : ∀ i, i < l + 3 → db A q t i = bt (nI 3) p s c i) : rln A p s = l ∧ ∀ i, i < l → rby A p s i = c i := by
  have x1 : pp A p s = q := by unfold pp; rw [if_pos hk, e1]
  have x2 : ps A p s = t := by unfold ps; rw [if_pos hk, e2]
  have h0 : db A q t 0 = nI 3 := by rw [h2 0 (by omega)]; rfl
  unfold rln rby
  rw [x1, x2]
  refine ⟨?_, fun i hi => ?_⟩
  · unfold rl
    rw [if_pos h0, h1]
    omega
  · unfold rb
    rw [if_pos h0, h2 _ (by omega)]
    unfold bt
    rw [if_neg (by omega), if_neg (by omega), if_neg (by omega), Nat.add_sub_cancel_left]
theorem RJ_step (hA : WA A) (hJ : RJ A) (h : Chg A A' D) (hN : ∀ a b, kn A a b = 2 → D a b → D (tp A a b) (ts A a b)) (hD : ∀ q t, D q t → kn A' q t = 3 → ∃ a b, db A' q t 1 = nI a ∧ db A' q t 2 = nI b ∧ kn A' a b = 2 ∧ tp A' a b = q ∧ ts A' a b = t) : RJ A' := by
  intro a b hk
  by_cases d : D a b
  · exact hD a b d hk
  · have s1 := h.1 a b d
    rw [kn_same hA s1] at hk
    obtain ⟨q, t, x1, x2, x3, x4, x5⟩ := hJ a b hk
    have hq : ¬ D q t := fun w => d (by have := hN q t x3 w; rw [x4, x5] at this; exact this)
    have s2 := h.1 q t hq
    have hh : has A a b := kn_has (by omega)
    have hh2 : has A q t := kn_has (by omega)
    have hb := has_b hA hh
    have e := tp_same hA s2 hh2
    exact ⟨q, t, by rw [(s1.2 hh).2 1 (by omega)]; exact x1, by rw [(s1.2 hh).2 2 (by omega)]; exact x2, by rw [kn_same hA s2]; exact x3, e.1.trans x4, e.2.trans x5⟩
theorem D2_N (hA : WA A) (hI : RI A) (a b : Nat) (hk : kn A a b = 2) (h : D2 A p s a b) : D2 A p s (tp A a b) (ts A a b) := by
  rcases h with ⟨rfl, rfl⟩ | ⟨w, rfl, rfl⟩
  · exact Or.inr ⟨hk, rfl, rfl⟩
  · have := kn_tgt hA hI w
    omega
theorem D3_N {q t : Nat} (hA : WA A) (hI : RI A) (hq : ¬ has A q t) (a b : Nat) (hk : kn A a b = 2) (h : D3 A p s q t a b) : D3 A p s q t (tp A a b) (ts A a b) := by
  rcases h with ⟨rfl, rfl⟩ | ⟨w, rfl, rfl⟩ | ⟨rfl, rfl⟩
  · exact Or.inr (Or.inl ⟨hk, rfl, rfl⟩)
  · have := kn_tgt hA hI w
    omega
  · exact absurd (kn_has (by omega)) hq
theorem ins_v (hA : WA A) (hI : RI A) (hJ : RJ A) (hp : p < 8) (hle : p ≤ A.1) (hl : l ≤ 60) (hr : room (A.2.1 p) (hs l) = true) : RJ (ins A p l c) ∧ (∀ a b, ¬ (a = p ∧ b = fe (A.2.1 p)) → RV A (ins A p l c) a b) ∧ kn (ins A p l c) p (fe (A.2.1 p)) = 1 ∧ rln (ins A p l c) p (fe (A.2.1 p)) = l ∧ ¬ isr A p (fe (A.2.1 p)) := by
  obtain ⟨k1, k2, k3, k4, k5⟩ := ins_d (c := c) hA hI hp hle hl hr
  have hR := home_row hl k2 k3 k4
  refine ⟨?_, fun a b h => RV_step hA hI k1 h, hR.1, hR.2.1, fun w => k5 (isr_has w)⟩
  refine RJ_step hA hJ k1 ?_ ?_
  · rintro a b hk ⟨rfl, rfl⟩
    exact absurd (kn_has (by omega)) k5
  · rintro a b ⟨rfl, rfl⟩ hk
    omega
theorem del_v (hA : WA A) (hI : RI A) (hJ : RJ A) (hk : kn A p s = 1 ∨ kn A p s = 2) : RJ (del A p s) ∧ (∀ a b, ¬ (a = p ∧ b = s) → RV A (del A p s) a b) ∧ ¬ isr (del A p s) p s := by
  obtain ⟨k1, k2⟩ := del_d hA hI hk
  refine ⟨?_, fun a b h => ?_, fun w => k2 p s (Or.inl ⟨rfl, rfl⟩) (isr_has w)⟩
  · refine RJ_step hA hJ k1 (D2_N hA hI) ?_
    intro a b hd hk3
    exact absurd (kn_has (by omega)) (k2 a b hd)
  · by_cases d : D2 A p s a b
    · rcases d with d | ⟨d0, d1, d2⟩
      · exact absurd d h
      · have hk3 := kn_tgt hA hI d0
        refine RV_no ?_ (fun w => k2 a b (Or.inr ⟨d0, d1, d2⟩) (isr_has w))
        rw [d1, d2]
        unfold isr
        omega
    · exact RV_step hA hI k1 d
theorem hm_v (hA : WA A) (hI : RI A) (hJ : RJ A) (hk : kn A p s = 1 ∨ kn A p s = 2) (hl : l ≤ 60) (hr : hs l ≤ rr A p s) : RJ (hm A p s l c) ∧ (∀ a b, ¬ (a = p ∧ b = s) → RV A (hm A p s l c) a b) ∧ kn (hm A p s l c) p s = 1 ∧ rln (hm A p s l c) p s = l ∧ ∀ i, i < l → rby (hm A p s l c) p s i = c i := by
  obtain ⟨k1, k2, k3, k4, k5⟩ := hm_d (c := c) hA hI hk hl hr
  have hR := home_row hl k2 k3 k4
  refine ⟨?_, fun a b h => ?_, hR⟩
  · refine RJ_step hA hJ k1 (D2_N hA hI) ?_
    rintro a b (⟨rfl, rfl⟩ | ⟨w, rfl, rfl⟩) hk3
    · omega
    · exact absurd (kn_has (by omega)) (k5 w)
  · by_cases d : D2 A p s a b
    · rcases d with d | ⟨d0, d1, d2⟩
      · exact absurd d h
      · have hk3 := kn_tgt hA hI d0
        rw [d1, d2]
        refine RV_no ?_ (fun w => k5 d0 (isr_has w))
        unfold isr
        omega
    · exact RV_step hA hI k1 d
theorem mv2_v (hA : WA A) (hI : RI A) (hJ : RJ A) (hk : kn A p s = 2) (hl : l ≤ 60) (hr : l + 3 ≤ rr A (tp A p s) (ts A p s)) : RJ (mv2 A p s l c) ∧ (∀ a b, ¬ (a = p ∧ b = s) → RV A (mv2 A p s l c) a b) ∧ kn (mv2 A p s l c) p s = 2 ∧ rln (mv2 A p s l c) p s = l := by
  obtain ⟨k1, k2, k3, k4, k5⟩ := mv2_d (c := c) hA hI hk hl hr
  have hh : has A p s := kn_has (by omega)
  have k := (kn_same hA k2).trans hk
  have e := tp_same hA k2 hh
  have hR := moved_row (c := c) k e.1 e.2 k4 k5
  have h0 : db (mv2 A p s l c) (tp A p s) (ts A p s) 0 = nI 3 := by rw [k5 0 (by omega)]; rfl
  have hk3 : kn (mv2 A p s l c) (tp A p s) (ts A p s) = 3 := kn_3.mpr ⟨k3, h0⟩
  refine ⟨?_, fun a b h => ?_, k, hR.1⟩
  · refine RJ_step hA hJ k1 (D2_N hA hI) ?_
    rintro a b (⟨rfl, rfl⟩ | ⟨w, rfl, rfl⟩) hk4
    · omega
    · exact ⟨p, s, by rw [k5 1 (by omega)]; rfl, by rw [k5 2 (by omega)]; rfl, k, e.1, e.2⟩
  · by_cases d : D2 A p s a b
    · rcases d with d | ⟨d0, d1, d2⟩
      · exact absurd d h
      · have hk5 := kn_tgt hA hI d0
        rw [d1, d2]
        refine RV_no ?_ ?_
        · unfold isr; omega
        · unfold isr; omega
    · exact RV_step hA hI k1 d
theorem mv3_v {q : Nat} (hA : WA A) (hI : RI A) (hJ : RJ A) (hk : kn A p s = 1 ∨ kn A p s = 2) (h8 : q < 8) (hle : q ≤ A.1) (hl : l ≤ 60) (hr : room (A.2.1 q) (l + 3) = true) (n1 : q ≠ p) (n2 : q ≠ pp A p s) : RJ (mv3 A p s q l c) ∧ (∀ a b, ¬ (a = p ∧ b = s) → RV A (mv3 A p s q l c) a b) ∧ kn (mv3 A p s q l c) p s = 2 ∧ rln (mv3 A p s q l c) p s = l := by
  obtain ⟨k1, ⟨a1, a2, a3, a4, a5⟩, ⟨b1, b2, b3⟩, k4, k5, k6⟩ := mv3_d (c := c) hA hI hk h8 hle hl hr n1 n2
  have k : kn (mv3 A p s q l c) p s = 2 := kn_2.mpr ⟨a1, a3⟩
  have e1 : tp (mv3 A p s q l c) p s = q := by unfold tp; rw [a4, nI_clamp (by omega)]
  have e2 : ts (mv3 A p s q l c) p s = fe (A.2.1 q) := by unfold ts; rw [a5, nI_clamp (by omega)]
  have hR := moved_row (c := c) k e1 e2 b2 b3
  have h0 : db (mv3 A p s q l c) q (fe (A.2.1 q)) 0 = nI 3 := by rw [b3 0 (by omega)]; rfl
  have hk3 : kn (mv3 A p s q l c) q (fe (A.2.1 q)) = 3 := kn_3.mpr ⟨b1, h0⟩
  refine ⟨?_, fun a b h => ?_, k, hR.1⟩
  · refine RJ_step hA hJ k1 (D3_N hA hI k5) ?_
    rintro a b (⟨rfl, rfl⟩ | ⟨w, rfl, rfl⟩ | ⟨rfl, rfl⟩) hk4
    · omega
    · exact absurd (kn_has (by omega)) (k4 w)
    · exact ⟨p, s, by rw [b3 1 (by omega)]; rfl, by rw [b3 2 (by omega)]; rfl, k, e1, e2⟩
  · by_cases d : D3 A p s q (fe (A.2.1 q)) a b
    · rcases d with d | ⟨d0, d1, d2⟩ | ⟨d1, d2⟩
      · exact absurd d h
      · have hk5 := kn_tgt hA hI d0
        rw [d1, d2]
        refine RV_no ?_ (fun w => k4 d0 (isr_has w))
        unfold isr; omega
      · rw [d1, d2]
        refine RV_no (fun w => k5 (isr_has w)) ?_
        unfold isr; omega
    · exact RV_step hA hI k1 d
theorem chg_v (hA : WA A) (hI : RI A) (hJ : RJ A) (hk : kn A p s = 1 ∨ kn A p s = 2) (hl : l ≤ 60) (hw : wy A p s l ≠ M1) : RJ (chg A p s l c) ∧ (∀ a b, ¬ (a = p ∧ b = s) → RV A (chg A p s l c) a b) ∧ kn (chg A p s l c) p s = (if hs l ≤ rr A p s then 1 else 2) ∧ rln (chg A p s l c) p s = l := by
  unfold chg
  by_cases h1 : hs l ≤ rr A p s
  · simp only [if_pos h1]
    obtain ⟨x1, x2, x3, x4, -⟩ := hm_v (c := c) hA hI hJ hk hl h1
    exact ⟨x1, x2, x3, x4⟩
  · simp only [if_neg h1]
    by_cases h2 : kn A p s = 2 ∧ l + 3 ≤ rr A (tp A p s) (ts A p s)
    · simp only [if_pos h2]; exact mv2_v hA hI hJ h2.1 hl h2.2
    · simp only [if_neg h2]
      obtain ⟨k1, k2, k3, k4, k5, k6, k7⟩ := wy_3 hA hI hk hl h1 h2 hw
      exact mv3_v hA hI hJ hk k2 k3 hl k4 k5 k6
theorem cpt_v (hA : WA A) (hI : RI A) (hJ : RJ A) {p : Nat} (hp : p < A.1) : RJ (cpt A p) ∧ ∀ a b, RV A (cpt A p) a b := by
  have hC : Chg A (cpt A p) (fun _ _ => False) := ⟨fun q t _ => cpt_d hA hp q t, fun _ _ _ w => w⟩
  exact ⟨RJ_step hA hJ hC (fun _ _ _ w => w) (fun _ _ w => w.elim), fun a b => RV_step hA hI hC (fun w => w)⟩
theorem bst_v (hA : WA A) (hI : RI A) (hJ : RJ A) (p s : Nat) : RJ (bst A p s) ∧ (∀ a b, RC A (bst A p s) a b) ∧ (bgo A p s → kn (bst A p s) p s = 1) ∧ (∀ a b, ¬ (bgo A p s ∧ a = p ∧ b = s) → (kn (bst A p s) a b = 2 ↔ kn A a b = 2)) := by
  unfold bst
  by_cases d : bgo A p s
  · simp only [if_pos d]
    obtain ⟨x1, x2, x3, x4, x5⟩ := hm_v (c := rb A (tp A p s) (ts A p s)) hA hI hJ (Or.inr d.1) (rl_tgt hA hI d.1).1 d.2
    refine ⟨x1, fun a b => ?_, fun _ => x3, fun a b h => ?_⟩
    · by_cases e : a = p ∧ b = s
      · obtain ⟨rfl, rfl⟩ := e
        have e1 : pp A a b = tp A a b := if_pos d.1
        have e2 : ps A a b = ts A a b := if_pos d.1
        refine ⟨⟨fun _ => Or.inr d.1, fun _ => Or.inl x3⟩, fun _ => ⟨?_, fun i hi => ?_⟩⟩
        · rw [x4]; unfold rln; rw [e1, e2]
        · unfold rln at hi
          rw [e1, e2] at hi
          rw [x5 i hi]; unfold rby; rw [e1, e2]
      · exact (x2 a b e).c
    · have v := x2 a b (fun w => h ⟨d, w⟩)
      constructor
      · intro w
        have r := v.1.mp (Or.inr w)
        rw [← (v.2 r).1]; exact w
      · intro w
        rw [(v.2 (Or.inr w)).1]; exact w
  · simp only [if_neg d]
    exact ⟨hJ, RC_refl A, fun w => absurd w d, fun _ _ _ => trivial⟩
theorem bal_v (hA : WA A) (hI : RI A) (hJ : RJ A) : ∀ n, RJ (bal A n).1 ∧ ∀ a b, RC A (bal A n).1 a b
  | 0 => ⟨hJ, RC_refl A⟩
  | n + 1 => by
    obtain ⟨h1, h2, h3⟩ := bal_ok hA hI n
    obtain ⟨k1, k2⟩ := bal_v hA hI hJ n
    have h := bst_v h1 h2 k1 (n / 100) (n % 100)
    exact ⟨h.1, fun a b => RC_trans (k2 a b) (h.2.1 a b)⟩
end VW
