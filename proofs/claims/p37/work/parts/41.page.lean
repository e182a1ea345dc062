abbrev PG : Type := Nat × (Nat → Nat) × (Nat → Nat) × (Nat → Int32)
def g0 : PG := (0, fun _ => 0, fun _ => 0, fun _ => 0)
def sm (g : PG) : Nat → Nat
  | 0 => 0
  | n + 1 => sm g n + g.2.2.1 n
def lw (g : PG) : Nat → Nat
  | 0 => 128
  | n + 1 => if 0 < g.2.2.1 n ∧ g.2.1 n < lw g n then g.2.1 n else lw g n
def fr (g : PG) : Nat := 126 - 2 * g.1 - sm g g.1
def fst (P : Nat → Bool) : Nat → Nat
  | 0 => 0
  | n + 1 => if fst P n < n then fst P n else if P n then n else n + 1
theorem fst_le (P : Nat → Bool) : ∀ n, fst P n ≤ n
  | 0 => Nat.le_refl 0
  | n + 1 => by
    have ih := fst_le P n
    unfold fst
    split
    · omega
    · split <;> omega
theorem fst_no (P : Nat → Bool) : ∀ n k, k < fst P n → P k = false
  | 0, k, h => absurd h (Nat.not_lt_zero k)
  | n + 1, k, h => by
    have ih := fst_no P n
    have hl := fst_le P n
    unfold fst at h
    split at h
    · exact ih k h
    · split at h
      · exact ih k (by omega)
      · rename_i h1 h2
        by_cases hk : k = n
        · subst hk; simpa using h2
        · exact ih k (by omega)
theorem fst_yes (P : Nat → Bool) : ∀ n, fst P n < n → P (fst P n) = true
  | 0, h => absurd h (Nat.not_lt_zero _)
  | n + 1, h => by
    have ih := fst_yes P n
    unfold fst at h ⊢
    by_cases h1 : fst P n < n
    · rw [if_pos h1]; exact ih h1
    · rw [if_neg h1] at h ⊢
      by_cases h2 : P n = true
      · rw [if_pos h2]; exact h2
      · rw [if_neg h2] at h; omega
def ept (g : PG) : Nat → Bool := fun s => decide (g.2.2.1 s = 0)
def fe (g : PG) : Nat := fst (ept g) g.1
def room (g : PG) (z : Nat) : Bool := if fe g < g.1 then decide (z ≤ fr g) else decide (g.1 < 31 ∧ z + 2 ≤ fr g)
def WF (g : PG) : Prop :=
  g.1 ≤ 31 ∧ (∀ s, s < g.1 → (g.2.2.1 s = 0 ∧ g.2.1 s = 0) ∨ (3 ≤ g.2.2.1 s ∧ 2 + 2 * g.1 ≤ g.2.1 s ∧ g.2.1 s + g.2.2.1 s ≤ 128)) ∧
  (∀ s, g.1 ≤ s → s < 31 → g.2.2.1 s = 0 ∧ g.2.1 s = 0) ∧
  (∀ s t, s < g.1 → t < g.1 → s ≠ t → 0 < g.2.2.1 s → 0 < g.2.2.1 t → g.2.1 s + g.2.2.1 s ≤ g.2.1 t ∨ g.2.1 t + g.2.2.1 t ≤ g.2.1 s) ∧
  (∀ k, k < 128 → (∀ s, s < g.1 → ¬ (g.2.1 s ≤ k ∧ k < g.2.1 s + g.2.2.1 s)) → g.2.2.2 k = 0) ∧
  sm g g.1 + 2 + 2 * g.1 ≤ 128
def CP (f : Ar) (p : Nat) (g : PG) : Prop :=
  f (128 * p) = nI g.1 ∧ f (128 * p + 1) = nI (lw g g.1) ∧ (∀ s, s < g.1 → f (128 * p + 2 + 2 * s) = nI (g.2.1 s) ∧ f (128 * p + 3 + 2 * s) = nI (g.2.2.1 s)) ∧
  ∀ k, 2 + 2 * g.1 ≤ k → k < 128 → f (128 * p + k) = g.2.2.2 k
def WQ (g : PG) : Prop := g.1 ≤ 31 ∧ (∀ s, s < g.1 → (g.2.2.1 s = 0 ∧ g.2.1 s = 0) ∨ (3 ≤ g.2.2.1 s ∧ g.2.1 s + g.2.2.1 s ≤ 128)) ∧ sm g g.1 + 2 + 2 * g.1 ≤ 128
theorem WF.q {g : PG} (h : WF g) : WQ g := ⟨h.1, fun s hs => by rcases h.2.1 s hs with q | q <;> omega, h.2.2.2.2.2⟩
theorem WQ.len {g : PG} (h : WQ g) {s : Nat} (hs : s < g.1) : g.2.2.1 s ≤ 128 := by
  rcases h.2.1 s hs with h1 | h1 <;> omega
theorem WQ.off {g : PG} (h : WQ g) {s : Nat} (hs : s < g.1) : g.2.1 s ≤ 125 := by
  rcases h.2.1 s hs with h1 | h1 <;> omega
theorem WF.len {g : PG} (h : WF g) {s : Nat} (hs : s < g.1) : g.2.2.1 s ≤ 126 := by
  rcases h.2.1 s hs with h1 | h1 <;> omega
theorem WF.off {g : PG} (h : WF g) {s : Nat} (hs : s < g.1) : g.2.1 s ≤ 125 := by
  rcases h.2.1 s hs with h1 | h1 <;> omega
theorem WF.len31 {g : PG} (h : WF g) {s : Nat} (hs : s < 31) : g.2.2.1 s ≤ 126 ∧ g.2.1 s ≤ 125 := by
  by_cases c : s < g.1
  · exact ⟨h.len c, h.off c⟩
  · have := h.2.2.1 s (by omega) hs
    omega
theorem sm_mono (g : PG) : ∀ (m n : Nat), m ≤ n → sm g m ≤ sm g n := by
  intro m n h
  induction n with
  | zero => rw [show m = 0 by omega]; exact Nat.le_refl _
  | succ n ih =>
    by_cases c : m = n + 1
    · rw [c]; exact Nat.le_refl _
    · have := ih (by omega)
      show sm g m ≤ sm g n + g.2.2.1 n
      omega
theorem lw_s (g : PG) (n : Nat) : lw g (n + 1) = if 0 < g.2.2.1 n ∧ g.2.1 n < lw g n then g.2.1 n else lw g n := rfl
theorem lw_le (g : PG) : ∀ n, lw g n ≤ 128
  | 0 => Nat.le_refl _
  | n + 1 => by
    have := lw_le g n
    unfold lw
    split <;> omega
theorem lw_low (g : PG) : ∀ n s, s < n → 0 < g.2.2.1 s → lw g n ≤ g.2.1 s
  | 0, s, h, _ => absurd h (Nat.not_lt_zero s)
  | n + 1, s, h, hl => by
    have ih := lw_low g n s
    unfold lw
    by_cases c : s = n
    · subst c
      split
      · exact Nat.le_refl _
      · omega
    · have := ih (by omega) hl
      split <;> omega
theorem lw_ge {g : PG} (h : WF g) : ∀ n, n ≤ g.1 → 2 + 2 * g.1 ≤ lw g n
  | 0, _ => by have h1 := h.2.2.2.2.2; show 2 + 2 * g.1 ≤ 128; omega
  | n + 1, hn => by
    have ih := lw_ge h n (by omega)
    unfold lw
    split
    · rename_i c
      rcases h.2.1 n (by omega) with h1 | h1 <;> omega
    · exact ih
section RD
variable {p : Nat} {g : PG}
theorem c_count {u : TS} (hp : p < 8) (hC : CP u.2 p g) : fX3_slotCount u (nI p) = some (nI g.1) := by rw [c_slotCount hp, hC.1]
theorem c_size {u : TS} (hp : p < 8) (hC : CP u.2 p g) {s : Nat} (h31 : g.1 ≤ 31) (hs : s < g.1) : fX3_sizeOf u (nI p) (nI s) = some (nI (g.2.2.1 s)) := by rw [c_sizeOf (by omega), (hC.2.2.1 s hs).2]
theorem c_off {u : TS} (hp : p < 8) (hC : CP u.2 p g) {s : Nat} (h31 : g.1 ≤ 31) (hs : s < g.1) : fX3_offsetOf u (nI p) (nI s) = some (nI (g.2.1 s)) := by rw [c_offsetOf (by omega), (hC.2.2.1 s hs).1]
theorem c_free {u : TP} (hp : p < 8) (hW : WF g) (hC : CP u.1.2 p g) : fX2_freeBytes u (nI p) = some (nI (fr g)) := by
  unfold fX2_freeBytes
  rw [c_count hp hC]
  have h31 := hW.1
  have hs := hW.2.2.2.2.2
  simp only [Option.bind_some, fX4_slotOffset, liN, pk_mul, nI_add]
  rw [e_sub (by omega)]
  refine itrB (fun i => (nI p, nI g.1, nI (128 - (2 + 2 * g.1) - sm g i), nI i)) (nI (fr g)) g.1 rfl ?_ ?_ (by omega) rfl
  · intro j hj
    have h1 := sm_mono g (j + 1) g.1 (by omega)
    have h2 : sm g (j + 1) = sm g j + g.2.2.1 j := rfl
    show fX2_freeBytes_s21 u _ _ _ _ = _
    unfold fX2_freeBytes_s21
    simp (disch := omega) only [e_le, if_neg (show ¬ g.1 ≤ j by omega), c_size hp hC h31 hj, Option.bind_some, nI_1]
    rw [e_sub (by omega), show 128 - (2 + 2 * g.1) - sm g j - g.2.2.1 j = 128 - (2 + 2 * g.1) - sm g (j + 1) by omega]
  · show fX2_freeBytes_s21 u _ _ _ _ = _
    unfold fX2_freeBytes_s21
    simp (disch := omega) only [e_le, Nat.le_refl, if_true]
    unfold fr
    rw [show 128 - (2 + 2 * g.1) - sm g g.1 = 126 - 2 * g.1 - sm g g.1 by omega]
theorem fe_le (g : PG) : fe g ≤ g.1 := fst_le _ _
theorem c_slotToUse' {u : TP} (hp : p < 8) (hW : WF g) (hC : CP u.1.2 p g) : fX2_slotToUse u (nI p) = some (nI (fe g)) := by
  have h31 := hW.1
  have hle := fe_le g
  have hno : ∀ j, j < fe g → g.2.2.1 j ≠ 0 := fun j hj => by simpa [ept] using fst_no (ept g) g.1 j hj
  unfold fX2_slotToUse
  rw [c_count hp hC, Option.bind_some]
  have hst : ∀ j, j < fe g → fX2_slotToUse_s11 u (nI p) (nI g.1) (nI j) = some (.inl (nI p, nI g.1, nI (j + 1))) := by
    intro j hj
    have h1 := hW.len (show j < g.1 by omega)
    have h2 := hno j hj
    unfold fX2_slotToUse_s11
    simp (disch := omega) only [e_le, if_neg (show ¬ g.1 ≤ j by omega), c_size hp hC h31 (show j < g.1 by omega), Option.bind_some, liN, e_eq, if_neg h2, nI_add]
  by_cases c : fe g < g.1
  · have hy : g.2.2.1 (fe g) = 0 := by simpa [ept, fe] using fst_yes (ept g) g.1 c
    refine itrB (fun i => (nI p, nI g.1, nI i)) (0, ((0 : Int32), nI (fe g))) (fe g) rfl (fun j hj => hst j hj) ?_ (by omega) rfl
    · show fX2_slotToUse_s11 u _ _ _ = _
      unfold fX2_slotToUse_s11
      simp (disch := omega) only [e_le, if_neg (show ¬ g.1 ≤ fe g by omega), c_size hp hC h31 c, Option.bind_some, liN, hy, if_true]
  · have e : fe g = g.1 := by omega
    refine itrB (fun i => (nI p, nI g.1, nI i)) (1, (nI g.1, (0 : Int32))) (fe g) rfl (fun j hj => hst j hj) ?_ (by omega) (by rw [e]; rfl)
    · show fX2_slotToUse_s11 u _ _ _ = _
      unfold fX2_slotToUse_s11
      rw [e]
      simp (disch := omega) only [e_le, Nat.le_refl, if_true]
theorem c_room {u : TP} (hp : p < 8) (hW : WF g) (hC : CP u.1.2 p g) {z : Nat} (hz : z ≤ 1000) : fX2_hasRoom u (nI p) (nI z) = some (if room g z then (1 : Int32) else 0) := by
  have h31 := hW.1
  have hle := fe_le g
  have hf : fr g ≤ 126 := by unfold fr; omega
  unfold fX2_hasRoom
  simp (disch := omega) only [c_count hp hC, c_slotToUse' hp hW hC, Option.bind_some, e_le, liN, c_free hp hW hC, nI_add, e_lt]
  unfold room
  by_cases c : fe g < g.1
  · rw [if_neg (show ¬ g.1 ≤ fe g by omega), if_pos c]
    by_cases c2 : fr g < z
    · rw [if_pos c2, if_neg (by simp; omega)]
    · rw [if_neg c2, if_pos (by simp; omega)]
  · rw [if_pos (show g.1 ≤ fe g by omega), if_neg c]
    by_cases c1 : 31 ≤ g.1
    · rw [if_pos c1, if_neg (by simp; omega)]
    · rw [if_neg c1]
      by_cases c2 : fr g < z + 2
      · rw [if_pos c2, if_neg (by simp; omega)]
      · rw [if_neg c2, if_pos (by simp; omega)]
end RD

