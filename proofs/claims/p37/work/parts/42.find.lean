abbrev AS : Type := Nat × (Nat → PG) × (Int32 × Int32 × Int32)
def CA (u : TS) (A : AS) : Prop := u.1 = (nI A.1, A.2.2.1, A.2.2.2.1, A.2.2.2.2) ∧ (∀ p, p < A.1 → CP u.2 p (A.2.1 p)) ∧ ∀ p, A.1 ≤ p → p < 8 → ∀ o, o < 128 → u.2 (128 * p + o) = 0
def WA (A : AS) : Prop := A.1 ≤ 8 ∧ (∀ p, p < 8 → WF (A.2.1 p)) ∧ ∀ p, A.1 ≤ p → p < 8 → A.2.1 p = g0
def okp (A : AS) (z : Nat) (e1 e2 : Int32) : Nat → Bool := fun p => decide (¬ nI p = e1 ∧ ¬ nI p = e2) && room (A.2.1 p) z
def fp (A : AS) (z : Nat) (e1 e2 : Int32) : Nat := fst (okp A z e1 e2) A.1
def fpR (A : AS) (z : Nat) (e1 e2 : Int32) : Int32 := if fp A z e1 e2 < 8 then nI (fp A z e1 e2) else M1
theorem fp_le (A : AS) (z : Nat) (e1 e2 : Int32) : fp A z e1 e2 ≤ A.1 := fst_le _ _
theorem g0_WF : WF g0 := by
  refine ⟨by decide, fun s hs => absurd hs (Nat.not_lt_zero s), fun s _ _ => ⟨rfl, rfl⟩, fun s t hs => absurd hs (Nat.not_lt_zero s), fun _ _ _ => rfl, ?_⟩
  decide
theorem c_pc {u : TS} {A : AS} (h : CA u A) : u.1.1 = nI A.1 := by rw [h.1]
theorem c_findPage {u : TP} {A : AS} (hA : WA A) (hC : CA u.1 A) {z : Nat} (hz : z ≤ 1000) (e1 e2 : Int32) : fX2_findPage u (nI z) e1 e2 = some (fpR A z e1 e2) := by
  have hn := hA.1
  have hle := fp_le A z e1 e2
  have hpc := c_pc hC
  unfold fX2_findPage
  have hst : ∀ j, j < fp A z e1 e2 → fX2_findPage_s3 u (nI z) e1 e2 (nI j) = some (.inl (nI z, e1, e2, nI (j + 1))) := by
    intro j hj
    have h1 := fst_no (okp A z e1 e2) A.1 j hj
    unfold fX2_findPage_s3 fX2_findPage_j40
    simp (disch := omega) only [liN, hpc, e_le, if_neg (show ¬ A.1 ≤ j by omega), nI_add]
    by_cases c1 : nI j = e1
    · rw [if_pos c1]
    · rw [if_neg c1]
      by_cases c2 : nI j = e2
      · rw [if_pos c2]
      · rw [if_neg c2, c_room (by omega) (hA.2.1 j (by omega)) (hC.2.1 j (by omega)) hz]
        have h3 : room (A.2.1 j) z = false := by simpa [okp, c1, c2] using h1
        rw [h3]; rfl
  by_cases c : fp A z e1 e2 < A.1
  · have hy := fst_yes (okp A z e1 e2) A.1 c
    change okp A z e1 e2 (fp A z e1 e2) = true at hy
    simp only [okp, Bool.and_eq_true, decide_eq_true_eq] at hy
    refine itrB (fun i => (nI z, e1, e2, nI i)) (0, nI (fp A z e1 e2)) (fp A z e1 e2) rfl hst ?_ (by omega) ?_
    · show fX2_findPage_s3 u _ _ _ _ = _
      unfold fX2_findPage_s3
      simp (disch := omega) only [liN, hpc, e_le, if_neg (show ¬ A.1 ≤ fp A z e1 e2 by omega), if_neg hy.1.1, if_neg hy.1.2]
      rw [c_room (by omega) (hA.2.1 _ (by omega)) (hC.2.1 _ (by omega)) hz, hy.2]; rfl
    · rw [if_pos rfl]; unfold fpR; rw [if_pos (by omega)]
  · have e : fp A z e1 e2 = A.1 := by omega
    refine itrB (fun i => (nI z, e1, e2, nI i)) (1, (0 : Int32)) (fp A z e1 e2) rfl hst ?_ (by omega) ?_
    · show fX2_findPage_s3 u _ _ _ _ = _
      unfold fX2_findPage_s3
      rw [e]
      simp (disch := omega) only [liN, hpc, e_le, Nat.le_refl, if_true]
    · rw [if_neg (by decide)]
      unfold fpR
      simp (disch := omega) only [liN, hpc, e_le, m1d, e]
      by_cases c8 : 8 ≤ A.1
      · rw [if_pos c8, if_neg (by omega)]; rfl
      · rw [if_neg c8, if_pos (by omega)]
