theorem e_rem100 {p s : Nat} (hp : p < 1000) (hs : s < 100) : nI (100 * p + s) / nI 100 = nI p ∧ nI (100 * p + s) - nI (100 * p + s) / nI 100 * nI 100 = nI s := by
  have e : nI (100 * p + s) / nI 100 = nI p := by
    rw [pk_div (by omega) (by omega) (by omega)]
    congr 1
    omega
  refine ⟨e, ?_⟩
  rw [e, pk_mul, e_sub (by omega)]
  congr 1
  omega
theorem c_page {p s : Nat} (hp : p < 1000) (hs : s < 100) : fX4_pageIn (nI (100 * p + s)) = some (nI p) := by
  unfold fX4_pageIn
  simp only [liN]
  rw [(e_rem100 hp hs).1]
theorem c_slot {p s : Nat} (hp : p < 1000) (hs : s < 100) : fX4_slotIn (nI (100 * p + s)) = some (nI s) := by
  unfold fX4_slotIn
  simp only [liN]
  rw [(e_rem100 hp hs).2]
theorem c_place {p s : Nat} : fX4_placeAt (nI p) (nI s) = some (nI (100 * p + s)) := by
  unfold fX4_placeAt
  simp only [liN, pk_mul, nI_add]
section MR
variable {p : Nat} {g : PG}
theorem c_remove {u : TP} (hp : p < 8) (hW : WF g) (hC : CP u.1.2 p g) {s : Nat} (hs : s < g.1) : ∃ f : Ar, fX2_removeRecord u (nI (100 * p + s)) = some ((u.1.1, f), u.2) ∧ CP f p (rem g s) ∧ ∀ j, ¬ (128 * p ≤ j ∧ j < 128 * p + 128) → f j = u.1.2 j := by
  have h31 := hW.1
  have hW2 := wipe_WF hW hs
  obtain ⟨f1, he, hC1, hfr⟩ := c_erase hp hW hC hs
  have hw1 : (wipe g s).1 = g.1 := rfl
  generalize hw : wipe g s = w at *
  have hle := tr_le w w.1
  have hout := tr_out w w.1
  refine ⟨upd f1 (128 * p) (nI (tr w w.1)), ?_, ?_, ?_⟩
  · unfold fX2_removeRecord
    rw [c_page (by omega) (by omega), Option.bind_some, c_slot (by omega) (by omega), Option.bind_some, he, Option.bind_some, c_slotCount hp, Option.bind_some]
    show (itr (fun a : TP × Int32 × Int32 => fX2_removeRecord_s23 a.1 a.2.1 a.2.2) FU (((u.1.1, f1), u.2), nI p, f1 (128 * p))).bind _ = _
    rw [hC1.1]
    have hsz : ∀ t, t < w.1 → fX3_sizeOf (u.1.1, f1) (nI p) (nI t) = some (nI (w.2.2.1 t)) := fun t ht => c_size (u := (u.1.1, f1)) hp hC1 (by omega) ht
    have hst : ∀ j, j < w.1 - tr w w.1 → fX2_removeRecord_s23 ((u.1.1, f1), u.2) (nI p) (nI (w.1 - j)) = some (.inl (((u.1.1, f1), u.2), nI p, nI (w.1 - (j + 1)))) := by
      intro j hj
      unfold fX2_removeRecord_s23
      simp only [m1d]
      simp (disch := omega) only [liN, e_le, if_neg (show ¬ w.1 - j ≤ 0 by omega), e_sub, hsz (w.1 - j - 1) (by omega), Option.bind_some, hout (w.1 - j - 1) (by omega) (by omega), e_eq, if_true, nI_m1]
      rw [show w.1 - j - 1 = w.1 - (j + 1) by omega]
    refine itrB (fun i => (((u.1.1, f1), u.2), nI p, nI (w.1 - i))) (((u.1.1, f1), u.2), nI p, nI (tr w w.1)) (w.1 - tr w w.1) rfl hst ?_ (by omega) ?_
    · show fX2_removeRecord_s23 _ _ _ = _
      unfold fX2_removeRecord_s23
      rw [show w.1 - (w.1 - tr w w.1) = tr w w.1 by omega]
      by_cases c : tr w w.1 = 0
      · simp (disch := omega) only [liN, e_le, c, Nat.le_refl, if_true]
      · have hlen : ∀ n, tr w n ≠ 0 → w.2.2.1 (tr w n - 1) ≠ 0 := by
          intro n
          induction n with
          | zero => intro q; exact absurd rfl q
          | succ n ih =>
            unfold tr
            by_cases d : w.2.2.1 n = 0
            · rw [if_pos d]; exact ih
            · rw [if_neg d]; intro _; exact d
        have h0 := hlen w.1 c
        have h1 := hW2.len (s := tr w w.1 - 1) (by omega)
        simp (disch := omega) only [liN, e_le, if_neg (show ¬ tr w w.1 ≤ 0 by omega), e_sub, hsz (tr w w.1 - 1) (by omega), Option.bind_some, e_eq, if_neg h0]
    · unfold fX2_removeRecord_j47
      simp (disch := omega) only [liN, c_setByte, Option.bind_some]
      rfl
  · have hWt := hW2
    refine ⟨?_, ?_, ?_, ?_⟩
    · rw [updS]; unfold rem trim; rw [hw]
    · rw [updN (by omega), hC1.2.1]
      unfold rem; rw [hw]
      show _ = nI (lw (trim w) (tr w w.1))
      rw [lw_cong (g := trim w) (h := w) _ (fun _ _ => ⟨rfl, rfl⟩), lw_tr]
    · intro t ht
      have ht' : t < tr w w.1 := by unfold rem at ht; rw [hw] at ht; exact ht
      rw [updN (by omega), updN (by omega)]
      unfold rem; rw [hw]
      exact hC1.2.2.1 t (by omega)
    · intro k hk1 hk2
      have hk1' : 2 + 2 * tr w w.1 ≤ k := by unfold rem at hk1; rw [hw] at hk1; exact hk1
      rw [updN (by omega)]
      unfold rem; rw [hw]
      show f1 (128 * p + k) = w.2.2.2 k
      by_cases c : 2 + 2 * w.1 ≤ k
      · exact hC1.2.2.2 k c hk2
      · have hd : w.2.2.2 k = 0 := hWt.2.2.2.2.1 k hk2 (fun t ht q => by
          rcases hWt.2.1 t ht with h | h <;> omega)
        rw [hd]
        obtain ⟨t, ht⟩ : ∃ t, t = (k - 2) / 2 := ⟨_, rfl⟩
        have h3 := hC1.2.2.1 t (by omega)
        have h4 := hout t (by omega) (by omega)
        have h5 : w.2.1 t = 0 := by rcases hWt.2.1 t (by omega) with h | h <;> omega
        rw [h4, h5] at h3
        by_cases par : k = 2 + 2 * t
        · rw [par, show 128 * p + (2 + 2 * t) = 128 * p + 2 + 2 * t by omega, h3.1]; rfl
        · rw [show 128 * p + k = 128 * p + 3 + 2 * t by omega, h3.2]; rfl
  · intro j hj
    rw [updN (by omega), hfr j hj]
end MR

