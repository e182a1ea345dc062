section AT
variable {A : AS}
def plj (A : AS) : Nat → Int32
  | 0 => M1
  | j + 1 => nxR A (plj A j)
theorem plj_ok (hA : WA A) : ∀ j, okpl A (plj A j)
  | 0 => Or.inl rfl
  | j + 1 => nxR_ok hA (plj A j)
theorem c_row2 (hA : WA A) (hI : RI A) (hJ : RJ A) (a : Int32) : ∃ r, (r < 0 ∨ ∃ p s, r = nI (100 * p + s) ∧ isr A p s) ∧ ∀ u : TH, CA u.1.1 A → fL_row u a = some r := by
  have hn := nrows_le A
  obtain ⟨J, hJ0⟩ : ∃ J, J = fst (fun j => decide (a < nI j)) (nrows A) := ⟨_, rfl⟩
  have hJle : J ≤ nrows A := by rw [hJ0]; exact fst_le _ _
  have hJno : ∀ j, j < J → ¬ a < nI j := fun j hj => of_decide_eq_false (fst_no (fun j => decide (a < nI j)) (nrows A) j (by rw [← hJ0]; exact hj))
  have hJyes : J < nrows A → a < nI J := fun h => by
    have := fst_yes (fun j => decide (a < nI j)) (nrows A) (by rw [← hJ0]; exact h)
    rw [← hJ0] at this
    exact of_decide_eq_true this
  have hloop : ∀ u : TH, CA u.1.1 A → itr (fun a : Int32 × Int32 × Int32 => fL_row_s4 u a.1 a.2.1 a.2.2) FU (a, M1, (0 : Int32)) = some (plj A J) := by
    intro u hC
    refine itr0 (fun j => (a, plj A j, nI j)) (plj A J) J rfl ?_ ?_ (by omega)
    · intro j hj
      show fL_row_s4 u a (plj A j) (nI j) = some (.inl (a, nxR A (plj A j), nI (j + 1)))
      unfold fL_row_s4
      rw [if_neg (hJno j hj), c_rows2 hA hC, Option.bind_some, if_neg (by rw [e_le (by omega) (by omega)]; omega), c_next hA hI hC, Option.bind_some]
      simp only [lit, nI_add]
    · show fL_row_s4 u a (plj A J) (nI J) = _
      unfold fL_row_s4
      by_cases c : a < nI J
      · rw [if_pos c]
      · have e : nrows A ≤ J := Nat.le_of_not_lt fun w => c (hJyes w)
        rw [if_neg c, c_rows2 hA hC, Option.bind_some, if_pos (by rw [e_le (by omega) (by omega)]; exact e)]
  rcases plj_ok hA J with e | ⟨y, hy, e, hb⟩
  · refine ⟨M1, Or.inl (by decide), fun u hC => ?_⟩
    unfold fL_row fL_row_j29
    simp only [m1e]
    rw [hloop u hC, Option.bind_some, e, if_neg (by decide)]
  · have ex : 100 * (y / 100) + y % 100 = y := by omega
    obtain ⟨q, t, r1, r2, -, -⟩ := rw1_row hA hJ (eb_t.mp hb)
    refine ⟨nI (100 * q + t), Or.inr ⟨q, t, rfl, r2⟩, fun u hC => ?_⟩
    have e2 := c_rowAt (p := y / 100) (s := y % 100) hA hC (by omega) (by omega)
    rw [ex, r1] at e2
    unfold fL_row fL_row_j29
    simp only [m1e]
    rw [hloop u hC, Option.bind_some, e, if_pos (nI_pos' (by omega)), e2, Option.bind_some]
theorem a_64 (hJ : WJ A) {m k : Nat} (hm : m ≤ 60) (hk : k < 16) (x2 x4 : Int32) (hrow : 6 ≤ k → ∃ p s, x4 = nI (100 * p + s) ∧ isr A p s) : ∃ o, ∀ (x : THS) (K : Nat → AS) (n : Nat) (v : Int32), WX x A K n 0 v → ∃ x', fL_acts_j64 x x2 (nI m) x4 (nI k) = some (1, x') ∧ RO A K n x' o := by
  by_cases hk12 : k < 12
  · have small : ∀ v : Int32, ∃ o, ∀ (x : THS) (K : Nat → AS) (n : Nat), WX x A K n m v → ∃ x', fL_acts_j96 x x2 (nI m) x4 (nI k) (nI m) = some (1, x') ∧ RO A K n x' o := by
      intro v
      by_cases h6 : k < 6
      · exact a_ins hJ hm x4 h6
      · obtain ⟨p, s, rfl, hr⟩ := hrow (by omega)
        exact a_upd hJ hm hr (by omega) hk12
    have hk12' : ¬ (12 : Int32) ≤ nI k := by rw [show (12 : Int32) = nI 12 from rfl, e_le (by omega) (by omega)]; omega
    by_cases m0 : m = 0
    · subst m0
      obtain ⟨o, ho⟩ := small 0
      refine ⟨o, fun x K n v h => ?_⟩
      obtain ⟨x', e1, h2⟩ := ho x K n (WX_v0 h 0)
      refine ⟨x', ?_, h2⟩
      unfold fL_acts_j64 fL_acts_j95
      rw [if_pos (show nI 0 ≤ (0 : Int32) by decide)]
      exact e1
    · obtain ⟨r, hr, er⟩ := c_up (x2 >>> ((6 : Int32) &&& 31)) (d := 256) (by omega) (by omega)
      obtain ⟨o, ho⟩ := small (nI r)
      refine ⟨o, fun x K n v h => ?_⟩
      obtain ⟨y, e1, h1⟩ := s_fill h (m := m) (a := nI r) (by omega) hm (nI_pos (by omega)) (nI_le (b := 255) (by omega) (by omega))
      obtain ⟨x', e2, h2⟩ := ho (y, x.2) K n h1
      refine ⟨x', ?_, h2⟩
      have er' : fL_up (x2 >>> ((6 : Int32) &&& 31)) (256 : Int32) = some (nI r) := er
      unfold fL_acts_j64
      rw [if_neg (nI_nle (by omega) (by omega)), if_neg hk12', er', Option.bind_some, e1, Option.bind_some]
      exact e2
  · have hk12' : (12 : Int32) ≤ nI k := by rw [show (12 : Int32) = nI 12 from rfl, e_le (by omega) (by omega)]; omega
    obtain ⟨p, s, rfl, hr⟩ := hrow (by omega)
    have hb := (isr_has hr).1
    have big : ∃ o, ∀ (x : THS) (K : Nat → AS) (n : Nat) (v : Int32), WX x A K n 0 v → ∃ x', fL_acts_j96 x x2 (nI m) (nI (100 * p + s)) (nI k) 0 = some (1, x') ∧ RO A K n x' o := by
      have hc : k = 12 ∨ k = 13 ∨ 14 ≤ k := by omega
      rcases hc with rfl | rfl | c
      · exact a_del hJ hr _
      · exact a_bring hJ _ _
      · exact a_cpt hJ (by omega) _ _ c hk
    obtain ⟨o, ho⟩ := big
    refine ⟨o, fun x K n v h => ?_⟩
    obtain ⟨x', e1, h2⟩ := ho x K n v h
    refine ⟨x', ?_, h2⟩
    unfold fL_acts_j64 fL_acts_j95
    rw [if_pos hk12', ite_self]
    exact e1
theorem a_17 (hJ : WJ A) {d : Nat} (hd0 : 0 < d) (hd : d ≤ 61) (x1 x2 t1 : Int32) : ∃ o, ∀ (x : THS) (K : Nat → AS) (n : Nat) (v : Int32), WX x A K n 0 v → ∃ x', fL_acts_j17 x x1 x2 (nI d) t1 = some (1, x') ∧ RO A K n x' o := by
  have hnr := nrows_le A
  obtain ⟨m, hm, em⟩ := c_up t1 hd0 (by omega)
  obtain ⟨r, hr, er⟩ := c_up (x2 >>> ((3 : Int32) &&& 31)) (d := 40) (by omega) (by omega)
  obtain ⟨k, hk, ek⟩ := c_up x1 (d := 16) (by omega) (by omega)
  have er' : fL_up (x2 >>> ((3 : Int32) &&& 31)) (40 : Int32) = some (nI r) := er
  have ek' : fL_up x1 (16 : Int32) = some (nI k) := ek
  have hz : ¬ nI (nrows A) + (1 : Int32) = 0 := by
    rw [nI_1]
    exact nI_ne0 (by omega) (by omega)
  obtain ⟨r1, f2, hall⟩ := c_row2 hJ.1 hJ.2.1 hJ.2.2 (nI r - nI r / (nI (nrows A) + (1 : Int32)) * (nI (nrows A) + (1 : Int32)))
  by_cases c : nI (nrows A) = 0 ∨ ¬ (0 : Int32) ≤ r1
  · obtain ⟨o, ho⟩ := a_64 (k := 0) hJ (show m ≤ 60 by omega) (by omega) x2 r1 (fun w => absurd w (by omega))
    refine ⟨o, fun x K n v h => ?_⟩
    obtain ⟨x', e1, h2⟩ := ho x K n v h
    refine ⟨x', ?_, h2⟩
    unfold fL_acts_j17 fL_acts_j54
    rw [em, Option.bind_some, er', Option.bind_some, c_rows2 hJ.1 h.2.2.2.2.1, Option.bind_some, if_neg hz, hall x.1 h.2.2.2.2.1, Option.bind_some, Option.bind_some]
    rcases c with c | c
    · rw [if_pos c]; exact e1
    · rw [if_neg c, ite_self]; exact e1
  · have c1 : ¬ nI (nrows A) = 0 := fun w => c (Or.inl w)
    have c2 : (0 : Int32) ≤ r1 := Classical.byContradiction fun w => c (Or.inr w)
    have hrow : ∃ p s, r1 = nI (100 * p + s) ∧ isr A p s := by
      rcases f2 with q | q
      · exfalso
        rw [i_ge] at c2
        exact c2 q
      · exact q
    obtain ⟨o, ho⟩ := a_64 (k := k) hJ (show m ≤ 60 by omega) hk x2 r1 (fun _ => hrow)
    refine ⟨o, fun x K n v h => ?_⟩
    obtain ⟨x', e1, h2⟩ := ho x K n v h
    refine ⟨x', ?_, h2⟩
    unfold fL_acts_j17
    rw [em, Option.bind_some, er', Option.bind_some, c_rows2 hJ.1 h.2.2.2.2.1, Option.bind_some, if_neg hz, hall x.1 h.2.2.2.2.1, Option.bind_some, Option.bind_some, if_neg c1, if_pos c2, ek', Option.bind_some]
    exact e1
theorem a_all (hJ : WJ A) (x1 x2 : Int32) : ∃ o, ∀ (x : THS) (K : Nat → AS) (n : Nat) (v : Int32), WX x A K n 0 v → ∃ x', fL_acts x x1 x2 = some (1, x') ∧ RO A K n x' o := by
  unfold fL_acts
  by_cases c : ((x2 >>> ((9 : Int32) &&& 31)) &&& (1 : Int32)) = 0
  · simp only [if_pos c]
    exact a_17 (d := 61) hJ (by omega) (by omega) x1 x2 x2
  · simp only [if_neg c]
    exact a_17 (d := 10) hJ (by omega) (by omega) x1 x2 x2
end AT
