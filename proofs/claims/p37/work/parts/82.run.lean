theorem svK_last {A : AS} {K : Nat → AS} {n N : Nat} (hn : n ≤ 6) (h : svN n = N + 1) : svK K n A N = A := by
  unfold svN at h
  unfold svK
  by_cases c : n = 6
  · rw [if_pos c] at h ⊢
    rw [if_neg (by omega)]
  · rw [if_neg c] at h ⊢
    rw [if_pos (by omega)]
theorem c_cell {L : Nat} {xs : Nat → Int32} (hL : L ≤ 260) {k : Nat} (hk : k < 2 ^ 31) : ∃ v, fL_cell L xs (nI k) = some v := by
  unfold fL_cell
  by_cases c : Int32.ofNat L ≤ nI k
  · exact ⟨_, if_pos c⟩
  · refine ⟨xs k, ?_⟩
    rw [if_neg c]
    have h : ¬ nI L ≤ nI k := c
    rw [e_le (by omega) hk] at h
    exact rdN (by omega) (by omega)
section LW
variable {L : Nat} {xs : Nat → Int32} {x : THS} {A : AS} {K : Nat → AS} {n : Nat} {v : Int32}
theorem ls_holds (h : WX x A K n 0 v) : fL_holds x.1 = some 1 := c_holds h.1.1 h.1.2.1 h.1.2.2 h.2.2.2.2.1
theorem ls_dig (h : WX x A K n 0 v) : fX4_digest x.1 = some (dg A) := c_dig h.1.1 h.2.2.2.2.1
theorem ls_saved (h : WX x A K n 0 v) : fX4_savedStates x.1 = some (nI n) := congrArg some h.2.2.2.2.2.2.2.1
theorem ls_203 (h : WX x A K n 0 v) (j : Nat) : fL_law_j203 L xs x 1 (nI j) = some (.inl (x, 1, nI (j + 1))) := by
  unfold fL_law_j203 fL_law_j219
  rw [if_neg (show ¬ (1 : Int32) = 0 by decide), ls_holds h, Option.bind_some, if_neg (show ¬ (1 : Int32) = 0 by decide)]
  simp only [lit, nI_add]
theorem ls_121 (h : WX x A K n 0 v) (j : Nat) (a1 a2 : Int32) (d : Int64) : fL_law_j121 L xs x 1 (nI j) a1 a2 d = some (.inl (x, 1, nI (j + 1))) := by
  unfold fL_law_j121 fL_law_j122
  rw [if_neg (show ¬ (1 : Int32) = 0 by decide), if_pos rfl]
  exact ls_203 h j
theorem ls_117 {A' : AS} {a1 a2 : Int32} (hn : n ≤ 6) (hJ : WJ A) (ho : ∀ (x : THS) (K : Nat → AS) (n : Nat) (v : Int32), WX x A K n 0 v → ∃ x', fL_acts x a1 a2 = some (1, x') ∧ RO A K n x' (some A')) (h : WX x A' (svK K n A) (svN n) 0 v) (j : Nat) : ∃ x' A'' K'' n'' v'', fL_law_j117 L xs x 1 (nI j) a1 a2 (dg A) = some (.inl (x', 1, nI (j + 1))) ∧ WX x' A'' K'' n'' 0 v'' := by
  unfold fL_law_j117 fL_law_j122
  rw [if_neg (show ¬ (1 : Int32) = 0 by decide), if_neg (show ¬ (1 : Int32) = 0 by decide)]
  by_cases c : ((a1 >>> ((8 : Int32) &&& 31)) &&& (3 : Int32)) = 0
  · rw [if_pos c]
    obtain ⟨N, hN⟩ : ∃ N, svN n = N + 1 := ⟨svN n - 1, by unfold svN; split <;> omega⟩
    have hd := ls_dig h
    have hs1 := ls_saved h
    rw [hN] at h hs1
    obtain ⟨x2, e2, h2⟩ := s_undo h
    rw [svK_last hn hN] at h2
    obtain ⟨x3, e3, w, h3⟩ := ho x2 _ N v h2
    refine ⟨x3, A', _, _, w, ?_, h3⟩
    rw [hd, Option.bind_some, hs1, Option.bind_some, e2, Option.bind_some, if_pos (nI_pred N).symm, ls_dig h2, Option.bind_some, if_pos (lg_refl _), e3, Option.bind_some, if_neg (show ¬ (1 : Int32) = 0 by decide), ls_dig h3, Option.bind_some, if_pos (lg_refl _)]
    exact ls_203 h3 j
  · rw [if_neg c]
    exact ⟨x, A', _, _, v, ls_203 h j, h⟩
theorem ls_step (hL : L ≤ 260) (h : WX x A K n 0 v) {j : Nat} (hj : j < 44) : ∃ x' A' K' n' v', fL_law_s40 L xs x 1 (nI j) = some (.inl (x', 1, nI (j + 1))) ∧ WX x' A' K' n' 0 v' := by
  have hn6 := h.2.2.1
  obtain ⟨a1, c1⟩ := c_cell (xs := xs) hL (k := 2 * j) (by omega)
  obtain ⟨a2, c2⟩ := c_cell (xs := xs) hL (k := 2 * j + 1) (by omega)
  obtain ⟨o, ho⟩ := a_all h.1 a1 a2
  obtain ⟨x1, e1, h1⟩ := ho x K n v h
  have ej : (2 : Int32) * nI j = nI (2 * j) := pk_mul 2 j
  have hstart : fL_law_s40 L xs x 1 (nI j) = ((fX4_savedStates x1.1).bind fun z24 => (if z24 = nI n then (if nI n = (6 : Int32) then ((fX4_digest x1.1).bind fun z27 => (if (lg_cmp z27 (dg A)) = 0 then fL_law_j121 L xs x1 1 (nI j) a1 a2 (dg A) else fL_law_j117 L xs x1 1 (nI j) a1 a2 (dg A))) else fL_law_j121 L xs x1 1 (nI j) a1 a2 (dg A)) else fL_law_j117 L xs x1 1 (nI j) a1 a2 (dg A))) := by
    unfold fL_law_s40
    rw [if_neg (show ¬ (44 : Int32) ≤ nI j by rw [show (44 : Int32) = nI 44 from rfl, e_le (by omega) (by omega)]; omega), if_neg (show ¬ (1 : Int32) = 0 by decide), ej, c1, Option.bind_some, nI_1, c2, Option.bind_some, ls_dig h, Option.bind_some, ls_saved h, Option.bind_some, e1, Option.bind_some]
  rw [hstart]
  cases o with
  | none =>
    obtain ⟨w, h2⟩ := h1
    refine ⟨x1, A, K, n, w, ?_, h2⟩
    rw [ls_saved h2, Option.bind_some, if_pos rfl, ls_dig h2, Option.bind_some, if_pos (lg_refl _), ite_self]
    exact ls_121 h2 j a1 a2 _
  | some A' =>
    obtain ⟨w, h2⟩ := h1
    have r2 := ls_117 (L := L) (xs := xs) hn6 h.1 ho h2 j
    have r1 := ls_121 (L := L) (xs := xs) h2 j a1 a2 (dg A)
    rw [ls_saved h2, Option.bind_some, ls_dig h2, Option.bind_some]
    by_cases b1 : nI (svN n) = nI n
    · rw [if_pos b1]
      by_cases b2 : nI n = (6 : Int32)
      · rw [if_pos b2]
        by_cases b3 : lg_cmp (dg A') (dg A) = 0
        · rw [if_pos b3]
          exact ⟨x1, A', _, _, w, r1, h2⟩
        · rw [if_neg b3]
          exact r2
      · rw [if_neg b2]
        exact ⟨x1, A', _, _, w, r1, h2⟩
    · rw [if_neg b1]
      exact r2
end LW
def A00 : AS := (0, (fun _ => g0), 0, 0, 0)
theorem has_00 (p s : Nat) : ¬ has A00 p s := fun h => absurd h.1 (Nat.not_lt_zero p)
theorem start_WX (rf ra : Nat → Nat) : WX (zTH, (fun _ => zTS), rf, ra) A00 (fun _ => A00) 0 0 0 :=
  ⟨⟨⟨by decide, fun _ _ => g0_WF, fun _ _ _ => rfl⟩, fun p s h => absurd h (has_00 p s), fun p s h => absurd (kn_has (by omega)) (has_00 p s)⟩, by omega, by omega, fun i hi => absurd hi (Nat.not_lt_zero i), ⟨rfl, fun p hp => absurd hp (Nat.not_lt_zero p), fun _ _ _ _ _ => rfl⟩, rfl, fun i hi => absurd hi (Nat.not_lt_zero i), rfl, fun i hi => absurd hi (Nat.not_lt_zero i)⟩
theorem law_true {L : Nat} (hL : L ≤ 260) (xs : Nat → Int32) (rf ra : Nat → Nat) : fL_law L xs (zTH, (fun _ => zTS), rf, ra) = some 1 := by
  have h := start_WX rf ra
  generalize ((zTH, (fun _ => zTS), rf, ra) : THS) = u at h ⊢
  have hC := h.2.2.2.2.1
  have e1 : fX4_next u.1 (0 : Int32) = some M1 := by
    rw [c_next h.1.1 h.1.2.1 hC]
    exact congrArg some (if_neg (Nat.not_lt_zero _))
  have f0 : fp A00 (hs 0) M1 M1 = 0 := Nat.le_zero.mp (fp_le A00 (hs 0) M1 M1)
  have f1 : fe (A00.2.1 0) = 0 := Nat.le_zero.mp (fe_le (A00.2.1 0))
  have e2 : fX4_ifInserted u.1 (0 : Int32) = some 0 := by
    rw [show (0 : Int32) = nI 0 from rfl, c_ifIns h.1.1 hC (by omega)]
    unfold dueR
    rw [f0, if_pos (by omega), f1]
  have hloop : ∃ d, itr (fun a : THS × Int32 × Int32 => fL_law_s40 L xs a.1 a.2.1 a.2.2) FU (u, (1 : Int32), (0 : Int32)) = some d ∧ d.2 = 1 := by
    refine itrI (fun j z => ∃ x A K n v, z = (x, (1 : Int32), nI j) ∧ WX x A K n 0 v) _ 44 ⟨u, A00, _, 0, 0, rfl, h⟩ ?_ ?_ (by omega)
    · intro j z hj hz
      obtain ⟨x, A, K, n, v, rfl, h1⟩ := hz
      obtain ⟨x', A', K', n', v', e3, h2⟩ := ls_step (xs := xs) hL h1 hj
      exact ⟨_, e3, x', A', K', n', v', rfl, h2⟩
    · intro z hz
      obtain ⟨x, A, K, n, v, rfl, h1⟩ := hz
      refine ⟨(x, 1), ?_, rfl⟩
      show fL_law_s40 L xs x 1 (nI 44) = _
      unfold fL_law_s40
      rw [if_pos (by decide)]
  obtain ⟨d, e3, e4⟩ := hloop
  unfold fL_law
  simp only [m1e]
  rw [ls_holds h, Option.bind_some, if_neg (show ¬ (1 : Int32) = 0 by decide), e1, Option.bind_some, if_pos rfl, e2, Option.bind_some, if_pos rfl]
  unfold fL_law_j37
  rw [e3, Option.bind_some, e4]
