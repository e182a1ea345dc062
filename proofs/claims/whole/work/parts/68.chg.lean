def chg (A : AS) (p s l : Nat) (c : Nat → Int32) : AS := if hs l ≤ rr A p s then hm A p s l c else if kn A p s = 2 ∧ l + 3 ≤ rr A (tp A p s) (ts A p s) then mv2 A p s l c else mv3 A p s (fp A (l + 3) (nI p) (nI (pp A p s))) l c
theorem bh_cong {l : Nat} {c c' : Nat → Int32} (h : ∀ i, i < l → c i = c' i) : bh l c = bh l c' := by
  funext i
  unfold bh
  by_cases a : i = 0
  · rw [if_pos a, if_pos a]
  · rw [if_neg a, if_neg a]
    by_cases b : i < l + 1
    · rw [if_pos b, if_pos b, h _ (by omega)]
    · rw [if_neg b, if_neg b]
theorem bt_cong {k : Int32} {q t l : Nat} {c c' : Nat → Int32} (h : ∀ i, i < l → c i = c' i) : ∀ i, i < l + 3 → bt k q t c i = bt k q t c' i := by
  intro i hi
  unfold bt
  by_cases a0 : i = 0
  · rw [if_pos a0, if_pos a0]
  · rw [if_neg a0, if_neg a0]
    by_cases a1 : i = 1
    · rw [if_pos a1, if_pos a1]
    · rw [if_neg a1, if_neg a1]
      by_cases a2 : i = 2
      · rw [if_pos a2, if_pos a2]
      · rw [if_neg a2, if_neg a2, h _ (by omega)]
theorem wbA_cong {A : AS} {p s n : Nat} {b b' : Nat → Int32} (h : ∀ i, i < n → b i = b' i) : wbA A p s b n = wbA A p s b' n := by
  unfold wbA
  rw [wb_cong h]
theorem ins_cong {A : AS} {p l : Nat} {c c' : Nat → Int32} (h : ∀ i, i < l → c i = c' i) : ins A p l c = ins A p l c' := by
  unfold ins
  rw [bh_cong h]
theorem hm_cong {A : AS} {p s l : Nat} {c c' : Nat → Int32} (h : ∀ i, i < l → c i = c' i) : hm A p s l c = hm A p s l c' := by
  unfold hm
  rw [bh_cong h]
theorem chg_cong {A : AS} {p s l : Nat} {c c' : Nat → Int32} (h : ∀ i, i < l → c i = c' i) : chg A p s l c = chg A p s l c' := by
  have h3 : ∀ (k : Int32) (q t : Nat) (i : Nat), i < 3 → bt k q t c i = bt k q t c' i := fun k q t i hi => bt_cong (l := 0) (fun j hj => absurd hj (Nat.not_lt_zero j)) i (by omega)
  have eo : ∀ q, out A p s q l c = out A p s q l c' := by
    intro q
    unfold out
    rw [puts_cong (bt_cong h)]
  unfold chg mv2 mv3
  rw [hm_cong h, puts_cong (bt_cong h), eo, wbA_cong (h3 _ _ _), puts_cong (h3 _ _ _)]
section CG
variable {A : AS} {p s l : Nat}
theorem wy_3 (hA : WA A) (hI : RI A) (hk : kn A p s = 1 ∨ kn A p s = 2) (hl : l ≤ 60) (h1 : ¬ hs l ≤ rr A p s) (h2 : ¬ (kn A p s = 2 ∧ l + 3 ≤ rr A (tp A p s) (ts A p s))) (hw : wy A p s l ≠ M1) : wy A p s l = nI 3 ∧ fp A (l + 3) (nI p) (nI (pp A p s)) < 8 ∧ fp A (l + 3) (nI p) (nI (pp A p s)) ≤ A.1 ∧ room (A.2.1 (fp A (l + 3) (nI p) (nI (pp A p s)))) (l + 3) = true ∧ fp A (l + 3) (nI p) (nI (pp A p s)) ≠ p ∧ fp A (l + 3) (nI p) (nI (pp A p s)) ≠ pp A p s ∧ fpR A (l + 3) (nI p) (nI (pp A p s)) = nI (fp A (l + 3) (nI p) (nI (pp A p s))) := by
  have hh : has A p s := kn_has (by omega)
  have hP := pp_b hA hI hh
  unfold wy at hw ⊢
  rw [if_neg h1, if_neg h2] at hw ⊢
  by_cases c : fpR A (l + 3) (nI p) (nI (pp A p s)) = M1
  · rw [if_pos c] at hw
    exact absurd rfl hw
  · rw [if_neg c]
    have h8 : fp A (l + 3) (nI p) (nI (pp A p s)) < 8 := by
      refine Nat.lt_of_not_le fun q => c ?_
      unfold fpR
      rw [if_neg (by omega)]
    have hn := fp_ne hA hh.1 hP.1 h8
    exact ⟨rfl, h8, fp_le _ _ _ _, fp_room hA h8 (by omega), hn.1, hn.2, if_pos h8⟩
theorem chg_eff {c : Nat → Int32} (hA : WA A) (hI : RI A) (hk : kn A p s = 1 ∨ kn A p s = 2) (hl : l ≤ 60) (hw : wy A p s l ≠ M1) : WA (chg A p s l c) ∧ RI (chg A p s l c) := by
  unfold chg
  by_cases h1 : hs l ≤ rr A p s
  · rw [if_pos h1]; exact hm_eff hA hI hk hl h1
  · rw [if_neg h1]
    by_cases h2 : kn A p s = 2 ∧ l + 3 ≤ rr A (tp A p s) (ts A p s)
    · rw [if_pos h2]; exact mv2_eff hA hI h2.1 hl h2.2
    · rw [if_neg h2]
      obtain ⟨k1, k2, k3, k4, k5, k6, k7⟩ := wy_3 hA hI hk hl h1 h2 hw
      exact mv3_eff hA hI hk k2 k3 hl k4 k5 k6
theorem c_chg {u : TH} (hA : WA A) (hI : RI A) (hC : CA u.1.1 A) (hk : kn A p s = 1 ∨ kn A p s = 2) (hl : l ≤ 60) (hL : u.2.2.1.1 = nI l) (hw : wy A p s l ≠ M1) : ∃ v : TH, fX4_changeRow u (nI (100 * p + s)) (wy A p s l) = some v ∧ CA v.1.1 (chg A p s l u.2.2.1.2) ∧ v.2.1 = u.2.1 ∧ v.2.2.1 = u.2.2.1 ∧ v.2.2.2.2 = u.2.2.2.2 := by
  unfold chg
  by_cases h1 : hs l ≤ rr A p s
  · rw [if_pos h1, show wy A p s l = nI 1 from if_pos h1]; exact c_ch1 hA hI hC hk hl h1 hL
  · rw [if_neg h1]
    by_cases h2 : kn A p s = 2 ∧ l + 3 ≤ rr A (tp A p s) (ts A p s)
    · rw [if_pos h2, show wy A p s l = nI 2 by unfold wy; rw [if_neg h1, if_pos h2]]; exact c_ch2 hA hI hC h2.1 hl h2.2 hL
    · rw [if_neg h2]
      obtain ⟨k1, k2, k3, k4, k5, k6, k7⟩ := wy_3 hA hI hk hl h1 h2 hw
      rw [k1]
      exact c_ch3 hA hI hC hk k2 k3 hl hL k4 k5 k6 k7
theorem m_chg {u : TM} (hA : WA A) (hI : RI A) (hR : RA u.2.1 A) (hk : kn A p s = 1 ∨ kn A p s = 2) (hl : l ≤ 60) (hL : u.1.2.2.2.1 = nI l) (hw : wy A p s l ≠ M1) : ∃ f m : Ar, fX5_updates u (nI (100 * p + s)) = some (wy A p s l, u.1, f, u.2.2.1, u.2.2.2.1, m) ∧ RA f (chg A p s l u.2.2.2.1) ∧ ∀ j, 1532 ≤ j → f j = u.2.1 j := by
  have hh : has A p s := kn_has (by omega)
  have hb := has_b hA hh
  have hP := pp_b hA hI hh
  have hPb := has_b hA hP
  unfold fX5_updates chg
  rw [hL, m_way hA hI hR hk hl, Option.bind_some]
  by_cases h1 : hs l ≤ rr A p s
  · obtain ⟨f, m, k1, k2, k3⟩ := m_home hA hI hR hk hl h1 hL
    rw [if_pos h1, show wy A p s l = nI 1 from if_pos h1, if_pos (by decide), k1]
    exact ⟨f, m, rfl, k2, k3⟩
  · rw [if_neg h1]
    by_cases h2 : kn A p s = 2 ∧ l + 3 ≤ rr A (tp A p s) (ts A p s)
    · have e1 : pp A p s = tp A p s := if_pos h2.1
      have e2 : ps A p s = ts A p s := if_pos h2.1
      have q := nt' hA hI h2.1
      have hb2 := has_b hA q.2.2.1
      obtain ⟨f, f2, m, k1, k2, k3, k4⟩ := m_mv2 hA hI hR h2.1 hl h2.2 hL
      rw [if_pos h2, show wy A p s l = nI 2 by unfold wy; rw [if_neg h1, if_pos h2], if_neg (by decide), if_pos (by decide), m_placed hA hI hR hk, Option.bind_some, e1, e2]
      simp only [lit, nI_add, (r100 (show tp A p s < 1000 by omega) (show ts A p s < 100 by omega)).1, (r100 (show tp A p s < 1000 by omega) (show ts A p s < 100 by omega)).2]
      rw [k1, Option.bind_some, k2, Option.bind_some]
      exact ⟨f2, m, rfl, k3, k4⟩
    · rw [if_neg h2]
      obtain ⟨k1, k2, k3, k4, k5, k6, k7⟩ := wy_3 hA hI hk hl h1 h2 hw
      obtain ⟨f, m, j1, j2, j3⟩ := m_goes hA hI hR hk k2 k3 hl hL k4 k5 k6 k7
      rw [k1, if_neg (by decide), if_neg (by decide), j1, Option.bind_some]
      exact ⟨f, m, rfl, j2, j3⟩
end CG
