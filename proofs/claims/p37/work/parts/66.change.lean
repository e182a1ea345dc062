section CI
variable {A : AS} {p s q l : Nat}
theorem c_ch1 {u : TH} (hA : WA A) (hI : RI A) (hC : CA u.1.1 A) (hk : kn A p s = 1 ∨ kn A p s = 2) (hl : l ≤ 60) (hr : hs l ≤ rr A p s) (hL : u.2.2.1.1 = nI l) : ∃ v : TH, fX4_changeRow u (nI (100 * p + s)) (nI 1) = some v ∧ CA v.1.1 (hm A p s l u.2.2.1.2) ∧ v.2.1 = u.2.1 ∧ v.2.2.1 = u.2.2.1 ∧ v.2.2.2.2 = u.2.2.2.2 := by
  have hh : has A p s := kn_has (by omega)
  have hb := has_b hA hh
  obtain ⟨v, k1, k2⟩ := c_home hA hI hC hk hl hr hL
  unfold fX4_changeRow
  rw [c_present hA hI hC hb.1 (by omega), Option.bind_some]
  simp only [lit, if_true]
  rw [k1]
  exact ⟨v, rfl, k2⟩
theorem c_ch2 {u : TH} (hA : WA A) (hI : RI A) (hC : CA u.1.1 A) (hk : kn A p s = 2) (hl : l ≤ 60) (hr : l + 3 ≤ rr A (tp A p s) (ts A p s)) (hL : u.2.2.1.1 = nI l) : ∃ v : TH, fX4_changeRow u (nI (100 * p + s)) (nI 2) = some v ∧ CA v.1.1 (mv2 A p s l u.2.2.1.2) ∧ v.2.1 = u.2.1 ∧ v.2.2.1 = u.2.2.1 ∧ v.2.2.2.2 = u.2.2.2.2 := by
  have w := nt' hA hI hk
  have hb := has_b hA w.1
  have htb := has_b hA w.2.2.1
  have e1 : pp A p s = tp A p s := if_pos hk
  have e2 : ps A p s = ts A p s := if_pos hk
  obtain ⟨r, k1, k2⟩ := c_wMoved (u := u) (q := p) (t := s) hl hL (by omega) (by omega)
  obtain ⟨v, k3, k4⟩ := c_puts (u := (u.1, (nI (l + 3), r))) (p := tp A p s) (s := ts A p s) (z := l + 3) hA hC w.2.2.1.1 (Nat.le_of_lt w.2.2.1.2.1) htb.2.1 rfl (by omega) (by omega) (rr_room2 hA w.2.2.1 hr)
  unfold fX4_changeRow
  rw [c_present hA hI hC hb.1 (by omega), Option.bind_some, e1, e2, k1, Option.bind_some]
  simp (disch := omega) only [lit, e_eq, if_true, if_neg (show ¬ (2 : Nat) = 1 by omega)]
  rw [k3, Option.bind_some]
  refine ⟨_, rfl, ?_, rfl, rfl, rfl⟩
  unfold mv2
  rw [← puts_cong k2]
  exact k4
end CI

