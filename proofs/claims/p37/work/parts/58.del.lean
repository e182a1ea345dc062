def del (A : AS) (p s : Nat) : AS := if kn A p s = 2 then rems (rems A (tp A p s) (ts A p s)) p s else rems A p s
theorem kn_tgt {A : AS} (hA : WA A) (hI : RI A) {a b : Nat} (h : kn A a b = 2) : kn A (tp A a b) (ts A a b) = 3 := by
  have q := nt' hA hI h
  unfold kn
  rw [if_pos q.2.2.1, q.2.2.2.2.2.2.1, if_neg (by rw [nI_eq (by omega) (by omega)]; omega), if_pos rfl]
theorem back {A : AS} (hA : WA A) (hI : RI A) {a b p s : Nat} (h : kn A a b = 2) (h2 : kn A p s = 2) (e1 : tp A a b = tp A p s) (e2 : ts A a b = ts A p s) : a = p ∧ b = s := by
  have q := nt' hA hI h
  have r := nt' hA hI h2
  have hb := has_b hA q.1
  have hb2 := has_b hA r.1
  have x1 := q.2.2.2.2.2.2.2.1
  have x2 := q.2.2.2.2.2.2.2.2
  rw [e1, e2, r.2.2.2.2.2.2.2.1, nI_eq (by omega) (by omega)] at x1
  rw [e1, e2, r.2.2.2.2.2.2.2.2, nI_eq (by omega) (by omega)] at x2
  omega
theorem x100 {p s q t : Nat} (h : s < 100) (h2 : t < 100) : (100 * p + s = 100 * q + t) = (p = q ∧ s = t) := by
  apply propext
  omega
section DEL
variable {A : AS} {p s : Nat}
theorem rems_pg {A : AS} {q t p : Nat} (h : p ≠ q) : (rems A q t).2.1 p = A.2.1 p := va_upN h
theorem del_eff (hA : WA A) (hI : RI A) (hk : kn A p s = 1 ∨ kn A p s = 2) : WA (del A p s) ∧ RI (del A p s) := by
  have hh : has A p s := kn_has (by omega)
  unfold del
  by_cases c : kn A p s = 2
  · rw [if_pos c]
    have q := nt' hA hI c
    have hW1 := WA_rems hA q.2.2.1.1 q.2.2.1.2.1
    have hs1 : s < ((rems A (tp A p s) (ts A p s)).2.1 p).1 := by rw [rems_pg (fun w => q.2.2.2.1 w.symm)]; exact hh.2.1
    refine ⟨WA_rems hW1 hh.1 hs1, ?_⟩
    refine RI_step hA hI (fun a b => (a = p ∧ b = s) ∨ (a = tp A p s ∧ b = ts A p s)) (fun a b h => Same_trans (Same_rems hA q.2.2.1.1 q.2.2.1.2.1 (fun w => h (Or.inr w))) (Same_rems hW1 hh.1 hs1 (fun w => h (Or.inl w)))) ?_ ?_
    · rintro a b (⟨rfl, rfl⟩ | ⟨rfl, rfl⟩) h
      · exact absurd h rems_s
      · exact absurd ((Same_rems hW1 hh.1 hs1 (fun w => q.2.2.2.1 w.1)).1.mp h) rems_s
    · intro a b hk2 hn w
      rcases w with w | w
      · have := kn_tgt hA hI hk2
        rw [w.1, w.2] at this
        omega
      · exact hn (Or.inl (back hA hI hk2 c w.1 w.2))
  · rw [if_neg c]
    refine ⟨WA_rems hA hh.1 hh.2.1, ?_⟩
    refine RI_step hA hI (fun a b => a = p ∧ b = s) (fun a b h => Same_rems hA hh.1 hh.2.1 h) ?_ ?_
    · rintro a b ⟨rfl, rfl⟩ h
      exact absurd h rems_s
    · intro a b hk2 hn w
      have := kn_tgt hA hI hk2
      rw [w.1, w.2] at this
      omega
theorem c_del {u : TH} (hA : WA A) (hI : RI A) (hC : CA u.1.1 A) (hk : kn A p s = 1 ∨ kn A p s = 2) : ∃ v : TP, fX4_deleteRow u (nI (100 * p + s)) = some (v, u.2) ∧ CA v.1 (del A p s) := by
  have hh : has A p s := kn_has (by omega)
  have hb := has_b hA hh
  have hP := pp_b hA hI hh
  have hPb := has_b hA hP
  unfold fX4_deleteRow del
  obtain ⟨v, k1, k2⟩ := c_rems (u := u.1) hA hC hP.1 hP.2.1
  rw [c_present hA hI hC hb.1 (by omega), Option.bind_some, k1, Option.bind_some]
  simp (disch := omega) only [e_eq, x100]
  by_cases c : kn A p s = 2
  · have q := nt' hA hI c
    have e1 : pp A p s = tp A p s := if_pos c
    have e2 : ps A p s = ts A p s := if_pos c
    rw [e1, e2] at k2 hP
    have hW1 := WA_rems hA hP.1 hP.2.1
    obtain ⟨v2, k3, k4⟩ := c_rems (u := v) (p := p) (s := s) hW1 k2 hh.1 (by rw [rems_pg (fun w => q.2.2.2.1 w.symm)]; exact hh.2.1)
    rw [e1, if_neg (fun w => q.2.2.2.1 w.1), if_pos c, k3]
    exact ⟨v2, rfl, k4⟩
  · have e1 : pp A p s = p := if_neg c
    have e2 : ps A p s = s := if_neg c
    rw [e1, e2] at k2
    rw [e1, e2, if_pos ⟨rfl, rfl⟩, if_neg c]
    exact ⟨v, rfl, k2⟩
end DEL

