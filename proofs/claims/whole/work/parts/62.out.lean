theorem kn_same {A B : AS} {p s : Nat} (hA : WA A) (h : Same A B p s) : kn B p s = kn A p s := by
  unfold kn
  by_cases c : has A p s
  · have hb := has_b hA c
    rw [if_pos c, if_pos (h.1.mpr c), (h.2 c).2 0 (by omega)]
  · rw [if_neg c, if_neg (fun w => c (h.1.mp w))]
section OUT
variable {A : AS} {p s q l : Nat}
theorem m_out {u : TM} (hA : WA A) (hR : RA u.2.1 A) (hp : p < 100) (hs : s < 100) (h8 : q < 8) (hle : q ≤ A.1) (hl : l ≤ 60) (hL : u.1.2.2.2.1 = nI l) (hr : room (A.2.1 q) (l + 3) = true) : ∃ f1 f2 m f3 : Ar, fX5_opens u (nI q) = some (u.1, f1, u.2.2) ∧ fX5_stores (u.1, f1, u.2.2) (nI q) (nI (l + 3)) = some (nI (fe (A.2.1 q)), u.1, f2, u.2.2.1, u.2.2.2.1, m) ∧ fX5_writesMoved (u.1, f2, u.2.2.1, u.2.2.2.1, m) (nI (100 * q + fe (A.2.1 q))) (nI (100 * p + s)) = some (u.1, f3, u.2.2.1, u.2.2.2.1, m) ∧ RA f3 (out A p s q l u.2.2.2.1) ∧ ∀ j, 1532 ≤ j → f3 j = u.2.1 j := by
  have hf := fe_e hA h8 hr
  have hO := WA_opn hA h8
  obtain ⟨f1, k1, k2, k3⟩ := m_opn (u := u) hA hR h8
  obtain ⟨f2, m, k4, k5, k6⟩ := m_sto (u := (u.1, f1, u.2.2)) (A := opn A q) (z := l + 3) hO k2 h8 (by omega) hr
  obtain ⟨k7, k8⟩ := poff_WA (B := opn A q) (p := q) (s := fe (A.2.1 q)) hO (z := l + 3) (opn_cnt hle) (fe_le (A.2.1 q)) hf.1 (by omega) hf.2.2.2
  obtain ⟨f3, k9, k10, k11⟩ := m_wMoved (u := (u.1, f2, u.2.2.1, u.2.2.2.1, m)) (p := q) (s := fe (A.2.1 q)) (q := p) (t := s) k7 k5 h8 hf.1 hp hs hl hL (by omega)
  refine ⟨f1, f2, m, f3, k1, k4, k9, ?_, fun j hj => by rw [k11 j hj]; show f2 j = _; rw [k6 j hj]; exact k3 j (by omega)⟩
  have e := puts_eq (A := opn A q) (p := q) (s := fe (A.2.1 q)) (z := l + 3) (n := l + 3) (b := bt (nI 3) p s u.2.2.2.1) (hA.2.1 q h8) (fe_le (A.2.1 q)) hf.1 (by omega) hf.2.2.2 (by omega) (fun i h1 h2 => by omega)
  unfold out
  rw [← e]
  exact k10
end OUT
