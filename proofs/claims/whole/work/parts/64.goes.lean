section GO
variable {A : AS} {p s q l : Nat}
theorem m_goes {u : TM} (hA : WA A) (hI : RI A) (hR : RA u.2.1 A) (hk : kn A p s = 1 ∨ kn A p s = 2) (h8 : q < 8) (hle : q ≤ A.1) (hl : l ≤ 60) (hL : u.1.2.2.2.1 = nI l) (hr : room (A.2.1 q) (l + 3) = true) (n1 : q ≠ p) (n2 : q ≠ pp A p s) (hfp : fpR A (l + 3) (nI p) (nI (pp A p s)) = nI q) : ∃ f m : Ar, fX5_goesOut u (nI (100 * p + s)) = some (u.1, f, u.2.2.1, u.2.2.2.1, m) ∧ RA f (mv3 A p s q l u.2.2.2.1) ∧ ∀ j, 1532 ≤ j → f j = u.2.1 j := by
  have hh : has A p s := kn_has (by omega)
  have hb := has_b hA hh
  have hP := pp_b hA hI hh
  have hPb := has_b hA hP
  have hf := fe_e hA h8 hr
  obtain ⟨k1, k2, k3, k4, k5, k6, k7, k8⟩ := out_eff (p := p) (s := s) (c := u.2.2.2.1) hA h8 hle hl hr
  have hps := k1 p s (fun w => n1 w.1.symm)
  have hh2 := hps.1.mpr hh
  have hkn := kn_same hA hps
  obtain ⟨f1, f2, m, f3, a1, a2, a3, a4, a5⟩ := m_out (u := u) hA hR (show p < 100 by omega) (show s < 100 by omega) h8 hle hl hL hr
  have hkd := m_kind2 (u := (u.1, f3, u.2.2.1, u.2.2.2.1, m)) k5 a4 hb.1 (show s < 100 by omega)
  unfold fX5_goesOut fX5_goesOut_j92 mv3
  rw [m_placed hA hI hR hk, Option.bind_some, hL]
  simp (disch := omega) only [lit, nI_add, (r100 (show p < 1000 by omega) (show s < 100 by omega)).1, (r100 (show p < 1000 by omega) (show s < 100 by omega)).2, (r100 (show pp A p s < 1000 by omega) (show ps A p s < 100 by omega)).1, (r100 (show pp A p s < 1000 by omega) (show ps A p s < 100 by omega)).2]
  simp (disch := omega) only [nI_add, pk_mul, m_pageFor hA hR (show l + 3 ≤ 1000 by omega), hfp, Option.bind_some, a1, hL, a2, a3, hkd, hkn, e_eq]
  by_cases d : kn A p s = 2
  · have w := nt' hA hI d
    have e1 : pp A p s = tp A p s := if_pos d
    have e2 : ps A p s = ts A p s := if_pos d
    rw [e1] at n2
    have ht := (k1 (tp A p s) (ts A p s) (fun x => n2 x.1.symm)).1.mpr w.2.2.1
    have htb := has_b k5 ht
    rw [if_neg (by omega), if_pos d, e1, e2]
    obtain ⟨f4, b1, b2, b3⟩ := m_rems (u := (u.1, f3, u.2.2.1, u.2.2.2.1, m)) k5 a4 htb.1 ht.2.1
    have hW2 := WA_rems k5 ht.1 ht.2.1
    have s2 := Same_rems k5 (q := p) (t := s) ht.1 ht.2.1 (fun x => w.2.2.2.1 x.1.symm)
    have hb3 := has_b hW2 (s2.1.mpr hh2)
    obtain ⟨f5, c1, c2, c3⟩ := m_wNote (u := (u.1, f4, u.2.2.1, u.2.2.2.1, m)) (p := p) (s := s) (k := 2) (c := u.2.2.2.1) hW2 b2 hb3.1 hb3.2.1 (show q < 100 by omega) (show fe (A.2.1 q) < 100 by omega) (by omega)
    rw [b1, Option.bind_some]
    simp only [c1, Option.bind_some]
    simp (disch := omega) only [rdN, wrN, Option.bind_some]
    exact ⟨_, m, rfl, RA_mvd c2, fun j hj => by rw [updN (by omega), c3 j hj]; show f4 j = _; rw [b3 j hj]; exact a5 j hj⟩
  · have epg := k6 p (fun x => n1 x.symm)
    rw [if_pos (by omega), if_neg d]
    have hrm : 3 ≤ rr A p s := by unfold rr; omega
    have hrm1 := rr_room hA hh hrm
    have hrm2 := rr_room2 hA hh hrm
    obtain ⟨f4, m2, b1, b2, b3⟩ := m_rep (u := (u.1, f3, u.2.2.1, u.2.2.2.1, m)) (p := p) (s := s) (z := 3) k5 a4 hb.1 hh2.2.1 (by omega) (by rw [epg]; exact hrm1)
    obtain ⟨g1, g2⟩ := poff_WA (p := p) (s := s) k5 (z := 3) hh2.1 (Nat.le_of_lt hh2.2.1) hb.2.1 (by omega) (by rw [epg]; exact hrm2)
    obtain ⟨f5, c1, c2, c3⟩ := m_wNote (u := (u.1, f4, u.2.2.1, u.2.2.2.1, m2)) (p := p) (s := s) (k := 2) (c := u.2.2.2.1) g1 b2 hb.1 hb.2.1 (show q < 100 by omega) (show fe (A.2.1 q) < 100 by omega) (by omega)
    have e := puts_eq (A := out A p s q l u.2.2.2.1) (p := p) (s := s) (z := 3) (n := 3) (b := bt (nI 2) q (fe (A.2.1 q)) u.2.2.2.1) (k5.2.1 p hb.1) (Nat.le_of_lt hh2.2.1) hb.2.1 (by omega) (by rw [epg]; exact hrm2) (by omega) (fun i h1 h2 => by omega)
    rw [b1, Option.bind_some]
    simp only [c1, Option.bind_some]
    simp (disch := omega) only [rdN, wrN, Option.bind_some]
    refine ⟨_, m2, rfl, ?_, fun j hj => by rw [updN (by omega), c3 j hj]; show f4 j = _; rw [b3 j hj]; exact a5 j hj⟩
    rw [← e]
    exact RA_mvd c2
end GO
