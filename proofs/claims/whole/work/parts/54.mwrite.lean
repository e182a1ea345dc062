section WN
variable {u : TM} {A : AS}
theorem m_wHome (hA : WA A) (hR : RA u.2.1 A) {p s l : Nat} (hp : p < 8) (hs : s < 31) (hl : l ≤ 60) (hL : u.1.2.2.2.1 = nI l) (hn : (A.2.1 p).2.1 s + l + 1 ≤ 128) : ∃ f : Ar, fX5_writesHome u (nI p) (nI s) = some (u.1, f, u.2.2) ∧ RA f (wbA A p s (bh l u.2.2.2.1) (l + 1)) ∧ ∀ j, 1532 ≤ j → f j = u.2.1 j := by
  obtain ⟨b, hb⟩ : ∃ b, b = bh l u.2.2.2.1 := ⟨_, rfl⟩
  rw [← hb]
  have hb0 : b 0 = if l = 0 then nI 4 else if l = 1 then nI 5 else nI 1 := by rw [hb]; rfl
  have hbi : ∀ i, i < l → b (1 + i) = u.2.2.2.1 i := by
    intro i hi
    rw [hb]
    unfold bh
    rw [if_neg (by omega), if_pos (by omega), show 1 + i - 1 = i by omega]
  obtain ⟨f1, k1, k2, k3⟩ := m_lb (u := u) (b := b) (n := 0) (by rw [wbA_0]; exact hR) hA hp hs (by omega) rfl
  have hj : fX5_writesHome u (nI p) (nI s) = fX5_writesHome_j28 u (nI p) (nI s) (b 0) (nI 0) (nI s) (nI p) := by
    unfold fX5_writesHome
    simp (disch := omega) only [hL, lit, e_eq]
    rw [hb0]
    by_cases c : l = 0
    · rw [if_pos c, if_pos c]
    · rw [if_neg c, if_neg c]
      by_cases d : l = 1
      · rw [if_pos d, if_pos d]
      · rw [if_neg d, if_neg d]
  rw [hj]
  unfold fX5_writesHome_j28
  rw [k1, Option.bind_some]
  have hloop : ∃ d, itr (fun a : TM × Int32 × Int32 × Int32 => fX5_writesHome_s33 a.1 a.2.1 a.2.2.1 a.2.2.2) FU ((u.1, f1, u.2.2), nI p, nI s, (0 : Int32)) = some d ∧ ∃ f : Ar, d = (u.1, f, u.2.2) ∧ RA f (wbA A p s b (l + 1)) ∧ ∀ j, 1532 ≤ j → f j = u.2.1 j := by
    refine itrI (fun i x => ∃ f : Ar, x = ((u.1, f, u.2.2), nI p, nI s, nI i) ∧ RA f (wbA A p s b (1 + i)) ∧ ∀ j, 1532 ≤ j → f j = u.2.1 j) _ l ⟨f1, rfl, k2, k3⟩ ?_ ?_ (by omega)
    · intro i x hi hx
      obtain ⟨f, rfl, q1, q2⟩ := hx
      obtain ⟨f2, r1, r2, r3⟩ := m_lb (u := (u.1, f, u.2.2)) (b := b) (n := 1 + i) q1 hA hp hs (by omega) (hbi i hi).symm
      refine ⟨_, ?_, f2, rfl, by rw [show 1 + (i + 1) = 1 + i + 1 by omega]; exact r2, fun j hj => by rw [r3 j hj]; exact q2 j hj⟩
      show fX5_writesHome_s33 _ _ _ _ = _
      unfold fX5_writesHome_s33
      simp (disch := omega) only [hL, lit, e_le, if_neg (show ¬ l ≤ i by omega), rdN, Option.bind_some, nI_add]
      rw [r1, Option.bind_some]
    · intro x hx
      obtain ⟨f, rfl, q1, q2⟩ := hx
      refine ⟨_, ?_, f, rfl, by rw [Nat.add_comm]; exact q1, q2⟩
      show fX5_writesHome_s33 _ _ _ _ = _
      unfold fX5_writesHome_s33
      simp (disch := omega) only [hL, e_le, Nat.le_refl, if_true]
  obtain ⟨d, e1, f, rfl, e2, e3⟩ := hloop
  rw [e1]
  exact ⟨f, rfl, e2, e3⟩
theorem m_wNote (hA : WA A) (hR : RA u.2.1 A) {p s q t k : Nat} {c : Nat → Int32} (hp : p < 8) (hs : s < 31) (hq : q < 100) (ht : t < 100) (hn : (A.2.1 p).2.1 s + 3 ≤ 128) : ∃ f : Ar, fX5_writesNote u (nI (100 * p + s)) (nI k) (nI (100 * q + t)) = some (u.1, f, u.2.2) ∧ RA f (wbA A p s (bt (nI k) q t c) 3) ∧ ∀ j, 1532 ≤ j → f j = u.2.1 j := by
  obtain ⟨b, hb⟩ : ∃ b, b = bt (nI k) q t c := ⟨_, rfl⟩
  rw [← hb]
  obtain ⟨f1, k1, k2, k3⟩ := m_lb (u := u) (b := b) (n := 0) (v := nI k) (by rw [wbA_0]; exact hR) hA hp hs (by omega) (by rw [hb]; rfl)
  obtain ⟨f2, r1, r2, r3⟩ := m_lb (u := (u.1, f1, u.2.2)) (b := b) (n := 1) (v := nI q) k2 hA hp hs (by omega) (by rw [hb]; rfl)
  obtain ⟨f3, s1, s2, s3⟩ := m_lb (u := (u.1, f2, u.2.2)) (b := b) (n := 2) (v := nI t) r2 hA hp hs (by omega) (by rw [hb]; rfl)
  refine ⟨f3, ?_, s2, fun j hj => by rw [s3 j hj]; show f2 j = _; rw [r3 j hj]; exact k3 j hj⟩
  unfold fX5_writesNote
  simp (disch := omega) only [lit, (r100 (show p < 1000 by omega) (show s < 100 by omega)).1, (r100 (show p < 1000 by omega) (show s < 100 by omega)).2, (r100 (show q < 1000 by omega) ht).1, (r100 (show q < 1000 by omega) ht).2]
  rw [k1, Option.bind_some, r1, Option.bind_some, s1, Option.bind_some]
theorem m_wMoved (hA : WA A) (hR : RA u.2.1 A) {p s q t l : Nat} (hp : p < 8) (hs : s < 31) (hq : q < 100) (ht : t < 100) (hl : l ≤ 60) (hL : u.1.2.2.2.1 = nI l) (hn : (A.2.1 p).2.1 s + l + 3 ≤ 128) : ∃ f : Ar, fX5_writesMoved u (nI (100 * p + s)) (nI (100 * q + t)) = some (u.1, f, u.2.2) ∧ RA f (wbA A p s (bt (nI 3) q t u.2.2.2.1) (l + 3)) ∧ ∀ j, 1532 ≤ j → f j = u.2.1 j := by
  obtain ⟨b, hb⟩ : ∃ b, b = bt (nI 3) q t u.2.2.2.1 := ⟨_, rfl⟩
  have hbi : ∀ i, i < l → b (3 + i) = u.2.2.2.1 i := by
    intro i hi
    rw [hb]
    unfold bt
    rw [if_neg (by omega), if_neg (by omega), if_neg (by omega), show 3 + i - 3 = i by omega]
  obtain ⟨f1, k1, k2, k3⟩ := m_wNote (u := u) (k := 3) (c := u.2.2.2.1) hA hR hp hs hq ht (by omega)
  rw [← hb] at k2 ⊢
  unfold fX5_writesMoved
  simp only [lit]
  rw [k1, Option.bind_some]
  have hloop : ∃ d, itr (fun a : TM × Int32 × Int32 => fX5_writesMoved_s9 a.1 a.2.1 a.2.2) FU ((u.1, f1, u.2.2), nI (100 * p + s), (0 : Int32)) = some d ∧ ∃ f : Ar, d = (u.1, f, u.2.2) ∧ RA f (wbA A p s b (l + 3)) ∧ ∀ j, 1532 ≤ j → f j = u.2.1 j := by
    refine itrI (fun i x => ∃ f : Ar, x = ((u.1, f, u.2.2), nI (100 * p + s), nI i) ∧ RA f (wbA A p s b (3 + i)) ∧ ∀ j, 1532 ≤ j → f j = u.2.1 j) _ l ⟨f1, rfl, k2, k3⟩ ?_ ?_ (by omega)
    · intro i x hi hx
      obtain ⟨f, rfl, q1, q2⟩ := hx
      obtain ⟨f2, r1, r2, r3⟩ := m_lb (u := (u.1, f, u.2.2)) (b := b) (n := 3 + i) q1 hA hp hs (by omega) (hbi i hi).symm
      refine ⟨_, ?_, f2, rfl, by rw [show 3 + (i + 1) = 3 + i + 1 by omega]; exact r2, fun j hj => by rw [r3 j hj]; exact q2 j hj⟩
      show fX5_writesMoved_s9 _ _ _ = _
      unfold fX5_writesMoved_s9
      simp (disch := omega) only [hL, lit, e_le, if_neg (show ¬ l ≤ i by omega), rdN, Option.bind_some, nI_add, (r100 (show p < 1000 by omega) (show s < 100 by omega)).1, (r100 (show p < 1000 by omega) (show s < 100 by omega)).2]
      rw [r1, Option.bind_some]
    · intro x hx
      obtain ⟨f, rfl, q1, q2⟩ := hx
      refine ⟨_, ?_, f, rfl, by rw [Nat.add_comm]; exact q1, q2⟩
      show fX5_writesMoved_s9 _ _ _ = _
      unfold fX5_writesMoved_s9
      simp (disch := omega) only [hL, e_le, Nat.le_refl, if_true]
  obtain ⟨d, e1, f, rfl, e2, e3⟩ := hloop
  simp only [lit] at e1
  rw [e1]
  exact ⟨f, rfl, e2, e3⟩
end WN
