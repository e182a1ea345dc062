theorem acc_tot (q : TR) (c : Int32) : ∃ z q', fX1_accepts q c = some (z, q') := by
  have hdig : ∃ z q', fX1_acceptsDigit q c = some (z, q') ∧ (z = 0 ∨ z = 1) := by
    unfold fX1_acceptsDigit fX1_acceptsDigit_j28
    split
    · exact ⟨_, _, rfl, Or.inl rfl⟩
    · split
      · exact ⟨_, _, rfl, Or.inl rfl⟩
      · split
        · split
          · exact ⟨_, _, rfl, Or.inl rfl⟩
          · exact ⟨_, _, rfl, Or.inr rfl⟩
        · split
          · exact ⟨_, _, rfl, Or.inl rfl⟩
          · split
            · exact ⟨_, _, rfl, Or.inl rfl⟩
            · exact ⟨_, _, rfl, Or.inr rfl⟩
  have hlet : ∃ z q', fX1_acceptsLetter q c = some (z, q') ∧ (z = 0 ∨ z = 1) := by
    unfold fX1_acceptsLetter
    split
    · exact ⟨_, _, rfl, Or.inl rfl⟩
    · split
      · exact ⟨_, _, rfl, Or.inl rfl⟩
      · split
        · exact ⟨_, _, rfl, Or.inl rfl⟩
        · exact ⟨_, _, rfl, Or.inr rfl⟩
  have hfst : ∃ z q', fX1_acceptsFirst q c = some (z, q') ∧ (z = 0 ∨ z = 1) := by
    unfold fX1_acceptsFirst
    split
    · exact ⟨_, _, rfl, Or.inr rfl⟩
    · split
      · exact ⟨_, _, rfl, Or.inr rfl⟩
      · split
        · exact ⟨_, _, rfl, Or.inr rfl⟩
        · split
          · exact ⟨_, _, rfl, Or.inr rfl⟩
          · exact ⟨_, _, rfl, Or.inl rfl⟩
  have hz : ∀ {o : Option (Int32 × TR)}, (∃ z q', o = some (z, q') ∧ (z = 0 ∨ z = 1)) → ∃ z q', (o.bind fun z4 => (zO z4.1).bind fun z5 => some (z5, z4.2)) = some (z, q') := by
    rintro o ⟨z, q', rfl, h⟩
    rcases h with rfl | rfl
    · exact ⟨_, _, rfl⟩
    · exact ⟨_, _, rfl⟩
  unfold fX1_accepts
  split
  · rcases may_01 q with h | h
    · rw [h]; exact ⟨_, _, rfl⟩
    · rw [h]; exact ⟨_, _, rfl⟩
  · split
    · exact hz hfst
    · split
      · exact hz hlet
      · split
        · split
          · split
            · exact ⟨_, _, rfl⟩
            · exact ⟨_, _, rfl⟩
          · exact hz hdig
        · split
          · exact hz hdig
          · exact ⟨_, _, rfl⟩
def CB (u : TH) (b : Nat → Int32) (L : Nat) : Prop := L ≤ 60 ∧ u.2.1.1 = nI L ∧ ∀ i, i < L → u.2.1.2 i = b i
section FE
variable {b : Nat → Int32} {L : Nat}
theorem c_at {u : TH} (hB : CB u b L) {k : Nat} (hk : k < L) : fX0_at 60 u.2.1 (nI k) = some (b k) := by
  rw [at_ok hB.2.1 hk hB.1 (by omega), hB.2.2 k hk]
theorem c_first {u : TH} (hB : CB u b L) : ∃ e q rd', fX4_firstError u = some (nI e, u.1, u.2.1, u.2.2.1, u.2.2.2.1, rd', u.2.2.2.2.2) ∧ e ≤ L ∧ rs b e = some q ∧ (e < L → acp q (b e) = none) ∧ (e = L → rd' = q) := by
  have h60 := hB.1
  unfold fX4_firstError
  have hloop : ∃ d, itr (fun a : TH × Int32 => fX4_firstError_s9 a.1 a.2) FU ((u.1, u.2.1, u.2.2.1, u.2.2.2.1, S0, u.2.2.2.2.2), (0 : Int32)) = some d ∧ ∃ e q rd', (if d.1 = 0 then some (d.2.2, d.2.1) else some (d.2.1.2.1.1, d.2.1)) = some (nI e, u.1, u.2.1, u.2.2.1, u.2.2.2.1, rd', u.2.2.2.2.2) ∧ e ≤ L ∧ rs b e = some q ∧ (e < L → acp q (b e) = none) ∧ (e = L → rd' = q) := by
    refine itrX (fun j x => ∃ q, x = ((u.1, u.2.1, u.2.2.1, u.2.2.2.1, q, u.2.2.2.2.2), nI j) ∧ rs b j = some q) _ L ⟨S0, rfl, rfl⟩ ?_ ?_ (by omega)
    · intro j x hj hx
      obtain ⟨q, rfl, h1⟩ := hx
      obtain ⟨z, q', hz⟩ := acc_tot q (b j)
      have ha : acp q (b j) = if z = 0 then none else some q' := by
        unfold acp
        rw [hz]; rfl
      show (∃ yy, fX4_firstError_s9 (u.1, u.2.1, u.2.2.1, u.2.2.2.1, q, u.2.2.2.2.2) (nI j) = some (.inl yy) ∧ _) ∨ ∃ d, fX4_firstError_s9 (u.1, u.2.1, u.2.2.1, u.2.2.2.1, q, u.2.2.2.2.2) (nI j) = some (.inr d) ∧ _
      unfold fX4_firstError_s9
      rw [if_neg (show ¬ u.2.1.1 ≤ nI j from by rw [hB.2.1, e_le (by omega) (by omega)]; omega)]
      dsimp only
      rw [c_at hB hj, Option.bind_some, hz, Option.bind_some]
      by_cases c : z = 0
      · rw [if_pos c] at ha
        rw [if_pos (show (z, q').1 = 0 from c)]
        exact Or.inr ⟨_, rfl, j, q, q', rfl, by omega, h1, fun _ => ha, fun w => by omega⟩
      · rw [if_neg c] at ha
        rw [if_neg (show ¬ (z, q').1 = 0 from c)]
        refine Or.inl ⟨_, rfl, q', ?_, by rw [rs_s h1]; exact ha⟩
        simp only [lit, nI_add]
    · intro x hx
      obtain ⟨q, rfl, h1⟩ := hx
      refine ⟨(1, ((u.1, u.2.1, u.2.2.1, u.2.2.2.1, q, u.2.2.2.2.2), (0 : Int32))), ?_, L, q, q, ?_, Nat.le_refl _, h1, fun w => absurd w (Nat.lt_irrefl L), fun _ => rfl⟩
      · show fX4_firstError_s9 (u.1, u.2.1, u.2.2.1, u.2.2.2.1, q, u.2.2.2.2.2) (nI L) = _
        unfold fX4_firstError_s9
        rw [if_pos (show u.2.1.1 ≤ nI L from by rw [hB.2.1, e_le (by omega) (by omega)]; exact Nat.le_refl _)]
      · rw [if_neg (show ¬ (1 : Nat) = 0 by decide)]
        show some (u.2.1.1, _) = _
        rw [hB.2.1]
  obtain ⟨d, e1, e, q, rd', e2, h⟩ := hloop
  refine ⟨e, q, rd', ?_, h⟩
  show ((itr (fun a : TH × Int32 => fX4_firstError_s9 a.1 a.2) FU ((u.1, u.2.1, u.2.2.1, u.2.2.2.1, S0, u.2.2.2.2.2), (0 : Int32))).bind _) = _
  rw [e1, Option.bind_some]
  exact e2
theorem rs_uniq {e a : Nat} {q p : TR} (h1 : e ≤ L) (h2 : rs b e = some q) (h3 : e < L → acp q (b e) = none) (k1 : a ≤ L) (k2 : rs b a = some p) (k3 : a < L → acp p (b a) = none) : e = a ∧ q = p := by
  have he : e = a := by
    rcases Nat.lt_trichotomy e a with c | c | c
    · have := rs_dead h2 (h3 (by omega)) k2; omega
    · exact c
    · have := rs_dead k2 (k3 (by omega)) h2; omega
  refine ⟨he, ?_⟩
  rw [he, k2] at h2
  exact (Option.some.inj h2).symm
theorem p_firstError {x : THS} {y : TM} (h : G x y) : ∃ v u' y', fX4_firstError x.1 = some (v, u') ∧ fX5_firstError y = some (v, y') ∧ G (u', x.2) y' := by
  obtain ⟨A, K, n, L, b, hW, hX, hY⟩ := h
  obtain ⟨e, q, rd', h1, h2, h3, h4, h5⟩ := c_first (u := x.1) (b := b) (L := L) ⟨hW.2.2.1, hX.2.1, hX.2.2.1⟩
  obtain ⟨z, mn', a', o', id', r', p, g1, g2, g3, g4, g5⟩ := m_complete (y := ((0, y.1.2), y.2)) (b := b) (L := L) ⟨hW.2.2.1, hY.2.1, hY.2.2.1⟩ rfl
  obtain ⟨rfl, rfl⟩ := rs_uniq h2 h3 h4 g2 g3 g4
  refine ⟨nI e, _, pst ((0, y.1.2), y.2) mn' e o' id' r', h1, ?_, ⟨A, K, n, L, b, hW, hX, hY⟩⟩
  unfold fX5_firstError
  rw [g1, Option.bind_some]
  rfl
end FE
