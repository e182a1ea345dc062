def sgo (b : Nat → Int32) (L a : Nat) : Int32 := if a < L then b a else M1
def pst (y : TM) (mn : Int32) (a : Nat) (o id : Int32) (r : Ar) : TM := ((y.1.1, y.1.2.1, y.1.2.2.1, mn, nI a, o, id, y.1.2.2.2.2.2.2.2), y.2.1, y.2.2.1, r, y.2.2.2.2)
def nmN (b : Nat → Int32) (a : Nat) : Nat → Int32
  | 0 => 0
  | k + 1 => (10 : Int32) * nmN b a k + b (a + k) - (48 : Int32)
def RB (y : TM) (b : Nat → Int32) (L : Nat) : Prop := L ≤ 60 ∧ y.1.2.2.1 = nI L ∧ ∀ i, i < L → y.2.2.1 i = b i
theorem sgo_in {b : Nat → Int32} {L a : Nat} (h : a < L) : sgo b L a = b a := if_pos h
theorem sgo_out {b : Nat → Int32} {L a : Nat} (h : ¬ a < L) : sgo b L a = M1 := if_neg h
theorem sgo_lt {b : Nat → Int32} {L a : Nat} {c : Int32} (h : sgo b L a = c) (hc : c ≠ M1) : a < L ∧ b a = c := by
  by_cases d : a < L
  · rw [sgo_in d] at h; exact ⟨d, h⟩
  · rw [sgo_out d] at h; exact absurd h.symm hc
theorem nm_dig {b : Nat → Int32} {a k m v : Nat} (h : nmN b a k = nI m) (hb : b (a + k) = nI (48 + v)) : nmN b a (k + 1) = nI (10 * m + v) := by
  show (10 : Int32) * nmN b a k + b (a + k) - (48 : Int32) = _
  rw [h, hb]
  show nI 10 * nI m + nI (48 + v) - nI 48 = _
  rw [pk_mul, nI_add, e_sub (by omega)]
  congr 1; omega
section RD5
variable {y : TM} {b : Nat → Int32} {L : Nat} {mn o id : Int32} {r : Ar}
theorem m_sign (hB : RB y b L) {a : Nat} (ha : a ≤ L) : fX5_sign (pst y mn a o id r) = some (sgo b L a) := by
  obtain ⟨h60, hL, hb⟩ := hB
  unfold fX5_sign
  show (if y.1.2.2.1 ≤ nI a then some ((-1) : Int32) else ((rd y.2.2.1 60 (nI a)).bind fun z2 => some z2)) = _
  rw [hL]
  by_cases c : a < L
  · rw [if_neg (by rw [e_le (by omega) (by omega)]; omega), rdN (by omega) (by omega), Option.bind_some, sgo_in c, hb a c]
  · rw [if_pos (by rw [e_le (by omega) (by omega)]; omega), sgo_out c]; rfl
theorem takesY (hB : RB y b L) {a : Nat} (ha : a ≤ L) {c : Int32} (h : sgo b L a = c) : fX5_takes (pst y mn a o id r) c = some (1, pst y mn (a + 1) o id r) := by
  unfold fX5_takes
  rw [m_sign hB ha, Option.bind_some, if_pos h]
  unfold fX5_takes_j13
  rw [if_neg (by decide), zO_1, Option.bind_some]
  show some ((1 : Int32), ((y.1.1, y.1.2.1, y.1.2.2.1, mn, nI a + (1 : Int32), o, id, y.1.2.2.2.2.2.2.2), y.2.1, y.2.2.1, r, y.2.2.2.2)) = _
  rw [nI_1]; rfl
theorem takesN (hB : RB y b L) {a : Nat} (ha : a ≤ L) {c : Int32} (h : sgo b L a ≠ c) : fX5_takes (pst y mn a o id r) c = some (0, pst y mn a o id r) := by
  unfold fX5_takes
  rw [m_sign hB ha, Option.bind_some, if_neg h]
  unfold fX5_takes_j13
  rw [if_pos rfl, zO_0, Option.bind_some]
  show some ((0 : Int32), ((y.1.1, y.1.2.1, y.1.2.2.1, mn, nI a + nI 0, o, id, y.1.2.2.2.2.2.2.2), y.2.1, y.2.2.1, r, y.2.2.2.2)) = _
  rw [nI_add, Nat.add_zero]; rfl
theorem m_rid (hB : RB y b L) {k : Int32} (hk : k = 2 ∨ k = 3) {a : Nat} (ha : a ≤ L) (hR : rs b a = some (TN k 0 0)) : (fX5_readsIdentifier (pst y mn a o id r) = some (0, pst y mn a o id r) ∧ ¬ dgt (sgo b L a)) ∨ ∃ j m, a + 1 + j ≤ L ∧ m ≤ 799 ∧ fX5_readsIdentifier (pst y mn a o id r) = some (1, pst y mn (a + 1 + j) o (nI m) r) ∧ rs b (a + 1 + j) = some (TN k (1 + j) m) ∧ nmN b a (1 + j) = nI m ∧ (∀ i, a ≤ i → i < a + 1 + j → dgt (b i)) ∧ (¬ dgt (sgo b L (a + 1 + j)) ∨ ∃ v, v ≤ 9 ∧ sgo b L (a + 1 + j) = nI (48 + v) ∧ (m = 0 ∨ 800 ≤ 10 * m + v)) := by
  have h60 := hB.1
  unfold fX5_readsIdentifier
  rw [m_sign hB ha, Option.bind_some]
  rcases dgt_in (sgo b L a) with ⟨hd, hin, -, -⟩ | ⟨hd, hin, -⟩
  · obtain ⟨v, hv, hsv⟩ := hd
    obtain ⟨haL, hba⟩ := sgo_lt hsv (fun w => by rw [nI_neM1 (by omega)] at w; exact w)
    refine Or.inr ?_
    rw [hin, Option.bind_some, if_neg (by decide), Option.bind_some, hsv]
    have hfirst : rs b (a + 1 + 0) = some (TN k (1 + 0) v) := by
      rw [Nat.add_zero, rs_s hR, hba]
      have := acp_TNy hk (d := 0) (m := 0) hv (by omega) (Or.inl rfl) (by omega)
      rw [this, show 10 * 0 + v = v by omega]
    have hloop : ∃ d, itr (fun a : TM => fX5_readsIdentifier_s37 a) FU (pst y mn (a + 1) o (nI v) r) = some d ∧ ∃ j m, d = pst y mn (a + 1 + j) o (nI m) r ∧ a + 1 + j ≤ L ∧ m ≤ 799 ∧ rs b (a + 1 + j) = some (TN k (1 + j) m) ∧ nmN b a (1 + j) = nI m ∧ (∀ i, a ≤ i → i < a + 1 + j → dgt (b i)) ∧ (¬ dgt (sgo b L (a + 1 + j)) ∨ ∃ v, v ≤ 9 ∧ sgo b L (a + 1 + j) = nI (48 + v) ∧ (m = 0 ∨ 800 ≤ 10 * m + v)) := by
      refine itrX (fun j x => ∃ m, x = pst y mn (a + 1 + j) o (nI m) r ∧ a + 1 + j ≤ L ∧ m ≤ 799 ∧ rs b (a + 1 + j) = some (TN k (1 + j) m) ∧ nmN b a (1 + j) = nI m ∧ ∀ i, a ≤ i → i < a + 1 + j → dgt (b i)) _ (L - (a + 1)) ⟨v, rfl, by omega, by omega, hfirst, ?_, ?_⟩ ?_ ?_ (by omega)
      · have := nm_dig (b := b) (a := a) (k := 0) (m := 0) (v := v) rfl (by rw [Nat.add_zero]; exact hba)
        rw [this]; congr 1; omega
      · intro i h1 h2
        rw [show i = a by omega, hba]; exact ⟨v, hv, rfl⟩
      · intro j x hj hx
        obtain ⟨m, rfl, h1, h2, h3, h4, h5⟩ := hx
        show (∃ yy, fX5_readsIdentifier_s37 (pst y mn (a + 1 + j) o (nI m) r) = some (.inl yy) ∧ _) ∨ ∃ d, fX5_readsIdentifier_s37 (pst y mn (a + 1 + j) o (nI m) r) = some (.inr d) ∧ _
        unfold fX5_readsIdentifier_s37
        rw [m_sign hB h1, Option.bind_some, Option.bind_some, Option.bind_some]
        by_cases cm : m = 0
        · rw [if_pos (show (pst y mn (a + 1 + j) o (nI m) r).1.2.2.2.2.2.2.1 ≤ 0 from by show nI m ≤ 0; rw [cm]; decide)]
          refine Or.inr ⟨_, rfl, j, m, rfl, h1, h2, h3, h4, h5, ?_⟩
          rcases dgt_in (sgo b L (a + 1 + j)) with ⟨⟨w, hw, hsw⟩, -⟩ | ⟨hd2, -⟩
          · exact Or.inr ⟨w, hw, hsw, Or.inl cm⟩
          · exact Or.inl hd2
        · rw [if_neg (show ¬ (pst y mn (a + 1 + j) o (nI m) r).1.2.2.2.2.2.2.1 ≤ 0 from nI_nle (by omega) (by omega))]
          rcases dgt_in (sgo b L (a + 1 + j)) with ⟨⟨w, hw, hsw⟩, hin2, -⟩ | ⟨hd2, hin2, -⟩
          · obtain ⟨haL2, hba2⟩ := sgo_lt hsw (fun z => by rw [nI_neM1 (by omega)] at z; exact z)
            have ev : (10 : Int32) * (pst y mn (a + 1 + j) o (nI m) r).1.2.2.2.2.2.2.1 + sgo b L (a + 1 + j) - (48 : Int32) = nI (10 * m + w) := by
              rw [hsw]
              show nI 10 * nI m + nI (48 + w) - nI 48 = _
              rw [pk_mul, nI_add, e_sub (by omega)]
              congr 1; omega
            rw [hin2, Option.bind_some, if_neg (by decide), ev]
            by_cases c8 : 800 ≤ 10 * m + w
            · rw [if_pos (show (800 : Int32) ≤ nI (10 * m + w) from nI_le (a := 800) c8 (by omega))]
              exact Or.inr ⟨_, rfl, j, m, rfl, h1, h2, h3, h4, h5, Or.inr ⟨w, hw, hsw, Or.inr c8⟩⟩
            · rw [if_neg (show ¬ (800 : Int32) ≤ nI (10 * m + w) from nI_ge (b := 800) (by omega) (by omega))]
              refine Or.inl ⟨_, rfl, 10 * m + w, ?_, by omega, by omega, ?_, ?_, ?_⟩
              · show ((y.1.1, y.1.2.1, y.1.2.2.1, mn, nI (a + 1 + j) + (1 : Int32), o, nI (10 * m + w), y.1.2.2.2.2.2.2.2), y.2.1, y.2.2.1, r, y.2.2.2.2) = _
                rw [nI_1]; rfl
              · rw [← Nat.add_assoc (a + 1) j 1, rs_s h3, hba2, acp_TNy hk hw (by omega) (Or.inr cm) (by omega)]
                rfl
              · rw [show 1 + (j + 1) = 1 + j + 1 by omega]
                exact nm_dig h4 (by rw [← Nat.add_assoc]; exact hba2)
              · intro i i1 i2
                by_cases c : i = a + 1 + j
                · rw [c, hba2]; exact ⟨w, hw, rfl⟩
                · exact h5 i i1 (by omega)
          · rw [hin2, Option.bind_some, if_pos rfl]
            exact Or.inr ⟨_, rfl, j, m, rfl, h1, h2, h3, h4, h5, Or.inl hd2⟩
      · intro x hx
        obtain ⟨m, rfl, h1, h2, h3, h4, h5⟩ := hx
        have hM : sgo b L (a + 1 + (L - (a + 1))) = M1 := sgo_out (by omega)
        refine ⟨_, ?_, L - (a + 1), m, rfl, h1, h2, h3, h4, h5, Or.inl (by rw [hM]; exact dgt_M1)⟩
        show fX5_readsIdentifier_s37 (pst y mn (a + 1 + (L - (a + 1))) o (nI m) r) = _
        unfold fX5_readsIdentifier_s37
        rw [m_sign hB h1, Option.bind_some, Option.bind_some, Option.bind_some, hM]
        rcases dgt_in M1 with ⟨w, -⟩ | ⟨-, w, -⟩
        · exact absurd w dgt_M1
        · rw [w, Option.bind_some, if_pos rfl, ite_self]
    obtain ⟨d, e1, j, m, rfl, h1, h2, h3, h4, h5, h6⟩ := hloop
    refine ⟨j, m, h1, h2, ?_, h3, h4, h5, h6⟩
    have e2 : ((((pst y mn a o id r).1.1, (pst y mn a o id r).1.2.1, (pst y mn a o id r).1.2.2.1, (pst y mn a o id r).1.2.2.2.1, ((pst y mn a o id r).1.2.2.2.2.1 + (1 : Int32)), (pst y mn a o id r).1.2.2.2.2.2.1, (nI (48 + v) - (48 : Int32)), (pst y mn a o id r).1.2.2.2.2.2.2.2), (pst y mn a o id r).2) : TM) = pst y mn (a + 1) o (nI v) r := by
      show ((y.1.1, y.1.2.1, y.1.2.2.1, mn, nI a + (1 : Int32), o, nI (48 + v) - nI 48, y.1.2.2.2.2.2.2.2), y.2.1, y.2.2.1, r, y.2.2.2.2) = _
      rw [nI_1, e_sub (by omega), show 48 + v - 48 = v by omega]; rfl
    rw [e2, e1, Option.bind_some]
  · refine Or.inl ⟨?_, hd⟩
    rw [hin, Option.bind_some, if_pos rfl]
theorem m_data (hB : RB y b L) {a : Nat} (ha : a ≤ L) (hR : rs b a = some (SD 0)) : ∃ (k : Nat) (r' : Ar), k ≤ 40 ∧ a + k ≤ L ∧ fX5_readsData (pst y mn a o id r) = some (if k = 0 then 0 else 1, pst y (nI k) (a + k) o id r') ∧ (∀ i, i < k → r' i = b (a + i)) ∧ rs b (a + k) = some (SD k) ∧ (∀ i, a ≤ i → i < a + k → ltr (b i)) ∧ (¬ ltr (sgo b L (a + k)) ∨ k = 40) := by
  have h60 := hB.1
  unfold fX5_readsData
  have hloop : ∃ d, itr (fun a : TM × Int32 => fX5_readsData_s5 a.1 a.2) FU (pst y mn a o id r, nI a) = some d ∧ ∃ k, d = (pst y mn (a + k) o id r, nI a) ∧ k ≤ 40 ∧ a + k ≤ L ∧ rs b (a + k) = some (SD k) ∧ (∀ i, a ≤ i → i < a + k → ltr (b i)) ∧ (¬ ltr (sgo b L (a + k)) ∨ k = 40) := by
    refine itrX (fun k x => x = (pst y mn (a + k) o id r, nI a) ∧ k ≤ 40 ∧ a + k ≤ L ∧ rs b (a + k) = some (SD k) ∧ ∀ i, a ≤ i → i < a + k → ltr (b i)) _ (L - a) ⟨rfl, by omega, ha, hR, fun i h1 h2 => by omega⟩ ?_ ?_ (by omega)
    · intro k x hk hx
      obtain ⟨rfl, h1, h2, h3, h4⟩ := hx
      show (∃ yy, fX5_readsData_s5 (pst y mn (a + k) o id r) (nI a) = some (.inl yy) ∧ _) ∨ ∃ d, fX5_readsData_s5 (pst y mn (a + k) o id r) (nI a) = some (.inr d) ∧ _
      unfold fX5_readsData_s5
      have es : (pst y mn (a + k) o id r).1.2.2.2.2.1 - nI a = nI k := by
        show nI (a + k) - nI a = _
        rw [e_sub (by omega), Nat.add_sub_cancel_left]
      rw [es, m_sign hB h2, Option.bind_some]
      by_cases c4 : k = 40
      · rw [if_pos (show (40 : Int32) ≤ nI k from by rw [c4]; decide)]
        exact Or.inr ⟨_, rfl, k, rfl, h1, h2, h3, h4, Or.inr c4⟩
      · rw [if_neg (show ¬ (40 : Int32) ≤ nI k from nI_ge (b := 40) (by omega) (by omega))]
        rcases ltr_in (sgo b L (a + k)) with ⟨hl, hin⟩ | ⟨hl, hin⟩
        · have hb2 : b (a + k) = sgo b L (a + k) := (sgo_in (by omega)).symm
          rw [hin, Option.bind_some, if_neg (by decide)]
          refine Or.inl ⟨_, rfl, ?_, by omega, by omega, ?_, ?_⟩
          · show (((y.1.1, y.1.2.1, y.1.2.2.1, mn, nI (a + k) + (1 : Int32), o, id, y.1.2.2.2.2.2.2.2), y.2.1, y.2.2.1, r, y.2.2.2.2), nI a) = _
            rw [nI_1]; rfl
          · rw [← Nat.add_assoc, rs_s h3, hb2, acp_SDy hl (by omega)]
          · intro i i1 i2
            by_cases c : i = a + k
            · rw [c, hb2]; exact hl
            · exact h4 i i1 (by omega)
        · rw [hin, Option.bind_some, if_pos rfl]
          exact Or.inr ⟨_, rfl, k, rfl, h1, h2, h3, h4, Or.inl hl⟩
    · intro x hx
      obtain ⟨rfl, h1, h2, h3, h4⟩ := hx
      have hM : sgo b L (a + (L - a)) = M1 := sgo_out (by omega)
      have es : (pst y mn (a + (L - a)) o id r).1.2.2.2.2.1 - nI a = nI (L - a) := by
        show nI (a + (L - a)) - nI a = _
        rw [e_sub (by omega), Nat.add_sub_cancel_left]
      refine ⟨_, ?_, L - a, rfl, h1, h2, h3, h4, Or.inl (by rw [hM]; exact ltr_M1)⟩
      show fX5_readsData_s5 (pst y mn (a + (L - a)) o id r) (nI a) = _
      unfold fX5_readsData_s5
      rw [es, m_sign hB h2, Option.bind_some, hM]
      rcases ltr_in M1 with ⟨w, -⟩ | ⟨-, w⟩
      · exact absurd w ltr_M1
      · rw [w, Option.bind_some, if_pos rfl, ite_self]
  obtain ⟨d, e1, k, rfl, h1, h2, h3, h4, h5⟩ := hloop
  obtain ⟨r', t1, t2⟩ := m_takesBuf (y := pst y mn (a + k) o id r) (x := a) (z := a + k) (by omega) (by omega)
  rw [Nat.add_sub_cancel_left] at t1 t2
  refine ⟨k, r', h1, h2, ?_, ?_, h3, h4, h5⟩
  · show ((itr (fun a : TM × Int32 => fX5_readsData_s5 a.1 a.2) FU (pst y mn a o id r, nI a)).bind _) = _
    rw [e1, Option.bind_some]
    show fX5_readsData_j43 (pst y mn (a + k) o id r) (nI a) = _
    unfold fX5_readsData_j43
    show ((fX5_takesBuffer (pst y mn (a + k) o id r) (nI a) (nI (a + k))).bind _) = _
    rw [t1, Option.bind_some]
    show (if nI k ≤ 0 then some ((0 : Int32), pst y (nI k) (a + k) o id r') else some ((1 : Int32), pst y (nI k) (a + k) o id r')) = _
    by_cases c : k = 0
    · rw [if_pos (show nI k ≤ 0 from by rw [c]; decide), if_pos c]
    · rw [if_neg (nI_nle (by omega) (by omega)), if_neg c]
  · intro i hi
    rw [t2 i hi]
    exact hB.2.2 _ (by omega)
end RD5
