def acp (q : TR) (c : Int32) : Option TR := (fX1_accepts q c).bind fun z => if z.1 = 0 then none else some z.2
def S0 : TR := (0, 0, 0, 0)
def SD (k : Nat) : TR := (1, nI k, 0, 0)
def TN (k : Int32) (d m : Nat) : TR := (k, 0, nI d, nI m)
def S4 : TR := (4, 0, 0, 0)
def rs (b : Nat → Int32) : Nat → Option TR
  | 0 => some S0
  | k + 1 => (rs b k).bind fun q => acp q (b k)
theorem rs_s {b : Nat → Int32} {k : Nat} {q : TR} (h : rs b k = some q) : rs b (k + 1) = acp q (b k) := by
  show (rs b k).bind _ = _
  rw [h]; rfl
theorem rs_none {b : Nat → Int32} {k : Nat} (h : rs b k = none) : ∀ m, rs b (k + m) = none
  | 0 => h
  | m + 1 => by
    show (rs b (k + m)).bind _ = _
    rw [rs_none h m]; rfl
theorem rs_dead {b : Nat → Int32} {k m : Nat} {q q2 : TR} (h : rs b k = some q) (hn : acp q (b k) = none) (hm : rs b m = some q2) : m ≤ k := by
  refine Nat.le_of_not_lt fun w => ?_
  have := rs_none ((rs_s h).trans hn) (m - (k + 1))
  rw [show k + 1 + (m - (k + 1)) = m by omega, hm] at this
  cases this
def dgt (c : Int32) : Prop := ∃ v, v ≤ 9 ∧ c = nI (48 + v)
def ltr (c : Int32) : Prop := ¬ c < 97 ∧ c ≤ 122
theorem dgt_in (c : Int32) : (dgt c ∧ fX5_in c 48 57 = some 1 ∧ ¬ c < 48 ∧ ¬ (57 : Int32) < c) ∨ (¬ dgt c ∧ fX5_in c 48 57 = some 0 ∧ (c < 48 ∨ (57 : Int32) < c)) := by
  have h48 : (48 : Int32).toInt = 48 := rfl
  have h57 : (57 : Int32).toInt = 57 := rfl
  by_cases h : c < 48 ∨ (57 : Int32) < c
  · refine Or.inr ⟨?_, in_no ?_, h⟩
    · rintro ⟨v, hv, rfl⟩
      rcases h with h | h
      · rw [Int32.lt_iff_toInt_lt, nI_toInt (by omega)] at h
        omega
      · rw [Int32.lt_iff_toInt_lt, nI_toInt (by omega)] at h
        omega
    · rcases h with h | h
      · exact Or.inl h
      · refine Or.inr ?_
        rw [← i_gt]; exact h
  · have a1 : ¬ c < 48 := fun w => h (Or.inl w)
    have a2 : ¬ (57 : Int32) < c := fun w => h (Or.inr w)
    have a3 : c ≤ 57 := Classical.byContradiction fun w => a2 (by rw [i_gt]; exact w)
    refine Or.inl ⟨?_, in_yes a1 a3, a1, a2⟩
    obtain ⟨j, hj, rfl⟩ := i_pos (a := 48) (by decide) a1
    rw [Int32.lt_iff_toInt_lt, nI_toInt (by omega)] at a1
    rw [Int32.le_iff_toInt_le, nI_toInt (by omega)] at a3
    exact ⟨j - 48, by omega, by rw [show 48 + (j - 48) = j by omega]⟩
theorem ltr_in (c : Int32) : (ltr c ∧ fX5_in c 97 122 = some 1) ∨ (¬ ltr c ∧ fX5_in c 97 122 = some 0) := by
  by_cases h : ltr c
  · exact Or.inl ⟨h, in_yes h.1 h.2⟩
  · refine Or.inr ⟨h, in_no ?_⟩
    by_cases d : c < 97
    · exact Or.inl d
    · exact Or.inr fun w => h ⟨d, w⟩
theorem ltr_59 {c : Int32} (h : ltr c) : c ≠ 59 ∧ c ≠ 58 := by
  refine ⟨fun w => ?_, fun w => ?_⟩ <;> (rw [w] at h; exact h.1 (by decide))
theorem dgt_59 {c : Int32} (h : dgt c) : c ≠ 59 ∧ c ≠ 58 := by
  obtain ⟨v, hv, rfl⟩ := h
  exact ⟨nI_ne (b := 59) (by omega) (by omega) (by omega), nI_ne (b := 58) (by omega) (by omega) (by omega)⟩
theorem ltr_M1 : ¬ ltr M1 := by
  intro h
  exact h.1 (by decide)
theorem dgt_M1 : ¬ dgt M1 := by
  rintro ⟨v, hv, h⟩
  rw [M1_nenI (by omega)] at h
  exact h
def may (q : TR) : Prop := fX1_mayEnd q = some 1
theorem may_01 (q : TR) : fX1_mayEnd q = some 1 ∨ fX1_mayEnd q = some 0 := by
  unfold fX1_mayEnd
  split
  · split
    · exact Or.inr rfl
    · exact Or.inl rfl
  · split
    · split
      · exact Or.inr rfl
      · exact Or.inl rfl
    · split
      · exact Or.inl rfl
      · exact Or.inr rfl
theorem nmay {q : TR} (h : fX1_mayEnd q = some 0) : ¬ may q := by
  intro w
  rw [show fX1_mayEnd q = some 1 from w] at h
  exact absurd (Option.some.inj h) (by decide)
theorem acp_59 {q : TR} (h : may q) : acp q 59 = some S0 := by
  unfold acp fX1_accepts
  rw [if_pos rfl, show fX1_mayEnd q = some 1 from h]
  rfl
theorem acp_59n {q : TR} (h : fX1_mayEnd q = some 0) : acp q 59 = none := by
  unfold acp fX1_accepts
  rw [if_pos rfl, h]
  rfl
theorem may_S0 : fX1_mayEnd S0 = some 0 := rfl
theorem may_S4 : may S4 := rfl
theorem may_SD {k : Nat} (h : k < 2 ^ 31) : if k = 0 then fX1_mayEnd (SD k) = some 0 else may (SD k) := by
  unfold may fX1_mayEnd SD
  by_cases c : k = 0
  · rw [if_pos c, c]; rfl
  · rw [if_neg c, if_pos rfl, if_neg (nI_nle (by omega) h)]
theorem may_TN2 {d m : Nat} : fX1_mayEnd (TN 2 d m) = some 0 := rfl
theorem may_TN3 {d m : Nat} (h : d < 2 ^ 31) : if d = 0 then fX1_mayEnd (TN 3 d m) = some 0 else may (TN 3 d m) := by
  unfold may fX1_mayEnd TN
  by_cases c : d = 0
  · rw [if_pos c, c]; rfl
  · rw [if_neg c, if_neg (show ¬ (3 : Int32) = 1 by decide), if_pos rfl, if_neg (nI_nle (by omega) h)]
theorem acp_S0 (c : Int32) : acp S0 c = if c = 43 then some (SD 0) else if c = 61 then some (TN 2 0 0) else if c = 45 then some (TN 3 0 0) else if c = 94 then some S4 else none := by
  by_cases h1 : c = 43
  · rw [h1, if_pos rfl]; rfl
  · rw [if_neg h1]
    by_cases h2 : c = 61
    · rw [h2, if_pos rfl]; rfl
    · rw [if_neg h2]
      by_cases h3 : c = 45
      · rw [h3, if_pos rfl]; rfl
      · rw [if_neg h3]
        by_cases h4 : c = 94
        · rw [h4, if_pos rfl]; rfl
        · rw [if_neg h4]
          by_cases h5 : c = 59
          · rw [h5]; rfl
          · unfold acp fX1_accepts fX1_acceptsFirst
            rw [if_neg h5, if_pos (show S0.1 = 0 from rfl), if_neg h1, if_neg h3, if_neg h2, if_neg h4]
            rfl
theorem acp_S4 {c : Int32} (h : c ≠ 59) : acp S4 c = none := by
  unfold acp fX1_accepts
  rw [if_neg h]
  rfl
theorem acp_SDy {k : Nat} {c : Int32} (hl : ltr c) (hk : k < 40) : acp (SD k) c = some (SD (k + 1)) := by
  have h := ltr_59 hl
  unfold acp fX1_accepts fX1_acceptsLetter
  rw [if_neg h.1, if_neg (show ¬ (SD k).1 = 0 from by show ¬ (1 : Int32) = 0; decide), if_pos (show (SD k).1 = 1 from rfl), if_neg hl.1, if_neg (by rw [i_gt]; exact fun w => w hl.2)]
  have e : (SD k).2.1 + (1 : Int32) = nI (k + 1) := nI_1 k
  rw [e, if_neg (by rw [show (40 : Int32) = nI 40 from rfl, e_lt (by omega) (by omega)]; omega)]
  rfl
theorem acp_SDn {k : Nat} {c : Int32} (hk40 : k ≤ 40) (h : ¬ ltr c ∨ k = 40) (h59 : c ≠ 59) : acp (SD k) c = none := by
  unfold acp fX1_accepts fX1_acceptsLetter
  rw [if_neg h59, if_neg (show ¬ (SD k).1 = 0 from by show ¬ (1 : Int32) = 0; decide), if_pos (show (SD k).1 = 1 from rfl)]
  by_cases c1 : c < 97
  · rw [if_pos c1]; rfl
  · rw [if_neg c1]
    by_cases c2 : (122 : Int32) < c
    · rw [if_pos c2]; rfl
    · rw [if_neg c2]
      have hk : k = 40 := by
        rcases h with w | w
        · exact absurd ⟨c1, Classical.byContradiction fun z => c2 (by rw [i_gt]; exact z)⟩ w
        · exact w
      rw [hk, if_pos (show (40 : Int32) < (SD 40).2.1 + 1 from by decide)]; rfl
theorem acDy {k : Int32} {d m v : Nat} (hv : v ≤ 9) (hd : d ≤ 100) (h0 : d = 0 ∨ m ≠ 0) (hm : 10 * m + v ≤ 799) : fX1_acceptsDigit (TN k d m) (nI (48 + v)) = some (1, TN k (d + 1) (10 * m + v)) := by
  have e1 : (10 : Int32) * (TN k d m).2.2.2 + nI (48 + v) - (48 : Int32) = nI (10 * m + v) := by
    show nI 10 * nI m + nI (48 + v) - nI 48 = _
    rw [pk_mul, nI_add, e_sub (by omega)]
    congr 1; omega
  have e2 : (TN k d m).2.2.1 + (1 : Int32) = nI (d + 1) := nI_1 d
  have hj : fX1_acceptsDigit_j28 (TN k d m) (nI (48 + v)) = some (1, TN k (d + 1) (10 * m + v)) := by
    unfold fX1_acceptsDigit_j28
    rw [e1, e2, if_neg (by rw [show (799 : Int32) = nI 799 from rfl, e_lt (by omega) (by omega)]; omega)]
    rfl
  unfold fX1_acceptsDigit
  rw [if_neg (show ¬ nI (48 + v) < (48 : Int32) from nI_nlt (a := 48 + v) (b := 48) (by omega) (by omega)), if_neg (show ¬ (57 : Int32) < nI (48 + v) from nI_nlt (a := 57) (b := 48 + v) (by omega) (by omega))]
  by_cases c : d = 0
  · rw [if_pos (show (TN k d m).2.2.1 ≤ 0 from by rw [c]; exact (by decide : nI 0 ≤ 0))]
    exact hj
  · rw [if_neg (show ¬ (TN k d m).2.2.1 ≤ 0 from nI_nle (by omega) (by omega)), if_neg (show ¬ (TN k d m).2.2.2 = 0 from nI_ne0 (by omega) (by omega))]
    exact hj
theorem acDn {k : Int32} {d m : Nat} {c : Int32} (hd : d ≤ 100) (hm : m ≤ 799) (h : ¬ dgt c ∨ ∃ v, v ≤ 9 ∧ c = nI (48 + v) ∧ ((d ≠ 0 ∧ m = 0) ∨ 800 ≤ 10 * m + v)) : ∃ q, fX1_acceptsDigit (TN k d m) c = some (0, q) := by
  unfold fX1_acceptsDigit
  rcases dgt_in c with ⟨hc, -, c1, c2⟩ | ⟨hc, -, c1⟩
  · rw [if_neg c1, if_neg c2]
    rcases h with h | ⟨v, hv, rfl, h⟩
    · exact absurd hc h
    · have e1 : (10 : Int32) * (TN k d m).2.2.2 + nI (48 + v) - (48 : Int32) = nI (10 * m + v) := by
        show nI 10 * nI m + nI (48 + v) - nI 48 = _
        rw [pk_mul, nI_add, e_sub (by omega)]
        congr 1; omega
      have hj : 800 ≤ 10 * m + v → ∃ q, fX1_acceptsDigit_j28 (TN k d m) (nI (48 + v)) = some (0, q) := by
        intro w
        unfold fX1_acceptsDigit_j28
        rw [e1, if_pos (show (799 : Int32) < nI (10 * m + v) from nI_lt (a := 799) (by omega) (by omega))]
        exact ⟨_, rfl⟩
      by_cases cd : d = 0
      · rw [if_pos (show (TN k d m).2.2.1 ≤ 0 from by rw [cd]; exact (by decide : nI 0 ≤ 0))]
        exact hj (by omega)
      · rw [if_neg (show ¬ (TN k d m).2.2.1 ≤ 0 from nI_nle (by omega) (by omega))]
        by_cases cm : m = 0
        · rw [if_pos (show (TN k d m).2.2.2 = 0 from by rw [cm]; rfl)]
          exact ⟨_, rfl⟩
        · rw [if_neg (show ¬ (TN k d m).2.2.2 = 0 from nI_ne0 (by omega) (by omega))]
          exact hj (by omega)
  · by_cases c2 : c < 48
    · rw [if_pos c2]; exact ⟨_, rfl⟩
    · rw [if_neg c2, if_pos (by rcases c1 with w | w; exact absurd w c2; exact w)]; exact ⟨_, rfl⟩
theorem acp_TNy {k : Int32} (hk : k = 2 ∨ k = 3) {d m v : Nat} (hv : v ≤ 9) (hd : d ≤ 100) (h0 : d = 0 ∨ m ≠ 0) (hm : 10 * m + v ≤ 799) : acp (TN k d m) (nI (48 + v)) = some (TN k (d + 1) (10 * m + v)) := by
  have h := dgt_59 ⟨v, hv, rfl⟩
  unfold acp fX1_accepts
  rw [if_neg h.1, acDy hv hd h0 hm]
  rcases hk with rfl | rfl
  · rw [if_neg (show ¬ (TN 2 d m).1 = 0 from by show ¬ (2 : Int32) = 0; decide), if_neg (show ¬ (TN 2 d m).1 = 1 from by show ¬ (2 : Int32) = 1; decide), if_pos (show (TN 2 d m).1 = 2 from rfl), if_neg h.2]
    rfl
  · rw [if_neg (show ¬ (TN 3 d m).1 = 0 from by show ¬ (3 : Int32) = 0; decide), if_neg (show ¬ (TN 3 d m).1 = 1 from by show ¬ (3 : Int32) = 1; decide), if_neg (show ¬ (TN 3 d m).1 = 2 from by show ¬ (3 : Int32) = 2; decide), if_pos (show (TN 3 d m).1 = 3 from rfl)]
    rfl
theorem acp_TNn {k : Int32} (hk : k = 2 ∨ k = 3) {d m : Nat} {c : Int32} (hd : d ≤ 100) (hm : m ≤ 799) (h59 : c ≠ 59) (h58 : k = 2 → c ≠ 58) (h : ¬ dgt c ∨ ∃ v, v ≤ 9 ∧ c = nI (48 + v) ∧ ((d ≠ 0 ∧ m = 0) ∨ 800 ≤ 10 * m + v)) : acp (TN k d m) c = none := by
  obtain ⟨q, hq⟩ := acDn (k := k) hd hm h
  unfold acp fX1_accepts
  rw [if_neg h59, hq]
  rcases hk with rfl | rfl
  · rw [if_neg (show ¬ (TN 2 d m).1 = 0 from by show ¬ (2 : Int32) = 0; decide), if_neg (show ¬ (TN 2 d m).1 = 1 from by show ¬ (2 : Int32) = 1; decide), if_pos (show (TN 2 d m).1 = 2 from rfl), if_neg (h58 rfl)]
    rfl
  · rw [if_neg (show ¬ (TN 3 d m).1 = 0 from by show ¬ (3 : Int32) = 0; decide), if_neg (show ¬ (TN 3 d m).1 = 1 from by show ¬ (3 : Int32) = 1; decide), if_neg (show ¬ (TN 3 d m).1 = 2 from by show ¬ (3 : Int32) = 2; decide), if_pos (show (TN 3 d m).1 = 3 from rfl)]
    rfl
theorem acp_58 {d m : Nat} (hd : d ≤ 100) : acp (TN 2 d m) 58 = if d = 0 then none else some (SD 0) := by
  unfold acp fX1_accepts
  rw [if_neg (by decide), if_neg (show ¬ (TN 2 d m).1 = 0 from by show ¬ (2 : Int32) = 0; decide), if_neg (show ¬ (TN 2 d m).1 = 1 from by show ¬ (2 : Int32) = 1; decide), if_pos (show (TN 2 d m).1 = 2 from rfl), if_pos rfl]
  by_cases c : d = 0
  · rw [if_pos c, c]; rfl
  · rw [if_neg c, if_neg (show ¬ (TN 2 d m).2.2.1 ≤ 0 from nI_nle (by omega) (by omega))]; rfl
