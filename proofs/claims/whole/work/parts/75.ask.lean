def pby (A : AS) (p o : Nat) : Int32 := if o = 0 then nI (A.2.1 p).1 else if o = 1 then nI (lw (A.2.1 p) (A.2.1 p).1) else if o < 2 + 2 * (A.2.1 p).1 then (if o % 2 = 0 then nI ((A.2.1 p).2.1 ((o - 2) / 2)) else nI ((A.2.1 p).2.2.1 ((o - 2) / 2))) else (A.2.1 p).2.2.2 o
section AK
variable {A : AS}
theorem c_pby {u : TS} (hA : WA A) (hC : CA u A) {p o : Nat} (hp : p < A.1) (ho : o < 128) : fX3_byteAt u (nI p) (nI o) = some (pby A p o) := by
  have hn := hA.1
  have h := hC.2.1 p hp
  have h31 := (hA.2.1 p (by omega)).1
  rw [c_byteAt (by omega)]
  unfold pby
  congr 1
  by_cases c0 : o = 0
  · rw [if_pos c0, c0, Nat.add_zero]; exact h.1
  · rw [if_neg c0]
    by_cases c1 : o = 1
    · rw [if_pos c1, c1]; exact h.2.1
    · rw [if_neg c1]
      by_cases c2 : o < 2 + 2 * (A.2.1 p).1
      · rw [if_pos c2]
        obtain ⟨s, hs1⟩ : ∃ s, s = (o - 2) / 2 := ⟨_, rfl⟩
        have h3 := h.2.2.1 s (by omega)
        rw [← hs1]
        by_cases c3 : o % 2 = 0
        · rw [if_pos c3, show o = 2 + 2 * s by omega, ← Nat.add_assoc]; exact h3.1
        · rw [if_neg c3, show o = 3 + 2 * s by omega, ← Nat.add_assoc]; exact h3.2
      · rw [if_neg c2]; exact h.2.2.2 o (by omega) ho
theorem m_pby {y : TM} (hA : WA A) (hR : RA y.2.1 A) {p o : Nat} (hp : p < A.1) (ho : o < 128) : fX5_byteOfPage y (nI p) (nI o) = some (pby A p o) := by
  have hn := hA.1
  have h := hR.2.2.2.2 p (by omega)
  have hW := hA.2.1 p (by omega)
  have h31 := hW.1
  unfold fX5_byteOfPage pby
  simp only [lit]
  by_cases c : 2 ≤ o
  · rw [if_pos (nI_le c (by omega)), m_cnt (by omega) h, Option.bind_some, e_sub c, pk_div (by omega) (by omega) (by omega), if_neg (show ¬ o = 0 by omega), if_neg (show ¬ o = 1 by omega)]
    by_cases c2 : o < 2 + 2 * (A.2.1 p).1
    · rw [if_neg (by rw [e_le (by omega) (by omega)]; omega), if_pos c2, pk_rem (by omega) (by omega) (by omega)]
      simp (disch := omega) only [e_eq, nI_add]
      by_cases c3 : o % 2 = 0
      · rw [if_pos c3, if_pos c3, m_offA (by omega) h (by omega)]; rfl
      · rw [if_neg c3, if_neg c3, m_size (by omega) h (by omega)]; rfl
    · rw [if_pos (by rw [e_le (by omega) (by omega)]; omega), if_neg c2, nI_add, m_of (by omega), h.2.2 o ho]; rfl
  · rw [if_neg (by rw [e_le (by omega) (by omega)]; exact c)]
    simp (disch := omega) only [e_eq]
    by_cases c0 : o = 0
    · rw [if_pos c0, if_pos c0, m_cnt (by omega) h]; rfl
    · rw [if_neg c0, if_neg c0, if_pos (show o = 1 by omega), m_lowest (by omega) hW.q h]; rfl
def gp (A : AS) (p : Nat) : Nat := lw (A.2.1 p) (A.2.1 p).1 - 2 - 2 * (A.2.1 p).1
theorem c_gap {u : TP} (hA : WA A) (hC : CA u.1 A) {p : Nat} (hp : p < A.1) : fX2_gapWith u (nI p) (nI (A.2.1 p).1) = some (nI (gp A p)) := by
  have hn := hA.1
  have h := hC.2.1 p hp
  have hW := hA.2.1 p (by omega)
  have hge := lw_ge hW (A.2.1 p).1 (Nat.le_refl _)
  unfold fX2_gapWith fX4_slotOffset
  simp only [lit]
  rw [c_byteAt (by omega), Option.bind_some, Option.bind_some, h.2.1, pk_mul, nI_add, e_sub (by omega)]
  unfold gp
  rw [Nat.sub_sub]
theorem m_gap {y : TM} (hA : WA A) (hR : RA y.2.1 A) {p : Nat} (hp : p < A.1) : fX5_gapOf y (nI p) = some (nI (gp A p)) := by
  have hn := hA.1
  have h := hR.2.2.2.2 p (by omega)
  have hW := hA.2.1 p (by omega)
  have hge := lw_ge hW (A.2.1 p).1 (Nat.le_refl _)
  unfold fX5_gapOf
  rw [m_lowest (by omega) hW.q h, Option.bind_some]
  simp only [lit]
  rw [m_cnt (by omega) h, Option.bind_some, pk_mul, e_sub (by omega), e_sub (by omega)]
  rfl
theorem p_length {x : THS} {y : TM} (h : G x y) (a : Int32) : PT x.2 (fX4_length x.1 a) (fX5_length y a) [(3, 1)] := by
  obtain ⟨A, K, n, L, b, hW, hX, hY⟩ := id h
  unfold fX4_length fX5_length
  rcases rowx hW.1 a with ⟨r1, r2⟩ | ⟨p, s, hp, hs1, rfl, hk, r1, r2⟩
  · rw [c_reqNo (r1 _ hX.1), r2 _ hY.1]
    exact Or.inl ⟨3, 1, x.1, 0, ((1, y.1.2), y.2), by simp, rfl, rfl, rfl, G_k h 1⟩
  · have hP := pp_b hW.1 hW.2.1 (show has A p s from kn_has (by omega))
    have m1 := m_length (u := ((0, y.1.2), y.2)) hW.1 hW.2.1 hY.1 hk
    rw [c_reqYes (r1 _ hX.1), r2 _ hY.1]
    refine Or.inr ⟨nI (rl A (pp A p s) (ps A p s)), x.1, ((0, y.1.2), y.2), ?_, ?_, rfl, G_k h 0⟩
    · show ((fX4_presentPlace x.1 (nI (100 * p + s))).bind _) = _
      rw [c_present hW.1 hW.2.1 hX.1 hp (by omega), Option.bind_some, c_lengthAt hW.1 hW.2.1 hX.1 hP, Option.bind_some]
    · show ((fX5_lengthOf ((0, y.1.2), y.2) (nI (100 * p + s))).bind _) = _
      rw [m1, Option.bind_some]
theorem p_placeOf {x : THS} {y : TM} (h : G x y) (a : Int32) : PT x.2 (fX4_placeOf x.1 a) (fX5_placeOf y a) [(3, 1)] := by
  obtain ⟨A, K, n, L, b, hW, hX, hY⟩ := id h
  unfold fX4_placeOf fX5_placeOf
  rcases rowx hW.1 a with ⟨r1, r2⟩ | ⟨p, s, hp, hs1, rfl, hk, r1, r2⟩
  · rw [c_reqNo (r1 _ hX.1), r2 _ hY.1]
    exact Or.inl ⟨3, 1, x.1, 0, ((1, y.1.2), y.2), by simp, rfl, rfl, rfl, G_k h 1⟩
  · have m1 := m_placed (u := ((0, y.1.2), y.2)) hW.1 hW.2.1 hY.1 hk
    rw [c_reqYes (r1 _ hX.1), r2 _ hY.1]
    refine Or.inr ⟨nI (100 * pp A p s + ps A p s), x.1, ((0, y.1.2), y.2), ?_, ?_, rfl, G_k h 0⟩
    · show ((fX4_presentPlace x.1 (nI (100 * p + s))).bind _) = _
      rw [c_present hW.1 hW.2.1 hX.1 hp (by omega), Option.bind_some]
    · show ((fX5_placed ((0, y.1.2), y.2) (nI (100 * p + s))).bind _) = _
      rw [m1, Option.bind_some]
theorem p_byteOf {x : THS} {y : TM} (h : G x y) (a i : Int32) : PT x.2 (fX4_byteOf x.1 a i) (fX5_byteOf y a i) [(3, 1)] := by
  obtain ⟨A, K, n, L, b, hW, hX, hY⟩ := id h
  unfold fX4_byteOf fX5_byteOf
  rcases rowx hW.1 a with ⟨r1, r2⟩ | ⟨p, s, hp, hs1, rfl, hk, r1, r2⟩
  · rw [c_reqNo (r1 _ hX.1), r2 _ hY.1]
    exact Or.inl ⟨3, 1, x.1, 0, ((1, y.1.2), y.2), by simp, rfl, rfl, rfl, G_k h 1⟩
  · have hh : has A p s := kn_has (by omega)
    have hP := pp_b hW.1 hW.2.1 hh
    have h2 := pp_n2 hW.1 hW.2.1 hh
    have hl := (rl_le hW.1 hW.2.1 hP h2).1
    have hb := has_b hW.1 hh
    obtain ⟨l, hle⟩ : ∃ l, l = rl A (pp A p s) (ps A p s) := ⟨_, rfl⟩
    rw [c_reqYes (r1 _ hX.1), r2 _ hY.1, Option.bind_some, Option.bind_some, if_neg (by decide), m_length hW.1 hW.2.1 hY.1 hk, Option.bind_some, ← hle]
    show PT x.2 ((fX4_presentPlace x.1 (nI (100 * p + s))).bind _) _ _
    rw [c_present hW.1 hW.2.1 hX.1 hp (by omega), Option.bind_some, c_lengthAt hW.1 hW.2.1 hX.1 hP, Option.bind_some, ← hle]
    rw [← hle] at hl
    have hsub : (nI l - (1 : Int32)).toInt = (l : Int) - 1 := pk_sub_toInt (b := 1) (by omega) (by omega)
    have bad : ∀ z : Int32, z = (0 : Int32) → PT x.2 (fX4_byteOf_j24 x.1) (if z = 0 then fX5_byteOf_j30 y (nI (100 * p + s)) i else fX5_byteOf_j31 y (nI (100 * p + s)) i 0) [(3, 1)] := by
      rintro z rfl
      exact Or.inl ⟨3, 1, x.1, 0, ((1, y.1.2), y.2), by simp, rfl, rfl, rfl, G_k h 1⟩
    rcases pk_ix i (n := l) (by omega) with c | c | ⟨j, hj, rfl⟩
    · rw [if_pos c, in_no (Or.inl c), Option.bind_some]
      exact bad _ rfl
    · have hno : ¬ i ≤ nI l - (1 : Int32) := by
        intro w
        rw [Int32.le_iff_toInt_le] at c w
        rw [nI_toInt (by omega)] at c
        omega
      rw [in_no (Or.inr hno), Option.bind_some]
      by_cases d : i < 0
      · rw [if_pos d]; exact bad _ rfl
      · rw [if_neg d, if_neg (by rw [i_gt]; exact fun w => w c)]; exact bad _ rfl
    · have hyes : nI j ≤ nI l - (1 : Int32) := by
        rw [Int32.le_iff_toInt_le, nI_toInt (by omega)]
        omega
      rw [if_neg (nI_pos (by omega)), if_pos (nI_lt hj (by omega)), in_yes (nI_pos (by omega)) hyes, Option.bind_some, if_neg (by decide), c_rowByte hW.1 hW.2.1 hX.1 hP h2 (by omega), Option.bind_some]
      have m1 := m_rowByte (u := ((0, y.1.2), y.2)) (i := j) hW.1 hW.2.1 hY.1 hk (by omega)
      refine Or.inr ⟨rb A (pp A p s) (ps A p s) j, x.1, ((0, y.1.2), y.2), rfl, ?_, rfl, G_k h 0⟩
      show ((fX5_byteOfRow ((0, y.1.2), y.2) (nI (100 * p + s)) (nI j)).bind _) = _
      rw [m1, Option.bind_some]
theorem p_pageByte {x : THS} {y : TM} (h : G x y) (a i : Int32) : PT x.2 (fX4_pageByte x.1 a i) (fX5_pageByte y a i) [(3, 1)] := by
  obtain ⟨A, K, n, L, b, hW, hX, hY⟩ := id h
  unfold fX4_pageByte fX5_pageByte
  rcases pagex hW.1.1 a with ⟨r1, r2⟩ | ⟨p, hp, rfl, r1, r2⟩
  · rw [r1 _ hX.1, r2 _ hY.1]
    exact Or.inl ⟨3, 1, x.1, 0, ((1, y.1.2), y.2), by simp, rfl, rfl, rfl, G_k h 1⟩
  · rw [r1 _ hX.1, r2 _ hY.1, Option.bind_some, Option.bind_some, if_neg (by decide)]
    show PT x.2 (if i < 0 then fX4_pageByte_j16 x.1 else _) _ _
    have bad : ∀ z : Int32, z = (0 : Int32) → PT x.2 (fX4_pageByte_j16 x.1) (if z = 0 then fX5_pageByte_j23 y (nI p) i else fX5_pageByte_j24 y (nI p) i 0) [(3, 1)] := by
      rintro z rfl
      exact Or.inl ⟨3, 1, x.1, 0, ((1, y.1.2), y.2), by simp, rfl, rfl, rfl, G_k h 1⟩
    rcases pk_ix i (n := 128) (by omega) with c | c | ⟨j, hj, rfl⟩
    · rw [if_pos c, in_no (Or.inl c), Option.bind_some]
      exact bad _ rfl
    · have hno : ¬ i ≤ (127 : Int32) := by
        intro w
        rw [Int32.le_iff_toInt_le] at c w
        rw [nI_toInt (by omega)] at c
        have : (127 : Int32).toInt = 127 := rfl
        omega
      rw [in_no (Or.inr hno), Option.bind_some]
      by_cases d : i < 0
      · rw [if_pos d]; exact bad _ rfl
      · rw [if_neg d, if_neg (by rw [i_gt]; exact fun w => w c)]; exact bad _ rfl
    · rw [if_neg (nI_pos (by omega)), if_pos (show nI j < (128 : Int32) from nI_lt (b := 128) hj (by omega)), in_yes (nI_pos (by omega)) (show nI j ≤ (127 : Int32) from nI_le (b := 127) (by omega) (by omega)), Option.bind_some, if_neg (by decide), c_pby hW.1 hX.1 hp hj, Option.bind_some]
      have m1 := m_pby (y := ((0, y.1.2), y.2)) hW.1 hY.1 hp hj
      refine Or.inr ⟨pby A p j, x.1, ((0, y.1.2), y.2), rfl, ?_, rfl, G_k h 0⟩
      show ((fX5_byteOfPage ((0, y.1.2), y.2) (nI p) (nI j)).bind _) = _
      rw [m1, Option.bind_some]
theorem p_free {x : THS} {y : TM} (h : G x y) (a : Int32) : PT x.2 (fX4_free x.1 a) (fX5_free y a) [(3, 1)] := by
  obtain ⟨A, K, n, L, b, hW, hX, hY⟩ := id h
  have hn := hW.1.1
  unfold fX4_free fX5_free
  rcases pagex hW.1.1 a with ⟨r1, r2⟩ | ⟨p, hp, rfl, r1, r2⟩
  · rw [r1 _ hX.1, r2 _ hY.1]
    exact Or.inl ⟨3, 1, x.1, 0, ((1, y.1.2), y.2), by simp, rfl, rfl, rfl, G_k h 1⟩
  · have m1 := m_free (u := ((0, y.1.2), y.2)) (show p < 8 by omega) (hW.1.2.1 p (by omega)) (hY.1.2.2.2.2 p (by omega))
    rw [r1 _ hX.1, r2 _ hY.1]
    refine Or.inr ⟨nI (fr (A.2.1 p)), x.1, ((0, y.1.2), y.2), ?_, ?_, rfl, G_k h 0⟩
    · show ((fX2_freeBytes x.1.1 (nI p)).bind _) = _
      rw [c_free (by omega) (hW.1.2.1 p (by omega)) (hX.1.2.1 p hp), Option.bind_some]
    · show ((fX5_freeOf ((0, y.1.2), y.2) (nI p)).bind _) = _
      rw [m1, Option.bind_some]
theorem p_gap {x : THS} {y : TM} (h : G x y) (a : Int32) : PT x.2 (fX4_gap x.1 a) (fX5_gap y a) [(3, 1)] := by
  obtain ⟨A, K, n, L, b, hW, hX, hY⟩ := id h
  have hn := hW.1.1
  unfold fX4_gap fX5_gap
  rcases pagex hW.1.1 a with ⟨r1, r2⟩ | ⟨p, hp, rfl, r1, r2⟩
  · rw [r1 _ hX.1, r2 _ hY.1]
    exact Or.inl ⟨3, 1, x.1, 0, ((1, y.1.2), y.2), by simp, rfl, rfl, rfl, G_k h 1⟩
  · have m1 := m_gap (y := ((0, y.1.2), y.2)) hW.1 hY.1 hp
    rw [r1 _ hX.1, r2 _ hY.1]
    refine Or.inr ⟨nI (gp A p), x.1, ((0, y.1.2), y.2), ?_, ?_, rfl, G_k h 0⟩
    · show ((fX3_slotCount x.1.1.1 (nI p)).bind _) = _
      rw [c_count (by omega) (hX.1.2.1 p hp), Option.bind_some, c_gap hW.1 hX.1 hp, Option.bind_some]
    · show ((fX5_gapOf ((0, y.1.2), y.2) (nI p)).bind _) = _
      rw [m1, Option.bind_some]
theorem p_ifInserted {x : THS} {y : TM} (h : G x y) (a : Int32) : PT x.2 (fX4_ifInserted x.1 a) (fX5_ifInserted y a) [(1, 1)] := by
  obtain ⟨A, K, n, L, b, hW, hX, hY⟩ := id h
  have hn := hW.1.1
  unfold fX4_ifInserted fX5_ifInserted
  rcases lenx a with ⟨r1, r2⟩ | ⟨l, hl, rfl, r1, r2⟩
  · rw [r1, r2]
    exact Or.inl ⟨1, 1, x.1, 0, ((1, y.1.2), y.2), by simp, rfl, rfl, rfl, G_k h 1⟩
  · have hz := hs_b hl
    have m1 := m_pageFor (u := ((0, y.1.2), y.2)) (z := hs l) hW.1 hY.1 (by omega) M1 M1
    have hle := fp_le A (hs l) M1 M1
    rw [r1, r2, Option.bind_some, Option.bind_some, if_neg (by decide)]
    unfold fX5_ifInserted_j16
    rw [holds0, Option.bind_some, if_neg (show ¬ (1 : Int32) = 0 by decide), m_hs hl, Option.bind_some]
    simp only [Sum.elim_inr]
    rw [c_hs hl, Option.bind_some]
    simp only [m1e]
    rw [m1, Option.bind_some, c_findPage hW.1 hX.1 (by omega), Option.bind_some]
    by_cases c : fp A (hs l) M1 M1 < 8
    · rw [fpR_yes c, if_neg (nz (by omega)), if_neg (nz (by omega))]
      generalize hq : fp A (hs l) M1 M1 = q at *
      have m0 := m_n (u := ((0, y.1.2), y.2)) hY.1
      have hW2 := hW.1.2.1 q c
      have h31 := hW2.1
      have hf := fe_le (A.2.1 q)
      have cs : fX2_slotToUse x.1.1 (nI q) = some (nI (fe (A.2.1 q))) := by
        by_cases d : q < A.1
        · exact c_slotToUse' c hW2 (hX.1.2.1 q d)
        · have h0 := hX.1.2.2 q (by omega) c 0 (by omega)
          rw [hW.1.2.2 q (by omega) c]
          unfold fX2_slotToUse
          rw [c_slotCount c, Option.bind_some]
          rw [Nat.add_zero] at h0
          rw [h0]
          refine itrB (fun i => (nI q, (0 : Int32), nI i)) (1, ((0 : Int32), (0 : Int32))) 0 rfl (fun j hj => absurd hj (Nat.not_lt_zero j)) ?_ (by omega) ?_
          · rfl
          · rfl
      rw [cs, Option.bind_some, c_place, Option.bind_some]
      have hv : ((rd y.2.1 10724 (0 : Int32)).bind fun z7 => (if nI q = z7 then fX5_ifInserted_j50 ((0, y.1.2), y.2) (nI q) else ((fX5_emptySlot ((0, y.1.2), y.2) (nI q)).bind fun z9 => (if z9 = M1 then ((fX5_of ((0, y.1.2), y.2) (nI q) (0 : Int32)).bind fun z11 => some ((((100 : Int32) * (nI q)) + z11), (((0 : Int32), y.1.2), y.2))) else some ((((100 : Int32) * (nI q)) + z9), (((0 : Int32), y.1.2), y.2)))))) = some (nI (100 * q + fe (A.2.1 q)), ((0, y.1.2), y.2)) := by
        have m0' : rd y.2.1 10724 (nI 0) = some (nI A.1) := m0
        have me := m_emptySlot (u := ((0, y.1.2), y.2)) c hW2 (hY.1.2.2.2.2 q c)
        have mc := m_cnt (u := ((0, y.1.2), y.2)) c (hY.1.2.2.2.2 q c)
        rw [show rd y.2.1 10724 (0 : Int32) = some (nI A.1) from m0', Option.bind_some]
        by_cases d : q = A.1
        · rw [if_pos (by rw [d])]
          unfold fX5_ifInserted_j50
          simp only [m1e]
          rw [if_neg (nz (by omega)), hW.1.2.2 q (by omega) c]
          simp only [lit, pk_mul]
          rfl
        · rw [if_neg (by rw [e_eq (by omega) (by omega)]; exact d), me, Option.bind_some]
          by_cases e : fe (A.2.1 q) < (A.2.1 q).1
          · rw [if_pos e, if_neg (nz (by omega))]
            simp only [lit, pk_mul, nI_add]
          · rw [if_neg e, if_pos rfl, show fX5_of ((0, y.1.2), y.2) (nI q) (0 : Int32) = some (nI (A.2.1 q).1) from mc, Option.bind_some, show (A.2.1 q).1 = fe (A.2.1 q) by omega]
            simp only [lit, pk_mul, nI_add]
      exact Or.inr ⟨nI (100 * q + fe (A.2.1 q)), x.1, ((0, y.1.2), y.2), rfl, hv, rfl, G_k h 0⟩
    · rw [fpR_no c, if_pos rfl, if_pos rfl]
      exact Or.inr ⟨M1, x.1, ((0, y.1.2), y.2), rfl, rfl, rfl, G_k h 0⟩
theorem p_ifUpdated {x : THS} {y : TM} (h : G x y) (a i : Int32) : PT x.2 (fX4_ifUpdated x.1 a i) (fX5_ifUpdated y a i) [(3, 1), (1, 2)] := by
  obtain ⟨A, K, n, L, b, hW, hX, hY⟩ := id h
  unfold fX4_ifUpdated fX5_ifUpdated
  rcases rowx hW.1 a with ⟨r1, r2⟩ | ⟨p, s, hp, hs1, rfl, hk, r1, r2⟩
  · rw [c_reqNo (r1 _ hX.1), r2 _ hY.1]
    exact Or.inl ⟨3, 1, x.1, 0, ((1, y.1.2), y.2), by simp, rfl, rfl, rfl, G_k h 1⟩
  · have hh : has A p s := kn_has (by omega)
    rw [c_reqYes (r1 _ hX.1), r2 _ hY.1, Option.bind_some, Option.bind_some, if_neg (by decide)]
    rcases lenx i with ⟨t1, t2⟩ | ⟨l, hl, rfl, t1, t2⟩
    · rw [t1, t2]
      exact Or.inl ⟨1, 2, x.1, 0, ((2, y.1.2), y.2), by simp, rfl, rfl, rfl, G_k h 2⟩
    · have m1 := m_way (u := ((0, y.1.2), y.2)) (l := l) hW.1 hW.2.1 hY.1 hk hl
      rw [t1, t2]
      refine Or.inr ⟨wy A p s l, x.1, ((0, y.1.2), y.2), ?_, ?_, rfl, G_k h 0⟩
      · show ((fX4_wayToChange x.1 (nI (100 * p + s)) (nI l)).bind _) = _
        rw [c_way hW.1 hW.2.1 hX.1 hh hl, Option.bind_some]
      · show ((fX5_way ((0, y.1.2), y.2) (nI (100 * p + s)) (nI l)).bind _) = _
        rw [m1, Option.bind_some]
theorem m_great {y : TM} (hA : WA A) (hR : RA y.2.1 A) {p s g : Nat} (hh : has A p s) (h60 : g ≤ 60) (h2 : 2 ≤ g) (h1 : g + 1 ≤ rr A p s) (h3 : g = 60 ∨ g + 1 = rr A p s) : itr (fun a : TM × Int32 × Int32 => fX5_greatestAtHome_s25 a.1 a.2.1 a.2.2) FU (y, nI (100 * p + s), (60 : Int32)) = some (y, nI g) := by
  have hb := has_b hA hh
  refine itr0 (fun j => (y, nI (100 * p + s), nI (60 - j))) (y, nI g) (60 - g) rfl ?_ ?_ (by omega)
  · intro j hj
    have hsz : hs (60 - j) = 60 - j + 1 := if_pos (by omega)
    have m1 := m_canNo (u := y) (z := hs (60 - j)) hA hR hh (by omega) (by omega)
    show fX5_greatestAtHome_s25 y (nI (100 * p + s)) (nI (60 - j)) = _
    unfold fX5_greatestAtHome_s25
    simp only [m1e]
    simp (disch := omega) only [lit, (r100 (show p < 1000 by omega) (show s < 100 by omega)).1, (r100 (show p < 1000 by omega) (show s < 100 by omega)).2, m_hs (show 60 - j ≤ 60 by omega), Option.bind_some, m1, e_eq, if_true, nI_m1]
    rw [show 60 - j - 1 = 60 - (j + 1) by omega]
  · have hsz : hs g = g + 1 := if_pos (by omega)
    have m1 := m_canYes (u := y) (z := hs g) hA hR hh (by omega)
    show fX5_greatestAtHome_s25 y (nI (100 * p + s)) (nI (60 - (60 - g))) = _
    rw [show 60 - (60 - g) = g by omega]
    unfold fX5_greatestAtHome_s25
    simp only [m1e]
    simp (disch := omega) only [lit, (r100 (show p < 1000 by omega) (show s < 100 by omega)).1, (r100 (show p < 1000 by omega) (show s < 100 by omega)).2, m_hs (show g ≤ 60 by omega), Option.bind_some, m1, e_eq, Nat.one_ne_zero, if_false]
theorem p_greatest {x : THS} {y : TM} (h : G x y) (a : Int32) : PT x.2 (fX4_greatestAtHome x.1 a) (fX5_greatestAtHome y a) [(3, 1)] := by
  obtain ⟨A, K, n, L, b, hW, hX, hY⟩ := id h
  unfold fX4_greatestAtHome fX5_greatestAtHome
  rcases rowx hW.1 a with ⟨r1, r2⟩ | ⟨p, s, hp, hs1, rfl, hk, r1, r2⟩
  · rw [c_reqNo (r1 _ hX.1), r2 _ hY.1]
    exact Or.inl ⟨3, 1, x.1, 0, ((1, y.1.2), y.2), by simp, rfl, rfl, rfl, G_k h 1⟩
  · have hh : has A p s := kn_has (by omega)
    have hb := has_b hW.1 hh
    have hf := fr_le (A := A) p
    have hrr : 3 ≤ rr A p s ∧ rr A p s ≤ 260 := by unfold rr; omega
    obtain ⟨g, hg⟩ : ∃ g, g = if rr A p s - 1 < 60 then rr A p s - 1 else 60 := ⟨_, rfl⟩
    have hg2 : 2 ≤ g ∧ g ≤ 60 ∧ g + 1 ≤ rr A p s ∧ (g = 60 ∨ g + 1 = rr A p s) := by
      rw [hg]
      split <;> omega
    rw [c_reqYes (r1 _ hX.1), r2 _ hY.1, Option.bind_some, Option.bind_some, if_neg (by decide)]
    refine Or.inr ⟨nI g, x.1, ((0, y.1.2), y.2), ?_, ?_, rfl, G_k h 0⟩
    · show ((fX4_roomToReplace x.1 (nI (100 * p + s))).bind _) = _
      rw [c_roomTo hW.1 hX.1 hh, Option.bind_some]
      simp only [lit]
      rw [e_sub (by omega)]
      simp (disch := omega) only [e_lt]
      rw [hg]
      by_cases c : rr A p s - 1 < 60
      · rw [if_pos c, if_pos c]
      · rw [if_neg c, if_neg c]
    · unfold fX5_greatestAtHome_j14
      rw [holds0, Option.bind_some, if_neg (show ¬ (1 : Int32) = 0 by decide)]
      rw [m_great (y := ((0, y.1.2), y.2)) hW.1 hY.1 hh hg2.2.1 hg2.1 hg2.2.2.1 hg2.2.2.2, Option.bind_some]
end AK
