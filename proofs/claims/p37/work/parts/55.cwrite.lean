theorem c_empty {n : Nat} {b : TB} : fX0_empty n b = some (nI 0, b.2) := rfl
theorem c_add {b : TB} {n m : Nat} {x : Int32} {w : Nat → Int32} (hb : b.1 = nI m) (hm : m < n) (hn : n < 2 ^ 31) (hw : ∀ i, i < m → b.2 i = w i) (hx : w m = x) : ∃ r : Ar, fX0_add n b x = some (nI (m + 1), r) ∧ ∀ i, i < m + 1 → r i = w i := by
  refine ⟨_, add_ok hb hm hn, fun i hi => ?_⟩
  by_cases c : i = m
  · rw [c, updS, hx]
  · rw [updN c]; exact hw i (by omega)
theorem c_addAll {a b : TB} {n n2 m l : Nat} {w : Nat → Int32} (ha : a.1 = nI m) (hb : b.1 = nI l) (hl : l ≤ n2) (hm : m + l ≤ n) (hn : n < 4000) (hn2 : n2 < 4000) (hw : ∀ i, i < m → a.2 i = w i) (hx : ∀ i, i < l → b.2 i = w (m + i)) : ∃ r : Ar, fX0_addAll n n2 (a, b) = some ((nI (m + l), r), b) ∧ ∀ i, i < m + l → r i = w i := by
  unfold fX0_addAll
  have hloop : ∃ d, itr (fun a : (TB × TB) × Int32 => fX0_addAll_s2 n n2 a.1 a.2) FU ((a, b), (0 : Int32)) = some d ∧ ∃ r : Ar, d = ((nI (m + l), r), b) ∧ ∀ i, i < m + l → r i = w i := by
    refine itrI (fun j x => ∃ r : Ar, x = (((nI (m + j), r), b), nI j) ∧ ∀ i, i < m + j → r i = w i) _ l ⟨a.2, ?_, hw⟩ ?_ ?_ (by omega)
    · rw [Nat.add_zero, ← ha]; rfl
    · intro j x hj hx2
      obtain ⟨r, rfl, q⟩ := hx2
      obtain ⟨r2, k1, k2⟩ := c_add (b := (nI (m + j), r)) (n := n) (m := m + j) (w := w) (x := b.2 j) rfl (by omega) (by omega) q (hx j hj).symm
      refine ⟨_, ?_, r2, rfl, k2⟩
      show fX0_addAll_s2 n n2 ((nI (m + j), r), b) (nI j) = _
      unfold fX0_addAll_s2
      rw [at_ok hb hj hl (by omega)]
      simp (disch := omega) only [hb, lit, e_le, if_neg (show ¬ l ≤ j by omega), Option.bind_some, nI_add]
      rw [k1, Option.bind_some]; rfl
    · intro x hx2
      obtain ⟨r, rfl, q⟩ := hx2
      refine ⟨_, ?_, r, rfl, q⟩
      show fX0_addAll_s2 n n2 _ _ = _
      unfold fX0_addAll_s2
      simp (disch := omega) only [hb, e_le, Nat.le_refl, if_true]
  obtain ⟨d, e1, r, rfl, e2⟩ := hloop
  rw [e1]
  exact ⟨r, rfl, e2⟩
theorem c_take {a b : TB} {n n2 m x y : Nat} (hb : b.1 = nI m) (hm : m ≤ n2) (hxy : x ≤ y) (hy : y ≤ m) (hn : y - x ≤ n) (hn1 : n < 4000) (hn2 : n2 < 4000) : ∃ r : Ar, fX0_takePart n n2 (a, b) (nI x) (nI y) = some ((nI (y - x), r), b) ∧ ∀ i, i < y - x → r i = b.2 (x + i) := by
  unfold fX0_takePart
  rw [c_empty, Option.bind_some]
  have hloop : ∃ d, itr (fun a : (TB × TB) × Int32 × Int32 => fX0_takePart_s7 n n2 a.1 a.2.1 a.2.2) FU (((nI 0, a.2), b), nI y, nI x) = some d ∧ ∃ r : Ar, d = ((nI (y - x), r), b) ∧ ∀ i, i < y - x → r i = b.2 (x + i) := by
    refine itrI (fun j z => ∃ r : Ar, z = (((nI j, r), b), nI y, nI (x + j)) ∧ ∀ i, i < j → r i = b.2 (x + i)) _ (y - x) ⟨a.2, rfl, fun i hi => absurd hi (Nat.not_lt_zero i)⟩ ?_ ?_ (by omega)
    · intro j z hj hz
      obtain ⟨r, rfl, q⟩ := hz
      obtain ⟨r2, k1, k2⟩ := c_add (b := (nI j, r)) (n := n) (m := j) (w := fun i => b.2 (x + i)) (x := b.2 (x + j)) rfl (by omega) (by omega) q rfl
      refine ⟨_, ?_, r2, rfl, k2⟩
      show fX0_takePart_s7 n n2 ((nI j, r), b) (nI y) (nI (x + j)) = _
      unfold fX0_takePart_s7
      rw [at_ok hb (by omega) hm (by omega)]
      simp (disch := omega) only [lit, e_le, if_neg (show ¬ y ≤ x + j by omega), Option.bind_some, nI_add]
      rw [k1, Option.bind_some, Nat.add_assoc]
    · intro z hz
      obtain ⟨r, rfl, q⟩ := hz
      refine ⟨_, ?_, r, rfl, q⟩
      show fX0_takePart_s7 n n2 _ _ _ = _
      unfold fX0_takePart_s7
      simp (disch := omega) only [e_le, if_pos (show y ≤ x + (y - x) by omega)]
  obtain ⟨d, e1, r, rfl, e2⟩ := hloop
  rw [e1]
  exact ⟨r, rfl, e2⟩
section CW
variable {u : TH}
theorem c_wHome {l : Nat} (hl : l ≤ 60) (hL : u.2.2.1.1 = nI l) : ∃ r : Ar, fX4_writeHomeRecord u = some (u.1, u.2.1, u.2.2.1, (nI (hs l), r), u.2.2.2.2) ∧ ∀ i, i < hs l → r i = bh l u.2.2.1.2 i := by
  obtain ⟨w, hw⟩ : ∃ w, w = bh l u.2.2.1.2 := ⟨_, rfl⟩
  rw [← hw]
  have hb0 : w 0 = if l = 0 then nI 4 else if l = 1 then nI 5 else nI 1 := by rw [hw]; rfl
  have hbi : ∀ i, i < l → u.2.2.1.2 i = w (0 + 1 + i) := by
    intro i hi
    rw [hw]
    unfold bh
    rw [if_neg (by omega), if_pos (by omega), show 0 + 1 + i - 1 = i by omega]
  have hbz : ∀ i, l < i → w i = 0 := by
    intro i hi
    rw [hw]
    unfold bh
    rw [if_neg (by omega), if_neg (by omega)]
  have hz := hs_b hl
  obtain ⟨r1, k1, k2⟩ := c_add (b := (nI 0, u.2.2.2.1.2)) (n := 63) (m := 0) (w := w) (x := w 0) rfl (by omega) (by omega) (fun i hi => absurd hi (Nat.not_lt_zero i)) rfl
  obtain ⟨r2, k3, k4⟩ := c_addAll (a := (nI (0 + 1), r1)) (b := u.2.2.1) (n := 63) (n2 := 60) (m := 0 + 1) (l := l) (w := w) rfl hL hl (by omega) (by omega) (by omega) k2 hbi
  have hj : fX4_writeHomeRecord u = fX4_writeHomeRecord_j58 (u.1, u.2.1, u.2.2.1, (nI (0 + 1), r1), u.2.2.2.2) := by
    unfold fX4_writeHomeRecord
    rw [c_empty, Option.bind_some]
    simp (disch := omega) only [hL, lit, e_eq]
    rw [hb0] at k1
    by_cases c : l = 0
    · rw [if_pos c] at k1 ⊢
      rw [k1, Option.bind_some]
    · rw [if_neg c] at k1 ⊢
      by_cases d : l = 1
      · rw [if_pos d] at k1 ⊢
        rw [k1, Option.bind_some]
      · rw [if_neg d] at k1 ⊢
        rw [k1, Option.bind_some]
  rw [hj]
  unfold fX4_writeHomeRecord_j58
  rw [k3, Option.bind_some]
  have hloop : ∃ d, itr (fun a : TH × Int32 => fX4_writeHomeRecord_s77 a.1 a.2) FU ((u.1, u.2.1, u.2.2.1, (nI (0 + 1 + l), r2), u.2.2.2.2), nI (0 + 1 + l)) = some d ∧ ∃ r : Ar, d = (u.1, u.2.1, u.2.2.1, (nI (hs l), r), u.2.2.2.2) ∧ ∀ i, i < hs l → r i = w i := by
    refine itrI (fun j x => ∃ r : Ar, x = ((u.1, u.2.1, u.2.2.1, (nI (l + 1 + j), r), u.2.2.2.2), nI (l + 1 + j)) ∧ ∀ i, i < l + 1 + j → r i = w i) _ (hs l - (l + 1)) ⟨r2, ?_, ?_⟩ ?_ ?_ (by omega)
    · rw [show 0 + 1 + l = l + 1 + 0 by omega]
    · rw [show l + 1 + 0 = 0 + 1 + l by omega]; exact k4
    · intro j x hj2 hx
      obtain ⟨r, rfl, q⟩ := hx
      have h3 : l + 1 + j < 3 := by
        unfold hs at hj2
        split at hj2 <;> omega
      obtain ⟨r3, s1, s2⟩ := c_add (b := (nI (l + 1 + j), r)) (n := 63) (m := l + 1 + j) (w := w) (x := 0) rfl (by omega) (by omega) q (hbz _ (by omega))
      refine ⟨_, ?_, r3, rfl, s2⟩
      show fX4_writeHomeRecord_s77 (u.1, u.2.1, u.2.2.1, (nI (l + 1 + j), r), u.2.2.2.2) (nI (l + 1 + j)) = _
      unfold fX4_writeHomeRecord_s77
      rw [s1]
      simp (disch := omega) only [lit, e_le, if_neg (show ¬ 3 ≤ l + 1 + j by omega), Option.bind_some, nI_add]
      rfl
    · intro x hx
      obtain ⟨r, rfl, q⟩ := hx
      rw [show l + 1 + (hs l - (l + 1)) = hs l by omega] at q ⊢
      refine ⟨_, ?_, r, rfl, q⟩
      show fX4_writeHomeRecord_s77 _ _ = _
      unfold fX4_writeHomeRecord_s77
      simp (disch := omega) only [lit, e_le, if_pos (show 3 ≤ hs l by omega)]
  obtain ⟨d, e1, r, rfl, e2⟩ := hloop
  rw [e1]
  exact ⟨r, rfl, e2⟩
theorem c_wHead {k q t : Nat} (hq : q < 100) (ht : t < 100) (c : Nat → Int32) : ∃ r : Ar, fX4_writeHead u (nI k) (nI (100 * q + t)) = some (u.1, u.2.1, u.2.2.1, (nI 3, r), u.2.2.2.2) ∧ ∀ i, i < 3 → r i = bt (nI k) q t c i := by
  obtain ⟨r1, k1, k2⟩ := c_add (b := (nI 0, u.2.2.2.1.2)) (n := 63) (m := 0) (w := bt (nI k) q t c) (x := nI k) rfl (by omega) (by omega) (fun i hi => absurd hi (Nat.not_lt_zero i)) rfl
  obtain ⟨r2, k3, k4⟩ := c_add (b := (nI (0 + 1), r1)) (n := 63) (m := 0 + 1) (w := bt (nI k) q t c) (x := nI q) rfl (by omega) (by omega) k2 rfl
  obtain ⟨r3, k5, k6⟩ := c_add (b := (nI (0 + 1 + 1), r2)) (n := 63) (m := 0 + 1 + 1) (w := bt (nI k) q t c) (x := nI t) rfl (by omega) (by omega) k4 rfl
  refine ⟨r3, ?_, k6⟩
  unfold fX4_writeHead
  rw [c_empty, Option.bind_some, k1, Option.bind_some, c_page (by omega) ht, Option.bind_some, k3, Option.bind_some, c_slot (by omega) ht, Option.bind_some, k5, Option.bind_some]
theorem c_wMoved {l q t : Nat} (hl : l ≤ 60) (hL : u.2.2.1.1 = nI l) (hq : q < 100) (ht : t < 100) : ∃ r : Ar, fX4_writeMovedRecord u (nI (100 * q + t)) = some (u.1, u.2.1, u.2.2.1, (nI (l + 3), r), u.2.2.2.2) ∧ ∀ i, i < l + 3 → r i = bt (nI 3) q t u.2.2.1.2 i := by
  obtain ⟨r1, k1, k2⟩ := c_wHead (u := u) (k := 3) hq ht u.2.2.1.2
  obtain ⟨r2, k3, k4⟩ := c_addAll (a := (nI 3, r1)) (b := u.2.2.1) (n := 63) (n2 := 60) (m := 3) (l := l) (w := bt (nI 3) q t u.2.2.1.2) rfl hL hl (by omega) (by omega) (by omega) k2 (fun i hi => by
    unfold bt
    rw [if_neg (by omega), if_neg (by omega), if_neg (by omega), show 3 + i - 3 = i by omega])
  rw [Nat.add_comm 3 l] at k3 k4
  refine ⟨r2, ?_, k4⟩
  unfold fX4_writeMovedRecord
  simp only [lit]
  rw [k1, Option.bind_some, k3, Option.bind_some]
end CW

