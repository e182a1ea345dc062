def chg (A : AS) (p s l : Nat) (c : Nat → Int32) : AS := if hs l ≤ rr A p s then hm A p s l c else if kn A p s = 2 ∧ l + 3 ≤ rr A (tp A p s) (ts A p s) then mv2 A p s l c else mv3 A p s (fp A (l + 3) (nI p) (nI (pp A p s))) l c
theorem bh_cong {l : Nat} {c c' : Nat → Int32} (h : ∀ i, i < l → c i = c' i) : bh l c = bh l c' := by
  funext i
  unfold bh
  by_cases a : i = 0
  · rw [if_pos a, if_pos a]
  · rw [if_neg a, if_neg a]
    by_cases b : i < l + 1
    · rw [if_pos b, if_pos b, h _ (by omega)]
    · rw [if_neg b, if_neg b]
theorem bt_cong {k : Int32} {q t l : Nat} {c c' : Nat → Int32} (h : ∀ i, i < l → c i = c' i) : ∀ i, i < l + 3 → bt k q t c i = bt k q t c' i := by
  intro i hi
  unfold bt
  by_cases a0 : i = 0
  · rw [if_pos a0, if_pos a0]
  · rw [if_neg a0, if_neg a0]
    by_cases a1 : i = 1
    · rw [if_pos a1, if_pos a1]
    · rw [if_neg a1, if_neg a1]
      by_cases a2 : i = 2
      · rw [if_pos a2, if_pos a2]
      · rw [if_neg a2, if_neg a2, h _ (by omega)]
theorem wbA_cong {A : AS} {p s n : Nat} {b b' : Nat → Int32} (h : ∀ i, i < n → b i = b' i) : wbA A p s b n = wbA A p s b' n := by
  unfold wbA
  rw [wb_cong h]
theorem ins_cong {A : AS} {p l : Nat} {c c' : Nat → Int32} (h : ∀ i, i < l → c i = c' i) : ins A p l c = ins A p l c' := by
  unfold ins
  rw [bh_cong h]
theorem hm_cong {A : AS} {p s l : Nat} {c c' : Nat → Int32} (h : ∀ i, i < l → c i = c' i) : hm A p s l c = hm A p s l c' := by
  unfold hm
  rw [bh_cong h]
theorem chg_cong {A : AS} {p s l : Nat} {c c' : Nat → Int32} (h : ∀ i, i < l → c i = c' i) : chg A p s l c = chg A p s l c' := by
  have h3 : ∀ (k : Int32) (q t : Nat) (i : Nat), i < 3 → bt k q t c i = bt k q t c' i := fun k q t i hi => bt_cong (l := 0) (fun j hj => absurd hj (Nat.not_lt_zero j)) i (by omega)
  have eo : ∀ q, out A p s q l c = out A p s q l c' := by
    intro q
    unfold out
    rw [puts_cong (bt_cong h)]
  unfold chg mv2 mv3
  rw [hm_cong h, puts_cong (bt_cong h), eo, wbA_cong (h3 _ _ _), puts_cong (h3 _ _ _)]
section CG
variable {A : AS} {p s l : Nat}
theorem wy_3 (hA : WA A) (hI : RI A) (hk : kn A p s = 1 ∨ kn A p s = 2) (hl : l ≤ 60) (h1 : ¬ hs l ≤ rr A p s) (h2 : ¬ (kn A p s = 2 ∧ l + 3 ≤ rr A (tp A p s) (ts A p s))) (hw : wy A p s l ≠ M1) : wy A p s l = nI 3 ∧ fp A (l + 3) (nI p) (nI (pp A p s)) < 8 ∧ fp A (l + 3) (nI p) (nI (pp A p s)) ≤ A.1 ∧ room (A.2.1 (fp A (l + 3) (nI p) (nI (pp A p s)))) (l + 3) = true ∧ fp A (l + 3) (nI p) (nI (pp A p s)) ≠ p ∧ fp A (l + 3) (nI p) (nI (pp A p s)) ≠ pp A p s ∧ fpR A (l + 3) (nI p) (nI (pp A p s)) = nI (fp A (l + 3) (nI p) (nI (pp A p s))) := by
  have hh : has A p s := kn_has (by omega)
  have hP := pp_b hA hI hh
  unfold wy at hw ⊢
  rw [if_neg h1, if_neg h2] at hw ⊢
  by_cases c : fpR A (l + 3) (nI p) (nI (pp A p s)) = M1
  · rw [if_pos c] at hw
    exact absurd rfl hw
  · rw [if_neg c]
    have h8 : fp A (l + 3) (nI p) (nI (pp A p s)) < 8 := by
      refine Nat.lt_of_not_le fun q => c ?_
      unfold fpR
      rw [if_neg (by omega)]
    have hn := fp_ne hA hh.1 hP.1 h8
    exact ⟨rfl, h8, fp_le _ _ _ _, fp_room hA h8 (by omega), hn.1, hn.2, if_pos h8⟩
theorem chg_eff {c : Nat → Int32} (hA : WA A) (hI : RI A) (hk : kn A p s = 1 ∨ kn A p s = 2) (hl : l ≤ 60) (hw : wy A p s l ≠ M1) : WA (chg A p s l c) ∧ RI (chg A p s l c) := by
  unfold chg
  by_cases h1 : hs l ≤ rr A p s
  · rw [if_pos h1]; exact hm_eff hA hI hk hl h1
  · rw [if_neg h1]
    by_cases h2 : kn A p s = 2 ∧ l + 3 ≤ rr A (tp A p s) (ts A p s)
    · rw [if_pos h2]; exact mv2_eff hA hI h2.1 hl h2.2
    · rw [if_neg h2]
      obtain ⟨k1, k2, k3, k4, k5, k6, k7⟩ := wy_3 hA hI hk hl h1 h2 hw
      exact mv3_eff hA hI hk k2 k3 hl k4 k5 k6
theorem c_chg {u : TH} (hA : WA A) (hI : RI A) (hC : CA u.1.1 A) (hk : kn A p s = 1 ∨ kn A p s = 2) (hl : l ≤ 60) (hL : u.2.2.1.1 = nI l) (hw : wy A p s l ≠ M1) : ∃ v : TH, fX4_changeRow u (nI (100 * p + s)) (wy A p s l) = some v ∧ CA v.1.1 (chg A p s l u.2.2.1.2) ∧ v.2.1 = u.2.1 ∧ v.2.2.1 = u.2.2.1 ∧ v.2.2.2.2 = u.2.2.2.2 := by
  unfold chg
  by_cases h1 : hs l ≤ rr A p s
  · rw [if_pos h1, show wy A p s l = nI 1 from if_pos h1]; exact c_ch1 hA hI hC hk hl h1 hL
  · rw [if_neg h1]
    by_cases h2 : kn A p s = 2 ∧ l + 3 ≤ rr A (tp A p s) (ts A p s)
    · rw [if_pos h2, show wy A p s l = nI 2 by unfold wy; rw [if_neg h1, if_pos h2]]; exact c_ch2 hA hI hC h2.1 hl h2.2 hL
    · rw [if_neg h2]
      obtain ⟨k1, k2, k3, k4, k5, k6, k7⟩ := wy_3 hA hI hk hl h1 h2 hw
      rw [k1]
      exact c_ch3 hA hI hC hk k2 k3 hl hL k4 k5 k6 k7
end CG

