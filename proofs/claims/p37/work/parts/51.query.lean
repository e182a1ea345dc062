def rb (A : AS) (p s i : Nat) : Int32 := db A p s ((if db A p s 0 = nI 3 then 3 else 1) + i)
def rr (A : AS) (p s : Nat) : Nat := fr (A.2.1 p) + ln A p s
def wy (A : AS) (p s l : Nat) : Int32 := if hs l ≤ rr A p s then nI 1 else if kn A p s = 2 ∧ l + 3 ≤ rr A (tp A p s) (ts A p s) then nI 2 else if fpR A (l + 3) (nI p) (nI (pp A p s)) = M1 then M1 else nI 3
theorem d100 {p s : Nat} (h : s < 100) : (100 * p + s) / 100 = p ∧ (100 * p + s) % 100 = s := by omega
theorem pp_b {A : AS} (hA : WA A) (hI : RI A) {p s : Nat} (h : has A p s) : has A (pp A p s) (ps A p s) := by
  unfold pp ps
  by_cases c : kn A p s = 2
  · rw [if_pos c, if_pos c]; exact (nt' hA hI c).2.2.1
  · rw [if_neg c, if_neg c]; exact h
theorem r100 {p s : Nat} (hp : p < 1000) (h : s < 100) : nI (100 * p + s) / nI 100 = nI p ∧ nI (100 * p + s) - nI p * nI 100 = nI s := by
  have := e_rem100 hp h
  refine ⟨this.1, ?_⟩
  rw [← this.1]
  exact this.2
theorem rl_le {A : AS} (hA : WA A) (hI : RI A) {p s : Nat} (h : has A p s) (h2 : db A p s 0 ≠ nI 2) : rl A p s ≤ 60 ∧ (if db A p s 0 = nI 3 then 3 else 1) + rl A p s ≤ ln A p s := by
  have hb := has_b hA h
  have r := hI p s h
  unfold rl
  by_cases c3 : db A p s 0 = nI 3
  · have := (r.2.2.2.1 c3).1
    rw [if_pos c3, if_pos c3]; omega
  · have := r.2.2.1 h2 c3
    rw [if_neg c3, if_neg c3]
    by_cases c4 : db A p s 0 = nI 4
    · rw [if_pos c4]; omega
    · rw [if_neg c4]
      by_cases c5 : db A p s 0 = nI 5
      · rw [if_pos c5]; omega
      · rw [if_neg c5]; omega
theorem pp_n2 {A : AS} (hA : WA A) (hI : RI A) {p s : Nat} (h : has A p s) : db A (pp A p s) (ps A p s) 0 ≠ nI 2 := by
  unfold pp ps
  by_cases c : kn A p s = 2
  · rw [if_pos c, if_pos c, (nt' hA hI c).2.2.2.2.2.2.1]
    intro q
    rw [nI_eq (by omega) (by omega)] at q
    omega
  · rw [if_neg c, if_neg c]
    exact fun q => c (kn_2.mpr ⟨h, q⟩)
theorem fr_le {A : AS} (p : Nat) : fr (A.2.1 p) ≤ 126 := by unfold fr; omega
section QC
variable {u : TH} {A : AS}
theorem c_kind2 (hA : WA A) (hC : CA u.1.1 A) {p s : Nat} (hp : p < 8) (h : s < 100) : fX4_kind u (nI (100 * p + s)) = some (nI (kn A p s)) := by
  rw [c_kind hA hC (by omega), (d100 h).1, (d100 h).2]
theorem c_target (hA : WA A) (hC : CA u.1.1 A) {p s : Nat} (h : has A p s) : fX4_targetAt u (nI (100 * p + s)) = some (nI 100 * db A p s 1 + db A p s 2) := by
  have hb := has_b hA h
  unfold fX4_targetAt fX4_placeAt
  rw [c_page (by omega) (by omega), Option.bind_some, c_slot (by omega) (by omega), Option.bind_some]
  simp only [lit]
  rw [c_rb hA hC h (by omega), Option.bind_some, c_rb hA hC h (by omega), Option.bind_some]
  rfl
theorem c_tgt2 (hA : WA A) (hI : RI A) (hC : CA u.1.1 A) {p s : Nat} (h : kn A p s = 2) : fX4_targetAt u (nI (100 * p + s)) = some (nI (100 * tp A p s + ts A p s)) := by
  have q := nt' hA hI h
  rw [c_target hA hC q.1, q.2.2.2.2.1, q.2.2.2.2.2.1, pk_mul, nI_add]
theorem c_present (hA : WA A) (hI : RI A) (hC : CA u.1.1 A) {p s : Nat} (hp : p < 8) (h : s < 100) : fX4_presentPlace u (nI (100 * p + s)) = some (nI (100 * pp A p s + ps A p s)) := by
  have hk := kn_le A p s
  unfold fX4_presentPlace
  rw [c_kind2 hA hC hp h, Option.bind_some]
  simp (disch := omega) only [lit, e_eq]
  unfold pp ps
  by_cases c : kn A p s = 2
  · rw [if_pos c, if_pos c, if_pos c, c_tgt2 hA hI hC c]; rfl
  · rw [if_neg c, if_neg c, if_neg c]
theorem c_sizeAt (hA : WA A) (hC : CA u.1.1 A) {p s : Nat} (h : has A p s) : fX4_sizeAt u (nI (100 * p + s)) = some (nI (ln A p s)) := by
  have hb := has_b hA h
  unfold fX4_sizeAt
  rw [c_page (by omega) (by omega), Option.bind_some, c_slot (by omega) (by omega), Option.bind_some, c_size hb.1 (hC.2.1 p h.1) (hA.2.1 p hb.1).1 h.2.1]
  rfl
theorem c_roomTo (hA : WA A) (hC : CA u.1.1 A) {p s : Nat} (h : has A p s) : fX4_roomToReplace u (nI (100 * p + s)) = some (nI (rr A p s)) := by
  have hb := has_b hA h
  unfold fX4_roomToReplace
  rw [c_page (by omega) (by omega), Option.bind_some, c_free hb.1 (hA.2.1 p hb.1) (hC.2.1 p h.1), Option.bind_some, c_sizeAt hA hC h, Option.bind_some, nI_add]
  rfl
theorem c_lengthAt (hA : WA A) (hI : RI A) (hC : CA u.1.1 A) {p s : Nat} (h : has A p s) : fX4_lengthAt u (nI (100 * p + s)) = some (nI (rl A p s)) := by
  have hb := has_b hA h
  unfold fX4_lengthAt
  rw [c_sizeAt hA hC h, Option.bind_some, c_page (by omega) (by omega), Option.bind_some, c_slot (by omega) (by omega), Option.bind_some]
  simp only [lit]
  rw [c_rb hA hC h (by omega), Option.bind_some, e_sub (by omega), e_sub (by omega)]
  unfold rl
  by_cases c3 : db A p s 0 = nI 3
  · rw [if_pos c3, if_pos c3]
  · rw [if_neg c3, if_neg c3]
    by_cases c4 : db A p s 0 = nI 4
    · rw [if_pos c4, if_pos c4]
    · rw [if_neg c4, if_neg c4]
      by_cases c5 : db A p s 0 = nI 5
      · rw [if_pos c5, if_pos c5]
      · rw [if_neg c5, if_neg c5]
theorem c_rowByte (hA : WA A) (hI : RI A) (hC : CA u.1.1 A) {p s i : Nat} (h : has A p s) (h2 : db A p s 0 ≠ nI 2) (hi : i < rl A p s) : fX4_rowByteAt u (nI (100 * p + s)) (nI i) = some (rb A p s i) := by
  have hb := has_b hA h
  have hl := rl_le hA hI h h2
  unfold fX4_rowByteAt fX4_rowByteAt_j31
  rw [c_page (by omega) (by omega), Option.bind_some, c_slot (by omega) (by omega), Option.bind_some]
  simp only [lit]
  rw [c_rb hA hC h (by omega), Option.bind_some]
  unfold rb
  by_cases c3 : db A p s 0 = nI 3
  · rw [if_pos c3] at hl
    rw [if_pos c3, if_pos c3, nI_add, c_rb hA hC h (by omega)]; rfl
  · rw [if_neg c3] at hl
    rw [if_neg c3, if_neg c3, nI_add, c_rb hA hC h (by omega)]; rfl
theorem c_hs {l : Nat} (h : l ≤ 60) : fX4_homeSize (nI l) = some (nI (hs l)) := by
  unfold fX4_homeSize hs
  simp (disch := omega) only [lit, nI_add, e_lt]
  by_cases c : 2 ≤ l
  · rw [if_pos c]
    by_cases d : 3 < l + 1
    · rw [if_pos d]
    · rw [if_neg d, show l + 1 = 3 by omega]
  · rw [if_neg c, if_neg (by omega)]
theorem hs_b {l : Nat} (h : l ≤ 60) : 3 ≤ hs l ∧ hs l ≤ 61 ∧ l + 1 ≤ hs l := by
  unfold hs
  split <;> omega
theorem c_way (hA : WA A) (hI : RI A) (hC : CA u.1.1 A) {p s l : Nat} (h : has A p s) (hl : l ≤ 60) : fX4_wayToChange u (nI (100 * p + s)) (nI l) = some (wy A p s l) := by
  have hb := has_b hA h
  have hz := hs_b hl
  have hf := fr_le (A := A) p
  have hP := pp_b hA hI h
  have hPb := has_b hA hP
  have hk := kn_le A p s
  unfold fX4_wayToChange fX4_wayToChange_j43 fX4_movedSize
  rw [c_hs hl, Option.bind_some, c_roomTo hA hC h, Option.bind_some, c_present hA hI hC hb.1 (by omega), Option.bind_some]
  have hrr : rr A p s ≤ 260 := by unfold rr; omega
  simp only [m1d]
  simp (disch := omega) only [lit, e_lt, Option.bind_some, nI_add, e_eq, c_page]
  unfold wy
  by_cases c1 : hs l ≤ rr A p s
  · rw [if_pos c1, if_neg (by omega)]
  · rw [if_neg c1, if_pos (by omega), c_findPage hA hC (by omega), Option.bind_some]
    by_cases c2 : kn A p s = 2
    · have q := nt' hA hI c2
      have e1 : pp A p s = tp A p s := if_pos c2
      have e2 : ps A p s = ts A p s := if_pos c2
      rw [e1, e2] at hP hPb ⊢
      have hf2 := fr_le (A := A) (tp A p s)
      have hrr2 : rr A (tp A p s) (ts A p s) ≤ 260 := by unfold rr; omega
      rw [if_neg (by omega), c_roomTo hA hC hP, Option.bind_some]
      simp (disch := omega) only [e_lt]
      by_cases c3 : l + 3 ≤ rr A (tp A p s) (ts A p s)
      · rw [if_neg (by omega), if_pos ⟨c2, c3⟩]
      · rw [if_pos (by omega), if_neg (show ¬ (kn A p s = 2 ∧ l + 3 ≤ rr A (tp A p s) (ts A p s)) from fun w => c3 w.2)]
        by_cases c4 : fpR A (l + 3) (nI p) (nI (tp A p s)) = M1
        · rw [if_pos c4, if_pos c4]
        · rw [if_neg c4, if_neg c4]
    · have e1 : pp A p s = p := if_neg c2
      have e2 : ps A p s = s := if_neg c2
      rw [e1, e2]
      rw [if_pos rfl, if_neg (show ¬ (kn A p s = 2 ∧ l + 3 ≤ rr A (tp A p s) (ts A p s)) from fun w => c2 w.1)]
      by_cases c4 : fpR A (l + 3) (nI p) (nI p) = M1
      · rw [if_pos c4, if_pos c4]
      · rw [if_neg c4, if_neg c4]
end QC
section QM
end QM

