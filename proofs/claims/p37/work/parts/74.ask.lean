section AQ
variable {A : AS} {u : TH} {p s : Nat}
theorem c_isr (hA : WA A) (hC : CA u.1.1 A) {x : Nat} (hx : x < 2 ^ 31) : fX4_isRow u (nI x) = some (if isr A (x / 100) (x % 100) then (1 : Int32) else 0) :=
  c_isRow (kn_le _ _ _) (c_kind hA hC hx)
theorem c_req (hA : WA A) (hC : CA u.1.1 A) (h : isr A p s) : fX4_requireRow u (nI (100 * p + s)) = some () := by
  have hb := has_b hA (isr_has h)
  unfold fX4_requireRow
  rw [c_isr hA hC (by omega), (d100 (show s < 100 by omega)).1, (d100 (show s < 100 by omega)).2, if_pos h, Option.bind_some, if_neg (by decide)]
theorem rln_le (hA : WA A) (hI : RI A) (h : isr A p s) : rln A p s ≤ 60 :=
  (rl_le hA hI (pp_b hA hI (isr_has h)) (pp_n2 hA hI (isr_has h))).1
theorem c_length (hA : WA A) (hI : RI A) (hC : CA u.1.1 A) (h : isr A p s) : fX4_length u (nI (100 * p + s)) = some (nI (rln A p s)) := by
  have hh := isr_has h
  have hb := has_b hA hh
  unfold fX4_length
  rw [c_req hA hC h, Option.bind_some, c_present hA hI hC hb.1 (by omega), Option.bind_some, c_lengthAt hA hI hC (pp_b hA hI hh), Option.bind_some]
  rfl
theorem c_byteOf (hA : WA A) (hI : RI A) (hC : CA u.1.1 A) (h : isr A p s) {i : Nat} (hi : i < rln A p s) : fX4_byteOf u (nI (100 * p + s)) (nI i) = some (rby A p s i) := by
  have hh := isr_has h
  have hb := has_b hA hh
  have hl := rln_le hA hI h
  unfold rln at hi hl
  unfold fX4_byteOf
  rw [c_req hA hC h, Option.bind_some, c_present hA hI hC hb.1 (by omega), Option.bind_some, if_neg (nI_pos (by omega)), c_lengthAt hA hI hC (pp_b hA hI hh), Option.bind_some, if_pos (nI_lt hi (by omega)), c_rowByte hA hI hC (pp_b hA hI hh) (pp_n2 hA hI hh) hi, Option.bind_some]
  rfl
theorem c_placeOf (hA : WA A) (hI : RI A) (hC : CA u.1.1 A) (h : isr A p s) : fX4_placeOf u (nI (100 * p + s)) = some (nI (100 * pp A p s + ps A p s)) := by
  have hb := has_b hA (isr_has h)
  unfold fX4_placeOf
  rw [c_req hA hC h, Option.bind_some, c_present hA hI hC hb.1 (by omega), Option.bind_some]
theorem c_pages (hC : CA u.1.1 A) : fX4_pages u = some (nI A.1) := congrArg some (c_pc hC)
theorem c_reqP (hA : WA A) (hC : CA u.1.1 A) (hp : p < A.1) : fX4_requirePage u (nI p) = some () := by
  have hn := hA.1
  unfold fX4_requirePage
  rw [if_neg (nI_pos (by omega)), c_pc hC, if_pos (nI_lt hp (by omega))]
theorem c_freeP (hA : WA A) (hC : CA u.1.1 A) (hp : p < A.1) : fX4_free u (nI p) = some (nI (fr (A.2.1 p))) := by
  have hn := hA.1
  unfold fX4_free
  rw [c_reqP hA hC hp, Option.bind_some, c_free (by omega) (hA.2.1 p (by omega)) (hC.2.1 p hp), Option.bind_some]
theorem c_gapP (hA : WA A) (hC : CA u.1.1 A) (hp : p < A.1) : fX4_gap u (nI p) = some (nI (gp A p)) := by
  have hn := hA.1
  unfold fX4_gap
  rw [c_reqP hA hC hp, Option.bind_some, c_count (by omega) (hC.2.1 p hp), Option.bind_some, c_gap hA hC hp, Option.bind_some]
theorem c_reqL {l : Nat} (h : l ≤ 60) : fX4_requireLength (nI l) = some () := by
  unfold fX4_requireLength
  rw [if_neg (nI_pos (by omega)), if_pos (show nI l ≤ (60 : Int32) from nI_le (b := 60) h (by omega))]
def gr (A : AS) (p s : Nat) : Nat := if rr A p s - 1 < 60 then rr A p s - 1 else 60
theorem c_great (hA : WA A) (hC : CA u.1.1 A) (h : isr A p s) : fX4_greatestAtHome u (nI (100 * p + s)) = some (nI (gr A p s)) := by
  have hh := isr_has h
  have hb := has_b hA hh
  have hf := fr_le (A := A) p
  have hrr : 3 ≤ rr A p s ∧ rr A p s ≤ 260 := by unfold rr; omega
  unfold fX4_greatestAtHome gr
  rw [c_req hA hC h, Option.bind_some, c_roomTo hA hC hh, Option.bind_some]
  simp only [lit]
  rw [e_sub (by omega)]
  simp (disch := omega) only [e_lt]
  by_cases c : rr A p s - 1 < 60
  · rw [if_pos c, if_pos c]
  · rw [if_neg c, if_neg c]
def dueR (A : AS) (l : Nat) : Int32 := if fp A (hs l) M1 M1 < 8 then nI (100 * fp A (hs l) M1 M1 + fe (A.2.1 (fp A (hs l) M1 M1))) else M1
theorem c_ifIns (hA : WA A) (hC : CA u.1.1 A) {l : Nat} (hl : l ≤ 60) : fX4_ifInserted u (nI l) = some (dueR A l) := by
  have hn := hA.1
  have hz := hs_b hl
  have hle := fp_le A (hs l) M1 M1
  unfold fX4_ifInserted dueR
  rw [c_reqL hl, Option.bind_some, c_hs hl, Option.bind_some]
  simp only [m1e]
  rw [c_findPage hA hC (by omega), Option.bind_some]
  by_cases c : fp A (hs l) M1 M1 < 8
  · rw [fpR_yes c, if_neg (nz (by omega)), if_pos c]
    generalize hq : fp A (hs l) M1 M1 = q at *
    have hW2 := hA.2.1 q c
    have cs : fX2_slotToUse u.1 (nI q) = some (nI (fe (A.2.1 q))) := by
      by_cases d : q < A.1
      · exact c_slotToUse' c hW2 (hC.2.1 q d)
      · have h0 := hC.2.2 q (by omega) c 0 (by omega)
        rw [hA.2.2 q (by omega) c]
        unfold fX2_slotToUse
        rw [c_slotCount c, Option.bind_some]
        rw [Nat.add_zero] at h0
        rw [h0]
        refine itrB (fun i => (nI q, (0 : Int32), nI i)) (1, ((0 : Int32), (0 : Int32))) 0 rfl (fun j hj => absurd hj (Nat.not_lt_zero j)) ?_ (by omega) ?_
        · rfl
        · rfl
    rw [cs, Option.bind_some, c_place, Option.bind_some]
  · rw [fpR_no c, if_pos rfl, if_neg c]
theorem c_ifUpd (hA : WA A) (hI : RI A) (hC : CA u.1.1 A) (h : isr A p s) {l : Nat} (hl : l ≤ 60) : fX4_ifUpdated u (nI (100 * p + s)) (nI l) = some (wy A p s l) := by
  unfold fX4_ifUpdated
  rw [c_req hA hC h, Option.bind_some, c_reqL hl, Option.bind_some, c_way hA hI hC (isr_has h) hl, Option.bind_some]
theorem c_cap (hA : WA A) (hC : CA u.1.1 A) {l : Nat} (hl : l ≤ 60) : fX4_capacity u (nI l) = some (nI (csum A (hs l) 8)) := by
  have hz := hs_b hl
  unfold fX4_capacity
  rw [c_reqL hl, Option.bind_some, c_hs hl, Option.bind_some]
  refine itrB (fun p => (nI (hs l), nI (csum A (hs l) p), nI p)) (nI (csum A (hs l) 8)) 8 rfl ?_ ?_ (by omega) rfl
  · intro p hp
    show fX4_capacity_s14 u _ _ _ = some (.inl (nI (hs l), nI (csum A (hs l) p + cpk (A.2.1 p) (hs l)), nI (p + 1)))
    unfold fX4_capacity_s14
    rw [if_neg (by rw [show (8 : Int32) = nI 8 from rfl, e_le (by omega) (by omega)]; omega), c_fit2 hA hC hp hz.2.1, Option.bind_some]
    simp only [lit, nI_add]
  · show fX4_capacity_s14 u _ _ (nI 8) = _
    unfold fX4_capacity_s14
    rw [if_pos (by decide)]
theorem c_kindM (hA : WA A) : fX4_kind u M1 = some 0 := by
  unfold fX4_kind
  rw [if_neg (by decide)]
end AQ
