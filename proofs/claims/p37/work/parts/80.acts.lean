theorem msk (x : Int32) : ¬ (x &&& (2147483647 : Int32)) < 0 := by
  rw [Int32.lt_iff_toInt_lt]
  have h : (x &&& (2147483647 : Int32)).toBitVec.msb = false := by
    rw [Int32.toBitVec_and, BitVec.msb_and]
    have h2 : ((2147483647 : Int32).toBitVec).msb = false := by decide
    rw [h2, Bool.and_false]
  rw [BitVec.msb_eq_toInt] at h
  exact of_decide_eq_false h
theorem c_up (x : Int32) {d : Nat} (h0 : 0 < d) (hd : d < 2 ^ 31) : ∃ r, r < d ∧ fL_up x (nI d) = some (nI r) := by
  obtain ⟨k, hk, e⟩ := nI_of (msk x)
  refine ⟨k % d, Nat.mod_lt _ h0, ?_⟩
  unfold fL_up
  rw [if_neg (show ¬ nI d = 0 by rw [show (0 : Int32) = nI 0 from rfl, nI_eq (by omega) (by omega)]; omega), e, pk_rem hk h0 hd]
def RO (A : AS) (K : Nat → AS) (n : Nat) (x : THS) : Option AS → Prop
  | none => ∃ v, WX x A K n 0 v
  | some A' => ∃ v, WX x A' (svK K n A) (svN n) 0 v
theorem WX_v0 {x : THS} {A : AS} {K : Nat → AS} {n : Nat} {v : Int32} (h : WX x A K n 0 v) (w : Int32) : WX x A K n 0 w :=
  ⟨h.1, h.2.1, h.2.2.1, h.2.2.2.1, h.2.2.2.2.1, h.2.2.2.2.2.1, fun i hi => absurd hi (Nat.not_lt_zero i), h.2.2.2.2.2.2.2⟩
section AC
variable {A : AS} {p s m : Nat} {v x2 : Int32}
theorem a_ins (hJ : WJ A) (hm : m ≤ 60) (x4 : Int32) {k : Nat} (hk : k < 6) : ∃ o, ∀ (x : THS) (K : Nat → AS) (n : Nat), WX x A K n m v → ∃ x', fL_acts_j96 x x2 (nI m) x4 (nI k) (nI m) = some (1, x') ∧ RO A K n x' o := by
  have hn := hJ.1.1
  have hz := hs_b hm
  have hnr := nrows_le A
  have hk6 : ¬ (6 : Int32) ≤ nI k := by rw [show (6 : Int32) = nI 6 from rfl, e_le (by omega) (by omega)]; omega
  by_cases c : fp A (hs m) M1 M1 < 8
  · refine ⟨some (ins A (fp A (hs m) M1 M1) m (fun _ => v)), fun x K n h => ?_⟩
    have hle := fp_le A (hs m) M1 M1
    have hr := fp_room hJ.1 c (show hs m ≤ 124 by omega)
    have hf := fe_e hJ.1 c hr
    obtain ⟨x', e1, h2⟩ := s_insert h c
    have hV := ins_v (c := fun _ => v) hJ.1 hJ.2.1 hJ.2.2 c hle hm hr
    have hcap := cap_ins (c := fun _ => v) hJ.1 c hm hr
    have hdue : dueR A m = nI (100 * fp A (hs m) M1 M1 + fe (A.2.1 (fp A (hs m) M1 M1))) := if_pos c
    generalize fp A (hs m) M1 M1 = q at *
    generalize ins A q m (fun _ => v) = A' at *
    generalize fe (A.2.1 q) = t at *
    have hJ2 := h2.1
    have hC := h.2.2.2.2.1
    have hC2 := h2.2.2.2.2.1
    have hi2 : isr A' q t := Or.inl hV.2.2.1
    have hst : st A' (nI (100 * q + t)) = st A M1 := (st_but c (show t < 100 by omega) (fun a b w => (hV.2.1 a b w).c) (Or.inl ⟨rfl, hV.2.2.2.2⟩) (Or.inr rfl)).symm
    have hrows := nrows_add c (show t < 100 by omega) (fun a b w => (hV.2.1 a b w).1) hV.2.2.2.2 hi2
    have hlen := c_length hJ2.1 hJ2.2.1 hC2 hi2
    rw [hV.2.2.2.1] at hlen
    refine ⟨x', ?_, 0, WX_v0 h2 0⟩
    unfold fL_acts_j96
    simp only [m1e]
    rw [c_stored hJ.1 hJ.2.1 hC, Option.bind_some, c_rows2 hJ.1 hC, Option.bind_some, if_neg hk6, c_ifIns hJ.1 hC hm, Option.bind_some, c_cap hJ.1 hC hm, Option.bind_some, hdue, if_pos (nI_pos' (by omega)), e1, Option.bind_some, if_pos rfl, c_cap hJ2.1 hC2 hm, Option.bind_some, hcap, nI_pred, if_pos rfl, c_stored hJ2.1 hJ2.2.1 hC2, Option.bind_some, hst, if_pos (lg_refl _), hlen, Option.bind_some, if_pos rfl, c_rows2 hJ2.1 hC2, Option.bind_some, hrows, if_pos (nI_1 (nrows A)).symm]
  · refine ⟨none, fun x K n h => ?_⟩
    obtain ⟨y, e1, h2⟩ := s_clear h
    have hC := h.2.2.2.2.1
    have hdue : dueR A m = M1 := if_neg c
    refine ⟨(y, x.2), ?_, v, h2⟩
    unfold fL_acts_j96
    simp only [m1e]
    rw [c_stored hJ.1 hJ.2.1 hC, Option.bind_some, c_rows2 hJ.1 hC, Option.bind_some, if_neg hk6, c_ifIns hJ.1 hC hm, Option.bind_some, c_cap hJ.1 hC hm, Option.bind_some, hdue, if_neg (show ¬ (0 : Int32) ≤ M1 by decide), cap_none hJ.1 c, if_pos (show nI 0 = (0 : Int32) from rfl), e1, Option.bind_some, if_pos rfl, if_pos trivial]
theorem wy_M1 (h : wy A p s m = M1) : ¬ hs m ≤ rr A p s := by
  intro w
  have e : wy A p s m = nI 1 := if_pos w
  rw [e] at h
  exact absurd h (by decide)
theorem wy_123 (h : wy A p s m ≠ M1) : wy A p s m = nI 1 ∨ wy A p s m = nI 2 ∨ wy A p s m = nI 3 := by
  unfold wy at h ⊢
  by_cases h1 : hs m ≤ rr A p s
  · rw [if_pos h1]; exact Or.inl rfl
  · rw [if_neg h1] at h ⊢
    by_cases h2 : kn A p s = 2 ∧ m + 3 ≤ rr A (tp A p s) (ts A p s)
    · rw [if_pos h2]; exact Or.inr (Or.inl rfl)
    · rw [if_neg h2] at h ⊢
      by_cases h3 : fpR A (m + 3) (nI p) (nI (pp A p s)) = M1
      · rw [if_pos h3] at h; exact absurd rfl h
      · rw [if_neg h3]; exact Or.inr (Or.inr rfl)
theorem gr_le (A : AS) (p s : Nat) : gr A p s ≤ 60 := by
  unfold gr
  split <;> omega
theorem a_upd (hJ : WJ A) (hm : m ≤ 60) (hr : isr A p s) {k : Nat} (hk : 6 ≤ k) (hk2 : k < 12) : ∃ o, ∀ (x : THS) (K : Nat → AS) (n : Nat), WX x A K n m v → ∃ x', fL_acts_j96 x x2 (nI m) (nI (100 * p + s)) (nI k) (nI m) = some (1, x') ∧ RO A K n x' o := by
  have hb := has_b hJ.1 (isr_has hr)
  have hg := gr_le A p s
  have hgi := gr_iff hJ.1 hr hm
  have hk6 : (6 : Int32) ≤ nI k := by rw [show (6 : Int32) = nI 6 from rfl, e_le (by omega) (by omega)]; omega
  have hk12 : ¬ (12 : Int32) ≤ nI k := by rw [show (12 : Int32) = nI 12 from rfl, e_le (by omega) (by omega)]; omega
  have hlt : (nI (gr A p s) < nI m) = ¬ hs m ≤ rr A p s := by
    rw [e_lt (by omega) (by omega), ← hgi]
    exact propext ⟨fun w => by omega, fun w => by omega⟩
  by_cases c : wy A p s m = M1
  · refine ⟨none, fun x K n h => ?_⟩
    obtain ⟨y, e1, h2⟩ := s_clear h
    have hC := h.2.2.2.2.1
    refine ⟨(y, x.2), ?_, v, h2⟩
    unfold fL_acts_j96 fL_acts_j261
    simp only [m1e]
    rw [c_stored hJ.1 hJ.2.1 hC, Option.bind_some, c_rows2 hJ.1 hC, Option.bind_some, if_pos hk6, c_stored hJ.1 hJ.2.1 hC, Option.bind_some, if_neg hk12, c_ifUpd hJ.1 hJ.2.1 hC hr hm, Option.bind_some, c_great hJ.1 hC hr, Option.bind_some, if_pos (by rw [hlt]; exact wy_M1 c), c, if_neg (show ¬ (0 : Int32) ≤ M1 by decide), if_pos trivial, e1, Option.bind_some, if_pos rfl]
  · refine ⟨some (chg A p s m (fun _ => v)), fun x K n h => ?_⟩
    obtain ⟨x', e1, h2⟩ := s_update h hr c
    have hV := chg_v (c := fun _ => v) hJ.1 hJ.2.1 hJ.2.2 hr hm c
    have hgr := chg_gr (c := fun _ => v) hJ.1 hJ.2.1 hr hm c
    have hJ2 := h2.1
    have hC := h.2.2.2.2.1
    have hC2 := h2.2.2.2.2.1
    generalize chg A p s m (fun _ => v) = A' at *
    have hi2 : isr A' p s := by
      show kn A' p s = 1 ∨ kn A' p s = 2
      rw [hV.2.2.1]
      split
      · exact Or.inl rfl
      · exact Or.inr rfl
    have hst : st A' (nI (100 * p + s)) = st A (nI (100 * p + s)) := (st_but hb.1 (show s < 100 by omega) (fun a b w => (hV.2.1 a b w).c) (Or.inr rfl) (Or.inr rfl)).symm
    have hlen := c_length hJ2.1 hJ2.2.1 hC2 hi2
    rw [hV.2.2.2] at hlen
    have hkd := c_kind2 hJ2.1 hC2 hb.1 (show s < 100 by omega)
    rw [hV.2.2.1] at hkd
    have hg2 := gr_le A' p s
    have hst1 := c_stored hJ2.1 hJ2.2.1 hC2 (nI (100 * p + s))
    rw [hst] at hst1
    have hgt := c_great hJ2.1 hC2 hi2
    have hpos : (0 : Int32) ≤ wy A p s m := by rcases wy_123 c with e | e | e <;> rw [e] <;> decide
    refine ⟨x', ?_, 0, WX_v0 h2 0⟩
    unfold fL_acts_j96 fL_acts_j261 fL_acts_j311 fL_acts_j331 fL_acts_j372
    simp only [m1e]
    rw [c_stored hJ.1 hJ.2.1 hC, Option.bind_some, c_rows2 hJ.1 hC, Option.bind_some, if_pos hk6, c_stored hJ.1 hJ.2.1 hC, Option.bind_some, if_neg hk12, c_ifUpd hJ.1 hJ.2.1 hC hr hm, Option.bind_some, c_great hJ.1 hC hr, Option.bind_some]
    simp only [hlt, if_pos hpos, e1, Option.bind_some, if_true]
    by_cases d : hs m ≤ rr A p s
    · have w1 : wy A p s m = nI 1 := if_pos d
      rw [if_pos d] at hkd hgr
      rw [if_neg (fun w => w d), w1, if_pos (show nI 1 = (1 : Int32) from rfl), hkd, Option.bind_some, if_pos (show nI 1 = (1 : Int32) from rfl), if_pos (show nI 1 = (1 : Int32) from rfl), hst1, Option.bind_some, if_pos (lg_refl _), hlen, Option.bind_some, if_pos rfl, hgt, Option.bind_some, if_neg (show ¬ (1 : Int32) = 0 by decide), if_neg (show ¬ nI (gr A' p s) < nI m by rw [e_lt (by omega) (by omega)]; omega)]
    · have w1 : ¬ wy A p s m = (1 : Int32) := fun w => d (by rw [← wy_1]; exact w)
      rw [if_neg d] at hkd hgr
      rw [if_pos d, if_neg w1, hkd, Option.bind_some, if_neg w1, if_pos (show nI 2 = (2 : Int32) from rfl), hst1, Option.bind_some, if_pos (lg_refl _), hlen, Option.bind_some, if_pos rfl, hgt, Option.bind_some, if_neg (show ¬ nI (gr A' p s) < (1 : Int32) by rw [show (1 : Int32) = nI 1 from rfl, e_lt (by omega) (by omega)]; omega)]
theorem a_del (hJ : WJ A) (hr : isr A p s) (x3 : Int32) : ∃ o, ∀ (x : THS) (K : Nat → AS) (n : Nat) (v : Int32), WX x A K n 0 v → ∃ x', fL_acts_j96 x x2 x3 (nI (100 * p + s)) (nI 12) 0 = some (1, x') ∧ RO A K n x' o := by
  have hb := has_b hJ.1 (isr_has hr)
  refine ⟨some (del A p s), fun x K n v h => ?_⟩
  obtain ⟨x', e1, h2⟩ := s_delete h hr
  have hV := del_v hJ.1 hJ.2.1 hJ.2.2 hr
  have hJ2 := h2.1
  have hC := h.2.2.2.2.1
  have hC2 := h2.2.2.2.2.1
  have hl := rln_le hJ.1 hJ.2.1 hr
  generalize del A p s = A' at *
  have hst : st A' M1 = st A (nI (100 * p + s)) := (st_but hb.1 (show s < 100 by omega) (fun a b w => (hV.2.1 a b w).c) (Or.inr rfl) (Or.inl ⟨rfl, hV.2.2⟩)).symm
  have hrows := nrows_add (A := A') (A' := A) hb.1 (show s < 100 by omega) (fun a b w => (hV.2.1 a b w).1.symm) hV.2.2 hr
  refine ⟨x', ?_, v, h2⟩
  unfold fL_acts_j96
  simp only [m1e]
  rw [c_stored hJ.1 hJ.2.1 hC, Option.bind_some, c_rows2 hJ.1 hC, Option.bind_some, if_pos (show (6 : Int32) ≤ nI 12 by decide), c_stored hJ.1 hJ.2.1 hC, Option.bind_some, if_pos (show (12 : Int32) ≤ nI 12 by decide), if_pos (show nI 12 = (12 : Int32) from rfl), e1, Option.bind_some, if_neg (nI_pos (by omega)), c_stored hJ2.1 hJ2.2.1 hC2, Option.bind_some, hst, if_pos (lg_refl _), c_rows2 hJ2.1 hC2, Option.bind_some, hrows, if_pos (nI_pred _).symm]
theorem a_bring (hJ : WJ A) (x3 x4 : Int32) : ∃ o, ∀ (x : THS) (K : Nat → AS) (n : Nat) (v : Int32), WX x A K n 0 v → ∃ x', fL_acts_j96 x x2 x3 x4 (nI 13) 0 = some (1, x') ∧ RO A K n x' o := by
  have hnn := nnotes_le A
  have hle := nnotes_bal hJ.1 hJ.2.1 hJ.2.2 (100 * A.1)
  refine ⟨some (bal A (100 * A.1)).1, fun x K n v h => ?_⟩
  obtain ⟨x', e1, h2⟩ := s_bring h
  have hV := bal_v hJ.1 hJ.2.1 hJ.2.2 (100 * A.1)
  have hJ2 := h2.1
  have hC := h.2.2.2.2.1
  have hC2 := h2.2.2.2.2.1
  generalize (bal A (100 * A.1)).1 = A' at *
  generalize (bal A (100 * A.1)).2 = k at *
  have hst : st A' M1 = st A M1 := (st_all hV.2).symm
  have e9 : nI (nnotes A') = nI (nnotes A) - nI k := by
    rw [e_sub (by omega)]
    exact congrArg nI (by omega)
  refine ⟨x', ?_, v, h2⟩
  unfold fL_acts_j96
  simp only [m1e]
  rw [c_stored hJ.1 hJ.2.1 hC, Option.bind_some, c_rows2 hJ.1 hC, Option.bind_some, if_pos (show (6 : Int32) ≤ nI 13 by decide), c_stored hJ.1 hJ.2.1 hC, Option.bind_some, if_pos (show (12 : Int32) ≤ nI 13 by decide), if_neg (show ¬ nI 13 = (12 : Int32) by decide), if_pos (show nI 13 = (13 : Int32) from rfl), c_notes2 hJ.1 hC, Option.bind_some, e1, Option.bind_some, if_neg (nI_pos (by omega)), if_neg (show ¬ nI (nnotes A) < nI k by rw [e_lt (by omega) (by omega)]; omega), c_notes2 hJ2.1 hC2, Option.bind_some, if_pos e9, c_stored hJ2.1 hJ2.2.1 hC2, Option.bind_some, hst, if_pos (lg_refl _)]
theorem a_cpt (hJ : WJ A) (hpos : 0 < A.1) (x3 x4 : Int32) {k : Nat} (hk : 14 ≤ k) (hk2 : k < 16) : ∃ o, ∀ (x : THS) (K : Nat → AS) (n : Nat) (v : Int32), WX x A K n 0 v → ∃ x', fL_acts_j96 x x2 x3 x4 (nI k) 0 = some (1, x') ∧ RO A K n x' o := by
  have hn := hJ.1.1
  obtain ⟨q, hq, eu⟩ := c_up x2 hpos (by omega)
  have hmv := mvc_le (A.2.1 q) (A.2.1 q).1
  have h31 := (hJ.1.2.1 q (by omega)).1
  refine ⟨some (cpt A q), fun x K n v h => ?_⟩
  obtain ⟨x', e1, h2⟩ := s_compact h hq
  have hV := cpt_v hJ.1 hJ.2.1 hJ.2.2 hq
  have hJ2 := h2.1
  have hC := h.2.2.2.2.1
  have hC2 := h2.2.2.2.2.1
  have hst : st (cpt A q) M1 = st A M1 := (st_all (fun a b => (hV.2 a b).c)).symm
  have hq2 : q < (cpt A q).1 := hq
  have hg := c_gapP hJ2.1 hC2 hq2
  rw [gp_cpt hJ.1 hq] at hg
  have hf := c_freeP hJ2.1 hC2 hq2
  rw [fr_cpt] at hf
  refine ⟨x', ?_, v, h2⟩
  unfold fL_acts_j96
  simp only [m1e]
  rw [c_stored hJ.1 hJ.2.1 hC, Option.bind_some, c_rows2 hJ.1 hC, Option.bind_some, if_pos (show (6 : Int32) ≤ nI k by rw [show (6 : Int32) = nI 6 from rfl, e_le (by omega) (by omega)]; omega), c_stored hJ.1 hJ.2.1 hC, Option.bind_some, if_pos (show (12 : Int32) ≤ nI k by rw [show (12 : Int32) = nI 12 from rfl, e_le (by omega) (by omega)]; omega), if_neg (show ¬ nI k = (12 : Int32) by rw [show (12 : Int32) = nI 12 from rfl, e_eq (by omega) (by omega)]; omega), if_neg (show ¬ nI k = (13 : Int32) by rw [show (13 : Int32) = nI 13 from rfl, e_eq (by omega) (by omega)]; omega), c_pages hC, Option.bind_some, eu, Option.bind_some, c_freeP hJ.1 hC hq, Option.bind_some, e1, Option.bind_some, if_neg (nI_pos (by omega)), hg, Option.bind_some, if_pos rfl, hf, Option.bind_some, if_pos rfl, c_stored hJ2.1 hJ2.2.1 hC2, Option.bind_some, hst, if_pos (lg_refl _)]
end AC
