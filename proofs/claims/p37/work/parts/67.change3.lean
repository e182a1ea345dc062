section C3
variable {A : AS} {p s q l : Nat}
theorem c_ch3 {u : TH} (hA : WA A) (hI : RI A) (hC : CA u.1.1 A) (hk : kn A p s = 1 ∨ kn A p s = 2) (h8 : q < 8) (hle : q ≤ A.1) (hl : l ≤ 60) (hL : u.2.2.1.1 = nI l) (hr : room (A.2.1 q) (l + 3) = true) (n1 : q ≠ p) (n2 : q ≠ pp A p s) (hfp : fpR A (l + 3) (nI p) (nI (pp A p s)) = nI q) : ∃ v : TH, fX4_changeRow u (nI (100 * p + s)) (nI 3) = some v ∧ CA v.1.1 (mv3 A p s q l u.2.2.1.2) ∧ v.2.1 = u.2.1 ∧ v.2.2.1 = u.2.2.1 ∧ v.2.2.2.2 = u.2.2.2.2 := by
  have hh : has A p s := kn_has (by omega)
  have hb := has_b hA hh
  have hP := pp_b hA hI hh
  have hPb := has_b hA hP
  have hf := fe_e hA h8 hr
  have hO := WA_opn hA h8
  obtain ⟨k1, k2, k3, k4, k5, k6, k7, k8⟩ := out_eff (p := p) (s := s) (c := u.2.2.1.2) hA h8 hle hl hr
  have hps := k1 p s (fun w => n1 w.1.symm)
  have hh2 := hps.1.mpr hh
  obtain ⟨r, a1, a2⟩ := c_wMoved (u := u) (q := p) (t := s) hl hL (by omega) (by omega)
  obtain ⟨v1, a3, a4⟩ := c_opn (u := u.1) hA hC h8
  obtain ⟨v2, a5, a6⟩ := c_puts (u := (v1, (nI (l + 3), r))) (A := opn A q) (p := q) (s := fe (A.2.1 q)) (z := l + 3) hO a4 (opn_cnt hle) (fe_le (A.2.1 q)) hf.1 rfl (by omega) (by omega) hf.2.2.2
  have a7 : CA v2.1 (out A p s q l u.2.2.1.2) := by
    unfold out
    rw [← puts_cong a2]
    exact a6
  unfold fX4_changeRow
  rw [c_present hA hI hC hb.1 (by omega), Option.bind_some]
  simp (disch := omega) only [lit, e_eq, if_neg (show ¬ (3 : Nat) = 1 by omega), if_neg (show ¬ (3 : Nat) = 2 by omega)]
  rw [a1, Option.bind_some, c_page (by omega) (by omega), Option.bind_some, c_page (by omega) (by omega), Option.bind_some]
  show ∃ v, ((fX2_findPage u.1 (nI (l + 3)) (nI p) (nI (pp A p s))).bind _) = _ ∧ _
  rw [c_findPage hA hC (by omega), Option.bind_some, hfp, a3, Option.bind_some, c_slotToUse' h8 (hO.2.1 q h8) (a4.2.1 q (opn_cnt hle)), Option.bind_some, c_place, Option.bind_some]
  have e : fe ((opn A q).2.1 q) = fe (A.2.1 q) := rfl
  rw [e, a5, Option.bind_some]
  unfold fX4_leaveNote mv3
  simp (disch := omega) only [lit, e_eq, x100]
  by_cases d : kn A p s = 2
  · have w := nt' hA hI d
    have e1 : pp A p s = tp A p s := if_pos d
    have e2 : ps A p s = ts A p s := if_pos d
    rw [e1] at n2
    have ht := (k1 (tp A p s) (ts A p s) (fun x => n2 x.1.symm)).1.mpr w.2.2.1
    obtain ⟨v3, b1, b2⟩ := c_rems (u := v2) k5 a7 ht.1 ht.2.1
    have hW2 := WA_rems k5 ht.1 ht.2.1
    have s2 := Same_rems k5 (q := p) (t := s) ht.1 ht.2.1 (fun x => w.2.2.2.1 x.1.symm)
    have hh3 := s2.1.mpr hh2
    have hb3 := has_b hW2 hh3
    have hd0 : db (rems (out A p s q l u.2.2.1.2) (tp A p s) (ts A p s)) p s 0 = nI 2 := by
      have hb2 := has_b k5 hh2
      rw [(s2.2 hh2).2 0 (by omega), (hps.2 hh).2 0 (by omega)]
      exact (kn_2.mp d).2
    have c1 := c_setRB (p := p) (s := s) (i := 1) (v := nI q) hW2 b2 hh3 (by omega)
    have c2 : ∀ f : Ar, (∀ j, j ≠ 128 * p + (((rems (out A p s q l u.2.2.1.2) (tp A p s) (ts A p s)).2.1 p).2.1 s + 1) → f j = v3.1.2 j) → fX3_setRecordByte (v3.1.1, f) (nI p) (nI s) (nI 2) (nI (fe (A.2.1 q))) = some (v3.1.1, upd f (128 * p + (((rems (out A p s q l u.2.2.1.2) (tp A p s) (ts A p s)).2.1 p).2.1 s + 2)) (nI (fe (A.2.1 q)))) := by
      intro f hf2
      unfold fX3_setRecordByte
      have ho := c_off (u := v3.1) hb3.1 (b2.2.1 p hh3.1) (hW2.2.1 p hb3.1).1 hh3.2.1
      rw [c_offsetOf (by omega)] at ho
      rw [c_offsetOf (by omega)]
      show ((some (f _)).bind _) = _
      rw [hf2 _ (by omega)]
      have ho := Option.some.inj ho
      rw [ho, Option.bind_some, nI_add, c_setByte (by omega), Option.bind_some]
    rw [e1, e2, if_neg (fun x => w.2.2.2.1 x.1), if_pos d, b1, Option.bind_some, c_page (by omega) (by omega), Option.bind_some, c_slot (by omega) (by omega), Option.bind_some, c_page (by omega) (by omega), Option.bind_some, c1, Option.bind_some]
    simp only [c_slot (show q < 1000 by omega) (show fe (A.2.1 q) < 100 by omega), Option.bind_some]
    rw [c2 _ (fun j hj => updN hj), Option.bind_some, Option.bind_some]
    refine ⟨_, rfl, ?_, rfl, rfl, rfl⟩
    rw [← nI_add] 
    exact CA_mvd (CA_note (c := u.2.2.1.2) hW2 b2 hh3 hd0)
  · have e1 : pp A p s = p := if_neg d
    have e2 : ps A p s = s := if_neg d
    have epg := k6 p (fun x => n1 x.symm)
    have hrm : 3 ≤ rr A p s := by unfold rr; omega
    have hrm2 := rr_room2 hA hh hrm
    obtain ⟨r2, b1, b2⟩ := c_wHead (u := ((v2, u.2.1, u.2.2.1, (nI (l + 3), r), u.2.2.2.2) : TH)) (k := 2) (q := q) (t := fe (A.2.1 q)) (by omega) (by omega) u.2.2.1.2
    obtain ⟨v3, b3, b4⟩ := c_puts (u := (v2, (nI 3, r2))) (p := p) (s := s) (z := 3) k5 a7 hh2.1 (Nat.le_of_lt hh2.2.1) hb.2.1 rfl (by omega) (by omega) (by rw [epg]; exact hrm2)
    rw [e1, e2, if_pos ⟨rfl, rfl⟩, if_neg d, b1, Option.bind_some, b3, Option.bind_some, Option.bind_some]
    refine ⟨_, rfl, ?_, rfl, rfl, rfl⟩
    rw [← puts_cong b2]
    exact CA_mvd b4
end C3

