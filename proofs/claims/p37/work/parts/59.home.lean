def hm (A : AS) (p s l : Nat) (c : Nat → Int32) : AS := if kn A p s = 2 then puts (rtn (rems A (tp A p s) (ts A p s))) p s (hs l) (bh l c) else puts A p s (hs l) (bh l c)
theorem rr_room {A : AS} (hA : WA A) {p s z : Nat} (h : has A p s) (hz : z ≤ rr A p s) : sm (wipe (A.2.1 p) s) (A.2.1 p).1 + 2 + 2 * (A.2.1 p).1 + z ≤ 128 := by
  have hb := has_b hA h
  have hW := hA.2.1 p hb.1
  have h6 := hW.2.2.2.2.2
  have hw := sm_wipe (A.2.1 p) s (A.2.1 p).1
  rw [if_pos h.2.1] at hw
  unfold rr ln fr at hz
  omega
theorem rr_room2 {A : AS} (hA : WA A) {p s z : Nat} (h : has A p s) (hz : z ≤ rr A p s) : sm (wipe (A.2.1 p) s) (A.2.1 p).1 + 2 + 2 * (ext (A.2.1 p) s).1 + z ≤ 128 := by
  rw [ext_id h.2.1]
  exact rr_room hA h hz
theorem WA_rtn {A : AS} (hA : WA A) : WA (rtn A) := hA
section HM
variable {A : AS} {p s l : Nat}
theorem hm_eff {c : Nat → Int32} (hA : WA A) (hI : RI A) (hk : kn A p s = 1 ∨ kn A p s = 2) (hl : l ≤ 60) (hr : hs l ≤ rr A p s) : WA (hm A p s l c) ∧ RI (hm A p s l c) := by
  have hh : has A p s := kn_has (by omega)
  have hb := has_b hA hh
  have hz := hs_b hl
  have hroom := rr_room2 hA hh hr
  unfold hm
  by_cases d : kn A p s = 2
  · rw [if_pos d]
    have q := nt' hA hI d
    have hW1 := WA_rtn (WA_rems hA q.2.2.1.1 q.2.2.1.2.1)
    have epg : (rtn (rems A (tp A p s) (ts A p s))).2.1 p = A.2.1 p := rems_pg (fun w => q.2.2.2.1 w.symm)
    obtain ⟨k1, k2, k3, k4, k5⟩ := puts_eff (A := rtn (rems A (tp A p s) (ts A p s))) (p := p) (s := s) (z := hs l) (b := bh l c) hW1 hh.1 (by rw [epg]; exact Nat.le_of_lt hh.2.1) hb.2.1 hz.1 (by rw [epg]; exact hroom)
    refine ⟨k5, ?_⟩
    have hS1 : ∀ a b, ¬ (a = tp A p s ∧ b = ts A p s) → Same A (rtn (rems A (tp A p s) (ts A p s))) a b := fun a b w => Same_rems hA q.2.2.1.1 q.2.2.1.2.1 w
    refine RI_step hA hI (fun a b => (a = p ∧ b = s) ∨ (a = tp A p s ∧ b = ts A p s)) (fun a b h => Same_trans (hS1 a b (fun w => h (Or.inr w))) (k1 a b (fun w => h (Or.inl w)))) ?_ ?_
    · rintro a b (⟨rfl, rfl⟩ | ⟨rfl, rfl⟩) h
      · exact RR_home hl k3 k4
      · exact absurd (show has (rems A (tp A p s) (ts A p s)) (tp A p s) (ts A p s) from (k1 _ _ (fun w => q.2.2.2.1 w.1)).1.mp h) rems_s
    · intro a b hk2 hn w
      rcases w with w | w
      · have := kn_tgt hA hI hk2
        rw [w.1, w.2] at this
        omega
      · exact hn (Or.inl (back hA hI hk2 d w.1 w.2))
  · rw [if_neg d]
    obtain ⟨k1, k2, k3, k4, k5⟩ := puts_eff (A := A) (p := p) (s := s) (z := hs l) (b := bh l c) hA hh.1 (Nat.le_of_lt hh.2.1) hb.2.1 hz.1 hroom
    refine ⟨k5, ?_⟩
    refine RI_step hA hI (fun a b => a = p ∧ b = s) k1 ?_ ?_
    · rintro a b ⟨rfl, rfl⟩ h
      exact RR_home hl k3 k4
    · intro a b hk2 hn w
      have := kn_tgt hA hI hk2
      rw [w.1, w.2] at this
      omega
theorem CA_rtn {u : TS} {A : AS} (hC : CA u A) : CA ((u.1.1, u.1.2.1, u.1.2.2.1 + 1, u.1.2.2.2), u.2) (rtn A) := by
  refine ⟨?_, hC.2⟩
  show (u.1.1, u.1.2.1, u.1.2.2.1 + 1, u.1.2.2.2) = _
  rw [hC.1]; rfl
theorem c_home {u : TH} (hA : WA A) (hI : RI A) (hC : CA u.1.1 A) (hk : kn A p s = 1 ∨ kn A p s = 2) (hl : l ≤ 60) (hr : hs l ≤ rr A p s) (hL : u.2.2.1.1 = nI l) : ∃ v : TH, fX4_storeAtHome u (nI (100 * p + s)) (nI (100 * pp A p s + ps A p s)) = some v ∧ CA v.1.1 (hm A p s l u.2.2.1.2) ∧ v.2.1 = u.2.1 ∧ v.2.2.1 = u.2.2.1 ∧ v.2.2.2.2 = u.2.2.2.2 := by
  have hh : has A p s := kn_has (by omega)
  have hb := has_b hA hh
  have hz := hs_b hl
  have hroom := rr_room2 hA hh hr
  have hP := pp_b hA hI hh
  have hPb := has_b hA hP
  have key : ∀ (w : TH) (B : AS), WA B → CA w.1.1 B → B.1 = A.1 → B.2.1 p = A.2.1 p → w.2 = u.2 → ∃ v : TH, fX4_storeAtHome_j26 w (nI (100 * p + s)) = some v ∧ CA v.1.1 (puts B p s (hs l) (bh l u.2.2.1.2)) ∧ v.2.1 = u.2.1 ∧ v.2.2.1 = u.2.2.1 ∧ v.2.2.2.2 = u.2.2.2.2 := by
    intro w B hB hCB e1 e2 e3
    obtain ⟨r, k1, k2⟩ := c_wHome (u := w) hl (by rw [e3]; exact hL)
    obtain ⟨v, k3, k4⟩ := c_puts (u := (w.1, (nI (hs l), r))) (A := B) (p := p) (s := s) (z := hs l) hB hCB (by rw [e1]; exact hh.1) (by rw [e2]; exact Nat.le_of_lt hh.2.1) hb.2.1 rfl hz.1 (by omega) (by rw [e2]; exact hroom)
    unfold fX4_storeAtHome_j26
    rw [k1, Option.bind_some, k3, Option.bind_some]
    refine ⟨_, rfl, ?_, by rw [← e3], by rw [← e3], by rw [← e3]⟩
    rw [e3] at k2
    rw [← puts_cong k2]
    exact k4
  unfold fX4_storeAtHome hm
  simp (disch := omega) only [e_eq, x100]
  by_cases d : kn A p s = 2
  · have q := nt' hA hI d
    have e1 : pp A p s = tp A p s := if_pos d
    have e2 : ps A p s = ts A p s := if_pos d
    rw [e1, e2]
    rw [if_neg (fun w => q.2.2.2.1 w.1), if_pos d]
    obtain ⟨v, k1, k2⟩ := c_rems (u := u.1) hA hC q.2.2.1.1 q.2.2.1.2.1
    rw [k1, Option.bind_some]
    exact key _ (rtn (rems A (tp A p s) (ts A p s))) (WA_rtn (WA_rems hA q.2.2.1.1 q.2.2.1.2.1)) (CA_rtn k2) rfl (rems_pg (fun w => q.2.2.2.1 w.symm)) rfl
  · have e1 : pp A p s = p := if_neg d
    have e2 : ps A p s = s := if_neg d
    rw [e1, e2, if_pos ⟨rfl, rfl⟩, if_neg d]
    exact key u A hA hC rfl rfl rfl
theorem poff_WA {B : AS} (hB : WA B) {z : Nat} (h1 : p < B.1) (h2 : s ≤ (B.2.1 p).1) (h31 : s < 31) (h3 : 3 ≤ z) (hr : sm (wipe (B.2.1 p) s) (B.2.1 p).1 + 2 + 2 * (ext (B.2.1 p) s).1 + z ≤ 128) : WA (poff B p s z) ∧ ((poff B p s z).2.1 p).2.1 s + z ≤ 128 := by
  have hp8 : p < 8 := by have := hB.1; omega
  have hW := put_WF (b := fun _ => 0) (hB.2.1 p hp8) h2 h31 h3 hr
  refine ⟨WA_bk (WA_sp hB h1 hW.2.1) _, ?_⟩
  have e : (poff B p s z).2.1 p = pl (pg (wipe (B.2.1 p) s) s z) s z := va_upS
  rw [e]
  show va_up _ s (lw (pg (wipe (B.2.1 p) s) s z) (pg (wipe (B.2.1 p) s) s z).1 - z) s + z ≤ 128
  rw [va_upS]
  have := hW.2.2.2.2
  have := lw_le (pg (wipe (B.2.1 p) s) s z) (pg (wipe (B.2.1 p) s) s z).1
  omega
end HM

