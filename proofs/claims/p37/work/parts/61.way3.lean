theorem fp_ne {A : AS} (hA : WA A) {z p p' : Nat} (hp : p < A.1) (hp' : p' < A.1) (h8 : fp A z (nI p) (nI p') < 8) : fp A z (nI p) (nI p') ≠ p ∧ fp A z (nI p) (nI p') ≠ p' := by
  have hn := hA.1
  by_cases c : fp A z (nI p) (nI p') < A.1
  · have hy := fst_yes (okp A z (nI p) (nI p')) A.1 c
    change okp A z (nI p) (nI p') (fp A z (nI p) (nI p')) = true at hy
    simp only [okp, Bool.and_eq_true, decide_eq_true_eq] at hy
    exact ⟨fun w => hy.1.1 (by rw [w]), fun w => hy.1.2 (by rw [w])⟩
  · omega
def out (A : AS) (p s q l : Nat) (c : Nat → Int32) : AS := puts (opn A q) q (fe (A.2.1 q)) (l + 3) (bt (nI 3) p s c)
def mv3 (A : AS) (p s q l : Nat) (c : Nat → Int32) : AS := if kn A p s = 2 then mvd (wbA (rems (out A p s q l c) (tp A p s) (ts A p s)) p s (bt (nI 2) q (fe (A.2.1 q)) c) 3) else mvd (puts (out A p s q l c) p s 3 (bt (nI 2) q (fe (A.2.1 q)) c))
section W3
variable {A : AS} {p s q l : Nat}
theorem out_eff {c : Nat → Int32} (hA : WA A) (h8 : q < 8) (hle : q ≤ A.1) (hl : l ≤ 60) (hr : room (A.2.1 q) (l + 3) = true) : (∀ a b, ¬ (a = q ∧ b = fe (A.2.1 q)) → Same A (out A p s q l c) a b) ∧ has (out A p s q l c) q (fe (A.2.1 q)) ∧ ln (out A p s q l c) q (fe (A.2.1 q)) = l + 3 ∧ (∀ i, i < l + 3 → db (out A p s q l c) q (fe (A.2.1 q)) i = bt (nI 3) p s c i) ∧ WA (out A p s q l c) ∧ (∀ a, a ≠ q → (out A p s q l c).2.1 a = A.2.1 a) ∧ A.1 ≤ (out A p s q l c).1 ∧ ¬ has A q (fe (A.2.1 q)) := by
  have hf := fe_e hA h8 hr
  obtain ⟨k1, k2, k3, k4, k5⟩ := puts_eff (A := opn A q) (p := q) (s := fe (A.2.1 q)) (z := l + 3) (b := bt (nI 3) p s c) (WA_opn hA h8) (opn_cnt hle) (fe_le (A.2.1 q)) hf.1 (by omega) hf.2.2.2
  refine ⟨fun a b h => Same_trans (Same_opn hA h8) (k1 a b h), k2, k3, k4, k5, fun a ha => va_upN ha, ?_, ?_⟩
  · show A.1 ≤ if q = A.1 then A.1 + 1 else A.1
    split <;> omega
  · intro h
    have := h.2.2
    unfold ln at this
    omega
theorem wbA_eff {B : AS} {n : Nat} {b : Nat → Int32} (hB : WA B) (h : has B p s) (hn : n ≤ ln B p s) : (∀ a d, ¬ (a = p ∧ d = s) → Same B (wbA B p s b n) a d) ∧ has (wbA B p s b n) p s ∧ ln (wbA B p s b n) p s = ln B p s ∧ (∀ i, i < n → db (wbA B p s b n) p s i = b i) ∧ WA (wbA B p s b n) := by
  have hb := has_b hB h
  have hW := hB.2.1 p hb.1
  have e : (wbA B p s b n).2.1 p = wb (B.2.1 p) s b n := va_upS
  refine ⟨fun a d w => Same_sp (A := B) (p := p) (g := wb (B.2.1 p) s b n) fun x => sg_wb hW h.2.1 hn (fun v => w ⟨x, v⟩), ?_, ?_, ?_, WA_sp hB h.1 (wb_WF hW h.2.1 hn)⟩
  · unfold has ln
    rw [e]
    exact h
  · unfold ln
    rw [e]; rfl
  · intro i hi
    unfold db
    rw [e]
    show cpy _ ((B.2.1 p).2.1 s) n b ((B.2.1 p).2.1 s + i) = b i
    rw [cpy_in (by omega), Nat.add_sub_cancel_left]
theorem mv3_eff {c : Nat → Int32} (hA : WA A) (hI : RI A) (hk : kn A p s = 1 ∨ kn A p s = 2) (h8 : q < 8) (hle : q ≤ A.1) (hl : l ≤ 60) (hr : room (A.2.1 q) (l + 3) = true) (n1 : q ≠ p) (n2 : q ≠ pp A p s) : WA (mv3 A p s q l c) ∧ RI (mv3 A p s q l c) := by
  have hh : has A p s := kn_has (by omega)
  have hb := has_b hA hh
  obtain ⟨k1, k2, k3, k4, k5, k6, k7, k8⟩ := out_eff (p := p) (s := s) (c := c) hA h8 hle hl hr
  have hps := k1 p s (fun w => n1 w.1.symm)
  have hh2 := hps.1.mpr hh
  unfold mv3
  by_cases d : kn A p s = 2
  · rw [if_pos d]
    have w := nt' hA hI d
    have e1 : pp A p s = tp A p s := if_pos d
    rw [e1] at n2
    have ht := (k1 (tp A p s) (ts A p s) (fun x => n2 x.1.symm)).1.mpr w.2.2.1
    have hW2 := WA_rems k5 ht.1 ht.2.1
    have hS2 : ∀ a b, ¬ (a = tp A p s ∧ b = ts A p s) → Same (out A p s q l c) (rems (out A p s q l c) (tp A p s) (ts A p s)) a b := fun a b x => Same_rems k5 ht.1 ht.2.1 x
    have s2 := hS2 p s (fun x => w.2.2.2.1 x.1.symm)
    have hh3 := s2.1.mpr hh2
    have hl3 : ln (rems (out A p s q l c) (tp A p s) (ts A p s)) p s = 3 := by rw [(s2.2 hh2).1, (hps.2 hh).1]; exact w.2.1
    obtain ⟨j1, j2, j3, j4, j5⟩ := wbA_eff (b := bt (nI 2) q (fe (A.2.1 q)) c) (n := 3) hW2 hh3 (by rw [hl3]; exact Nat.le_refl 3)
    refine ⟨j5, ?_⟩
    have sq := Same_trans (hS2 q (fe (A.2.1 q)) (fun x => n2 x.1)) (j1 q (fe (A.2.1 q)) (fun x => n1 x.1))
    obtain ⟨eq, dq⟩ := sq.2 k2
    refine RI_step (A' := wbA (rems (out A p s q l c) (tp A p s) (ts A p s)) p s (bt (nI 2) q (fe (A.2.1 q)) c) 3) hA hI (fun a b => (a = p ∧ b = s) ∨ (a = tp A p s ∧ b = ts A p s) ∨ (a = q ∧ b = fe (A.2.1 q))) (fun a b h => Same_trans (Same_trans (k1 a b (fun x => h (Or.inr (Or.inr x)))) (hS2 a b (fun x => h (Or.inr (Or.inl x))))) (j1 a b (fun x => h (Or.inl x)))) ?_ ?_
    · rintro a b (⟨rfl, rfl⟩ | ⟨rfl, rfl⟩ | ⟨rfl, rfl⟩) h
      · exact RR_note (q := q) (t := fe (A.2.1 q)) (by rw [j3]; exact hl3) (j4 0 (by omega)) (j4 1 (by omega)) (j4 2 (by omega)) (sq.1.mpr k2) n1 (by rw [dq 0 (by omega), k4 0 (by omega)]; rfl) (by rw [dq 1 (by omega), k4 1 (by omega)]; rfl) (by rw [dq 2 (by omega), k4 2 (by omega)]; rfl)
      · exact absurd ((j1 _ _ (fun x => w.2.2.2.1 x.1)).1.mp h) rems_s
      · exact RR_moved (l := l) (q := p) (t := s) (c := c) hb.1 hb.2.1 hl (by rw [eq]; exact k3) (fun i hi => by rw [dq i (by omega)]; exact k4 i hi)
    · intro a b hk2 hn x
      rcases x with x | x | x
      · have := kn_tgt hA hI hk2
        rw [x.1, x.2] at this
        omega
      · exact hn (Or.inl (back hA hI hk2 d x.1 x.2))
      · have := (nt' hA hI hk2).2.2.1
        rw [x.1, x.2] at this
        exact k8 this
  · rw [if_neg d]
    have epg := k6 p (fun x => n1 x.symm)
    obtain ⟨j1, j2, j3, j4, j5⟩ := puts_eff (A := out A p s q l c) (p := p) (s := s) (z := 3) (b := bt (nI 2) q (fe (A.2.1 q)) c) k5 hh2.1 (Nat.le_of_lt hh2.2.1) hb.2.1 (by omega) (by rw [epg]; exact rr_room2 hA hh (by unfold rr; omega))
    refine ⟨j5, ?_⟩
    have sq := j1 q (fe (A.2.1 q)) (fun x => n1 x.1)
    obtain ⟨eq, dq⟩ := sq.2 k2
    refine RI_step (A' := puts (out A p s q l c) p s 3 (bt (nI 2) q (fe (A.2.1 q)) c)) hA hI (fun a b => (a = p ∧ b = s) ∨ (a = q ∧ b = fe (A.2.1 q))) (fun a b h => Same_trans (k1 a b (fun x => h (Or.inr x))) (j1 a b (fun x => h (Or.inl x)))) ?_ ?_
    · rintro a b (⟨rfl, rfl⟩ | ⟨rfl, rfl⟩) h
      · exact RR_note (q := q) (t := fe (A.2.1 q)) j3 (j4 0 (by omega)) (j4 1 (by omega)) (j4 2 (by omega)) (sq.1.mpr k2) n1 (by rw [dq 0 (by omega), k4 0 (by omega)]; rfl) (by rw [dq 1 (by omega), k4 1 (by omega)]; rfl) (by rw [dq 2 (by omega), k4 2 (by omega)]; rfl)
      · exact RR_moved (l := l) (q := p) (t := s) (c := c) hb.1 hb.2.1 hl (by rw [eq]; exact k3) (fun i hi => by rw [dq i (by omega)]; exact k4 i hi)
    · intro a b hk2 hn x
      rcases x with x | x
      · have := kn_tgt hA hI hk2
        rw [x.1, x.2] at this
        omega
      · have := (nt' hA hI hk2).2.2.1
        rw [x.1, x.2] at this
        exact k8 this
end W3

