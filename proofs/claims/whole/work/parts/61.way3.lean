theorem fp_ne {A : AS} (hA : WA A) {z p p' : Nat} (hp : p < A.1) (hp' : p' < A.1) (h8 : fp A z (nI p) (nI p') < 8) : fp A z (nI p) (nI p') ≠ p ∧ fp A z (nI p) (nI p') ≠ p' := by
  have hn := hA.1
  by_cases c : fp A z (nI p) (nI p') < A.1
  · have hy := fst_yes (okp A z (nI p) (nI p')) A.1 c
    change okp A z (nI p) (nI p') (fp A z (nI p) (nI p')) = true at hy
    simp only [okp, Bool.and_eq_true, decide_eq_true_eq] at hy
    exact ⟨fun w => hy.1.1 (by rw [w]), fun w => hy.1.2 (by rw [w])⟩
  · omega
def out (A : AS) (p s q l : Nat) (c : Nat → Int32) : AS := puts (opn A q) q (fe (A.2.1 q)) (l + 3) (bt (nI 3) p s c)
def mv3 (A : AS) (p s q l : Nat) (c : Nat → Int32) : AS := if kn A p s = 2 then mvd (wbA (rems (out A p s q l c) (tp A p s) (ts A p s)) p s (bt (nI 2) q (fe (A.2.1 q)) c) 3) else mvd (puts (out A p s q l c) p s 3 (bt (nI 2) q (fe (A.2.1 q)) c))
section W3
variable {A : AS} {p s q l : Nat}
theorem out_eff {c : Nat → Int32} (hA : WA A) (h8 : q < 8) (hle : q ≤ A.1) (hl : l ≤ 60) (hr : room (A.2.1 q) (l + 3) = true) : (∀ a b, ¬ (a = q ∧ b = fe (A.2.1 q)) → Same A (out A p s q l c) a b) ∧ has (out A p s q l c) q (fe (A.2.1 q)) ∧ ln (out A p s q l c) q (fe (A.2.1 q)) = l + 3 ∧ (∀ i, i < l + 3 → db (out A p s q l c) q (fe (A.2.1 q)) i = bt (nI 3) p s c i) ∧ WA (out A p s q l c) ∧ (∀ a, a ≠ q → (out A p s q l c).2.1 a = A.2.1 a) ∧ A.1 ≤ (out A p s q l c).1 ∧ ¬ has A q (fe (A.2.1 q)) := by
  have hf := fe_e hA h8 hr
  obtain ⟨k1, k2, k3, k4, k5⟩ := puts_eff (A := opn A q) (p := q) (s := fe (A.2.1 q)) (z := l + 3) (b := bt (nI 3) p s c) (WA_opn hA h8) (opn_cnt hle) (fe_le (A.2.1 q)) hf.1 (by omega) hf.2.2.2
  refine ⟨fun a b h => Same_trans (Same_opn hA h8) (k1 a b h), k2, k3, k4, k5, fun a ha => va_upN ha, ?_, ?_⟩
  · show A.1 ≤ if q = A.1 then A.1 + 1 else A.1
    split <;> omega
  · intro h
    have := h.2.2
    unfold ln at this
    omega
end W3
