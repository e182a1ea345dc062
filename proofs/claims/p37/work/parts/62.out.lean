theorem kn_same {A B : AS} {p s : Nat} (hA : WA A) (h : Same A B p s) : kn B p s = kn A p s := by
  unfold kn
  by_cases c : has A p s
  · have hb := has_b hA c
    rw [if_pos c, if_pos (h.1.mpr c), (h.2 c).2 0 (by omega)]
  · rw [if_neg c, if_neg (fun w => c (h.1.mp w))]
section OUT
variable {A : AS} {p s q l : Nat}
end OUT

