theorem CA_mvd {u : TS} {A : AS} (hC : CA u A) : CA ((u.1.1, u.1.2.1 + 1, u.1.2.2), u.2) (mvd A) := by
  refine ⟨?_, hC.2⟩
  show (u.1.1, u.1.2.1 + 1, u.1.2.2) = _
  rw [hC.1]; rfl
