theorem CA_mvd {u : TS} {A : AS} (hC : CA u A) : CA ((u.1.1, u.1.2.1 + 1, u.1.2.2), u.2) (mvd A) := by
  refine ⟨?_, hC.2⟩
  show (u.1.1, u.1.2.1 + 1, u.1.2.2) = _
  rw [hC.1]; rfl
theorem RA_mvd {f : Ar} {A : AS} (hR : RA f A) : RA (upd f 1 (f 1 + 1)) (mvd A) := by
  refine ⟨?_, ?_, ?_, ?_, ?_⟩
  · rw [updN (by omega)]; exact hR.1
  · rw [updS, hR.2.1]; rfl
  · rw [updN (by omega)]; exact hR.2.2.1
  · rw [updN (by omega)]; exact hR.2.2.2.1
  · intro q hq
    have h := hR.2.2.2.2 q hq
    refine ⟨?_, ?_, ?_⟩
    · rw [updN (by omega)]; exact h.1
    · intro t ht
      rw [updN (by omega), updN (by omega)]; exact h.2.1 t ht
    · intro k hk
      rw [updN (by omega)]; exact h.2.2 k hk
