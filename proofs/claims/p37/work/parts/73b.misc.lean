theorem fpR_no {A : AS} {z : Nat} {e1 e2 : Int32} (h : ¬ fp A z e1 e2 < 8) : fpR A z e1 e2 = M1 := if_neg h
theorem fpR_yes {A : AS} {z : Nat} {e1 e2 : Int32} (h : fp A z e1 e2 < 8) : fpR A z e1 e2 = nI (fp A z e1 e2) := if_pos h
theorem nz {k : Nat} (h : k < 2 ^ 31) : ¬ nI k = M1 := fun w => by rw [nI_neM1 h] at w; exact w
def pby (A : AS) (p o : Nat) : Int32 := if o = 0 then nI (A.2.1 p).1 else if o = 1 then nI (lw (A.2.1 p) (A.2.1 p).1) else if o < 2 + 2 * (A.2.1 p).1 then (if o % 2 = 0 then nI ((A.2.1 p).2.1 ((o - 2) / 2)) else nI ((A.2.1 p).2.2.1 ((o - 2) / 2))) else (A.2.1 p).2.2.2 o
section AK
variable {A : AS}
theorem c_pby {u : TS} (hA : WA A) (hC : CA u A) {p o : Nat} (hp : p < A.1) (ho : o < 128) : fX3_byteAt u (nI p) (nI o) = some (pby A p o) := by
  have hn := hA.1
  have h := hC.2.1 p hp
  have h31 := (hA.2.1 p (by omega)).1
  rw [c_byteAt (by omega)]
  unfold pby
  congr 1
  by_cases c0 : o = 0
  · rw [if_pos c0, c0, Nat.add_zero]; exact h.1
  · rw [if_neg c0]
    by_cases c1 : o = 1
    · rw [if_pos c1, c1]; exact h.2.1
    · rw [if_neg c1]
      by_cases c2 : o < 2 + 2 * (A.2.1 p).1
      · rw [if_pos c2]
        obtain ⟨s, hs1⟩ : ∃ s, s = (o - 2) / 2 := ⟨_, rfl⟩
        have h3 := h.2.2.1 s (by omega)
        rw [← hs1]
        by_cases c3 : o % 2 = 0
        · rw [if_pos c3, show o = 2 + 2 * s by omega, ← Nat.add_assoc]; exact h3.1
        · rw [if_neg c3, show o = 3 + 2 * s by omega, ← Nat.add_assoc]; exact h3.2
      · rw [if_neg c2]; exact h.2.2.2 o (by omega) ho
def gp (A : AS) (p : Nat) : Nat := lw (A.2.1 p) (A.2.1 p).1 - 2 - 2 * (A.2.1 p).1
theorem c_gap {u : TP} (hA : WA A) (hC : CA u.1 A) {p : Nat} (hp : p < A.1) : fX2_gapWith u (nI p) (nI (A.2.1 p).1) = some (nI (gp A p)) := by
  have hn := hA.1
  have h := hC.2.1 p hp
  have hW := hA.2.1 p (by omega)
  have hge := lw_ge hW (A.2.1 p).1 (Nat.le_refl _)
  unfold fX2_gapWith fX4_slotOffset
  simp only [lit]
  rw [c_byteAt (by omega), Option.bind_some, Option.bind_some, h.2.1, pk_mul, nI_add, e_sub (by omega)]
  unfold gp
  rw [Nat.sub_sub]
end AK

