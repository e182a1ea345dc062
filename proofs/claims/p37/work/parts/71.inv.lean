theorem m1e : (-1 : Int32) = M1 := id rfl
def WI (A : AS) (K : Nat → AS) (n L : Nat) : Prop := WA A ∧ RI A ∧ L ≤ 60 ∧ n ≤ 6 ∧ ∀ i, i < n → WA (K i) ∧ RI (K i)
def CX (x : THS) (A : AS) (K : Nat → AS) (n L : Nat) (b : Nat → Int32) : Prop := CA x.1.1.1 A ∧ x.1.2.1.1 = nI L ∧ (∀ i, i < L → x.1.2.1.2 i = b i) ∧ x.1.2.2.2.2.2 = nI n ∧ ∀ i, i < n → CA (x.2.1 i) (K i)
theorem i_gt {a b : Int32} : (b < a) = ¬ a ≤ b := propext (by rw [Int32.lt_iff_toInt_lt, Int32.le_iff_toInt_le]; omega)
theorem i_ge {a b : Int32} : (b ≤ a) = ¬ a < b := propext (by rw [Int32.lt_iff_toInt_lt, Int32.le_iff_toInt_le]; omega)
theorem zO_0 : zO 0 = some 0 := rfl
theorem zO_1 : zO 1 = some 1 := rfl
theorem i_pos {x a : Int32} (ha : 0 ≤ a.toInt) (h : ¬ x < a) : ∃ j : Nat, j < 2 ^ 31 ∧ x = nI j := by
  refine nI_of fun w => h ?_
  rw [Int32.lt_iff_toInt_lt] at *
  have : (0 : Int32).toInt = 0 := rfl
  omega
theorem lg_refl (x : Int64) : lg_cmp x x = 0 := by
  unfold lg_cmp
  rw [if_neg (fun h => absurd (Int64.lt_iff_toInt_lt.mp h) (Int.lt_irrefl _)), if_pos rfl]
section KI
variable {A : AS}
theorem c_isRow {u : TH} {a : Int32} {k : Nat} (hk : k ≤ 3) (h : fX4_kind u a = some (nI k)) : fX4_isRow u a = some (if k = 1 ∨ k = 2 then (1 : Int32) else 0) := by
  unfold fX4_isRow
  rw [h, Option.bind_some]
  have hc : k = 0 ∨ k = 1 ∨ k = 2 ∨ k = 3 := by omega
  rcases hc with rfl | rfl | rfl | rfl <;> rfl
end KI

