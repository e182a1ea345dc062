def allB (f : Nat → Bool) : Nat → Bool
  | 0 => true
  | k + 1 => f k && allB f k
theorem allB_ok {f : Nat → Bool} : ∀ {k : Nat}, allB f k = true → ∀ i, i < k → f i = true
  | 0, _, i, h => absurd h (Nat.not_lt_zero i)
  | k + 1, e, i, h => by
    have e' : (f k && allB f k) = true := e
    rw [Bool.and_eq_true] at e'
    by_cases c : i = k
    · rw [c]; exact e'.1
    · exact allB_ok e'.2 i (by omega)
def fpz (n b : Nat) : UInt64 := FP.ddiv (FP.i2d (nI b)) (FP.i2d (nI (128 * n)))
def fpc (n b : Nat) : Bool := decide (nf64 (fpz n b) = some (fpz n b)) && decide (nf32 (FP.d2f (fpz n b)) = some (FP.d2f (fpz n b))) && (fX4_bitsOfFraction (FP.d2f (fpz n b))).isSome && decide (¬ (Op.cmpValue (FP.dcmp (fpz n b) FP.dconst0) .l) < 0) && decide (¬ 0 < (Op.cmpValue (FP.dcmp (fpz n b) FP.dconst1) .g))
theorem fpk_1_0 : allB (fun i => fpc 1 (126 * 0 + i)) 127 = true := by decide +kernel
theorem fpk_2_0 : allB (fun i => fpc 2 (126 * 0 + i)) 127 = true := by decide +kernel
theorem fpk_2_1 : allB (fun i => fpc 2 (126 * 1 + i)) 127 = true := by decide +kernel
theorem fpk_3_0 : allB (fun i => fpc 3 (126 * 0 + i)) 127 = true := by decide +kernel
theorem fpk_3_1 : allB (fun i => fpc 3 (126 * 1 + i)) 127 = true := by decide +kernel
theorem fpk_3_2 : allB (fun i => fpc 3 (126 * 2 + i)) 127 = true := by decide +kernel
theorem fpk_4_0 : allB (fun i => fpc 4 (126 * 0 + i)) 127 = true := by decide +kernel
theorem fpk_4_1 : allB (fun i => fpc 4 (126 * 1 + i)) 127 = true := by decide +kernel
theorem fpk_4_2 : allB (fun i => fpc 4 (126 * 2 + i)) 127 = true := by decide +kernel
theorem fpk_4_3 : allB (fun i => fpc 4 (126 * 3 + i)) 127 = true := by decide +kernel
