theorem fpk_8_0 : allB (fun i => fpc 8 (126 * 0 + i)) 127 = true := by decide +kernel
theorem fpk_8_1 : allB (fun i => fpc 8 (126 * 1 + i)) 127 = true := by decide +kernel
theorem fpk_8_2 : allB (fun i => fpc 8 (126 * 2 + i)) 127 = true := by decide +kernel
theorem fpk_8_3 : allB (fun i => fpc 8 (126 * 3 + i)) 127 = true := by decide +kernel
theorem fpk_8_4 : allB (fun i => fpc 8 (126 * 4 + i)) 127 = true := by decide +kernel
theorem fpk_8_5 : allB (fun i => fpc 8 (126 * 5 + i)) 127 = true := by decide +kernel
theorem fpk_8_6 : allB (fun i => fpc 8 (126 * 6 + i)) 127 = true := by decide +kernel
theorem fpk_8_7 : allB (fun i => fpc 8 (126 * 7 + i)) 127 = true := by decide +kernel
theorem fp_all {n b : Nat} (h1 : 1 ≤ n) (h8 : n ≤ 8) (hb : b ≤ 126 * n) : fpc n b = true := by
  have hn : n = 1 ∨ n = 2 ∨ n = 3 ∨ n = 4 ∨ n = 5 ∨ n = 6 ∨ n = 7 ∨ n = 8 := by omega
  have key : ∀ j, allB (fun i => fpc n (126 * j + i)) 127 = true → 126 * j ≤ b → b ≤ 126 * j + 126 → fpc n b = true := by
    intro j h a1 a2
    have := allB_ok h (b - 126 * j) (by omega)
    rw [← show 126 * j + (b - 126 * j) = b by omega]
    exact this
  rcases hn with rfl | rfl | rfl | rfl | rfl | rfl | rfl | rfl
  · exact key 0 fpk_1_0 (by omega) (by omega)
  · by_cases c0 : b ≤ 126
    · exact key 0 fpk_2_0 (by omega) (by omega)
    · exact key 1 fpk_2_1 (by omega) (by omega)
  · by_cases c0 : b ≤ 126
    · exact key 0 fpk_3_0 (by omega) (by omega)
    · by_cases c1 : b ≤ 252
      · exact key 1 fpk_3_1 (by omega) (by omega)
      · exact key 2 fpk_3_2 (by omega) (by omega)
  · by_cases c0 : b ≤ 126
    · exact key 0 fpk_4_0 (by omega) (by omega)
    · by_cases c1 : b ≤ 252
      · exact key 1 fpk_4_1 (by omega) (by omega)
      · by_cases c2 : b ≤ 378
        · exact key 2 fpk_4_2 (by omega) (by omega)
        · exact key 3 fpk_4_3 (by omega) (by omega)
  · by_cases c0 : b ≤ 126
    · exact key 0 fpk_5_0 (by omega) (by omega)
    · by_cases c1 : b ≤ 252
      · exact key 1 fpk_5_1 (by omega) (by omega)
      · by_cases c2 : b ≤ 378
        · exact key 2 fpk_5_2 (by omega) (by omega)
        · by_cases c3 : b ≤ 504
          · exact key 3 fpk_5_3 (by omega) (by omega)
          · exact key 4 fpk_5_4 (by omega) (by omega)
  · by_cases c0 : b ≤ 126
    · exact key 0 fpk_6_0 (by omega) (by omega)
    · by_cases c1 : b ≤ 252
      · exact key 1 fpk_6_1 (by omega) (by omega)
      · by_cases c2 : b ≤ 378
        · exact key 2 fpk_6_2 (by omega) (by omega)
        · by_cases c3 : b ≤ 504
          · exact key 3 fpk_6_3 (by omega) (by omega)
          · by_cases c4 : b ≤ 630
            · exact key 4 fpk_6_4 (by omega) (by omega)
            · exact key 5 fpk_6_5 (by omega) (by omega)
  · by_cases c0 : b ≤ 126
    · exact key 0 fpk_7_0 (by omega) (by omega)
    · by_cases c1 : b ≤ 252
      · exact key 1 fpk_7_1 (by omega) (by omega)
      · by_cases c2 : b ≤ 378
        · exact key 2 fpk_7_2 (by omega) (by omega)
        · by_cases c3 : b ≤ 504
          · exact key 3 fpk_7_3 (by omega) (by omega)
          · by_cases c4 : b ≤ 630
            · exact key 4 fpk_7_4 (by omega) (by omega)
            · by_cases c5 : b ≤ 756
              · exact key 5 fpk_7_5 (by omega) (by omega)
              · exact key 6 fpk_7_6 (by omega) (by omega)
  · by_cases c0 : b ≤ 126
    · exact key 0 fpk_8_0 (by omega) (by omega)
    · by_cases c1 : b ≤ 252
      · exact key 1 fpk_8_1 (by omega) (by omega)
      · by_cases c2 : b ≤ 378
        · exact key 2 fpk_8_2 (by omega) (by omega)
        · by_cases c3 : b ≤ 504
          · exact key 3 fpk_8_3 (by omega) (by omega)
          · by_cases c4 : b ≤ 630
            · exact key 4 fpk_8_4 (by omega) (by omega)
            · by_cases c5 : b ≤ 756
              · exact key 5 fpk_8_5 (by omega) (by omega)
              · by_cases c6 : b ≤ 882
                · exact key 6 fpk_8_6 (by omega) (by omega)
                · exact key 7 fpk_8_7 (by omega) (by omega)
