theorem fpk_7_0 : allB (fun i => fpc 7 (126 * 0 + i)) 127 = true := by decide +kernel
theorem fpk_7_1 : allB (fun i => fpc 7 (126 * 1 + i)) 127 = true := by decide +kernel
theorem fpk_7_2 : allB (fun i => fpc 7 (126 * 2 + i)) 127 = true := by decide +kernel
theorem fpk_7_3 : allB (fun i => fpc 7 (126 * 3 + i)) 127 = true := by decide +kernel
theorem fpk_7_4 : allB (fun i => fpc 7 (126 * 4 + i)) 127 = true := by decide +kernel
theorem fpk_7_5 : allB (fun i => fpc 7 (126 * 5 + i)) 127 = true := by decide +kernel
theorem fpk_7_6 : allB (fun i => fpc 7 (126 * 6 + i)) 127 = true := by decide +kernel
