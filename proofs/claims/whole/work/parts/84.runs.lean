/-! ===== the makers: run ===== -/
theorem mk_0 : ∀ r, r < 281 → kd r = 0 → mkI [] 0 r [] = true := by decide +kernel
theorem mk_1 : ∀ r, r < 281 → kd r = 1 → mkI [] 1 r [] = true := by decide +kernel
theorem mk_2 : ∀ r, r < 281 → kd r = 2 → mkI [] 2 r [.int (Int32.ofNat (ln (r + 1)))] = true := by decide +kernel
theorem mk_3 : ∀ r, r < 281 → kd r = 3 → mkI [] 3 r [] = true := by decide +kernel
theorem mk_8 : ∀ r, r < 281 → kd r = 8 → mkI [] 8 r [] = true := by decide +kernel
theorem mk_4 : mkI [0, 1, 2, 3, 8] 4 46 [.ref 3] = true := by decide +kernel
theorem mk_5 : ∀ r, r < 281 → kd r = 5 → mkI [0, 1, 2, 3, 8] 5 r [] = true := by decide +kernel
theorem mk_6 : ∀ r, r < 281 → kd r = 6 → mkI [0, 1, 2, 3, 8] 6 r [] = true := by decide +kernel
theorem mk_7 : ∀ r, r < 281 → kd r = 7 → mkI [0, 1, 2, 3, 8] 7 r [] = true := by decide +kernel
theorem mk_9 : ∀ r, r < 281 → kd r = 9 → mkI [0, 1, 2, 3, 8] 9 r [] = true := by decide +kernel
theorem mk_10 : ∀ r, r < 281 → kd r = 10 → mkI [0, 1, 2, 3, 8] 10 r [] = true := by decide +kernel
theorem mk_11 : mkI [3, 4, 5, 6, 7, 9, 10] 11 1 [] = true := by decide +kernel
theorem mk_12 : mkI [] 12 251 [] = true := by decide +kernel
