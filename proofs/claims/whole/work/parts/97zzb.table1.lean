/-! ===== every boot stands the check, 1 ===== -/
theorem v_r1 : v_row 1 1 99 = true := by decide +kernel
theorem v_r2 : v_row 2 1 99 = true := by decide +kernel
theorem v_r3 : v_row 3 1 99 = true := by decide +kernel
theorem v_r4 : v_row 4 1 99 = true := by decide +kernel
theorem v_r5 : v_row 5 1 99 = true := by decide +kernel
theorem v_r6 : v_row 6 1 99 = true := by decide +kernel
theorem v_r7 : v_row 7 1 99 = true := by decide +kernel
theorem v_r8 : v_row 8 1 99 = true := by decide +kernel
theorem v_r9 : v_row 9 1 99 = true := by decide +kernel
theorem v_r10 : v_row 10 1 99 = true := by decide +kernel
theorem v_r11 : v_row 11 1 99 = true := by decide +kernel
