/-! ===== every boot stands the check, 3 ===== -/
theorem v_r23 : v_row 23 1 99 = true := by decide +kernel
theorem v_r24 : v_row 24 1 99 = true := by decide +kernel
theorem v_r25 : v_row 25 1 99 = true := by decide +kernel
theorem v_r26 : v_row 26 1 99 = true := by decide +kernel
theorem v_r27 : v_row 27 1 99 = true := by decide +kernel
theorem v_r28 : v_row 28 1 99 = true := by decide +kernel
theorem v_r29 : v_row 29 1 99 = true := by decide +kernel
theorem v_r30 : v_row 30 1 99 = true := by decide +kernel
theorem v_r31 : v_row 31 1 99 = true := by decide +kernel
theorem v_r32 : v_row 32 1 99 = true := by decide +kernel
theorem v_r33 : v_row 33 1 99 = true := by decide +kernel
