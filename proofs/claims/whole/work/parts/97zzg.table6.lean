/-! ===== every boot stands the check, 6 ===== -/
theorem v_r56 : v_row 56 1 99 = true := by decide +kernel
theorem v_r57 : v_row 57 1 99 = true := by decide +kernel
theorem v_r58 : v_row 58 1 99 = true := by decide +kernel
theorem v_r59 : v_row 59 1 99 = true := by decide +kernel
theorem v_r60 : v_row 60 1 99 = true := by decide +kernel
theorem v_r61 : v_row 61 1 99 = true := by decide +kernel
theorem v_r62 : v_row 62 1 99 = true := by decide +kernel
theorem v_r63 : v_row 63 1 99 = true := by decide +kernel
theorem v_r64 : v_row 64 1 99 = true := by decide +kernel
theorem v_r65 : v_row 65 1 99 = true := by decide +kernel
theorem v_r66 : v_row 66 1 99 = true := by decide +kernel
