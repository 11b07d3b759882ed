/-! ===== every boot stands the check, 8 ===== -/
theorem v_r78 : v_row 78 1 99 = true := by decide +kernel
theorem v_r79 : v_row 79 1 99 = true := by decide +kernel
theorem v_r80 : v_row 80 1 99 = true := by decide +kernel
theorem v_r81 : v_row 81 1 99 = true := by decide +kernel
theorem v_r82 : v_row 82 1 99 = true := by decide +kernel
theorem v_r83 : v_row 83 1 99 = true := by decide +kernel
theorem v_r84 : v_row 84 1 99 = true := by decide +kernel
theorem v_r85 : v_row 85 1 99 = true := by decide +kernel
theorem v_r86 : v_row 86 1 99 = true := by decide +kernel
theorem v_r87 : v_row 87 1 99 = true := by decide +kernel
theorem v_r88 : v_row 88 1 99 = true := by decide +kernel
