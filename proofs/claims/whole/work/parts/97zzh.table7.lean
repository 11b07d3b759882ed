/-! ===== every boot stands the check, 7 ===== -/
theorem v_r67 : v_row 67 1 99 = true := by decide +kernel
theorem v_r68 : v_row 68 1 99 = true := by decide +kernel
theorem v_r69 : v_row 69 1 99 = true := by decide +kernel
theorem v_r70 : v_row 70 1 99 = true := by decide +kernel
theorem v_r71 : v_row 71 1 99 = true := by decide +kernel
theorem v_r72 : v_row 72 1 99 = true := by decide +kernel
theorem v_r73 : v_row 73 1 99 = true := by decide +kernel
theorem v_r74 : v_row 74 1 99 = true := by decide +kernel
theorem v_r75 : v_row 75 1 99 = true := by decide +kernel
theorem v_r76 : v_row 76 1 99 = true := by decide +kernel
theorem v_r77 : v_row 77 1 99 = true := by decide +kernel
