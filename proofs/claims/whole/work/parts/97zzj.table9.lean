/-! ===== every boot stands the check, 9 ===== -/
theorem v_r89 : v_row 89 1 99 = true := by decide +kernel
theorem v_r90 : v_row 90 1 99 = true := by decide +kernel
theorem v_r91 : v_row 91 1 99 = true := by decide +kernel
theorem v_r92 : v_row 92 1 99 = true := by decide +kernel
theorem v_r93 : v_row 93 1 99 = true := by decide +kernel
theorem v_r94 : v_row 94 1 99 = true := by decide +kernel
theorem v_r95 : v_row 95 1 99 = true := by decide +kernel
theorem v_r96 : v_row 96 1 99 = true := by decide +kernel
theorem v_r97 : v_row 97 1 99 = true := by decide +kernel
theorem v_r98 : v_row 98 1 99 = true := by decide +kernel
theorem v_r99 : v_row 99 1 99 = true := by decide +kernel
