/-! ===== every boot stands the check, 5 ===== -/
theorem v_r45 : v_row 45 1 99 = true := by decide +kernel
theorem v_r46 : v_row 46 1 99 = true := by decide +kernel
theorem v_r47 : v_row 47 1 99 = true := by decide +kernel
theorem v_r48 : v_row 48 1 99 = true := by decide +kernel
theorem v_r49 : v_row 49 1 99 = true := by decide +kernel
theorem v_r50 : v_row 50 1 99 = true := by decide +kernel
theorem v_r51 : v_row 51 1 99 = true := by decide +kernel
theorem v_r52 : v_row 52 1 99 = true := by decide +kernel
theorem v_r53 : v_row 53 1 99 = true := by decide +kernel
theorem v_r54 : v_row 54 1 99 = true := by decide +kernel
theorem v_r55 : v_row 55 1 99 = true := by decide +kernel
