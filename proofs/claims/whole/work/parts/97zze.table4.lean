/-! ===== every boot stands the check, 4 ===== -/
theorem v_r34 : v_row 34 1 99 = true := by decide +kernel
theorem v_r35 : v_row 35 1 99 = true := by decide +kernel
theorem v_r36 : v_row 36 1 99 = true := by decide +kernel
theorem v_r37 : v_row 37 1 99 = true := by decide +kernel
theorem v_r38 : v_row 38 1 99 = true := by decide +kernel
theorem v_r39 : v_row 39 1 99 = true := by decide +kernel
theorem v_r40 : v_row 40 1 99 = true := by decide +kernel
theorem v_r41 : v_row 41 1 99 = true := by decide +kernel
theorem v_r42 : v_row 42 1 99 = true := by decide +kernel
theorem v_r43 : v_row 43 1 99 = true := by decide +kernel
theorem v_r44 : v_row 44 1 99 = true := by decide +kernel
