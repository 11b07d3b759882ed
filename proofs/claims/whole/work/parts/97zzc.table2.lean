/-! ===== every boot stands the check, 2 ===== -/
theorem v_r12 : v_row 12 1 99 = true := by decide +kernel
theorem v_r13 : v_row 13 1 99 = true := by decide +kernel
theorem v_r14 : v_row 14 1 99 = true := by decide +kernel
theorem v_r15 : v_row 15 1 99 = true := by decide +kernel
theorem v_r16 : v_row 16 1 99 = true := by decide +kernel
theorem v_r17 : v_row 17 1 99 = true := by decide +kernel
theorem v_r18 : v_row 18 1 99 = true := by decide +kernel
theorem v_r19 : v_row 19 1 99 = true := by decide +kernel
theorem v_r20 : v_row 20 1 99 = true := by decide +kernel
theorem v_r21 : v_row 21 1 99 = true := by decide +kernel
theorem v_r22 : v_row 22 1 99 = true := by decide +kernel
