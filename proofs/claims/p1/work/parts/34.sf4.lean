/-! WHAT IS ASKED OF EACH METHOD, TOGETHER, 4 -/
theorem mz_Kl0 : mz_kr mz_mk R_law0 "" code 2 (some .boolean) mz_Tl 0 120 = true := by decide +kernel
theorem mz_Kl1 : mz_kr mz_mk R_law0 "" code 2 (some .boolean) mz_Tl 120 120 = true := by decide +kernel
theorem mz_Kl2 : mz_kr mz_mk R_law0 "" code 2 (some .boolean) mz_Tl 240 120 = true := by decide +kernel
theorem mz_Kl3 : mz_kr mz_mk R_law0 "" code 2 (some .boolean) mz_Tl 360 120 = true := by decide +kernel
theorem mz_Kl4 : mz_kr mz_mk R_law0 "" code 2 (some .boolean) mz_Tl 480 120 = true := by decide +kernel
theorem mz_Kl5 : mz_kr mz_mk R_law0 "" code 2 (some .boolean) mz_Tl 600 120 = true := by decide +kernel
