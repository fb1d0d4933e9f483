/-! WHAT IS ASKED OF EACH METHOD, TOGETHER, 5 -/
theorem mz_Kl6 : mz_kr mz_mk R_law0 "" code 2 (some .boolean) mz_Tl 720 120 = true := by decide +kernel
theorem mz_Kl7 : mz_kr mz_mk R_law0 "" code 2 (some .boolean) mz_Tl 840 120 = true := by decide +kernel
theorem mz_Kl8 : mz_kr mz_mk R_law0 "" code 2 (some .boolean) mz_Tl 960 120 = true := by decide +kernel
theorem mz_Kl9 : mz_kr mz_mk R_law0 "" code 2 (some .boolean) mz_Tl 1080 120 = true := by decide +kernel
theorem mz_Kl10 : mz_kr mz_mk R_law0 "" code 2 (some .boolean) mz_Tl 1200 120 = true := by decide +kernel
theorem mz_Kl11 : mz_kr mz_mk R_law0 "" code 2 (some .boolean) mz_Tl 1320 120 = true := by decide +kernel
