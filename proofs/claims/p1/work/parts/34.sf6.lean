/-! WHAT IS ASKED OF EACH METHOD, TOGETHER, 6 -/
theorem mz_Kl12 : mz_kr mz_mk R_law0 "" code 2 (some .boolean) mz_Tl 1440 120 = true := by decide +kernel
theorem mz_Kl13 : mz_kr mz_mk R_law0 "" code 2 (some .boolean) mz_Tl 1560 120 = true := by decide +kernel
theorem mz_Kl14 : mz_kr mz_mk R_law0 "" code 2 (some .boolean) mz_Tl 1680 120 = true := by decide +kernel
theorem mz_Kl15 : mz_kr mz_mk R_law0 "" code 2 (some .boolean) mz_Tl 1800 120 = true := by decide +kernel
theorem mz_Kl16 : mz_kr mz_mk R_law0 "" code 2 (some .boolean) mz_Tl 1920 120 = true := by decide +kernel
theorem mz_Kl17 : mz_kr mz_mk R_law0 "" code 2 (some .boolean) mz_Tl 2040 120 = true := by decide +kernel
