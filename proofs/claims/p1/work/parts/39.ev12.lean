/-! THE RUNS, 12 -/
theorem mz_e25_0 : mz_grp 4 (mz_prod ((1, [(0, 2147483648), (2147483649, 2147483649)]) :: []) (mz_base 25)) = true := by decide +kernel
theorem mz_e25_1 : mz_grp 4 (mz_prod ((1, [(2147483650, 2147483650), (2147483651, 2147483651)]) :: []) (mz_base 25)) = true := by decide +kernel
theorem mz_e25_2 : mz_grp 4 (mz_prod ((1, [(2147483652, 2147483652), (2147483653, 2147483653)]) :: []) (mz_base 25)) = true := by decide +kernel
theorem mz_e25_3 : mz_grp 4 (mz_prod ((1, [(2147483654, 2147483654), (2147483655, 2147483655)]) :: []) (mz_base 25)) = true := by decide +kernel
