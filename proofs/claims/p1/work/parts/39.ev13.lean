/-! THE RUNS, 13 -/
theorem mz_e25_4 : mz_grp 4 (mz_prod ((1, [(2147483656, 2147483656), (2147483657, 2147483657)]) :: []) (mz_base 25)) = true := by decide +kernel
theorem mz_e25_5 : mz_grp 4 (mz_prod ((1, [(2147483658, 2147483658), (2147483659, 4294967295)]) :: []) (mz_base 25)) = true := by decide +kernel
theorem mz_e26_0 : mz_grp 4 (mz_prod ((1, [(0, 2147483647), (2147483648, 2147483648), (2147483649, 2147483649), (2147483650, 2147483650), (2147483651, 2147483657), (2147483658, 2147483747), (2147483748, 4294967295)]) :: []) (mz_base 26)) = true := by decide +kernel
theorem mz_e27_0 : mz_grp 4 (mz_prod ((1, [(0, 2147483647), (2147483648, 2147483648), (2147483649, 2147483649), (2147483650, 2147483650), (2147483651, 2147483657), (2147483658, 2147483747), (2147483748, 4294967295)]) :: []) (mz_base 27)) = true := by decide +kernel
theorem mz_e28_0 : mz_grp 4 (mz_prod ((1, [(0, 4294967295)]) :: []) (mz_base 28)) = true := by decide +kernel
theorem mz_e29_0 : mz_grp 4 (mz_prod ((1, [(0, 2147483647), (2147483648, 2147483648), (2147483649, 2147483649), (2147483650, 4294967295)]) :: [(2, [(0, 2147483647), (2147483648, 2147483648), (2147483649, 2147483649), (2147483650, 2147483650), (2147483651, 4294967295)])]) (mz_base 29)) = true := by decide +kernel
theorem mz_ed : mz_grp 4 ((List.range 34).map fun k => mz_base (k + 30)) = true := by decide +kernel
theorem mz_es0 : mz_grp 0 [[]] = true := by decide +kernel
theorem mz_es1 : mz_grp 1 [[]] = true := by decide +kernel
theorem mz_es2 : mz_grp 2 [[]] = true := by decide +kernel
theorem mz_es3 : mz_grp 3 [[]] = true := by decide +kernel
