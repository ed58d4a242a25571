theorem q31_n2 : q30_ok 5 (2) (2) 52 52 = true := by decide +kernel
theorem q31_n5 : q30_ok 5 (5) (5) 52 52 = true := by decide +kernel
theorem q31_n8 : q30_ok 5 (8) (8) 52 52 = true := by decide +kernel
theorem q31_n11 : q30_ok 5 (11) (11) 52 52 = true := by decide +kernel
theorem q31_n14 : q30_ok 5 (14) (14) 52 52 = true := by decide +kernel
theorem q31_n17 : q30_ok 5 (17) (17) 52 52 = true := by decide +kernel
theorem q31_n20 : q30_ok 5 (20) (20) 52 52 = true := by decide +kernel
