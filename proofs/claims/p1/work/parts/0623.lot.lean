theorem q31_n0 : q30_ok 5 (-2147483648) (0) 52 52 = true := by decide +kernel
theorem q31_n3 : q30_ok 5 (3) (3) 52 52 = true := by decide +kernel
theorem q31_n6 : q30_ok 5 (6) (6) 52 52 = true := by decide +kernel
theorem q31_n9 : q30_ok 5 (9) (9) 52 52 = true := by decide +kernel
theorem q31_n12 : q30_ok 5 (12) (12) 52 52 = true := by decide +kernel
theorem q31_n15 : q30_ok 5 (15) (15) 52 52 = true := by decide +kernel
theorem q31_n18 : q30_ok 5 (18) (18) 52 52 = true := by decide +kernel
theorem q31_n21 : q30_ok 5 (21) (2147483647) 52 52 = true := by decide +kernel
