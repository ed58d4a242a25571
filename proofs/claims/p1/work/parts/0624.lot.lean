theorem q31_n1 : q30_ok 5 (1) (1) 52 52 = true := by decide +kernel
theorem q31_n4 : q30_ok 5 (4) (4) 52 52 = true := by decide +kernel
theorem q31_n7 : q30_ok 5 (7) (7) 52 52 = true := by decide +kernel
theorem q31_n10 : q30_ok 5 (10) (10) 52 52 = true := by decide +kernel
theorem q31_n13 : q30_ok 5 (13) (13) 52 52 = true := by decide +kernel
theorem q31_n16 : q30_ok 5 (16) (16) 52 52 = true := by decide +kernel
theorem q31_n19 : q30_ok 5 (19) (19) 52 52 = true := by decide +kernel
