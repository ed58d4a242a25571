/-! the contracts are checked -/
theorem q70_t3 : (List.range 5).all (fun j => q70_ok (j + 87)) = true := by decide +kernel
theorem q70_t4 : (List.range 4).all (fun j => q70_ok (j + 92)) = true := by decide +kernel
theorem q70_t5 : (List.range 4).all (fun j => q70_ok (j + 96)) = true := by decide +kernel
theorem q70_t6 : (List.range 4).all (fun j => q70_ok (j + 100)) = true := by decide +kernel
