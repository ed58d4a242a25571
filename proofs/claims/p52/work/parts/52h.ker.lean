/-! the contracts are checked -/
theorem q70_t20 : (List.range 1).all (fun j => q70_ok (j + 185)) = true := by decide +kernel
theorem q70_t21 : (List.range 1).all (fun j => q70_ok (j + 186)) = true := by decide +kernel
