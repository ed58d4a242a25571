/-! the contracts are checked -/
theorem q70_t23 : (List.range 14).all (fun j => q70_ok (j + 188)) = true := by decide +kernel
theorem q70_t24 : (List.range 22).all (fun j => q70_ok (j + 202)) = true := by decide +kernel
theorem q70_t25 : (List.range 33).all (fun j => q70_ok (j + 224)) = true := by decide +kernel
