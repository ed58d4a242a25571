/-! the contracts are checked -/
theorem q70_t11 : (List.range 2).all (fun j => q70_ok (j + 116)) = true := by decide +kernel
theorem q70_t12 : (List.range 4).all (fun j => q70_ok (j + 118)) = true := by decide +kernel
