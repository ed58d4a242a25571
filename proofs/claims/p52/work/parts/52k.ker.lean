/-! the contracts are checked -/
theorem q70_t26 : (List.range 25).all (fun j => q70_ok (j + 257)) = true := by decide +kernel
