/-! the contracts are checked -/
theorem q70_t22 : (List.range 1).all (fun j => q70_ok (j + 187)) = true := by decide +kernel
