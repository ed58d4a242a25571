/-! the contracts are checked -/
theorem q70_t13 : (List.range 1).all (fun j => q70_ok (j + 122)) = true := by decide +kernel
theorem q70_t14 : (List.range 4).all (fun j => q70_ok (j + 123)) = true := by decide +kernel
