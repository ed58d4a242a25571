theorem q3_k0 : (List.range 16).all (fun k => bif Nat.beq (k + 0) 0 then true else q3_ckr (k + 0) 0 320) = true := by decide +kernel
theorem q3_k1 : (List.range 16).all (fun k => bif Nat.beq (k + 16) 0 then true else q3_ckr (k + 16) 0 320) = true := by decide +kernel
theorem q3_k2 : (List.range 16).all (fun k => bif Nat.beq (k + 32) 0 then true else q3_ckr (k + 32) 0 320) = true := by decide +kernel
theorem q3_k3 : (List.range 16).all (fun k => bif Nat.beq (k + 48) 0 then true else q3_ckr (k + 48) 0 320) = true := by decide +kernel
