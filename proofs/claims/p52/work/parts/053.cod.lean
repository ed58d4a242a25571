theorem q3_k8 : (List.range 16).all (fun k => bif Nat.beq (k + 128) 0 then true else q3_ckr (k + 128) 0 320) = true := by decide +kernel
theorem q3_k9 : (List.range 16).all (fun k => bif Nat.beq (k + 144) 0 then true else q3_ckr (k + 144) 0 320) = true := by decide +kernel
theorem q3_k10 : (List.range 16).all (fun k => bif Nat.beq (k + 160) 0 then true else q3_ckr (k + 160) 0 320) = true := by decide +kernel
theorem q3_k11 : (List.range 16).all (fun k => bif Nat.beq (k + 176) 0 then true else q3_ckr (k + 176) 0 320) = true := by decide +kernel
