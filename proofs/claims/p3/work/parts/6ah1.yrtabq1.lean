/-! put, take are checked: rows 2 -/
theorem zyrq2 : zyAll (fun c => zychks (zymr 2 (Nat.succ c)) [] (zyiq 2 (Nat.succ c)) 1 4) 5 = true := by decide +kernel
