/-! put, take are checked: rows 3 -/
theorem zyrq3 : zyAll (fun c => zychks (zymr 3 (Nat.succ c)) [] (zyiq 3 (Nat.succ c)) 1 4) 5 = true := by decide +kernel
