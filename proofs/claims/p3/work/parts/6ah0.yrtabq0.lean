/-! put, take are checked: rows 1 -/
theorem zyrq1 : zyAll (fun c => zychks (zymr 1 (Nat.succ c)) [] (zyiq 1 (Nat.succ c)) 1 4) 5 = true := by decide +kernel
