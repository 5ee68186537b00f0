/-! put, take are checked: rows 4 -/
theorem zyrq4 : zyAll (fun c => zychks (zymr 4 (Nat.succ c)) [] (zyiq 4 (Nat.succ c)) 1 4) 5 = true := by decide +kernel
