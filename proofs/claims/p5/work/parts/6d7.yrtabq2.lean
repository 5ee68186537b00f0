/-! put, take are checked: rows 3 -/
theorem zyrq3_1 : zychks (zymr 3 1) [] (zyiq 3 1) 1 4 = true := by decide +kernel
theorem zyrq3_2 : zychks (zymr 3 2) [] (zyiq 3 2) 1 4 = true := by decide +kernel
theorem zyrq3_3 : zychks (zymr 3 3) [] (zyiq 3 3) 1 4 = true := by decide +kernel
theorem zyrq3_4 : zychks (zymr 3 4) [] (zyiq 3 4) 1 4 = true := by decide +kernel
theorem zyrq3_5 : zychks (zymr 3 5) [] (zyiq 3 5) 1 4 = true := by decide +kernel
