/-! put, take are checked: rows 2 -/
theorem zyrq2_1 : zychks (zymr 2 1) [] (zyiq 2 1) 1 4 = true := by decide +kernel
theorem zyrq2_2 : zychks (zymr 2 2) [] (zyiq 2 2) 1 4 = true := by decide +kernel
theorem zyrq2_3 : zychks (zymr 2 3) [] (zyiq 2 3) 1 4 = true := by decide +kernel
theorem zyrq2_4 : zychks (zymr 2 4) [] (zyiq 2 4) 1 4 = true := by decide +kernel
theorem zyrq2_5 : zychks (zymr 2 5) [] (zyiq 2 5) 1 4 = true := by decide +kernel
