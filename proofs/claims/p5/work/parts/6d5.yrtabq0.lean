/-! put, take are checked: rows 1 -/
theorem zyrq1_1 : zychks (zymr 1 1) [] (zyiq 1 1) 1 4 = true := by decide +kernel
theorem zyrq1_2 : zychks (zymr 1 2) [] (zyiq 1 2) 1 4 = true := by decide +kernel
theorem zyrq1_3 : zychks (zymr 1 3) [] (zyiq 1 3) 1 4 = true := by decide +kernel
theorem zyrq1_4 : zychks (zymr 1 4) [] (zyiq 1 4) 1 4 = true := by decide +kernel
theorem zyrq1_5 : zychks (zymr 1 5) [] (zyiq 1 5) 1 4 = true := by decide +kernel
