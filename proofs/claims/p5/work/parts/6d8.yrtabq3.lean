/-! put, take are checked: rows 4 -/
theorem zyrq4_1 : zychks (zymr 4 1) [] (zyiq 4 1) 1 4 = true := by decide +kernel
theorem zyrq4_2 : zychks (zymr 4 2) [] (zyiq 4 2) 1 4 = true := by decide +kernel
theorem zyrq4_3 : zychks (zymr 4 3) [] (zyiq 4 3) 1 4 = true := by decide +kernel
theorem zyrq4_4 : zychks (zymr 4 4) [] (zyiq 4 4) 1 4 = true := by decide +kernel
theorem zyrq4_5 : zychks (zymr 4 5) [] (zyiq 4 5) 1 4 = true := by decide +kernel
