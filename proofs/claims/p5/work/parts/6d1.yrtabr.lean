/-! the reference's table is checked, for all pairs -/
theorem zyrr13 : zyAllP (fun r c => zychks (zymr r c) zydr (zyir r c) 13 7) = true := by decide +kernel
theorem zyrr23 : zyAllP (fun r c => zychks (zymr r c) zydr (zyir r c) 23 19) = true := by decide +kernel
