/-! the reference's table is checked, for all pairs, from 54 on -/
theorem zyrr54 : zyAllP (fun r c => zychks (zymr r c) zydr (zyir r c) 54 4) = true := by decide +kernel
