/-! the reference's table is checked, for all pairs, from 42 on -/
theorem zyrr42 : zyAllP (fun r c => zychks (zymr r c) zydr (zyir r c) 42 12) = true := by decide +kernel
