/-! the reference's table is checked, for all pairs, from 58 on -/
theorem zyrr58 : zyAllP (fun r c => zychks (zymr r c) zydr (zyir r c) 58 8) = true := by decide +kernel
