/-! the class: contracts 234 on -/
theorem zyrc234 : zychks zymc zydc zyic 234 11 = true := by decide +kernel
theorem zyrc245 : zychks zymc zydc zyic 245 25 = true := by decide +kernel
theorem zyrc270 : zychks zymc zydc zyic 270 7 = true := by decide +kernel
