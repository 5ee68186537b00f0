/-! the class: contracts 54 on -/
theorem zyrc54 : zychks zymc zydc zyic 54 1 = true := by decide +kernel
theorem zyrc55 : zychks zymc zydc zyic 55 7 = true := by decide +kernel
theorem zyrc63 : zychks zymc zydc zyic 63 22 = true := by decide +kernel
