/-! the class: contracts 60 on -/
theorem zyrc60 : zychks zymc zydc zyic 60 1 = true := by decide +kernel
theorem zyrc61 : zychks zymc zydc zyic 61 7 = true := by decide +kernel
theorem zyrc69 : zychks zymc zydc zyic 69 21 = true := by decide +kernel
