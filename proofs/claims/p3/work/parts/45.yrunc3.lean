/-! the class: contracts 90 on -/
theorem zyrc90 : zychks zymc zydc zyic 90 18 = true := by decide +kernel
theorem zyrc108 : zychks zymc zydc zyic 108 81 = true := by decide +kernel
