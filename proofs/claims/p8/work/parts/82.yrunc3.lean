/-! the class: contracts 85 on -/
theorem zyrc85 : zychks zymc zydc zyic 85 21 = true := by decide +kernel
theorem zyrc106 : zychks zymc zydc zyic 106 83 = true := by decide +kernel
