/-! the class: contracts 33 on -/
theorem zyrc33 : zychks zymc zydc zyic 33 1 = true := by decide +kernel
theorem zyrc34 : zychks zymc zydc zyic 34 20 = true := by decide +kernel
