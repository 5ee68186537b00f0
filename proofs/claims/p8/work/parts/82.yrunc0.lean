/-! the class: contracts 5 on -/
theorem zyrc5 : zychks zymc zydc zyic 5 20 = true := by decide +kernel
theorem zyrc25 : zychks zymc zydc zyic 25 1 = true := by decide +kernel
theorem zyrc26 : zychks zymc zydc zyic 26 7 = true := by decide +kernel
