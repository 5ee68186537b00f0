/-! the class: contracts 39 on -/
theorem zyrc39 : zychks zymc zydc zyic 39 1 = true := by decide +kernel
theorem zyrc40 : zychks zymc zydc zyic 40 20 = true := by decide +kernel
