/-! the class: contracts 212 on -/
theorem zyrc212 : zychks zymc zydc zyic 212 11 = true := by decide +kernel
theorem zyrc223 : zychks zymc zydc zyic 223 11 = true := by decide +kernel
