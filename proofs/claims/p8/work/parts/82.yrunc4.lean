/-! the class: contracts 189 on -/
theorem zyrc189 : zychks zymc zydc zyic 189 12 = true := by decide +kernel
theorem zyrc201 : zychks zymc zydc zyic 201 11 = true := by decide +kernel
