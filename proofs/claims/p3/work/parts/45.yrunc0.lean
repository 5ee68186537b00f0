/-! the class: contracts 11 on -/
theorem zyrc11 : zychks zymc zydc zyic 11 7 = true := by decide +kernel
theorem zyrc19 : zychks zymc zydc zyic 19 1 = true := by decide +kernel
theorem zyrc21 : zychks zymc zydc zyic 21 1 = true := by decide +kernel
theorem zyrc23 : zychks zymc zydc zyic 23 1 = true := by decide +kernel
theorem zyrc28 : zychks zymc zydc zyic 28 1 = true := by decide +kernel
theorem zyrc31 : zychks zymc zydc zyic 31 1 = true := by decide +kernel
theorem zyrc32 : zychks zymc zydc zyic 32 7 = true := by decide +kernel
