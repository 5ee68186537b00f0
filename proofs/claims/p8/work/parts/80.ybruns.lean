/-! the frames are built, for each pair of rows and columns -/
theorem zyrb2_1 : zyrunbs 2 1 = true := by decide +kernel
theorem zyrb2_2 : zyrunbs 2 2 = true := by decide +kernel
theorem zyrb2_3 : zyrunbs 2 3 = true := by decide +kernel
theorem zyrb2_4 : zyrunbs 2 4 = true := by decide +kernel
theorem zyrb19_1 : zyrunbs 19 1 = true := by decide +kernel
theorem zyrb19_2 : zyrunbs 19 2 = true := by decide +kernel
theorem zyrb19_3 : zyrunbs 19 3 = true := by decide +kernel
theorem zyrb19_4 : zyrunbs 19 4 = true := by decide +kernel
