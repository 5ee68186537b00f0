/-! print's table is checked: X11_saysSwitches -/
theorem zygg1 : zychks zymw zydr zyig 1 1 = true := by decide +kernel
