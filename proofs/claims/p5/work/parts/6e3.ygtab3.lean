/-! print's table is checked: X11_saysAll -/
theorem zygg3 : zychks zymw zydr zyig 3 1 = true := by decide +kernel
