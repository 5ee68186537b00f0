/-! print's table is checked: X11_saysWord -/
theorem zygg2 : zychks zymw zydr zyig 2 1 = true := by decide +kernel
