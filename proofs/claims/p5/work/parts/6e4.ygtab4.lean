/-! print's table is checked: X11_print -/
theorem zygg4 : zychks zymw zydr zyig 4 1 = true := by decide +kernel
