/-! the reference's table is checked, for all pairs, from 58 on -/
theorem zyrr58_1 : zyAll (fun c => zychks (zymr 1 (Nat.succ c)) zydr (zyir 1 (Nat.succ c)) 58 8) 5 = true := by decide +kernel
theorem zyrr58_2 : zyAll (fun c => zychks (zymr 2 (Nat.succ c)) zydr (zyir 2 (Nat.succ c)) 58 8) 5 = true := by decide +kernel
theorem zyrr58_3 : zyAll (fun c => zychks (zymr 3 (Nat.succ c)) zydr (zyir 3 (Nat.succ c)) 58 8) 5 = true := by decide +kernel
theorem zyrr58_4 : zyAll (fun c => zychks (zymr 4 (Nat.succ c)) zydr (zyir 4 (Nat.succ c)) 58 8) 5 = true := by decide +kernel
theorem zyrr58 : zyAllP (fun r c => zychks (zymr r c) zydr (zyir r c) 58 8) = true := zyAllP_4 zyrr58_1 zyrr58_2 zyrr58_3 zyrr58_4
