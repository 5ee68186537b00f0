/-! the readers' table is checked -/
theorem zyll3_1 : zyAll (fun c => zychks (zymr 1 (Nat.succ c)) zydl (zyil 1 (Nat.succ c)) 3 5) 5 = true := by decide +kernel
theorem zyll3_2 : zyAll (fun c => zychks (zymr 2 (Nat.succ c)) zydl (zyil 2 (Nat.succ c)) 3 5) 5 = true := by decide +kernel
theorem zyll3_3 : zyAll (fun c => zychks (zymr 3 (Nat.succ c)) zydl (zyil 3 (Nat.succ c)) 3 5) 5 = true := by decide +kernel
theorem zyll3_4 : zyAll (fun c => zychks (zymr 4 (Nat.succ c)) zydl (zyil 4 (Nat.succ c)) 3 5) 5 = true := by decide +kernel
theorem zyll3 : zyAllP (fun r c => zychks (zymr r c) zydl (zyil r c) 3 5) = true := zyAllP_4 zyll3_1 zyll3_2 zyll3_3 zyll3_4
