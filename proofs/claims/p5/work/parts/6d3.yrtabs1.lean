/-! the reference's table is checked, for all pairs, from 54 on -/
theorem zyAllP_4 {f : Nat → Nat → Bool} (q1 : zyAll (fun c => f 1 (Nat.succ c)) 5 = true) (q2 : zyAll (fun c => f 2 (Nat.succ c)) 5 = true) (q3 : zyAll (fun c => f 3 (Nat.succ c)) 5 = true) (q4 : zyAll (fun c => f 4 (Nat.succ c)) 5 = true) : zyAllP f = true := by
  show zand (zyAll (fun c => f 4 (Nat.succ c)) 5) (zand (zyAll (fun c => f 3 (Nat.succ c)) 5) (zand (zyAll (fun c => f 2 (Nat.succ c)) 5) (zand (zyAll (fun c => f 1 (Nat.succ c)) 5) true))) = true
  rw [q1, q2, q3, q4]
  rfl
theorem zyrr54_1 : zyAll (fun c => zychks (zymr 1 (Nat.succ c)) zydr (zyir 1 (Nat.succ c)) 54 4) 5 = true := by decide +kernel
theorem zyrr54_2 : zyAll (fun c => zychks (zymr 2 (Nat.succ c)) zydr (zyir 2 (Nat.succ c)) 54 4) 5 = true := by decide +kernel
theorem zyrr54_3 : zyAll (fun c => zychks (zymr 3 (Nat.succ c)) zydr (zyir 3 (Nat.succ c)) 54 4) 5 = true := by decide +kernel
theorem zyrr54_4 : zyAll (fun c => zychks (zymr 4 (Nat.succ c)) zydr (zyir 4 (Nat.succ c)) 54 4) 5 = true := by decide +kernel
theorem zyrr54 : zyAllP (fun r c => zychks (zymr r c) zydr (zyir r c) 54 4) = true := zyAllP_4 zyrr54_1 zyrr54_2 zyrr54_3 zyrr54_4
