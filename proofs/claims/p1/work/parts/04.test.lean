noncomputable def zbtL : zW → List Nat → zM → Bool := fun _ v _ => zpop false (fun a _ => Nat.beq a 8) v
noncomputable def zm0 : zM := zrow (zrow (zrow (99, 0, []) 8) 8) 2
noncomputable def ze0 : List (Nat × Nat) := zrow (0, 4294967295) 6
set_option maxRecDepth 100000 in
theorem zt1 : zok zbtL 6 (fun _ _ y pc _ _ _ _ _ => zand (Nat.beq y 0) (Nat.beq pc 7)) 20000 (0, ze0) (zxCode 0) 0 0 [799995, 13, 13, 13] [] (1000, 0, 0) [] zm0 = true := by decide +kernel
