noncomputable def zxbtL : zxE → Option Value → zxM → Bool := fun _ v _ => decide (v = some (.int 1))
noncomputable def zxs0 : zxS := ([(-2147483648, 2147483647), (-2147483648, 2147483647), (-2147483648, 2147483647), (-2147483648, 2147483647), (-2147483648, 2147483647), (-2147483648, 2147483647)], [(0, 0, [(0, .ref 99999)], [], 1000, 0, 0)], [])
set_option maxRecDepth 100000 in
theorem zxt1 : zxok zxbtL 6 (fun s => match s.2.1 with
  | [f] => Nat.beq f.2.1 7
  | _ => false) 3000 zxs0 = true := by decide +kernel
