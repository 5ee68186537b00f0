section
/-! THE REFERENCE reads a switch (printed by m21.py) -/
noncomputable def zxfsw_zx0 : zyXp := (0, [595, 13, 13, 13, 13], [], [], [], [])
noncomputable def zpfsw_z : zyPh := (0, [595, 13, 13, 13, 13], [(0, 4294967295), (0, 4294967295), (0, 4294967295), (0, 4294967295), (0, 4294967295)], [], [])
noncomputable def zxfsw_ax0 : zyXp := (1, [595, 13, 13, 13, 13], [595], [], [], [])
noncomputable def zpfsw_a : zyPh := (0, [595, 13, 13, 13, 13], [(0, 4294967295), (0, 4294967295), (0, 4294967295), (0, 4294967295), (0, 4294967295)], [], [])
noncomputable def zxfsw_bx0 : zyXp := (12, [595, 13, 13, 13, 13], [343597383673, 0, 595], [(3, 240518168577, 171798691841, 240518168569), (3, 274877906945, 206158430201, 206158430209), (1, 309237645313, 240518168577, 274877906945)], [(171798691841, 2147483649, 2147483652), (206158430209, 2147483649, 2147483653), (240518168577, 2147483648, 2147483664), (274877906945, 2147483648, 2147483663), (309237645313, 2147483648, 2147483679), (343597383673, 2147483647, 2147483678)], [])
noncomputable def zpfsw_b : zyPh := (4, [595, 13, 13, 13, 13], [(0, 4294967295), (0, 4294967295), (0, 4294967295), (0, 4294967295), (0, 4294967295), (2147483649, 2147483652), (2147483649, 2147483653)], [(1228800, 171798691841), (1228801, 206158430209)], [])
noncomputable def zxfsw_cx0 : zyXp := (23, [595, 171798691841, 0, 0, 8], [], [], [], [])
noncomputable def zpfsw_c : zyPh := (15, [595, 13, 13, 13, 13], [(0, 4294967295), (0, 4294967295), (0, 4294967295), (0, 4294967295), (0, 4294967295), (0, 4294967295)], [], [171798691841])
noncomputable def zxfsw_dx0 : zyXp := (78, [595, 34359738369, 68719476745, 377957122049, 13], [595], [(22, 0, 171798691841, 0), (23, 0, 137438953473, 0), (22, 0, 274877906945, 16), (21, 0, 309237645313, 0), (21, 0, 8, 309237645313), (20, 0, 68719476737, 32), (21, 0, 0, 171798691841), (8, 343597383681, 309237645313, 68719476737), (7, 377957122049, 103079215105, 343597383681)], [(68719476737, 2147483648, 2147483651), (137438953473, 2147483649, 2147483649), (171798691841, 2147483648, 2147483648), (274877906945, 2147483650, 2147483650), (309237645313, 2147483648, 2147483649), (343597383681, 2147483648, 2147483656), (68719476745, 2147483649, 2147483652)], [(1212452, 171798691841), (1212453, 206158430209)])
noncomputable def zxfsw_dx1 : zyXp := (107, [595, 34359738369, 68719476737, 103079215105, 13], [], [(22, 0, 171798691841, 0), (22, 0, 137438953473, 0), (21, 0, 0, 171798691841)], [(68719476737, 2147483648, 2147483652), (137438953473, 2147483648, 2147483648), (171798691841, 2147483648, 2147483648)], [(1212452, 171798691841), (1212453, 206158430209)])
noncomputable def zxfsw_dr0 : zyXp := (0, [], [], [(23, 0, 171798691841, 0), (20, 0, 0, 171798691841)], [(171798691841, 2147483649, 2147483657)], [(1212452, 171798691841), (1212453, 206158430209)])
noncomputable def zxfsw_dr1 : zyXp := (0, [], [], [(22, 0, 171798691841, 0), (23, 0, 137438953473, 0), (23, 0, 274877906945, 16), (21, 0, 0, 171798691841), (23, 0, 274877906945, 32), (21, 0, 309237645313, 0), (20, 0, 8, 309237645313), (20, 0, 68719476737, 32)], [(68719476737, 2147483648, 2147483651), (137438953473, 2147483649, 2147483649), (171798691841, 2147483648, 2147483648), (240518168577, 2147483648, 2147484548), (274877906945, 2147483651, 2147483651), (309237645313, 2147483650, 2147484647)], [(1212452, 16), (1212453, 240518168577)])
noncomputable def zxfsw_dr2 : zyXp := (0, [], [], [(22, 0, 171798691841, 0), (23, 0, 137438953473, 0), (23, 0, 274877906945, 16), (21, 0, 0, 171798691841), (23, 0, 274877906945, 32), (21, 0, 309237645313, 0), (20, 0, 8, 309237645313), (21, 0, 68719476737, 32)], [(68719476737, 2147483652, 2147483652), (137438953473, 2147483649, 2147483649), (171798691841, 2147483648, 2147483648), (240518168577, 2147483648, 2147484548), (274877906945, 2147483651, 2147483651), (309237645313, 2147483650, 2147484647)], [(1212452, 16), (1212453, 240518168577)])
noncomputable def zxfsw_dr3 : zyXp := (0, [], [], [(22, 0, 171798691841, 0), (23, 0, 137438953473, 0), (23, 0, 274877906945, 16), (21, 0, 0, 171798691841), (23, 0, 274877906945, 32), (21, 0, 309237645313, 0), (21, 0, 8, 309237645313), (20, 0, 68719476737, 32)], [(68719476737, 2147483648, 2147483651), (137438953473, 2147483649, 2147483649), (171798691841, 2147483648, 2147483648), (240518168577, 2147483648, 2147484548), (274877906945, 2147483651, 2147483651), (309237645313, 2147483648, 2147483649)], [(1212452, 16), (1212453, 240518168577)])
noncomputable def zxfsw_dr4 : zyXp := (0, [], [], [(22, 0, 171798691841, 0), (23, 0, 137438953473, 0), (23, 0, 274877906945, 16), (21, 0, 0, 171798691841), (23, 0, 274877906945, 32), (21, 0, 309237645313, 0), (21, 0, 8, 309237645313), (21, 0, 68719476737, 32)], [(68719476737, 2147483652, 2147483652), (137438953473, 2147483649, 2147483649), (171798691841, 2147483648, 2147483648), (240518168577, 2147483648, 2147484548), (274877906945, 2147483651, 2147483651), (309237645313, 2147483648, 2147483649)], [(1212452, 16), (1212453, 240518168577)])
noncomputable def zxfsw_dr5 : zyXp := (0, [], [], [(22, 0, 171798691841, 0), (23, 0, 137438953473, 0), (23, 0, 274877906945, 16), (21, 0, 0, 171798691841), (22, 0, 274877906945, 32), (21, 0, 309237645313, 0), (20, 0, 8, 309237645313), (20, 0, 68719476737, 32)], [(68719476737, 2147483648, 2147483651), (137438953473, 2147483649, 2147483649), (171798691841, 2147483648, 2147483648), (240518168577, 2147483648, 2147484548), (274877906945, 2147483652, 2147483652), (309237645313, 2147483650, 2147484647)], [(1212452, 8), (1212453, 240518168577)])
noncomputable def zxfsw_dr6 : zyXp := (0, [], [], [(22, 0, 171798691841, 0), (23, 0, 137438953473, 0), (23, 0, 274877906945, 16), (21, 0, 0, 171798691841), (22, 0, 274877906945, 32), (21, 0, 309237645313, 0), (20, 0, 8, 309237645313), (21, 0, 68719476737, 32)], [(68719476737, 2147483652, 2147483652), (137438953473, 2147483649, 2147483649), (171798691841, 2147483648, 2147483648), (240518168577, 2147483648, 2147484548), (274877906945, 2147483652, 2147483652), (309237645313, 2147483650, 2147484647)], [(1212452, 8), (1212453, 240518168577)])
noncomputable def zxfsw_dr7 : zyXp := (0, [], [], [(22, 0, 171798691841, 0), (23, 0, 137438953473, 0), (23, 0, 274877906945, 16), (21, 0, 0, 171798691841), (22, 0, 274877906945, 32), (21, 0, 309237645313, 0), (21, 0, 8, 309237645313), (20, 0, 68719476737, 32)], [(68719476737, 2147483648, 2147483651), (137438953473, 2147483649, 2147483649), (171798691841, 2147483648, 2147483648), (240518168577, 2147483648, 2147484548), (274877906945, 2147483652, 2147483652), (309237645313, 2147483648, 2147483649)], [(1212452, 8), (1212453, 240518168577)])
noncomputable def zxfsw_dr8 : zyXp := (0, [], [], [(22, 0, 171798691841, 0), (23, 0, 137438953473, 0), (23, 0, 274877906945, 16), (21, 0, 0, 171798691841), (22, 0, 274877906945, 32), (21, 0, 309237645313, 0), (21, 0, 8, 309237645313), (21, 0, 68719476737, 32)], [(68719476737, 2147483652, 2147483652), (137438953473, 2147483649, 2147483649), (171798691841, 2147483648, 2147483648), (240518168577, 2147483648, 2147484548), (274877906945, 2147483652, 2147483652), (309237645313, 2147483648, 2147483649)], [(1212452, 8), (1212453, 240518168577)])
noncomputable def zxfsw_dr9 : zyXp := (0, [], [], [(22, 0, 171798691841, 0), (23, 0, 137438953473, 0), (23, 0, 274877906945, 16), (21, 0, 0, 171798691841), (23, 0, 274877906945, 32), (21, 0, 309237645313, 0), (20, 0, 8, 309237645313), (20, 0, 68719476737, 32)], [(68719476737, 2147483648, 2147483651), (137438953473, 2147483649, 2147483649), (171798691841, 2147483648, 2147483648), (240518168577, 2147483648, 2147484548), (274877906945, 2147483648, 2147483649), (309237645313, 2147483650, 2147484647)], [(1212452, 16), (1212453, 240518168577)])
noncomputable def zxfsw_dr10 : zyXp := (0, [], [], [(22, 0, 171798691841, 0), (23, 0, 137438953473, 0), (23, 0, 274877906945, 16), (21, 0, 0, 171798691841), (23, 0, 274877906945, 32), (21, 0, 309237645313, 0), (20, 0, 8, 309237645313), (21, 0, 68719476737, 32)], [(68719476737, 2147483652, 2147483652), (137438953473, 2147483649, 2147483649), (171798691841, 2147483648, 2147483648), (240518168577, 2147483648, 2147484548), (274877906945, 2147483648, 2147483649), (309237645313, 2147483650, 2147484647)], [(1212452, 16), (1212453, 240518168577)])
noncomputable def zxfsw_dr11 : zyXp := (0, [], [], [(22, 0, 171798691841, 0), (23, 0, 137438953473, 0), (23, 0, 274877906945, 16), (21, 0, 0, 171798691841), (23, 0, 274877906945, 32), (21, 0, 309237645313, 0), (21, 0, 8, 309237645313), (20, 0, 68719476737, 32)], [(68719476737, 2147483648, 2147483651), (137438953473, 2147483649, 2147483649), (171798691841, 2147483648, 2147483648), (240518168577, 2147483648, 2147484548), (274877906945, 2147483648, 2147483649), (309237645313, 2147483648, 2147483649)], [(1212452, 16), (1212453, 240518168577)])
noncomputable def zxfsw_dr12 : zyXp := (0, [], [], [(22, 0, 171798691841, 0), (23, 0, 137438953473, 0), (23, 0, 274877906945, 16), (21, 0, 0, 171798691841), (23, 0, 274877906945, 32), (21, 0, 309237645313, 0), (21, 0, 8, 309237645313), (21, 0, 68719476737, 32)], [(68719476737, 2147483652, 2147483652), (137438953473, 2147483649, 2147483649), (171798691841, 2147483648, 2147483648), (240518168577, 2147483648, 2147484548), (274877906945, 2147483648, 2147483649), (309237645313, 2147483648, 2147483649)], [(1212452, 16), (1212453, 240518168577)])
noncomputable def zxfsw_dr13 : zyXp := (0, [], [], [(22, 0, 171798691841, 0), (23, 0, 137438953473, 0), (22, 0, 274877906945, 16), (21, 0, 309237645313, 0), (20, 0, 8, 309237645313), (21, 0, 0, 171798691841), (20, 0, 68719476737, 32)], [(68719476737, 2147483648, 2147483651), (137438953473, 2147483649, 2147483649), (171798691841, 2147483648, 2147483648), (240518168577, 2147483648, 2147484548), (274877906945, 2147483650, 2147483650), (309237645313, 2147483650, 2147484647)], [(1212452, 24), (1212453, 240518168577)])
noncomputable def zxfsw_dr14 : zyXp := (0, [], [], [(22, 0, 171798691841, 0), (23, 0, 137438953473, 0), (22, 0, 274877906945, 16), (21, 0, 309237645313, 0), (20, 0, 8, 309237645313), (21, 0, 0, 171798691841), (21, 0, 68719476737, 32)], [(68719476737, 2147483652, 2147483652), (137438953473, 2147483649, 2147483649), (171798691841, 2147483648, 2147483648), (240518168577, 2147483648, 2147484548), (274877906945, 2147483650, 2147483650), (309237645313, 2147483650, 2147484647)], [(1212452, 24), (1212453, 240518168577)])
noncomputable def zxfsw_dr15 : zyXp := (0, [], [], [(22, 0, 171798691841, 0), (23, 0, 137438953473, 0), (22, 0, 274877906945, 16), (21, 0, 309237645313, 0), (21, 0, 8, 309237645313), (21, 0, 68719476737, 32), (21, 0, 0, 171798691841)], [(68719476737, 2147483652, 2147483652), (137438953473, 2147483649, 2147483649), (171798691841, 2147483648, 2147483648), (240518168577, 2147483648, 2147484548), (274877906945, 2147483650, 2147483650), (309237645313, 2147483648, 2147483649)], [(1212452, 48), (1212453, 240518168577)])
noncomputable def zpfsw_d : zyPh := (23, [595, 34359738369, 68719476737, 103079215105, 137438953473], [(0, 4294967295), (0, 4294967295), (2147483648, 2147483652), (0, 4294967295), (2147483648, 2147483649), (2147483648, 2147483657), (0, 4294967295), (2147483648, 2147484548), (2147483648, 2147483652), (2147483648, 2147484647)], [(1212452, 171798691841), (1212453, 206158430209), (1212454, 240518168577), (1212456, 274877906945), (1212457, 309237645313)], [])
noncomputable def zxfsw_d2x0 : zyXp := (116, [595, 34359738369, 68719476737, 103079215105, 13], [103079215105, 34359738433, 603], [], [(34359738369, 2147483648, 2147483678), (68719476737, 2147483649, 2147483652), (34359738433, 2147483656, 2147483686)], [])
noncomputable def zpfsw_d2 : zyPh := (107, [595, 34359738369, 68719476737, 103079215105, 13], [(0, 4294967295), (2147483648, 2147483678), (2147483649, 2147483652), (0, 4294967295), (0, 4294967295)], [], [])
noncomputable def zxfsw_ex0 : zyXp := (23, [595, 34359738369, 68719476737, 103079215105, 0], [], [(23, 0, 171798691841, 16)], [(68719476737, 2147483649, 2147483652), (171798691841, 2147483651, 2147483652)], [])
noncomputable def zxfsw_ex1 : zyXp := (23, [595, 34359738369, 68719476737, 103079215105, 0], [], [(23, 0, 171798691841, 16)], [(68719476737, 2147483649, 2147483652), (171798691841, 2147483648, 2147483649)], [])
noncomputable def zxfsw_ex2 : zyXp := (23, [595, 34359738369, 68719476737, 103079215105, 8], [], [(22, 0, 171798691841, 16)], [(68719476737, 2147483649, 2147483652), (171798691841, 2147483650, 2147483650)], [])
noncomputable def zpfsw_e : zyPh := (81, [595, 34359738369, 68719476737, 103079215105, 13], [(0, 4294967295), (0, 4294967295), (2147483649, 2147483652), (0, 4294967295), (0, 4294967295), (2147483648, 2147483652)], [(1212456, 171798691841)], [])
noncomputable def zxfsw_fx0 : zyXp := (126, [595, 34359738369, 68719476737, 103079215105, 13], [68719476737, 34359738689, 603], [], [(34359738369, 2147483648, 2147483678), (68719476737, 2147483649, 2147483652), (34359738689, 2147483688, 2147483718)], [])
noncomputable def zpfsw_f : zyPh := (117, [595, 34359738369, 68719476737, 103079215105, 13], [(0, 4294967295), (2147483648, 2147483678), (2147483649, 2147483652), (0, 4294967295), (0, 4294967295)], [], [])
noncomputable def zxfsw_gr0 : zyXp := (0, [], [], [], [], [])
noncomputable def zpfsw_g : zyPh := (127, [595, 13, 13, 13, 13], [(0, 4294967295), (0, 4294967295), (0, 4294967295), (0, 4294967295), (0, 4294967295)], [], [])
noncomputable def zpfsw (i : Nat) : zyPh := zif (Nat.beq i 0) (zpfsw_z) (zif (Nat.beq i 1) (zpfsw_a) (zif (Nat.beq i 2) (zpfsw_b) (zif (Nat.beq i 3) (zpfsw_c) (zif (Nat.beq i 4) (zpfsw_d) (zif (Nat.beq i 5) (zpfsw_d2) (zif (Nat.beq i 6) (zpfsw_e) (zif (Nat.beq i 7) (zpfsw_f) (zpfsw_g))))))))
noncomputable def zXfsw (i : Nat) : List zyXp := zif (Nat.beq i 0) ([zxfsw_zx0]) (zif (Nat.beq i 1) ([zxfsw_ax0]) (zif (Nat.beq i 2) ([zxfsw_bx0]) (zif (Nat.beq i 3) ([zxfsw_cx0]) (zif (Nat.beq i 4) ([zxfsw_dx0, zxfsw_dx1]) (zif (Nat.beq i 5) ([zxfsw_d2x0]) (zif (Nat.beq i 6) ([zxfsw_ex0, zxfsw_ex1, zxfsw_ex2]) (zif (Nat.beq i 7) ([zxfsw_fx0]) ([]))))))))
noncomputable def zRfsw (i : Nat) : List zyXp := zif (Nat.beq i 0) ([]) (zif (Nat.beq i 1) ([]) (zif (Nat.beq i 2) ([]) (zif (Nat.beq i 3) ([]) (zif (Nat.beq i 4) ([zxfsw_dr0, zxfsw_dr1, zxfsw_dr2, zxfsw_dr3, zxfsw_dr4, zxfsw_dr5, zxfsw_dr6, zxfsw_dr7, zxfsw_dr8, zxfsw_dr9, zxfsw_dr10, zxfsw_dr11, zxfsw_dr12, zxfsw_dr13, zxfsw_dr14, zxfsw_dr15]) (zif (Nat.beq i 5) ([]) (zif (Nat.beq i 6) ([]) (zif (Nat.beq i 7) ([]) ([zxfsw_gr0]))))))))
noncomputable def zFfsw (i : Nat) : zyR := zif (Nat.beq i 0) ([]) (zif (Nat.beq i 1) ([]) (zif (Nat.beq i 2) ([]) (zif (Nat.beq i 3) ([]) (zif (Nat.beq i 4) ([(74, 36, 37)]) (zif (Nat.beq i 5) ([]) (zif (Nat.beq i 6) ([]) (zif (Nat.beq i 7) ([]) ([]))))))))
noncomputable def zSfsw (i : Nat) : Nat := zif (Nat.beq i 0) (0) (zif (Nat.beq i 1) (0) (zif (Nat.beq i 2) (0) (zif (Nat.beq i 3) (0) (zif (Nat.beq i 4) (0) (zif (Nat.beq i 5) (0) (zif (Nat.beq i 6) (0) (zif (Nat.beq i 7) (0) (0))))))))
/-- a switch's program is read -/
def xΦsw (_ : Nat → Int) (E : zyEm) : Prop := xE E 74 36 = 0 ∧ xE E 74 39 ≤ xE E 74 42 ∧ (1 ≤ xE E 75 0 ∧ xE E 75 0 ≤ 4) ∧ (1 ≤ xE E 75 1 ∧ xE E 75 1 ≤ 5)
def xΨsw (_ : Nat → Int) (E E2 : zyEm) (_ : Int) : Prop := xRs (xE E 84) (xE E 74 42) E2 (pSwitch (xE E 84) (xE E 74 42) (xE E 74 39) (xE E 75))
noncomputable def fpfsw : zyR := [(74, 36, 41), (74, 43, 43), (75, 8, 70)]
theorem zyfsw_run : zyrS zymx zxi321 (321, 0, 0, 0, 0) 5 zpfsw (fun _ _ => []) zFfsw zSfsw zXfsw zRfsw 9 = true := by decide +kernel
theorem zyfsw_ck : zyAll (fun i => xsubR (zFfsw i) fpfsw && ((zXfsw i).all xckX && (zRfsw i).all (fun x => xckX x && xrtB false x))) 9 = true := by decide +kernel
def xIfsw (i : Nat) (x0 : Nat → Int) (E0 : zyEm) (v : Nat → Int) (E : zyEm) : Prop := if i = 0 then (E = E0) else if i = 1 then (E = E0) else if i = 2 then (xE E 74 36 = 0 ∧ (∀ k, xE E 75 k = xE E0 75 k) ∧ ((1 ≤ xE E0 75 0 ∧ xE E0 75 0 ≤ 4) ∧ (1 ≤ xE E0 75 1 ∧ xE E0 75 1 ≤ 5)) ∧ ((xE E0 74 39)) ≤ (xE E0 74 42) ∧ xRD (xE E0 84) (xE E0 74 42) ((xE E0 74 39)) E) else if i = 3 then ((∀ k, xE E 75 k = xE E0 75 k) ∧ (xE E 74 36 = 0 → (0 ≤ (v 5) ∧ (v 5) ≤ 30) ∧ (tNx (xE E0 84) (xE E0 74 42) (xE E0 74 39)) ≤ (xE E0 74 42) ∧ xRD (xE E0 84) (xE E0 74 42) (tNx (xE E0 84) (xE E0 74 42) (xE E0 74 39)) E ∧ pSwitch (xE E0 84) (xE E0 74 42) (xE E0 74 39) (xE E0 75) = pNum (xE E0 84) (xE E0 74 42) (tNx (xE E0 84) (xE E0 74 42) (xE E0 74 39)) 0 1 (fun b p2 => pBits (xE E0 84) (xE E0 74 42) (xE E0 75) (v 5) 3 p2 1 b)) ∧ (¬ xE E 74 36 = 0 → xEr E (pSwitch (xE E0 84) (xE E0 74 42) (xE E0 74 39) (xE E0 75)))) else if i = 4 then ((∀ k, xE E 75 k = xE E0 75 k) ∧ (xE E 74 36 = 0 → (0 ≤ (v 1) ∧ (v 1) ≤ 30) ∧ ∃ p, (p) ≤ (xE E0 74 42) ∧ xRD (xE E0 84) (xE E0 74 42) (p) E ∧ (((v 2) = 0 ∧ (v 3) = 0 ∧ (v 4) = 1 ∧ pSwitch (xE E0 84) (xE E0 74 42) (xE E0 74 39) (xE E0 75) = pNum (xE E0 84) (xE E0 74 42) p 0 1 (fun b p2 => pBits (xE E0 84) (xE E0 74 42) (xE E0 75) (v 1) 3 p2 1 b)) ∨ (1 ≤ (v 2) ∧ (tKd (xE E0 84) (xE E0 74 42) p = 3 ↔ (v 4) = 1) ∧ pSwitch (xE E0 84) (xE E0 74 42) (xE E0 74 39) (xE E0 75) = pBits (xE E0 84) (xE E0 74 42) (xE E0 75) (v 1) (4 - (v 2)).toNat p (v 2) (v 3)))) ∧ (¬ xE E 74 36 = 0 → xEr E (pSwitch (xE E0 84) (xE E0 74 42) (xE E0 74 39) (xE E0 75)))) else if i = 5 then (xE E 74 36 = 0 ∧ (∀ k, xE E 75 k = xE E0 75 k) ∧ ∃ p, (p) ≤ (xE E0 74 42) ∧ xRD (xE E0 84) (xE E0 74 42) (p) E ∧ pSwitch (xE E0 84) (xE E0 74 42) (xE E0 74 39) (xE E0 75) = .ok (p, uS (uS (xE E0 75) (8 + (v 1)) (v 3)) (40 + (v 1)) (v 2))) else if i = 6 then (xE E 74 36 = 0 ∧ (∀ k, xE E 75 k = xE E0 75 k) ∧ (0 ≤ (v 1) ∧ (v 1) ≤ 30) ∧ ∃ p, (p) ≤ (xE E0 74 42) ∧ xRD (xE E0 84) (xE E0 74 42) (p) E ∧ pSwitch (xE E0 84) (xE E0 74 42) (xE E0 74 39) (xE E0 75) = pBits (xE E0 84) (xE E0 74 42) (xE E0 75) (v 1) (4 - (v 2)).toNat p (v 2) (v 3)) else if i = 7 then (xE E 74 36 = 0 ∧ (∀ k, 0 ≤ k → xE E 75 k = uS (xE E0 75) (8 + (v 1)) (v 3) k) ∧ ∃ p, (p) ≤ (xE E0 74 42) ∧ xRD (xE E0 84) (xE E0 74 42) (p) E ∧ pSwitch (xE E0 84) (xE E0 74 42) (xE E0 74 39) (xE E0 75) = .ok (p, uS (uS (xE E0 75) (8 + (v 1)) (v 3)) (40 + (v 1)) (v 2))) else (xE E 74 36 = 0 ∧ ∃ p U, (p) ≤ (xE E0 74 42) ∧ xRD (xE E0 84) (xE E0 74 42) (p) E ∧ pSwitch (xE E0 84) (xE E0 74 42) (xE E0 74 39) (xE E0 75) = .ok (p, U) ∧ ∀ k, 0 ≤ k → xE E 75 k = U k)
def xMfsw (i : Nat) (x0 : Nat → Int) (E0 : zyEm) (v : Nat → Int) (E : zyEm) : Nat := if i = 0 then (100) else if i = 1 then (99) else if i = 2 then (98) else if i = 3 then (97) else if i = 4 then (2 * (10 - (v 2)).toNat + 20) else if i = 5 then (3) else if i = 6 then (2 * (10 - (v 2)).toNat + 21) else if i = 7 then (2) else (1)
theorem xSw {l : Launch} {en : zEn} {me : zMe} (hen : zG zxMeta 321 = some en) (hme : zG zMeth 321 = some me) : xFc l zymx en me 5 [74] 0 fpfsw false xΦsw xΨsw := by
  have een : zG zxMeta 321 = some (zxi321, 1, 5, 11, 321, 0, 0, 0, 0) := rfl
  obtain ⟨me1, hme1, hOK⟩ := zall hen
  rw [hme] at hme1
  cases hme1
  rw [een] at hen
  cases hen
  have hr := zyfsw_run
  have hck := fun i hi => zyAll_iff zyfsw_ck i hi
  simp only [Bool.and_eq_true] at hck
  obtain ⟨mefrd, hmefrd, -⟩ := zall (show zG zxMeta 314 = some (zxi314, 1, 1, 11, 314, 0, 0, 0, 0) from rfl)
  have hfrd := xRd (l := l) (show zG zxMeta 314 = some (zxi314, 1, 1, 11, 314, 0, 0, 0, 0) from rfl) hmefrd
  obtain ⟨meftm, hmeftm, -⟩ := zall (show zG zxMeta 320 = some (zxi320, 3, 4, 11, 320, 0, 0, 1, 0) from rfl)
  have hftm := xTm (l := l) (show zG zxMeta 320 = some (zxi320, 3, 4, 11, 320, 0, 0, 1, 0) from rfl) hmeftm
  intro B
  refine xcut (mi := zymx) (B := B) hOK rfl rfl (ι := Fin 9) (fun i => zpfsw i.val) (fun _ _ => []) (fun i => zFfsw i.val) (fun i => zSfsw i.val) (fun i => zXfsw i.val) (fun i => zRfsw i.val) (fun i y2 ct en2 me2 h => by cases h) 200000 (fun i => zyAll_iff hr i.val i.isLt) (fun i => (hck i.val i.isLt).1) (fun i => (hck i.val i.isLt).2.1) (fun i => (hck i.val i.isLt).2.2) ⟨0, by decide⟩ ⟨rfl, rfl, rfl, rfl⟩ ⟨by decide, by decide⟩ (fun i x0 E0 v E => xIfsw i.val x0 E0 v E) (fun i x0 E0 v E => xMfsw i.val x0 E0 v E) ?_ ?_ ?_
  · intro x0 E hx0 hT hΦ
    have hΦ : xΦsw x0 E := hΦ
    refine ⟨fun k p hp => ?_, ?_⟩
    · have hk : k < 5 := (List.getElem?_eq_some_iff.mp hp).1
      have hk : k = 0 ∨ k = 1 ∨ k = 2 ∨ k = 3 ∨ k = 4 := by omega
      rcases hk with rfl | rfl | rfl | rfl | rfl
      · have hp : some (0, 4294967295) = some p := hp
        cases hp
        show ((0 : Nat) : Int) ≤ 0 + 2147483648 ∧ 0 + 2147483648 ≤ ((4294967295 : Nat) : Int)
        omega
      · have hp : some (0, 4294967295) = some p := hp
        cases hp
        show ((0 : Nat) : Int) ≤ x0 0 + 2147483648 ∧ x0 0 + 2147483648 ≤ ((4294967295 : Nat) : Int)
        have hx := hx0 0
        omega
      · have hp : some (0, 4294967295) = some p := hp
        cases hp
        show ((0 : Nat) : Int) ≤ x0 1 + 2147483648 ∧ x0 1 + 2147483648 ≤ ((4294967295 : Nat) : Int)
        have hx := hx0 1
        omega
      · have hp : some (0, 4294967295) = some p := hp
        cases hp
        show ((0 : Nat) : Int) ≤ x0 2 + 2147483648 ∧ x0 2 + 2147483648 ≤ ((4294967295 : Nat) : Int)
        have hx := hx0 2
        omega
      · have hp : some (0, 4294967295) = some p := hp
        cases hp
        show ((0 : Nat) : Int) ≤ x0 3 + 2147483648 ∧ x0 3 + 2147483648 ≤ ((4294967295 : Nat) : Int)
        have hx := hx0 3
        omega
    · show E = E
      rfl
  · intro x0 s Wg hRu hrx hT0 hΦ i v H hT hrv hInv hKc hFr0 hIH x hx ρ2 v2 N2 H2 locs lsB stA hAt hB hv hr2 hXs hag hfr hFr hT2
    rcases i with ⟨i, hi⟩
    have hi2 : i = 0 ∨ i = 1 ∨ i = 2 ∨ i = 3 ∨ i = 4 ∨ i = 5 ∨ i = 6 ∨ i = 7 ∨ i = 8 := by omega
    rcases hi2 with rfl | rfl | rfl | rfl | rfl | rfl | rfl | rfl | rfl
    · have hx : x ∈ [zxfsw_zx0] := hx
      have hag : ∀ k, k < 5 → v2 k = v k := hag
      have hfr : xFr [] _ _ := hfr
      have ex := List.mem_singleton.mp hx
      subst ex
      obtain ⟨hF, hBd, hM⟩ := hXs
      have e74_36 : xE (zyEl zymx B H2) 74 36 = xE (zyEl zymx B H) 74 36 := xFr_E hfr rfl
      have e74_37 : xE (zyEl zymx B H2) 74 37 = xE (zyEl zymx B H) 74 37 := xFr_E hfr rfl
      have e74_38 : xE (zyEl zymx B H2) 74 38 = xE (zyEl zymx B H) 74 38 := xFr_E hfr rfl
      have e74_39 : xE (zyEl zymx B H2) 74 39 = xE (zyEl zymx B H) 74 39 := xFr_E hfr rfl
      have e74_40 : xE (zyEl zymx B H2) 74 40 = xE (zyEl zymx B H) 74 40 := xFr_E hfr rfl
      have e74_41 : xE (zyEl zymx B H2) 74 41 = xE (zyEl zymx B H) 74 41 := xFr_E hfr rfl
      have e74_42 : xE (zyEl zymx B H2) 74 42 = xE (zyEl zymx B H) 74 42 := xFr_E hfr rfl
      have q74_42 : xE (zyEl zymx B H) 74 42 = xE (zyEl zymx B s.heap) 74 42 := xFr_E hFr0 rfl
      have e75_0 : xE (zyEl zymx B H2) 75 0 = xE (zyEl zymx B H) 75 0 := xFr_E hfr rfl
      have q75_0 : xE (zyEl zymx B H) 75 0 = xE (zyEl zymx B s.heap) 75 0 := xFr_E hFr0 rfl
      have e75_1 : xE (zyEl zymx B H2) 75 1 = xE (zyEl zymx B H) 75 1 := xFr_E hfr rfl
      have q75_1 : xE (zyEl zymx B H) 75 1 = xE (zyEl zymx B s.heap) 75 1 := xFr_E hFr0 rfl
      have e75_2 : xE (zyEl zymx B H2) 75 2 = xE (zyEl zymx B H) 75 2 := xFr_E hfr rfl
      have q75_2 : xE (zyEl zymx B H) 75 2 = xE (zyEl zymx B s.heap) 75 2 := xFr_E hFr0 rfl
      have e84 : ∀ i, xE (zyEl zymx B H2) 84 i = xE (zyEl zymx B H) 84 i := fun i => xFr_E hfr rfl
      have q84 : ∀ i, xE (zyEl zymx B H) 84 i = xE (zyEl zymx B s.heap) 84 i := fun i => xFr_E hFr0 rfl
      have e75 : ∀ i, xE (zyEl zymx B H2) 75 i = xE (zyEl zymx B H) 75 i := fun i => xFr_E hfr rfl
      have hI : (zyEl zymx B H) = (zyEl zymx B s.heap) := hInv
      have q74_36 : xE (zyEl zymx B H) 74 36 = xE (zyEl zymx B s.heap) 74 36 := by rw [hI]
      have q74_37 : xE (zyEl zymx B H) 74 37 = xE (zyEl zymx B s.heap) 74 37 := by rw [hI]
      have q74_38 : xE (zyEl zymx B H) 74 38 = xE (zyEl zymx B s.heap) 74 38 := by rw [hI]
      have q74_39 : xE (zyEl zymx B H) 74 39 = xE (zyEl zymx B s.heap) 74 39 := by rw [hI]
      have q74_40 : xE (zyEl zymx B H) 74 40 = xE (zyEl zymx B s.heap) 74 40 := by rw [hI]
      have q74_41 : xE (zyEl zymx B H) 74 41 = xE (zyEl zymx B s.heap) 74 41 := by rw [hI]
      have q75 : ∀ i, xE (zyEl zymx B H) 75 i = xE (zyEl zymx B s.heap) 75 i := fun i => by rw [hI]
      refine xGo hIH hAt hB hv hFr ⟨1, by decide⟩ [0, 0, 0, 0, 0] [0, 0, 0, 0, 0] rfl ⟨by decide +kernel, ⟨rfl, by decide +kernel⟩, (xcs_c rfl (xcs_c rfl (xcs_c rfl (xcs_c rfl (xcs_c rfl xcs_n))))), (xe_0 (xe_0 (xe_0 (xe_0 (xe_0 xe_n))))), xkq_n⟩ xst_n ?_ ?_
      · show (zyEl zymx B H2) = (zyEl zymx B s.heap)
        exact (xFr_n hfr).trans hI
      · show 99 < 100
        omega
    · have hx : x ∈ [zxfsw_ax0] := hx
      have hag : ∀ k, k < 5 → v2 k = v k := hag
      have hfr : xFr [] _ _ := hfr
      have ex := List.mem_singleton.mp hx
      subst ex
      obtain ⟨hF, hBd, hM⟩ := hXs
      have e74_36 : xE (zyEl zymx B H2) 74 36 = xE (zyEl zymx B H) 74 36 := xFr_E hfr rfl
      have e74_37 : xE (zyEl zymx B H2) 74 37 = xE (zyEl zymx B H) 74 37 := xFr_E hfr rfl
      have e74_38 : xE (zyEl zymx B H2) 74 38 = xE (zyEl zymx B H) 74 38 := xFr_E hfr rfl
      have e74_39 : xE (zyEl zymx B H2) 74 39 = xE (zyEl zymx B H) 74 39 := xFr_E hfr rfl
      have e74_40 : xE (zyEl zymx B H2) 74 40 = xE (zyEl zymx B H) 74 40 := xFr_E hfr rfl
      have e74_41 : xE (zyEl zymx B H2) 74 41 = xE (zyEl zymx B H) 74 41 := xFr_E hfr rfl
      have e74_42 : xE (zyEl zymx B H2) 74 42 = xE (zyEl zymx B H) 74 42 := xFr_E hfr rfl
      have q74_42 : xE (zyEl zymx B H) 74 42 = xE (zyEl zymx B s.heap) 74 42 := xFr_E hFr0 rfl
      have e75_0 : xE (zyEl zymx B H2) 75 0 = xE (zyEl zymx B H) 75 0 := xFr_E hfr rfl
      have q75_0 : xE (zyEl zymx B H) 75 0 = xE (zyEl zymx B s.heap) 75 0 := xFr_E hFr0 rfl
      have e75_1 : xE (zyEl zymx B H2) 75 1 = xE (zyEl zymx B H) 75 1 := xFr_E hfr rfl
      have q75_1 : xE (zyEl zymx B H) 75 1 = xE (zyEl zymx B s.heap) 75 1 := xFr_E hFr0 rfl
      have e75_2 : xE (zyEl zymx B H2) 75 2 = xE (zyEl zymx B H) 75 2 := xFr_E hfr rfl
      have q75_2 : xE (zyEl zymx B H) 75 2 = xE (zyEl zymx B s.heap) 75 2 := xFr_E hFr0 rfl
      have e84 : ∀ i, xE (zyEl zymx B H2) 84 i = xE (zyEl zymx B H) 84 i := fun i => xFr_E hfr rfl
      have q84 : ∀ i, xE (zyEl zymx B H) 84 i = xE (zyEl zymx B s.heap) 84 i := fun i => xFr_E hFr0 rfl
      have e75 : ∀ i, xE (zyEl zymx B H2) 75 i = xE (zyEl zymx B H) 75 i := fun i => xFr_E hfr rfl
      have hI : (zyEl zymx B H) = (zyEl zymx B s.heap) := hInv
      have q74_36 : xE (zyEl zymx B H) 74 36 = xE (zyEl zymx B s.heap) 74 36 := by rw [hI]
      have q74_37 : xE (zyEl zymx B H) 74 37 = xE (zyEl zymx B s.heap) 74 37 := by rw [hI]
      have q74_38 : xE (zyEl zymx B H) 74 38 = xE (zyEl zymx B s.heap) 74 38 := by rw [hI]
      have q74_39 : xE (zyEl zymx B H) 74 39 = xE (zyEl zymx B s.heap) 74 39 := by rw [hI]
      have q74_40 : xE (zyEl zymx B H) 74 40 = xE (zyEl zymx B s.heap) 74 40 := by rw [hI]
      have q74_41 : xE (zyEl zymx B H) 74 41 = xE (zyEl zymx B s.heap) 74 41 := by rw [hI]
      have q75 : ∀ i, xE (zyEl zymx B H) 75 i = xE (zyEl zymx B s.heap) 75 i := fun i => by rw [hI]
      obtain ⟨hP1, hP2, hP3, hP4⟩ := (show xΦsw x0 (zyEl zymx B s.heap) from hΦ)
      have hc : ∀ k, xE (zyEl zymx B H) 75 k = xE (zyEl zymx B s.heap) 75 k := fun k => by rw [hI]
      refine xCa hRu hIH hAt hB hv hFr (hfrd B) (ix := 450) (ax := 5024) rfl rfl rfl hmefrd ⟨_, rfl, rfl, by decide⟩ ⟨rfl, rfl, rfl⟩ (by decide) [] [] [] rfl ⟨rfl, rfl⟩ (by decide +kernel) xcs_n (by decide +kernel) ?_ (fun H3 r hT3 hf3 hFr3 hr3 hΨ3 => ?_)
      · show xΦrd (xfv []) (zyEl zymx B H2)
        unfold xΦrd
        omega
      · have hΨ3 : xΨrd (xfv []) (zyEl zymx B H2) (zyEl zymx B H3) r := hΨ3
        have d74_36 : xE (zyEl zymx B H3) 74 36 = xE (zyEl zymx B H2) 74 36 := xFr_E hf3 rfl
        have d74_37 : xE (zyEl zymx B H3) 74 37 = xE (zyEl zymx B H2) 74 37 := xFr_E hf3 rfl
        have d74_42 : xE (zyEl zymx B H3) 74 42 = xE (zyEl zymx B H2) 74 42 := xFr_E hf3 rfl
        have d75_0 : xE (zyEl zymx B H3) 75 0 = xE (zyEl zymx B H2) 75 0 := xFr_E hf3 rfl
        have d75_1 : xE (zyEl zymx B H3) 75 1 = xE (zyEl zymx B H2) 75 1 := xFr_E hf3 rfl
        have d75_2 : xE (zyEl zymx B H3) 75 2 = xE (zyEl zymx B H2) 75 2 := xFr_E hf3 rfl
        have d84 : ∀ i, xE (zyEl zymx B H3) 84 i = xE (zyEl zymx B H2) 84 i := fun i => xFr_E hf3 rfl
        have d75 : ∀ i, xE (zyEl zymx B H3) 75 i = xE (zyEl zymx B H2) 75 i := fun i => xFr_E hf3 rfl
        have z75_0 : ((0 : Nat) : Int) ≤ xE (zyEl zymx B H3) 75 0 + 2147483648 ∧ xE (zyEl zymx B H3) 75 0 + 2147483648 ≤ ((4294967295 : Nat) : Int) := xTyF hT3 75 0 0 rfl rfl rfl rfl rfl rfl
        have z75_1 : ((0 : Nat) : Int) ≤ xE (zyEl zymx B H3) 75 1 + 2147483648 ∧ xE (zyEl zymx B H3) 75 1 + 2147483648 ≤ ((4294967295 : Nat) : Int) := xTyF hT3 75 1 0 rfl rfl rfl rfl rfl rfl
        unfold xΨrd at hΨ3
        rw [show xE (zyEl zymx B H2) 84 = xE (zyEl zymx B s.heap) 84 from funext fun i => (e84 i).trans (q84 i), show xE (zyEl zymx B H2) 74 42 = xE (zyEl zymx B s.heap) 74 42 by omega, show xE (zyEl zymx B H2) 74 39 = (xE (zyEl zymx B s.heap) 74 39) by omega] at hΨ3
        refine ⟨⟨2, by decide⟩, [0, 0, 0, 0, 0], [0, 0, 0, 0, 0, xE (zyEl zymx B H3) 75 0, xE (zyEl zymx B H3) 75 1], rfl, ⟨by decide +kernel, ⟨rfl, by decide +kernel⟩, (xcs_c rfl (xcs_c rfl (xcs_c rfl (xcs_c rfl (xcs_c rfl xcs_n))))), (xe_0 (xe_0 (xe_0 (xe_0 (xe_0 (xe_c (by omega) (by omega) rfl (xe_c (by omega) (by omega) rfl xe_n))))))), (xkq_c hT3 75 0 (q := 0) rfl rfl rfl rfl rfl rfl rfl rfl rfl rfl rfl (xkq_c hT3 75 1 (q := 0) rfl rfl rfl rfl rfl rfl rfl rfl rfl rfl rfl xkq_n))⟩, (by rw [if_neg (by decide)]; exact xst_n), ?_, ?_⟩
        · show xE (zyEl zymx B H3) 74 36 = 0 ∧ (∀ k, xE (zyEl zymx B H3) 75 k = xE (zyEl zymx B s.heap) 75 k) ∧ ((1 ≤ xE (zyEl zymx B s.heap) 75 0 ∧ xE (zyEl zymx B s.heap) 75 0 ≤ 4) ∧ (1 ≤ xE (zyEl zymx B s.heap) 75 1 ∧ xE (zyEl zymx B s.heap) 75 1 ≤ 5)) ∧ ((xE (zyEl zymx B s.heap) 74 39)) ≤ (xE (zyEl zymx B s.heap) 74 42) ∧ xRD (xE (zyEl zymx B s.heap) 84) (xE (zyEl zymx B s.heap) 74 42) ((xE (zyEl zymx B s.heap) 74 39)) (zyEl zymx B H3)
          exact ⟨by omega, fun k => (d75 k).trans ((e75 k).trans (hc k)), ⟨hP3, hP4⟩, hP2, hΨ3⟩
        · show 98 < 99
          omega
    · have hx : x ∈ [zxfsw_bx0] := hx
      have hag : ∀ k, k < 7 → v2 k = v k := hag
      have hfr : xFr [] _ _ := hfr
      have ex := List.mem_singleton.mp hx
      subst ex
      obtain ⟨hF, hBd, hM⟩ := hXs
      have g5 : v2 5 = v 5 := hag 5 (by decide)
      have g6 : v2 6 = v 6 := hag 6 (by decide)
      have b0 : ((2147483649 : Nat) : Int) ≤ (v2 5) + 2147483648 ∧ (v2 5) + 2147483648 ≤ ((2147483652 : Nat) : Int) := xXb hBd 0 rfl
      have b1 : ((2147483649 : Nat) : Int) ≤ (v2 6) + 2147483648 ∧ (v2 6) + 2147483648 ≤ ((2147483653 : Nat) : Int) := xXb hBd 1 rfl
      have b2 : ((2147483648 : Nat) : Int) ≤ (v2 7) + 2147483648 ∧ (v2 7) + 2147483648 ≤ ((2147483664 : Nat) : Int) := xXb hBd 2 rfl
      have b3 : ((2147483648 : Nat) : Int) ≤ (v2 8) + 2147483648 ∧ (v2 8) + 2147483648 ≤ ((2147483663 : Nat) : Int) := xXb hBd 3 rfl
      have b4 : ((2147483648 : Nat) : Int) ≤ (v2 9) + 2147483648 ∧ (v2 9) + 2147483648 ≤ ((2147483679 : Nat) : Int) := xXb hBd 4 rfl
      have b5 : ((2147483647 : Nat) : Int) ≤ (v2 9 + (-1)) + 2147483648 ∧ (v2 9 + (-1)) + 2147483648 ≤ ((2147483678 : Nat) : Int) := xXb hBd 5 rfl
      have k0 : xE (zyEl zymx B H) 75 0 = v 5 := xKcf hKc 0 rfl rfl
      have k1 : xE (zyEl zymx B H) 75 1 = v 6 := xKcf hKc 1 rfl rfl
      have f0 : -2147483648 ≤ (v2 5) * (v2 6 + (-1)) → (v2 5) * (v2 6 + (-1)) < 2147483648 → (v2 7) = (v2 5) * (v2 6 + (-1)) := xXf hF 0 rfl
      have f1 : -2147483648 ≤ (v2 5 + (-1)) * (v2 6) → (v2 5 + (-1)) * (v2 6) < 2147483648 → (v2 8) = (v2 5 + (-1)) * (v2 6) := xXf hF 1 rfl
      have f2 : -2147483648 ≤ (v2 7) + (v2 8) → (v2 7) + (v2 8) < 2147483648 → (v2 9) = (v2 7) + (v2 8) := xXf hF 2 rfl
      have f2 := f2 (by omega) (by omega)
      have e74_36 : xE (zyEl zymx B H2) 74 36 = xE (zyEl zymx B H) 74 36 := xFr_E hfr rfl
      have e74_37 : xE (zyEl zymx B H2) 74 37 = xE (zyEl zymx B H) 74 37 := xFr_E hfr rfl
      have e74_38 : xE (zyEl zymx B H2) 74 38 = xE (zyEl zymx B H) 74 38 := xFr_E hfr rfl
      have e74_39 : xE (zyEl zymx B H2) 74 39 = xE (zyEl zymx B H) 74 39 := xFr_E hfr rfl
      have e74_40 : xE (zyEl zymx B H2) 74 40 = xE (zyEl zymx B H) 74 40 := xFr_E hfr rfl
      have e74_41 : xE (zyEl zymx B H2) 74 41 = xE (zyEl zymx B H) 74 41 := xFr_E hfr rfl
      have e74_42 : xE (zyEl zymx B H2) 74 42 = xE (zyEl zymx B H) 74 42 := xFr_E hfr rfl
      have q74_42 : xE (zyEl zymx B H) 74 42 = xE (zyEl zymx B s.heap) 74 42 := xFr_E hFr0 rfl
      have e75_0 : xE (zyEl zymx B H2) 75 0 = xE (zyEl zymx B H) 75 0 := xFr_E hfr rfl
      have q75_0 : xE (zyEl zymx B H) 75 0 = xE (zyEl zymx B s.heap) 75 0 := xFr_E hFr0 rfl
      have e75_1 : xE (zyEl zymx B H2) 75 1 = xE (zyEl zymx B H) 75 1 := xFr_E hfr rfl
      have q75_1 : xE (zyEl zymx B H) 75 1 = xE (zyEl zymx B s.heap) 75 1 := xFr_E hFr0 rfl
      have e75_2 : xE (zyEl zymx B H2) 75 2 = xE (zyEl zymx B H) 75 2 := xFr_E hfr rfl
      have q75_2 : xE (zyEl zymx B H) 75 2 = xE (zyEl zymx B s.heap) 75 2 := xFr_E hFr0 rfl
      have e84 : ∀ i, xE (zyEl zymx B H2) 84 i = xE (zyEl zymx B H) 84 i := fun i => xFr_E hfr rfl
      have q84 : ∀ i, xE (zyEl zymx B H) 84 i = xE (zyEl zymx B s.heap) 84 i := fun i => xFr_E hFr0 rfl
      have e75 : ∀ i, xE (zyEl zymx B H2) 75 i = xE (zyEl zymx B H) 75 i := fun i => xFr_E hfr rfl
      have hI : xE (zyEl zymx B H) 74 36 = 0 ∧ (∀ k, xE (zyEl zymx B H) 75 k = xE (zyEl zymx B s.heap) 75 k) ∧ ((1 ≤ xE (zyEl zymx B s.heap) 75 0 ∧ xE (zyEl zymx B s.heap) 75 0 ≤ 4) ∧ (1 ≤ xE (zyEl zymx B s.heap) 75 1 ∧ xE (zyEl zymx B s.heap) 75 1 ≤ 5)) ∧ ((xE (zyEl zymx B s.heap) 74 39)) ≤ (xE (zyEl zymx B s.heap) 74 42) ∧ xRD (xE (zyEl zymx B s.heap) 84) (xE (zyEl zymx B s.heap) 74 42) ((xE (zyEl zymx B s.heap) 74 39)) (zyEl zymx B H) := hInv
      obtain ⟨i1, hc, ⟨hr, hcc⟩, hp, hs⟩ := hI
      have hEE : (zyEl zymx B H2) = (zyEl zymx B H) := xFr_n hfr
      have hs2 : xRD (xE (zyEl zymx B s.heap) 84) (xE (zyEl zymx B s.heap) 74 42) (xE (zyEl zymx B s.heap) 74 39) (zyEl zymx B H2) := by rw [hEE]; exact hs
      have h750 := hc 0
      have h751 := hc 1
      obtain ⟨s1, s1b, s2, s3, s4, s5, s6, s7, s8⟩ := xRD_i hs2 hp
      obtain ⟨w1, w2, w3, w4, w5, w6⟩ := gN_of (r := (v2 5)) (c := (v2 6)) (A := (v2 6 + (-1))) (B := (v2 5 + (-1))) (by omega) (by omega) (by omega) (by omega) f0 f1
      rw [show (v2 5) = xE (zyEl zymx B s.heap) 75 0 by omega, show (v2 6) = xE (zyEl zymx B s.heap) 75 1 by omega] at w1 w6
      have ehi : (v2 9 + (-1)) = gN (xE (zyEl zymx B s.heap) 75 0) (xE (zyEl zymx B s.heap) 75 1) - 1 := by omega
      refine xCa hRu hIH hAt hB hv hFr (hftm B) (ix := 456) (ax := 5120) rfl rfl rfl hmeftm ⟨_, rfl, rfl, by decide⟩ ⟨rfl, rfl, rfl⟩ (by decide) [0, 343597383673] [] [0, (v2 9 + (-1))] rfl ⟨rfl, rfl⟩ (by decide +kernel) (xcs_c rfl (xcs_c rfl xcs_n)) (by decide +kernel) ?_ (fun H3 r hT3 hf3 hFr3 hr3 hΨ3 => ?_)
      · show xΦtm (xfv [0, (v2 9 + (-1))]) (zyEl zymx B H2)
        intro q1 q2
        omega
      · have hΨ3 : xΨtm (xfv [0, (v2 9 + (-1))]) (zyEl zymx B H2) (zyEl zymx B H3) r := hΨ3
        have d74_42 : xE (zyEl zymx B H3) 74 42 = xE (zyEl zymx B H2) 74 42 := xFr_E hf3 rfl
        have d75_0 : xE (zyEl zymx B H3) 75 0 = xE (zyEl zymx B H2) 75 0 := xFr_E hf3 rfl
        have d75_1 : xE (zyEl zymx B H3) 75 1 = xE (zyEl zymx B H2) 75 1 := xFr_E hf3 rfl
        have d75_2 : xE (zyEl zymx B H3) 75 2 = xE (zyEl zymx B H2) 75 2 := xFr_E hf3 rfl
        have d84 : ∀ i, xE (zyEl zymx B H3) 84 i = xE (zyEl zymx B H2) 84 i := fun i => xFr_E hf3 rfl
        have d75 : ∀ i, xE (zyEl zymx B H3) 75 i = xE (zyEl zymx B H2) 75 i := fun i => xFr_E hf3 rfl
        have hg : (xE (zyEl zymx B H3) 74 36 = 0 ∧ xRD (xE (zyEl zymx B s.heap) 84) (xE (zyEl zymx B s.heap) 74 42) (tNx (xE (zyEl zymx B s.heap) 84) (xE (zyEl zymx B s.heap) 74 42) (xE (zyEl zymx B s.heap) 74 39)) (zyEl zymx B H3) ∧ tNx (xE (zyEl zymx B s.heap) 84) (xE (zyEl zymx B s.heap) 74 42) (xE (zyEl zymx B s.heap) 74 39) ≤ (xE (zyEl zymx B s.heap) 74 42) ∧ (xE (zyEl zymx B s.heap) 74 39) < tNx (xE (zyEl zymx B s.heap) 84) (xE (zyEl zymx B s.heap) 74 42) (xE (zyEl zymx B s.heap) 74 39) ∧ 0 ≤ r ∧ r ≤ (v2 9 + (-1)) ∧ ∀ k, pNum (xE (zyEl zymx B s.heap) 84) (xE (zyEl zymx B s.heap) 74 42) (xE (zyEl zymx B s.heap) 74 39) 0 (v2 9 + (-1)) k = k r (tNx (xE (zyEl zymx B s.heap) 84) (xE (zyEl zymx B s.heap) 74 42) (xE (zyEl zymx B s.heap) 74 39))) ∨ (∀ k, xEr (zyEl zymx B H3) (pNum (xE (zyEl zymx B s.heap) 84) (xE (zyEl zymx B s.heap) 74 42) (xE (zyEl zymx B s.heap) 74 39) 0 (v2 9 + (-1)) k)) := xTm_g (x := xfv [0, (v2 9 + (-1))]) hΨ3 (by omega) hs2 hp (fun i => (e84 i).trans (q84 i)) (by omega)
        rw [ehi] at hg
        refine ⟨⟨3, by decide⟩, [0, 0, 0, 0, 0], [0, 0, 0, 0, 0, r], rfl, ⟨by decide +kernel, ⟨rfl, by decide +kernel⟩, (xcs_c rfl (xcs_c rfl (xcs_c rfl (xcs_c rfl (xcs_c rfl xcs_n))))), (xe_0 (xe_0 (xe_0 (xe_0 (xe_0 (xe_f (by omega) xe_n)))))), xkq_n⟩, (by rw [if_pos rfl]; exact ⟨5, [], rfl, by decide, rfl, xst_n⟩), ?_, ?_⟩
        · show (∀ k, xE (zyEl zymx B H3) 75 k = xE (zyEl zymx B s.heap) 75 k) ∧ (xE (zyEl zymx B H3) 74 36 = 0 → (0 ≤ (r : Int) ∧ (r : Int) ≤ 30) ∧ (tNx (xE (zyEl zymx B s.heap) 84) (xE (zyEl zymx B s.heap) 74 42) (xE (zyEl zymx B s.heap) 74 39)) ≤ (xE (zyEl zymx B s.heap) 74 42) ∧ xRD (xE (zyEl zymx B s.heap) 84) (xE (zyEl zymx B s.heap) 74 42) (tNx (xE (zyEl zymx B s.heap) 84) (xE (zyEl zymx B s.heap) 74 42) (xE (zyEl zymx B s.heap) 74 39)) (zyEl zymx B H3) ∧ pSwitch (xE (zyEl zymx B s.heap) 84) (xE (zyEl zymx B s.heap) 74 42) (xE (zyEl zymx B s.heap) 74 39) (xE (zyEl zymx B s.heap) 75) = pNum (xE (zyEl zymx B s.heap) 84) (xE (zyEl zymx B s.heap) 74 42) (tNx (xE (zyEl zymx B s.heap) 84) (xE (zyEl zymx B s.heap) 74 42) (xE (zyEl zymx B s.heap) 74 39)) 0 1 (fun b p2 => pBits (xE (zyEl zymx B s.heap) 84) (xE (zyEl zymx B s.heap) 74 42) (xE (zyEl zymx B s.heap) 75) (r : Int) 3 p2 1 b)) ∧ (¬ xE (zyEl zymx B H3) 74 36 = 0 → xEr (zyEl zymx B H3) (pSwitch (xE (zyEl zymx B s.heap) 84) (xE (zyEl zymx B s.heap) 74 42) (xE (zyEl zymx B s.heap) 74 39) (xE (zyEl zymx B s.heap) 75)))
          refine ⟨fun k => (d75 k).trans ((e75 k).trans (hc k)), fun hz => ?_, fun hz => ?_⟩
          · rcases hg with ⟨h1, h2, h3, h4, h5, h6, h7⟩ | he
            · refine ⟨by omega, h3, h2, ?_⟩
              unfold pSwitch
              exact h7 _
            · exact (xEr_1 (he (fun _ _ => .error (0, 0))) hz).elim
          · rcases hg with ⟨h1, h2, h3, h4, h5, h6, h7⟩ | he
            · exact absurd h1 hz
            · unfold pSwitch
              exact he _
        · show 97 < 98
          omega
    · have hx : x ∈ [zxfsw_cx0] := hx
      have hag : ∀ k, k < 6 → v2 k = v k := hag
      have hfr : xFr [] _ _ := hfr
      have ex := List.mem_singleton.mp hx
      subst ex
      obtain ⟨hF, hBd, hM⟩ := hXs
      have r5 := hr2 5
      have g5 : v2 5 = v 5 := hag 5 (by decide)
      have e74_36 : xE (zyEl zymx B H2) 74 36 = xE (zyEl zymx B H) 74 36 := xFr_E hfr rfl
      have e74_37 : xE (zyEl zymx B H2) 74 37 = xE (zyEl zymx B H) 74 37 := xFr_E hfr rfl
      have e74_38 : xE (zyEl zymx B H2) 74 38 = xE (zyEl zymx B H) 74 38 := xFr_E hfr rfl
      have e74_39 : xE (zyEl zymx B H2) 74 39 = xE (zyEl zymx B H) 74 39 := xFr_E hfr rfl
      have e74_40 : xE (zyEl zymx B H2) 74 40 = xE (zyEl zymx B H) 74 40 := xFr_E hfr rfl
      have e74_41 : xE (zyEl zymx B H2) 74 41 = xE (zyEl zymx B H) 74 41 := xFr_E hfr rfl
      have e74_42 : xE (zyEl zymx B H2) 74 42 = xE (zyEl zymx B H) 74 42 := xFr_E hfr rfl
      have q74_42 : xE (zyEl zymx B H) 74 42 = xE (zyEl zymx B s.heap) 74 42 := xFr_E hFr0 rfl
      have e75_0 : xE (zyEl zymx B H2) 75 0 = xE (zyEl zymx B H) 75 0 := xFr_E hfr rfl
      have q75_0 : xE (zyEl zymx B H) 75 0 = xE (zyEl zymx B s.heap) 75 0 := xFr_E hFr0 rfl
      have e75_1 : xE (zyEl zymx B H2) 75 1 = xE (zyEl zymx B H) 75 1 := xFr_E hfr rfl
      have q75_1 : xE (zyEl zymx B H) 75 1 = xE (zyEl zymx B s.heap) 75 1 := xFr_E hFr0 rfl
      have e75_2 : xE (zyEl zymx B H2) 75 2 = xE (zyEl zymx B H) 75 2 := xFr_E hfr rfl
      have q75_2 : xE (zyEl zymx B H) 75 2 = xE (zyEl zymx B s.heap) 75 2 := xFr_E hFr0 rfl
      have e84 : ∀ i, xE (zyEl zymx B H2) 84 i = xE (zyEl zymx B H) 84 i := fun i => xFr_E hfr rfl
      have q84 : ∀ i, xE (zyEl zymx B H) 84 i = xE (zyEl zymx B s.heap) 84 i := fun i => xFr_E hFr0 rfl
      have e75 : ∀ i, xE (zyEl zymx B H2) 75 i = xE (zyEl zymx B H) 75 i := fun i => xFr_E hfr rfl
      have hI : (∀ k, xE (zyEl zymx B H) 75 k = xE (zyEl zymx B s.heap) 75 k) ∧ (xE (zyEl zymx B H) 74 36 = 0 → (0 ≤ (v 5) ∧ (v 5) ≤ 30) ∧ (tNx (xE (zyEl zymx B s.heap) 84) (xE (zyEl zymx B s.heap) 74 42) (xE (zyEl zymx B s.heap) 74 39)) ≤ (xE (zyEl zymx B s.heap) 74 42) ∧ xRD (xE (zyEl zymx B s.heap) 84) (xE (zyEl zymx B s.heap) 74 42) (tNx (xE (zyEl zymx B s.heap) 84) (xE (zyEl zymx B s.heap) 74 42) (xE (zyEl zymx B s.heap) 74 39)) (zyEl zymx B H) ∧ pSwitch (xE (zyEl zymx B s.heap) 84) (xE (zyEl zymx B s.heap) 74 42) (xE (zyEl zymx B s.heap) 74 39) (xE (zyEl zymx B s.heap) 75) = pNum (xE (zyEl zymx B s.heap) 84) (xE (zyEl zymx B s.heap) 74 42) (tNx (xE (zyEl zymx B s.heap) 84) (xE (zyEl zymx B s.heap) 74 42) (xE (zyEl zymx B s.heap) 74 39)) 0 1 (fun b p2 => pBits (xE (zyEl zymx B s.heap) 84) (xE (zyEl zymx B s.heap) 74 42) (xE (zyEl zymx B s.heap) 75) (v 5) 3 p2 1 b)) ∧ (¬ xE (zyEl zymx B H) 74 36 = 0 → xEr (zyEl zymx B H) (pSwitch (xE (zyEl zymx B s.heap) 84) (xE (zyEl zymx B s.heap) 74 42) (xE (zyEl zymx B s.heap) 74 39) (xE (zyEl zymx B s.heap) 75))) := hInv
      obtain ⟨hc, i1, i2⟩ := hI
      have hEE : (zyEl zymx B H2) = (zyEl zymx B H) := xFr_n hfr
      have z74_36 : ((2147483648 : Nat) : Int) ≤ xE (zyEl zymx B H2) 74 36 + 2147483648 ∧ xE (zyEl zymx B H2) 74 36 + 2147483648 ≤ ((2147483657 : Nat) : Int) := xTyF hT2 74 36 36 rfl rfl rfl rfl rfl rfl
      have z74_37 : ((0 : Nat) : Int) ≤ xE (zyEl zymx B H2) 74 37 + 2147483648 ∧ xE (zyEl zymx B H2) 74 37 + 2147483648 ≤ ((4294967295 : Nat) : Int) := xTyF hT2 74 37 37 rfl rfl rfl rfl rfl rfl
      have z74_38 : ((2147483648 : Nat) : Int) ≤ xE (zyEl zymx B H2) 74 38 + 2147483648 ∧ xE (zyEl zymx B H2) 74 38 + 2147483648 ≤ ((2147484548 : Nat) : Int) := xTyF hT2 74 38 38 rfl rfl rfl rfl rfl rfl
      have z74_40 : ((2147483648 : Nat) : Int) ≤ xE (zyEl zymx B H2) 74 40 + 2147483648 ∧ xE (zyEl zymx B H2) 74 40 + 2147483648 ≤ ((2147483652 : Nat) : Int) := xTyF hT2 74 40 40 rfl rfl rfl rfl rfl rfl
      have z74_41 : ((2147483648 : Nat) : Int) ≤ xE (zyEl zymx B H2) 74 41 + 2147483648 ∧ xE (zyEl zymx B H2) 74 41 + 2147483648 ≤ ((2147484647 : Nat) : Int) := xTyF hT2 74 41 41 rfl rfl rfl rfl rfl rfl
      refine xGo hIH hAt hB hv hFr ⟨4, by decide⟩ [0, 171798691841, 0, 0, 8] [0, (v2 5), 0, 0, 1, xE (zyEl zymx B H2) 74 36, xE (zyEl zymx B H2) 74 37, xE (zyEl zymx B H2) 74 38, xE (zyEl zymx B H2) 74 40, xE (zyEl zymx B H2) 74 41] rfl ⟨by decide +kernel, ⟨rfl, by decide +kernel⟩, (xcs_c rfl (xcs_c rfl (xcs_c rfl (xcs_c rfl (xcs_c rfl xcs_n))))), (xe_0 (xe_f (by omega) (xe_c (by omega) (by omega) rfl (xe_0 (xe_c (by omega) (by omega) rfl (xe_c (by omega) (by omega) rfl (xe_f (xE_r _ _ _) (xe_c (by omega) (by omega) rfl (xe_c (by omega) (by omega) rfl (xe_c (by omega) (by omega) rfl xe_n)))))))))), (xkq_c hT2 74 36 (q := 36) rfl rfl rfl rfl rfl rfl rfl rfl rfl rfl rfl (xkq_c hT2 74 37 (q := 37) rfl rfl rfl rfl rfl rfl rfl rfl rfl rfl rfl (xkq_c hT2 74 38 (q := 38) rfl rfl rfl rfl rfl rfl rfl rfl rfl rfl rfl (xkq_c hT2 74 40 (q := 40) rfl rfl rfl rfl rfl rfl rfl rfl rfl rfl rfl (xkq_c hT2 74 41 (q := 41) rfl rfl rfl rfl rfl rfl rfl rfl rfl rfl rfl xkq_n)))))⟩ xst_n ?_ ?_
      · show (∀ k, xE (zyEl zymx B H2) 75 k = xE (zyEl zymx B s.heap) 75 k) ∧ (xE (zyEl zymx B H2) 74 36 = 0 → (0 ≤ ((v2 5) : Int) ∧ ((v2 5) : Int) ≤ 30) ∧ ∃ p, (p) ≤ (xE (zyEl zymx B s.heap) 74 42) ∧ xRD (xE (zyEl zymx B s.heap) 84) (xE (zyEl zymx B s.heap) 74 42) (p) (zyEl zymx B H2) ∧ (((0 : Int) = 0 ∧ (0 : Int) = 0 ∧ (1 : Int) = 1 ∧ pSwitch (xE (zyEl zymx B s.heap) 84) (xE (zyEl zymx B s.heap) 74 42) (xE (zyEl zymx B s.heap) 74 39) (xE (zyEl zymx B s.heap) 75) = pNum (xE (zyEl zymx B s.heap) 84) (xE (zyEl zymx B s.heap) 74 42) p 0 1 (fun b p2 => pBits (xE (zyEl zymx B s.heap) 84) (xE (zyEl zymx B s.heap) 74 42) (xE (zyEl zymx B s.heap) 75) ((v2 5) : Int) 3 p2 1 b)) ∨ (1 ≤ (0 : Int) ∧ (tKd (xE (zyEl zymx B s.heap) 84) (xE (zyEl zymx B s.heap) 74 42) p = 3 ↔ (1 : Int) = 1) ∧ pSwitch (xE (zyEl zymx B s.heap) 84) (xE (zyEl zymx B s.heap) 74 42) (xE (zyEl zymx B s.heap) 74 39) (xE (zyEl zymx B s.heap) 75) = pBits (xE (zyEl zymx B s.heap) 84) (xE (zyEl zymx B s.heap) 74 42) (xE (zyEl zymx B s.heap) 75) ((v2 5) : Int) (4 - (0 : Int)).toNat p (0 : Int) (0 : Int)))) ∧ (¬ xE (zyEl zymx B H2) 74 36 = 0 → xEr (zyEl zymx B H2) (pSwitch (xE (zyEl zymx B s.heap) 84) (xE (zyEl zymx B s.heap) 74 42) (xE (zyEl zymx B s.heap) 74 39) (xE (zyEl zymx B s.heap) 75)))
        rw [hEE]
        refine ⟨hc, fun hz => ?_, i2⟩
        obtain ⟨j1, j2, j3, j4⟩ := i1 hz
        rw [show v 5 = v2 5 by omega] at j1 j4
        exact ⟨j1, _, j2, j3, Or.inl ⟨rfl, rfl, rfl, j4⟩⟩
      · show 2 * (10 - (0 : Int)).toNat + 20 < 97
        omega
    · have hx : x ∈ [zxfsw_dx0, zxfsw_dx1] := hx
      have hag : ∀ k, k < 10 → v2 k = v k := hag
      have hfr : xFr [(74, 36, 37)] _ _ := hfr
      rcases List.mem_cons.mp hx with ex | hx
      · subst ex
        obtain ⟨hF, hBd, hM⟩ := hXs
        have r1 := hr2 1
        have r3 := hr2 3
        have r6 := hr2 6
        have r11 := hr2 11
        have g1 : v2 1 = v 1 := hag 1 (by decide)
        have g2 : v2 2 = v 2 := hag 2 (by decide)
        have g3 : v2 3 = v 3 := hag 3 (by decide)
        have g4 : v2 4 = v 4 := hag 4 (by decide)
        have g5 : v2 5 = v 5 := hag 5 (by decide)
        have g6 : v2 6 = v 6 := hag 6 (by decide)
        have g7 : v2 7 = v 7 := hag 7 (by decide)
        have g8 : v2 8 = v 8 := hag 8 (by decide)
        have g9 : v2 9 = v 9 := hag 9 (by decide)
        have b0 : ((2147483648 : Nat) : Int) ≤ (v2 2) + 2147483648 ∧ (v2 2) + 2147483648 ≤ ((2147483651 : Nat) : Int) := xXb hBd 0 rfl
        have b1 : ((2147483649 : Nat) : Int) ≤ (v2 4) + 2147483648 ∧ (v2 4) + 2147483648 ≤ ((2147483649 : Nat) : Int) := xXb hBd 1 rfl
        have b2 : ((2147483648 : Nat) : Int) ≤ (v2 5) + 2147483648 ∧ (v2 5) + 2147483648 ≤ ((2147483648 : Nat) : Int) := xXb hBd 2 rfl
        have b3 : ((2147483650 : Nat) : Int) ≤ (v2 8) + 2147483648 ∧ (v2 8) + 2147483648 ≤ ((2147483650 : Nat) : Int) := xXb hBd 3 rfl
        have b4 : ((2147483648 : Nat) : Int) ≤ (v2 9) + 2147483648 ∧ (v2 9) + 2147483648 ≤ ((2147483649 : Nat) : Int) := xXb hBd 4 rfl
        have b5 : ((2147483648 : Nat) : Int) ≤ (v2 10) + 2147483648 ∧ (v2 10) + 2147483648 ≤ ((2147483656 : Nat) : Int) := xXb hBd 5 rfl
        have b6 : ((2147483649 : Nat) : Int) ≤ (v2 2 + 1) + 2147483648 ∧ (v2 2 + 1) + 2147483648 ≤ ((2147483652 : Nat) : Int) := xXb hBd 6 rfl
        have k0 : xE (zyEl zymx B H) 74 36 = v 5 := xKcf hKc 0 rfl rfl
        have k1 : xE (zyEl zymx B H) 74 37 = v 6 := xKcf hKc 1 rfl rfl
        have k2 : xE (zyEl zymx B H) 74 38 = v 7 := xKcf hKc 2 rfl rfl
        have k3 : xE (zyEl zymx B H) 74 40 = v 8 := xKcf hKc 3 rfl rfl
        have k4 : xE (zyEl zymx B H) 74 41 = v 9 := xKcf hKc 4 rfl rfl
        have f0 : (v2 5) = 0 := xXf hF 0 rfl
        have f1 : ¬ (v2 4) = 0 := xXf hF 1 rfl
        have f2 : (v2 8) = 2 := xXf hF 2 rfl
        have f3 : 0 ≤ (v2 9) := xXf hF 3 rfl
        have f4 : (v2 9) ≤ 1 := xXf hF 4 rfl
        have f5 : (v2 2) < 4 := xXf hF 5 rfl
        have f6 : (v2 5) ≤ 0 := xXf hF 6 rfl
        have f7 : (v2 10) = xop 8 (v2 9) (v2 2) := xXf hF 7 rfl
        have f8 : (v2 11) = xop 7 (v2 3) (v2 10) := xXf hF 8 rfl
        have m0 : xE (zyEl zymx B H2) 74 36 = (v2 5) := xXm hM 0 rfl
        have m1 : xE (zyEl zymx B H2) 74 37 = (v2 6) := xXm hM 1 rfl
        have e74_38 : xE (zyEl zymx B H2) 74 38 = xE (zyEl zymx B H) 74 38 := xFr_E hfr rfl
        have e74_39 : xE (zyEl zymx B H2) 74 39 = xE (zyEl zymx B H) 74 39 := xFr_E hfr rfl
        have e74_40 : xE (zyEl zymx B H2) 74 40 = xE (zyEl zymx B H) 74 40 := xFr_E hfr rfl
        have e74_41 : xE (zyEl zymx B H2) 74 41 = xE (zyEl zymx B H) 74 41 := xFr_E hfr rfl
        have e74_42 : xE (zyEl zymx B H2) 74 42 = xE (zyEl zymx B H) 74 42 := xFr_E hfr rfl
        have q74_42 : xE (zyEl zymx B H) 74 42 = xE (zyEl zymx B s.heap) 74 42 := xFr_E hFr0 rfl
        have e75_0 : xE (zyEl zymx B H2) 75 0 = xE (zyEl zymx B H) 75 0 := xFr_E hfr rfl
        have q75_0 : xE (zyEl zymx B H) 75 0 = xE (zyEl zymx B s.heap) 75 0 := xFr_E hFr0 rfl
        have e75_1 : xE (zyEl zymx B H2) 75 1 = xE (zyEl zymx B H) 75 1 := xFr_E hfr rfl
        have q75_1 : xE (zyEl zymx B H) 75 1 = xE (zyEl zymx B s.heap) 75 1 := xFr_E hFr0 rfl
        have e75_2 : xE (zyEl zymx B H2) 75 2 = xE (zyEl zymx B H) 75 2 := xFr_E hfr rfl
        have q75_2 : xE (zyEl zymx B H) 75 2 = xE (zyEl zymx B s.heap) 75 2 := xFr_E hFr0 rfl
        have e84 : ∀ i, xE (zyEl zymx B H2) 84 i = xE (zyEl zymx B H) 84 i := fun i => xFr_E hfr rfl
        have q84 : ∀ i, xE (zyEl zymx B H) 84 i = xE (zyEl zymx B s.heap) 84 i := fun i => xFr_E hFr0 rfl
        have e75 : ∀ i, xE (zyEl zymx B H2) 75 i = xE (zyEl zymx B H) 75 i := fun i => xFr_E hfr rfl
        have hI : (∀ k, xE (zyEl zymx B H) 75 k = xE (zyEl zymx B s.heap) 75 k) ∧ (xE (zyEl zymx B H) 74 36 = 0 → (0 ≤ (v 1) ∧ (v 1) ≤ 30) ∧ ∃ p, (p) ≤ (xE (zyEl zymx B s.heap) 74 42) ∧ xRD (xE (zyEl zymx B s.heap) 84) (xE (zyEl zymx B s.heap) 74 42) (p) (zyEl zymx B H) ∧ (((v 2) = 0 ∧ (v 3) = 0 ∧ (v 4) = 1 ∧ pSwitch (xE (zyEl zymx B s.heap) 84) (xE (zyEl zymx B s.heap) 74 42) (xE (zyEl zymx B s.heap) 74 39) (xE (zyEl zymx B s.heap) 75) = pNum (xE (zyEl zymx B s.heap) 84) (xE (zyEl zymx B s.heap) 74 42) p 0 1 (fun b p2 => pBits (xE (zyEl zymx B s.heap) 84) (xE (zyEl zymx B s.heap) 74 42) (xE (zyEl zymx B s.heap) 75) (v 1) 3 p2 1 b)) ∨ (1 ≤ (v 2) ∧ (tKd (xE (zyEl zymx B s.heap) 84) (xE (zyEl zymx B s.heap) 74 42) p = 3 ↔ (v 4) = 1) ∧ pSwitch (xE (zyEl zymx B s.heap) 84) (xE (zyEl zymx B s.heap) 74 42) (xE (zyEl zymx B s.heap) 74 39) (xE (zyEl zymx B s.heap) 75) = pBits (xE (zyEl zymx B s.heap) 84) (xE (zyEl zymx B s.heap) 74 42) (xE (zyEl zymx B s.heap) 75) (v 1) (4 - (v 2)).toNat p (v 2) (v 3)))) ∧ (¬ xE (zyEl zymx B H) 74 36 = 0 → xEr (zyEl zymx B H) (pSwitch (xE (zyEl zymx B s.heap) 84) (xE (zyEl zymx B s.heap) 74 42) (xE (zyEl zymx B s.heap) 74 39) (xE (zyEl zymx B s.heap) 75))) := hInv
        obtain ⟨hc, i1, i2⟩ := hI
        obtain ⟨j1, p, hp, hs, hd⟩ := i1 (by omega)
        obtain ⟨s1, s1b, s2, s3, s4, s5, s6, s7, s8⟩ := xRD_i hs hp
        have c3 : tKd (xE (zyEl zymx B s.heap) 84) (xE (zyEl zymx B s.heap) 74 42) p = 3 := by omega
        have s4 := s4 (by omega)
        have s6 := s6 c3
        refine xCa hRu hIH hAt hB hv hFr (hfrd B) (ix := 450) (ax := 5024) rfl rfl rfl hmefrd ⟨_, rfl, rfl, by decide⟩ ⟨rfl, rfl, rfl⟩ (by decide) [] [] [] rfl ⟨rfl, rfl⟩ (by decide +kernel) xcs_n (by decide +kernel) ?_ (fun H3 r hT3 hf3 hFr3 hr3 hΨ3 => ?_)
        · show xΦrd (xfv []) (zyEl zymx B H2)
          unfold xΦrd
          omega
        · have hΨ3 : xΨrd (xfv []) (zyEl zymx B H2) (zyEl zymx B H3) r := hΨ3
          have d74_36 : xE (zyEl zymx B H3) 74 36 = xE (zyEl zymx B H2) 74 36 := xFr_E hf3 rfl
          have d74_37 : xE (zyEl zymx B H3) 74 37 = xE (zyEl zymx B H2) 74 37 := xFr_E hf3 rfl
          have d74_42 : xE (zyEl zymx B H3) 74 42 = xE (zyEl zymx B H2) 74 42 := xFr_E hf3 rfl
          have d75_0 : xE (zyEl zymx B H3) 75 0 = xE (zyEl zymx B H2) 75 0 := xFr_E hf3 rfl
          have d75_1 : xE (zyEl zymx B H3) 75 1 = xE (zyEl zymx B H2) 75 1 := xFr_E hf3 rfl
          have d75_2 : xE (zyEl zymx B H3) 75 2 = xE (zyEl zymx B H2) 75 2 := xFr_E hf3 rfl
          have d84 : ∀ i, xE (zyEl zymx B H3) 84 i = xE (zyEl zymx B H2) 84 i := fun i => xFr_E hf3 rfl
          have d75 : ∀ i, xE (zyEl zymx B H3) 75 i = xE (zyEl zymx B H2) 75 i := fun i => xFr_E hf3 rfl
          have z74_40 : ((2147483648 : Nat) : Int) ≤ xE (zyEl zymx B H3) 74 40 + 2147483648 ∧ xE (zyEl zymx B H3) 74 40 + 2147483648 ≤ ((2147483652 : Nat) : Int) := xTyF hT3 74 40 40 rfl rfl rfl rfl rfl rfl
          unfold xΨrd at hΨ3
          rw [show xE (zyEl zymx B H2) 84 = xE (zyEl zymx B s.heap) 84 from funext fun i => (e84 i).trans (q84 i), show xE (zyEl zymx B H2) 74 42 = xE (zyEl zymx B s.heap) 74 42 by omega, show xE (zyEl zymx B H2) 74 39 = tNx (xE (zyEl zymx B s.heap) 84) (xE (zyEl zymx B s.heap) 74 42) p by omega] at hΨ3
          refine ⟨⟨6, by decide⟩, [0, 34359738369, 68719476745, 377957122049, 0], [0, (v2 1), (v2 2 + 1), (v2 11), 0, xE (zyEl zymx B H3) 74 40], rfl, ⟨by decide +kernel, ⟨rfl, by decide +kernel⟩, (xcs_c rfl (xcs_c rfl (xcs_c rfl (xcs_c rfl (xcs_c rfl xcs_n))))), (xe_0 (xe_f (by omega) (xe_c (by omega) (by omega) rfl (xe_f (by omega) (xe_0 (xe_c (by omega) (by omega) rfl xe_n)))))), (xkq_c hT3 74 40 (q := 40) rfl rfl rfl rfl rfl rfl rfl rfl rfl rfl rfl xkq_n)⟩, (by rw [if_neg (by decide)]; exact xst_n), ?_, ?_⟩
          · show xE (zyEl zymx B H3) 74 36 = 0 ∧ (∀ k, xE (zyEl zymx B H3) 75 k = xE (zyEl zymx B s.heap) 75 k) ∧ (0 ≤ ((v2 1) : Int) ∧ ((v2 1) : Int) ≤ 30) ∧ ∃ p, (p) ≤ (xE (zyEl zymx B s.heap) 74 42) ∧ xRD (xE (zyEl zymx B s.heap) 84) (xE (zyEl zymx B s.heap) 74 42) (p) (zyEl zymx B H3) ∧ pSwitch (xE (zyEl zymx B s.heap) 84) (xE (zyEl zymx B s.heap) 74 42) (xE (zyEl zymx B s.heap) 74 39) (xE (zyEl zymx B s.heap) 75) = pBits (xE (zyEl zymx B s.heap) 84) (xE (zyEl zymx B s.heap) 74 42) (xE (zyEl zymx B s.heap) 75) ((v2 1) : Int) (4 - ((v2 2 + 1) : Int)).toNat p ((v2 2 + 1) : Int) ((v2 11) : Int)
            refine ⟨by omega, fun k => (d75 k).trans ((e75 k).trans (hc k)), by omega, _, s4.2.1, hΨ3, ?_⟩
            rcases hd with ⟨d1, d2, d3, d4⟩ | ⟨d1, d2, d3⟩
            · rw [d4]
              unfold pNum
              rw [if_pos c3, if_pos (by omega)]
              have hv : (v2 11) = tNm (xE (zyEl zymx B s.heap) 84) (xE (zyEl zymx B s.heap) 74 42) p := by
                rw [f8, f7, show (v2 9) = tNm (xE (zyEl zymx B s.heap) 84) (xE (zyEl zymx B s.heap) 74 42) p by omega, show v2 2 = 0 by omega, show v2 3 = 0 by omega]
                exact xop_0b (by omega)
              rw [hv, show v2 2 + 1 = 1 by omega, show v2 1 = v 1 by omega]
              rfl
            · rw [d3, pBits_s c3 (by omega) (by omega), f8, f7, show (v2 9) = tNm (xE (zyEl zymx B s.heap) 84) (xE (zyEl zymx B s.heap) 74 42) p by omega, show v2 2 = v 2 by omega, show v2 3 = v 3 by omega, show v2 1 = v 1 by omega]
          · show 2 * (10 - ((v2 2 + 1) : Int)).toNat + 21 < 2 * (10 - (v 2)).toNat + 20
            omega
      · skip
        have ex := List.mem_singleton.mp hx
        subst ex
        obtain ⟨hF, hBd, hM⟩ := hXs
        have r1 := hr2 1
        have r3 := hr2 3
        have r6 := hr2 6
        have g1 : v2 1 = v 1 := hag 1 (by decide)
        have g2 : v2 2 = v 2 := hag 2 (by decide)
        have g3 : v2 3 = v 3 := hag 3 (by decide)
        have g4 : v2 4 = v 4 := hag 4 (by decide)
        have g5 : v2 5 = v 5 := hag 5 (by decide)
        have g6 : v2 6 = v 6 := hag 6 (by decide)
        have g7 : v2 7 = v 7 := hag 7 (by decide)
        have g8 : v2 8 = v 8 := hag 8 (by decide)
        have g9 : v2 9 = v 9 := hag 9 (by decide)
        have b0 : ((2147483648 : Nat) : Int) ≤ (v2 2) + 2147483648 ∧ (v2 2) + 2147483648 ≤ ((2147483652 : Nat) : Int) := xXb hBd 0 rfl
        have b1 : ((2147483648 : Nat) : Int) ≤ (v2 4) + 2147483648 ∧ (v2 4) + 2147483648 ≤ ((2147483648 : Nat) : Int) := xXb hBd 1 rfl
        have b2 : ((2147483648 : Nat) : Int) ≤ (v2 5) + 2147483648 ∧ (v2 5) + 2147483648 ≤ ((2147483648 : Nat) : Int) := xXb hBd 2 rfl
        have k0 : xE (zyEl zymx B H) 74 36 = v 5 := xKcf hKc 0 rfl rfl
        have k1 : xE (zyEl zymx B H) 74 37 = v 6 := xKcf hKc 1 rfl rfl
        have k2 : xE (zyEl zymx B H) 74 38 = v 7 := xKcf hKc 2 rfl rfl
        have k3 : xE (zyEl zymx B H) 74 40 = v 8 := xKcf hKc 3 rfl rfl
        have k4 : xE (zyEl zymx B H) 74 41 = v 9 := xKcf hKc 4 rfl rfl
        have f0 : (v2 5) = 0 := xXf hF 0 rfl
        have f1 : (v2 4) = 0 := xXf hF 1 rfl
        have f2 : (v2 5) ≤ 0 := xXf hF 2 rfl
        have m0 : xE (zyEl zymx B H2) 74 36 = (v2 5) := xXm hM 0 rfl
        have m1 : xE (zyEl zymx B H2) 74 37 = (v2 6) := xXm hM 1 rfl
        have e74_38 : xE (zyEl zymx B H2) 74 38 = xE (zyEl zymx B H) 74 38 := xFr_E hfr rfl
        have e74_39 : xE (zyEl zymx B H2) 74 39 = xE (zyEl zymx B H) 74 39 := xFr_E hfr rfl
        have e74_40 : xE (zyEl zymx B H2) 74 40 = xE (zyEl zymx B H) 74 40 := xFr_E hfr rfl
        have e74_41 : xE (zyEl zymx B H2) 74 41 = xE (zyEl zymx B H) 74 41 := xFr_E hfr rfl
        have e74_42 : xE (zyEl zymx B H2) 74 42 = xE (zyEl zymx B H) 74 42 := xFr_E hfr rfl
        have q74_42 : xE (zyEl zymx B H) 74 42 = xE (zyEl zymx B s.heap) 74 42 := xFr_E hFr0 rfl
        have e75_0 : xE (zyEl zymx B H2) 75 0 = xE (zyEl zymx B H) 75 0 := xFr_E hfr rfl
        have q75_0 : xE (zyEl zymx B H) 75 0 = xE (zyEl zymx B s.heap) 75 0 := xFr_E hFr0 rfl
        have e75_1 : xE (zyEl zymx B H2) 75 1 = xE (zyEl zymx B H) 75 1 := xFr_E hfr rfl
        have q75_1 : xE (zyEl zymx B H) 75 1 = xE (zyEl zymx B s.heap) 75 1 := xFr_E hFr0 rfl
        have e75_2 : xE (zyEl zymx B H2) 75 2 = xE (zyEl zymx B H) 75 2 := xFr_E hfr rfl
        have q75_2 : xE (zyEl zymx B H) 75 2 = xE (zyEl zymx B s.heap) 75 2 := xFr_E hFr0 rfl
        have e84 : ∀ i, xE (zyEl zymx B H2) 84 i = xE (zyEl zymx B H) 84 i := fun i => xFr_E hfr rfl
        have q84 : ∀ i, xE (zyEl zymx B H) 84 i = xE (zyEl zymx B s.heap) 84 i := fun i => xFr_E hFr0 rfl
        have e75 : ∀ i, xE (zyEl zymx B H2) 75 i = xE (zyEl zymx B H) 75 i := fun i => xFr_E hfr rfl
        have hI : (∀ k, xE (zyEl zymx B H) 75 k = xE (zyEl zymx B s.heap) 75 k) ∧ (xE (zyEl zymx B H) 74 36 = 0 → (0 ≤ (v 1) ∧ (v 1) ≤ 30) ∧ ∃ p, (p) ≤ (xE (zyEl zymx B s.heap) 74 42) ∧ xRD (xE (zyEl zymx B s.heap) 84) (xE (zyEl zymx B s.heap) 74 42) (p) (zyEl zymx B H) ∧ (((v 2) = 0 ∧ (v 3) = 0 ∧ (v 4) = 1 ∧ pSwitch (xE (zyEl zymx B s.heap) 84) (xE (zyEl zymx B s.heap) 74 42) (xE (zyEl zymx B s.heap) 74 39) (xE (zyEl zymx B s.heap) 75) = pNum (xE (zyEl zymx B s.heap) 84) (xE (zyEl zymx B s.heap) 74 42) p 0 1 (fun b p2 => pBits (xE (zyEl zymx B s.heap) 84) (xE (zyEl zymx B s.heap) 74 42) (xE (zyEl zymx B s.heap) 75) (v 1) 3 p2 1 b)) ∨ (1 ≤ (v 2) ∧ (tKd (xE (zyEl zymx B s.heap) 84) (xE (zyEl zymx B s.heap) 74 42) p = 3 ↔ (v 4) = 1) ∧ pSwitch (xE (zyEl zymx B s.heap) 84) (xE (zyEl zymx B s.heap) 74 42) (xE (zyEl zymx B s.heap) 74 39) (xE (zyEl zymx B s.heap) 75) = pBits (xE (zyEl zymx B s.heap) 84) (xE (zyEl zymx B s.heap) 74 42) (xE (zyEl zymx B s.heap) 75) (v 1) (4 - (v 2)).toNat p (v 2) (v 3)))) ∧ (¬ xE (zyEl zymx B H) 74 36 = 0 → xEr (zyEl zymx B H) (pSwitch (xE (zyEl zymx B s.heap) 84) (xE (zyEl zymx B s.heap) 74 42) (xE (zyEl zymx B s.heap) 74 39) (xE (zyEl zymx B s.heap) 75))) := hInv
        obtain ⟨hc, i1, i2⟩ := hI
        obtain ⟨j1, p, hp, hs, hd⟩ := i1 (by omega)
        obtain ⟨s1, s1b, s2, s3, s4, s5, s6, s7, s8⟩ := xRD_i hs hp
        have d1 : 1 ≤ v 2 ∧ ¬ tKd (xE (zyEl zymx B s.heap) 84) (xE (zyEl zymx B s.heap) 74 42) p = 3 ∧ pSwitch (xE (zyEl zymx B s.heap) 84) (xE (zyEl zymx B s.heap) 74 42) (xE (zyEl zymx B s.heap) 74 39) (xE (zyEl zymx B s.heap) 75) = pBits (xE (zyEl zymx B s.heap) 84) (xE (zyEl zymx B s.heap) 74 42) (xE (zyEl zymx B s.heap) 75) (v 1) (4 - v 2).toNat p (v 2) (v 3) := by
          rcases hd with ⟨d1, d2, d3, d4⟩ | ⟨d1, d2, d3⟩
          · exfalso
            omega
          · exact ⟨d1, by omega, d3⟩
        obtain ⟨d1, d2, d3⟩ := d1
        rw [pBits_n d2] at d3
        refine xGo hIH hAt hB hv hFr ⟨5, by decide⟩ [0, 34359738369, 68719476737, 103079215105, 0] [0, (v2 1), (v2 2), (v2 3), 0] rfl ⟨by decide +kernel, ⟨rfl, by decide +kernel⟩, (xcs_c rfl (xcs_c rfl (xcs_c rfl (xcs_c rfl (xcs_c rfl xcs_n))))), (xe_0 (xe_c (by omega) (by omega) rfl (xe_c (by omega) (by omega) rfl (xe_f (by omega) (xe_0 xe_n))))), xkq_n⟩ xst_n ?_ ?_
        · show xE (zyEl zymx B H2) 74 36 = 0 ∧ (∀ k, xE (zyEl zymx B H2) 75 k = xE (zyEl zymx B s.heap) 75 k) ∧ ∃ p, (p) ≤ (xE (zyEl zymx B s.heap) 74 42) ∧ xRD (xE (zyEl zymx B s.heap) 84) (xE (zyEl zymx B s.heap) 74 42) (p) (zyEl zymx B H2) ∧ pSwitch (xE (zyEl zymx B s.heap) 84) (xE (zyEl zymx B s.heap) 74 42) (xE (zyEl zymx B s.heap) 74 39) (xE (zyEl zymx B s.heap) 75) = .ok (p, uS (uS (xE (zyEl zymx B s.heap) 75) (8 + ((v2 1) : Int)) ((v2 3) : Int)) (40 + ((v2 1) : Int)) ((v2 2) : Int))
          refine ⟨by omega, fun k => (e75 k).trans (hc k), p, hp, xRD_k hs hfr rfl rfl rfl rfl rfl, ?_⟩
          rw [d3, show v2 2 = v 2 by omega, show v2 3 = v 3 by omega, show v2 1 = v 1 by omega]
        · show 3 < 2 * (10 - (v 2)).toNat + 20
          omega
    · have hx : x ∈ [zxfsw_d2x0] := hx
      have hag : ∀ k, k < 5 → v2 k = v k := hag
      have hfr : xFr [] _ _ := hfr
      have ex := List.mem_singleton.mp hx
      subst ex
      obtain ⟨hF, hBd, hM⟩ := hXs
      have r3 := hr2 3
      have g1 : v2 1 = v 1 := hag 1 (by decide)
      have g2 : v2 2 = v 2 := hag 2 (by decide)
      have g3 : v2 3 = v 3 := hag 3 (by decide)
      have b0 : ((2147483648 : Nat) : Int) ≤ (v2 1) + 2147483648 ∧ (v2 1) + 2147483648 ≤ ((2147483678 : Nat) : Int) := xXb hBd 0 rfl
      have b1 : ((2147483649 : Nat) : Int) ≤ (v2 2) + 2147483648 ∧ (v2 2) + 2147483648 ≤ ((2147483652 : Nat) : Int) := xXb hBd 1 rfl
      have b2 : ((2147483656 : Nat) : Int) ≤ (v2 1 + 8) + 2147483648 ∧ (v2 1 + 8) + 2147483648 ≤ ((2147483686 : Nat) : Int) := xXb hBd 2 rfl
      have e74_36 : xE (zyEl zymx B H2) 74 36 = xE (zyEl zymx B H) 74 36 := xFr_E hfr rfl
      have e74_37 : xE (zyEl zymx B H2) 74 37 = xE (zyEl zymx B H) 74 37 := xFr_E hfr rfl
      have e74_38 : xE (zyEl zymx B H2) 74 38 = xE (zyEl zymx B H) 74 38 := xFr_E hfr rfl
      have e74_39 : xE (zyEl zymx B H2) 74 39 = xE (zyEl zymx B H) 74 39 := xFr_E hfr rfl
      have e74_40 : xE (zyEl zymx B H2) 74 40 = xE (zyEl zymx B H) 74 40 := xFr_E hfr rfl
      have e74_41 : xE (zyEl zymx B H2) 74 41 = xE (zyEl zymx B H) 74 41 := xFr_E hfr rfl
      have e74_42 : xE (zyEl zymx B H2) 74 42 = xE (zyEl zymx B H) 74 42 := xFr_E hfr rfl
      have q74_42 : xE (zyEl zymx B H) 74 42 = xE (zyEl zymx B s.heap) 74 42 := xFr_E hFr0 rfl
      have e75_0 : xE (zyEl zymx B H2) 75 0 = xE (zyEl zymx B H) 75 0 := xFr_E hfr rfl
      have q75_0 : xE (zyEl zymx B H) 75 0 = xE (zyEl zymx B s.heap) 75 0 := xFr_E hFr0 rfl
      have e75_1 : xE (zyEl zymx B H2) 75 1 = xE (zyEl zymx B H) 75 1 := xFr_E hfr rfl
      have q75_1 : xE (zyEl zymx B H) 75 1 = xE (zyEl zymx B s.heap) 75 1 := xFr_E hFr0 rfl
      have e75_2 : xE (zyEl zymx B H2) 75 2 = xE (zyEl zymx B H) 75 2 := xFr_E hfr rfl
      have q75_2 : xE (zyEl zymx B H) 75 2 = xE (zyEl zymx B s.heap) 75 2 := xFr_E hFr0 rfl
      have e84 : ∀ i, xE (zyEl zymx B H2) 84 i = xE (zyEl zymx B H) 84 i := fun i => xFr_E hfr rfl
      have q84 : ∀ i, xE (zyEl zymx B H) 84 i = xE (zyEl zymx B s.heap) 84 i := fun i => xFr_E hFr0 rfl
      have e75 : ∀ i, xE (zyEl zymx B H2) 75 i = xE (zyEl zymx B H) 75 i := fun i => xFr_E hfr rfl
      have hI : xE (zyEl zymx B H) 74 36 = 0 ∧ (∀ k, xE (zyEl zymx B H) 75 k = xE (zyEl zymx B s.heap) 75 k) ∧ ∃ p, (p) ≤ (xE (zyEl zymx B s.heap) 74 42) ∧ xRD (xE (zyEl zymx B s.heap) 84) (xE (zyEl zymx B s.heap) 74 42) (p) (zyEl zymx B H) ∧ pSwitch (xE (zyEl zymx B s.heap) 84) (xE (zyEl zymx B s.heap) 74 42) (xE (zyEl zymx B s.heap) 74 39) (xE (zyEl zymx B s.heap) 75) = .ok (p, uS (uS (xE (zyEl zymx B s.heap) 75) (8 + (v 1)) (v 3)) (40 + (v 1)) (v 2)) := hInv
      obtain ⟨i1, hc, p, hp, hs, d3⟩ := hI
      refine xSt hRu hIH hAt hB hv hFr 75 (ax := 0) 103079215105 34359738433 (v2 3) (v2 1 + 8) rfl (Or.inl ⟨rfl, rfl⟩) rfl (by decide +kernel) rfl rfl (by omega) (by show (v2 1 + 8) < ((556 : Nat) : Int); omega) (fun r hr q1 q2 => by rw [List.mem_singleton.mp hr]; exact ⟨rfl, by show ((0 : Nat) : Int) ≤ (v2 3) + 2147483648; omega, by show (v2 3) + 2147483648 ≤ ((4294967295 : Nat) : Int); omega⟩) (zyin_iff.mpr ⟨(75, 8, 70), by decide, rfl, (by show 8 ≤ Int.toNat (v2 1 + 8); omega), by show Int.toNat (v2 1 + 8) ≤ 70; omega⟩) (fun H3 hT3 hst3 hne3 hfn3 hFr3 => ?_)
      have hfe3 : ∀ (a2 : Nat) (k2 : Int), ¬ a2 = 75 → xE (zyEl zymx B H3) a2 k2 = xE (zyEl zymx B H2) a2 k2 := fun a2 k2 hne => by unfold xE; rw [hfn3 a2 k2.toNat (fun z => hne z.1)]
      have d74_36 : xE (zyEl zymx B H3) 74 36 = xE (zyEl zymx B H2) 74 36 := hfe3 74 36 (fun z => absurd z (by decide))
      have d74_37 : xE (zyEl zymx B H3) 74 37 = xE (zyEl zymx B H2) 74 37 := hfe3 74 37 (fun z => absurd z (by decide))
      have d74_38 : xE (zyEl zymx B H3) 74 38 = xE (zyEl zymx B H2) 74 38 := hfe3 74 38 (fun z => absurd z (by decide))
      have d74_39 : xE (zyEl zymx B H3) 74 39 = xE (zyEl zymx B H2) 74 39 := hfe3 74 39 (fun z => absurd z (by decide))
      have d74_40 : xE (zyEl zymx B H3) 74 40 = xE (zyEl zymx B H2) 74 40 := hfe3 74 40 (fun z => absurd z (by decide))
      have d74_41 : xE (zyEl zymx B H3) 74 41 = xE (zyEl zymx B H2) 74 41 := hfe3 74 41 (fun z => absurd z (by decide))
      have d74_42 : xE (zyEl zymx B H3) 74 42 = xE (zyEl zymx B H2) 74 42 := hfe3 74 42 (fun z => absurd z (by decide))
      refine ⟨⟨7, by decide⟩, [0, 34359738369, 68719476737, 103079215105, 0], [0, (v2 1), (v2 2), (v2 3), 0], rfl, ⟨by decide +kernel, ⟨rfl, by decide +kernel⟩, (xcs_c rfl (xcs_c rfl (xcs_c rfl (xcs_c rfl (xcs_c rfl xcs_n))))), (xe_0 (xe_c (by omega) (by omega) rfl (xe_c (by omega) (by omega) rfl (xe_f (by omega) (xe_0 xe_n))))), xkq_n⟩, rfl, ?_, ?_⟩
      · show xE (zyEl zymx B H3) 74 36 = 0 ∧ (∀ k, 0 ≤ k → xE (zyEl zymx B H3) 75 k = uS (xE (zyEl zymx B s.heap) 75) (8 + ((v2 1) : Int)) ((v2 3) : Int) k) ∧ ∃ p, (p) ≤ (xE (zyEl zymx B s.heap) 74 42) ∧ xRD (xE (zyEl zymx B s.heap) 84) (xE (zyEl zymx B s.heap) 74 42) (p) (zyEl zymx B H3) ∧ pSwitch (xE (zyEl zymx B s.heap) 84) (xE (zyEl zymx B s.heap) 74 42) (xE (zyEl zymx B s.heap) 74 39) (xE (zyEl zymx B s.heap) 75) = .ok (p, uS (uS (xE (zyEl zymx B s.heap) 75) (8 + ((v2 1) : Int)) ((v2 3) : Int)) (40 + ((v2 1) : Int)) ((v2 2) : Int))
        refine ⟨by omega, fun k k0 => ?_, p, hp, xRD_e (xRD_k hs hfr rfl rfl rfl rfl rfl) (fun k _ => hfn3 74 k (fun z => absurd z.1 (by decide))), ?_⟩
        · by_cases e : k = 8 + v2 1
          · rw [uS_e e, e, show 8 + v2 1 = v2 1 + 8 by omega]
            exact hst3
          · rw [uS_n e, hne3 75 k k0 (fun z => e (by omega)), e75, hc]
        · rw [d3, show v2 2 = v 2 by omega, show v2 3 = v 3 by omega, show v2 1 = v 1 by omega]
      · show 2 < 3
        omega
    · have hx : x ∈ [zxfsw_ex0, zxfsw_ex1, zxfsw_ex2] := hx
      have hag : ∀ k, k < 6 → v2 k = v k := hag
      have hfr : xFr [] _ _ := hfr
      rcases List.mem_cons.mp hx with ex | hx
      · subst ex
        obtain ⟨hF, hBd, hM⟩ := hXs
        have r1 := hr2 1
        have r3 := hr2 3
        have g1 : v2 1 = v 1 := hag 1 (by decide)
        have g2 : v2 2 = v 2 := hag 2 (by decide)
        have g3 : v2 3 = v 3 := hag 3 (by decide)
        have g5 : v2 5 = v 5 := hag 5 (by decide)
        have b0 : ((2147483649 : Nat) : Int) ≤ (v2 2) + 2147483648 ∧ (v2 2) + 2147483648 ≤ ((2147483652 : Nat) : Int) := xXb hBd 0 rfl
        have b1 : ((2147483651 : Nat) : Int) ≤ (v2 5) + 2147483648 ∧ (v2 5) + 2147483648 ≤ ((2147483652 : Nat) : Int) := xXb hBd 1 rfl
        have k0 : xE (zyEl zymx B H) 74 40 = v 5 := xKcf hKc 0 rfl rfl
        have f0 : ¬ (v2 5) = 2 := xXf hF 0 rfl
        have e74_36 : xE (zyEl zymx B H2) 74 36 = xE (zyEl zymx B H) 74 36 := xFr_E hfr rfl
        have e74_37 : xE (zyEl zymx B H2) 74 37 = xE (zyEl zymx B H) 74 37 := xFr_E hfr rfl
        have e74_38 : xE (zyEl zymx B H2) 74 38 = xE (zyEl zymx B H) 74 38 := xFr_E hfr rfl
        have e74_39 : xE (zyEl zymx B H2) 74 39 = xE (zyEl zymx B H) 74 39 := xFr_E hfr rfl
        have e74_40 : xE (zyEl zymx B H2) 74 40 = xE (zyEl zymx B H) 74 40 := xFr_E hfr rfl
        have e74_41 : xE (zyEl zymx B H2) 74 41 = xE (zyEl zymx B H) 74 41 := xFr_E hfr rfl
        have e74_42 : xE (zyEl zymx B H2) 74 42 = xE (zyEl zymx B H) 74 42 := xFr_E hfr rfl
        have q74_42 : xE (zyEl zymx B H) 74 42 = xE (zyEl zymx B s.heap) 74 42 := xFr_E hFr0 rfl
        have e75_0 : xE (zyEl zymx B H2) 75 0 = xE (zyEl zymx B H) 75 0 := xFr_E hfr rfl
        have q75_0 : xE (zyEl zymx B H) 75 0 = xE (zyEl zymx B s.heap) 75 0 := xFr_E hFr0 rfl
        have e75_1 : xE (zyEl zymx B H2) 75 1 = xE (zyEl zymx B H) 75 1 := xFr_E hfr rfl
        have q75_1 : xE (zyEl zymx B H) 75 1 = xE (zyEl zymx B s.heap) 75 1 := xFr_E hFr0 rfl
        have e75_2 : xE (zyEl zymx B H2) 75 2 = xE (zyEl zymx B H) 75 2 := xFr_E hfr rfl
        have q75_2 : xE (zyEl zymx B H) 75 2 = xE (zyEl zymx B s.heap) 75 2 := xFr_E hFr0 rfl
        have e84 : ∀ i, xE (zyEl zymx B H2) 84 i = xE (zyEl zymx B H) 84 i := fun i => xFr_E hfr rfl
        have q84 : ∀ i, xE (zyEl zymx B H) 84 i = xE (zyEl zymx B s.heap) 84 i := fun i => xFr_E hFr0 rfl
        have e75 : ∀ i, xE (zyEl zymx B H2) 75 i = xE (zyEl zymx B H) 75 i := fun i => xFr_E hfr rfl
        have hI : xE (zyEl zymx B H) 74 36 = 0 ∧ (∀ k, xE (zyEl zymx B H) 75 k = xE (zyEl zymx B s.heap) 75 k) ∧ (0 ≤ (v 1) ∧ (v 1) ≤ 30) ∧ ∃ p, (p) ≤ (xE (zyEl zymx B s.heap) 74 42) ∧ xRD (xE (zyEl zymx B s.heap) 84) (xE (zyEl zymx B s.heap) 74 42) (p) (zyEl zymx B H) ∧ pSwitch (xE (zyEl zymx B s.heap) 84) (xE (zyEl zymx B s.heap) 74 42) (xE (zyEl zymx B s.heap) 74 39) (xE (zyEl zymx B s.heap) 75) = pBits (xE (zyEl zymx B s.heap) 84) (xE (zyEl zymx B s.heap) 74 42) (xE (zyEl zymx B s.heap) 75) (v 1) (4 - (v 2)).toNat p (v 2) (v 3) := hInv
        obtain ⟨i1, hc, i2, p, hp, hs, i3⟩ := hI
        have hEE : (zyEl zymx B H2) = (zyEl zymx B H) := xFr_n hfr
        obtain ⟨s1, s1b, s2, s3, s4, s5, s6, s7, s8⟩ := xRD_i hs hp
        have z74_36 : ((2147483648 : Nat) : Int) ≤ xE (zyEl zymx B H2) 74 36 + 2147483648 ∧ xE (zyEl zymx B H2) 74 36 + 2147483648 ≤ ((2147483657 : Nat) : Int) := xTyF hT2 74 36 36 rfl rfl rfl rfl rfl rfl
        have z74_37 : ((0 : Nat) : Int) ≤ xE (zyEl zymx B H2) 74 37 + 2147483648 ∧ xE (zyEl zymx B H2) 74 37 + 2147483648 ≤ ((4294967295 : Nat) : Int) := xTyF hT2 74 37 37 rfl rfl rfl rfl rfl rfl
        have z74_38 : ((2147483648 : Nat) : Int) ≤ xE (zyEl zymx B H2) 74 38 + 2147483648 ∧ xE (zyEl zymx B H2) 74 38 + 2147483648 ≤ ((2147484548 : Nat) : Int) := xTyF hT2 74 38 38 rfl rfl rfl rfl rfl rfl
        have z74_40 : ((2147483648 : Nat) : Int) ≤ xE (zyEl zymx B H2) 74 40 + 2147483648 ∧ xE (zyEl zymx B H2) 74 40 + 2147483648 ≤ ((2147483652 : Nat) : Int) := xTyF hT2 74 40 40 rfl rfl rfl rfl rfl rfl
        have z74_41 : ((2147483648 : Nat) : Int) ≤ xE (zyEl zymx B H2) 74 41 + 2147483648 ∧ xE (zyEl zymx B H2) 74 41 + 2147483648 ≤ ((2147484647 : Nat) : Int) := xTyF hT2 74 41 41 rfl rfl rfl rfl rfl rfl
        refine xGo hIH hAt hB hv hFr ⟨4, by decide⟩ [0, 34359738369, 68719476737, 103079215105, 0] [0, (v2 1), (v2 2), (v2 3), 0, xE (zyEl zymx B H2) 74 36, xE (zyEl zymx B H2) 74 37, xE (zyEl zymx B H2) 74 38, xE (zyEl zymx B H2) 74 40, xE (zyEl zymx B H2) 74 41] rfl ⟨by decide +kernel, ⟨rfl, by decide +kernel⟩, (xcs_c rfl (xcs_c rfl (xcs_c rfl (xcs_c rfl (xcs_c rfl xcs_n))))), (xe_0 (xe_f (by omega) (xe_c (by omega) (by omega) rfl (xe_f (by omega) (xe_c (by omega) (by omega) rfl (xe_c (by omega) (by omega) rfl (xe_f (xE_r _ _ _) (xe_c (by omega) (by omega) rfl (xe_c (by omega) (by omega) rfl (xe_c (by omega) (by omega) rfl xe_n)))))))))), (xkq_c hT2 74 36 (q := 36) rfl rfl rfl rfl rfl rfl rfl rfl rfl rfl rfl (xkq_c hT2 74 37 (q := 37) rfl rfl rfl rfl rfl rfl rfl rfl rfl rfl rfl (xkq_c hT2 74 38 (q := 38) rfl rfl rfl rfl rfl rfl rfl rfl rfl rfl rfl (xkq_c hT2 74 40 (q := 40) rfl rfl rfl rfl rfl rfl rfl rfl rfl rfl rfl (xkq_c hT2 74 41 (q := 41) rfl rfl rfl rfl rfl rfl rfl rfl rfl rfl rfl xkq_n)))))⟩ xst_n ?_ ?_
        · show (∀ k, xE (zyEl zymx B H2) 75 k = xE (zyEl zymx B s.heap) 75 k) ∧ (xE (zyEl zymx B H2) 74 36 = 0 → (0 ≤ ((v2 1) : Int) ∧ ((v2 1) : Int) ≤ 30) ∧ ∃ p, (p) ≤ (xE (zyEl zymx B s.heap) 74 42) ∧ xRD (xE (zyEl zymx B s.heap) 84) (xE (zyEl zymx B s.heap) 74 42) (p) (zyEl zymx B H2) ∧ ((((v2 2) : Int) = 0 ∧ ((v2 3) : Int) = 0 ∧ (0 : Int) = 1 ∧ pSwitch (xE (zyEl zymx B s.heap) 84) (xE (zyEl zymx B s.heap) 74 42) (xE (zyEl zymx B s.heap) 74 39) (xE (zyEl zymx B s.heap) 75) = pNum (xE (zyEl zymx B s.heap) 84) (xE (zyEl zymx B s.heap) 74 42) p 0 1 (fun b p2 => pBits (xE (zyEl zymx B s.heap) 84) (xE (zyEl zymx B s.heap) 74 42) (xE (zyEl zymx B s.heap) 75) ((v2 1) : Int) 3 p2 1 b)) ∨ (1 ≤ ((v2 2) : Int) ∧ (tKd (xE (zyEl zymx B s.heap) 84) (xE (zyEl zymx B s.heap) 74 42) p = 3 ↔ (0 : Int) = 1) ∧ pSwitch (xE (zyEl zymx B s.heap) 84) (xE (zyEl zymx B s.heap) 74 42) (xE (zyEl zymx B s.heap) 74 39) (xE (zyEl zymx B s.heap) 75) = pBits (xE (zyEl zymx B s.heap) 84) (xE (zyEl zymx B s.heap) 74 42) (xE (zyEl zymx B s.heap) 75) ((v2 1) : Int) (4 - ((v2 2) : Int)).toNat p ((v2 2) : Int) ((v2 3) : Int)))) ∧ (¬ xE (zyEl zymx B H2) 74 36 = 0 → xEr (zyEl zymx B H2) (pSwitch (xE (zyEl zymx B s.heap) 84) (xE (zyEl zymx B s.heap) 74 42) (xE (zyEl zymx B s.heap) 74 39) (xE (zyEl zymx B s.heap) 75)))
          rw [hEE]
          refine ⟨hc, fun hz => ⟨by omega, p, hp, hs, Or.inr ⟨by omega, by omega, ?_⟩⟩, fun hz => absurd i1 hz⟩
          rw [i3, show v2 2 = v 2 by omega, show v2 3 = v 3 by omega, show v2 1 = v 1 by omega]
        · show 2 * (10 - ((v2 2) : Int)).toNat + 20 < 2 * (10 - (v 2)).toNat + 21
          omega
      · skip
        rcases List.mem_cons.mp hx with ex | hx
        · subst ex
          obtain ⟨hF, hBd, hM⟩ := hXs
          have r1 := hr2 1
          have r3 := hr2 3
          have g1 : v2 1 = v 1 := hag 1 (by decide)
          have g2 : v2 2 = v 2 := hag 2 (by decide)
          have g3 : v2 3 = v 3 := hag 3 (by decide)
          have g5 : v2 5 = v 5 := hag 5 (by decide)
          have b0 : ((2147483649 : Nat) : Int) ≤ (v2 2) + 2147483648 ∧ (v2 2) + 2147483648 ≤ ((2147483652 : Nat) : Int) := xXb hBd 0 rfl
          have b1 : ((2147483648 : Nat) : Int) ≤ (v2 5) + 2147483648 ∧ (v2 5) + 2147483648 ≤ ((2147483649 : Nat) : Int) := xXb hBd 1 rfl
          have k0 : xE (zyEl zymx B H) 74 40 = v 5 := xKcf hKc 0 rfl rfl
          have f0 : ¬ (v2 5) = 2 := xXf hF 0 rfl
          have e74_36 : xE (zyEl zymx B H2) 74 36 = xE (zyEl zymx B H) 74 36 := xFr_E hfr rfl
          have e74_37 : xE (zyEl zymx B H2) 74 37 = xE (zyEl zymx B H) 74 37 := xFr_E hfr rfl
          have e74_38 : xE (zyEl zymx B H2) 74 38 = xE (zyEl zymx B H) 74 38 := xFr_E hfr rfl
          have e74_39 : xE (zyEl zymx B H2) 74 39 = xE (zyEl zymx B H) 74 39 := xFr_E hfr rfl
          have e74_40 : xE (zyEl zymx B H2) 74 40 = xE (zyEl zymx B H) 74 40 := xFr_E hfr rfl
          have e74_41 : xE (zyEl zymx B H2) 74 41 = xE (zyEl zymx B H) 74 41 := xFr_E hfr rfl
          have e74_42 : xE (zyEl zymx B H2) 74 42 = xE (zyEl zymx B H) 74 42 := xFr_E hfr rfl
          have q74_42 : xE (zyEl zymx B H) 74 42 = xE (zyEl zymx B s.heap) 74 42 := xFr_E hFr0 rfl
          have e75_0 : xE (zyEl zymx B H2) 75 0 = xE (zyEl zymx B H) 75 0 := xFr_E hfr rfl
          have q75_0 : xE (zyEl zymx B H) 75 0 = xE (zyEl zymx B s.heap) 75 0 := xFr_E hFr0 rfl
          have e75_1 : xE (zyEl zymx B H2) 75 1 = xE (zyEl zymx B H) 75 1 := xFr_E hfr rfl
          have q75_1 : xE (zyEl zymx B H) 75 1 = xE (zyEl zymx B s.heap) 75 1 := xFr_E hFr0 rfl
          have e75_2 : xE (zyEl zymx B H2) 75 2 = xE (zyEl zymx B H) 75 2 := xFr_E hfr rfl
          have q75_2 : xE (zyEl zymx B H) 75 2 = xE (zyEl zymx B s.heap) 75 2 := xFr_E hFr0 rfl
          have e84 : ∀ i, xE (zyEl zymx B H2) 84 i = xE (zyEl zymx B H) 84 i := fun i => xFr_E hfr rfl
          have q84 : ∀ i, xE (zyEl zymx B H) 84 i = xE (zyEl zymx B s.heap) 84 i := fun i => xFr_E hFr0 rfl
          have e75 : ∀ i, xE (zyEl zymx B H2) 75 i = xE (zyEl zymx B H) 75 i := fun i => xFr_E hfr rfl
          have hI : xE (zyEl zymx B H) 74 36 = 0 ∧ (∀ k, xE (zyEl zymx B H) 75 k = xE (zyEl zymx B s.heap) 75 k) ∧ (0 ≤ (v 1) ∧ (v 1) ≤ 30) ∧ ∃ p, (p) ≤ (xE (zyEl zymx B s.heap) 74 42) ∧ xRD (xE (zyEl zymx B s.heap) 84) (xE (zyEl zymx B s.heap) 74 42) (p) (zyEl zymx B H) ∧ pSwitch (xE (zyEl zymx B s.heap) 84) (xE (zyEl zymx B s.heap) 74 42) (xE (zyEl zymx B s.heap) 74 39) (xE (zyEl zymx B s.heap) 75) = pBits (xE (zyEl zymx B s.heap) 84) (xE (zyEl zymx B s.heap) 74 42) (xE (zyEl zymx B s.heap) 75) (v 1) (4 - (v 2)).toNat p (v 2) (v 3) := hInv
          obtain ⟨i1, hc, i2, p, hp, hs, i3⟩ := hI
          have hEE : (zyEl zymx B H2) = (zyEl zymx B H) := xFr_n hfr
          obtain ⟨s1, s1b, s2, s3, s4, s5, s6, s7, s8⟩ := xRD_i hs hp
          have z74_36 : ((2147483648 : Nat) : Int) ≤ xE (zyEl zymx B H2) 74 36 + 2147483648 ∧ xE (zyEl zymx B H2) 74 36 + 2147483648 ≤ ((2147483657 : Nat) : Int) := xTyF hT2 74 36 36 rfl rfl rfl rfl rfl rfl
          have z74_37 : ((0 : Nat) : Int) ≤ xE (zyEl zymx B H2) 74 37 + 2147483648 ∧ xE (zyEl zymx B H2) 74 37 + 2147483648 ≤ ((4294967295 : Nat) : Int) := xTyF hT2 74 37 37 rfl rfl rfl rfl rfl rfl
          have z74_38 : ((2147483648 : Nat) : Int) ≤ xE (zyEl zymx B H2) 74 38 + 2147483648 ∧ xE (zyEl zymx B H2) 74 38 + 2147483648 ≤ ((2147484548 : Nat) : Int) := xTyF hT2 74 38 38 rfl rfl rfl rfl rfl rfl
          have z74_40 : ((2147483648 : Nat) : Int) ≤ xE (zyEl zymx B H2) 74 40 + 2147483648 ∧ xE (zyEl zymx B H2) 74 40 + 2147483648 ≤ ((2147483652 : Nat) : Int) := xTyF hT2 74 40 40 rfl rfl rfl rfl rfl rfl
          have z74_41 : ((2147483648 : Nat) : Int) ≤ xE (zyEl zymx B H2) 74 41 + 2147483648 ∧ xE (zyEl zymx B H2) 74 41 + 2147483648 ≤ ((2147484647 : Nat) : Int) := xTyF hT2 74 41 41 rfl rfl rfl rfl rfl rfl
          refine xGo hIH hAt hB hv hFr ⟨4, by decide⟩ [0, 34359738369, 68719476737, 103079215105, 0] [0, (v2 1), (v2 2), (v2 3), 0, xE (zyEl zymx B H2) 74 36, xE (zyEl zymx B H2) 74 37, xE (zyEl zymx B H2) 74 38, xE (zyEl zymx B H2) 74 40, xE (zyEl zymx B H2) 74 41] rfl ⟨by decide +kernel, ⟨rfl, by decide +kernel⟩, (xcs_c rfl (xcs_c rfl (xcs_c rfl (xcs_c rfl (xcs_c rfl xcs_n))))), (xe_0 (xe_f (by omega) (xe_c (by omega) (by omega) rfl (xe_f (by omega) (xe_c (by omega) (by omega) rfl (xe_c (by omega) (by omega) rfl (xe_f (xE_r _ _ _) (xe_c (by omega) (by omega) rfl (xe_c (by omega) (by omega) rfl (xe_c (by omega) (by omega) rfl xe_n)))))))))), (xkq_c hT2 74 36 (q := 36) rfl rfl rfl rfl rfl rfl rfl rfl rfl rfl rfl (xkq_c hT2 74 37 (q := 37) rfl rfl rfl rfl rfl rfl rfl rfl rfl rfl rfl (xkq_c hT2 74 38 (q := 38) rfl rfl rfl rfl rfl rfl rfl rfl rfl rfl rfl (xkq_c hT2 74 40 (q := 40) rfl rfl rfl rfl rfl rfl rfl rfl rfl rfl rfl (xkq_c hT2 74 41 (q := 41) rfl rfl rfl rfl rfl rfl rfl rfl rfl rfl rfl xkq_n)))))⟩ xst_n ?_ ?_
          · show (∀ k, xE (zyEl zymx B H2) 75 k = xE (zyEl zymx B s.heap) 75 k) ∧ (xE (zyEl zymx B H2) 74 36 = 0 → (0 ≤ ((v2 1) : Int) ∧ ((v2 1) : Int) ≤ 30) ∧ ∃ p, (p) ≤ (xE (zyEl zymx B s.heap) 74 42) ∧ xRD (xE (zyEl zymx B s.heap) 84) (xE (zyEl zymx B s.heap) 74 42) (p) (zyEl zymx B H2) ∧ ((((v2 2) : Int) = 0 ∧ ((v2 3) : Int) = 0 ∧ (0 : Int) = 1 ∧ pSwitch (xE (zyEl zymx B s.heap) 84) (xE (zyEl zymx B s.heap) 74 42) (xE (zyEl zymx B s.heap) 74 39) (xE (zyEl zymx B s.heap) 75) = pNum (xE (zyEl zymx B s.heap) 84) (xE (zyEl zymx B s.heap) 74 42) p 0 1 (fun b p2 => pBits (xE (zyEl zymx B s.heap) 84) (xE (zyEl zymx B s.heap) 74 42) (xE (zyEl zymx B s.heap) 75) ((v2 1) : Int) 3 p2 1 b)) ∨ (1 ≤ ((v2 2) : Int) ∧ (tKd (xE (zyEl zymx B s.heap) 84) (xE (zyEl zymx B s.heap) 74 42) p = 3 ↔ (0 : Int) = 1) ∧ pSwitch (xE (zyEl zymx B s.heap) 84) (xE (zyEl zymx B s.heap) 74 42) (xE (zyEl zymx B s.heap) 74 39) (xE (zyEl zymx B s.heap) 75) = pBits (xE (zyEl zymx B s.heap) 84) (xE (zyEl zymx B s.heap) 74 42) (xE (zyEl zymx B s.heap) 75) ((v2 1) : Int) (4 - ((v2 2) : Int)).toNat p ((v2 2) : Int) ((v2 3) : Int)))) ∧ (¬ xE (zyEl zymx B H2) 74 36 = 0 → xEr (zyEl zymx B H2) (pSwitch (xE (zyEl zymx B s.heap) 84) (xE (zyEl zymx B s.heap) 74 42) (xE (zyEl zymx B s.heap) 74 39) (xE (zyEl zymx B s.heap) 75)))
            rw [hEE]
            refine ⟨hc, fun hz => ⟨by omega, p, hp, hs, Or.inr ⟨by omega, by omega, ?_⟩⟩, fun hz => absurd i1 hz⟩
            rw [i3, show v2 2 = v 2 by omega, show v2 3 = v 3 by omega, show v2 1 = v 1 by omega]
          · show 2 * (10 - ((v2 2) : Int)).toNat + 20 < 2 * (10 - (v 2)).toNat + 21
            omega
        · skip
          have ex := List.mem_singleton.mp hx
          subst ex
          obtain ⟨hF, hBd, hM⟩ := hXs
          have r1 := hr2 1
          have r3 := hr2 3
          have g1 : v2 1 = v 1 := hag 1 (by decide)
          have g2 : v2 2 = v 2 := hag 2 (by decide)
          have g3 : v2 3 = v 3 := hag 3 (by decide)
          have g5 : v2 5 = v 5 := hag 5 (by decide)
          have b0 : ((2147483649 : Nat) : Int) ≤ (v2 2) + 2147483648 ∧ (v2 2) + 2147483648 ≤ ((2147483652 : Nat) : Int) := xXb hBd 0 rfl
          have b1 : ((2147483650 : Nat) : Int) ≤ (v2 5) + 2147483648 ∧ (v2 5) + 2147483648 ≤ ((2147483650 : Nat) : Int) := xXb hBd 1 rfl
          have k0 : xE (zyEl zymx B H) 74 40 = v 5 := xKcf hKc 0 rfl rfl
          have f0 : (v2 5) = 2 := xXf hF 0 rfl
          have e74_36 : xE (zyEl zymx B H2) 74 36 = xE (zyEl zymx B H) 74 36 := xFr_E hfr rfl
          have e74_37 : xE (zyEl zymx B H2) 74 37 = xE (zyEl zymx B H) 74 37 := xFr_E hfr rfl
          have e74_38 : xE (zyEl zymx B H2) 74 38 = xE (zyEl zymx B H) 74 38 := xFr_E hfr rfl
          have e74_39 : xE (zyEl zymx B H2) 74 39 = xE (zyEl zymx B H) 74 39 := xFr_E hfr rfl
          have e74_40 : xE (zyEl zymx B H2) 74 40 = xE (zyEl zymx B H) 74 40 := xFr_E hfr rfl
          have e74_41 : xE (zyEl zymx B H2) 74 41 = xE (zyEl zymx B H) 74 41 := xFr_E hfr rfl
          have e74_42 : xE (zyEl zymx B H2) 74 42 = xE (zyEl zymx B H) 74 42 := xFr_E hfr rfl
          have q74_42 : xE (zyEl zymx B H) 74 42 = xE (zyEl zymx B s.heap) 74 42 := xFr_E hFr0 rfl
          have e75_0 : xE (zyEl zymx B H2) 75 0 = xE (zyEl zymx B H) 75 0 := xFr_E hfr rfl
          have q75_0 : xE (zyEl zymx B H) 75 0 = xE (zyEl zymx B s.heap) 75 0 := xFr_E hFr0 rfl
          have e75_1 : xE (zyEl zymx B H2) 75 1 = xE (zyEl zymx B H) 75 1 := xFr_E hfr rfl
          have q75_1 : xE (zyEl zymx B H) 75 1 = xE (zyEl zymx B s.heap) 75 1 := xFr_E hFr0 rfl
          have e75_2 : xE (zyEl zymx B H2) 75 2 = xE (zyEl zymx B H) 75 2 := xFr_E hfr rfl
          have q75_2 : xE (zyEl zymx B H) 75 2 = xE (zyEl zymx B s.heap) 75 2 := xFr_E hFr0 rfl
          have e84 : ∀ i, xE (zyEl zymx B H2) 84 i = xE (zyEl zymx B H) 84 i := fun i => xFr_E hfr rfl
          have q84 : ∀ i, xE (zyEl zymx B H) 84 i = xE (zyEl zymx B s.heap) 84 i := fun i => xFr_E hFr0 rfl
          have e75 : ∀ i, xE (zyEl zymx B H2) 75 i = xE (zyEl zymx B H) 75 i := fun i => xFr_E hfr rfl
          have hI : xE (zyEl zymx B H) 74 36 = 0 ∧ (∀ k, xE (zyEl zymx B H) 75 k = xE (zyEl zymx B s.heap) 75 k) ∧ (0 ≤ (v 1) ∧ (v 1) ≤ 30) ∧ ∃ p, (p) ≤ (xE (zyEl zymx B s.heap) 74 42) ∧ xRD (xE (zyEl zymx B s.heap) 84) (xE (zyEl zymx B s.heap) 74 42) (p) (zyEl zymx B H) ∧ pSwitch (xE (zyEl zymx B s.heap) 84) (xE (zyEl zymx B s.heap) 74 42) (xE (zyEl zymx B s.heap) 74 39) (xE (zyEl zymx B s.heap) 75) = pBits (xE (zyEl zymx B s.heap) 84) (xE (zyEl zymx B s.heap) 74 42) (xE (zyEl zymx B s.heap) 75) (v 1) (4 - (v 2)).toNat p (v 2) (v 3) := hInv
          obtain ⟨i1, hc, i2, p, hp, hs, i3⟩ := hI
          have hEE : (zyEl zymx B H2) = (zyEl zymx B H) := xFr_n hfr
          obtain ⟨s1, s1b, s2, s3, s4, s5, s6, s7, s8⟩ := xRD_i hs hp
          have z74_36 : ((2147483648 : Nat) : Int) ≤ xE (zyEl zymx B H2) 74 36 + 2147483648 ∧ xE (zyEl zymx B H2) 74 36 + 2147483648 ≤ ((2147483657 : Nat) : Int) := xTyF hT2 74 36 36 rfl rfl rfl rfl rfl rfl
          have z74_37 : ((0 : Nat) : Int) ≤ xE (zyEl zymx B H2) 74 37 + 2147483648 ∧ xE (zyEl zymx B H2) 74 37 + 2147483648 ≤ ((4294967295 : Nat) : Int) := xTyF hT2 74 37 37 rfl rfl rfl rfl rfl rfl
          have z74_38 : ((2147483648 : Nat) : Int) ≤ xE (zyEl zymx B H2) 74 38 + 2147483648 ∧ xE (zyEl zymx B H2) 74 38 + 2147483648 ≤ ((2147484548 : Nat) : Int) := xTyF hT2 74 38 38 rfl rfl rfl rfl rfl rfl
          have z74_40 : ((2147483648 : Nat) : Int) ≤ xE (zyEl zymx B H2) 74 40 + 2147483648 ∧ xE (zyEl zymx B H2) 74 40 + 2147483648 ≤ ((2147483652 : Nat) : Int) := xTyF hT2 74 40 40 rfl rfl rfl rfl rfl rfl
          have z74_41 : ((2147483648 : Nat) : Int) ≤ xE (zyEl zymx B H2) 74 41 + 2147483648 ∧ xE (zyEl zymx B H2) 74 41 + 2147483648 ≤ ((2147484647 : Nat) : Int) := xTyF hT2 74 41 41 rfl rfl rfl rfl rfl rfl
          refine xGo hIH hAt hB hv hFr ⟨4, by decide⟩ [0, 34359738369, 68719476737, 103079215105, 8] [0, (v2 1), (v2 2), (v2 3), 1, xE (zyEl zymx B H2) 74 36, xE (zyEl zymx B H2) 74 37, xE (zyEl zymx B H2) 74 38, xE (zyEl zymx B H2) 74 40, xE (zyEl zymx B H2) 74 41] rfl ⟨by decide +kernel, ⟨rfl, by decide +kernel⟩, (xcs_c rfl (xcs_c rfl (xcs_c rfl (xcs_c rfl (xcs_c rfl xcs_n))))), (xe_0 (xe_f (by omega) (xe_c (by omega) (by omega) rfl (xe_f (by omega) (xe_c (by omega) (by omega) rfl (xe_c (by omega) (by omega) rfl (xe_f (xE_r _ _ _) (xe_c (by omega) (by omega) rfl (xe_c (by omega) (by omega) rfl (xe_c (by omega) (by omega) rfl xe_n)))))))))), (xkq_c hT2 74 36 (q := 36) rfl rfl rfl rfl rfl rfl rfl rfl rfl rfl rfl (xkq_c hT2 74 37 (q := 37) rfl rfl rfl rfl rfl rfl rfl rfl rfl rfl rfl (xkq_c hT2 74 38 (q := 38) rfl rfl rfl rfl rfl rfl rfl rfl rfl rfl rfl (xkq_c hT2 74 40 (q := 40) rfl rfl rfl rfl rfl rfl rfl rfl rfl rfl rfl (xkq_c hT2 74 41 (q := 41) rfl rfl rfl rfl rfl rfl rfl rfl rfl rfl rfl xkq_n)))))⟩ xst_n ?_ ?_
          · show (∀ k, xE (zyEl zymx B H2) 75 k = xE (zyEl zymx B s.heap) 75 k) ∧ (xE (zyEl zymx B H2) 74 36 = 0 → (0 ≤ ((v2 1) : Int) ∧ ((v2 1) : Int) ≤ 30) ∧ ∃ p, (p) ≤ (xE (zyEl zymx B s.heap) 74 42) ∧ xRD (xE (zyEl zymx B s.heap) 84) (xE (zyEl zymx B s.heap) 74 42) (p) (zyEl zymx B H2) ∧ ((((v2 2) : Int) = 0 ∧ ((v2 3) : Int) = 0 ∧ (1 : Int) = 1 ∧ pSwitch (xE (zyEl zymx B s.heap) 84) (xE (zyEl zymx B s.heap) 74 42) (xE (zyEl zymx B s.heap) 74 39) (xE (zyEl zymx B s.heap) 75) = pNum (xE (zyEl zymx B s.heap) 84) (xE (zyEl zymx B s.heap) 74 42) p 0 1 (fun b p2 => pBits (xE (zyEl zymx B s.heap) 84) (xE (zyEl zymx B s.heap) 74 42) (xE (zyEl zymx B s.heap) 75) ((v2 1) : Int) 3 p2 1 b)) ∨ (1 ≤ ((v2 2) : Int) ∧ (tKd (xE (zyEl zymx B s.heap) 84) (xE (zyEl zymx B s.heap) 74 42) p = 3 ↔ (1 : Int) = 1) ∧ pSwitch (xE (zyEl zymx B s.heap) 84) (xE (zyEl zymx B s.heap) 74 42) (xE (zyEl zymx B s.heap) 74 39) (xE (zyEl zymx B s.heap) 75) = pBits (xE (zyEl zymx B s.heap) 84) (xE (zyEl zymx B s.heap) 74 42) (xE (zyEl zymx B s.heap) 75) ((v2 1) : Int) (4 - ((v2 2) : Int)).toNat p ((v2 2) : Int) ((v2 3) : Int)))) ∧ (¬ xE (zyEl zymx B H2) 74 36 = 0 → xEr (zyEl zymx B H2) (pSwitch (xE (zyEl zymx B s.heap) 84) (xE (zyEl zymx B s.heap) 74 42) (xE (zyEl zymx B s.heap) 74 39) (xE (zyEl zymx B s.heap) 75)))
            rw [hEE]
            refine ⟨hc, fun hz => ⟨by omega, p, hp, hs, Or.inr ⟨by omega, by omega, ?_⟩⟩, fun hz => absurd i1 hz⟩
            rw [i3, show v2 2 = v 2 by omega, show v2 3 = v 3 by omega, show v2 1 = v 1 by omega]
          · show 2 * (10 - ((v2 2) : Int)).toNat + 20 < 2 * (10 - (v 2)).toNat + 21
            omega
    · have hx : x ∈ [zxfsw_fx0] := hx
      have hag : ∀ k, k < 5 → v2 k = v k := hag
      have hfr : xFr [] _ _ := hfr
      have ex := List.mem_singleton.mp hx
      subst ex
      obtain ⟨hF, hBd, hM⟩ := hXs
      have r3 := hr2 3
      have g1 : v2 1 = v 1 := hag 1 (by decide)
      have g2 : v2 2 = v 2 := hag 2 (by decide)
      have g3 : v2 3 = v 3 := hag 3 (by decide)
      have b0 : ((2147483648 : Nat) : Int) ≤ (v2 1) + 2147483648 ∧ (v2 1) + 2147483648 ≤ ((2147483678 : Nat) : Int) := xXb hBd 0 rfl
      have b1 : ((2147483649 : Nat) : Int) ≤ (v2 2) + 2147483648 ∧ (v2 2) + 2147483648 ≤ ((2147483652 : Nat) : Int) := xXb hBd 1 rfl
      have b2 : ((2147483688 : Nat) : Int) ≤ (v2 1 + 40) + 2147483648 ∧ (v2 1 + 40) + 2147483648 ≤ ((2147483718 : Nat) : Int) := xXb hBd 2 rfl
      have e74_36 : xE (zyEl zymx B H2) 74 36 = xE (zyEl zymx B H) 74 36 := xFr_E hfr rfl
      have e74_37 : xE (zyEl zymx B H2) 74 37 = xE (zyEl zymx B H) 74 37 := xFr_E hfr rfl
      have e74_38 : xE (zyEl zymx B H2) 74 38 = xE (zyEl zymx B H) 74 38 := xFr_E hfr rfl
      have e74_39 : xE (zyEl zymx B H2) 74 39 = xE (zyEl zymx B H) 74 39 := xFr_E hfr rfl
      have e74_40 : xE (zyEl zymx B H2) 74 40 = xE (zyEl zymx B H) 74 40 := xFr_E hfr rfl
      have e74_41 : xE (zyEl zymx B H2) 74 41 = xE (zyEl zymx B H) 74 41 := xFr_E hfr rfl
      have e74_42 : xE (zyEl zymx B H2) 74 42 = xE (zyEl zymx B H) 74 42 := xFr_E hfr rfl
      have q74_42 : xE (zyEl zymx B H) 74 42 = xE (zyEl zymx B s.heap) 74 42 := xFr_E hFr0 rfl
      have e75_0 : xE (zyEl zymx B H2) 75 0 = xE (zyEl zymx B H) 75 0 := xFr_E hfr rfl
      have q75_0 : xE (zyEl zymx B H) 75 0 = xE (zyEl zymx B s.heap) 75 0 := xFr_E hFr0 rfl
      have e75_1 : xE (zyEl zymx B H2) 75 1 = xE (zyEl zymx B H) 75 1 := xFr_E hfr rfl
      have q75_1 : xE (zyEl zymx B H) 75 1 = xE (zyEl zymx B s.heap) 75 1 := xFr_E hFr0 rfl
      have e75_2 : xE (zyEl zymx B H2) 75 2 = xE (zyEl zymx B H) 75 2 := xFr_E hfr rfl
      have q75_2 : xE (zyEl zymx B H) 75 2 = xE (zyEl zymx B s.heap) 75 2 := xFr_E hFr0 rfl
      have e84 : ∀ i, xE (zyEl zymx B H2) 84 i = xE (zyEl zymx B H) 84 i := fun i => xFr_E hfr rfl
      have q84 : ∀ i, xE (zyEl zymx B H) 84 i = xE (zyEl zymx B s.heap) 84 i := fun i => xFr_E hFr0 rfl
      have e75 : ∀ i, xE (zyEl zymx B H2) 75 i = xE (zyEl zymx B H) 75 i := fun i => xFr_E hfr rfl
      have hI : xE (zyEl zymx B H) 74 36 = 0 ∧ (∀ k, 0 ≤ k → xE (zyEl zymx B H) 75 k = uS (xE (zyEl zymx B s.heap) 75) (8 + (v 1)) (v 3) k) ∧ ∃ p, (p) ≤ (xE (zyEl zymx B s.heap) 74 42) ∧ xRD (xE (zyEl zymx B s.heap) 84) (xE (zyEl zymx B s.heap) 74 42) (p) (zyEl zymx B H) ∧ pSwitch (xE (zyEl zymx B s.heap) 84) (xE (zyEl zymx B s.heap) 74 42) (xE (zyEl zymx B s.heap) 74 39) (xE (zyEl zymx B s.heap) 75) = .ok (p, uS (uS (xE (zyEl zymx B s.heap) 75) (8 + (v 1)) (v 3)) (40 + (v 1)) (v 2)) := hInv
      obtain ⟨i1, i2, p, hp, hs, i3⟩ := hI
      have hEE : (zyEl zymx B H2) = (zyEl zymx B H) := xFr_n hfr
      refine xSt hRu hIH hAt hB hv hFr 75 (ax := 0) 68719476737 34359738689 (v2 2) (v2 1 + 40) rfl (Or.inl ⟨rfl, rfl⟩) rfl (by decide +kernel) rfl rfl (by omega) (by show (v2 1 + 40) < ((556 : Nat) : Int); omega) (fun r hr q1 q2 => by rw [List.mem_singleton.mp hr]; exact ⟨rfl, by show ((0 : Nat) : Int) ≤ (v2 2) + 2147483648; omega, by show (v2 2) + 2147483648 ≤ ((4294967295 : Nat) : Int); omega⟩) (zyin_iff.mpr ⟨(75, 8, 70), by decide, rfl, (by show 8 ≤ Int.toNat (v2 1 + 40); omega), by show Int.toNat (v2 1 + 40) ≤ 70; omega⟩) (fun H3 hT3 hst3 hne3 hfn3 hFr3 => ?_)
      have hfe3 : ∀ (a2 : Nat) (k2 : Int), ¬ a2 = 75 → xE (zyEl zymx B H3) a2 k2 = xE (zyEl zymx B H2) a2 k2 := fun a2 k2 hne => by unfold xE; rw [hfn3 a2 k2.toNat (fun z => hne z.1)]
      have d74_36 : xE (zyEl zymx B H3) 74 36 = xE (zyEl zymx B H2) 74 36 := hfe3 74 36 (fun z => absurd z (by decide))
      have d74_37 : xE (zyEl zymx B H3) 74 37 = xE (zyEl zymx B H2) 74 37 := hfe3 74 37 (fun z => absurd z (by decide))
      have d74_38 : xE (zyEl zymx B H3) 74 38 = xE (zyEl zymx B H2) 74 38 := hfe3 74 38 (fun z => absurd z (by decide))
      have d74_39 : xE (zyEl zymx B H3) 74 39 = xE (zyEl zymx B H2) 74 39 := hfe3 74 39 (fun z => absurd z (by decide))
      have d74_40 : xE (zyEl zymx B H3) 74 40 = xE (zyEl zymx B H2) 74 40 := hfe3 74 40 (fun z => absurd z (by decide))
      have d74_41 : xE (zyEl zymx B H3) 74 41 = xE (zyEl zymx B H2) 74 41 := hfe3 74 41 (fun z => absurd z (by decide))
      have d74_42 : xE (zyEl zymx B H3) 74 42 = xE (zyEl zymx B H2) 74 42 := hfe3 74 42 (fun z => absurd z (by decide))
      refine ⟨⟨8, by decide⟩, [0, 0, 0, 0, 0], [0, 0, 0, 0, 0], rfl, ⟨by decide +kernel, ⟨rfl, by decide +kernel⟩, (xcs_c rfl (xcs_c rfl (xcs_c rfl (xcs_c rfl (xcs_c rfl xcs_n))))), (xe_0 (xe_0 (xe_0 (xe_0 (xe_0 xe_n))))), xkq_n⟩, rfl, ?_, ?_⟩
      · show xE (zyEl zymx B H3) 74 36 = 0 ∧ ∃ p U, (p) ≤ (xE (zyEl zymx B s.heap) 74 42) ∧ xRD (xE (zyEl zymx B s.heap) 84) (xE (zyEl zymx B s.heap) 74 42) (p) (zyEl zymx B H3) ∧ pSwitch (xE (zyEl zymx B s.heap) 84) (xE (zyEl zymx B s.heap) 74 42) (xE (zyEl zymx B s.heap) 74 39) (xE (zyEl zymx B s.heap) 75) = .ok (p, U) ∧ ∀ k, 0 ≤ k → xE (zyEl zymx B H3) 75 k = U k
        refine ⟨by omega, p, _, hp, xRD_e (xRD_k hs hfr rfl rfl rfl rfl rfl) (fun k _ => hfn3 74 k (fun z => absurd z.1 (by decide))), i3, fun k k0 => ?_⟩
        by_cases e : k = 40 + v 1
        · rw [uS_e e, e, show 40 + v 1 = v2 1 + 40 by omega, hst3]
          omega
        · rw [uS_n e, hne3 75 k k0 (fun z => e (by omega)), e75]
          exact i2 k k0
      · show 1 < 2
        omega
    · cases hx
  · intro x0 E0 E E2 hrx hT0 hΦ i v hT hrv hInv hKc hFr0 x hx v2 hr2 hXs hag hfr hFr hT2
    rcases i with ⟨i, hi⟩
    have hi2 : i = 0 ∨ i = 1 ∨ i = 2 ∨ i = 3 ∨ i = 4 ∨ i = 5 ∨ i = 6 ∨ i = 7 ∨ i = 8 := by omega
    rcases hi2 with rfl | rfl | rfl | rfl | rfl | rfl | rfl | rfl | rfl
    · cases hx
    · cases hx
    · cases hx
    · cases hx
    · have hx : x ∈ [zxfsw_dr0, zxfsw_dr1, zxfsw_dr2, zxfsw_dr3, zxfsw_dr4, zxfsw_dr5, zxfsw_dr6, zxfsw_dr7, zxfsw_dr8, zxfsw_dr9, zxfsw_dr10, zxfsw_dr11, zxfsw_dr12, zxfsw_dr13, zxfsw_dr14, zxfsw_dr15] := hx
      have hag : ∀ k, k < 10 → v2 k = v k := hag
      have hfr : xFr [(74, 36, 37)] _ _ := hfr
      rcases List.mem_cons.mp hx with ex | hx
      · subst ex
        obtain ⟨hF, hBd, hM⟩ := hXs
        have r6 := hr2 6
        have g1 : v2 1 = v 1 := hag 1 (by decide)
        have g2 : v2 2 = v 2 := hag 2 (by decide)
        have g3 : v2 3 = v 3 := hag 3 (by decide)
        have g4 : v2 4 = v 4 := hag 4 (by decide)
        have g5 : v2 5 = v 5 := hag 5 (by decide)
        have g6 : v2 6 = v 6 := hag 6 (by decide)
        have g7 : v2 7 = v 7 := hag 7 (by decide)
        have g8 : v2 8 = v 8 := hag 8 (by decide)
        have g9 : v2 9 = v 9 := hag 9 (by decide)
        have b0 : ((2147483649 : Nat) : Int) ≤ (v2 5) + 2147483648 ∧ (v2 5) + 2147483648 ≤ ((2147483657 : Nat) : Int) := xXb hBd 0 rfl
        have k0 : xE E 74 36 = v 5 := xKcf hKc 0 rfl rfl
        have k1 : xE E 74 37 = v 6 := xKcf hKc 1 rfl rfl
        have k2 : xE E 74 38 = v 7 := xKcf hKc 2 rfl rfl
        have k3 : xE E 74 40 = v 8 := xKcf hKc 3 rfl rfl
        have k4 : xE E 74 41 = v 9 := xKcf hKc 4 rfl rfl
        have f0 : ¬ (v2 5) = 0 := xXf hF 0 rfl
        have f1 : 0 < (v2 5) := xXf hF 1 rfl
        have m0 : xE E2 74 36 = (v2 5) := xXm hM 0 rfl
        have m1 : xE E2 74 37 = (v2 6) := xXm hM 1 rfl
        have e74_38 : xE E2 74 38 = xE E 74 38 := xFr_E hfr rfl
        have e74_39 : xE E2 74 39 = xE E 74 39 := xFr_E hfr rfl
        have e74_40 : xE E2 74 40 = xE E 74 40 := xFr_E hfr rfl
        have e74_41 : xE E2 74 41 = xE E 74 41 := xFr_E hfr rfl
        have e74_42 : xE E2 74 42 = xE E 74 42 := xFr_E hfr rfl
        have q74_42 : xE E 74 42 = xE E0 74 42 := xFr_E hFr0 rfl
        have e75_0 : xE E2 75 0 = xE E 75 0 := xFr_E hfr rfl
        have q75_0 : xE E 75 0 = xE E0 75 0 := xFr_E hFr0 rfl
        have e75_1 : xE E2 75 1 = xE E 75 1 := xFr_E hfr rfl
        have q75_1 : xE E 75 1 = xE E0 75 1 := xFr_E hFr0 rfl
        have e75_2 : xE E2 75 2 = xE E 75 2 := xFr_E hfr rfl
        have q75_2 : xE E 75 2 = xE E0 75 2 := xFr_E hFr0 rfl
        have e84 : ∀ i, xE E2 84 i = xE E 84 i := fun i => xFr_E hfr rfl
        have q84 : ∀ i, xE E 84 i = xE E0 84 i := fun i => xFr_E hFr0 rfl
        have e75 : ∀ i, xE E2 75 i = xE E 75 i := fun i => xFr_E hfr rfl
        have hI : (∀ k, xE E 75 k = xE E0 75 k) ∧ (xE E 74 36 = 0 → (0 ≤ (v 1) ∧ (v 1) ≤ 30) ∧ ∃ p, (p) ≤ (xE E0 74 42) ∧ xRD (xE E0 84) (xE E0 74 42) (p) E ∧ (((v 2) = 0 ∧ (v 3) = 0 ∧ (v 4) = 1 ∧ pSwitch (xE E0 84) (xE E0 74 42) (xE E0 74 39) (xE E0 75) = pNum (xE E0 84) (xE E0 74 42) p 0 1 (fun b p2 => pBits (xE E0 84) (xE E0 74 42) (xE E0 75) (v 1) 3 p2 1 b)) ∨ (1 ≤ (v 2) ∧ (tKd (xE E0 84) (xE E0 74 42) p = 3 ↔ (v 4) = 1) ∧ pSwitch (xE E0 84) (xE E0 74 42) (xE E0 74 39) (xE E0 75) = pBits (xE E0 84) (xE E0 74 42) (xE E0 75) (v 1) (4 - (v 2)).toNat p (v 2) (v 3)))) ∧ (¬ xE E 74 36 = 0 → xEr E (pSwitch (xE E0 84) (xE E0 74 42) (xE E0 74 39) (xE E0 75))) := hInv
        show xΨsw x0 E0 E2 0
        obtain ⟨hc, i1, i2⟩ := hI
        exact xRs_e (xEr_k (i2 (by omega)) (by omega) (by omega))
      · skip
        rcases List.mem_cons.mp hx with ex | hx
        · subst ex
          obtain ⟨hF, hBd, hM⟩ := hXs
          have g1 : v2 1 = v 1 := hag 1 (by decide)
          have g2 : v2 2 = v 2 := hag 2 (by decide)
          have g3 : v2 3 = v 3 := hag 3 (by decide)
          have g4 : v2 4 = v 4 := hag 4 (by decide)
          have g5 : v2 5 = v 5 := hag 5 (by decide)
          have g6 : v2 6 = v 6 := hag 6 (by decide)
          have g7 : v2 7 = v 7 := hag 7 (by decide)
          have g8 : v2 8 = v 8 := hag 8 (by decide)
          have g9 : v2 9 = v 9 := hag 9 (by decide)
          have b0 : ((2147483648 : Nat) : Int) ≤ (v2 2) + 2147483648 ∧ (v2 2) + 2147483648 ≤ ((2147483651 : Nat) : Int) := xXb hBd 0 rfl
          have b1 : ((2147483649 : Nat) : Int) ≤ (v2 4) + 2147483648 ∧ (v2 4) + 2147483648 ≤ ((2147483649 : Nat) : Int) := xXb hBd 1 rfl
          have b2 : ((2147483648 : Nat) : Int) ≤ (v2 5) + 2147483648 ∧ (v2 5) + 2147483648 ≤ ((2147483648 : Nat) : Int) := xXb hBd 2 rfl
          have b3 : ((2147483648 : Nat) : Int) ≤ (v2 7) + 2147483648 ∧ (v2 7) + 2147483648 ≤ ((2147484548 : Nat) : Int) := xXb hBd 3 rfl
          have b4 : ((2147483651 : Nat) : Int) ≤ (v2 8) + 2147483648 ∧ (v2 8) + 2147483648 ≤ ((2147483651 : Nat) : Int) := xXb hBd 4 rfl
          have b5 : ((2147483650 : Nat) : Int) ≤ (v2 9) + 2147483648 ∧ (v2 9) + 2147483648 ≤ ((2147484647 : Nat) : Int) := xXb hBd 5 rfl
          have k0 : xE E 74 36 = v 5 := xKcf hKc 0 rfl rfl
          have k1 : xE E 74 37 = v 6 := xKcf hKc 1 rfl rfl
          have k2 : xE E 74 38 = v 7 := xKcf hKc 2 rfl rfl
          have k3 : xE E 74 40 = v 8 := xKcf hKc 3 rfl rfl
          have k4 : xE E 74 41 = v 9 := xKcf hKc 4 rfl rfl
          have f0 : (v2 5) = 0 := xXf hF 0 rfl
          have f1 : ¬ (v2 4) = 0 := xXf hF 1 rfl
          have f2 : ¬ (v2 8) = 2 := xXf hF 2 rfl
          have f3 : (v2 5) ≤ 0 := xXf hF 3 rfl
          have f4 : ¬ (v2 8) = 4 := xXf hF 4 rfl
          have f5 : 0 ≤ (v2 9) := xXf hF 5 rfl
          have f6 : 1 < (v2 9) := xXf hF 6 rfl
          have f7 : (v2 2) < 4 := xXf hF 7 rfl
          have m0 : xE E2 74 36 = 2 := xXm hM 0 rfl
          have m1 : xE E2 74 37 = (v2 7) := xXm hM 1 rfl
          have e74_38 : xE E2 74 38 = xE E 74 38 := xFr_E hfr rfl
          have e74_39 : xE E2 74 39 = xE E 74 39 := xFr_E hfr rfl
          have e74_40 : xE E2 74 40 = xE E 74 40 := xFr_E hfr rfl
          have e74_41 : xE E2 74 41 = xE E 74 41 := xFr_E hfr rfl
          have e74_42 : xE E2 74 42 = xE E 74 42 := xFr_E hfr rfl
          have q74_42 : xE E 74 42 = xE E0 74 42 := xFr_E hFr0 rfl
          have e75_0 : xE E2 75 0 = xE E 75 0 := xFr_E hfr rfl
          have q75_0 : xE E 75 0 = xE E0 75 0 := xFr_E hFr0 rfl
          have e75_1 : xE E2 75 1 = xE E 75 1 := xFr_E hfr rfl
          have q75_1 : xE E 75 1 = xE E0 75 1 := xFr_E hFr0 rfl
          have e75_2 : xE E2 75 2 = xE E 75 2 := xFr_E hfr rfl
          have q75_2 : xE E 75 2 = xE E0 75 2 := xFr_E hFr0 rfl
          have e84 : ∀ i, xE E2 84 i = xE E 84 i := fun i => xFr_E hfr rfl
          have q84 : ∀ i, xE E 84 i = xE E0 84 i := fun i => xFr_E hFr0 rfl
          have e75 : ∀ i, xE E2 75 i = xE E 75 i := fun i => xFr_E hfr rfl
          have hI : (∀ k, xE E 75 k = xE E0 75 k) ∧ (xE E 74 36 = 0 → (0 ≤ (v 1) ∧ (v 1) ≤ 30) ∧ ∃ p, (p) ≤ (xE E0 74 42) ∧ xRD (xE E0 84) (xE E0 74 42) (p) E ∧ (((v 2) = 0 ∧ (v 3) = 0 ∧ (v 4) = 1 ∧ pSwitch (xE E0 84) (xE E0 74 42) (xE E0 74 39) (xE E0 75) = pNum (xE E0 84) (xE E0 74 42) p 0 1 (fun b p2 => pBits (xE E0 84) (xE E0 74 42) (xE E0 75) (v 1) 3 p2 1 b)) ∨ (1 ≤ (v 2) ∧ (tKd (xE E0 84) (xE E0 74 42) p = 3 ↔ (v 4) = 1) ∧ pSwitch (xE E0 84) (xE E0 74 42) (xE E0 74 39) (xE E0 75) = pBits (xE E0 84) (xE E0 74 42) (xE E0 75) (v 1) (4 - (v 2)).toNat p (v 2) (v 3)))) ∧ (¬ xE E 74 36 = 0 → xEr E (pSwitch (xE E0 84) (xE E0 74 42) (xE E0 74 39) (xE E0 75))) := hInv
          show xΨsw x0 E0 E2 0
          obtain ⟨hc, i1, i2⟩ := hI
          obtain ⟨j1, p, hp, hs, hd⟩ := i1 (by omega)
          obtain ⟨s1, s1b, s2, s3, s4, s5, s6, s7, s8⟩ := xRD_i hs hp
          refine xRs_e ?_
          rcases hd with ⟨d1, d2, d3, d4⟩ | ⟨d1, d2, d3⟩
          · rw [d4]
            unfold pNum
            by_cases c3 : tKd (xE E0 84) (xE E0 74 42) p = 3
            · rw [if_pos c3]
              first
                | (exfalso; omega)
                | (rw [if_neg (by omega)]; exact xEr_n (by omega) (by omega) (by omega))
            · rw [if_neg c3]
              unfold pMis
              by_cases c1 : tKd (xE E0 84) (xE E0 74 42) p = 1
              · rw [if_pos c1]
                first
                  | (exfalso; omega)
                  | exact xEr_n (by omega) (by omega) (by omega)
              · rw [if_neg c1]
                first
                  | (exfalso; omega)
                  | exact xEr_n (by omega) (by omega) (by omega)
          · have c3 : tKd (xE E0 84) (xE E0 74 42) p = 3 := by omega
            rw [d3]
            first
              | (exfalso; omega)
              | (rw [pBits_3 c3 (by omega)]; exact xEr_n (by omega) (by omega) (by omega))
              | (rw [pBits_6 c3 (by omega) (by omega)]; exact xEr_n (by omega) (by omega) (by omega))
        · skip
          rcases List.mem_cons.mp hx with ex | hx
          · subst ex
            obtain ⟨hF, hBd, hM⟩ := hXs
            have g1 : v2 1 = v 1 := hag 1 (by decide)
            have g2 : v2 2 = v 2 := hag 2 (by decide)
            have g3 : v2 3 = v 3 := hag 3 (by decide)
            have g4 : v2 4 = v 4 := hag 4 (by decide)
            have g5 : v2 5 = v 5 := hag 5 (by decide)
            have g6 : v2 6 = v 6 := hag 6 (by decide)
            have g7 : v2 7 = v 7 := hag 7 (by decide)
            have g8 : v2 8 = v 8 := hag 8 (by decide)
            have g9 : v2 9 = v 9 := hag 9 (by decide)
            have b0 : ((2147483652 : Nat) : Int) ≤ (v2 2) + 2147483648 ∧ (v2 2) + 2147483648 ≤ ((2147483652 : Nat) : Int) := xXb hBd 0 rfl
            have b1 : ((2147483649 : Nat) : Int) ≤ (v2 4) + 2147483648 ∧ (v2 4) + 2147483648 ≤ ((2147483649 : Nat) : Int) := xXb hBd 1 rfl
            have b2 : ((2147483648 : Nat) : Int) ≤ (v2 5) + 2147483648 ∧ (v2 5) + 2147483648 ≤ ((2147483648 : Nat) : Int) := xXb hBd 2 rfl
            have b3 : ((2147483648 : Nat) : Int) ≤ (v2 7) + 2147483648 ∧ (v2 7) + 2147483648 ≤ ((2147484548 : Nat) : Int) := xXb hBd 3 rfl
            have b4 : ((2147483651 : Nat) : Int) ≤ (v2 8) + 2147483648 ∧ (v2 8) + 2147483648 ≤ ((2147483651 : Nat) : Int) := xXb hBd 4 rfl
            have b5 : ((2147483650 : Nat) : Int) ≤ (v2 9) + 2147483648 ∧ (v2 9) + 2147483648 ≤ ((2147484647 : Nat) : Int) := xXb hBd 5 rfl
            have k0 : xE E 74 36 = v 5 := xKcf hKc 0 rfl rfl
            have k1 : xE E 74 37 = v 6 := xKcf hKc 1 rfl rfl
            have k2 : xE E 74 38 = v 7 := xKcf hKc 2 rfl rfl
            have k3 : xE E 74 40 = v 8 := xKcf hKc 3 rfl rfl
            have k4 : xE E 74 41 = v 9 := xKcf hKc 4 rfl rfl
            have f0 : (v2 5) = 0 := xXf hF 0 rfl
            have f1 : ¬ (v2 4) = 0 := xXf hF 1 rfl
            have f2 : ¬ (v2 8) = 2 := xXf hF 2 rfl
            have f3 : (v2 5) ≤ 0 := xXf hF 3 rfl
            have f4 : ¬ (v2 8) = 4 := xXf hF 4 rfl
            have f5 : 0 ≤ (v2 9) := xXf hF 5 rfl
            have f6 : 1 < (v2 9) := xXf hF 6 rfl
            have f7 : 4 ≤ (v2 2) := xXf hF 7 rfl
            have m0 : xE E2 74 36 = 2 := xXm hM 0 rfl
            have m1 : xE E2 74 37 = (v2 7) := xXm hM 1 rfl
            have e74_38 : xE E2 74 38 = xE E 74 38 := xFr_E hfr rfl
            have e74_39 : xE E2 74 39 = xE E 74 39 := xFr_E hfr rfl
            have e74_40 : xE E2 74 40 = xE E 74 40 := xFr_E hfr rfl
            have e74_41 : xE E2 74 41 = xE E 74 41 := xFr_E hfr rfl
            have e74_42 : xE E2 74 42 = xE E 74 42 := xFr_E hfr rfl
            have q74_42 : xE E 74 42 = xE E0 74 42 := xFr_E hFr0 rfl
            have e75_0 : xE E2 75 0 = xE E 75 0 := xFr_E hfr rfl
            have q75_0 : xE E 75 0 = xE E0 75 0 := xFr_E hFr0 rfl
            have e75_1 : xE E2 75 1 = xE E 75 1 := xFr_E hfr rfl
            have q75_1 : xE E 75 1 = xE E0 75 1 := xFr_E hFr0 rfl
            have e75_2 : xE E2 75 2 = xE E 75 2 := xFr_E hfr rfl
            have q75_2 : xE E 75 2 = xE E0 75 2 := xFr_E hFr0 rfl
            have e84 : ∀ i, xE E2 84 i = xE E 84 i := fun i => xFr_E hfr rfl
            have q84 : ∀ i, xE E 84 i = xE E0 84 i := fun i => xFr_E hFr0 rfl
            have e75 : ∀ i, xE E2 75 i = xE E 75 i := fun i => xFr_E hfr rfl
            have hI : (∀ k, xE E 75 k = xE E0 75 k) ∧ (xE E 74 36 = 0 → (0 ≤ (v 1) ∧ (v 1) ≤ 30) ∧ ∃ p, (p) ≤ (xE E0 74 42) ∧ xRD (xE E0 84) (xE E0 74 42) (p) E ∧ (((v 2) = 0 ∧ (v 3) = 0 ∧ (v 4) = 1 ∧ pSwitch (xE E0 84) (xE E0 74 42) (xE E0 74 39) (xE E0 75) = pNum (xE E0 84) (xE E0 74 42) p 0 1 (fun b p2 => pBits (xE E0 84) (xE E0 74 42) (xE E0 75) (v 1) 3 p2 1 b)) ∨ (1 ≤ (v 2) ∧ (tKd (xE E0 84) (xE E0 74 42) p = 3 ↔ (v 4) = 1) ∧ pSwitch (xE E0 84) (xE E0 74 42) (xE E0 74 39) (xE E0 75) = pBits (xE E0 84) (xE E0 74 42) (xE E0 75) (v 1) (4 - (v 2)).toNat p (v 2) (v 3)))) ∧ (¬ xE E 74 36 = 0 → xEr E (pSwitch (xE E0 84) (xE E0 74 42) (xE E0 74 39) (xE E0 75))) := hInv
            show xΨsw x0 E0 E2 0
            obtain ⟨hc, i1, i2⟩ := hI
            obtain ⟨j1, p, hp, hs, hd⟩ := i1 (by omega)
            obtain ⟨s1, s1b, s2, s3, s4, s5, s6, s7, s8⟩ := xRD_i hs hp
            refine xRs_e ?_
            rcases hd with ⟨d1, d2, d3, d4⟩ | ⟨d1, d2, d3⟩
            · rw [d4]
              unfold pNum
              by_cases c3 : tKd (xE E0 84) (xE E0 74 42) p = 3
              · rw [if_pos c3]
                first
                  | (exfalso; omega)
                  | (rw [if_neg (by omega)]; exact xEr_n (by omega) (by omega) (by omega))
              · rw [if_neg c3]
                unfold pMis
                by_cases c1 : tKd (xE E0 84) (xE E0 74 42) p = 1
                · rw [if_pos c1]
                  first
                    | (exfalso; omega)
                    | exact xEr_n (by omega) (by omega) (by omega)
                · rw [if_neg c1]
                  first
                    | (exfalso; omega)
                    | exact xEr_n (by omega) (by omega) (by omega)
            · have c3 : tKd (xE E0 84) (xE E0 74 42) p = 3 := by omega
              rw [d3]
              first
                | (exfalso; omega)
                | (rw [pBits_3 c3 (by omega)]; exact xEr_n (by omega) (by omega) (by omega))
                | (rw [pBits_6 c3 (by omega) (by omega)]; exact xEr_n (by omega) (by omega) (by omega))
          · skip
            rcases List.mem_cons.mp hx with ex | hx
            · subst ex
              obtain ⟨hF, hBd, hM⟩ := hXs
              have g1 : v2 1 = v 1 := hag 1 (by decide)
              have g2 : v2 2 = v 2 := hag 2 (by decide)
              have g3 : v2 3 = v 3 := hag 3 (by decide)
              have g4 : v2 4 = v 4 := hag 4 (by decide)
              have g5 : v2 5 = v 5 := hag 5 (by decide)
              have g6 : v2 6 = v 6 := hag 6 (by decide)
              have g7 : v2 7 = v 7 := hag 7 (by decide)
              have g8 : v2 8 = v 8 := hag 8 (by decide)
              have g9 : v2 9 = v 9 := hag 9 (by decide)
              have b0 : ((2147483648 : Nat) : Int) ≤ (v2 2) + 2147483648 ∧ (v2 2) + 2147483648 ≤ ((2147483651 : Nat) : Int) := xXb hBd 0 rfl
              have b1 : ((2147483649 : Nat) : Int) ≤ (v2 4) + 2147483648 ∧ (v2 4) + 2147483648 ≤ ((2147483649 : Nat) : Int) := xXb hBd 1 rfl
              have b2 : ((2147483648 : Nat) : Int) ≤ (v2 5) + 2147483648 ∧ (v2 5) + 2147483648 ≤ ((2147483648 : Nat) : Int) := xXb hBd 2 rfl
              have b3 : ((2147483648 : Nat) : Int) ≤ (v2 7) + 2147483648 ∧ (v2 7) + 2147483648 ≤ ((2147484548 : Nat) : Int) := xXb hBd 3 rfl
              have b4 : ((2147483651 : Nat) : Int) ≤ (v2 8) + 2147483648 ∧ (v2 8) + 2147483648 ≤ ((2147483651 : Nat) : Int) := xXb hBd 4 rfl
              have b5 : ((2147483648 : Nat) : Int) ≤ (v2 9) + 2147483648 ∧ (v2 9) + 2147483648 ≤ ((2147483649 : Nat) : Int) := xXb hBd 5 rfl
              have k0 : xE E 74 36 = v 5 := xKcf hKc 0 rfl rfl
              have k1 : xE E 74 37 = v 6 := xKcf hKc 1 rfl rfl
              have k2 : xE E 74 38 = v 7 := xKcf hKc 2 rfl rfl
              have k3 : xE E 74 40 = v 8 := xKcf hKc 3 rfl rfl
              have k4 : xE E 74 41 = v 9 := xKcf hKc 4 rfl rfl
              have f0 : (v2 5) = 0 := xXf hF 0 rfl
              have f1 : ¬ (v2 4) = 0 := xXf hF 1 rfl
              have f2 : ¬ (v2 8) = 2 := xXf hF 2 rfl
              have f3 : (v2 5) ≤ 0 := xXf hF 3 rfl
              have f4 : ¬ (v2 8) = 4 := xXf hF 4 rfl
              have f5 : 0 ≤ (v2 9) := xXf hF 5 rfl
              have f6 : (v2 9) ≤ 1 := xXf hF 6 rfl
              have f7 : (v2 2) < 4 := xXf hF 7 rfl
              have m0 : xE E2 74 36 = 2 := xXm hM 0 rfl
              have m1 : xE E2 74 37 = (v2 7) := xXm hM 1 rfl
              have e74_38 : xE E2 74 38 = xE E 74 38 := xFr_E hfr rfl
              have e74_39 : xE E2 74 39 = xE E 74 39 := xFr_E hfr rfl
              have e74_40 : xE E2 74 40 = xE E 74 40 := xFr_E hfr rfl
              have e74_41 : xE E2 74 41 = xE E 74 41 := xFr_E hfr rfl
              have e74_42 : xE E2 74 42 = xE E 74 42 := xFr_E hfr rfl
              have q74_42 : xE E 74 42 = xE E0 74 42 := xFr_E hFr0 rfl
              have e75_0 : xE E2 75 0 = xE E 75 0 := xFr_E hfr rfl
              have q75_0 : xE E 75 0 = xE E0 75 0 := xFr_E hFr0 rfl
              have e75_1 : xE E2 75 1 = xE E 75 1 := xFr_E hfr rfl
              have q75_1 : xE E 75 1 = xE E0 75 1 := xFr_E hFr0 rfl
              have e75_2 : xE E2 75 2 = xE E 75 2 := xFr_E hfr rfl
              have q75_2 : xE E 75 2 = xE E0 75 2 := xFr_E hFr0 rfl
              have e84 : ∀ i, xE E2 84 i = xE E 84 i := fun i => xFr_E hfr rfl
              have q84 : ∀ i, xE E 84 i = xE E0 84 i := fun i => xFr_E hFr0 rfl
              have e75 : ∀ i, xE E2 75 i = xE E 75 i := fun i => xFr_E hfr rfl
              have hI : (∀ k, xE E 75 k = xE E0 75 k) ∧ (xE E 74 36 = 0 → (0 ≤ (v 1) ∧ (v 1) ≤ 30) ∧ ∃ p, (p) ≤ (xE E0 74 42) ∧ xRD (xE E0 84) (xE E0 74 42) (p) E ∧ (((v 2) = 0 ∧ (v 3) = 0 ∧ (v 4) = 1 ∧ pSwitch (xE E0 84) (xE E0 74 42) (xE E0 74 39) (xE E0 75) = pNum (xE E0 84) (xE E0 74 42) p 0 1 (fun b p2 => pBits (xE E0 84) (xE E0 74 42) (xE E0 75) (v 1) 3 p2 1 b)) ∨ (1 ≤ (v 2) ∧ (tKd (xE E0 84) (xE E0 74 42) p = 3 ↔ (v 4) = 1) ∧ pSwitch (xE E0 84) (xE E0 74 42) (xE E0 74 39) (xE E0 75) = pBits (xE E0 84) (xE E0 74 42) (xE E0 75) (v 1) (4 - (v 2)).toNat p (v 2) (v 3)))) ∧ (¬ xE E 74 36 = 0 → xEr E (pSwitch (xE E0 84) (xE E0 74 42) (xE E0 74 39) (xE E0 75))) := hInv
              show xΨsw x0 E0 E2 0
              obtain ⟨hc, i1, i2⟩ := hI
              obtain ⟨j1, p, hp, hs, hd⟩ := i1 (by omega)
              obtain ⟨s1, s1b, s2, s3, s4, s5, s6, s7, s8⟩ := xRD_i hs hp
              refine xRs_e ?_
              rcases hd with ⟨d1, d2, d3, d4⟩ | ⟨d1, d2, d3⟩
              · rw [d4]
                unfold pNum
                by_cases c3 : tKd (xE E0 84) (xE E0 74 42) p = 3
                · rw [if_pos c3]
                  first
                    | (exfalso; omega)
                    | (rw [if_neg (by omega)]; exact xEr_n (by omega) (by omega) (by omega))
                · rw [if_neg c3]
                  unfold pMis
                  by_cases c1 : tKd (xE E0 84) (xE E0 74 42) p = 1
                  · rw [if_pos c1]
                    first
                      | (exfalso; omega)
                      | exact xEr_n (by omega) (by omega) (by omega)
                  · rw [if_neg c1]
                    first
                      | (exfalso; omega)
                      | exact xEr_n (by omega) (by omega) (by omega)
              · have c3 : tKd (xE E0 84) (xE E0 74 42) p = 3 := by omega
                rw [d3]
                first
                  | (exfalso; omega)
                  | (rw [pBits_3 c3 (by omega)]; exact xEr_n (by omega) (by omega) (by omega))
                  | (rw [pBits_6 c3 (by omega) (by omega)]; exact xEr_n (by omega) (by omega) (by omega))
            · skip
              rcases List.mem_cons.mp hx with ex | hx
              · subst ex
                obtain ⟨hF, hBd, hM⟩ := hXs
                have g1 : v2 1 = v 1 := hag 1 (by decide)
                have g2 : v2 2 = v 2 := hag 2 (by decide)
                have g3 : v2 3 = v 3 := hag 3 (by decide)
                have g4 : v2 4 = v 4 := hag 4 (by decide)
                have g5 : v2 5 = v 5 := hag 5 (by decide)
                have g6 : v2 6 = v 6 := hag 6 (by decide)
                have g7 : v2 7 = v 7 := hag 7 (by decide)
                have g8 : v2 8 = v 8 := hag 8 (by decide)
                have g9 : v2 9 = v 9 := hag 9 (by decide)
                have b0 : ((2147483652 : Nat) : Int) ≤ (v2 2) + 2147483648 ∧ (v2 2) + 2147483648 ≤ ((2147483652 : Nat) : Int) := xXb hBd 0 rfl
                have b1 : ((2147483649 : Nat) : Int) ≤ (v2 4) + 2147483648 ∧ (v2 4) + 2147483648 ≤ ((2147483649 : Nat) : Int) := xXb hBd 1 rfl
                have b2 : ((2147483648 : Nat) : Int) ≤ (v2 5) + 2147483648 ∧ (v2 5) + 2147483648 ≤ ((2147483648 : Nat) : Int) := xXb hBd 2 rfl
                have b3 : ((2147483648 : Nat) : Int) ≤ (v2 7) + 2147483648 ∧ (v2 7) + 2147483648 ≤ ((2147484548 : Nat) : Int) := xXb hBd 3 rfl
                have b4 : ((2147483651 : Nat) : Int) ≤ (v2 8) + 2147483648 ∧ (v2 8) + 2147483648 ≤ ((2147483651 : Nat) : Int) := xXb hBd 4 rfl
                have b5 : ((2147483648 : Nat) : Int) ≤ (v2 9) + 2147483648 ∧ (v2 9) + 2147483648 ≤ ((2147483649 : Nat) : Int) := xXb hBd 5 rfl
                have k0 : xE E 74 36 = v 5 := xKcf hKc 0 rfl rfl
                have k1 : xE E 74 37 = v 6 := xKcf hKc 1 rfl rfl
                have k2 : xE E 74 38 = v 7 := xKcf hKc 2 rfl rfl
                have k3 : xE E 74 40 = v 8 := xKcf hKc 3 rfl rfl
                have k4 : xE E 74 41 = v 9 := xKcf hKc 4 rfl rfl
                have f0 : (v2 5) = 0 := xXf hF 0 rfl
                have f1 : ¬ (v2 4) = 0 := xXf hF 1 rfl
                have f2 : ¬ (v2 8) = 2 := xXf hF 2 rfl
                have f3 : (v2 5) ≤ 0 := xXf hF 3 rfl
                have f4 : ¬ (v2 8) = 4 := xXf hF 4 rfl
                have f5 : 0 ≤ (v2 9) := xXf hF 5 rfl
                have f6 : (v2 9) ≤ 1 := xXf hF 6 rfl
                have f7 : 4 ≤ (v2 2) := xXf hF 7 rfl
                have m0 : xE E2 74 36 = 2 := xXm hM 0 rfl
                have m1 : xE E2 74 37 = (v2 7) := xXm hM 1 rfl
                have e74_38 : xE E2 74 38 = xE E 74 38 := xFr_E hfr rfl
                have e74_39 : xE E2 74 39 = xE E 74 39 := xFr_E hfr rfl
                have e74_40 : xE E2 74 40 = xE E 74 40 := xFr_E hfr rfl
                have e74_41 : xE E2 74 41 = xE E 74 41 := xFr_E hfr rfl
                have e74_42 : xE E2 74 42 = xE E 74 42 := xFr_E hfr rfl
                have q74_42 : xE E 74 42 = xE E0 74 42 := xFr_E hFr0 rfl
                have e75_0 : xE E2 75 0 = xE E 75 0 := xFr_E hfr rfl
                have q75_0 : xE E 75 0 = xE E0 75 0 := xFr_E hFr0 rfl
                have e75_1 : xE E2 75 1 = xE E 75 1 := xFr_E hfr rfl
                have q75_1 : xE E 75 1 = xE E0 75 1 := xFr_E hFr0 rfl
                have e75_2 : xE E2 75 2 = xE E 75 2 := xFr_E hfr rfl
                have q75_2 : xE E 75 2 = xE E0 75 2 := xFr_E hFr0 rfl
                have e84 : ∀ i, xE E2 84 i = xE E 84 i := fun i => xFr_E hfr rfl
                have q84 : ∀ i, xE E 84 i = xE E0 84 i := fun i => xFr_E hFr0 rfl
                have e75 : ∀ i, xE E2 75 i = xE E 75 i := fun i => xFr_E hfr rfl
                have hI : (∀ k, xE E 75 k = xE E0 75 k) ∧ (xE E 74 36 = 0 → (0 ≤ (v 1) ∧ (v 1) ≤ 30) ∧ ∃ p, (p) ≤ (xE E0 74 42) ∧ xRD (xE E0 84) (xE E0 74 42) (p) E ∧ (((v 2) = 0 ∧ (v 3) = 0 ∧ (v 4) = 1 ∧ pSwitch (xE E0 84) (xE E0 74 42) (xE E0 74 39) (xE E0 75) = pNum (xE E0 84) (xE E0 74 42) p 0 1 (fun b p2 => pBits (xE E0 84) (xE E0 74 42) (xE E0 75) (v 1) 3 p2 1 b)) ∨ (1 ≤ (v 2) ∧ (tKd (xE E0 84) (xE E0 74 42) p = 3 ↔ (v 4) = 1) ∧ pSwitch (xE E0 84) (xE E0 74 42) (xE E0 74 39) (xE E0 75) = pBits (xE E0 84) (xE E0 74 42) (xE E0 75) (v 1) (4 - (v 2)).toNat p (v 2) (v 3)))) ∧ (¬ xE E 74 36 = 0 → xEr E (pSwitch (xE E0 84) (xE E0 74 42) (xE E0 74 39) (xE E0 75))) := hInv
                show xΨsw x0 E0 E2 0
                obtain ⟨hc, i1, i2⟩ := hI
                obtain ⟨j1, p, hp, hs, hd⟩ := i1 (by omega)
                obtain ⟨s1, s1b, s2, s3, s4, s5, s6, s7, s8⟩ := xRD_i hs hp
                refine xRs_e ?_
                rcases hd with ⟨d1, d2, d3, d4⟩ | ⟨d1, d2, d3⟩
                · rw [d4]
                  unfold pNum
                  by_cases c3 : tKd (xE E0 84) (xE E0 74 42) p = 3
                  · rw [if_pos c3]
                    first
                      | (exfalso; omega)
                      | (rw [if_neg (by omega)]; exact xEr_n (by omega) (by omega) (by omega))
                  · rw [if_neg c3]
                    unfold pMis
                    by_cases c1 : tKd (xE E0 84) (xE E0 74 42) p = 1
                    · rw [if_pos c1]
                      first
                        | (exfalso; omega)
                        | exact xEr_n (by omega) (by omega) (by omega)
                    · rw [if_neg c1]
                      first
                        | (exfalso; omega)
                        | exact xEr_n (by omega) (by omega) (by omega)
                · have c3 : tKd (xE E0 84) (xE E0 74 42) p = 3 := by omega
                  rw [d3]
                  first
                    | (exfalso; omega)
                    | (rw [pBits_3 c3 (by omega)]; exact xEr_n (by omega) (by omega) (by omega))
                    | (rw [pBits_6 c3 (by omega) (by omega)]; exact xEr_n (by omega) (by omega) (by omega))
              · skip
                rcases List.mem_cons.mp hx with ex | hx
                · subst ex
                  obtain ⟨hF, hBd, hM⟩ := hXs
                  have g1 : v2 1 = v 1 := hag 1 (by decide)
                  have g2 : v2 2 = v 2 := hag 2 (by decide)
                  have g3 : v2 3 = v 3 := hag 3 (by decide)
                  have g4 : v2 4 = v 4 := hag 4 (by decide)
                  have g5 : v2 5 = v 5 := hag 5 (by decide)
                  have g6 : v2 6 = v 6 := hag 6 (by decide)
                  have g7 : v2 7 = v 7 := hag 7 (by decide)
                  have g8 : v2 8 = v 8 := hag 8 (by decide)
                  have g9 : v2 9 = v 9 := hag 9 (by decide)
                  have b0 : ((2147483648 : Nat) : Int) ≤ (v2 2) + 2147483648 ∧ (v2 2) + 2147483648 ≤ ((2147483651 : Nat) : Int) := xXb hBd 0 rfl
                  have b1 : ((2147483649 : Nat) : Int) ≤ (v2 4) + 2147483648 ∧ (v2 4) + 2147483648 ≤ ((2147483649 : Nat) : Int) := xXb hBd 1 rfl
                  have b2 : ((2147483648 : Nat) : Int) ≤ (v2 5) + 2147483648 ∧ (v2 5) + 2147483648 ≤ ((2147483648 : Nat) : Int) := xXb hBd 2 rfl
                  have b3 : ((2147483648 : Nat) : Int) ≤ (v2 7) + 2147483648 ∧ (v2 7) + 2147483648 ≤ ((2147484548 : Nat) : Int) := xXb hBd 3 rfl
                  have b4 : ((2147483652 : Nat) : Int) ≤ (v2 8) + 2147483648 ∧ (v2 8) + 2147483648 ≤ ((2147483652 : Nat) : Int) := xXb hBd 4 rfl
                  have b5 : ((2147483650 : Nat) : Int) ≤ (v2 9) + 2147483648 ∧ (v2 9) + 2147483648 ≤ ((2147484647 : Nat) : Int) := xXb hBd 5 rfl
                  have k0 : xE E 74 36 = v 5 := xKcf hKc 0 rfl rfl
                  have k1 : xE E 74 37 = v 6 := xKcf hKc 1 rfl rfl
                  have k2 : xE E 74 38 = v 7 := xKcf hKc 2 rfl rfl
                  have k3 : xE E 74 40 = v 8 := xKcf hKc 3 rfl rfl
                  have k4 : xE E 74 41 = v 9 := xKcf hKc 4 rfl rfl
                  have f0 : (v2 5) = 0 := xXf hF 0 rfl
                  have f1 : ¬ (v2 4) = 0 := xXf hF 1 rfl
                  have f2 : ¬ (v2 8) = 2 := xXf hF 2 rfl
                  have f3 : (v2 5) ≤ 0 := xXf hF 3 rfl
                  have f4 : (v2 8) = 4 := xXf hF 4 rfl
                  have f5 : 0 ≤ (v2 9) := xXf hF 5 rfl
                  have f6 : 1 < (v2 9) := xXf hF 6 rfl
                  have f7 : (v2 2) < 4 := xXf hF 7 rfl
                  have m0 : xE E2 74 36 = 1 := xXm hM 0 rfl
                  have m1 : xE E2 74 37 = (v2 7) := xXm hM 1 rfl
                  have e74_38 : xE E2 74 38 = xE E 74 38 := xFr_E hfr rfl
                  have e74_39 : xE E2 74 39 = xE E 74 39 := xFr_E hfr rfl
                  have e74_40 : xE E2 74 40 = xE E 74 40 := xFr_E hfr rfl
                  have e74_41 : xE E2 74 41 = xE E 74 41 := xFr_E hfr rfl
                  have e74_42 : xE E2 74 42 = xE E 74 42 := xFr_E hfr rfl
                  have q74_42 : xE E 74 42 = xE E0 74 42 := xFr_E hFr0 rfl
                  have e75_0 : xE E2 75 0 = xE E 75 0 := xFr_E hfr rfl
                  have q75_0 : xE E 75 0 = xE E0 75 0 := xFr_E hFr0 rfl
                  have e75_1 : xE E2 75 1 = xE E 75 1 := xFr_E hfr rfl
                  have q75_1 : xE E 75 1 = xE E0 75 1 := xFr_E hFr0 rfl
                  have e75_2 : xE E2 75 2 = xE E 75 2 := xFr_E hfr rfl
                  have q75_2 : xE E 75 2 = xE E0 75 2 := xFr_E hFr0 rfl
                  have e84 : ∀ i, xE E2 84 i = xE E 84 i := fun i => xFr_E hfr rfl
                  have q84 : ∀ i, xE E 84 i = xE E0 84 i := fun i => xFr_E hFr0 rfl
                  have e75 : ∀ i, xE E2 75 i = xE E 75 i := fun i => xFr_E hfr rfl
                  have hI : (∀ k, xE E 75 k = xE E0 75 k) ∧ (xE E 74 36 = 0 → (0 ≤ (v 1) ∧ (v 1) ≤ 30) ∧ ∃ p, (p) ≤ (xE E0 74 42) ∧ xRD (xE E0 84) (xE E0 74 42) (p) E ∧ (((v 2) = 0 ∧ (v 3) = 0 ∧ (v 4) = 1 ∧ pSwitch (xE E0 84) (xE E0 74 42) (xE E0 74 39) (xE E0 75) = pNum (xE E0 84) (xE E0 74 42) p 0 1 (fun b p2 => pBits (xE E0 84) (xE E0 74 42) (xE E0 75) (v 1) 3 p2 1 b)) ∨ (1 ≤ (v 2) ∧ (tKd (xE E0 84) (xE E0 74 42) p = 3 ↔ (v 4) = 1) ∧ pSwitch (xE E0 84) (xE E0 74 42) (xE E0 74 39) (xE E0 75) = pBits (xE E0 84) (xE E0 74 42) (xE E0 75) (v 1) (4 - (v 2)).toNat p (v 2) (v 3)))) ∧ (¬ xE E 74 36 = 0 → xEr E (pSwitch (xE E0 84) (xE E0 74 42) (xE E0 74 39) (xE E0 75))) := hInv
                  show xΨsw x0 E0 E2 0
                  obtain ⟨hc, i1, i2⟩ := hI
                  obtain ⟨j1, p, hp, hs, hd⟩ := i1 (by omega)
                  obtain ⟨s1, s1b, s2, s3, s4, s5, s6, s7, s8⟩ := xRD_i hs hp
                  refine xRs_e ?_
                  rcases hd with ⟨d1, d2, d3, d4⟩ | ⟨d1, d2, d3⟩
                  · rw [d4]
                    unfold pNum
                    by_cases c3 : tKd (xE E0 84) (xE E0 74 42) p = 3
                    · rw [if_pos c3]
                      first
                        | (exfalso; omega)
                        | (rw [if_neg (by omega)]; exact xEr_n (by omega) (by omega) (by omega))
                    · rw [if_neg c3]
                      unfold pMis
                      by_cases c1 : tKd (xE E0 84) (xE E0 74 42) p = 1
                      · rw [if_pos c1]
                        first
                          | (exfalso; omega)
                          | exact xEr_n (by omega) (by omega) (by omega)
                      · rw [if_neg c1]
                        first
                          | (exfalso; omega)
                          | exact xEr_n (by omega) (by omega) (by omega)
                  · have c3 : tKd (xE E0 84) (xE E0 74 42) p = 3 := by omega
                    rw [d3]
                    first
                      | (exfalso; omega)
                      | (rw [pBits_3 c3 (by omega)]; exact xEr_n (by omega) (by omega) (by omega))
                      | (rw [pBits_6 c3 (by omega) (by omega)]; exact xEr_n (by omega) (by omega) (by omega))
                · skip
                  rcases List.mem_cons.mp hx with ex | hx
                  · subst ex
                    obtain ⟨hF, hBd, hM⟩ := hXs
                    have g1 : v2 1 = v 1 := hag 1 (by decide)
                    have g2 : v2 2 = v 2 := hag 2 (by decide)
                    have g3 : v2 3 = v 3 := hag 3 (by decide)
                    have g4 : v2 4 = v 4 := hag 4 (by decide)
                    have g5 : v2 5 = v 5 := hag 5 (by decide)
                    have g6 : v2 6 = v 6 := hag 6 (by decide)
                    have g7 : v2 7 = v 7 := hag 7 (by decide)
                    have g8 : v2 8 = v 8 := hag 8 (by decide)
                    have g9 : v2 9 = v 9 := hag 9 (by decide)
                    have b0 : ((2147483652 : Nat) : Int) ≤ (v2 2) + 2147483648 ∧ (v2 2) + 2147483648 ≤ ((2147483652 : Nat) : Int) := xXb hBd 0 rfl
                    have b1 : ((2147483649 : Nat) : Int) ≤ (v2 4) + 2147483648 ∧ (v2 4) + 2147483648 ≤ ((2147483649 : Nat) : Int) := xXb hBd 1 rfl
                    have b2 : ((2147483648 : Nat) : Int) ≤ (v2 5) + 2147483648 ∧ (v2 5) + 2147483648 ≤ ((2147483648 : Nat) : Int) := xXb hBd 2 rfl
                    have b3 : ((2147483648 : Nat) : Int) ≤ (v2 7) + 2147483648 ∧ (v2 7) + 2147483648 ≤ ((2147484548 : Nat) : Int) := xXb hBd 3 rfl
                    have b4 : ((2147483652 : Nat) : Int) ≤ (v2 8) + 2147483648 ∧ (v2 8) + 2147483648 ≤ ((2147483652 : Nat) : Int) := xXb hBd 4 rfl
                    have b5 : ((2147483650 : Nat) : Int) ≤ (v2 9) + 2147483648 ∧ (v2 9) + 2147483648 ≤ ((2147484647 : Nat) : Int) := xXb hBd 5 rfl
                    have k0 : xE E 74 36 = v 5 := xKcf hKc 0 rfl rfl
                    have k1 : xE E 74 37 = v 6 := xKcf hKc 1 rfl rfl
                    have k2 : xE E 74 38 = v 7 := xKcf hKc 2 rfl rfl
                    have k3 : xE E 74 40 = v 8 := xKcf hKc 3 rfl rfl
                    have k4 : xE E 74 41 = v 9 := xKcf hKc 4 rfl rfl
                    have f0 : (v2 5) = 0 := xXf hF 0 rfl
                    have f1 : ¬ (v2 4) = 0 := xXf hF 1 rfl
                    have f2 : ¬ (v2 8) = 2 := xXf hF 2 rfl
                    have f3 : (v2 5) ≤ 0 := xXf hF 3 rfl
                    have f4 : (v2 8) = 4 := xXf hF 4 rfl
                    have f5 : 0 ≤ (v2 9) := xXf hF 5 rfl
                    have f6 : 1 < (v2 9) := xXf hF 6 rfl
                    have f7 : 4 ≤ (v2 2) := xXf hF 7 rfl
                    have m0 : xE E2 74 36 = 1 := xXm hM 0 rfl
                    have m1 : xE E2 74 37 = (v2 7) := xXm hM 1 rfl
                    have e74_38 : xE E2 74 38 = xE E 74 38 := xFr_E hfr rfl
                    have e74_39 : xE E2 74 39 = xE E 74 39 := xFr_E hfr rfl
                    have e74_40 : xE E2 74 40 = xE E 74 40 := xFr_E hfr rfl
                    have e74_41 : xE E2 74 41 = xE E 74 41 := xFr_E hfr rfl
                    have e74_42 : xE E2 74 42 = xE E 74 42 := xFr_E hfr rfl
                    have q74_42 : xE E 74 42 = xE E0 74 42 := xFr_E hFr0 rfl
                    have e75_0 : xE E2 75 0 = xE E 75 0 := xFr_E hfr rfl
                    have q75_0 : xE E 75 0 = xE E0 75 0 := xFr_E hFr0 rfl
                    have e75_1 : xE E2 75 1 = xE E 75 1 := xFr_E hfr rfl
                    have q75_1 : xE E 75 1 = xE E0 75 1 := xFr_E hFr0 rfl
                    have e75_2 : xE E2 75 2 = xE E 75 2 := xFr_E hfr rfl
                    have q75_2 : xE E 75 2 = xE E0 75 2 := xFr_E hFr0 rfl
                    have e84 : ∀ i, xE E2 84 i = xE E 84 i := fun i => xFr_E hfr rfl
                    have q84 : ∀ i, xE E 84 i = xE E0 84 i := fun i => xFr_E hFr0 rfl
                    have e75 : ∀ i, xE E2 75 i = xE E 75 i := fun i => xFr_E hfr rfl
                    have hI : (∀ k, xE E 75 k = xE E0 75 k) ∧ (xE E 74 36 = 0 → (0 ≤ (v 1) ∧ (v 1) ≤ 30) ∧ ∃ p, (p) ≤ (xE E0 74 42) ∧ xRD (xE E0 84) (xE E0 74 42) (p) E ∧ (((v 2) = 0 ∧ (v 3) = 0 ∧ (v 4) = 1 ∧ pSwitch (xE E0 84) (xE E0 74 42) (xE E0 74 39) (xE E0 75) = pNum (xE E0 84) (xE E0 74 42) p 0 1 (fun b p2 => pBits (xE E0 84) (xE E0 74 42) (xE E0 75) (v 1) 3 p2 1 b)) ∨ (1 ≤ (v 2) ∧ (tKd (xE E0 84) (xE E0 74 42) p = 3 ↔ (v 4) = 1) ∧ pSwitch (xE E0 84) (xE E0 74 42) (xE E0 74 39) (xE E0 75) = pBits (xE E0 84) (xE E0 74 42) (xE E0 75) (v 1) (4 - (v 2)).toNat p (v 2) (v 3)))) ∧ (¬ xE E 74 36 = 0 → xEr E (pSwitch (xE E0 84) (xE E0 74 42) (xE E0 74 39) (xE E0 75))) := hInv
                    show xΨsw x0 E0 E2 0
                    obtain ⟨hc, i1, i2⟩ := hI
                    obtain ⟨j1, p, hp, hs, hd⟩ := i1 (by omega)
                    obtain ⟨s1, s1b, s2, s3, s4, s5, s6, s7, s8⟩ := xRD_i hs hp
                    refine xRs_e ?_
                    rcases hd with ⟨d1, d2, d3, d4⟩ | ⟨d1, d2, d3⟩
                    · rw [d4]
                      unfold pNum
                      by_cases c3 : tKd (xE E0 84) (xE E0 74 42) p = 3
                      · rw [if_pos c3]
                        first
                          | (exfalso; omega)
                          | (rw [if_neg (by omega)]; exact xEr_n (by omega) (by omega) (by omega))
                      · rw [if_neg c3]
                        unfold pMis
                        by_cases c1 : tKd (xE E0 84) (xE E0 74 42) p = 1
                        · rw [if_pos c1]
                          first
                            | (exfalso; omega)
                            | exact xEr_n (by omega) (by omega) (by omega)
                        · rw [if_neg c1]
                          first
                            | (exfalso; omega)
                            | exact xEr_n (by omega) (by omega) (by omega)
                    · have c3 : tKd (xE E0 84) (xE E0 74 42) p = 3 := by omega
                      rw [d3]
                      first
                        | (exfalso; omega)
                        | (rw [pBits_3 c3 (by omega)]; exact xEr_n (by omega) (by omega) (by omega))
                        | (rw [pBits_6 c3 (by omega) (by omega)]; exact xEr_n (by omega) (by omega) (by omega))
                  · skip
                    rcases List.mem_cons.mp hx with ex | hx
                    · subst ex
                      obtain ⟨hF, hBd, hM⟩ := hXs
                      have g1 : v2 1 = v 1 := hag 1 (by decide)
                      have g2 : v2 2 = v 2 := hag 2 (by decide)
                      have g3 : v2 3 = v 3 := hag 3 (by decide)
                      have g4 : v2 4 = v 4 := hag 4 (by decide)
                      have g5 : v2 5 = v 5 := hag 5 (by decide)
                      have g6 : v2 6 = v 6 := hag 6 (by decide)
                      have g7 : v2 7 = v 7 := hag 7 (by decide)
                      have g8 : v2 8 = v 8 := hag 8 (by decide)
                      have g9 : v2 9 = v 9 := hag 9 (by decide)
                      have b0 : ((2147483648 : Nat) : Int) ≤ (v2 2) + 2147483648 ∧ (v2 2) + 2147483648 ≤ ((2147483651 : Nat) : Int) := xXb hBd 0 rfl
                      have b1 : ((2147483649 : Nat) : Int) ≤ (v2 4) + 2147483648 ∧ (v2 4) + 2147483648 ≤ ((2147483649 : Nat) : Int) := xXb hBd 1 rfl
                      have b2 : ((2147483648 : Nat) : Int) ≤ (v2 5) + 2147483648 ∧ (v2 5) + 2147483648 ≤ ((2147483648 : Nat) : Int) := xXb hBd 2 rfl
                      have b3 : ((2147483648 : Nat) : Int) ≤ (v2 7) + 2147483648 ∧ (v2 7) + 2147483648 ≤ ((2147484548 : Nat) : Int) := xXb hBd 3 rfl
                      have b4 : ((2147483652 : Nat) : Int) ≤ (v2 8) + 2147483648 ∧ (v2 8) + 2147483648 ≤ ((2147483652 : Nat) : Int) := xXb hBd 4 rfl
                      have b5 : ((2147483648 : Nat) : Int) ≤ (v2 9) + 2147483648 ∧ (v2 9) + 2147483648 ≤ ((2147483649 : Nat) : Int) := xXb hBd 5 rfl
                      have k0 : xE E 74 36 = v 5 := xKcf hKc 0 rfl rfl
                      have k1 : xE E 74 37 = v 6 := xKcf hKc 1 rfl rfl
                      have k2 : xE E 74 38 = v 7 := xKcf hKc 2 rfl rfl
                      have k3 : xE E 74 40 = v 8 := xKcf hKc 3 rfl rfl
                      have k4 : xE E 74 41 = v 9 := xKcf hKc 4 rfl rfl
                      have f0 : (v2 5) = 0 := xXf hF 0 rfl
                      have f1 : ¬ (v2 4) = 0 := xXf hF 1 rfl
                      have f2 : ¬ (v2 8) = 2 := xXf hF 2 rfl
                      have f3 : (v2 5) ≤ 0 := xXf hF 3 rfl
                      have f4 : (v2 8) = 4 := xXf hF 4 rfl
                      have f5 : 0 ≤ (v2 9) := xXf hF 5 rfl
                      have f6 : (v2 9) ≤ 1 := xXf hF 6 rfl
                      have f7 : (v2 2) < 4 := xXf hF 7 rfl
                      have m0 : xE E2 74 36 = 1 := xXm hM 0 rfl
                      have m1 : xE E2 74 37 = (v2 7) := xXm hM 1 rfl
                      have e74_38 : xE E2 74 38 = xE E 74 38 := xFr_E hfr rfl
                      have e74_39 : xE E2 74 39 = xE E 74 39 := xFr_E hfr rfl
                      have e74_40 : xE E2 74 40 = xE E 74 40 := xFr_E hfr rfl
                      have e74_41 : xE E2 74 41 = xE E 74 41 := xFr_E hfr rfl
                      have e74_42 : xE E2 74 42 = xE E 74 42 := xFr_E hfr rfl
                      have q74_42 : xE E 74 42 = xE E0 74 42 := xFr_E hFr0 rfl
                      have e75_0 : xE E2 75 0 = xE E 75 0 := xFr_E hfr rfl
                      have q75_0 : xE E 75 0 = xE E0 75 0 := xFr_E hFr0 rfl
                      have e75_1 : xE E2 75 1 = xE E 75 1 := xFr_E hfr rfl
                      have q75_1 : xE E 75 1 = xE E0 75 1 := xFr_E hFr0 rfl
                      have e75_2 : xE E2 75 2 = xE E 75 2 := xFr_E hfr rfl
                      have q75_2 : xE E 75 2 = xE E0 75 2 := xFr_E hFr0 rfl
                      have e84 : ∀ i, xE E2 84 i = xE E 84 i := fun i => xFr_E hfr rfl
                      have q84 : ∀ i, xE E 84 i = xE E0 84 i := fun i => xFr_E hFr0 rfl
                      have e75 : ∀ i, xE E2 75 i = xE E 75 i := fun i => xFr_E hfr rfl
                      have hI : (∀ k, xE E 75 k = xE E0 75 k) ∧ (xE E 74 36 = 0 → (0 ≤ (v 1) ∧ (v 1) ≤ 30) ∧ ∃ p, (p) ≤ (xE E0 74 42) ∧ xRD (xE E0 84) (xE E0 74 42) (p) E ∧ (((v 2) = 0 ∧ (v 3) = 0 ∧ (v 4) = 1 ∧ pSwitch (xE E0 84) (xE E0 74 42) (xE E0 74 39) (xE E0 75) = pNum (xE E0 84) (xE E0 74 42) p 0 1 (fun b p2 => pBits (xE E0 84) (xE E0 74 42) (xE E0 75) (v 1) 3 p2 1 b)) ∨ (1 ≤ (v 2) ∧ (tKd (xE E0 84) (xE E0 74 42) p = 3 ↔ (v 4) = 1) ∧ pSwitch (xE E0 84) (xE E0 74 42) (xE E0 74 39) (xE E0 75) = pBits (xE E0 84) (xE E0 74 42) (xE E0 75) (v 1) (4 - (v 2)).toNat p (v 2) (v 3)))) ∧ (¬ xE E 74 36 = 0 → xEr E (pSwitch (xE E0 84) (xE E0 74 42) (xE E0 74 39) (xE E0 75))) := hInv
                      show xΨsw x0 E0 E2 0
                      obtain ⟨hc, i1, i2⟩ := hI
                      obtain ⟨j1, p, hp, hs, hd⟩ := i1 (by omega)
                      obtain ⟨s1, s1b, s2, s3, s4, s5, s6, s7, s8⟩ := xRD_i hs hp
                      refine xRs_e ?_
                      rcases hd with ⟨d1, d2, d3, d4⟩ | ⟨d1, d2, d3⟩
                      · rw [d4]
                        unfold pNum
                        by_cases c3 : tKd (xE E0 84) (xE E0 74 42) p = 3
                        · rw [if_pos c3]
                          first
                            | (exfalso; omega)
                            | (rw [if_neg (by omega)]; exact xEr_n (by omega) (by omega) (by omega))
                        · rw [if_neg c3]
                          unfold pMis
                          by_cases c1 : tKd (xE E0 84) (xE E0 74 42) p = 1
                          · rw [if_pos c1]
                            first
                              | (exfalso; omega)
                              | exact xEr_n (by omega) (by omega) (by omega)
                          · rw [if_neg c1]
                            first
                              | (exfalso; omega)
                              | exact xEr_n (by omega) (by omega) (by omega)
                      · have c3 : tKd (xE E0 84) (xE E0 74 42) p = 3 := by omega
                        rw [d3]
                        first
                          | (exfalso; omega)
                          | (rw [pBits_3 c3 (by omega)]; exact xEr_n (by omega) (by omega) (by omega))
                          | (rw [pBits_6 c3 (by omega) (by omega)]; exact xEr_n (by omega) (by omega) (by omega))
                    · skip
                      rcases List.mem_cons.mp hx with ex | hx
                      · subst ex
                        obtain ⟨hF, hBd, hM⟩ := hXs
                        have g1 : v2 1 = v 1 := hag 1 (by decide)
                        have g2 : v2 2 = v 2 := hag 2 (by decide)
                        have g3 : v2 3 = v 3 := hag 3 (by decide)
                        have g4 : v2 4 = v 4 := hag 4 (by decide)
                        have g5 : v2 5 = v 5 := hag 5 (by decide)
                        have g6 : v2 6 = v 6 := hag 6 (by decide)
                        have g7 : v2 7 = v 7 := hag 7 (by decide)
                        have g8 : v2 8 = v 8 := hag 8 (by decide)
                        have g9 : v2 9 = v 9 := hag 9 (by decide)
                        have b0 : ((2147483652 : Nat) : Int) ≤ (v2 2) + 2147483648 ∧ (v2 2) + 2147483648 ≤ ((2147483652 : Nat) : Int) := xXb hBd 0 rfl
                        have b1 : ((2147483649 : Nat) : Int) ≤ (v2 4) + 2147483648 ∧ (v2 4) + 2147483648 ≤ ((2147483649 : Nat) : Int) := xXb hBd 1 rfl
                        have b2 : ((2147483648 : Nat) : Int) ≤ (v2 5) + 2147483648 ∧ (v2 5) + 2147483648 ≤ ((2147483648 : Nat) : Int) := xXb hBd 2 rfl
                        have b3 : ((2147483648 : Nat) : Int) ≤ (v2 7) + 2147483648 ∧ (v2 7) + 2147483648 ≤ ((2147484548 : Nat) : Int) := xXb hBd 3 rfl
                        have b4 : ((2147483652 : Nat) : Int) ≤ (v2 8) + 2147483648 ∧ (v2 8) + 2147483648 ≤ ((2147483652 : Nat) : Int) := xXb hBd 4 rfl
                        have b5 : ((2147483648 : Nat) : Int) ≤ (v2 9) + 2147483648 ∧ (v2 9) + 2147483648 ≤ ((2147483649 : Nat) : Int) := xXb hBd 5 rfl
                        have k0 : xE E 74 36 = v 5 := xKcf hKc 0 rfl rfl
                        have k1 : xE E 74 37 = v 6 := xKcf hKc 1 rfl rfl
                        have k2 : xE E 74 38 = v 7 := xKcf hKc 2 rfl rfl
                        have k3 : xE E 74 40 = v 8 := xKcf hKc 3 rfl rfl
                        have k4 : xE E 74 41 = v 9 := xKcf hKc 4 rfl rfl
                        have f0 : (v2 5) = 0 := xXf hF 0 rfl
                        have f1 : ¬ (v2 4) = 0 := xXf hF 1 rfl
                        have f2 : ¬ (v2 8) = 2 := xXf hF 2 rfl
                        have f3 : (v2 5) ≤ 0 := xXf hF 3 rfl
                        have f4 : (v2 8) = 4 := xXf hF 4 rfl
                        have f5 : 0 ≤ (v2 9) := xXf hF 5 rfl
                        have f6 : (v2 9) ≤ 1 := xXf hF 6 rfl
                        have f7 : 4 ≤ (v2 2) := xXf hF 7 rfl
                        have m0 : xE E2 74 36 = 1 := xXm hM 0 rfl
                        have m1 : xE E2 74 37 = (v2 7) := xXm hM 1 rfl
                        have e74_38 : xE E2 74 38 = xE E 74 38 := xFr_E hfr rfl
                        have e74_39 : xE E2 74 39 = xE E 74 39 := xFr_E hfr rfl
                        have e74_40 : xE E2 74 40 = xE E 74 40 := xFr_E hfr rfl
                        have e74_41 : xE E2 74 41 = xE E 74 41 := xFr_E hfr rfl
                        have e74_42 : xE E2 74 42 = xE E 74 42 := xFr_E hfr rfl
                        have q74_42 : xE E 74 42 = xE E0 74 42 := xFr_E hFr0 rfl
                        have e75_0 : xE E2 75 0 = xE E 75 0 := xFr_E hfr rfl
                        have q75_0 : xE E 75 0 = xE E0 75 0 := xFr_E hFr0 rfl
                        have e75_1 : xE E2 75 1 = xE E 75 1 := xFr_E hfr rfl
                        have q75_1 : xE E 75 1 = xE E0 75 1 := xFr_E hFr0 rfl
                        have e75_2 : xE E2 75 2 = xE E 75 2 := xFr_E hfr rfl
                        have q75_2 : xE E 75 2 = xE E0 75 2 := xFr_E hFr0 rfl
                        have e84 : ∀ i, xE E2 84 i = xE E 84 i := fun i => xFr_E hfr rfl
                        have q84 : ∀ i, xE E 84 i = xE E0 84 i := fun i => xFr_E hFr0 rfl
                        have e75 : ∀ i, xE E2 75 i = xE E 75 i := fun i => xFr_E hfr rfl
                        have hI : (∀ k, xE E 75 k = xE E0 75 k) ∧ (xE E 74 36 = 0 → (0 ≤ (v 1) ∧ (v 1) ≤ 30) ∧ ∃ p, (p) ≤ (xE E0 74 42) ∧ xRD (xE E0 84) (xE E0 74 42) (p) E ∧ (((v 2) = 0 ∧ (v 3) = 0 ∧ (v 4) = 1 ∧ pSwitch (xE E0 84) (xE E0 74 42) (xE E0 74 39) (xE E0 75) = pNum (xE E0 84) (xE E0 74 42) p 0 1 (fun b p2 => pBits (xE E0 84) (xE E0 74 42) (xE E0 75) (v 1) 3 p2 1 b)) ∨ (1 ≤ (v 2) ∧ (tKd (xE E0 84) (xE E0 74 42) p = 3 ↔ (v 4) = 1) ∧ pSwitch (xE E0 84) (xE E0 74 42) (xE E0 74 39) (xE E0 75) = pBits (xE E0 84) (xE E0 74 42) (xE E0 75) (v 1) (4 - (v 2)).toNat p (v 2) (v 3)))) ∧ (¬ xE E 74 36 = 0 → xEr E (pSwitch (xE E0 84) (xE E0 74 42) (xE E0 74 39) (xE E0 75))) := hInv
                        show xΨsw x0 E0 E2 0
                        obtain ⟨hc, i1, i2⟩ := hI
                        obtain ⟨j1, p, hp, hs, hd⟩ := i1 (by omega)
                        obtain ⟨s1, s1b, s2, s3, s4, s5, s6, s7, s8⟩ := xRD_i hs hp
                        refine xRs_e ?_
                        rcases hd with ⟨d1, d2, d3, d4⟩ | ⟨d1, d2, d3⟩
                        · rw [d4]
                          unfold pNum
                          by_cases c3 : tKd (xE E0 84) (xE E0 74 42) p = 3
                          · rw [if_pos c3]
                            first
                              | (exfalso; omega)
                              | (rw [if_neg (by omega)]; exact xEr_n (by omega) (by omega) (by omega))
                          · rw [if_neg c3]
                            unfold pMis
                            by_cases c1 : tKd (xE E0 84) (xE E0 74 42) p = 1
                            · rw [if_pos c1]
                              first
                                | (exfalso; omega)
                                | exact xEr_n (by omega) (by omega) (by omega)
                            · rw [if_neg c1]
                              first
                                | (exfalso; omega)
                                | exact xEr_n (by omega) (by omega) (by omega)
                        · have c3 : tKd (xE E0 84) (xE E0 74 42) p = 3 := by omega
                          rw [d3]
                          first
                            | (exfalso; omega)
                            | (rw [pBits_3 c3 (by omega)]; exact xEr_n (by omega) (by omega) (by omega))
                            | (rw [pBits_6 c3 (by omega) (by omega)]; exact xEr_n (by omega) (by omega) (by omega))
                      · skip
                        rcases List.mem_cons.mp hx with ex | hx
                        · subst ex
                          obtain ⟨hF, hBd, hM⟩ := hXs
                          have g1 : v2 1 = v 1 := hag 1 (by decide)
                          have g2 : v2 2 = v 2 := hag 2 (by decide)
                          have g3 : v2 3 = v 3 := hag 3 (by decide)
                          have g4 : v2 4 = v 4 := hag 4 (by decide)
                          have g5 : v2 5 = v 5 := hag 5 (by decide)
                          have g6 : v2 6 = v 6 := hag 6 (by decide)
                          have g7 : v2 7 = v 7 := hag 7 (by decide)
                          have g8 : v2 8 = v 8 := hag 8 (by decide)
                          have g9 : v2 9 = v 9 := hag 9 (by decide)
                          have b0 : ((2147483648 : Nat) : Int) ≤ (v2 2) + 2147483648 ∧ (v2 2) + 2147483648 ≤ ((2147483651 : Nat) : Int) := xXb hBd 0 rfl
                          have b1 : ((2147483649 : Nat) : Int) ≤ (v2 4) + 2147483648 ∧ (v2 4) + 2147483648 ≤ ((2147483649 : Nat) : Int) := xXb hBd 1 rfl
                          have b2 : ((2147483648 : Nat) : Int) ≤ (v2 5) + 2147483648 ∧ (v2 5) + 2147483648 ≤ ((2147483648 : Nat) : Int) := xXb hBd 2 rfl
                          have b3 : ((2147483648 : Nat) : Int) ≤ (v2 7) + 2147483648 ∧ (v2 7) + 2147483648 ≤ ((2147484548 : Nat) : Int) := xXb hBd 3 rfl
                          have b4 : ((2147483648 : Nat) : Int) ≤ (v2 8) + 2147483648 ∧ (v2 8) + 2147483648 ≤ ((2147483649 : Nat) : Int) := xXb hBd 4 rfl
                          have b5 : ((2147483650 : Nat) : Int) ≤ (v2 9) + 2147483648 ∧ (v2 9) + 2147483648 ≤ ((2147484647 : Nat) : Int) := xXb hBd 5 rfl
                          have k0 : xE E 74 36 = v 5 := xKcf hKc 0 rfl rfl
                          have k1 : xE E 74 37 = v 6 := xKcf hKc 1 rfl rfl
                          have k2 : xE E 74 38 = v 7 := xKcf hKc 2 rfl rfl
                          have k3 : xE E 74 40 = v 8 := xKcf hKc 3 rfl rfl
                          have k4 : xE E 74 41 = v 9 := xKcf hKc 4 rfl rfl
                          have f0 : (v2 5) = 0 := xXf hF 0 rfl
                          have f1 : ¬ (v2 4) = 0 := xXf hF 1 rfl
                          have f2 : ¬ (v2 8) = 2 := xXf hF 2 rfl
                          have f3 : (v2 5) ≤ 0 := xXf hF 3 rfl
                          have f4 : ¬ (v2 8) = 4 := xXf hF 4 rfl
                          have f5 : 0 ≤ (v2 9) := xXf hF 5 rfl
                          have f6 : 1 < (v2 9) := xXf hF 6 rfl
                          have f7 : (v2 2) < 4 := xXf hF 7 rfl
                          have m0 : xE E2 74 36 = 2 := xXm hM 0 rfl
                          have m1 : xE E2 74 37 = (v2 7) := xXm hM 1 rfl
                          have e74_38 : xE E2 74 38 = xE E 74 38 := xFr_E hfr rfl
                          have e74_39 : xE E2 74 39 = xE E 74 39 := xFr_E hfr rfl
                          have e74_40 : xE E2 74 40 = xE E 74 40 := xFr_E hfr rfl
                          have e74_41 : xE E2 74 41 = xE E 74 41 := xFr_E hfr rfl
                          have e74_42 : xE E2 74 42 = xE E 74 42 := xFr_E hfr rfl
                          have q74_42 : xE E 74 42 = xE E0 74 42 := xFr_E hFr0 rfl
                          have e75_0 : xE E2 75 0 = xE E 75 0 := xFr_E hfr rfl
                          have q75_0 : xE E 75 0 = xE E0 75 0 := xFr_E hFr0 rfl
                          have e75_1 : xE E2 75 1 = xE E 75 1 := xFr_E hfr rfl
                          have q75_1 : xE E 75 1 = xE E0 75 1 := xFr_E hFr0 rfl
                          have e75_2 : xE E2 75 2 = xE E 75 2 := xFr_E hfr rfl
                          have q75_2 : xE E 75 2 = xE E0 75 2 := xFr_E hFr0 rfl
                          have e84 : ∀ i, xE E2 84 i = xE E 84 i := fun i => xFr_E hfr rfl
                          have q84 : ∀ i, xE E 84 i = xE E0 84 i := fun i => xFr_E hFr0 rfl
                          have e75 : ∀ i, xE E2 75 i = xE E 75 i := fun i => xFr_E hfr rfl
                          have hI : (∀ k, xE E 75 k = xE E0 75 k) ∧ (xE E 74 36 = 0 → (0 ≤ (v 1) ∧ (v 1) ≤ 30) ∧ ∃ p, (p) ≤ (xE E0 74 42) ∧ xRD (xE E0 84) (xE E0 74 42) (p) E ∧ (((v 2) = 0 ∧ (v 3) = 0 ∧ (v 4) = 1 ∧ pSwitch (xE E0 84) (xE E0 74 42) (xE E0 74 39) (xE E0 75) = pNum (xE E0 84) (xE E0 74 42) p 0 1 (fun b p2 => pBits (xE E0 84) (xE E0 74 42) (xE E0 75) (v 1) 3 p2 1 b)) ∨ (1 ≤ (v 2) ∧ (tKd (xE E0 84) (xE E0 74 42) p = 3 ↔ (v 4) = 1) ∧ pSwitch (xE E0 84) (xE E0 74 42) (xE E0 74 39) (xE E0 75) = pBits (xE E0 84) (xE E0 74 42) (xE E0 75) (v 1) (4 - (v 2)).toNat p (v 2) (v 3)))) ∧ (¬ xE E 74 36 = 0 → xEr E (pSwitch (xE E0 84) (xE E0 74 42) (xE E0 74 39) (xE E0 75))) := hInv
                          show xΨsw x0 E0 E2 0
                          obtain ⟨hc, i1, i2⟩ := hI
                          obtain ⟨j1, p, hp, hs, hd⟩ := i1 (by omega)
                          obtain ⟨s1, s1b, s2, s3, s4, s5, s6, s7, s8⟩ := xRD_i hs hp
                          refine xRs_e ?_
                          rcases hd with ⟨d1, d2, d3, d4⟩ | ⟨d1, d2, d3⟩
                          · rw [d4]
                            unfold pNum
                            by_cases c3 : tKd (xE E0 84) (xE E0 74 42) p = 3
                            · rw [if_pos c3]
                              first
                                | (exfalso; omega)
                                | (rw [if_neg (by omega)]; exact xEr_n (by omega) (by omega) (by omega))
                            · rw [if_neg c3]
                              unfold pMis
                              by_cases c1 : tKd (xE E0 84) (xE E0 74 42) p = 1
                              · rw [if_pos c1]
                                first
                                  | (exfalso; omega)
                                  | exact xEr_n (by omega) (by omega) (by omega)
                              · rw [if_neg c1]
                                first
                                  | (exfalso; omega)
                                  | exact xEr_n (by omega) (by omega) (by omega)
                          · have c3 : tKd (xE E0 84) (xE E0 74 42) p = 3 := by omega
                            rw [d3]
                            first
                              | (exfalso; omega)
                              | (rw [pBits_3 c3 (by omega)]; exact xEr_n (by omega) (by omega) (by omega))
                              | (rw [pBits_6 c3 (by omega) (by omega)]; exact xEr_n (by omega) (by omega) (by omega))
                        · skip
                          rcases List.mem_cons.mp hx with ex | hx
                          · subst ex
                            obtain ⟨hF, hBd, hM⟩ := hXs
                            have g1 : v2 1 = v 1 := hag 1 (by decide)
                            have g2 : v2 2 = v 2 := hag 2 (by decide)
                            have g3 : v2 3 = v 3 := hag 3 (by decide)
                            have g4 : v2 4 = v 4 := hag 4 (by decide)
                            have g5 : v2 5 = v 5 := hag 5 (by decide)
                            have g6 : v2 6 = v 6 := hag 6 (by decide)
                            have g7 : v2 7 = v 7 := hag 7 (by decide)
                            have g8 : v2 8 = v 8 := hag 8 (by decide)
                            have g9 : v2 9 = v 9 := hag 9 (by decide)
                            have b0 : ((2147483652 : Nat) : Int) ≤ (v2 2) + 2147483648 ∧ (v2 2) + 2147483648 ≤ ((2147483652 : Nat) : Int) := xXb hBd 0 rfl
                            have b1 : ((2147483649 : Nat) : Int) ≤ (v2 4) + 2147483648 ∧ (v2 4) + 2147483648 ≤ ((2147483649 : Nat) : Int) := xXb hBd 1 rfl
                            have b2 : ((2147483648 : Nat) : Int) ≤ (v2 5) + 2147483648 ∧ (v2 5) + 2147483648 ≤ ((2147483648 : Nat) : Int) := xXb hBd 2 rfl
                            have b3 : ((2147483648 : Nat) : Int) ≤ (v2 7) + 2147483648 ∧ (v2 7) + 2147483648 ≤ ((2147484548 : Nat) : Int) := xXb hBd 3 rfl
                            have b4 : ((2147483648 : Nat) : Int) ≤ (v2 8) + 2147483648 ∧ (v2 8) + 2147483648 ≤ ((2147483649 : Nat) : Int) := xXb hBd 4 rfl
                            have b5 : ((2147483650 : Nat) : Int) ≤ (v2 9) + 2147483648 ∧ (v2 9) + 2147483648 ≤ ((2147484647 : Nat) : Int) := xXb hBd 5 rfl
                            have k0 : xE E 74 36 = v 5 := xKcf hKc 0 rfl rfl
                            have k1 : xE E 74 37 = v 6 := xKcf hKc 1 rfl rfl
                            have k2 : xE E 74 38 = v 7 := xKcf hKc 2 rfl rfl
                            have k3 : xE E 74 40 = v 8 := xKcf hKc 3 rfl rfl
                            have k4 : xE E 74 41 = v 9 := xKcf hKc 4 rfl rfl
                            have f0 : (v2 5) = 0 := xXf hF 0 rfl
                            have f1 : ¬ (v2 4) = 0 := xXf hF 1 rfl
                            have f2 : ¬ (v2 8) = 2 := xXf hF 2 rfl
                            have f3 : (v2 5) ≤ 0 := xXf hF 3 rfl
                            have f4 : ¬ (v2 8) = 4 := xXf hF 4 rfl
                            have f5 : 0 ≤ (v2 9) := xXf hF 5 rfl
                            have f6 : 1 < (v2 9) := xXf hF 6 rfl
                            have f7 : 4 ≤ (v2 2) := xXf hF 7 rfl
                            have m0 : xE E2 74 36 = 2 := xXm hM 0 rfl
                            have m1 : xE E2 74 37 = (v2 7) := xXm hM 1 rfl
                            have e74_38 : xE E2 74 38 = xE E 74 38 := xFr_E hfr rfl
                            have e74_39 : xE E2 74 39 = xE E 74 39 := xFr_E hfr rfl
                            have e74_40 : xE E2 74 40 = xE E 74 40 := xFr_E hfr rfl
                            have e74_41 : xE E2 74 41 = xE E 74 41 := xFr_E hfr rfl
                            have e74_42 : xE E2 74 42 = xE E 74 42 := xFr_E hfr rfl
                            have q74_42 : xE E 74 42 = xE E0 74 42 := xFr_E hFr0 rfl
                            have e75_0 : xE E2 75 0 = xE E 75 0 := xFr_E hfr rfl
                            have q75_0 : xE E 75 0 = xE E0 75 0 := xFr_E hFr0 rfl
                            have e75_1 : xE E2 75 1 = xE E 75 1 := xFr_E hfr rfl
                            have q75_1 : xE E 75 1 = xE E0 75 1 := xFr_E hFr0 rfl
                            have e75_2 : xE E2 75 2 = xE E 75 2 := xFr_E hfr rfl
                            have q75_2 : xE E 75 2 = xE E0 75 2 := xFr_E hFr0 rfl
                            have e84 : ∀ i, xE E2 84 i = xE E 84 i := fun i => xFr_E hfr rfl
                            have q84 : ∀ i, xE E 84 i = xE E0 84 i := fun i => xFr_E hFr0 rfl
                            have e75 : ∀ i, xE E2 75 i = xE E 75 i := fun i => xFr_E hfr rfl
                            have hI : (∀ k, xE E 75 k = xE E0 75 k) ∧ (xE E 74 36 = 0 → (0 ≤ (v 1) ∧ (v 1) ≤ 30) ∧ ∃ p, (p) ≤ (xE E0 74 42) ∧ xRD (xE E0 84) (xE E0 74 42) (p) E ∧ (((v 2) = 0 ∧ (v 3) = 0 ∧ (v 4) = 1 ∧ pSwitch (xE E0 84) (xE E0 74 42) (xE E0 74 39) (xE E0 75) = pNum (xE E0 84) (xE E0 74 42) p 0 1 (fun b p2 => pBits (xE E0 84) (xE E0 74 42) (xE E0 75) (v 1) 3 p2 1 b)) ∨ (1 ≤ (v 2) ∧ (tKd (xE E0 84) (xE E0 74 42) p = 3 ↔ (v 4) = 1) ∧ pSwitch (xE E0 84) (xE E0 74 42) (xE E0 74 39) (xE E0 75) = pBits (xE E0 84) (xE E0 74 42) (xE E0 75) (v 1) (4 - (v 2)).toNat p (v 2) (v 3)))) ∧ (¬ xE E 74 36 = 0 → xEr E (pSwitch (xE E0 84) (xE E0 74 42) (xE E0 74 39) (xE E0 75))) := hInv
                            show xΨsw x0 E0 E2 0
                            obtain ⟨hc, i1, i2⟩ := hI
                            obtain ⟨j1, p, hp, hs, hd⟩ := i1 (by omega)
                            obtain ⟨s1, s1b, s2, s3, s4, s5, s6, s7, s8⟩ := xRD_i hs hp
                            refine xRs_e ?_
                            rcases hd with ⟨d1, d2, d3, d4⟩ | ⟨d1, d2, d3⟩
                            · rw [d4]
                              unfold pNum
                              by_cases c3 : tKd (xE E0 84) (xE E0 74 42) p = 3
                              · rw [if_pos c3]
                                first
                                  | (exfalso; omega)
                                  | (rw [if_neg (by omega)]; exact xEr_n (by omega) (by omega) (by omega))
                              · rw [if_neg c3]
                                unfold pMis
                                by_cases c1 : tKd (xE E0 84) (xE E0 74 42) p = 1
                                · rw [if_pos c1]
                                  first
                                    | (exfalso; omega)
                                    | exact xEr_n (by omega) (by omega) (by omega)
                                · rw [if_neg c1]
                                  first
                                    | (exfalso; omega)
                                    | exact xEr_n (by omega) (by omega) (by omega)
                            · have c3 : tKd (xE E0 84) (xE E0 74 42) p = 3 := by omega
                              rw [d3]
                              first
                                | (exfalso; omega)
                                | (rw [pBits_3 c3 (by omega)]; exact xEr_n (by omega) (by omega) (by omega))
                                | (rw [pBits_6 c3 (by omega) (by omega)]; exact xEr_n (by omega) (by omega) (by omega))
                          · skip
                            rcases List.mem_cons.mp hx with ex | hx
                            · subst ex
                              obtain ⟨hF, hBd, hM⟩ := hXs
                              have g1 : v2 1 = v 1 := hag 1 (by decide)
                              have g2 : v2 2 = v 2 := hag 2 (by decide)
                              have g3 : v2 3 = v 3 := hag 3 (by decide)
                              have g4 : v2 4 = v 4 := hag 4 (by decide)
                              have g5 : v2 5 = v 5 := hag 5 (by decide)
                              have g6 : v2 6 = v 6 := hag 6 (by decide)
                              have g7 : v2 7 = v 7 := hag 7 (by decide)
                              have g8 : v2 8 = v 8 := hag 8 (by decide)
                              have g9 : v2 9 = v 9 := hag 9 (by decide)
                              have b0 : ((2147483648 : Nat) : Int) ≤ (v2 2) + 2147483648 ∧ (v2 2) + 2147483648 ≤ ((2147483651 : Nat) : Int) := xXb hBd 0 rfl
                              have b1 : ((2147483649 : Nat) : Int) ≤ (v2 4) + 2147483648 ∧ (v2 4) + 2147483648 ≤ ((2147483649 : Nat) : Int) := xXb hBd 1 rfl
                              have b2 : ((2147483648 : Nat) : Int) ≤ (v2 5) + 2147483648 ∧ (v2 5) + 2147483648 ≤ ((2147483648 : Nat) : Int) := xXb hBd 2 rfl
                              have b3 : ((2147483648 : Nat) : Int) ≤ (v2 7) + 2147483648 ∧ (v2 7) + 2147483648 ≤ ((2147484548 : Nat) : Int) := xXb hBd 3 rfl
                              have b4 : ((2147483648 : Nat) : Int) ≤ (v2 8) + 2147483648 ∧ (v2 8) + 2147483648 ≤ ((2147483649 : Nat) : Int) := xXb hBd 4 rfl
                              have b5 : ((2147483648 : Nat) : Int) ≤ (v2 9) + 2147483648 ∧ (v2 9) + 2147483648 ≤ ((2147483649 : Nat) : Int) := xXb hBd 5 rfl
                              have k0 : xE E 74 36 = v 5 := xKcf hKc 0 rfl rfl
                              have k1 : xE E 74 37 = v 6 := xKcf hKc 1 rfl rfl
                              have k2 : xE E 74 38 = v 7 := xKcf hKc 2 rfl rfl
                              have k3 : xE E 74 40 = v 8 := xKcf hKc 3 rfl rfl
                              have k4 : xE E 74 41 = v 9 := xKcf hKc 4 rfl rfl
                              have f0 : (v2 5) = 0 := xXf hF 0 rfl
                              have f1 : ¬ (v2 4) = 0 := xXf hF 1 rfl
                              have f2 : ¬ (v2 8) = 2 := xXf hF 2 rfl
                              have f3 : (v2 5) ≤ 0 := xXf hF 3 rfl
                              have f4 : ¬ (v2 8) = 4 := xXf hF 4 rfl
                              have f5 : 0 ≤ (v2 9) := xXf hF 5 rfl
                              have f6 : (v2 9) ≤ 1 := xXf hF 6 rfl
                              have f7 : (v2 2) < 4 := xXf hF 7 rfl
                              have m0 : xE E2 74 36 = 2 := xXm hM 0 rfl
                              have m1 : xE E2 74 37 = (v2 7) := xXm hM 1 rfl
                              have e74_38 : xE E2 74 38 = xE E 74 38 := xFr_E hfr rfl
                              have e74_39 : xE E2 74 39 = xE E 74 39 := xFr_E hfr rfl
                              have e74_40 : xE E2 74 40 = xE E 74 40 := xFr_E hfr rfl
                              have e74_41 : xE E2 74 41 = xE E 74 41 := xFr_E hfr rfl
                              have e74_42 : xE E2 74 42 = xE E 74 42 := xFr_E hfr rfl
                              have q74_42 : xE E 74 42 = xE E0 74 42 := xFr_E hFr0 rfl
                              have e75_0 : xE E2 75 0 = xE E 75 0 := xFr_E hfr rfl
                              have q75_0 : xE E 75 0 = xE E0 75 0 := xFr_E hFr0 rfl
                              have e75_1 : xE E2 75 1 = xE E 75 1 := xFr_E hfr rfl
                              have q75_1 : xE E 75 1 = xE E0 75 1 := xFr_E hFr0 rfl
                              have e75_2 : xE E2 75 2 = xE E 75 2 := xFr_E hfr rfl
                              have q75_2 : xE E 75 2 = xE E0 75 2 := xFr_E hFr0 rfl
                              have e84 : ∀ i, xE E2 84 i = xE E 84 i := fun i => xFr_E hfr rfl
                              have q84 : ∀ i, xE E 84 i = xE E0 84 i := fun i => xFr_E hFr0 rfl
                              have e75 : ∀ i, xE E2 75 i = xE E 75 i := fun i => xFr_E hfr rfl
                              have hI : (∀ k, xE E 75 k = xE E0 75 k) ∧ (xE E 74 36 = 0 → (0 ≤ (v 1) ∧ (v 1) ≤ 30) ∧ ∃ p, (p) ≤ (xE E0 74 42) ∧ xRD (xE E0 84) (xE E0 74 42) (p) E ∧ (((v 2) = 0 ∧ (v 3) = 0 ∧ (v 4) = 1 ∧ pSwitch (xE E0 84) (xE E0 74 42) (xE E0 74 39) (xE E0 75) = pNum (xE E0 84) (xE E0 74 42) p 0 1 (fun b p2 => pBits (xE E0 84) (xE E0 74 42) (xE E0 75) (v 1) 3 p2 1 b)) ∨ (1 ≤ (v 2) ∧ (tKd (xE E0 84) (xE E0 74 42) p = 3 ↔ (v 4) = 1) ∧ pSwitch (xE E0 84) (xE E0 74 42) (xE E0 74 39) (xE E0 75) = pBits (xE E0 84) (xE E0 74 42) (xE E0 75) (v 1) (4 - (v 2)).toNat p (v 2) (v 3)))) ∧ (¬ xE E 74 36 = 0 → xEr E (pSwitch (xE E0 84) (xE E0 74 42) (xE E0 74 39) (xE E0 75))) := hInv
                              show xΨsw x0 E0 E2 0
                              obtain ⟨hc, i1, i2⟩ := hI
                              obtain ⟨j1, p, hp, hs, hd⟩ := i1 (by omega)
                              obtain ⟨s1, s1b, s2, s3, s4, s5, s6, s7, s8⟩ := xRD_i hs hp
                              refine xRs_e ?_
                              rcases hd with ⟨d1, d2, d3, d4⟩ | ⟨d1, d2, d3⟩
                              · rw [d4]
                                unfold pNum
                                by_cases c3 : tKd (xE E0 84) (xE E0 74 42) p = 3
                                · rw [if_pos c3]
                                  first
                                    | (exfalso; omega)
                                    | (rw [if_neg (by omega)]; exact xEr_n (by omega) (by omega) (by omega))
                                · rw [if_neg c3]
                                  unfold pMis
                                  by_cases c1 : tKd (xE E0 84) (xE E0 74 42) p = 1
                                  · rw [if_pos c1]
                                    first
                                      | (exfalso; omega)
                                      | exact xEr_n (by omega) (by omega) (by omega)
                                  · rw [if_neg c1]
                                    first
                                      | (exfalso; omega)
                                      | exact xEr_n (by omega) (by omega) (by omega)
                              · have c3 : tKd (xE E0 84) (xE E0 74 42) p = 3 := by omega
                                rw [d3]
                                first
                                  | (exfalso; omega)
                                  | (rw [pBits_3 c3 (by omega)]; exact xEr_n (by omega) (by omega) (by omega))
                                  | (rw [pBits_6 c3 (by omega) (by omega)]; exact xEr_n (by omega) (by omega) (by omega))
                            · skip
                              rcases List.mem_cons.mp hx with ex | hx
                              · subst ex
                                obtain ⟨hF, hBd, hM⟩ := hXs
                                have g1 : v2 1 = v 1 := hag 1 (by decide)
                                have g2 : v2 2 = v 2 := hag 2 (by decide)
                                have g3 : v2 3 = v 3 := hag 3 (by decide)
                                have g4 : v2 4 = v 4 := hag 4 (by decide)
                                have g5 : v2 5 = v 5 := hag 5 (by decide)
                                have g6 : v2 6 = v 6 := hag 6 (by decide)
                                have g7 : v2 7 = v 7 := hag 7 (by decide)
                                have g8 : v2 8 = v 8 := hag 8 (by decide)
                                have g9 : v2 9 = v 9 := hag 9 (by decide)
                                have b0 : ((2147483652 : Nat) : Int) ≤ (v2 2) + 2147483648 ∧ (v2 2) + 2147483648 ≤ ((2147483652 : Nat) : Int) := xXb hBd 0 rfl
                                have b1 : ((2147483649 : Nat) : Int) ≤ (v2 4) + 2147483648 ∧ (v2 4) + 2147483648 ≤ ((2147483649 : Nat) : Int) := xXb hBd 1 rfl
                                have b2 : ((2147483648 : Nat) : Int) ≤ (v2 5) + 2147483648 ∧ (v2 5) + 2147483648 ≤ ((2147483648 : Nat) : Int) := xXb hBd 2 rfl
                                have b3 : ((2147483648 : Nat) : Int) ≤ (v2 7) + 2147483648 ∧ (v2 7) + 2147483648 ≤ ((2147484548 : Nat) : Int) := xXb hBd 3 rfl
                                have b4 : ((2147483648 : Nat) : Int) ≤ (v2 8) + 2147483648 ∧ (v2 8) + 2147483648 ≤ ((2147483649 : Nat) : Int) := xXb hBd 4 rfl
                                have b5 : ((2147483648 : Nat) : Int) ≤ (v2 9) + 2147483648 ∧ (v2 9) + 2147483648 ≤ ((2147483649 : Nat) : Int) := xXb hBd 5 rfl
                                have k0 : xE E 74 36 = v 5 := xKcf hKc 0 rfl rfl
                                have k1 : xE E 74 37 = v 6 := xKcf hKc 1 rfl rfl
                                have k2 : xE E 74 38 = v 7 := xKcf hKc 2 rfl rfl
                                have k3 : xE E 74 40 = v 8 := xKcf hKc 3 rfl rfl
                                have k4 : xE E 74 41 = v 9 := xKcf hKc 4 rfl rfl
                                have f0 : (v2 5) = 0 := xXf hF 0 rfl
                                have f1 : ¬ (v2 4) = 0 := xXf hF 1 rfl
                                have f2 : ¬ (v2 8) = 2 := xXf hF 2 rfl
                                have f3 : (v2 5) ≤ 0 := xXf hF 3 rfl
                                have f4 : ¬ (v2 8) = 4 := xXf hF 4 rfl
                                have f5 : 0 ≤ (v2 9) := xXf hF 5 rfl
                                have f6 : (v2 9) ≤ 1 := xXf hF 6 rfl
                                have f7 : 4 ≤ (v2 2) := xXf hF 7 rfl
                                have m0 : xE E2 74 36 = 2 := xXm hM 0 rfl
                                have m1 : xE E2 74 37 = (v2 7) := xXm hM 1 rfl
                                have e74_38 : xE E2 74 38 = xE E 74 38 := xFr_E hfr rfl
                                have e74_39 : xE E2 74 39 = xE E 74 39 := xFr_E hfr rfl
                                have e74_40 : xE E2 74 40 = xE E 74 40 := xFr_E hfr rfl
                                have e74_41 : xE E2 74 41 = xE E 74 41 := xFr_E hfr rfl
                                have e74_42 : xE E2 74 42 = xE E 74 42 := xFr_E hfr rfl
                                have q74_42 : xE E 74 42 = xE E0 74 42 := xFr_E hFr0 rfl
                                have e75_0 : xE E2 75 0 = xE E 75 0 := xFr_E hfr rfl
                                have q75_0 : xE E 75 0 = xE E0 75 0 := xFr_E hFr0 rfl
                                have e75_1 : xE E2 75 1 = xE E 75 1 := xFr_E hfr rfl
                                have q75_1 : xE E 75 1 = xE E0 75 1 := xFr_E hFr0 rfl
                                have e75_2 : xE E2 75 2 = xE E 75 2 := xFr_E hfr rfl
                                have q75_2 : xE E 75 2 = xE E0 75 2 := xFr_E hFr0 rfl
                                have e84 : ∀ i, xE E2 84 i = xE E 84 i := fun i => xFr_E hfr rfl
                                have q84 : ∀ i, xE E 84 i = xE E0 84 i := fun i => xFr_E hFr0 rfl
                                have e75 : ∀ i, xE E2 75 i = xE E 75 i := fun i => xFr_E hfr rfl
                                have hI : (∀ k, xE E 75 k = xE E0 75 k) ∧ (xE E 74 36 = 0 → (0 ≤ (v 1) ∧ (v 1) ≤ 30) ∧ ∃ p, (p) ≤ (xE E0 74 42) ∧ xRD (xE E0 84) (xE E0 74 42) (p) E ∧ (((v 2) = 0 ∧ (v 3) = 0 ∧ (v 4) = 1 ∧ pSwitch (xE E0 84) (xE E0 74 42) (xE E0 74 39) (xE E0 75) = pNum (xE E0 84) (xE E0 74 42) p 0 1 (fun b p2 => pBits (xE E0 84) (xE E0 74 42) (xE E0 75) (v 1) 3 p2 1 b)) ∨ (1 ≤ (v 2) ∧ (tKd (xE E0 84) (xE E0 74 42) p = 3 ↔ (v 4) = 1) ∧ pSwitch (xE E0 84) (xE E0 74 42) (xE E0 74 39) (xE E0 75) = pBits (xE E0 84) (xE E0 74 42) (xE E0 75) (v 1) (4 - (v 2)).toNat p (v 2) (v 3)))) ∧ (¬ xE E 74 36 = 0 → xEr E (pSwitch (xE E0 84) (xE E0 74 42) (xE E0 74 39) (xE E0 75))) := hInv
                                show xΨsw x0 E0 E2 0
                                obtain ⟨hc, i1, i2⟩ := hI
                                obtain ⟨j1, p, hp, hs, hd⟩ := i1 (by omega)
                                obtain ⟨s1, s1b, s2, s3, s4, s5, s6, s7, s8⟩ := xRD_i hs hp
                                refine xRs_e ?_
                                rcases hd with ⟨d1, d2, d3, d4⟩ | ⟨d1, d2, d3⟩
                                · rw [d4]
                                  unfold pNum
                                  by_cases c3 : tKd (xE E0 84) (xE E0 74 42) p = 3
                                  · rw [if_pos c3]
                                    first
                                      | (exfalso; omega)
                                      | (rw [if_neg (by omega)]; exact xEr_n (by omega) (by omega) (by omega))
                                  · rw [if_neg c3]
                                    unfold pMis
                                    by_cases c1 : tKd (xE E0 84) (xE E0 74 42) p = 1
                                    · rw [if_pos c1]
                                      first
                                        | (exfalso; omega)
                                        | exact xEr_n (by omega) (by omega) (by omega)
                                    · rw [if_neg c1]
                                      first
                                        | (exfalso; omega)
                                        | exact xEr_n (by omega) (by omega) (by omega)
                                · have c3 : tKd (xE E0 84) (xE E0 74 42) p = 3 := by omega
                                  rw [d3]
                                  first
                                    | (exfalso; omega)
                                    | (rw [pBits_3 c3 (by omega)]; exact xEr_n (by omega) (by omega) (by omega))
                                    | (rw [pBits_6 c3 (by omega) (by omega)]; exact xEr_n (by omega) (by omega) (by omega))
                              · skip
                                rcases List.mem_cons.mp hx with ex | hx
                                · subst ex
                                  obtain ⟨hF, hBd, hM⟩ := hXs
                                  have g1 : v2 1 = v 1 := hag 1 (by decide)
                                  have g2 : v2 2 = v 2 := hag 2 (by decide)
                                  have g3 : v2 3 = v 3 := hag 3 (by decide)
                                  have g4 : v2 4 = v 4 := hag 4 (by decide)
                                  have g5 : v2 5 = v 5 := hag 5 (by decide)
                                  have g6 : v2 6 = v 6 := hag 6 (by decide)
                                  have g7 : v2 7 = v 7 := hag 7 (by decide)
                                  have g8 : v2 8 = v 8 := hag 8 (by decide)
                                  have g9 : v2 9 = v 9 := hag 9 (by decide)
                                  have b0 : ((2147483648 : Nat) : Int) ≤ (v2 2) + 2147483648 ∧ (v2 2) + 2147483648 ≤ ((2147483651 : Nat) : Int) := xXb hBd 0 rfl
                                  have b1 : ((2147483649 : Nat) : Int) ≤ (v2 4) + 2147483648 ∧ (v2 4) + 2147483648 ≤ ((2147483649 : Nat) : Int) := xXb hBd 1 rfl
                                  have b2 : ((2147483648 : Nat) : Int) ≤ (v2 5) + 2147483648 ∧ (v2 5) + 2147483648 ≤ ((2147483648 : Nat) : Int) := xXb hBd 2 rfl
                                  have b3 : ((2147483648 : Nat) : Int) ≤ (v2 7) + 2147483648 ∧ (v2 7) + 2147483648 ≤ ((2147484548 : Nat) : Int) := xXb hBd 3 rfl
                                  have b4 : ((2147483650 : Nat) : Int) ≤ (v2 8) + 2147483648 ∧ (v2 8) + 2147483648 ≤ ((2147483650 : Nat) : Int) := xXb hBd 4 rfl
                                  have b5 : ((2147483650 : Nat) : Int) ≤ (v2 9) + 2147483648 ∧ (v2 9) + 2147483648 ≤ ((2147484647 : Nat) : Int) := xXb hBd 5 rfl
                                  have k0 : xE E 74 36 = v 5 := xKcf hKc 0 rfl rfl
                                  have k1 : xE E 74 37 = v 6 := xKcf hKc 1 rfl rfl
                                  have k2 : xE E 74 38 = v 7 := xKcf hKc 2 rfl rfl
                                  have k3 : xE E 74 40 = v 8 := xKcf hKc 3 rfl rfl
                                  have k4 : xE E 74 41 = v 9 := xKcf hKc 4 rfl rfl
                                  have f0 : (v2 5) = 0 := xXf hF 0 rfl
                                  have f1 : ¬ (v2 4) = 0 := xXf hF 1 rfl
                                  have f2 : (v2 8) = 2 := xXf hF 2 rfl
                                  have f3 : 0 ≤ (v2 9) := xXf hF 3 rfl
                                  have f4 : 1 < (v2 9) := xXf hF 4 rfl
                                  have f5 : (v2 5) ≤ 0 := xXf hF 5 rfl
                                  have f6 : (v2 2) < 4 := xXf hF 6 rfl
                                  have m0 : xE E2 74 36 = 3 := xXm hM 0 rfl
                                  have m1 : xE E2 74 37 = (v2 7) := xXm hM 1 rfl
                                  have e74_38 : xE E2 74 38 = xE E 74 38 := xFr_E hfr rfl
                                  have e74_39 : xE E2 74 39 = xE E 74 39 := xFr_E hfr rfl
                                  have e74_40 : xE E2 74 40 = xE E 74 40 := xFr_E hfr rfl
                                  have e74_41 : xE E2 74 41 = xE E 74 41 := xFr_E hfr rfl
                                  have e74_42 : xE E2 74 42 = xE E 74 42 := xFr_E hfr rfl
                                  have q74_42 : xE E 74 42 = xE E0 74 42 := xFr_E hFr0 rfl
                                  have e75_0 : xE E2 75 0 = xE E 75 0 := xFr_E hfr rfl
                                  have q75_0 : xE E 75 0 = xE E0 75 0 := xFr_E hFr0 rfl
                                  have e75_1 : xE E2 75 1 = xE E 75 1 := xFr_E hfr rfl
                                  have q75_1 : xE E 75 1 = xE E0 75 1 := xFr_E hFr0 rfl
                                  have e75_2 : xE E2 75 2 = xE E 75 2 := xFr_E hfr rfl
                                  have q75_2 : xE E 75 2 = xE E0 75 2 := xFr_E hFr0 rfl
                                  have e84 : ∀ i, xE E2 84 i = xE E 84 i := fun i => xFr_E hfr rfl
                                  have q84 : ∀ i, xE E 84 i = xE E0 84 i := fun i => xFr_E hFr0 rfl
                                  have e75 : ∀ i, xE E2 75 i = xE E 75 i := fun i => xFr_E hfr rfl
                                  have hI : (∀ k, xE E 75 k = xE E0 75 k) ∧ (xE E 74 36 = 0 → (0 ≤ (v 1) ∧ (v 1) ≤ 30) ∧ ∃ p, (p) ≤ (xE E0 74 42) ∧ xRD (xE E0 84) (xE E0 74 42) (p) E ∧ (((v 2) = 0 ∧ (v 3) = 0 ∧ (v 4) = 1 ∧ pSwitch (xE E0 84) (xE E0 74 42) (xE E0 74 39) (xE E0 75) = pNum (xE E0 84) (xE E0 74 42) p 0 1 (fun b p2 => pBits (xE E0 84) (xE E0 74 42) (xE E0 75) (v 1) 3 p2 1 b)) ∨ (1 ≤ (v 2) ∧ (tKd (xE E0 84) (xE E0 74 42) p = 3 ↔ (v 4) = 1) ∧ pSwitch (xE E0 84) (xE E0 74 42) (xE E0 74 39) (xE E0 75) = pBits (xE E0 84) (xE E0 74 42) (xE E0 75) (v 1) (4 - (v 2)).toNat p (v 2) (v 3)))) ∧ (¬ xE E 74 36 = 0 → xEr E (pSwitch (xE E0 84) (xE E0 74 42) (xE E0 74 39) (xE E0 75))) := hInv
                                  show xΨsw x0 E0 E2 0
                                  obtain ⟨hc, i1, i2⟩ := hI
                                  obtain ⟨j1, p, hp, hs, hd⟩ := i1 (by omega)
                                  obtain ⟨s1, s1b, s2, s3, s4, s5, s6, s7, s8⟩ := xRD_i hs hp
                                  refine xRs_e ?_
                                  rcases hd with ⟨d1, d2, d3, d4⟩ | ⟨d1, d2, d3⟩
                                  · rw [d4]
                                    unfold pNum
                                    by_cases c3 : tKd (xE E0 84) (xE E0 74 42) p = 3
                                    · rw [if_pos c3]
                                      first
                                        | (exfalso; omega)
                                        | (rw [if_neg (by omega)]; exact xEr_n (by omega) (by omega) (by omega))
                                    · rw [if_neg c3]
                                      unfold pMis
                                      by_cases c1 : tKd (xE E0 84) (xE E0 74 42) p = 1
                                      · rw [if_pos c1]
                                        first
                                          | (exfalso; omega)
                                          | exact xEr_n (by omega) (by omega) (by omega)
                                      · rw [if_neg c1]
                                        first
                                          | (exfalso; omega)
                                          | exact xEr_n (by omega) (by omega) (by omega)
                                  · have c3 : tKd (xE E0 84) (xE E0 74 42) p = 3 := by omega
                                    rw [d3]
                                    first
                                      | (exfalso; omega)
                                      | (rw [pBits_3 c3 (by omega)]; exact xEr_n (by omega) (by omega) (by omega))
                                      | (rw [pBits_6 c3 (by omega) (by omega)]; exact xEr_n (by omega) (by omega) (by omega))
                                · skip
                                  rcases List.mem_cons.mp hx with ex | hx
                                  · subst ex
                                    obtain ⟨hF, hBd, hM⟩ := hXs
                                    have g1 : v2 1 = v 1 := hag 1 (by decide)
                                    have g2 : v2 2 = v 2 := hag 2 (by decide)
                                    have g3 : v2 3 = v 3 := hag 3 (by decide)
                                    have g4 : v2 4 = v 4 := hag 4 (by decide)
                                    have g5 : v2 5 = v 5 := hag 5 (by decide)
                                    have g6 : v2 6 = v 6 := hag 6 (by decide)
                                    have g7 : v2 7 = v 7 := hag 7 (by decide)
                                    have g8 : v2 8 = v 8 := hag 8 (by decide)
                                    have g9 : v2 9 = v 9 := hag 9 (by decide)
                                    have b0 : ((2147483652 : Nat) : Int) ≤ (v2 2) + 2147483648 ∧ (v2 2) + 2147483648 ≤ ((2147483652 : Nat) : Int) := xXb hBd 0 rfl
                                    have b1 : ((2147483649 : Nat) : Int) ≤ (v2 4) + 2147483648 ∧ (v2 4) + 2147483648 ≤ ((2147483649 : Nat) : Int) := xXb hBd 1 rfl
                                    have b2 : ((2147483648 : Nat) : Int) ≤ (v2 5) + 2147483648 ∧ (v2 5) + 2147483648 ≤ ((2147483648 : Nat) : Int) := xXb hBd 2 rfl
                                    have b3 : ((2147483648 : Nat) : Int) ≤ (v2 7) + 2147483648 ∧ (v2 7) + 2147483648 ≤ ((2147484548 : Nat) : Int) := xXb hBd 3 rfl
                                    have b4 : ((2147483650 : Nat) : Int) ≤ (v2 8) + 2147483648 ∧ (v2 8) + 2147483648 ≤ ((2147483650 : Nat) : Int) := xXb hBd 4 rfl
                                    have b5 : ((2147483650 : Nat) : Int) ≤ (v2 9) + 2147483648 ∧ (v2 9) + 2147483648 ≤ ((2147484647 : Nat) : Int) := xXb hBd 5 rfl
                                    have k0 : xE E 74 36 = v 5 := xKcf hKc 0 rfl rfl
                                    have k1 : xE E 74 37 = v 6 := xKcf hKc 1 rfl rfl
                                    have k2 : xE E 74 38 = v 7 := xKcf hKc 2 rfl rfl
                                    have k3 : xE E 74 40 = v 8 := xKcf hKc 3 rfl rfl
                                    have k4 : xE E 74 41 = v 9 := xKcf hKc 4 rfl rfl
                                    have f0 : (v2 5) = 0 := xXf hF 0 rfl
                                    have f1 : ¬ (v2 4) = 0 := xXf hF 1 rfl
                                    have f2 : (v2 8) = 2 := xXf hF 2 rfl
                                    have f3 : 0 ≤ (v2 9) := xXf hF 3 rfl
                                    have f4 : 1 < (v2 9) := xXf hF 4 rfl
                                    have f5 : (v2 5) ≤ 0 := xXf hF 5 rfl
                                    have f6 : 4 ≤ (v2 2) := xXf hF 6 rfl
                                    have m0 : xE E2 74 36 = 3 := xXm hM 0 rfl
                                    have m1 : xE E2 74 37 = (v2 7) := xXm hM 1 rfl
                                    have e74_38 : xE E2 74 38 = xE E 74 38 := xFr_E hfr rfl
                                    have e74_39 : xE E2 74 39 = xE E 74 39 := xFr_E hfr rfl
                                    have e74_40 : xE E2 74 40 = xE E 74 40 := xFr_E hfr rfl
                                    have e74_41 : xE E2 74 41 = xE E 74 41 := xFr_E hfr rfl
                                    have e74_42 : xE E2 74 42 = xE E 74 42 := xFr_E hfr rfl
                                    have q74_42 : xE E 74 42 = xE E0 74 42 := xFr_E hFr0 rfl
                                    have e75_0 : xE E2 75 0 = xE E 75 0 := xFr_E hfr rfl
                                    have q75_0 : xE E 75 0 = xE E0 75 0 := xFr_E hFr0 rfl
                                    have e75_1 : xE E2 75 1 = xE E 75 1 := xFr_E hfr rfl
                                    have q75_1 : xE E 75 1 = xE E0 75 1 := xFr_E hFr0 rfl
                                    have e75_2 : xE E2 75 2 = xE E 75 2 := xFr_E hfr rfl
                                    have q75_2 : xE E 75 2 = xE E0 75 2 := xFr_E hFr0 rfl
                                    have e84 : ∀ i, xE E2 84 i = xE E 84 i := fun i => xFr_E hfr rfl
                                    have q84 : ∀ i, xE E 84 i = xE E0 84 i := fun i => xFr_E hFr0 rfl
                                    have e75 : ∀ i, xE E2 75 i = xE E 75 i := fun i => xFr_E hfr rfl
                                    have hI : (∀ k, xE E 75 k = xE E0 75 k) ∧ (xE E 74 36 = 0 → (0 ≤ (v 1) ∧ (v 1) ≤ 30) ∧ ∃ p, (p) ≤ (xE E0 74 42) ∧ xRD (xE E0 84) (xE E0 74 42) (p) E ∧ (((v 2) = 0 ∧ (v 3) = 0 ∧ (v 4) = 1 ∧ pSwitch (xE E0 84) (xE E0 74 42) (xE E0 74 39) (xE E0 75) = pNum (xE E0 84) (xE E0 74 42) p 0 1 (fun b p2 => pBits (xE E0 84) (xE E0 74 42) (xE E0 75) (v 1) 3 p2 1 b)) ∨ (1 ≤ (v 2) ∧ (tKd (xE E0 84) (xE E0 74 42) p = 3 ↔ (v 4) = 1) ∧ pSwitch (xE E0 84) (xE E0 74 42) (xE E0 74 39) (xE E0 75) = pBits (xE E0 84) (xE E0 74 42) (xE E0 75) (v 1) (4 - (v 2)).toNat p (v 2) (v 3)))) ∧ (¬ xE E 74 36 = 0 → xEr E (pSwitch (xE E0 84) (xE E0 74 42) (xE E0 74 39) (xE E0 75))) := hInv
                                    show xΨsw x0 E0 E2 0
                                    obtain ⟨hc, i1, i2⟩ := hI
                                    obtain ⟨j1, p, hp, hs, hd⟩ := i1 (by omega)
                                    obtain ⟨s1, s1b, s2, s3, s4, s5, s6, s7, s8⟩ := xRD_i hs hp
                                    refine xRs_e ?_
                                    rcases hd with ⟨d1, d2, d3, d4⟩ | ⟨d1, d2, d3⟩
                                    · rw [d4]
                                      unfold pNum
                                      by_cases c3 : tKd (xE E0 84) (xE E0 74 42) p = 3
                                      · rw [if_pos c3]
                                        first
                                          | (exfalso; omega)
                                          | (rw [if_neg (by omega)]; exact xEr_n (by omega) (by omega) (by omega))
                                      · rw [if_neg c3]
                                        unfold pMis
                                        by_cases c1 : tKd (xE E0 84) (xE E0 74 42) p = 1
                                        · rw [if_pos c1]
                                          first
                                            | (exfalso; omega)
                                            | exact xEr_n (by omega) (by omega) (by omega)
                                        · rw [if_neg c1]
                                          first
                                            | (exfalso; omega)
                                            | exact xEr_n (by omega) (by omega) (by omega)
                                    · have c3 : tKd (xE E0 84) (xE E0 74 42) p = 3 := by omega
                                      rw [d3]
                                      first
                                        | (exfalso; omega)
                                        | (rw [pBits_3 c3 (by omega)]; exact xEr_n (by omega) (by omega) (by omega))
                                        | (rw [pBits_6 c3 (by omega) (by omega)]; exact xEr_n (by omega) (by omega) (by omega))
                                  · skip
                                    have ex := List.mem_singleton.mp hx
                                    subst ex
                                    obtain ⟨hF, hBd, hM⟩ := hXs
                                    have g1 : v2 1 = v 1 := hag 1 (by decide)
                                    have g2 : v2 2 = v 2 := hag 2 (by decide)
                                    have g3 : v2 3 = v 3 := hag 3 (by decide)
                                    have g4 : v2 4 = v 4 := hag 4 (by decide)
                                    have g5 : v2 5 = v 5 := hag 5 (by decide)
                                    have g6 : v2 6 = v 6 := hag 6 (by decide)
                                    have g7 : v2 7 = v 7 := hag 7 (by decide)
                                    have g8 : v2 8 = v 8 := hag 8 (by decide)
                                    have g9 : v2 9 = v 9 := hag 9 (by decide)
                                    have b0 : ((2147483652 : Nat) : Int) ≤ (v2 2) + 2147483648 ∧ (v2 2) + 2147483648 ≤ ((2147483652 : Nat) : Int) := xXb hBd 0 rfl
                                    have b1 : ((2147483649 : Nat) : Int) ≤ (v2 4) + 2147483648 ∧ (v2 4) + 2147483648 ≤ ((2147483649 : Nat) : Int) := xXb hBd 1 rfl
                                    have b2 : ((2147483648 : Nat) : Int) ≤ (v2 5) + 2147483648 ∧ (v2 5) + 2147483648 ≤ ((2147483648 : Nat) : Int) := xXb hBd 2 rfl
                                    have b3 : ((2147483648 : Nat) : Int) ≤ (v2 7) + 2147483648 ∧ (v2 7) + 2147483648 ≤ ((2147484548 : Nat) : Int) := xXb hBd 3 rfl
                                    have b4 : ((2147483650 : Nat) : Int) ≤ (v2 8) + 2147483648 ∧ (v2 8) + 2147483648 ≤ ((2147483650 : Nat) : Int) := xXb hBd 4 rfl
                                    have b5 : ((2147483648 : Nat) : Int) ≤ (v2 9) + 2147483648 ∧ (v2 9) + 2147483648 ≤ ((2147483649 : Nat) : Int) := xXb hBd 5 rfl
                                    have k0 : xE E 74 36 = v 5 := xKcf hKc 0 rfl rfl
                                    have k1 : xE E 74 37 = v 6 := xKcf hKc 1 rfl rfl
                                    have k2 : xE E 74 38 = v 7 := xKcf hKc 2 rfl rfl
                                    have k3 : xE E 74 40 = v 8 := xKcf hKc 3 rfl rfl
                                    have k4 : xE E 74 41 = v 9 := xKcf hKc 4 rfl rfl
                                    have f0 : (v2 5) = 0 := xXf hF 0 rfl
                                    have f1 : ¬ (v2 4) = 0 := xXf hF 1 rfl
                                    have f2 : (v2 8) = 2 := xXf hF 2 rfl
                                    have f3 : 0 ≤ (v2 9) := xXf hF 3 rfl
                                    have f4 : (v2 9) ≤ 1 := xXf hF 4 rfl
                                    have f5 : 4 ≤ (v2 2) := xXf hF 5 rfl
                                    have f6 : (v2 5) ≤ 0 := xXf hF 6 rfl
                                    have m0 : xE E2 74 36 = 6 := xXm hM 0 rfl
                                    have m1 : xE E2 74 37 = (v2 7) := xXm hM 1 rfl
                                    have e74_38 : xE E2 74 38 = xE E 74 38 := xFr_E hfr rfl
                                    have e74_39 : xE E2 74 39 = xE E 74 39 := xFr_E hfr rfl
                                    have e74_40 : xE E2 74 40 = xE E 74 40 := xFr_E hfr rfl
                                    have e74_41 : xE E2 74 41 = xE E 74 41 := xFr_E hfr rfl
                                    have e74_42 : xE E2 74 42 = xE E 74 42 := xFr_E hfr rfl
                                    have q74_42 : xE E 74 42 = xE E0 74 42 := xFr_E hFr0 rfl
                                    have e75_0 : xE E2 75 0 = xE E 75 0 := xFr_E hfr rfl
                                    have q75_0 : xE E 75 0 = xE E0 75 0 := xFr_E hFr0 rfl
                                    have e75_1 : xE E2 75 1 = xE E 75 1 := xFr_E hfr rfl
                                    have q75_1 : xE E 75 1 = xE E0 75 1 := xFr_E hFr0 rfl
                                    have e75_2 : xE E2 75 2 = xE E 75 2 := xFr_E hfr rfl
                                    have q75_2 : xE E 75 2 = xE E0 75 2 := xFr_E hFr0 rfl
                                    have e84 : ∀ i, xE E2 84 i = xE E 84 i := fun i => xFr_E hfr rfl
                                    have q84 : ∀ i, xE E 84 i = xE E0 84 i := fun i => xFr_E hFr0 rfl
                                    have e75 : ∀ i, xE E2 75 i = xE E 75 i := fun i => xFr_E hfr rfl
                                    have hI : (∀ k, xE E 75 k = xE E0 75 k) ∧ (xE E 74 36 = 0 → (0 ≤ (v 1) ∧ (v 1) ≤ 30) ∧ ∃ p, (p) ≤ (xE E0 74 42) ∧ xRD (xE E0 84) (xE E0 74 42) (p) E ∧ (((v 2) = 0 ∧ (v 3) = 0 ∧ (v 4) = 1 ∧ pSwitch (xE E0 84) (xE E0 74 42) (xE E0 74 39) (xE E0 75) = pNum (xE E0 84) (xE E0 74 42) p 0 1 (fun b p2 => pBits (xE E0 84) (xE E0 74 42) (xE E0 75) (v 1) 3 p2 1 b)) ∨ (1 ≤ (v 2) ∧ (tKd (xE E0 84) (xE E0 74 42) p = 3 ↔ (v 4) = 1) ∧ pSwitch (xE E0 84) (xE E0 74 42) (xE E0 74 39) (xE E0 75) = pBits (xE E0 84) (xE E0 74 42) (xE E0 75) (v 1) (4 - (v 2)).toNat p (v 2) (v 3)))) ∧ (¬ xE E 74 36 = 0 → xEr E (pSwitch (xE E0 84) (xE E0 74 42) (xE E0 74 39) (xE E0 75))) := hInv
                                    show xΨsw x0 E0 E2 0
                                    obtain ⟨hc, i1, i2⟩ := hI
                                    obtain ⟨j1, p, hp, hs, hd⟩ := i1 (by omega)
                                    obtain ⟨s1, s1b, s2, s3, s4, s5, s6, s7, s8⟩ := xRD_i hs hp
                                    refine xRs_e ?_
                                    rcases hd with ⟨d1, d2, d3, d4⟩ | ⟨d1, d2, d3⟩
                                    · rw [d4]
                                      unfold pNum
                                      by_cases c3 : tKd (xE E0 84) (xE E0 74 42) p = 3
                                      · rw [if_pos c3]
                                        first
                                          | (exfalso; omega)
                                          | (rw [if_neg (by omega)]; exact xEr_n (by omega) (by omega) (by omega))
                                      · rw [if_neg c3]
                                        unfold pMis
                                        by_cases c1 : tKd (xE E0 84) (xE E0 74 42) p = 1
                                        · rw [if_pos c1]
                                          first
                                            | (exfalso; omega)
                                            | exact xEr_n (by omega) (by omega) (by omega)
                                        · rw [if_neg c1]
                                          first
                                            | (exfalso; omega)
                                            | exact xEr_n (by omega) (by omega) (by omega)
                                    · have c3 : tKd (xE E0 84) (xE E0 74 42) p = 3 := by omega
                                      rw [d3]
                                      first
                                        | (exfalso; omega)
                                        | (rw [pBits_3 c3 (by omega)]; exact xEr_n (by omega) (by omega) (by omega))
                                        | (rw [pBits_6 c3 (by omega) (by omega)]; exact xEr_n (by omega) (by omega) (by omega))
    · cases hx
    · cases hx
    · cases hx
    · have hx : x ∈ [zxfsw_gr0] := hx
      have hag : ∀ k, k < 5 → v2 k = v k := hag
      have hfr : xFr [] _ _ := hfr
      have ex := List.mem_singleton.mp hx
      subst ex
      obtain ⟨hF, hBd, hM⟩ := hXs
      have e74_36 : xE E2 74 36 = xE E 74 36 := xFr_E hfr rfl
      have e74_37 : xE E2 74 37 = xE E 74 37 := xFr_E hfr rfl
      have e74_38 : xE E2 74 38 = xE E 74 38 := xFr_E hfr rfl
      have e74_39 : xE E2 74 39 = xE E 74 39 := xFr_E hfr rfl
      have e74_40 : xE E2 74 40 = xE E 74 40 := xFr_E hfr rfl
      have e74_41 : xE E2 74 41 = xE E 74 41 := xFr_E hfr rfl
      have e74_42 : xE E2 74 42 = xE E 74 42 := xFr_E hfr rfl
      have q74_42 : xE E 74 42 = xE E0 74 42 := xFr_E hFr0 rfl
      have e75_0 : xE E2 75 0 = xE E 75 0 := xFr_E hfr rfl
      have q75_0 : xE E 75 0 = xE E0 75 0 := xFr_E hFr0 rfl
      have e75_1 : xE E2 75 1 = xE E 75 1 := xFr_E hfr rfl
      have q75_1 : xE E 75 1 = xE E0 75 1 := xFr_E hFr0 rfl
      have e75_2 : xE E2 75 2 = xE E 75 2 := xFr_E hfr rfl
      have q75_2 : xE E 75 2 = xE E0 75 2 := xFr_E hFr0 rfl
      have e84 : ∀ i, xE E2 84 i = xE E 84 i := fun i => xFr_E hfr rfl
      have q84 : ∀ i, xE E 84 i = xE E0 84 i := fun i => xFr_E hFr0 rfl
      have e75 : ∀ i, xE E2 75 i = xE E 75 i := fun i => xFr_E hfr rfl
      have hI : xE E 74 36 = 0 ∧ ∃ p U, (p) ≤ (xE E0 74 42) ∧ xRD (xE E0 84) (xE E0 74 42) (p) E ∧ pSwitch (xE E0 84) (xE E0 74 42) (xE E0 74 39) (xE E0 75) = .ok (p, U) ∧ ∀ k, 0 ≤ k → xE E 75 k = U k := hInv
      show xΨsw x0 E0 E2 0
      obtain ⟨i1, p, U, hp, hs, i3, i4⟩ := hI
      have hEE : E2 = E := xFr_n hfr
      unfold xΨsw
      rw [i3, hEE]
      exact ⟨i1, hp, hs, fun k k0 _ => i4 k k0⟩
end
section
/-! THE REFERENCE reads a place (printed by m22.py) -/
noncomputable def zxfpl_zx0 : zyXp := (0, [595, 13, 13], [], [], [], [])
noncomputable def zpfpl_z : zyPh := (0, [595, 13, 13], [(0, 4294967295), (0, 4294967295), (0, 4294967295)], [], [])
noncomputable def zxfpl_ax0 : zyXp := (1, [595, 13, 13], [595], [], [], [])
noncomputable def zpfpl_a : zyPh := (0, [595, 13, 13], [(0, 4294967295), (0, 4294967295), (0, 4294967295)], [], [])
noncomputable def zxfpl_bx0 : zyXp := (14, [595, 13, 13], [137438953465, 0, 595], [], [(103079215105, 2147483648, 2147483656), (137438953465, 2147483647, 2147483655)], [])
noncomputable def zpfpl_b : zyPh := (4, [595, 13, 13], [(0, 4294967295), (0, 4294967295), (0, 4294967295), (2147483648, 2147483656)], [(1228802, 103079215105)], [])
noncomputable def zxfpl_cx0 : zyXp := (26, [595, 171798691841, 13], [274877906937, 0, 595], [(3, 206158430209, 32, 103079215105), (3, 240518168577, 206158430209, 137438953473)], [(103079215105, 2147483649, 2147483652), (137438953473, 2147483649, 2147483653), (206158430209, 2147483652, 2147483664), (240518168577, 2147483652, 2147483728), (274877906937, 2147483651, 2147483727)], [])
noncomputable def zpfpl_c : zyPh := (17, [595, 13, 13], [(0, 4294967295), (0, 4294967295), (0, 4294967295), (2147483649, 2147483652), (2147483649, 2147483653), (0, 4294967295)], [(1228800, 103079215105), (1228801, 137438953473)], [171798691841])
noncomputable def zxfpl_dx0 : zyXp := (37, [595, 34359738369, 137438953473], [], [(22, 0, 103079215105, 0)], [(103079215105, 2147483648, 2147483648)], [])
noncomputable def zxfpl_dr0 : zyXp := (0, [], [], [(23, 0, 103079215105, 0)], [(103079215105, 2147483649, 2147483657)], [])
noncomputable def zpfpl_d : zyPh := (29, [595, 34359738369, 13], [(0, 4294967295), (0, 4294967295), (0, 4294967295), (2147483648, 2147483657), (0, 4294967295)], [(1212452, 103079215105)], [137438953473])
noncomputable def zxfpl_d2x0 : zyXp := (47, [595, 34359738369, 68719476737], [68719476737, 34359739585, 603], [], [(34359738369, 2147483648, 2147483655), (34359739585, 2147483800, 2147483807)], [])
noncomputable def zpfpl_d2 : zyPh := (37, [595, 34359738369, 68719476737], [(0, 4294967295), (2147483648, 2147483655), (0, 4294967295)], [], [])
noncomputable def zxfpl_er0 : zyXp := (0, [], [], [], [], [])
noncomputable def zpfpl_e : zyPh := (48, [595, 13, 13], [(0, 4294967295), (0, 4294967295), (0, 4294967295)], [], [])
noncomputable def zpfpl (i : Nat) : zyPh := zif (Nat.beq i 0) (zpfpl_z) (zif (Nat.beq i 1) (zpfpl_a) (zif (Nat.beq i 2) (zpfpl_b) (zif (Nat.beq i 3) (zpfpl_c) (zif (Nat.beq i 4) (zpfpl_d) (zif (Nat.beq i 5) (zpfpl_d2) (zpfpl_e))))))
noncomputable def zXfpl (i : Nat) : List zyXp := zif (Nat.beq i 0) ([zxfpl_zx0]) (zif (Nat.beq i 1) ([zxfpl_ax0]) (zif (Nat.beq i 2) ([zxfpl_bx0]) (zif (Nat.beq i 3) ([zxfpl_cx0]) (zif (Nat.beq i 4) ([zxfpl_dx0]) (zif (Nat.beq i 5) ([zxfpl_d2x0]) ([]))))))
noncomputable def zRfpl (i : Nat) : List zyXp := zif (Nat.beq i 0) ([]) (zif (Nat.beq i 1) ([]) (zif (Nat.beq i 2) ([]) (zif (Nat.beq i 3) ([]) (zif (Nat.beq i 4) ([zxfpl_dr0]) (zif (Nat.beq i 5) ([]) ([zxfpl_er0]))))))
noncomputable def zFfpl (i : Nat) : zyR := zif (Nat.beq i 0) ([]) (zif (Nat.beq i 1) ([]) (zif (Nat.beq i 2) ([]) (zif (Nat.beq i 3) ([]) (zif (Nat.beq i 4) ([]) (zif (Nat.beq i 5) ([]) ([]))))))
noncomputable def zSfpl (i : Nat) : Nat := zif (Nat.beq i 0) (0) (zif (Nat.beq i 1) (0) (zif (Nat.beq i 2) (0) (zif (Nat.beq i 3) (0) (zif (Nat.beq i 4) (0) (zif (Nat.beq i 5) (0) (0))))))
/-- a wished place is read -/
def xΦpl (_ : Nat → Int) (E : zyEm) : Prop := xE E 74 36 = 0 ∧ xE E 74 39 ≤ xE E 74 42 ∧ (1 ≤ xE E 75 0 ∧ xE E 75 0 ≤ 4) ∧ (1 ≤ xE E 75 1 ∧ xE E 75 1 ≤ 5) ∧ (0 ≤ xE E 75 2 ∧ xE E 75 2 ≤ 8)
def xΨpl (_ : Nat → Int) (E E2 : zyEm) (_ : Int) : Prop := xRs (xE E 84) (xE E 74 42) E2 (pPlace (xE E 84) (xE E 74 42) (xE E 74 39) (xE E 75))
noncomputable def fpfpl : zyR := [(74, 36, 41), (74, 43, 43), (75, 152, 159)]
theorem zyfpl_run : zyrS zymx zxi325 (325, 0, 0, 0, 0) 5 zpfpl (fun _ _ => []) zFfpl zSfpl zXfpl zRfpl 7 = true := by decide +kernel
theorem zyfpl_ck : zyAll (fun i => xsubR (zFfpl i) fpfpl && ((zXfpl i).all xckX && (zRfpl i).all (fun x => xckX x && xrtB false x))) 7 = true := by decide +kernel
def xIfpl (i : Nat) (x0 : Nat → Int) (E0 : zyEm) (v : Nat → Int) (E : zyEm) : Prop := if i = 0 then (E = E0) else if i = 1 then (E = E0) else if i = 2 then (xE E 74 36 = 0 ∧ (∀ k, xE E 75 k = xE E0 75 k) ∧ ((1 ≤ xE E0 75 0 ∧ xE E0 75 0 ≤ 4) ∧ (1 ≤ xE E0 75 1 ∧ xE E0 75 1 ≤ 5)) ∧ (0 ≤ xE E0 75 2 ∧ xE E0 75 2 ≤ 8) ∧ ((xE E0 74 39)) ≤ (xE E0 74 42) ∧ xRD (xE E0 84) (xE E0 74 42) ((xE E0 74 39)) E) else if i = 3 then ((∀ k, xE E 75 k = xE E0 75 k) ∧ ((1 ≤ xE E0 75 0 ∧ xE E0 75 0 ≤ 4) ∧ (1 ≤ xE E0 75 1 ∧ xE E0 75 1 ≤ 5)) ∧ (xE E 74 36 = 0 → (0 ≤ (v 5) ∧ (v 5) ≤ 7) ∧ (tNx (xE E0 84) (xE E0 74 42) (xE E0 74 39)) ≤ (xE E0 74 42) ∧ xRD (xE E0 84) (xE E0 74 42) (tNx (xE E0 84) (xE E0 74 42) (xE E0 74 39)) E ∧ pPlace (xE E0 84) (xE E0 74 42) (xE E0 74 39) (xE E0 75) = pNum (xE E0 84) (xE E0 74 42) (tNx (xE E0 84) (xE E0 74 42) (xE E0 74 39)) 0 (sN (xE E0 75 0) (xE E0 75 1) - 1) (fun sl p2 => .ok (p2, uS (xE E0 75) (152 + (v 5)) sl))) ∧ (¬ xE E 74 36 = 0 → xEr E (pPlace (xE E0 84) (xE E0 74 42) (xE E0 74 39) (xE E0 75)))) else if i = 4 then ((∀ k, xE E 75 k = xE E0 75 k) ∧ (xE E 74 36 = 0 → (0 ≤ (v 1) ∧ (v 1) ≤ 7) ∧ ∃ p, (p) ≤ (xE E0 74 42) ∧ xRD (xE E0 84) (xE E0 74 42) (p) E ∧ pPlace (xE E0 84) (xE E0 74 42) (xE E0 74 39) (xE E0 75) = .ok (p, uS (xE E0 75) (152 + (v 1)) (v 4))) ∧ (¬ xE E 74 36 = 0 → xEr E (pPlace (xE E0 84) (xE E0 74 42) (xE E0 74 39) (xE E0 75)))) else if i = 5 then (xE E 74 36 = 0 ∧ (∀ k, xE E 75 k = xE E0 75 k) ∧ ∃ p, (p) ≤ (xE E0 74 42) ∧ xRD (xE E0 84) (xE E0 74 42) (p) E ∧ pPlace (xE E0 84) (xE E0 74 42) (xE E0 74 39) (xE E0 75) = .ok (p, uS (xE E0 75) (152 + (v 1)) (v 2))) else (xE E 74 36 = 0 ∧ ∃ p U, (p) ≤ (xE E0 74 42) ∧ xRD (xE E0 84) (xE E0 74 42) (p) E ∧ pPlace (xE E0 84) (xE E0 74 42) (xE E0 74 39) (xE E0 75) = .ok (p, U) ∧ ∀ k, 0 ≤ k → xE E 75 k = U k)
def xMfpl (i : Nat) (x0 : Nat → Int) (E0 : zyEm) (v : Nat → Int) (E : zyEm) : Nat := if i = 0 then (9) else if i = 1 then (8) else if i = 2 then (7) else if i = 3 then (6) else if i = 4 then (5) else if i = 5 then (4) else (3)
theorem xPl {l : Launch} {en : zEn} {me : zMe} (hen : zG zxMeta 325 = some en) (hme : zG zMeth 325 = some me) : xFc l zymx en me 5 [74] 0 fpfpl false xΦpl xΨpl := by
  have een : zG zxMeta 325 = some (zxi325, 1, 3, 11, 325, 0, 0, 0, 0) := rfl
  obtain ⟨me1, hme1, hOK⟩ := zall hen
  rw [hme] at hme1
  cases hme1
  rw [een] at hen
  cases hen
  have hr := zyfpl_run
  have hck := fun i hi => zyAll_iff zyfpl_ck i hi
  simp only [Bool.and_eq_true] at hck
  obtain ⟨mefrd, hmefrd, -⟩ := zall (show zG zxMeta 314 = some (zxi314, 1, 1, 11, 314, 0, 0, 0, 0) from rfl)
  have hfrd := xRd (l := l) (show zG zxMeta 314 = some (zxi314, 1, 1, 11, 314, 0, 0, 0, 0) from rfl) hmefrd
  obtain ⟨meftm, hmeftm, -⟩ := zall (show zG zxMeta 320 = some (zxi320, 3, 4, 11, 320, 0, 0, 1, 0) from rfl)
  have hftm := xTm (l := l) (show zG zxMeta 320 = some (zxi320, 3, 4, 11, 320, 0, 0, 1, 0) from rfl) hmeftm
  intro B
  refine xcut (mi := zymx) (B := B) hOK rfl rfl (ι := Fin 7) (fun i => zpfpl i.val) (fun _ _ => []) (fun i => zFfpl i.val) (fun i => zSfpl i.val) (fun i => zXfpl i.val) (fun i => zRfpl i.val) (fun i y2 ct en2 me2 h => by cases h) 200000 (fun i => zyAll_iff hr i.val i.isLt) (fun i => (hck i.val i.isLt).1) (fun i => (hck i.val i.isLt).2.1) (fun i => (hck i.val i.isLt).2.2) ⟨0, by decide⟩ ⟨rfl, rfl, rfl, rfl⟩ ⟨by decide, by decide⟩ (fun i x0 E0 v E => xIfpl i.val x0 E0 v E) (fun i x0 E0 v E => xMfpl i.val x0 E0 v E) ?_ ?_ ?_
  · intro x0 E hx0 hT hΦ
    have hΦ : xΦpl x0 E := hΦ
    refine ⟨fun k p hp => ?_, ?_⟩
    · have hk : k < 3 := (List.getElem?_eq_some_iff.mp hp).1
      have hk : k = 0 ∨ k = 1 ∨ k = 2 := by omega
      rcases hk with rfl | rfl | rfl
      · have hp : some (0, 4294967295) = some p := hp
        cases hp
        show ((0 : Nat) : Int) ≤ 0 + 2147483648 ∧ 0 + 2147483648 ≤ ((4294967295 : Nat) : Int)
        omega
      · have hp : some (0, 4294967295) = some p := hp
        cases hp
        show ((0 : Nat) : Int) ≤ x0 0 + 2147483648 ∧ x0 0 + 2147483648 ≤ ((4294967295 : Nat) : Int)
        have hx := hx0 0
        omega
      · have hp : some (0, 4294967295) = some p := hp
        cases hp
        show ((0 : Nat) : Int) ≤ x0 1 + 2147483648 ∧ x0 1 + 2147483648 ≤ ((4294967295 : Nat) : Int)
        have hx := hx0 1
        omega
    · show E = E
      rfl
  · intro x0 s Wg hRu hrx hT0 hΦ i v H hT hrv hInv hKc hFr0 hIH x hx ρ2 v2 N2 H2 locs lsB stA hAt hB hv hr2 hXs hag hfr hFr hT2
    rcases i with ⟨i, hi⟩
    have hi2 : i = 0 ∨ i = 1 ∨ i = 2 ∨ i = 3 ∨ i = 4 ∨ i = 5 ∨ i = 6 := by omega
    rcases hi2 with rfl | rfl | rfl | rfl | rfl | rfl | rfl
    · have hx : x ∈ [zxfpl_zx0] := hx
      have hag : ∀ k, k < 3 → v2 k = v k := hag
      have hfr : xFr [] _ _ := hfr
      have ex := List.mem_singleton.mp hx
      subst ex
      obtain ⟨hF, hBd, hM⟩ := hXs
      have e74_36 : xE (zyEl zymx B H2) 74 36 = xE (zyEl zymx B H) 74 36 := xFr_E hfr rfl
      have e74_37 : xE (zyEl zymx B H2) 74 37 = xE (zyEl zymx B H) 74 37 := xFr_E hfr rfl
      have e74_38 : xE (zyEl zymx B H2) 74 38 = xE (zyEl zymx B H) 74 38 := xFr_E hfr rfl
      have e74_39 : xE (zyEl zymx B H2) 74 39 = xE (zyEl zymx B H) 74 39 := xFr_E hfr rfl
      have e74_40 : xE (zyEl zymx B H2) 74 40 = xE (zyEl zymx B H) 74 40 := xFr_E hfr rfl
      have e74_41 : xE (zyEl zymx B H2) 74 41 = xE (zyEl zymx B H) 74 41 := xFr_E hfr rfl
      have e74_42 : xE (zyEl zymx B H2) 74 42 = xE (zyEl zymx B H) 74 42 := xFr_E hfr rfl
      have q74_42 : xE (zyEl zymx B H) 74 42 = xE (zyEl zymx B s.heap) 74 42 := xFr_E hFr0 rfl
      have e75_0 : xE (zyEl zymx B H2) 75 0 = xE (zyEl zymx B H) 75 0 := xFr_E hfr rfl
      have q75_0 : xE (zyEl zymx B H) 75 0 = xE (zyEl zymx B s.heap) 75 0 := xFr_E hFr0 rfl
      have e75_1 : xE (zyEl zymx B H2) 75 1 = xE (zyEl zymx B H) 75 1 := xFr_E hfr rfl
      have q75_1 : xE (zyEl zymx B H) 75 1 = xE (zyEl zymx B s.heap) 75 1 := xFr_E hFr0 rfl
      have e75_2 : xE (zyEl zymx B H2) 75 2 = xE (zyEl zymx B H) 75 2 := xFr_E hfr rfl
      have q75_2 : xE (zyEl zymx B H) 75 2 = xE (zyEl zymx B s.heap) 75 2 := xFr_E hFr0 rfl
      have e84 : ∀ i, xE (zyEl zymx B H2) 84 i = xE (zyEl zymx B H) 84 i := fun i => xFr_E hfr rfl
      have q84 : ∀ i, xE (zyEl zymx B H) 84 i = xE (zyEl zymx B s.heap) 84 i := fun i => xFr_E hFr0 rfl
      have e75 : ∀ i, xE (zyEl zymx B H2) 75 i = xE (zyEl zymx B H) 75 i := fun i => xFr_E hfr rfl
      have hI : (zyEl zymx B H) = (zyEl zymx B s.heap) := hInv
      have q74_36 : xE (zyEl zymx B H) 74 36 = xE (zyEl zymx B s.heap) 74 36 := by rw [hI]
      have q74_37 : xE (zyEl zymx B H) 74 37 = xE (zyEl zymx B s.heap) 74 37 := by rw [hI]
      have q74_38 : xE (zyEl zymx B H) 74 38 = xE (zyEl zymx B s.heap) 74 38 := by rw [hI]
      have q74_39 : xE (zyEl zymx B H) 74 39 = xE (zyEl zymx B s.heap) 74 39 := by rw [hI]
      have q74_40 : xE (zyEl zymx B H) 74 40 = xE (zyEl zymx B s.heap) 74 40 := by rw [hI]
      have q74_41 : xE (zyEl zymx B H) 74 41 = xE (zyEl zymx B s.heap) 74 41 := by rw [hI]
      have q75 : ∀ i, xE (zyEl zymx B H) 75 i = xE (zyEl zymx B s.heap) 75 i := fun i => by rw [hI]
      refine xGo hIH hAt hB hv hFr ⟨1, by decide⟩ [0, 0, 0] [0, 0, 0] rfl ⟨by decide +kernel, ⟨rfl, by decide +kernel⟩, (xcs_c rfl (xcs_c rfl (xcs_c rfl xcs_n))), (xe_0 (xe_0 (xe_0 xe_n))), xkq_n⟩ xst_n ?_ ?_
      · show (zyEl zymx B H2) = (zyEl zymx B s.heap)
        exact (xFr_n hfr).trans hI
      · show 8 < 9
        omega
    · have hx : x ∈ [zxfpl_ax0] := hx
      have hag : ∀ k, k < 3 → v2 k = v k := hag
      have hfr : xFr [] _ _ := hfr
      have ex := List.mem_singleton.mp hx
      subst ex
      obtain ⟨hF, hBd, hM⟩ := hXs
      have e74_36 : xE (zyEl zymx B H2) 74 36 = xE (zyEl zymx B H) 74 36 := xFr_E hfr rfl
      have e74_37 : xE (zyEl zymx B H2) 74 37 = xE (zyEl zymx B H) 74 37 := xFr_E hfr rfl
      have e74_38 : xE (zyEl zymx B H2) 74 38 = xE (zyEl zymx B H) 74 38 := xFr_E hfr rfl
      have e74_39 : xE (zyEl zymx B H2) 74 39 = xE (zyEl zymx B H) 74 39 := xFr_E hfr rfl
      have e74_40 : xE (zyEl zymx B H2) 74 40 = xE (zyEl zymx B H) 74 40 := xFr_E hfr rfl
      have e74_41 : xE (zyEl zymx B H2) 74 41 = xE (zyEl zymx B H) 74 41 := xFr_E hfr rfl
      have e74_42 : xE (zyEl zymx B H2) 74 42 = xE (zyEl zymx B H) 74 42 := xFr_E hfr rfl
      have q74_42 : xE (zyEl zymx B H) 74 42 = xE (zyEl zymx B s.heap) 74 42 := xFr_E hFr0 rfl
      have e75_0 : xE (zyEl zymx B H2) 75 0 = xE (zyEl zymx B H) 75 0 := xFr_E hfr rfl
      have q75_0 : xE (zyEl zymx B H) 75 0 = xE (zyEl zymx B s.heap) 75 0 := xFr_E hFr0 rfl
      have e75_1 : xE (zyEl zymx B H2) 75 1 = xE (zyEl zymx B H) 75 1 := xFr_E hfr rfl
      have q75_1 : xE (zyEl zymx B H) 75 1 = xE (zyEl zymx B s.heap) 75 1 := xFr_E hFr0 rfl
      have e75_2 : xE (zyEl zymx B H2) 75 2 = xE (zyEl zymx B H) 75 2 := xFr_E hfr rfl
      have q75_2 : xE (zyEl zymx B H) 75 2 = xE (zyEl zymx B s.heap) 75 2 := xFr_E hFr0 rfl
      have e84 : ∀ i, xE (zyEl zymx B H2) 84 i = xE (zyEl zymx B H) 84 i := fun i => xFr_E hfr rfl
      have q84 : ∀ i, xE (zyEl zymx B H) 84 i = xE (zyEl zymx B s.heap) 84 i := fun i => xFr_E hFr0 rfl
      have e75 : ∀ i, xE (zyEl zymx B H2) 75 i = xE (zyEl zymx B H) 75 i := fun i => xFr_E hfr rfl
      have hI : (zyEl zymx B H) = (zyEl zymx B s.heap) := hInv
      have q74_36 : xE (zyEl zymx B H) 74 36 = xE (zyEl zymx B s.heap) 74 36 := by rw [hI]
      have q74_37 : xE (zyEl zymx B H) 74 37 = xE (zyEl zymx B s.heap) 74 37 := by rw [hI]
      have q74_38 : xE (zyEl zymx B H) 74 38 = xE (zyEl zymx B s.heap) 74 38 := by rw [hI]
      have q74_39 : xE (zyEl zymx B H) 74 39 = xE (zyEl zymx B s.heap) 74 39 := by rw [hI]
      have q74_40 : xE (zyEl zymx B H) 74 40 = xE (zyEl zymx B s.heap) 74 40 := by rw [hI]
      have q74_41 : xE (zyEl zymx B H) 74 41 = xE (zyEl zymx B s.heap) 74 41 := by rw [hI]
      have q75 : ∀ i, xE (zyEl zymx B H) 75 i = xE (zyEl zymx B s.heap) 75 i := fun i => by rw [hI]
      obtain ⟨hP1, hP2, hP3, hP4, hP5⟩ := (show xΦpl x0 (zyEl zymx B s.heap) from hΦ)
      have hc : ∀ k, xE (zyEl zymx B H) 75 k = xE (zyEl zymx B s.heap) 75 k := fun k => by rw [hI]
      refine xCa hRu hIH hAt hB hv hFr (hfrd B) (ix := 450) (ax := 5024) rfl rfl rfl hmefrd ⟨_, rfl, rfl, by decide⟩ ⟨rfl, rfl, rfl⟩ (by decide) [] [] [] rfl ⟨rfl, rfl⟩ (by decide +kernel) xcs_n (by decide +kernel) ?_ (fun H3 r hT3 hf3 hFr3 hr3 hΨ3 => ?_)
      · show xΦrd (xfv []) (zyEl zymx B H2)
        unfold xΦrd
        omega
      · have hΨ3 : xΨrd (xfv []) (zyEl zymx B H2) (zyEl zymx B H3) r := hΨ3
        have d74_36 : xE (zyEl zymx B H3) 74 36 = xE (zyEl zymx B H2) 74 36 := xFr_E hf3 rfl
        have d74_37 : xE (zyEl zymx B H3) 74 37 = xE (zyEl zymx B H2) 74 37 := xFr_E hf3 rfl
        have d74_42 : xE (zyEl zymx B H3) 74 42 = xE (zyEl zymx B H2) 74 42 := xFr_E hf3 rfl
        have d75_0 : xE (zyEl zymx B H3) 75 0 = xE (zyEl zymx B H2) 75 0 := xFr_E hf3 rfl
        have d75_1 : xE (zyEl zymx B H3) 75 1 = xE (zyEl zymx B H2) 75 1 := xFr_E hf3 rfl
        have d75_2 : xE (zyEl zymx B H3) 75 2 = xE (zyEl zymx B H2) 75 2 := xFr_E hf3 rfl
        have d84 : ∀ i, xE (zyEl zymx B H3) 84 i = xE (zyEl zymx B H2) 84 i := fun i => xFr_E hf3 rfl
        have d75 : ∀ i, xE (zyEl zymx B H3) 75 i = xE (zyEl zymx B H2) 75 i := fun i => xFr_E hf3 rfl
        have z75_2 : ((0 : Nat) : Int) ≤ xE (zyEl zymx B H3) 75 2 + 2147483648 ∧ xE (zyEl zymx B H3) 75 2 + 2147483648 ≤ ((4294967295 : Nat) : Int) := xTyF hT3 75 2 0 rfl rfl rfl rfl rfl rfl
        unfold xΨrd at hΨ3
        rw [show xE (zyEl zymx B H2) 84 = xE (zyEl zymx B s.heap) 84 from funext fun i => (e84 i).trans (q84 i), show xE (zyEl zymx B H2) 74 42 = xE (zyEl zymx B s.heap) 74 42 by omega, show xE (zyEl zymx B H2) 74 39 = (xE (zyEl zymx B s.heap) 74 39) by omega] at hΨ3
        refine ⟨⟨2, by decide⟩, [0, 0, 0], [0, 0, 0, xE (zyEl zymx B H3) 75 2], rfl, ⟨by decide +kernel, ⟨rfl, by decide +kernel⟩, (xcs_c rfl (xcs_c rfl (xcs_c rfl xcs_n))), (xe_0 (xe_0 (xe_0 (xe_c (by omega) (by omega) rfl xe_n)))), (xkq_c hT3 75 2 (q := 0) rfl rfl rfl rfl rfl rfl rfl rfl rfl rfl rfl xkq_n)⟩, (by rw [if_neg (by decide)]; exact xst_n), ?_, ?_⟩
        · show xE (zyEl zymx B H3) 74 36 = 0 ∧ (∀ k, xE (zyEl zymx B H3) 75 k = xE (zyEl zymx B s.heap) 75 k) ∧ ((1 ≤ xE (zyEl zymx B s.heap) 75 0 ∧ xE (zyEl zymx B s.heap) 75 0 ≤ 4) ∧ (1 ≤ xE (zyEl zymx B s.heap) 75 1 ∧ xE (zyEl zymx B s.heap) 75 1 ≤ 5)) ∧ (0 ≤ xE (zyEl zymx B s.heap) 75 2 ∧ xE (zyEl zymx B s.heap) 75 2 ≤ 8) ∧ ((xE (zyEl zymx B s.heap) 74 39)) ≤ (xE (zyEl zymx B s.heap) 74 42) ∧ xRD (xE (zyEl zymx B s.heap) 84) (xE (zyEl zymx B s.heap) 74 42) ((xE (zyEl zymx B s.heap) 74 39)) (zyEl zymx B H3)
          exact ⟨by omega, fun k => (d75 k).trans ((e75 k).trans (hc k)), ⟨hP3, hP4⟩, hP5, hP2, hΨ3⟩
        · show 7 < 8
          omega
    · have hx : x ∈ [zxfpl_bx0] := hx
      have hag : ∀ k, k < 4 → v2 k = v k := hag
      have hfr : xFr [] _ _ := hfr
      have ex := List.mem_singleton.mp hx
      subst ex
      obtain ⟨hF, hBd, hM⟩ := hXs
      have g3 : v2 3 = v 3 := hag 3 (by decide)
      have b0 : ((2147483648 : Nat) : Int) ≤ (v2 3) + 2147483648 ∧ (v2 3) + 2147483648 ≤ ((2147483656 : Nat) : Int) := xXb hBd 0 rfl
      have b1 : ((2147483647 : Nat) : Int) ≤ (v2 3 + (-1)) + 2147483648 ∧ (v2 3 + (-1)) + 2147483648 ≤ ((2147483655 : Nat) : Int) := xXb hBd 1 rfl
      have k0 : xE (zyEl zymx B H) 75 2 = v 3 := xKcf hKc 0 rfl rfl
      have e74_36 : xE (zyEl zymx B H2) 74 36 = xE (zyEl zymx B H) 74 36 := xFr_E hfr rfl
      have e74_37 : xE (zyEl zymx B H2) 74 37 = xE (zyEl zymx B H) 74 37 := xFr_E hfr rfl
      have e74_38 : xE (zyEl zymx B H2) 74 38 = xE (zyEl zymx B H) 74 38 := xFr_E hfr rfl
      have e74_39 : xE (zyEl zymx B H2) 74 39 = xE (zyEl zymx B H) 74 39 := xFr_E hfr rfl
      have e74_40 : xE (zyEl zymx B H2) 74 40 = xE (zyEl zymx B H) 74 40 := xFr_E hfr rfl
      have e74_41 : xE (zyEl zymx B H2) 74 41 = xE (zyEl zymx B H) 74 41 := xFr_E hfr rfl
      have e74_42 : xE (zyEl zymx B H2) 74 42 = xE (zyEl zymx B H) 74 42 := xFr_E hfr rfl
      have q74_42 : xE (zyEl zymx B H) 74 42 = xE (zyEl zymx B s.heap) 74 42 := xFr_E hFr0 rfl
      have e75_0 : xE (zyEl zymx B H2) 75 0 = xE (zyEl zymx B H) 75 0 := xFr_E hfr rfl
      have q75_0 : xE (zyEl zymx B H) 75 0 = xE (zyEl zymx B s.heap) 75 0 := xFr_E hFr0 rfl
      have e75_1 : xE (zyEl zymx B H2) 75 1 = xE (zyEl zymx B H) 75 1 := xFr_E hfr rfl
      have q75_1 : xE (zyEl zymx B H) 75 1 = xE (zyEl zymx B s.heap) 75 1 := xFr_E hFr0 rfl
      have e75_2 : xE (zyEl zymx B H2) 75 2 = xE (zyEl zymx B H) 75 2 := xFr_E hfr rfl
      have q75_2 : xE (zyEl zymx B H) 75 2 = xE (zyEl zymx B s.heap) 75 2 := xFr_E hFr0 rfl
      have e84 : ∀ i, xE (zyEl zymx B H2) 84 i = xE (zyEl zymx B H) 84 i := fun i => xFr_E hfr rfl
      have q84 : ∀ i, xE (zyEl zymx B H) 84 i = xE (zyEl zymx B s.heap) 84 i := fun i => xFr_E hFr0 rfl
      have e75 : ∀ i, xE (zyEl zymx B H2) 75 i = xE (zyEl zymx B H) 75 i := fun i => xFr_E hfr rfl
      have hI : xE (zyEl zymx B H) 74 36 = 0 ∧ (∀ k, xE (zyEl zymx B H) 75 k = xE (zyEl zymx B s.heap) 75 k) ∧ ((1 ≤ xE (zyEl zymx B s.heap) 75 0 ∧ xE (zyEl zymx B s.heap) 75 0 ≤ 4) ∧ (1 ≤ xE (zyEl zymx B s.heap) 75 1 ∧ xE (zyEl zymx B s.heap) 75 1 ≤ 5)) ∧ (0 ≤ xE (zyEl zymx B s.heap) 75 2 ∧ xE (zyEl zymx B s.heap) 75 2 ≤ 8) ∧ ((xE (zyEl zymx B s.heap) 74 39)) ≤ (xE (zyEl zymx B s.heap) 74 42) ∧ xRD (xE (zyEl zymx B s.heap) 84) (xE (zyEl zymx B s.heap) 74 42) ((xE (zyEl zymx B s.heap) 74 39)) (zyEl zymx B H) := hInv
      obtain ⟨i1, hc, hrc, h28, hp, hs⟩ := hI
      have hEE : (zyEl zymx B H2) = (zyEl zymx B H) := xFr_n hfr
      have hs2 : xRD (xE (zyEl zymx B s.heap) 84) (xE (zyEl zymx B s.heap) 74 42) (xE (zyEl zymx B s.heap) 74 39) (zyEl zymx B H2) := by rw [hEE]; exact hs
      have h752 := hc 2
      obtain ⟨s1, s1b, s2, s3, s4, s5, s6, s7, s8⟩ := xRD_i hs2 hp
      have ehi : (v2 3 + (-1)) = xE (zyEl zymx B s.heap) 75 2 - 1 := by omega
      refine xCa hRu hIH hAt hB hv hFr (hftm B) (ix := 456) (ax := 5120) rfl rfl rfl hmeftm ⟨_, rfl, rfl, by decide⟩ ⟨rfl, rfl, rfl⟩ (by decide) [0, 137438953465] [] [0, (v2 3 + (-1))] rfl ⟨rfl, rfl⟩ (by decide +kernel) (xcs_c rfl (xcs_c rfl xcs_n)) (by decide +kernel) ?_ (fun H3 r hT3 hf3 hFr3 hr3 hΨ3 => ?_)
      · show xΦtm (xfv [0, (v2 3 + (-1))]) (zyEl zymx B H2)
        intro q1 q2
        omega
      · have hΨ3 : xΨtm (xfv [0, (v2 3 + (-1))]) (zyEl zymx B H2) (zyEl zymx B H3) r := hΨ3
        have d74_42 : xE (zyEl zymx B H3) 74 42 = xE (zyEl zymx B H2) 74 42 := xFr_E hf3 rfl
        have d75_0 : xE (zyEl zymx B H3) 75 0 = xE (zyEl zymx B H2) 75 0 := xFr_E hf3 rfl
        have d75_1 : xE (zyEl zymx B H3) 75 1 = xE (zyEl zymx B H2) 75 1 := xFr_E hf3 rfl
        have d75_2 : xE (zyEl zymx B H3) 75 2 = xE (zyEl zymx B H2) 75 2 := xFr_E hf3 rfl
        have d84 : ∀ i, xE (zyEl zymx B H3) 84 i = xE (zyEl zymx B H2) 84 i := fun i => xFr_E hf3 rfl
        have d75 : ∀ i, xE (zyEl zymx B H3) 75 i = xE (zyEl zymx B H2) 75 i := fun i => xFr_E hf3 rfl
        have z75_0 : ((0 : Nat) : Int) ≤ xE (zyEl zymx B H3) 75 0 + 2147483648 ∧ xE (zyEl zymx B H3) 75 0 + 2147483648 ≤ ((4294967295 : Nat) : Int) := xTyF hT3 75 0 0 rfl rfl rfl rfl rfl rfl
        have z75_1 : ((0 : Nat) : Int) ≤ xE (zyEl zymx B H3) 75 1 + 2147483648 ∧ xE (zyEl zymx B H3) 75 1 + 2147483648 ≤ ((4294967295 : Nat) : Int) := xTyF hT3 75 1 0 rfl rfl rfl rfl rfl rfl
        have hg : (xE (zyEl zymx B H3) 74 36 = 0 ∧ xRD (xE (zyEl zymx B s.heap) 84) (xE (zyEl zymx B s.heap) 74 42) (tNx (xE (zyEl zymx B s.heap) 84) (xE (zyEl zymx B s.heap) 74 42) (xE (zyEl zymx B s.heap) 74 39)) (zyEl zymx B H3) ∧ tNx (xE (zyEl zymx B s.heap) 84) (xE (zyEl zymx B s.heap) 74 42) (xE (zyEl zymx B s.heap) 74 39) ≤ (xE (zyEl zymx B s.heap) 74 42) ∧ (xE (zyEl zymx B s.heap) 74 39) < tNx (xE (zyEl zymx B s.heap) 84) (xE (zyEl zymx B s.heap) 74 42) (xE (zyEl zymx B s.heap) 74 39) ∧ 0 ≤ r ∧ r ≤ (v2 3 + (-1)) ∧ ∀ k, pNum (xE (zyEl zymx B s.heap) 84) (xE (zyEl zymx B s.heap) 74 42) (xE (zyEl zymx B s.heap) 74 39) 0 (v2 3 + (-1)) k = k r (tNx (xE (zyEl zymx B s.heap) 84) (xE (zyEl zymx B s.heap) 74 42) (xE (zyEl zymx B s.heap) 74 39))) ∨ (∀ k, xEr (zyEl zymx B H3) (pNum (xE (zyEl zymx B s.heap) 84) (xE (zyEl zymx B s.heap) 74 42) (xE (zyEl zymx B s.heap) 74 39) 0 (v2 3 + (-1)) k)) := xTm_g (x := xfv [0, (v2 3 + (-1))]) hΨ3 (by omega) hs2 hp (fun i => (e84 i).trans (q84 i)) (by omega)
        rw [ehi] at hg
        refine ⟨⟨3, by decide⟩, [0, 0, 0], [0, 0, 0, xE (zyEl zymx B H3) 75 0, xE (zyEl zymx B H3) 75 1, r], rfl, ⟨by decide +kernel, ⟨rfl, by decide +kernel⟩, (xcs_c rfl (xcs_c rfl (xcs_c rfl xcs_n))), (xe_0 (xe_0 (xe_0 (xe_c (by omega) (by omega) rfl (xe_c (by omega) (by omega) rfl (xe_f (by omega) xe_n)))))), (xkq_c hT3 75 0 (q := 0) rfl rfl rfl rfl rfl rfl rfl rfl rfl rfl rfl (xkq_c hT3 75 1 (q := 0) rfl rfl rfl rfl rfl rfl rfl rfl rfl rfl rfl xkq_n))⟩, (by rw [if_pos rfl]; exact ⟨5, [], rfl, by decide, rfl, xst_n⟩), ?_, ?_⟩
        · show (∀ k, xE (zyEl zymx B H3) 75 k = xE (zyEl zymx B s.heap) 75 k) ∧ ((1 ≤ xE (zyEl zymx B s.heap) 75 0 ∧ xE (zyEl zymx B s.heap) 75 0 ≤ 4) ∧ (1 ≤ xE (zyEl zymx B s.heap) 75 1 ∧ xE (zyEl zymx B s.heap) 75 1 ≤ 5)) ∧ (xE (zyEl zymx B H3) 74 36 = 0 → (0 ≤ (r : Int) ∧ (r : Int) ≤ 7) ∧ (tNx (xE (zyEl zymx B s.heap) 84) (xE (zyEl zymx B s.heap) 74 42) (xE (zyEl zymx B s.heap) 74 39)) ≤ (xE (zyEl zymx B s.heap) 74 42) ∧ xRD (xE (zyEl zymx B s.heap) 84) (xE (zyEl zymx B s.heap) 74 42) (tNx (xE (zyEl zymx B s.heap) 84) (xE (zyEl zymx B s.heap) 74 42) (xE (zyEl zymx B s.heap) 74 39)) (zyEl zymx B H3) ∧ pPlace (xE (zyEl zymx B s.heap) 84) (xE (zyEl zymx B s.heap) 74 42) (xE (zyEl zymx B s.heap) 74 39) (xE (zyEl zymx B s.heap) 75) = pNum (xE (zyEl zymx B s.heap) 84) (xE (zyEl zymx B s.heap) 74 42) (tNx (xE (zyEl zymx B s.heap) 84) (xE (zyEl zymx B s.heap) 74 42) (xE (zyEl zymx B s.heap) 74 39)) 0 (sN (xE (zyEl zymx B s.heap) 75 0) (xE (zyEl zymx B s.heap) 75 1) - 1) (fun sl p2 => .ok (p2, uS (xE (zyEl zymx B s.heap) 75) (152 + (r : Int)) sl))) ∧ (¬ xE (zyEl zymx B H3) 74 36 = 0 → xEr (zyEl zymx B H3) (pPlace (xE (zyEl zymx B s.heap) 84) (xE (zyEl zymx B s.heap) 74 42) (xE (zyEl zymx B s.heap) 74 39) (xE (zyEl zymx B s.heap) 75)))
          refine ⟨fun k => (d75 k).trans ((e75 k).trans (hc k)), hrc, fun hz => ?_, fun hz => ?_⟩
          · rcases hg with ⟨h1, h2, h3, h4, h5, h6, h7⟩ | he
            · refine ⟨by omega, h3, h2, ?_⟩
              unfold pPlace
              exact h7 _
            · exact (xEr_1 (he (fun _ _ => .error (0, 0))) hz).elim
          · rcases hg with ⟨h1, h2, h3, h4, h5, h6, h7⟩ | he
            · exact absurd h1 hz
            · unfold pPlace
              exact he _
        · show 6 < 7
          omega
    · have hx : x ∈ [zxfpl_cx0] := hx
      have hag : ∀ k, k < 6 → v2 k = v k := hag
      have hfr : xFr [] _ _ := hfr
      have ex := List.mem_singleton.mp hx
      subst ex
      obtain ⟨hF, hBd, hM⟩ := hXs
      have r5 := hr2 5
      have g3 : v2 3 = v 3 := hag 3 (by decide)
      have g4 : v2 4 = v 4 := hag 4 (by decide)
      have g5 : v2 5 = v 5 := hag 5 (by decide)
      have b0 : ((2147483649 : Nat) : Int) ≤ (v2 3) + 2147483648 ∧ (v2 3) + 2147483648 ≤ ((2147483652 : Nat) : Int) := xXb hBd 0 rfl
      have b1 : ((2147483649 : Nat) : Int) ≤ (v2 4) + 2147483648 ∧ (v2 4) + 2147483648 ≤ ((2147483653 : Nat) : Int) := xXb hBd 1 rfl
      have b2 : ((2147483652 : Nat) : Int) ≤ (v2 6) + 2147483648 ∧ (v2 6) + 2147483648 ≤ ((2147483664 : Nat) : Int) := xXb hBd 2 rfl
      have b3 : ((2147483652 : Nat) : Int) ≤ (v2 7) + 2147483648 ∧ (v2 7) + 2147483648 ≤ ((2147483728 : Nat) : Int) := xXb hBd 3 rfl
      have b4 : ((2147483651 : Nat) : Int) ≤ (v2 7 + (-1)) + 2147483648 ∧ (v2 7 + (-1)) + 2147483648 ≤ ((2147483727 : Nat) : Int) := xXb hBd 4 rfl
      have k0 : xE (zyEl zymx B H) 75 0 = v 3 := xKcf hKc 0 rfl rfl
      have k1 : xE (zyEl zymx B H) 75 1 = v 4 := xKcf hKc 1 rfl rfl
      have f0 : -2147483648 ≤ 4 * (v2 3) → 4 * (v2 3) < 2147483648 → (v2 6) = 4 * (v2 3) := xXf hF 0 rfl
      have f0 := f0 (by omega) (by omega)
      have f1 : -2147483648 ≤ (v2 6) * (v2 4) → (v2 6) * (v2 4) < 2147483648 → (v2 7) = (v2 6) * (v2 4) := xXf hF 1 rfl
      have e74_36 : xE (zyEl zymx B H2) 74 36 = xE (zyEl zymx B H) 74 36 := xFr_E hfr rfl
      have e74_37 : xE (zyEl zymx B H2) 74 37 = xE (zyEl zymx B H) 74 37 := xFr_E hfr rfl
      have e74_38 : xE (zyEl zymx B H2) 74 38 = xE (zyEl zymx B H) 74 38 := xFr_E hfr rfl
      have e74_39 : xE (zyEl zymx B H2) 74 39 = xE (zyEl zymx B H) 74 39 := xFr_E hfr rfl
      have e74_40 : xE (zyEl zymx B H2) 74 40 = xE (zyEl zymx B H) 74 40 := xFr_E hfr rfl
      have e74_41 : xE (zyEl zymx B H2) 74 41 = xE (zyEl zymx B H) 74 41 := xFr_E hfr rfl
      have e74_42 : xE (zyEl zymx B H2) 74 42 = xE (zyEl zymx B H) 74 42 := xFr_E hfr rfl
      have q74_42 : xE (zyEl zymx B H) 74 42 = xE (zyEl zymx B s.heap) 74 42 := xFr_E hFr0 rfl
      have e75_0 : xE (zyEl zymx B H2) 75 0 = xE (zyEl zymx B H) 75 0 := xFr_E hfr rfl
      have q75_0 : xE (zyEl zymx B H) 75 0 = xE (zyEl zymx B s.heap) 75 0 := xFr_E hFr0 rfl
      have e75_1 : xE (zyEl zymx B H2) 75 1 = xE (zyEl zymx B H) 75 1 := xFr_E hfr rfl
      have q75_1 : xE (zyEl zymx B H) 75 1 = xE (zyEl zymx B s.heap) 75 1 := xFr_E hFr0 rfl
      have e75_2 : xE (zyEl zymx B H2) 75 2 = xE (zyEl zymx B H) 75 2 := xFr_E hfr rfl
      have q75_2 : xE (zyEl zymx B H) 75 2 = xE (zyEl zymx B s.heap) 75 2 := xFr_E hFr0 rfl
      have e84 : ∀ i, xE (zyEl zymx B H2) 84 i = xE (zyEl zymx B H) 84 i := fun i => xFr_E hfr rfl
      have q84 : ∀ i, xE (zyEl zymx B H) 84 i = xE (zyEl zymx B s.heap) 84 i := fun i => xFr_E hFr0 rfl
      have e75 : ∀ i, xE (zyEl zymx B H2) 75 i = xE (zyEl zymx B H) 75 i := fun i => xFr_E hfr rfl
      have hI : (∀ k, xE (zyEl zymx B H) 75 k = xE (zyEl zymx B s.heap) 75 k) ∧ ((1 ≤ xE (zyEl zymx B s.heap) 75 0 ∧ xE (zyEl zymx B s.heap) 75 0 ≤ 4) ∧ (1 ≤ xE (zyEl zymx B s.heap) 75 1 ∧ xE (zyEl zymx B s.heap) 75 1 ≤ 5)) ∧ (xE (zyEl zymx B H) 74 36 = 0 → (0 ≤ (v 5) ∧ (v 5) ≤ 7) ∧ (tNx (xE (zyEl zymx B s.heap) 84) (xE (zyEl zymx B s.heap) 74 42) (xE (zyEl zymx B s.heap) 74 39)) ≤ (xE (zyEl zymx B s.heap) 74 42) ∧ xRD (xE (zyEl zymx B s.heap) 84) (xE (zyEl zymx B s.heap) 74 42) (tNx (xE (zyEl zymx B s.heap) 84) (xE (zyEl zymx B s.heap) 74 42) (xE (zyEl zymx B s.heap) 74 39)) (zyEl zymx B H) ∧ pPlace (xE (zyEl zymx B s.heap) 84) (xE (zyEl zymx B s.heap) 74 42) (xE (zyEl zymx B s.heap) 74 39) (xE (zyEl zymx B s.heap) 75) = pNum (xE (zyEl zymx B s.heap) 84) (xE (zyEl zymx B s.heap) 74 42) (tNx (xE (zyEl zymx B s.heap) 84) (xE (zyEl zymx B s.heap) 74 42) (xE (zyEl zymx B s.heap) 74 39)) 0 (sN (xE (zyEl zymx B s.heap) 75 0) (xE (zyEl zymx B s.heap) 75 1) - 1) (fun sl p2 => .ok (p2, uS (xE (zyEl zymx B s.heap) 75) (152 + (v 5)) sl))) ∧ (¬ xE (zyEl zymx B H) 74 36 = 0 → xEr (zyEl zymx B H) (pPlace (xE (zyEl zymx B s.heap) 84) (xE (zyEl zymx B s.heap) 74 42) (xE (zyEl zymx B s.heap) 74 39) (xE (zyEl zymx B s.heap) 75))) := hInv
      obtain ⟨hc, ⟨hr, hcc⟩, i1, i2⟩ := hI
      have hEE : (zyEl zymx B H2) = (zyEl zymx B H) := xFr_n hfr
      have h750 := hc 0
      have h751 := hc 1
      obtain ⟨w1, w2, w3⟩ := sN_of (r := xE (zyEl zymx B s.heap) 75 0) (c := (v2 4)) (A := (v2 6)) (by omega) (by omega) (by omega) f1
      rw [show (v2 4) = xE (zyEl zymx B s.heap) 75 1 by omega] at w1
      have ehi : (v2 7 + (-1)) = sN (xE (zyEl zymx B s.heap) 75 0) (xE (zyEl zymx B s.heap) 75 1) - 1 := by omega
      refine xCa hRu hIH hAt hB hv hFr (hftm B) (ix := 456) (ax := 5120) rfl rfl rfl hmeftm ⟨_, rfl, rfl, by decide⟩ ⟨rfl, rfl, rfl⟩ (by decide) [0, 274877906937] [] [0, (v2 7 + (-1))] rfl ⟨rfl, rfl⟩ (by decide +kernel) (xcs_c rfl (xcs_c rfl xcs_n)) (by decide +kernel) ?_ (fun H3 r hT3 hf3 hFr3 hr3 hΨ3 => ?_)
      · show xΦtm (xfv [0, (v2 7 + (-1))]) (zyEl zymx B H2)
        intro q1 q2
        obtain ⟨j1, j2, j3, j4⟩ := i1 (by omega)
        obtain ⟨s1, s1b, s2, s3, s4, s5, s6, s7, s8⟩ := xRD_i j3 j2
        omega
      · have hΨ3 : xΨtm (xfv [0, (v2 7 + (-1))]) (zyEl zymx B H2) (zyEl zymx B H3) r := hΨ3
        have d74_42 : xE (zyEl zymx B H3) 74 42 = xE (zyEl zymx B H2) 74 42 := xFr_E hf3 rfl
        have d75_0 : xE (zyEl zymx B H3) 75 0 = xE (zyEl zymx B H2) 75 0 := xFr_E hf3 rfl
        have d75_1 : xE (zyEl zymx B H3) 75 1 = xE (zyEl zymx B H2) 75 1 := xFr_E hf3 rfl
        have d75_2 : xE (zyEl zymx B H3) 75 2 = xE (zyEl zymx B H2) 75 2 := xFr_E hf3 rfl
        have d84 : ∀ i, xE (zyEl zymx B H3) 84 i = xE (zyEl zymx B H2) 84 i := fun i => xFr_E hf3 rfl
        have d75 : ∀ i, xE (zyEl zymx B H3) 75 i = xE (zyEl zymx B H2) 75 i := fun i => xFr_E hf3 rfl
        have z74_36 : ((2147483648 : Nat) : Int) ≤ xE (zyEl zymx B H3) 74 36 + 2147483648 ∧ xE (zyEl zymx B H3) 74 36 + 2147483648 ≤ ((2147483657 : Nat) : Int) := xTyF hT3 74 36 36 rfl rfl rfl rfl rfl rfl
        have hg : ∀ p, xE (zyEl zymx B H2) 74 36 = 0 → p ≤ (xE (zyEl zymx B s.heap) 74 42) → xRD (xE (zyEl zymx B s.heap) 84) (xE (zyEl zymx B s.heap) 74 42) p (zyEl zymx B H2) → (xE (zyEl zymx B H3) 74 36 = 0 ∧ xRD (xE (zyEl zymx B s.heap) 84) (xE (zyEl zymx B s.heap) 74 42) (tNx (xE (zyEl zymx B s.heap) 84) (xE (zyEl zymx B s.heap) 74 42) p) (zyEl zymx B H3) ∧ tNx (xE (zyEl zymx B s.heap) 84) (xE (zyEl zymx B s.heap) 74 42) p ≤ (xE (zyEl zymx B s.heap) 74 42) ∧ p < tNx (xE (zyEl zymx B s.heap) 84) (xE (zyEl zymx B s.heap) 74 42) p ∧ 0 ≤ r ∧ r ≤ (v2 7 + (-1)) ∧ ∀ k, pNum (xE (zyEl zymx B s.heap) 84) (xE (zyEl zymx B s.heap) 74 42) p 0 (v2 7 + (-1)) k = k r (tNx (xE (zyEl zymx B s.heap) 84) (xE (zyEl zymx B s.heap) 74 42) p)) ∨ (∀ k, xEr (zyEl zymx B H3) (pNum (xE (zyEl zymx B s.heap) 84) (xE (zyEl zymx B s.heap) 74 42) p 0 (v2 7 + (-1)) k)) := fun p hw hp hs => xTm_g (x := xfv [0, (v2 7 + (-1))]) hΨ3 hw hs hp (fun i => (e84 i).trans (q84 i)) (by omega)
        have hge : ¬ xE (zyEl zymx B H2) 74 36 = 0 → xE (zyEl zymx B H3) 74 36 = xE (zyEl zymx B H2) 74 36 ∧ xE (zyEl zymx B H3) 74 37 = xE (zyEl zymx B H2) 74 37 := fun hw => xTm_e (x := xfv [0, (v2 7 + (-1))]) hΨ3 hw
        rw [ehi] at hg
        refine ⟨⟨4, by decide⟩, [0, 171798691841, 0], [0, (v2 5), 0, xE (zyEl zymx B H3) 74 36, r], rfl, ⟨by decide +kernel, ⟨rfl, by decide +kernel⟩, (xcs_c rfl (xcs_c rfl (xcs_c rfl xcs_n))), (xe_0 (xe_f (by omega) (xe_0 (xe_c (by omega) (by omega) rfl (xe_f (by omega) xe_n))))), (xkq_c hT3 74 36 (q := 36) rfl rfl rfl rfl rfl rfl rfl rfl rfl rfl rfl xkq_n)⟩, (by rw [if_pos rfl]; exact ⟨4, [], rfl, by decide, rfl, xst_n⟩), ?_, ?_⟩
        · show (∀ k, xE (zyEl zymx B H3) 75 k = xE (zyEl zymx B s.heap) 75 k) ∧ (xE (zyEl zymx B H3) 74 36 = 0 → (0 ≤ ((v2 5) : Int) ∧ ((v2 5) : Int) ≤ 7) ∧ ∃ p, (p) ≤ (xE (zyEl zymx B s.heap) 74 42) ∧ xRD (xE (zyEl zymx B s.heap) 84) (xE (zyEl zymx B s.heap) 74 42) (p) (zyEl zymx B H3) ∧ pPlace (xE (zyEl zymx B s.heap) 84) (xE (zyEl zymx B s.heap) 74 42) (xE (zyEl zymx B s.heap) 74 39) (xE (zyEl zymx B s.heap) 75) = .ok (p, uS (xE (zyEl zymx B s.heap) 75) (152 + ((v2 5) : Int)) (r : Int))) ∧ (¬ xE (zyEl zymx B H3) 74 36 = 0 → xEr (zyEl zymx B H3) (pPlace (xE (zyEl zymx B s.heap) 84) (xE (zyEl zymx B s.heap) 74 42) (xE (zyEl zymx B s.heap) 74 39) (xE (zyEl zymx B s.heap) 75)))
          refine ⟨fun k => (d75 k).trans ((e75 k).trans (hc k)), fun hz => ?_, fun hz => ?_⟩
          · by_cases hw : xE (zyEl zymx B H2) 74 36 = 0
            · obtain ⟨j1, j2, j3, j4⟩ := i1 (by omega)
              rcases hg _ hw j2 (by rw [hEE]; exact j3) with ⟨h1, h2, h3, h4, h5, h6, h7⟩ | he
              · refine ⟨by omega, _, h3, h2, ?_⟩
                rw [j4, h7, show v2 5 = v 5 by omega]
              · exact (xEr_1 (he (fun _ _ => .error (0, 0))) hz).elim
            · have := hge hw
              omega
          · by_cases hw : xE (zyEl zymx B H2) 74 36 = 0
            · obtain ⟨j1, j2, j3, j4⟩ := i1 (by omega)
              rcases hg _ hw j2 (by rw [hEE]; exact j3) with ⟨h1, h2, h3, h4, h5, h6, h7⟩ | he
              · exact absurd h1 hz
              · rw [j4]
                exact he _
            · have := hge hw
              exact xEr_k (i2 (by omega)) (by omega) (by omega)
        · show 5 < 6
          omega
    · have hx : x ∈ [zxfpl_dx0] := hx
      have hag : ∀ k, k < 5 → v2 k = v k := hag
      have hfr : xFr [] _ _ := hfr
      have ex := List.mem_singleton.mp hx
      subst ex
      obtain ⟨hF, hBd, hM⟩ := hXs
      have r1 := hr2 1
      have r4 := hr2 4
      have g1 : v2 1 = v 1 := hag 1 (by decide)
      have g3 : v2 3 = v 3 := hag 3 (by decide)
      have g4 : v2 4 = v 4 := hag 4 (by decide)
      have b0 : ((2147483648 : Nat) : Int) ≤ (v2 3) + 2147483648 ∧ (v2 3) + 2147483648 ≤ ((2147483648 : Nat) : Int) := xXb hBd 0 rfl
      have k0 : xE (zyEl zymx B H) 74 36 = v 3 := xKcf hKc 0 rfl rfl
      have f0 : (v2 3) = 0 := xXf hF 0 rfl
      have e74_36 : xE (zyEl zymx B H2) 74 36 = xE (zyEl zymx B H) 74 36 := xFr_E hfr rfl
      have e74_37 : xE (zyEl zymx B H2) 74 37 = xE (zyEl zymx B H) 74 37 := xFr_E hfr rfl
      have e74_38 : xE (zyEl zymx B H2) 74 38 = xE (zyEl zymx B H) 74 38 := xFr_E hfr rfl
      have e74_39 : xE (zyEl zymx B H2) 74 39 = xE (zyEl zymx B H) 74 39 := xFr_E hfr rfl
      have e74_40 : xE (zyEl zymx B H2) 74 40 = xE (zyEl zymx B H) 74 40 := xFr_E hfr rfl
      have e74_41 : xE (zyEl zymx B H2) 74 41 = xE (zyEl zymx B H) 74 41 := xFr_E hfr rfl
      have e74_42 : xE (zyEl zymx B H2) 74 42 = xE (zyEl zymx B H) 74 42 := xFr_E hfr rfl
      have q74_42 : xE (zyEl zymx B H) 74 42 = xE (zyEl zymx B s.heap) 74 42 := xFr_E hFr0 rfl
      have e75_0 : xE (zyEl zymx B H2) 75 0 = xE (zyEl zymx B H) 75 0 := xFr_E hfr rfl
      have q75_0 : xE (zyEl zymx B H) 75 0 = xE (zyEl zymx B s.heap) 75 0 := xFr_E hFr0 rfl
      have e75_1 : xE (zyEl zymx B H2) 75 1 = xE (zyEl zymx B H) 75 1 := xFr_E hfr rfl
      have q75_1 : xE (zyEl zymx B H) 75 1 = xE (zyEl zymx B s.heap) 75 1 := xFr_E hFr0 rfl
      have e75_2 : xE (zyEl zymx B H2) 75 2 = xE (zyEl zymx B H) 75 2 := xFr_E hfr rfl
      have q75_2 : xE (zyEl zymx B H) 75 2 = xE (zyEl zymx B s.heap) 75 2 := xFr_E hFr0 rfl
      have e84 : ∀ i, xE (zyEl zymx B H2) 84 i = xE (zyEl zymx B H) 84 i := fun i => xFr_E hfr rfl
      have q84 : ∀ i, xE (zyEl zymx B H) 84 i = xE (zyEl zymx B s.heap) 84 i := fun i => xFr_E hFr0 rfl
      have e75 : ∀ i, xE (zyEl zymx B H2) 75 i = xE (zyEl zymx B H) 75 i := fun i => xFr_E hfr rfl
      have hI : (∀ k, xE (zyEl zymx B H) 75 k = xE (zyEl zymx B s.heap) 75 k) ∧ (xE (zyEl zymx B H) 74 36 = 0 → (0 ≤ (v 1) ∧ (v 1) ≤ 7) ∧ ∃ p, (p) ≤ (xE (zyEl zymx B s.heap) 74 42) ∧ xRD (xE (zyEl zymx B s.heap) 84) (xE (zyEl zymx B s.heap) 74 42) (p) (zyEl zymx B H) ∧ pPlace (xE (zyEl zymx B s.heap) 84) (xE (zyEl zymx B s.heap) 74 42) (xE (zyEl zymx B s.heap) 74 39) (xE (zyEl zymx B s.heap) 75) = .ok (p, uS (xE (zyEl zymx B s.heap) 75) (152 + (v 1)) (v 4))) ∧ (¬ xE (zyEl zymx B H) 74 36 = 0 → xEr (zyEl zymx B H) (pPlace (xE (zyEl zymx B s.heap) 84) (xE (zyEl zymx B s.heap) 74 42) (xE (zyEl zymx B s.heap) 74 39) (xE (zyEl zymx B s.heap) 75))) := hInv
      obtain ⟨hc, i1, i2⟩ := hI
      have hEE : (zyEl zymx B H2) = (zyEl zymx B H) := xFr_n hfr
      obtain ⟨j1, p, hp, hs, j2⟩ := i1 (by omega)
      refine xGo hIH hAt hB hv hFr ⟨5, by decide⟩ [0, 34359738369, 137438953473] [0, (v2 1), (v2 4)] rfl ⟨by decide +kernel, ⟨rfl, by decide +kernel⟩, (xcs_c rfl (xcs_c rfl (xcs_c rfl xcs_n))), (xe_0 (xe_c (by omega) (by omega) rfl (xe_f (by omega) xe_n))), xkq_n⟩ xst_n ?_ ?_
      · show xE (zyEl zymx B H2) 74 36 = 0 ∧ (∀ k, xE (zyEl zymx B H2) 75 k = xE (zyEl zymx B s.heap) 75 k) ∧ ∃ p, (p) ≤ (xE (zyEl zymx B s.heap) 74 42) ∧ xRD (xE (zyEl zymx B s.heap) 84) (xE (zyEl zymx B s.heap) 74 42) (p) (zyEl zymx B H2) ∧ pPlace (xE (zyEl zymx B s.heap) 84) (xE (zyEl zymx B s.heap) 74 42) (xE (zyEl zymx B s.heap) 74 39) (xE (zyEl zymx B s.heap) 75) = .ok (p, uS (xE (zyEl zymx B s.heap) 75) (152 + ((v2 1) : Int)) ((v2 4) : Int))
        rw [hEE]
        rw [show v 1 = v2 1 by omega, show v 4 = v2 4 by omega] at j2
        exact ⟨by omega, hc, p, hp, hs, j2⟩
      · show 4 < 5
        omega
    · have hx : x ∈ [zxfpl_d2x0] := hx
      have hag : ∀ k, k < 3 → v2 k = v k := hag
      have hfr : xFr [] _ _ := hfr
      have ex := List.mem_singleton.mp hx
      subst ex
      obtain ⟨hF, hBd, hM⟩ := hXs
      have r2 := hr2 2
      have g1 : v2 1 = v 1 := hag 1 (by decide)
      have g2 : v2 2 = v 2 := hag 2 (by decide)
      have b0 : ((2147483648 : Nat) : Int) ≤ (v2 1) + 2147483648 ∧ (v2 1) + 2147483648 ≤ ((2147483655 : Nat) : Int) := xXb hBd 0 rfl
      have b1 : ((2147483800 : Nat) : Int) ≤ (v2 1 + 152) + 2147483648 ∧ (v2 1 + 152) + 2147483648 ≤ ((2147483807 : Nat) : Int) := xXb hBd 1 rfl
      have e74_36 : xE (zyEl zymx B H2) 74 36 = xE (zyEl zymx B H) 74 36 := xFr_E hfr rfl
      have e74_37 : xE (zyEl zymx B H2) 74 37 = xE (zyEl zymx B H) 74 37 := xFr_E hfr rfl
      have e74_38 : xE (zyEl zymx B H2) 74 38 = xE (zyEl zymx B H) 74 38 := xFr_E hfr rfl
      have e74_39 : xE (zyEl zymx B H2) 74 39 = xE (zyEl zymx B H) 74 39 := xFr_E hfr rfl
      have e74_40 : xE (zyEl zymx B H2) 74 40 = xE (zyEl zymx B H) 74 40 := xFr_E hfr rfl
      have e74_41 : xE (zyEl zymx B H2) 74 41 = xE (zyEl zymx B H) 74 41 := xFr_E hfr rfl
      have e74_42 : xE (zyEl zymx B H2) 74 42 = xE (zyEl zymx B H) 74 42 := xFr_E hfr rfl
      have q74_42 : xE (zyEl zymx B H) 74 42 = xE (zyEl zymx B s.heap) 74 42 := xFr_E hFr0 rfl
      have e75_0 : xE (zyEl zymx B H2) 75 0 = xE (zyEl zymx B H) 75 0 := xFr_E hfr rfl
      have q75_0 : xE (zyEl zymx B H) 75 0 = xE (zyEl zymx B s.heap) 75 0 := xFr_E hFr0 rfl
      have e75_1 : xE (zyEl zymx B H2) 75 1 = xE (zyEl zymx B H) 75 1 := xFr_E hfr rfl
      have q75_1 : xE (zyEl zymx B H) 75 1 = xE (zyEl zymx B s.heap) 75 1 := xFr_E hFr0 rfl
      have e75_2 : xE (zyEl zymx B H2) 75 2 = xE (zyEl zymx B H) 75 2 := xFr_E hfr rfl
      have q75_2 : xE (zyEl zymx B H) 75 2 = xE (zyEl zymx B s.heap) 75 2 := xFr_E hFr0 rfl
      have e84 : ∀ i, xE (zyEl zymx B H2) 84 i = xE (zyEl zymx B H) 84 i := fun i => xFr_E hfr rfl
      have q84 : ∀ i, xE (zyEl zymx B H) 84 i = xE (zyEl zymx B s.heap) 84 i := fun i => xFr_E hFr0 rfl
      have e75 : ∀ i, xE (zyEl zymx B H2) 75 i = xE (zyEl zymx B H) 75 i := fun i => xFr_E hfr rfl
      have hI : xE (zyEl zymx B H) 74 36 = 0 ∧ (∀ k, xE (zyEl zymx B H) 75 k = xE (zyEl zymx B s.heap) 75 k) ∧ ∃ p, (p) ≤ (xE (zyEl zymx B s.heap) 74 42) ∧ xRD (xE (zyEl zymx B s.heap) 84) (xE (zyEl zymx B s.heap) 74 42) (p) (zyEl zymx B H) ∧ pPlace (xE (zyEl zymx B s.heap) 84) (xE (zyEl zymx B s.heap) 74 42) (xE (zyEl zymx B s.heap) 74 39) (xE (zyEl zymx B s.heap) 75) = .ok (p, uS (xE (zyEl zymx B s.heap) 75) (152 + (v 1)) (v 2)) := hInv
      obtain ⟨i1, hc, p, hp, hs, j2⟩ := hI
      have hEE : (zyEl zymx B H2) = (zyEl zymx B H) := xFr_n hfr
      refine xSt hRu hIH hAt hB hv hFr 75 (ax := 0) 68719476737 34359739585 (v2 2) (v2 1 + 152) rfl (Or.inl ⟨rfl, rfl⟩) rfl (by decide +kernel) rfl rfl (by omega) (by show (v2 1 + 152) < ((556 : Nat) : Int); omega) (fun r hr q1 q2 => by rw [List.mem_singleton.mp hr]; exact ⟨rfl, by show ((0 : Nat) : Int) ≤ (v2 2) + 2147483648; omega, by show (v2 2) + 2147483648 ≤ ((4294967295 : Nat) : Int); omega⟩) (zyin_iff.mpr ⟨(75, 152, 159), by decide, rfl, (by show 152 ≤ Int.toNat (v2 1 + 152); omega), by show Int.toNat (v2 1 + 152) ≤ 159; omega⟩) (fun H3 hT3 hst3 hne3 hfn3 hFr3 => ?_)
      have hfe3 : ∀ (a2 : Nat) (k2 : Int), ¬ a2 = 75 → xE (zyEl zymx B H3) a2 k2 = xE (zyEl zymx B H2) a2 k2 := fun a2 k2 hne => by unfold xE; rw [hfn3 a2 k2.toNat (fun z => hne z.1)]
      have d74_36 : xE (zyEl zymx B H3) 74 36 = xE (zyEl zymx B H2) 74 36 := hfe3 74 36 (fun z => absurd z (by decide))
      have d74_37 : xE (zyEl zymx B H3) 74 37 = xE (zyEl zymx B H2) 74 37 := hfe3 74 37 (fun z => absurd z (by decide))
      have d74_38 : xE (zyEl zymx B H3) 74 38 = xE (zyEl zymx B H2) 74 38 := hfe3 74 38 (fun z => absurd z (by decide))
      have d74_39 : xE (zyEl zymx B H3) 74 39 = xE (zyEl zymx B H2) 74 39 := hfe3 74 39 (fun z => absurd z (by decide))
      have d74_40 : xE (zyEl zymx B H3) 74 40 = xE (zyEl zymx B H2) 74 40 := hfe3 74 40 (fun z => absurd z (by decide))
      have d74_41 : xE (zyEl zymx B H3) 74 41 = xE (zyEl zymx B H2) 74 41 := hfe3 74 41 (fun z => absurd z (by decide))
      have d74_42 : xE (zyEl zymx B H3) 74 42 = xE (zyEl zymx B H2) 74 42 := hfe3 74 42 (fun z => absurd z (by decide))
      refine ⟨⟨6, by decide⟩, [0, 0, 0], [0, 0, 0], rfl, ⟨by decide +kernel, ⟨rfl, by decide +kernel⟩, (xcs_c rfl (xcs_c rfl (xcs_c rfl xcs_n))), (xe_0 (xe_0 (xe_0 xe_n))), xkq_n⟩, rfl, ?_, ?_⟩
      · show xE (zyEl zymx B H3) 74 36 = 0 ∧ ∃ p U, (p) ≤ (xE (zyEl zymx B s.heap) 74 42) ∧ xRD (xE (zyEl zymx B s.heap) 84) (xE (zyEl zymx B s.heap) 74 42) (p) (zyEl zymx B H3) ∧ pPlace (xE (zyEl zymx B s.heap) 84) (xE (zyEl zymx B s.heap) 74 42) (xE (zyEl zymx B s.heap) 74 39) (xE (zyEl zymx B s.heap) 75) = .ok (p, U) ∧ ∀ k, 0 ≤ k → xE (zyEl zymx B H3) 75 k = U k
        refine ⟨by omega, p, _, hp, xRD_e (xRD_k hs hfr rfl rfl rfl rfl rfl) (fun k _ => hfn3 74 k (fun z => absurd z.1 (by decide))), j2, fun k k0 => ?_⟩
        by_cases e : k = 152 + v 1
        · rw [uS_e e, e, show 152 + v 1 = (v2 1 + 152) by omega, hst3]
          omega
        · rw [uS_n e, hne3 75 k k0 (fun z => e (by omega)), e75]
          exact hc k
      · show 3 < 4
        omega
    · cases hx
  · intro x0 E0 E E2 hrx hT0 hΦ i v hT hrv hInv hKc hFr0 x hx v2 hr2 hXs hag hfr hFr hT2
    rcases i with ⟨i, hi⟩
    have hi2 : i = 0 ∨ i = 1 ∨ i = 2 ∨ i = 3 ∨ i = 4 ∨ i = 5 ∨ i = 6 := by omega
    rcases hi2 with rfl | rfl | rfl | rfl | rfl | rfl | rfl
    · cases hx
    · cases hx
    · cases hx
    · cases hx
    · have hx : x ∈ [zxfpl_dr0] := hx
      have hag : ∀ k, k < 5 → v2 k = v k := hag
      have hfr : xFr [] _ _ := hfr
      have ex := List.mem_singleton.mp hx
      subst ex
      obtain ⟨hF, hBd, hM⟩ := hXs
      have g1 : v2 1 = v 1 := hag 1 (by decide)
      have g3 : v2 3 = v 3 := hag 3 (by decide)
      have g4 : v2 4 = v 4 := hag 4 (by decide)
      have b0 : ((2147483649 : Nat) : Int) ≤ (v2 3) + 2147483648 ∧ (v2 3) + 2147483648 ≤ ((2147483657 : Nat) : Int) := xXb hBd 0 rfl
      have k0 : xE E 74 36 = v 3 := xKcf hKc 0 rfl rfl
      have f0 : ¬ (v2 3) = 0 := xXf hF 0 rfl
      have e74_36 : xE E2 74 36 = xE E 74 36 := xFr_E hfr rfl
      have e74_37 : xE E2 74 37 = xE E 74 37 := xFr_E hfr rfl
      have e74_38 : xE E2 74 38 = xE E 74 38 := xFr_E hfr rfl
      have e74_39 : xE E2 74 39 = xE E 74 39 := xFr_E hfr rfl
      have e74_40 : xE E2 74 40 = xE E 74 40 := xFr_E hfr rfl
      have e74_41 : xE E2 74 41 = xE E 74 41 := xFr_E hfr rfl
      have e74_42 : xE E2 74 42 = xE E 74 42 := xFr_E hfr rfl
      have q74_42 : xE E 74 42 = xE E0 74 42 := xFr_E hFr0 rfl
      have e75_0 : xE E2 75 0 = xE E 75 0 := xFr_E hfr rfl
      have q75_0 : xE E 75 0 = xE E0 75 0 := xFr_E hFr0 rfl
      have e75_1 : xE E2 75 1 = xE E 75 1 := xFr_E hfr rfl
      have q75_1 : xE E 75 1 = xE E0 75 1 := xFr_E hFr0 rfl
      have e75_2 : xE E2 75 2 = xE E 75 2 := xFr_E hfr rfl
      have q75_2 : xE E 75 2 = xE E0 75 2 := xFr_E hFr0 rfl
      have e84 : ∀ i, xE E2 84 i = xE E 84 i := fun i => xFr_E hfr rfl
      have q84 : ∀ i, xE E 84 i = xE E0 84 i := fun i => xFr_E hFr0 rfl
      have e75 : ∀ i, xE E2 75 i = xE E 75 i := fun i => xFr_E hfr rfl
      have hI : (∀ k, xE E 75 k = xE E0 75 k) ∧ (xE E 74 36 = 0 → (0 ≤ (v 1) ∧ (v 1) ≤ 7) ∧ ∃ p, (p) ≤ (xE E0 74 42) ∧ xRD (xE E0 84) (xE E0 74 42) (p) E ∧ pPlace (xE E0 84) (xE E0 74 42) (xE E0 74 39) (xE E0 75) = .ok (p, uS (xE E0 75) (152 + (v 1)) (v 4))) ∧ (¬ xE E 74 36 = 0 → xEr E (pPlace (xE E0 84) (xE E0 74 42) (xE E0 74 39) (xE E0 75))) := hInv
      show xΨpl x0 E0 E2 0
      obtain ⟨hc, i1, i2⟩ := hI
      have hEE : E2 = E := xFr_n hfr
      exact xRs_e (xEr_k (i2 (by omega)) (by omega) (by omega))
    · cases hx
    · have hx : x ∈ [zxfpl_er0] := hx
      have hag : ∀ k, k < 3 → v2 k = v k := hag
      have hfr : xFr [] _ _ := hfr
      have ex := List.mem_singleton.mp hx
      subst ex
      obtain ⟨hF, hBd, hM⟩ := hXs
      have e74_36 : xE E2 74 36 = xE E 74 36 := xFr_E hfr rfl
      have e74_37 : xE E2 74 37 = xE E 74 37 := xFr_E hfr rfl
      have e74_38 : xE E2 74 38 = xE E 74 38 := xFr_E hfr rfl
      have e74_39 : xE E2 74 39 = xE E 74 39 := xFr_E hfr rfl
      have e74_40 : xE E2 74 40 = xE E 74 40 := xFr_E hfr rfl
      have e74_41 : xE E2 74 41 = xE E 74 41 := xFr_E hfr rfl
      have e74_42 : xE E2 74 42 = xE E 74 42 := xFr_E hfr rfl
      have q74_42 : xE E 74 42 = xE E0 74 42 := xFr_E hFr0 rfl
      have e75_0 : xE E2 75 0 = xE E 75 0 := xFr_E hfr rfl
      have q75_0 : xE E 75 0 = xE E0 75 0 := xFr_E hFr0 rfl
      have e75_1 : xE E2 75 1 = xE E 75 1 := xFr_E hfr rfl
      have q75_1 : xE E 75 1 = xE E0 75 1 := xFr_E hFr0 rfl
      have e75_2 : xE E2 75 2 = xE E 75 2 := xFr_E hfr rfl
      have q75_2 : xE E 75 2 = xE E0 75 2 := xFr_E hFr0 rfl
      have e84 : ∀ i, xE E2 84 i = xE E 84 i := fun i => xFr_E hfr rfl
      have q84 : ∀ i, xE E 84 i = xE E0 84 i := fun i => xFr_E hFr0 rfl
      have e75 : ∀ i, xE E2 75 i = xE E 75 i := fun i => xFr_E hfr rfl
      have hI : xE E 74 36 = 0 ∧ ∃ p U, (p) ≤ (xE E0 74 42) ∧ xRD (xE E0 84) (xE E0 74 42) (p) E ∧ pPlace (xE E0 84) (xE E0 74 42) (xE E0 74 39) (xE E0 75) = .ok (p, U) ∧ ∀ k, 0 ≤ k → xE E 75 k = U k := hInv
      show xΨpl x0 E0 E2 0
      obtain ⟨i1, p, U, hp, hs, i3, i4⟩ := hI
      have hEE : E2 = E := xFr_n hfr
      unfold xΨpl
      rw [i3, hEE]
      exact ⟨i1, hp, hs, fun k k0 _ => i4 k k0⟩
end
