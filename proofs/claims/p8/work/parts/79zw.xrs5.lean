/-! THE REFERENCE reads a word (printed by m24.py) -/
noncomputable def zxfwd_zx0 : zyXp := (0, [595, 13], [], [], [], [])
noncomputable def zpfwd_z : zyPh := (0, [595, 13], [(0, 4294967295), (0, 4294967295)], [], [])
noncomputable def zxfwd_ax0 : zyXp := (1, [595, 13], [595], [], [], [])
noncomputable def zpfwd_a : zyPh := (0, [595, 13], [(0, 4294967295), (0, 4294967295)], [], [])
noncomputable def zxfwd_bx0 : zyXp := (10, [595, 13], [0, 40, 603], [], [], [])
noncomputable def zpfwd_b : zyPh := (4, [595, 13], [(0, 4294967295), (0, 4294967295)], [], [])
noncomputable def zxfwd_hx0 : zyXp := (29, [595, 13], [360, 595], [(22, 0, 68719476737, 0), (23, 0, 103079215105, 16)], [(68719476737, 2147483648, 2147483648), (103079215105, 2147483651, 2147483652)], [])
noncomputable def zxfwd_hx1 : zyXp := (29, [595, 13], [360, 595], [(22, 0, 68719476737, 0), (23, 0, 103079215105, 16)], [(68719476737, 2147483648, 2147483648), (103079215105, 2147483648, 2147483649)], [])
noncomputable def zxfwd_hx2 : zyXp := (38, [595, 13], [360, 595], [(22, 0, 68719476737, 0), (22, 0, 103079215105, 16)], [(68719476737, 2147483648, 2147483648), (103079215105, 2147483650, 2147483650)], [])
noncomputable def zpfwd_h : zyPh := (11, [595, 13], [(0, 4294967295), (0, 4294967295), (2147483648, 2147483648), (2147483648, 2147483652)], [(1212452, 68719476737), (1212456, 103079215105)], [])
noncomputable def zxfwd_ix0 : zyXp := (38, [595, 13], [360, 595], [(23, 0, 68719476737, 0)], [(68719476737, 2147483649, 2147483649)], [])
noncomputable def zxfwd_ir0 : zyXp := (0, [], [], [(22, 0, 68719476737, 0)], [(68719476737, 2147483648, 2147483648)], [])
noncomputable def zpfwd_i : zyPh := (32, [595, 13], [(0, 4294967295), (0, 4294967295), (2147483648, 2147483649)], [], [68719476737])
noncomputable def zxfwd_kx0 : zyXp := (47, [595, 68719476737], [595], [(23, 0, 68719476737, 0)], [(68719476737, 2147483649, 2147483649)], [])
noncomputable def zxfwd_kx1 : zyXp := (50, [595, 68719476737], [], [(22, 0, 68719476737, 0)], [(68719476737, 2147483648, 2147483648)], [])
noncomputable def zpfwd_k : zyPh := (41, [595, 13], [(0, 4294967295), (0, 4294967295), (2147483648, 2147483649)], [], [68719476737])
noncomputable def zxfwd_mx0 : zyXp := (118, [595, 13], [274877906945, 240518172257, 603], [(22, 0, 171798691841, 16), (21, 0, 206158430209, 8), (21, 0, 56, 206158430209), (20, 0, 240518168577, 480), (21, 0, 0, 68719476737), (23, 0, 34359738369, 0), (2, 274877906945, 0, 206158430209)], [(34359738369, 2147483649, 2147483649), (68719476737, 2147483648, 2147483648), (171798691841, 2147483650, 2147483650), (206158430209, 2147483649, 2147483655), (240518168577, 2147483648, 2147483707), (274877906945, 2147483641, 2147483647), (240518172257, 2147484108, 2147484167)], [(1212452, 68719476737), (1212453, 103079215105)])
noncomputable def zxfwd_mx1 : zyXp := (118, [595, 13], [206158430209, 240518172257, 603], [(22, 0, 171798691841, 16), (21, 0, 206158430209, 8), (21, 0, 56, 206158430209), (20, 0, 240518168577, 480), (21, 0, 0, 68719476737), (22, 0, 34359738369, 0)], [(34359738369, 2147483648, 2147483648), (68719476737, 2147483648, 2147483648), (171798691841, 2147483650, 2147483650), (206158430209, 2147483649, 2147483655), (240518168577, 2147483648, 2147483707), (240518172257, 2147484108, 2147484167)], [(1212452, 68719476737), (1212453, 103079215105)])
noncomputable def zxfwd_mr0 : zyXp := (0, [], [], [(23, 0, 171798691841, 16), (21, 0, 0, 68719476737), (23, 0, 171798691841, 32), (20, 0, 206158430209, 8), (20, 0, 240518168577, 480)], [(68719476737, 2147483648, 2147483648), (137438953473, 2147483648, 2147484548), (171798691841, 2147483651, 2147483651), (206158430209, 2147483648, 2147483648), (240518168577, 2147483648, 2147483707)], [(1212452, 16), (1212453, 137438953473)])
noncomputable def zxfwd_mr1 : zyXp := (0, [], [], [(23, 0, 171798691841, 16), (21, 0, 0, 68719476737), (23, 0, 171798691841, 32), (20, 0, 206158430209, 8), (21, 0, 240518168577, 480)], [(68719476737, 2147483648, 2147483648), (137438953473, 2147483648, 2147484548), (171798691841, 2147483651, 2147483651), (206158430209, 2147483648, 2147483648), (240518168577, 2147483708, 2147483708)], [(1212452, 16), (1212453, 137438953473)])
noncomputable def zxfwd_mr2 : zyXp := (0, [], [], [(23, 0, 171798691841, 16), (21, 0, 0, 68719476737), (23, 0, 171798691841, 32), (21, 0, 206158430209, 8), (20, 0, 56, 206158430209), (20, 0, 240518168577, 480)], [(68719476737, 2147483648, 2147483648), (137438953473, 2147483648, 2147484548), (171798691841, 2147483651, 2147483651), (206158430209, 2147483656, 2147484647), (240518168577, 2147483648, 2147483707)], [(1212452, 16), (1212453, 137438953473)])
noncomputable def zxfwd_mr3 : zyXp := (0, [], [], [(23, 0, 171798691841, 16), (21, 0, 0, 68719476737), (23, 0, 171798691841, 32), (21, 0, 206158430209, 8), (20, 0, 56, 206158430209), (21, 0, 240518168577, 480)], [(68719476737, 2147483648, 2147483648), (137438953473, 2147483648, 2147484548), (171798691841, 2147483651, 2147483651), (206158430209, 2147483656, 2147484647), (240518168577, 2147483708, 2147483708)], [(1212452, 16), (1212453, 137438953473)])
noncomputable def zxfwd_mr4 : zyXp := (0, [], [], [(23, 0, 171798691841, 16), (21, 0, 0, 68719476737), (23, 0, 171798691841, 32), (21, 0, 206158430209, 8), (21, 0, 56, 206158430209), (20, 0, 240518168577, 480)], [(68719476737, 2147483648, 2147483648), (137438953473, 2147483648, 2147484548), (171798691841, 2147483651, 2147483651), (206158430209, 2147483649, 2147483655), (240518168577, 2147483648, 2147483707)], [(1212452, 16), (1212453, 137438953473)])
noncomputable def zxfwd_mr5 : zyXp := (0, [], [], [(23, 0, 171798691841, 16), (21, 0, 0, 68719476737), (23, 0, 171798691841, 32), (21, 0, 206158430209, 8), (21, 0, 56, 206158430209), (21, 0, 240518168577, 480)], [(68719476737, 2147483648, 2147483648), (137438953473, 2147483648, 2147484548), (171798691841, 2147483651, 2147483651), (206158430209, 2147483649, 2147483655), (240518168577, 2147483708, 2147483708)], [(1212452, 16), (1212453, 137438953473)])
noncomputable def zxfwd_mr6 : zyXp := (0, [], [], [(23, 0, 171798691841, 16), (21, 0, 0, 68719476737), (22, 0, 171798691841, 32), (20, 0, 206158430209, 8), (20, 0, 240518168577, 480)], [(68719476737, 2147483648, 2147483648), (137438953473, 2147483648, 2147484548), (171798691841, 2147483652, 2147483652), (206158430209, 2147483648, 2147483648), (240518168577, 2147483648, 2147483707)], [(1212452, 8), (1212453, 137438953473)])
noncomputable def zxfwd_mr7 : zyXp := (0, [], [], [(23, 0, 171798691841, 16), (21, 0, 0, 68719476737), (22, 0, 171798691841, 32), (20, 0, 206158430209, 8), (21, 0, 240518168577, 480)], [(68719476737, 2147483648, 2147483648), (137438953473, 2147483648, 2147484548), (171798691841, 2147483652, 2147483652), (206158430209, 2147483648, 2147483648), (240518168577, 2147483708, 2147483708)], [(1212452, 8), (1212453, 137438953473)])
noncomputable def zxfwd_mr8 : zyXp := (0, [], [], [(23, 0, 171798691841, 16), (21, 0, 0, 68719476737), (22, 0, 171798691841, 32), (21, 0, 206158430209, 8), (20, 0, 56, 206158430209), (20, 0, 240518168577, 480)], [(68719476737, 2147483648, 2147483648), (137438953473, 2147483648, 2147484548), (171798691841, 2147483652, 2147483652), (206158430209, 2147483656, 2147484647), (240518168577, 2147483648, 2147483707)], [(1212452, 8), (1212453, 137438953473)])
noncomputable def zxfwd_mr9 : zyXp := (0, [], [], [(23, 0, 171798691841, 16), (21, 0, 0, 68719476737), (22, 0, 171798691841, 32), (21, 0, 206158430209, 8), (20, 0, 56, 206158430209), (21, 0, 240518168577, 480)], [(68719476737, 2147483648, 2147483648), (137438953473, 2147483648, 2147484548), (171798691841, 2147483652, 2147483652), (206158430209, 2147483656, 2147484647), (240518168577, 2147483708, 2147483708)], [(1212452, 8), (1212453, 137438953473)])
noncomputable def zxfwd_mr10 : zyXp := (0, [], [], [(23, 0, 171798691841, 16), (21, 0, 0, 68719476737), (22, 0, 171798691841, 32), (21, 0, 206158430209, 8), (21, 0, 56, 206158430209), (20, 0, 240518168577, 480)], [(68719476737, 2147483648, 2147483648), (137438953473, 2147483648, 2147484548), (171798691841, 2147483652, 2147483652), (206158430209, 2147483649, 2147483655), (240518168577, 2147483648, 2147483707)], [(1212452, 8), (1212453, 137438953473)])
noncomputable def zxfwd_mr11 : zyXp := (0, [], [], [(23, 0, 171798691841, 16), (21, 0, 0, 68719476737), (22, 0, 171798691841, 32), (21, 0, 206158430209, 8), (21, 0, 56, 206158430209), (21, 0, 240518168577, 480)], [(68719476737, 2147483648, 2147483648), (137438953473, 2147483648, 2147484548), (171798691841, 2147483652, 2147483652), (206158430209, 2147483649, 2147483655), (240518168577, 2147483708, 2147483708)], [(1212452, 8), (1212453, 137438953473)])
noncomputable def zxfwd_mr12 : zyXp := (0, [], [], [(23, 0, 171798691841, 16), (21, 0, 0, 68719476737), (23, 0, 171798691841, 32), (20, 0, 206158430209, 8), (20, 0, 240518168577, 480)], [(68719476737, 2147483648, 2147483648), (137438953473, 2147483648, 2147484548), (171798691841, 2147483648, 2147483649), (206158430209, 2147483648, 2147483648), (240518168577, 2147483648, 2147483707)], [(1212452, 16), (1212453, 137438953473)])
noncomputable def zxfwd_mr13 : zyXp := (0, [], [], [(23, 0, 171798691841, 16), (21, 0, 0, 68719476737), (23, 0, 171798691841, 32), (20, 0, 206158430209, 8), (21, 0, 240518168577, 480)], [(68719476737, 2147483648, 2147483648), (137438953473, 2147483648, 2147484548), (171798691841, 2147483648, 2147483649), (206158430209, 2147483648, 2147483648), (240518168577, 2147483708, 2147483708)], [(1212452, 16), (1212453, 137438953473)])
noncomputable def zxfwd_mr14 : zyXp := (0, [], [], [(23, 0, 171798691841, 16), (21, 0, 0, 68719476737), (23, 0, 171798691841, 32), (21, 0, 206158430209, 8), (20, 0, 56, 206158430209), (20, 0, 240518168577, 480)], [(68719476737, 2147483648, 2147483648), (137438953473, 2147483648, 2147484548), (171798691841, 2147483648, 2147483649), (206158430209, 2147483656, 2147484647), (240518168577, 2147483648, 2147483707)], [(1212452, 16), (1212453, 137438953473)])
noncomputable def zxfwd_mr15 : zyXp := (0, [], [], [(23, 0, 171798691841, 16), (21, 0, 0, 68719476737), (23, 0, 171798691841, 32), (21, 0, 206158430209, 8), (20, 0, 56, 206158430209), (21, 0, 240518168577, 480)], [(68719476737, 2147483648, 2147483648), (137438953473, 2147483648, 2147484548), (171798691841, 2147483648, 2147483649), (206158430209, 2147483656, 2147484647), (240518168577, 2147483708, 2147483708)], [(1212452, 16), (1212453, 137438953473)])
noncomputable def zxfwd_mr16 : zyXp := (0, [], [], [(23, 0, 171798691841, 16), (21, 0, 0, 68719476737), (23, 0, 171798691841, 32), (21, 0, 206158430209, 8), (21, 0, 56, 206158430209), (20, 0, 240518168577, 480)], [(68719476737, 2147483648, 2147483648), (137438953473, 2147483648, 2147484548), (171798691841, 2147483648, 2147483649), (206158430209, 2147483649, 2147483655), (240518168577, 2147483648, 2147483707)], [(1212452, 16), (1212453, 137438953473)])
noncomputable def zxfwd_mr17 : zyXp := (0, [], [], [(23, 0, 171798691841, 16), (21, 0, 0, 68719476737), (23, 0, 171798691841, 32), (21, 0, 206158430209, 8), (21, 0, 56, 206158430209), (21, 0, 240518168577, 480)], [(68719476737, 2147483648, 2147483648), (137438953473, 2147483648, 2147484548), (171798691841, 2147483648, 2147483649), (206158430209, 2147483649, 2147483655), (240518168577, 2147483708, 2147483708)], [(1212452, 16), (1212453, 137438953473)])
noncomputable def zxfwd_mr18 : zyXp := (0, [], [], [(22, 0, 171798691841, 16), (20, 0, 206158430209, 8), (21, 0, 0, 68719476737), (20, 0, 240518168577, 480)], [(68719476737, 2147483648, 2147483648), (137438953473, 2147483648, 2147484548), (171798691841, 2147483650, 2147483650), (206158430209, 2147483648, 2147483648), (240518168577, 2147483648, 2147483707)], [(1212452, 24), (1212453, 137438953473)])
noncomputable def zxfwd_mr19 : zyXp := (0, [], [], [(22, 0, 171798691841, 16), (20, 0, 206158430209, 8), (21, 0, 0, 68719476737), (21, 0, 240518168577, 480)], [(68719476737, 2147483648, 2147483648), (137438953473, 2147483648, 2147484548), (171798691841, 2147483650, 2147483650), (206158430209, 2147483648, 2147483648), (240518168577, 2147483708, 2147483708)], [(1212452, 24), (1212453, 137438953473)])
noncomputable def zxfwd_mr20 : zyXp := (0, [], [], [(22, 0, 171798691841, 16), (21, 0, 206158430209, 8), (20, 0, 56, 206158430209), (21, 0, 0, 68719476737), (20, 0, 240518168577, 480)], [(68719476737, 2147483648, 2147483648), (137438953473, 2147483648, 2147484548), (171798691841, 2147483650, 2147483650), (206158430209, 2147483656, 2147484647), (240518168577, 2147483648, 2147483707)], [(1212452, 24), (1212453, 137438953473)])
noncomputable def zxfwd_mr21 : zyXp := (0, [], [], [(22, 0, 171798691841, 16), (21, 0, 206158430209, 8), (20, 0, 56, 206158430209), (21, 0, 0, 68719476737), (21, 0, 240518168577, 480)], [(68719476737, 2147483648, 2147483648), (137438953473, 2147483648, 2147484548), (171798691841, 2147483650, 2147483650), (206158430209, 2147483656, 2147484647), (240518168577, 2147483708, 2147483708)], [(1212452, 24), (1212453, 137438953473)])
noncomputable def zxfwd_mr22 : zyXp := (0, [], [], [(22, 0, 171798691841, 16), (21, 0, 206158430209, 8), (21, 0, 56, 206158430209), (21, 0, 240518168577, 480), (21, 0, 0, 68719476737)], [(68719476737, 2147483648, 2147483648), (137438953473, 2147483648, 2147484548), (171798691841, 2147483650, 2147483650), (206158430209, 2147483649, 2147483655), (240518168577, 2147483708, 2147483708)], [(1212452, 48), (1212453, 137438953473)])
noncomputable def zpfwd_m : zyPh := (50, [595, 34359738369], [(0, 4294967295), (2147483648, 2147483649), (2147483648, 2147483648), (0, 4294967295), (2147483648, 2147484548), (2147483648, 2147483652), (2147483648, 2147484647), (2147483648, 2147483708)], [(1212452, 68719476737), (1212453, 103079215105), (1212454, 137438953473), (1212456, 171798691841), (1212457, 206158430209), (1228805, 240518168577)], [])
noncomputable def zxfwd_ox0 : zyXp := (128, [595, 13], [68719476745, 40, 603], [], [(68719476737, 2147483648, 2147483708), (68719476745, 2147483649, 2147483709)], [])
noncomputable def zpfwd_o : zyPh := (119, [595, 13], [(0, 4294967295), (0, 4294967295), (2147483648, 2147483708)], [(1228805, 68719476737)], [])
noncomputable def zxfwd_qx0 : zyXp := (130, [595, 13], [595], [], [], [])
noncomputable def zpfwd_q : zyPh := (129, [595, 13], [(0, 4294967295), (0, 4294967295)], [], [])
noncomputable def zxfwd_rx0 : zyXp := (11, [595, 13], [], [], [], [])
noncomputable def zpfwd_r : zyPh := (133, [595, 13], [(0, 4294967295), (0, 4294967295)], [], [])
noncomputable def zpfwd (i : Nat) : zyPh := zif (Nat.beq i 0) (zpfwd_z) (zif (Nat.beq i 1) (zpfwd_a) (zif (Nat.beq i 2) (zpfwd_b) (zif (Nat.beq i 3) (zpfwd_h) (zif (Nat.beq i 4) (zpfwd_i) (zif (Nat.beq i 5) (zpfwd_k) (zif (Nat.beq i 6) (zpfwd_m) (zif (Nat.beq i 7) (zpfwd_o) (zif (Nat.beq i 8) (zpfwd_q) (zpfwd_r)))))))))
noncomputable def zXfwd (i : Nat) : List zyXp := zif (Nat.beq i 0) ([zxfwd_zx0]) (zif (Nat.beq i 1) ([zxfwd_ax0]) (zif (Nat.beq i 2) ([zxfwd_bx0]) (zif (Nat.beq i 3) ([zxfwd_hx0, zxfwd_hx1, zxfwd_hx2]) (zif (Nat.beq i 4) ([zxfwd_ix0]) (zif (Nat.beq i 5) ([zxfwd_kx0, zxfwd_kx1]) (zif (Nat.beq i 6) ([zxfwd_mx0, zxfwd_mx1]) (zif (Nat.beq i 7) ([zxfwd_ox0]) (zif (Nat.beq i 8) ([zxfwd_qx0]) ([zxfwd_rx0])))))))))
noncomputable def zRfwd (i : Nat) : List zyXp := zif (Nat.beq i 0) ([]) (zif (Nat.beq i 1) ([]) (zif (Nat.beq i 2) ([]) (zif (Nat.beq i 3) ([]) (zif (Nat.beq i 4) ([zxfwd_ir0]) (zif (Nat.beq i 5) ([]) (zif (Nat.beq i 6) ([zxfwd_mr0, zxfwd_mr1, zxfwd_mr2, zxfwd_mr3, zxfwd_mr4, zxfwd_mr5, zxfwd_mr6, zxfwd_mr7, zxfwd_mr8, zxfwd_mr9, zxfwd_mr10, zxfwd_mr11, zxfwd_mr12, zxfwd_mr13, zxfwd_mr14, zxfwd_mr15, zxfwd_mr16, zxfwd_mr17, zxfwd_mr18, zxfwd_mr19, zxfwd_mr20, zxfwd_mr21, zxfwd_mr22]) (zif (Nat.beq i 7) ([]) (zif (Nat.beq i 8) ([]) ([])))))))))
noncomputable def zFfwd (i : Nat) : zyR := zif (Nat.beq i 0) ([]) (zif (Nat.beq i 1) ([]) (zif (Nat.beq i 2) ([]) (zif (Nat.beq i 3) ([]) (zif (Nat.beq i 4) ([]) (zif (Nat.beq i 5) ([]) (zif (Nat.beq i 6) ([(74, 36, 37)]) (zif (Nat.beq i 7) ([]) (zif (Nat.beq i 8) ([]) ([])))))))))
noncomputable def zSfwd (i : Nat) : Nat := zif (Nat.beq i 0) (0) (zif (Nat.beq i 1) (0) (zif (Nat.beq i 2) (0) (zif (Nat.beq i 3) (0) (zif (Nat.beq i 4) (0) (zif (Nat.beq i 5) (0) (zif (Nat.beq i 6) (0) (zif (Nat.beq i 7) (0) (zif (Nat.beq i 8) (0) (0)))))))))
/-- a wished word is read -/
def xΦwd (_ : Nat → Int) (E : zyEm) : Prop := xE E 74 36 = 0 ∧ xE E 74 39 ≤ xE E 74 42
def xΨwd (_ : Nat → Int) (E E2 : zyEm) (_ : Int) : Prop := xRs (xE E 84) (xE E 74 42) E2 (pWs (xE E 84) (xE E 74 42) 60 (xE E 74 39) (uS (xE E 75) 5 0))
noncomputable def fpfwd : zyR := [(74, 36, 41), (74, 43, 43), (75, 5, 5), (75, 460, 519)]
theorem zyfwd_run : zyrS zymx zxi326 (326, 0, 0, 0, 0) 5 zpfwd (fun _ _ => []) zFfwd zSfwd zXfwd zRfwd 10 = true := by decide +kernel
theorem zyfwd_ck : zyAll (fun i => xsubR (zFfwd i) fpfwd && ((zXfwd i).all xckX && (zRfwd i).all (fun x => xckX x && xrtB false x))) 10 = true := by decide +kernel
def xIfwd (i : Nat) (x0 : Nat → Int) (E0 : zyEm) (v : Nat → Int) (E : zyEm) : Prop := if i = 0 then (E = E0) else if i = 1 then (E = E0) else if i = 2 then (xE E 74 36 = 0 ∧ (∀ k, xE E 75 k = xE E0 75 k) ∧ ((xE E0 74 39)) ≤ (xE E0 74 42) ∧ xRD (xE E0 84) (xE E0 74 42) ((xE E0 74 39)) E) else if i = 3 then (xE E 74 36 = 0 ∧ ∃ p Si, ((p) ≤ (xE E0 74 42) ∧ xRD (xE E0 84) (xE E0 74 42) (p) E) ∧ (0 ≤ Si 5 ∧ Si 5 ≤ 60) ∧ (∀ k, 0 ≤ k → xE E 75 k = Si k) ∧ pWs (xE E0 84) (xE E0 74 42) 60 (xE E0 74 39) (uS (xE E0 75) 5 0) = pWs (xE E0 84) (xE E0 74 42) (60 - Si 5).toNat p Si) else if i = 4 then (xE E 74 36 = 0 ∧ ∃ p Si, ((p) ≤ (xE E0 74 42) ∧ xRD (xE E0 84) (xE E0 74 42) (p) E) ∧ (0 ≤ Si 5 ∧ Si 5 ≤ 60) ∧ (∀ k, 0 ≤ k → xE E 75 k = Si k) ∧ pWs (xE E0 84) (xE E0 74 42) 60 (xE E0 74 39) (uS (xE E0 75) 5 0) = pWs (xE E0 84) (xE E0 74 42) (60 - Si 5).toNat p Si ∧ ¬ tKd (xE E0 84) (xE E0 74 42) p = 3 ∧ ((v 2) = if tKd (xE E0 84) (xE E0 74 42) p = 4 then 1 else 0)) else if i = 5 then (xE E 74 36 = 0 ∧ ∃ p Si, ((p) ≤ (xE E0 74 42) ∧ xRD (xE E0 84) (xE E0 74 42) (p) E) ∧ (0 ≤ Si 5 ∧ Si 5 ≤ 60) ∧ (∀ k, 0 ≤ k → xE E 75 k = Si k) ∧ pWs (xE E0 84) (xE E0 74 42) 60 (xE E0 74 39) (uS (xE E0 75) 5 0) = pWs (xE E0 84) (xE E0 74 42) (60 - Si 5).toNat p Si ∧ (tKd (xE E0 84) (xE E0 74 42) p = 3 ∨ tKd (xE E0 84) (xE E0 74 42) p = 4) ∧ ((v 2) = if tKd (xE E0 84) (xE E0 74 42) p = 4 then 1 else 0)) else if i = 6 then (xE E 74 36 = 0 ∧ ∃ p Si, ((p) ≤ (xE E0 74 42) ∧ xRD (xE E0 84) (xE E0 74 42) (p) E) ∧ (0 ≤ Si 5 ∧ Si 5 ≤ 60) ∧ (∀ k, 0 ≤ k → xE E 75 k = Si k) ∧ pWs (xE E0 84) (xE E0 74 42) 60 (xE E0 74 39) (uS (xE E0 75) 5 0) = pNum (xE E0 84) (xE E0 74 42) p 1 7 (fun x p2 => if Si 5 < 60 then pWs (xE E0 84) (xE E0 74 42) (60 - (Si 5 + 1)).toNat p2 (uS (uS Si (460 + Si 5) (if (v 1) = 0 then x else -x)) 5 (Si 5 + 1)) else .error (6, tFr (xE E0 84) (xE E0 74 42) p))) else if i = 7 then (xE E 74 36 = 0 ∧ ∃ p Si x, ((p) ≤ (xE E0 74 42) ∧ xRD (xE E0 84) (xE E0 74 42) (p) E) ∧ (0 ≤ Si 5 ∧ Si 5 < 60) ∧ (∀ k, 0 ≤ k → xE E 75 k = uS Si (460 + Si 5) x k) ∧ tKd (xE E0 84) (xE E0 74 42) p = 3 ∧ pWs (xE E0 84) (xE E0 74 42) 60 (xE E0 74 39) (uS (xE E0 75) 5 0) = pWs (xE E0 84) (xE E0 74 42) (60 - (Si 5 + 1)).toNat (tNx (xE E0 84) (xE E0 74 42) p) (uS (uS Si (460 + Si 5) x) 5 (Si 5 + 1))) else if i = 8 then (xE E 74 36 = 0 ∧ ∃ p Si, ((p) ≤ (xE E0 74 42) ∧ xRD (xE E0 84) (xE E0 74 42) (p) E) ∧ (0 ≤ Si 5 ∧ Si 5 ≤ 60) ∧ (∀ k, 0 ≤ k → xE E 75 k = Si k) ∧ tKd (xE E0 84) (xE E0 74 42) p = 3 ∧ pWs (xE E0 84) (xE E0 74 42) 60 (xE E0 74 39) (uS (xE E0 75) 5 0) = pWs (xE E0 84) (xE E0 74 42) (60 - Si 5).toNat (tNx (xE E0 84) (xE E0 74 42) p) Si) else (xE E 74 36 = 0 ∧ ∃ p Si, ((p) ≤ (xE E0 74 42) ∧ xRD (xE E0 84) (xE E0 74 42) (p) E) ∧ (0 ≤ Si 5 ∧ Si 5 ≤ 60) ∧ (∀ k, 0 ≤ k → xE E 75 k = Si k) ∧ pWs (xE E0 84) (xE E0 74 42) 60 (xE E0 74 39) (uS (xE E0 75) 5 0) = pWs (xE E0 84) (xE E0 74 42) (60 - Si 5).toNat p Si)
def xMfwd (i : Nat) (x0 : Nat → Int) (E0 : zyEm) (v : Nat → Int) (E : zyEm) : Nat := if i = 0 then (2000) else if i = 1 then (1999) else if i = 2 then (1998) else if i = 3 then (10 * (70 - xE E 75 5).toNat + 9) else if i = 4 then (10 * (70 - xE E 75 5).toNat + 8) else if i = 5 then (10 * (70 - xE E 75 5).toNat + 7) else if i = 6 then (10 * (70 - xE E 75 5).toNat + 6) else if i = 7 then (10 * (70 - xE E 75 5).toNat + 5) else if i = 8 then (10 * (70 - xE E 75 5).toNat + 11) else (10 * (70 - xE E 75 5).toNat + 10)
theorem xWd {l : Launch} {en : zEn} {me : zMe} (hen : zG zxMeta 326 = some en) (hme : zG zMeth 326 = some me) : xFc l zymx en me 5 [74] 0 fpfwd false xΦwd xΨwd := by
  have een : zG zxMeta 326 = some (zxi326, 1, 2, 11, 326, 0, 0, 0, 0) := rfl
  obtain ⟨me1, hme1, hOK⟩ := zall hen
  rw [hme] at hme1
  cases hme1
  rw [een] at hen
  cases hen
  have hr := zyfwd_run
  have hck := fun i hi => zyAll_iff zyfwd_ck i hi
  simp only [Bool.and_eq_true] at hck
  obtain ⟨mefrd, hmefrd, -⟩ := zall (show zG zxMeta 314 = some (zxi314, 1, 1, 11, 314, 0, 0, 0, 0) from rfl)
  have hfrd := xRd (l := l) (show zG zxMeta 314 = some (zxi314, 1, 1, 11, 314, 0, 0, 0, 0) from rfl) hmefrd
  obtain ⟨mefis, hmefis, -⟩ := zall (show zG zxMeta 317 = some (zxi317, 2, 2, 11, 317, 0, 0, 2, 0) from rfl)
  have hfis := xIs (l := l) (show zG zxMeta 317 = some (zxi317, 2, 2, 11, 317, 0, 0, 2, 0) from rfl) hmefis
  intro B
  refine xcut (mi := zymx) (B := B) hOK rfl rfl (ι := Fin 10) (fun i => zpfwd i.val) (fun _ _ => []) (fun i => zFfwd i.val) (fun i => zSfwd i.val) (fun i => zXfwd i.val) (fun i => zRfwd i.val) (fun i y2 ct en2 me2 h => by cases h) 200000 (fun i => zyAll_iff hr i.val i.isLt) (fun i => (hck i.val i.isLt).1) (fun i => (hck i.val i.isLt).2.1) (fun i => (hck i.val i.isLt).2.2) ⟨0, by decide⟩ ⟨rfl, rfl, rfl, rfl⟩ ⟨by decide, by decide⟩ (fun i x0 E0 v E => xIfwd i.val x0 E0 v E) (fun i x0 E0 v E => xMfwd i.val x0 E0 v E) ?_ ?_ ?_
  · intro x0 E hx0 hT hΦ
    have hΦ : xΦwd x0 E := hΦ
    refine ⟨fun k p hp => ?_, ?_⟩
    · have hk : k < 2 := (List.getElem?_eq_some_iff.mp hp).1
      have hk : k = 0 ∨ k = 1 := by omega
      rcases hk with rfl | rfl
      · have hp : some (0, 4294967295) = some p := hp
        cases hp
        show ((0 : Nat) : Int) ≤ 0 + 2147483648 ∧ 0 + 2147483648 ≤ ((4294967295 : Nat) : Int)
        omega
      · have hp : some (0, 4294967295) = some p := hp
        cases hp
        show ((0 : Nat) : Int) ≤ x0 0 + 2147483648 ∧ x0 0 + 2147483648 ≤ ((4294967295 : Nat) : Int)
        have hx := hx0 0
        omega
    · show E = E
      rfl
  · intro x0 s Wg hRu hrx hT0 hΦ i v H hT hrv hInv hKc hFr0 hIH x hx ρ2 v2 N2 H2 locs lsB stA hAt hB hv hr2 hXs hag hfr hFr hT2
    rcases i with ⟨i, hi⟩
    have hi2 : i = 0 ∨ i = 1 ∨ i = 2 ∨ i = 3 ∨ i = 4 ∨ i = 5 ∨ i = 6 ∨ i = 7 ∨ i = 8 ∨ i = 9 := by omega
    rcases hi2 with rfl | rfl | rfl | rfl | rfl | rfl | rfl | rfl | rfl | rfl
    · have hx : x ∈ [zxfwd_zx0] := hx
      have hag : ∀ k, k < 2 → v2 k = v k := hag
      have hfr : xFr [] _ _ := hfr
      have ex := List.mem_singleton.mp hx
      subst ex
      obtain ⟨hF, hBd, hM⟩ := hXs
      have e74_36 : xE (zyEl zymx B H2) 74 36 = xE (zyEl zymx B H) 74 36 := xFr_E hfr rfl
      have e74_37 : xE (zyEl zymx B H2) 74 37 = xE (zyEl zymx B H) 74 37 := xFr_E hfr rfl
      have e74_38 : xE (zyEl zymx B H2) 74 38 = xE (zyEl zymx B H) 74 38 := xFr_E hfr rfl
      have e74_39 : xE (zyEl zymx B H2) 74 39 = xE (zyEl zymx B H) 74 39 := xFr_E hfr rfl
      have e74_40 : xE (zyEl zymx B H2) 74 40 = xE (zyEl zymx B H) 74 40 := xFr_E hfr rfl
      have e74_41 : xE (zyEl zymx B H2) 74 41 = xE (zyEl zymx B H) 74 41 := xFr_E hfr rfl
      have e74_42 : xE (zyEl zymx B H2) 74 42 = xE (zyEl zymx B H) 74 42 := xFr_E hfr rfl
      have q74_42 : xE (zyEl zymx B H) 74 42 = xE (zyEl zymx B s.heap) 74 42 := xFr_E hFr0 rfl
      have e75_0 : xE (zyEl zymx B H2) 75 0 = xE (zyEl zymx B H) 75 0 := xFr_E hfr rfl
      have q75_0 : xE (zyEl zymx B H) 75 0 = xE (zyEl zymx B s.heap) 75 0 := xFr_E hFr0 rfl
      have e75_1 : xE (zyEl zymx B H2) 75 1 = xE (zyEl zymx B H) 75 1 := xFr_E hfr rfl
      have q75_1 : xE (zyEl zymx B H) 75 1 = xE (zyEl zymx B s.heap) 75 1 := xFr_E hFr0 rfl
      have e75_2 : xE (zyEl zymx B H2) 75 2 = xE (zyEl zymx B H) 75 2 := xFr_E hfr rfl
      have q75_2 : xE (zyEl zymx B H) 75 2 = xE (zyEl zymx B s.heap) 75 2 := xFr_E hFr0 rfl
      have e75_5 : xE (zyEl zymx B H2) 75 5 = xE (zyEl zymx B H) 75 5 := xFr_E hfr rfl
      have e84 : ∀ i, xE (zyEl zymx B H2) 84 i = xE (zyEl zymx B H) 84 i := fun i => xFr_E hfr rfl
      have q84 : ∀ i, xE (zyEl zymx B H) 84 i = xE (zyEl zymx B s.heap) 84 i := fun i => xFr_E hFr0 rfl
      have e75 : ∀ i, xE (zyEl zymx B H2) 75 i = xE (zyEl zymx B H) 75 i := fun i => xFr_E hfr rfl
      have y74_42 : ((2147483648 : Nat) : Int) ≤ xE (zyEl zymx B s.heap) 74 42 + 2147483648 ∧ xE (zyEl zymx B s.heap) 74 42 + 2147483648 ≤ ((2147484548 : Nat) : Int) := xTyF hT0 74 42 42 rfl rfl rfl rfl rfl rfl
      have hI : (zyEl zymx B H) = (zyEl zymx B s.heap) := hInv
      have q74_36 : xE (zyEl zymx B H) 74 36 = xE (zyEl zymx B s.heap) 74 36 := by rw [hI]
      have q74_37 : xE (zyEl zymx B H) 74 37 = xE (zyEl zymx B s.heap) 74 37 := by rw [hI]
      have q74_38 : xE (zyEl zymx B H) 74 38 = xE (zyEl zymx B s.heap) 74 38 := by rw [hI]
      have q74_39 : xE (zyEl zymx B H) 74 39 = xE (zyEl zymx B s.heap) 74 39 := by rw [hI]
      have q74_40 : xE (zyEl zymx B H) 74 40 = xE (zyEl zymx B s.heap) 74 40 := by rw [hI]
      have q74_41 : xE (zyEl zymx B H) 74 41 = xE (zyEl zymx B s.heap) 74 41 := by rw [hI]
      have q75_5 : xE (zyEl zymx B H) 75 5 = xE (zyEl zymx B s.heap) 75 5 := by rw [hI]
      have q75 : ∀ i, xE (zyEl zymx B H) 75 i = xE (zyEl zymx B s.heap) 75 i := fun i => by rw [hI]
      refine xGo hIH hAt hB hv hFr ⟨1, by decide⟩ [0, 0] [0, 0] rfl ⟨by decide +kernel, ⟨rfl, by decide +kernel⟩, (xcs_c rfl (xcs_c rfl xcs_n)), (xe_0 (xe_0 xe_n)), xkq_n⟩ xst_n ?_ ?_
      · show (zyEl zymx B H2) = (zyEl zymx B s.heap)
        exact (xFr_n hfr).trans hI
      · show 1999 < 2000
        omega
    · have hx : x ∈ [zxfwd_ax0] := hx
      have hag : ∀ k, k < 2 → v2 k = v k := hag
      have hfr : xFr [] _ _ := hfr
      have ex := List.mem_singleton.mp hx
      subst ex
      obtain ⟨hF, hBd, hM⟩ := hXs
      have e74_36 : xE (zyEl zymx B H2) 74 36 = xE (zyEl zymx B H) 74 36 := xFr_E hfr rfl
      have e74_37 : xE (zyEl zymx B H2) 74 37 = xE (zyEl zymx B H) 74 37 := xFr_E hfr rfl
      have e74_38 : xE (zyEl zymx B H2) 74 38 = xE (zyEl zymx B H) 74 38 := xFr_E hfr rfl
      have e74_39 : xE (zyEl zymx B H2) 74 39 = xE (zyEl zymx B H) 74 39 := xFr_E hfr rfl
      have e74_40 : xE (zyEl zymx B H2) 74 40 = xE (zyEl zymx B H) 74 40 := xFr_E hfr rfl
      have e74_41 : xE (zyEl zymx B H2) 74 41 = xE (zyEl zymx B H) 74 41 := xFr_E hfr rfl
      have e74_42 : xE (zyEl zymx B H2) 74 42 = xE (zyEl zymx B H) 74 42 := xFr_E hfr rfl
      have q74_42 : xE (zyEl zymx B H) 74 42 = xE (zyEl zymx B s.heap) 74 42 := xFr_E hFr0 rfl
      have e75_0 : xE (zyEl zymx B H2) 75 0 = xE (zyEl zymx B H) 75 0 := xFr_E hfr rfl
      have q75_0 : xE (zyEl zymx B H) 75 0 = xE (zyEl zymx B s.heap) 75 0 := xFr_E hFr0 rfl
      have e75_1 : xE (zyEl zymx B H2) 75 1 = xE (zyEl zymx B H) 75 1 := xFr_E hfr rfl
      have q75_1 : xE (zyEl zymx B H) 75 1 = xE (zyEl zymx B s.heap) 75 1 := xFr_E hFr0 rfl
      have e75_2 : xE (zyEl zymx B H2) 75 2 = xE (zyEl zymx B H) 75 2 := xFr_E hfr rfl
      have q75_2 : xE (zyEl zymx B H) 75 2 = xE (zyEl zymx B s.heap) 75 2 := xFr_E hFr0 rfl
      have e75_5 : xE (zyEl zymx B H2) 75 5 = xE (zyEl zymx B H) 75 5 := xFr_E hfr rfl
      have e84 : ∀ i, xE (zyEl zymx B H2) 84 i = xE (zyEl zymx B H) 84 i := fun i => xFr_E hfr rfl
      have q84 : ∀ i, xE (zyEl zymx B H) 84 i = xE (zyEl zymx B s.heap) 84 i := fun i => xFr_E hFr0 rfl
      have e75 : ∀ i, xE (zyEl zymx B H2) 75 i = xE (zyEl zymx B H) 75 i := fun i => xFr_E hfr rfl
      have y74_42 : ((2147483648 : Nat) : Int) ≤ xE (zyEl zymx B s.heap) 74 42 + 2147483648 ∧ xE (zyEl zymx B s.heap) 74 42 + 2147483648 ≤ ((2147484548 : Nat) : Int) := xTyF hT0 74 42 42 rfl rfl rfl rfl rfl rfl
      have hI : (zyEl zymx B H) = (zyEl zymx B s.heap) := hInv
      have q74_36 : xE (zyEl zymx B H) 74 36 = xE (zyEl zymx B s.heap) 74 36 := by rw [hI]
      have q74_37 : xE (zyEl zymx B H) 74 37 = xE (zyEl zymx B s.heap) 74 37 := by rw [hI]
      have q74_38 : xE (zyEl zymx B H) 74 38 = xE (zyEl zymx B s.heap) 74 38 := by rw [hI]
      have q74_39 : xE (zyEl zymx B H) 74 39 = xE (zyEl zymx B s.heap) 74 39 := by rw [hI]
      have q74_40 : xE (zyEl zymx B H) 74 40 = xE (zyEl zymx B s.heap) 74 40 := by rw [hI]
      have q74_41 : xE (zyEl zymx B H) 74 41 = xE (zyEl zymx B s.heap) 74 41 := by rw [hI]
      have q75_5 : xE (zyEl zymx B H) 75 5 = xE (zyEl zymx B s.heap) 75 5 := by rw [hI]
      have q75 : ∀ i, xE (zyEl zymx B H) 75 i = xE (zyEl zymx B s.heap) 75 i := fun i => by rw [hI]
      obtain ⟨hP1, hP2⟩ := (show xΦwd x0 (zyEl zymx B s.heap) from hΦ)
      have hc : ∀ k, xE (zyEl zymx B H) 75 k = xE (zyEl zymx B s.heap) 75 k := fun k => by rw [hI]
      refine xCa hRu hIH hAt hB hv hFr (hfrd B) (ix := 450) (ax := 5024) rfl rfl rfl hmefrd ⟨_, rfl, rfl, by decide⟩ ⟨rfl, rfl, rfl⟩ (by decide) [] [] [] rfl ⟨rfl, rfl⟩ (by decide +kernel) xcs_n (by decide +kernel) ?_ (fun H3 r hT3 hf3 hFr3 hr3 hΨ3 => ?_)
      · show xΦrd (xfv []) (zyEl zymx B H2)
        unfold xΦrd
        omega
      · have hΨ3 : xΨrd (xfv []) (zyEl zymx B H2) (zyEl zymx B H3) r := hΨ3
        have d74_36 : xE (zyEl zymx B H3) 74 36 = xE (zyEl zymx B H2) 74 36 := xFr_E hf3 rfl
        have d74_37 : xE (zyEl zymx B H3) 74 37 = xE (zyEl zymx B H2) 74 37 := xFr_E hf3 rfl
        have d74_42 : xE (zyEl zymx B H3) 74 42 = xE (zyEl zymx B H2) 74 42 := xFr_E hf3 rfl
        have d75_0 : xE (zyEl zymx B H3) 75 0 = xE (zyEl zymx B H2) 75 0 := xFr_E hf3 rfl
        have d75_1 : xE (zyEl zymx B H3) 75 1 = xE (zyEl zymx B H2) 75 1 := xFr_E hf3 rfl
        have d75_2 : xE (zyEl zymx B H3) 75 2 = xE (zyEl zymx B H2) 75 2 := xFr_E hf3 rfl
        have d75_5 : xE (zyEl zymx B H3) 75 5 = xE (zyEl zymx B H2) 75 5 := xFr_E hf3 rfl
        have d84 : ∀ i, xE (zyEl zymx B H3) 84 i = xE (zyEl zymx B H2) 84 i := fun i => xFr_E hf3 rfl
        have d75 : ∀ i, xE (zyEl zymx B H3) 75 i = xE (zyEl zymx B H2) 75 i := fun i => xFr_E hf3 rfl
        unfold xΨrd at hΨ3
        rw [show xE (zyEl zymx B H2) 84 = xE (zyEl zymx B s.heap) 84 from funext fun i => (e84 i).trans (q84 i), show xE (zyEl zymx B H2) 74 42 = xE (zyEl zymx B s.heap) 74 42 by omega, show xE (zyEl zymx B H2) 74 39 = (xE (zyEl zymx B s.heap) 74 39) by omega] at hΨ3
        refine ⟨⟨2, by decide⟩, [0, 0], [0, 0], rfl, ⟨by decide +kernel, ⟨rfl, by decide +kernel⟩, (xcs_c rfl (xcs_c rfl xcs_n)), (xe_0 (xe_0 xe_n)), xkq_n⟩, (by rw [if_neg (by decide)]; exact xst_n), ?_, ?_⟩
        · show xE (zyEl zymx B H3) 74 36 = 0 ∧ (∀ k, xE (zyEl zymx B H3) 75 k = xE (zyEl zymx B s.heap) 75 k) ∧ ((xE (zyEl zymx B s.heap) 74 39)) ≤ (xE (zyEl zymx B s.heap) 74 42) ∧ xRD (xE (zyEl zymx B s.heap) 84) (xE (zyEl zymx B s.heap) 74 42) ((xE (zyEl zymx B s.heap) 74 39)) (zyEl zymx B H3)
          exact ⟨by omega, fun k => (d75 k).trans ((e75 k).trans (hc k)), hP2, hΨ3⟩
        · show 1998 < 1999
          omega
    · have hx : x ∈ [zxfwd_bx0] := hx
      have hag : ∀ k, k < 2 → v2 k = v k := hag
      have hfr : xFr [] _ _ := hfr
      have ex := List.mem_singleton.mp hx
      subst ex
      obtain ⟨hF, hBd, hM⟩ := hXs
      have e74_36 : xE (zyEl zymx B H2) 74 36 = xE (zyEl zymx B H) 74 36 := xFr_E hfr rfl
      have e74_37 : xE (zyEl zymx B H2) 74 37 = xE (zyEl zymx B H) 74 37 := xFr_E hfr rfl
      have e74_38 : xE (zyEl zymx B H2) 74 38 = xE (zyEl zymx B H) 74 38 := xFr_E hfr rfl
      have e74_39 : xE (zyEl zymx B H2) 74 39 = xE (zyEl zymx B H) 74 39 := xFr_E hfr rfl
      have e74_40 : xE (zyEl zymx B H2) 74 40 = xE (zyEl zymx B H) 74 40 := xFr_E hfr rfl
      have e74_41 : xE (zyEl zymx B H2) 74 41 = xE (zyEl zymx B H) 74 41 := xFr_E hfr rfl
      have e74_42 : xE (zyEl zymx B H2) 74 42 = xE (zyEl zymx B H) 74 42 := xFr_E hfr rfl
      have q74_42 : xE (zyEl zymx B H) 74 42 = xE (zyEl zymx B s.heap) 74 42 := xFr_E hFr0 rfl
      have e75_0 : xE (zyEl zymx B H2) 75 0 = xE (zyEl zymx B H) 75 0 := xFr_E hfr rfl
      have q75_0 : xE (zyEl zymx B H) 75 0 = xE (zyEl zymx B s.heap) 75 0 := xFr_E hFr0 rfl
      have e75_1 : xE (zyEl zymx B H2) 75 1 = xE (zyEl zymx B H) 75 1 := xFr_E hfr rfl
      have q75_1 : xE (zyEl zymx B H) 75 1 = xE (zyEl zymx B s.heap) 75 1 := xFr_E hFr0 rfl
      have e75_2 : xE (zyEl zymx B H2) 75 2 = xE (zyEl zymx B H) 75 2 := xFr_E hfr rfl
      have q75_2 : xE (zyEl zymx B H) 75 2 = xE (zyEl zymx B s.heap) 75 2 := xFr_E hFr0 rfl
      have e75_5 : xE (zyEl zymx B H2) 75 5 = xE (zyEl zymx B H) 75 5 := xFr_E hfr rfl
      have e84 : ∀ i, xE (zyEl zymx B H2) 84 i = xE (zyEl zymx B H) 84 i := fun i => xFr_E hfr rfl
      have q84 : ∀ i, xE (zyEl zymx B H) 84 i = xE (zyEl zymx B s.heap) 84 i := fun i => xFr_E hFr0 rfl
      have e75 : ∀ i, xE (zyEl zymx B H2) 75 i = xE (zyEl zymx B H) 75 i := fun i => xFr_E hfr rfl
      have y74_42 : ((2147483648 : Nat) : Int) ≤ xE (zyEl zymx B s.heap) 74 42 + 2147483648 ∧ xE (zyEl zymx B s.heap) 74 42 + 2147483648 ≤ ((2147484548 : Nat) : Int) := xTyF hT0 74 42 42 rfl rfl rfl rfl rfl rfl
      have hI : xE (zyEl zymx B H) 74 36 = 0 ∧ (∀ k, xE (zyEl zymx B H) 75 k = xE (zyEl zymx B s.heap) 75 k) ∧ ((xE (zyEl zymx B s.heap) 74 39)) ≤ (xE (zyEl zymx B s.heap) 74 42) ∧ xRD (xE (zyEl zymx B s.heap) 84) (xE (zyEl zymx B s.heap) 74 42) ((xE (zyEl zymx B s.heap) 74 39)) (zyEl zymx B H) := hInv
      obtain ⟨i1, hc, hp, hs⟩ := hI
      have hEE : (zyEl zymx B H2) = (zyEl zymx B H) := xFr_n hfr
      refine xSt hRu hIH hAt hB hv hFr 75 (ax := 0) 0 40 0 5 rfl (Or.inl ⟨rfl, rfl⟩) rfl (by decide +kernel) rfl rfl (by omega) (by show 5 < ((556 : Nat) : Int); omega) (fun r hr q1 q2 => by rw [List.mem_singleton.mp hr]; exact ⟨rfl, by show ((0 : Nat) : Int) ≤ 0 + 2147483648; omega, by show 0 + 2147483648 ≤ ((4294967295 : Nat) : Int); omega⟩) (zyin_iff.mpr ⟨(75, 5, 5), by decide, rfl, (by show 5 ≤ Int.toNat 5; omega), by show Int.toNat 5 ≤ 5; omega⟩) (fun H3 hT3 hst3 hne3 hfn3 hFr3 => ?_)
      have hfe3 : ∀ (a2 : Nat) (k2 : Int), ¬ a2 = 75 → xE (zyEl zymx B H3) a2 k2 = xE (zyEl zymx B H2) a2 k2 := fun a2 k2 hne => by unfold xE; rw [hfn3 a2 k2.toNat (fun z => hne z.1)]
      have d74_36 : xE (zyEl zymx B H3) 74 36 = xE (zyEl zymx B H2) 74 36 := hfe3 74 36 (fun z => absurd z (by decide))
      have d74_37 : xE (zyEl zymx B H3) 74 37 = xE (zyEl zymx B H2) 74 37 := hfe3 74 37 (fun z => absurd z (by decide))
      have d74_38 : xE (zyEl zymx B H3) 74 38 = xE (zyEl zymx B H2) 74 38 := hfe3 74 38 (fun z => absurd z (by decide))
      have d74_39 : xE (zyEl zymx B H3) 74 39 = xE (zyEl zymx B H2) 74 39 := hfe3 74 39 (fun z => absurd z (by decide))
      have d74_40 : xE (zyEl zymx B H3) 74 40 = xE (zyEl zymx B H2) 74 40 := hfe3 74 40 (fun z => absurd z (by decide))
      have d74_41 : xE (zyEl zymx B H3) 74 41 = xE (zyEl zymx B H2) 74 41 := hfe3 74 41 (fun z => absurd z (by decide))
      have d74_42 : xE (zyEl zymx B H3) 74 42 = xE (zyEl zymx B H2) 74 42 := hfe3 74 42 (fun z => absurd z (by decide))
      have z74_36 : ((2147483648 : Nat) : Int) ≤ xE (zyEl zymx B H3) 74 36 + 2147483648 ∧ xE (zyEl zymx B H3) 74 36 + 2147483648 ≤ ((2147483657 : Nat) : Int) := xTyF hT3 74 36 36 rfl rfl rfl rfl rfl rfl
      have z74_40 : ((2147483648 : Nat) : Int) ≤ xE (zyEl zymx B H3) 74 40 + 2147483648 ∧ xE (zyEl zymx B H3) 74 40 + 2147483648 ≤ ((2147483652 : Nat) : Int) := xTyF hT3 74 40 40 rfl rfl rfl rfl rfl rfl
      refine ⟨⟨3, by decide⟩, [0, 0], [0, 0, xE (zyEl zymx B H3) 74 36, xE (zyEl zymx B H3) 74 40], rfl, ⟨by decide +kernel, ⟨rfl, by decide +kernel⟩, (xcs_c rfl (xcs_c rfl xcs_n)), (xe_0 (xe_0 (xe_c (by omega) (by omega) rfl (xe_c (by omega) (by omega) rfl xe_n)))), (xkq_c hT3 74 36 (q := 36) rfl rfl rfl rfl rfl rfl rfl rfl rfl rfl rfl (xkq_c hT3 74 40 (q := 40) rfl rfl rfl rfl rfl rfl rfl rfl rfl rfl rfl xkq_n))⟩, rfl, ?_, ?_⟩
      · show xE (zyEl zymx B H3) 74 36 = 0 ∧ ∃ p Si, ((p) ≤ (xE (zyEl zymx B s.heap) 74 42) ∧ xRD (xE (zyEl zymx B s.heap) 84) (xE (zyEl zymx B s.heap) 74 42) (p) (zyEl zymx B H3)) ∧ (0 ≤ Si 5 ∧ Si 5 ≤ 60) ∧ (∀ k, 0 ≤ k → xE (zyEl zymx B H3) 75 k = Si k) ∧ pWs (xE (zyEl zymx B s.heap) 84) (xE (zyEl zymx B s.heap) 74 42) 60 (xE (zyEl zymx B s.heap) 74 39) (uS (xE (zyEl zymx B s.heap) 75) 5 0) = pWs (xE (zyEl zymx B s.heap) 84) (xE (zyEl zymx B s.heap) 74 42) (60 - Si 5).toNat p Si
        refine ⟨by omega, (xE (zyEl zymx B s.heap) 74 39), uS (xE (zyEl zymx B s.heap) 75) 5 0, ⟨hp, xRD_e (xRD_k hs hfr rfl rfl rfl rfl rfl) (fun k _ => hfn3 74 k (fun z => absurd z.1 (by decide)))⟩, ?_, fun k k0 => ?_, ?_⟩
        · rw [uS_e rfl]
          omega
        · by_cases e : k = 5
          · rw [uS_e e, e]
            exact hst3
          · rw [uS_n e, hne3 75 k k0 (fun z => e (by omega)), e75]
            exact hc k
        · rw [uS_e rfl]
          rfl
      · show 10 * (70 - xE (zyEl zymx B H3) 75 5).toNat + 9 < 1998
        have h5 : xE (zyEl zymx B H3) 75 5 = 0 := hst3
        omega
    · have hx : x ∈ [zxfwd_hx0, zxfwd_hx1, zxfwd_hx2] := hx
      have hag : ∀ k, k < 4 → v2 k = v k := hag
      have hfr : xFr [] _ _ := hfr
      rcases List.mem_cons.mp hx with ex | hx
      · subst ex
        obtain ⟨hF, hBd, hM⟩ := hXs
        have g2 : v2 2 = v 2 := hag 2 (by decide)
        have g3 : v2 3 = v 3 := hag 3 (by decide)
        have b0 : ((2147483648 : Nat) : Int) ≤ (v2 2) + 2147483648 ∧ (v2 2) + 2147483648 ≤ ((2147483648 : Nat) : Int) := xXb hBd 0 rfl
        have b1 : ((2147483651 : Nat) : Int) ≤ (v2 3) + 2147483648 ∧ (v2 3) + 2147483648 ≤ ((2147483652 : Nat) : Int) := xXb hBd 1 rfl
        have k0 : xE (zyEl zymx B H) 74 36 = v 2 := xKcf hKc 0 rfl rfl
        have k1 : xE (zyEl zymx B H) 74 40 = v 3 := xKcf hKc 1 rfl rfl
        have f0 : (v2 2) = 0 := xXf hF 0 rfl
        have f1 : ¬ (v2 3) = 2 := xXf hF 1 rfl
        have e74_36 : xE (zyEl zymx B H2) 74 36 = xE (zyEl zymx B H) 74 36 := xFr_E hfr rfl
        have e74_37 : xE (zyEl zymx B H2) 74 37 = xE (zyEl zymx B H) 74 37 := xFr_E hfr rfl
        have e74_38 : xE (zyEl zymx B H2) 74 38 = xE (zyEl zymx B H) 74 38 := xFr_E hfr rfl
        have e74_39 : xE (zyEl zymx B H2) 74 39 = xE (zyEl zymx B H) 74 39 := xFr_E hfr rfl
        have e74_40 : xE (zyEl zymx B H2) 74 40 = xE (zyEl zymx B H) 74 40 := xFr_E hfr rfl
        have e74_41 : xE (zyEl zymx B H2) 74 41 = xE (zyEl zymx B H) 74 41 := xFr_E hfr rfl
        have e74_42 : xE (zyEl zymx B H2) 74 42 = xE (zyEl zymx B H) 74 42 := xFr_E hfr rfl
        have q74_42 : xE (zyEl zymx B H) 74 42 = xE (zyEl zymx B s.heap) 74 42 := xFr_E hFr0 rfl
        have e75_0 : xE (zyEl zymx B H2) 75 0 = xE (zyEl zymx B H) 75 0 := xFr_E hfr rfl
        have q75_0 : xE (zyEl zymx B H) 75 0 = xE (zyEl zymx B s.heap) 75 0 := xFr_E hFr0 rfl
        have e75_1 : xE (zyEl zymx B H2) 75 1 = xE (zyEl zymx B H) 75 1 := xFr_E hfr rfl
        have q75_1 : xE (zyEl zymx B H) 75 1 = xE (zyEl zymx B s.heap) 75 1 := xFr_E hFr0 rfl
        have e75_2 : xE (zyEl zymx B H2) 75 2 = xE (zyEl zymx B H) 75 2 := xFr_E hfr rfl
        have q75_2 : xE (zyEl zymx B H) 75 2 = xE (zyEl zymx B s.heap) 75 2 := xFr_E hFr0 rfl
        have e75_5 : xE (zyEl zymx B H2) 75 5 = xE (zyEl zymx B H) 75 5 := xFr_E hfr rfl
        have e84 : ∀ i, xE (zyEl zymx B H2) 84 i = xE (zyEl zymx B H) 84 i := fun i => xFr_E hfr rfl
        have q84 : ∀ i, xE (zyEl zymx B H) 84 i = xE (zyEl zymx B s.heap) 84 i := fun i => xFr_E hFr0 rfl
        have e75 : ∀ i, xE (zyEl zymx B H2) 75 i = xE (zyEl zymx B H) 75 i := fun i => xFr_E hfr rfl
        have y74_42 : ((2147483648 : Nat) : Int) ≤ xE (zyEl zymx B s.heap) 74 42 + 2147483648 ∧ xE (zyEl zymx B s.heap) 74 42 + 2147483648 ≤ ((2147484548 : Nat) : Int) := xTyF hT0 74 42 42 rfl rfl rfl rfl rfl rfl
        have hI : xE (zyEl zymx B H) 74 36 = 0 ∧ ∃ p Si, ((p) ≤ (xE (zyEl zymx B s.heap) 74 42) ∧ xRD (xE (zyEl zymx B s.heap) 84) (xE (zyEl zymx B s.heap) 74 42) (p) (zyEl zymx B H)) ∧ (0 ≤ Si 5 ∧ Si 5 ≤ 60) ∧ (∀ k, 0 ≤ k → xE (zyEl zymx B H) 75 k = Si k) ∧ pWs (xE (zyEl zymx B s.heap) 84) (xE (zyEl zymx B s.heap) 74 42) 60 (xE (zyEl zymx B s.heap) 74 39) (uS (xE (zyEl zymx B s.heap) 75) 5 0) = pWs (xE (zyEl zymx B s.heap) 84) (xE (zyEl zymx B s.heap) 74 42) (60 - Si 5).toNat p Si := hInv
        obtain ⟨i1, p, Si, ⟨hp, hs⟩, h5, hc, ht⟩ := hI
        have h55 := hc 5 (by decide)
        have hEE : (zyEl zymx B H2) = (zyEl zymx B H) := xFr_n hfr
        have hs2 : xRD (xE (zyEl zymx B s.heap) 84) (xE (zyEl zymx B s.heap) 74 42) p (zyEl zymx B H2) := by rw [hEE]; exact hs
        obtain ⟨s1, s1b, s2, s3, s4, s5, s6, s7, s8⟩ := xRD_i hs2 hp
        refine xCa hRu hIH hAt hB hv hFr (hfis B) (ix := 466) (ax := 5072) rfl rfl rfl hmefis ⟨_, rfl, rfl, by decide⟩ ⟨rfl, rfl, rfl⟩ (by decide) [360] [] [45] rfl ⟨rfl, rfl⟩ (by decide +kernel) (xcs_c rfl xcs_n) (by decide +kernel) ?_ (fun H3 r hT3 hf3 hFr3 hr3 hΨ3 => ?_)
        · show xΦis (xfv [45]) (zyEl zymx B H2)
          intro q0 q1
          omega
        · have hΨ3 : xΨis (xfv [45]) (zyEl zymx B H2) (zyEl zymx B H3) r := hΨ3
          have d74_36 : xE (zyEl zymx B H3) 74 36 = xE (zyEl zymx B H2) 74 36 := xFr_E hf3 rfl
          have d74_37 : xE (zyEl zymx B H3) 74 37 = xE (zyEl zymx B H2) 74 37 := xFr_E hf3 rfl
          have d74_38 : xE (zyEl zymx B H3) 74 38 = xE (zyEl zymx B H2) 74 38 := xFr_E hf3 rfl
          have d74_39 : xE (zyEl zymx B H3) 74 39 = xE (zyEl zymx B H2) 74 39 := xFr_E hf3 rfl
          have d74_40 : xE (zyEl zymx B H3) 74 40 = xE (zyEl zymx B H2) 74 40 := xFr_E hf3 rfl
          have d74_41 : xE (zyEl zymx B H3) 74 41 = xE (zyEl zymx B H2) 74 41 := xFr_E hf3 rfl
          have d74_42 : xE (zyEl zymx B H3) 74 42 = xE (zyEl zymx B H2) 74 42 := xFr_E hf3 rfl
          have d75_0 : xE (zyEl zymx B H3) 75 0 = xE (zyEl zymx B H2) 75 0 := xFr_E hf3 rfl
          have d75_1 : xE (zyEl zymx B H3) 75 1 = xE (zyEl zymx B H2) 75 1 := xFr_E hf3 rfl
          have d75_2 : xE (zyEl zymx B H3) 75 2 = xE (zyEl zymx B H2) 75 2 := xFr_E hf3 rfl
          have d75_5 : xE (zyEl zymx B H3) 75 5 = xE (zyEl zymx B H2) 75 5 := xFr_E hf3 rfl
          have d84 : ∀ i, xE (zyEl zymx B H3) 84 i = xE (zyEl zymx B H2) 84 i := fun i => xFr_E hf3 rfl
          have d75 : ∀ i, xE (zyEl zymx B H3) 75 i = xE (zyEl zymx B H2) 75 i := fun i => xFr_E hf3 rfl
          have hr : r = if tKd (xE (zyEl zymx B s.heap) 84) (xE (zyEl zymx B s.heap) 74 42) p = 4 then 1 else 0 := (xIs_g (x := xfv [45]) hΨ3 (by omega) hs2 hp (fun i => (e84 i).trans (q84 i))).1 rfl
          have hE3 : (zyEl zymx B H3) = (zyEl zymx B H2) := xFr_n hf3
          refine ⟨⟨4, by decide⟩, [0, 0], [0, 0, r], rfl, ⟨by decide +kernel, ⟨rfl, by decide +kernel⟩, (xcs_c rfl (xcs_c rfl xcs_n)), (xe_0 (xe_0 (xe_c (by omega) (by omega) rfl xe_n))), xkq_n⟩, (by rw [if_pos rfl]; exact ⟨2, [], rfl, by decide, rfl, xst_n⟩), ?_, ?_⟩
          · show xE (zyEl zymx B H3) 74 36 = 0 ∧ ∃ p Si, ((p) ≤ (xE (zyEl zymx B s.heap) 74 42) ∧ xRD (xE (zyEl zymx B s.heap) 84) (xE (zyEl zymx B s.heap) 74 42) (p) (zyEl zymx B H3)) ∧ (0 ≤ Si 5 ∧ Si 5 ≤ 60) ∧ (∀ k, 0 ≤ k → xE (zyEl zymx B H3) 75 k = Si k) ∧ pWs (xE (zyEl zymx B s.heap) 84) (xE (zyEl zymx B s.heap) 74 42) 60 (xE (zyEl zymx B s.heap) 74 39) (uS (xE (zyEl zymx B s.heap) 75) 5 0) = pWs (xE (zyEl zymx B s.heap) 84) (xE (zyEl zymx B s.heap) 74 42) (60 - Si 5).toNat p Si ∧ ¬ tKd (xE (zyEl zymx B s.heap) 84) (xE (zyEl zymx B s.heap) 74 42) p = 3 ∧ ((r : Int) = if tKd (xE (zyEl zymx B s.heap) 84) (xE (zyEl zymx B s.heap) 74 42) p = 4 then 1 else 0)
            refine ⟨by omega, p, Si, ⟨hp, by rw [hE3]; exact hs2⟩, h5, fun k k0 => (d75 k).trans ((e75 k).trans (hc k k0)), ht, by omega, hr⟩
          · show 10 * (70 - xE (zyEl zymx B H3) 75 5).toNat + 8 < 10 * (70 - xE (zyEl zymx B H) 75 5).toNat + 9
            have h5e : xE (zyEl zymx B H3) 75 5 = xE (zyEl zymx B H) 75 5 := (d75 5).trans (e75 5)
            omega
      · skip
        rcases List.mem_cons.mp hx with ex | hx
        · subst ex
          obtain ⟨hF, hBd, hM⟩ := hXs
          have g2 : v2 2 = v 2 := hag 2 (by decide)
          have g3 : v2 3 = v 3 := hag 3 (by decide)
          have b0 : ((2147483648 : Nat) : Int) ≤ (v2 2) + 2147483648 ∧ (v2 2) + 2147483648 ≤ ((2147483648 : Nat) : Int) := xXb hBd 0 rfl
          have b1 : ((2147483648 : Nat) : Int) ≤ (v2 3) + 2147483648 ∧ (v2 3) + 2147483648 ≤ ((2147483649 : Nat) : Int) := xXb hBd 1 rfl
          have k0 : xE (zyEl zymx B H) 74 36 = v 2 := xKcf hKc 0 rfl rfl
          have k1 : xE (zyEl zymx B H) 74 40 = v 3 := xKcf hKc 1 rfl rfl
          have f0 : (v2 2) = 0 := xXf hF 0 rfl
          have f1 : ¬ (v2 3) = 2 := xXf hF 1 rfl
          have e74_36 : xE (zyEl zymx B H2) 74 36 = xE (zyEl zymx B H) 74 36 := xFr_E hfr rfl
          have e74_37 : xE (zyEl zymx B H2) 74 37 = xE (zyEl zymx B H) 74 37 := xFr_E hfr rfl
          have e74_38 : xE (zyEl zymx B H2) 74 38 = xE (zyEl zymx B H) 74 38 := xFr_E hfr rfl
          have e74_39 : xE (zyEl zymx B H2) 74 39 = xE (zyEl zymx B H) 74 39 := xFr_E hfr rfl
          have e74_40 : xE (zyEl zymx B H2) 74 40 = xE (zyEl zymx B H) 74 40 := xFr_E hfr rfl
          have e74_41 : xE (zyEl zymx B H2) 74 41 = xE (zyEl zymx B H) 74 41 := xFr_E hfr rfl
          have e74_42 : xE (zyEl zymx B H2) 74 42 = xE (zyEl zymx B H) 74 42 := xFr_E hfr rfl
          have q74_42 : xE (zyEl zymx B H) 74 42 = xE (zyEl zymx B s.heap) 74 42 := xFr_E hFr0 rfl
          have e75_0 : xE (zyEl zymx B H2) 75 0 = xE (zyEl zymx B H) 75 0 := xFr_E hfr rfl
          have q75_0 : xE (zyEl zymx B H) 75 0 = xE (zyEl zymx B s.heap) 75 0 := xFr_E hFr0 rfl
          have e75_1 : xE (zyEl zymx B H2) 75 1 = xE (zyEl zymx B H) 75 1 := xFr_E hfr rfl
          have q75_1 : xE (zyEl zymx B H) 75 1 = xE (zyEl zymx B s.heap) 75 1 := xFr_E hFr0 rfl
          have e75_2 : xE (zyEl zymx B H2) 75 2 = xE (zyEl zymx B H) 75 2 := xFr_E hfr rfl
          have q75_2 : xE (zyEl zymx B H) 75 2 = xE (zyEl zymx B s.heap) 75 2 := xFr_E hFr0 rfl
          have e75_5 : xE (zyEl zymx B H2) 75 5 = xE (zyEl zymx B H) 75 5 := xFr_E hfr rfl
          have e84 : ∀ i, xE (zyEl zymx B H2) 84 i = xE (zyEl zymx B H) 84 i := fun i => xFr_E hfr rfl
          have q84 : ∀ i, xE (zyEl zymx B H) 84 i = xE (zyEl zymx B s.heap) 84 i := fun i => xFr_E hFr0 rfl
          have e75 : ∀ i, xE (zyEl zymx B H2) 75 i = xE (zyEl zymx B H) 75 i := fun i => xFr_E hfr rfl
          have y74_42 : ((2147483648 : Nat) : Int) ≤ xE (zyEl zymx B s.heap) 74 42 + 2147483648 ∧ xE (zyEl zymx B s.heap) 74 42 + 2147483648 ≤ ((2147484548 : Nat) : Int) := xTyF hT0 74 42 42 rfl rfl rfl rfl rfl rfl
          have hI : xE (zyEl zymx B H) 74 36 = 0 ∧ ∃ p Si, ((p) ≤ (xE (zyEl zymx B s.heap) 74 42) ∧ xRD (xE (zyEl zymx B s.heap) 84) (xE (zyEl zymx B s.heap) 74 42) (p) (zyEl zymx B H)) ∧ (0 ≤ Si 5 ∧ Si 5 ≤ 60) ∧ (∀ k, 0 ≤ k → xE (zyEl zymx B H) 75 k = Si k) ∧ pWs (xE (zyEl zymx B s.heap) 84) (xE (zyEl zymx B s.heap) 74 42) 60 (xE (zyEl zymx B s.heap) 74 39) (uS (xE (zyEl zymx B s.heap) 75) 5 0) = pWs (xE (zyEl zymx B s.heap) 84) (xE (zyEl zymx B s.heap) 74 42) (60 - Si 5).toNat p Si := hInv
          obtain ⟨i1, p, Si, ⟨hp, hs⟩, h5, hc, ht⟩ := hI
          have h55 := hc 5 (by decide)
          have hEE : (zyEl zymx B H2) = (zyEl zymx B H) := xFr_n hfr
          have hs2 : xRD (xE (zyEl zymx B s.heap) 84) (xE (zyEl zymx B s.heap) 74 42) p (zyEl zymx B H2) := by rw [hEE]; exact hs
          obtain ⟨s1, s1b, s2, s3, s4, s5, s6, s7, s8⟩ := xRD_i hs2 hp
          refine xCa hRu hIH hAt hB hv hFr (hfis B) (ix := 466) (ax := 5072) rfl rfl rfl hmefis ⟨_, rfl, rfl, by decide⟩ ⟨rfl, rfl, rfl⟩ (by decide) [360] [] [45] rfl ⟨rfl, rfl⟩ (by decide +kernel) (xcs_c rfl xcs_n) (by decide +kernel) ?_ (fun H3 r hT3 hf3 hFr3 hr3 hΨ3 => ?_)
          · show xΦis (xfv [45]) (zyEl zymx B H2)
            intro q0 q1
            omega
          · have hΨ3 : xΨis (xfv [45]) (zyEl zymx B H2) (zyEl zymx B H3) r := hΨ3
            have d74_36 : xE (zyEl zymx B H3) 74 36 = xE (zyEl zymx B H2) 74 36 := xFr_E hf3 rfl
            have d74_37 : xE (zyEl zymx B H3) 74 37 = xE (zyEl zymx B H2) 74 37 := xFr_E hf3 rfl
            have d74_38 : xE (zyEl zymx B H3) 74 38 = xE (zyEl zymx B H2) 74 38 := xFr_E hf3 rfl
            have d74_39 : xE (zyEl zymx B H3) 74 39 = xE (zyEl zymx B H2) 74 39 := xFr_E hf3 rfl
            have d74_40 : xE (zyEl zymx B H3) 74 40 = xE (zyEl zymx B H2) 74 40 := xFr_E hf3 rfl
            have d74_41 : xE (zyEl zymx B H3) 74 41 = xE (zyEl zymx B H2) 74 41 := xFr_E hf3 rfl
            have d74_42 : xE (zyEl zymx B H3) 74 42 = xE (zyEl zymx B H2) 74 42 := xFr_E hf3 rfl
            have d75_0 : xE (zyEl zymx B H3) 75 0 = xE (zyEl zymx B H2) 75 0 := xFr_E hf3 rfl
            have d75_1 : xE (zyEl zymx B H3) 75 1 = xE (zyEl zymx B H2) 75 1 := xFr_E hf3 rfl
            have d75_2 : xE (zyEl zymx B H3) 75 2 = xE (zyEl zymx B H2) 75 2 := xFr_E hf3 rfl
            have d75_5 : xE (zyEl zymx B H3) 75 5 = xE (zyEl zymx B H2) 75 5 := xFr_E hf3 rfl
            have d84 : ∀ i, xE (zyEl zymx B H3) 84 i = xE (zyEl zymx B H2) 84 i := fun i => xFr_E hf3 rfl
            have d75 : ∀ i, xE (zyEl zymx B H3) 75 i = xE (zyEl zymx B H2) 75 i := fun i => xFr_E hf3 rfl
            have hr : r = if tKd (xE (zyEl zymx B s.heap) 84) (xE (zyEl zymx B s.heap) 74 42) p = 4 then 1 else 0 := (xIs_g (x := xfv [45]) hΨ3 (by omega) hs2 hp (fun i => (e84 i).trans (q84 i))).1 rfl
            have hE3 : (zyEl zymx B H3) = (zyEl zymx B H2) := xFr_n hf3
            refine ⟨⟨4, by decide⟩, [0, 0], [0, 0, r], rfl, ⟨by decide +kernel, ⟨rfl, by decide +kernel⟩, (xcs_c rfl (xcs_c rfl xcs_n)), (xe_0 (xe_0 (xe_c (by omega) (by omega) rfl xe_n))), xkq_n⟩, (by rw [if_pos rfl]; exact ⟨2, [], rfl, by decide, rfl, xst_n⟩), ?_, ?_⟩
            · show xE (zyEl zymx B H3) 74 36 = 0 ∧ ∃ p Si, ((p) ≤ (xE (zyEl zymx B s.heap) 74 42) ∧ xRD (xE (zyEl zymx B s.heap) 84) (xE (zyEl zymx B s.heap) 74 42) (p) (zyEl zymx B H3)) ∧ (0 ≤ Si 5 ∧ Si 5 ≤ 60) ∧ (∀ k, 0 ≤ k → xE (zyEl zymx B H3) 75 k = Si k) ∧ pWs (xE (zyEl zymx B s.heap) 84) (xE (zyEl zymx B s.heap) 74 42) 60 (xE (zyEl zymx B s.heap) 74 39) (uS (xE (zyEl zymx B s.heap) 75) 5 0) = pWs (xE (zyEl zymx B s.heap) 84) (xE (zyEl zymx B s.heap) 74 42) (60 - Si 5).toNat p Si ∧ ¬ tKd (xE (zyEl zymx B s.heap) 84) (xE (zyEl zymx B s.heap) 74 42) p = 3 ∧ ((r : Int) = if tKd (xE (zyEl zymx B s.heap) 84) (xE (zyEl zymx B s.heap) 74 42) p = 4 then 1 else 0)
              refine ⟨by omega, p, Si, ⟨hp, by rw [hE3]; exact hs2⟩, h5, fun k k0 => (d75 k).trans ((e75 k).trans (hc k k0)), ht, by omega, hr⟩
            · show 10 * (70 - xE (zyEl zymx B H3) 75 5).toNat + 8 < 10 * (70 - xE (zyEl zymx B H) 75 5).toNat + 9
              have h5e : xE (zyEl zymx B H3) 75 5 = xE (zyEl zymx B H) 75 5 := (d75 5).trans (e75 5)
              omega
        · skip
          have ex := List.mem_singleton.mp hx
          subst ex
          obtain ⟨hF, hBd, hM⟩ := hXs
          have g2 : v2 2 = v 2 := hag 2 (by decide)
          have g3 : v2 3 = v 3 := hag 3 (by decide)
          have b0 : ((2147483648 : Nat) : Int) ≤ (v2 2) + 2147483648 ∧ (v2 2) + 2147483648 ≤ ((2147483648 : Nat) : Int) := xXb hBd 0 rfl
          have b1 : ((2147483650 : Nat) : Int) ≤ (v2 3) + 2147483648 ∧ (v2 3) + 2147483648 ≤ ((2147483650 : Nat) : Int) := xXb hBd 1 rfl
          have k0 : xE (zyEl zymx B H) 74 36 = v 2 := xKcf hKc 0 rfl rfl
          have k1 : xE (zyEl zymx B H) 74 40 = v 3 := xKcf hKc 1 rfl rfl
          have f0 : (v2 2) = 0 := xXf hF 0 rfl
          have f1 : (v2 3) = 2 := xXf hF 1 rfl
          have e74_36 : xE (zyEl zymx B H2) 74 36 = xE (zyEl zymx B H) 74 36 := xFr_E hfr rfl
          have e74_37 : xE (zyEl zymx B H2) 74 37 = xE (zyEl zymx B H) 74 37 := xFr_E hfr rfl
          have e74_38 : xE (zyEl zymx B H2) 74 38 = xE (zyEl zymx B H) 74 38 := xFr_E hfr rfl
          have e74_39 : xE (zyEl zymx B H2) 74 39 = xE (zyEl zymx B H) 74 39 := xFr_E hfr rfl
          have e74_40 : xE (zyEl zymx B H2) 74 40 = xE (zyEl zymx B H) 74 40 := xFr_E hfr rfl
          have e74_41 : xE (zyEl zymx B H2) 74 41 = xE (zyEl zymx B H) 74 41 := xFr_E hfr rfl
          have e74_42 : xE (zyEl zymx B H2) 74 42 = xE (zyEl zymx B H) 74 42 := xFr_E hfr rfl
          have q74_42 : xE (zyEl zymx B H) 74 42 = xE (zyEl zymx B s.heap) 74 42 := xFr_E hFr0 rfl
          have e75_0 : xE (zyEl zymx B H2) 75 0 = xE (zyEl zymx B H) 75 0 := xFr_E hfr rfl
          have q75_0 : xE (zyEl zymx B H) 75 0 = xE (zyEl zymx B s.heap) 75 0 := xFr_E hFr0 rfl
          have e75_1 : xE (zyEl zymx B H2) 75 1 = xE (zyEl zymx B H) 75 1 := xFr_E hfr rfl
          have q75_1 : xE (zyEl zymx B H) 75 1 = xE (zyEl zymx B s.heap) 75 1 := xFr_E hFr0 rfl
          have e75_2 : xE (zyEl zymx B H2) 75 2 = xE (zyEl zymx B H) 75 2 := xFr_E hfr rfl
          have q75_2 : xE (zyEl zymx B H) 75 2 = xE (zyEl zymx B s.heap) 75 2 := xFr_E hFr0 rfl
          have e75_5 : xE (zyEl zymx B H2) 75 5 = xE (zyEl zymx B H) 75 5 := xFr_E hfr rfl
          have e84 : ∀ i, xE (zyEl zymx B H2) 84 i = xE (zyEl zymx B H) 84 i := fun i => xFr_E hfr rfl
          have q84 : ∀ i, xE (zyEl zymx B H) 84 i = xE (zyEl zymx B s.heap) 84 i := fun i => xFr_E hFr0 rfl
          have e75 : ∀ i, xE (zyEl zymx B H2) 75 i = xE (zyEl zymx B H) 75 i := fun i => xFr_E hfr rfl
          have y74_42 : ((2147483648 : Nat) : Int) ≤ xE (zyEl zymx B s.heap) 74 42 + 2147483648 ∧ xE (zyEl zymx B s.heap) 74 42 + 2147483648 ≤ ((2147484548 : Nat) : Int) := xTyF hT0 74 42 42 rfl rfl rfl rfl rfl rfl
          have hI : xE (zyEl zymx B H) 74 36 = 0 ∧ ∃ p Si, ((p) ≤ (xE (zyEl zymx B s.heap) 74 42) ∧ xRD (xE (zyEl zymx B s.heap) 84) (xE (zyEl zymx B s.heap) 74 42) (p) (zyEl zymx B H)) ∧ (0 ≤ Si 5 ∧ Si 5 ≤ 60) ∧ (∀ k, 0 ≤ k → xE (zyEl zymx B H) 75 k = Si k) ∧ pWs (xE (zyEl zymx B s.heap) 84) (xE (zyEl zymx B s.heap) 74 42) 60 (xE (zyEl zymx B s.heap) 74 39) (uS (xE (zyEl zymx B s.heap) 75) 5 0) = pWs (xE (zyEl zymx B s.heap) 84) (xE (zyEl zymx B s.heap) 74 42) (60 - Si 5).toNat p Si := hInv
          obtain ⟨i1, p, Si, ⟨hp, hs⟩, h5, hc, ht⟩ := hI
          have h55 := hc 5 (by decide)
          have hEE : (zyEl zymx B H2) = (zyEl zymx B H) := xFr_n hfr
          have hs2 : xRD (xE (zyEl zymx B s.heap) 84) (xE (zyEl zymx B s.heap) 74 42) p (zyEl zymx B H2) := by rw [hEE]; exact hs
          obtain ⟨s1, s1b, s2, s3, s4, s5, s6, s7, s8⟩ := xRD_i hs2 hp
          refine xCa hRu hIH hAt hB hv hFr (hfis B) (ix := 466) (ax := 5072) rfl rfl rfl hmefis ⟨_, rfl, rfl, by decide⟩ ⟨rfl, rfl, rfl⟩ (by decide) [360] [] [45] rfl ⟨rfl, rfl⟩ (by decide +kernel) (xcs_c rfl xcs_n) (by decide +kernel) ?_ (fun H3 r hT3 hf3 hFr3 hr3 hΨ3 => ?_)
          · show xΦis (xfv [45]) (zyEl zymx B H2)
            intro q0 q1
            omega
          · have hΨ3 : xΨis (xfv [45]) (zyEl zymx B H2) (zyEl zymx B H3) r := hΨ3
            have d74_36 : xE (zyEl zymx B H3) 74 36 = xE (zyEl zymx B H2) 74 36 := xFr_E hf3 rfl
            have d74_37 : xE (zyEl zymx B H3) 74 37 = xE (zyEl zymx B H2) 74 37 := xFr_E hf3 rfl
            have d74_38 : xE (zyEl zymx B H3) 74 38 = xE (zyEl zymx B H2) 74 38 := xFr_E hf3 rfl
            have d74_39 : xE (zyEl zymx B H3) 74 39 = xE (zyEl zymx B H2) 74 39 := xFr_E hf3 rfl
            have d74_40 : xE (zyEl zymx B H3) 74 40 = xE (zyEl zymx B H2) 74 40 := xFr_E hf3 rfl
            have d74_41 : xE (zyEl zymx B H3) 74 41 = xE (zyEl zymx B H2) 74 41 := xFr_E hf3 rfl
            have d74_42 : xE (zyEl zymx B H3) 74 42 = xE (zyEl zymx B H2) 74 42 := xFr_E hf3 rfl
            have d75_0 : xE (zyEl zymx B H3) 75 0 = xE (zyEl zymx B H2) 75 0 := xFr_E hf3 rfl
            have d75_1 : xE (zyEl zymx B H3) 75 1 = xE (zyEl zymx B H2) 75 1 := xFr_E hf3 rfl
            have d75_2 : xE (zyEl zymx B H3) 75 2 = xE (zyEl zymx B H2) 75 2 := xFr_E hf3 rfl
            have d75_5 : xE (zyEl zymx B H3) 75 5 = xE (zyEl zymx B H2) 75 5 := xFr_E hf3 rfl
            have d84 : ∀ i, xE (zyEl zymx B H3) 84 i = xE (zyEl zymx B H2) 84 i := fun i => xFr_E hf3 rfl
            have d75 : ∀ i, xE (zyEl zymx B H3) 75 i = xE (zyEl zymx B H2) 75 i := fun i => xFr_E hf3 rfl
            have hr : r = if tKd (xE (zyEl zymx B s.heap) 84) (xE (zyEl zymx B s.heap) 74 42) p = 4 then 1 else 0 := (xIs_g (x := xfv [45]) hΨ3 (by omega) hs2 hp (fun i => (e84 i).trans (q84 i))).1 rfl
            have hE3 : (zyEl zymx B H3) = (zyEl zymx B H2) := xFr_n hf3
            refine ⟨⟨5, by decide⟩, [0, 0], [0, 0, r], rfl, ⟨by decide +kernel, ⟨rfl, by decide +kernel⟩, (xcs_c rfl (xcs_c rfl xcs_n)), (xe_0 (xe_0 (xe_c (by omega) (by omega) rfl xe_n))), xkq_n⟩, (by rw [if_pos rfl]; exact ⟨2, [], rfl, by decide, rfl, xst_n⟩), ?_, ?_⟩
            · show xE (zyEl zymx B H3) 74 36 = 0 ∧ ∃ p Si, ((p) ≤ (xE (zyEl zymx B s.heap) 74 42) ∧ xRD (xE (zyEl zymx B s.heap) 84) (xE (zyEl zymx B s.heap) 74 42) (p) (zyEl zymx B H3)) ∧ (0 ≤ Si 5 ∧ Si 5 ≤ 60) ∧ (∀ k, 0 ≤ k → xE (zyEl zymx B H3) 75 k = Si k) ∧ pWs (xE (zyEl zymx B s.heap) 84) (xE (zyEl zymx B s.heap) 74 42) 60 (xE (zyEl zymx B s.heap) 74 39) (uS (xE (zyEl zymx B s.heap) 75) 5 0) = pWs (xE (zyEl zymx B s.heap) 84) (xE (zyEl zymx B s.heap) 74 42) (60 - Si 5).toNat p Si ∧ (tKd (xE (zyEl zymx B s.heap) 84) (xE (zyEl zymx B s.heap) 74 42) p = 3 ∨ tKd (xE (zyEl zymx B s.heap) 84) (xE (zyEl zymx B s.heap) 74 42) p = 4) ∧ ((r : Int) = if tKd (xE (zyEl zymx B s.heap) 84) (xE (zyEl zymx B s.heap) 74 42) p = 4 then 1 else 0)
              refine ⟨by omega, p, Si, ⟨hp, by rw [hE3]; exact hs2⟩, h5, fun k k0 => (d75 k).trans ((e75 k).trans (hc k k0)), ht, by omega, hr⟩
            · show 10 * (70 - xE (zyEl zymx B H3) 75 5).toNat + 7 < 10 * (70 - xE (zyEl zymx B H) 75 5).toNat + 9
              have h5e : xE (zyEl zymx B H3) 75 5 = xE (zyEl zymx B H) 75 5 := (d75 5).trans (e75 5)
              omega
    · have hx : x ∈ [zxfwd_ix0] := hx
      have hag : ∀ k, k < 3 → v2 k = v k := hag
      have hfr : xFr [] _ _ := hfr
      have ex := List.mem_singleton.mp hx
      subst ex
      obtain ⟨hF, hBd, hM⟩ := hXs
      have g2 : v2 2 = v 2 := hag 2 (by decide)
      have b0 : ((2147483649 : Nat) : Int) ≤ (v2 2) + 2147483648 ∧ (v2 2) + 2147483648 ≤ ((2147483649 : Nat) : Int) := xXb hBd 0 rfl
      have f0 : ¬ (v2 2) = 0 := xXf hF 0 rfl
      have e74_36 : xE (zyEl zymx B H2) 74 36 = xE (zyEl zymx B H) 74 36 := xFr_E hfr rfl
      have e74_37 : xE (zyEl zymx B H2) 74 37 = xE (zyEl zymx B H) 74 37 := xFr_E hfr rfl
      have e74_38 : xE (zyEl zymx B H2) 74 38 = xE (zyEl zymx B H) 74 38 := xFr_E hfr rfl
      have e74_39 : xE (zyEl zymx B H2) 74 39 = xE (zyEl zymx B H) 74 39 := xFr_E hfr rfl
      have e74_40 : xE (zyEl zymx B H2) 74 40 = xE (zyEl zymx B H) 74 40 := xFr_E hfr rfl
      have e74_41 : xE (zyEl zymx B H2) 74 41 = xE (zyEl zymx B H) 74 41 := xFr_E hfr rfl
      have e74_42 : xE (zyEl zymx B H2) 74 42 = xE (zyEl zymx B H) 74 42 := xFr_E hfr rfl
      have q74_42 : xE (zyEl zymx B H) 74 42 = xE (zyEl zymx B s.heap) 74 42 := xFr_E hFr0 rfl
      have e75_0 : xE (zyEl zymx B H2) 75 0 = xE (zyEl zymx B H) 75 0 := xFr_E hfr rfl
      have q75_0 : xE (zyEl zymx B H) 75 0 = xE (zyEl zymx B s.heap) 75 0 := xFr_E hFr0 rfl
      have e75_1 : xE (zyEl zymx B H2) 75 1 = xE (zyEl zymx B H) 75 1 := xFr_E hfr rfl
      have q75_1 : xE (zyEl zymx B H) 75 1 = xE (zyEl zymx B s.heap) 75 1 := xFr_E hFr0 rfl
      have e75_2 : xE (zyEl zymx B H2) 75 2 = xE (zyEl zymx B H) 75 2 := xFr_E hfr rfl
      have q75_2 : xE (zyEl zymx B H) 75 2 = xE (zyEl zymx B s.heap) 75 2 := xFr_E hFr0 rfl
      have e75_5 : xE (zyEl zymx B H2) 75 5 = xE (zyEl zymx B H) 75 5 := xFr_E hfr rfl
      have e84 : ∀ i, xE (zyEl zymx B H2) 84 i = xE (zyEl zymx B H) 84 i := fun i => xFr_E hfr rfl
      have q84 : ∀ i, xE (zyEl zymx B H) 84 i = xE (zyEl zymx B s.heap) 84 i := fun i => xFr_E hFr0 rfl
      have e75 : ∀ i, xE (zyEl zymx B H2) 75 i = xE (zyEl zymx B H) 75 i := fun i => xFr_E hfr rfl
      have y74_42 : ((2147483648 : Nat) : Int) ≤ xE (zyEl zymx B s.heap) 74 42 + 2147483648 ∧ xE (zyEl zymx B s.heap) 74 42 + 2147483648 ≤ ((2147484548 : Nat) : Int) := xTyF hT0 74 42 42 rfl rfl rfl rfl rfl rfl
      have hI : xE (zyEl zymx B H) 74 36 = 0 ∧ ∃ p Si, ((p) ≤ (xE (zyEl zymx B s.heap) 74 42) ∧ xRD (xE (zyEl zymx B s.heap) 84) (xE (zyEl zymx B s.heap) 74 42) (p) (zyEl zymx B H)) ∧ (0 ≤ Si 5 ∧ Si 5 ≤ 60) ∧ (∀ k, 0 ≤ k → xE (zyEl zymx B H) 75 k = Si k) ∧ pWs (xE (zyEl zymx B s.heap) 84) (xE (zyEl zymx B s.heap) 74 42) 60 (xE (zyEl zymx B s.heap) 74 39) (uS (xE (zyEl zymx B s.heap) 75) 5 0) = pWs (xE (zyEl zymx B s.heap) 84) (xE (zyEl zymx B s.heap) 74 42) (60 - Si 5).toNat p Si ∧ ¬ tKd (xE (zyEl zymx B s.heap) 84) (xE (zyEl zymx B s.heap) 74 42) p = 3 ∧ ((v 2) = if tKd (xE (zyEl zymx B s.heap) 84) (xE (zyEl zymx B s.heap) 74 42) p = 4 then 1 else 0) := hInv
      obtain ⟨i1, p, Si, ⟨hp, hs⟩, h5, hc, ht, hk3, hk4⟩ := hI
      have h55 := hc 5 (by decide)
      have hEE : (zyEl zymx B H2) = (zyEl zymx B H) := xFr_n hfr
      have hs2 : xRD (xE (zyEl zymx B s.heap) 84) (xE (zyEl zymx B s.heap) 74 42) p (zyEl zymx B H2) := by rw [hEE]; exact hs
      obtain ⟨s1, s1b, s2, s3, s4, s5, s6, s7, s8⟩ := xRD_i hs2 hp
      have hk5 : tKd (xE (zyEl zymx B s.heap) 84) (xE (zyEl zymx B s.heap) 74 42) p = 4 := Classical.byContradiction fun z => by
        rw [if_neg z] at hk4
        omega
      refine xCa hRu hIH hAt hB hv hFr (hfis B) (ix := 466) (ax := 5072) rfl rfl rfl hmefis ⟨_, rfl, rfl, by decide⟩ ⟨rfl, rfl, rfl⟩ (by decide) [360] [] [45] rfl ⟨rfl, rfl⟩ (by decide +kernel) (xcs_c rfl xcs_n) (by decide +kernel) ?_ (fun H3 r hT3 hf3 hFr3 hr3 hΨ3 => ?_)
      · show xΦis (xfv [45]) (zyEl zymx B H2)
        intro q0 q1
        omega
      · have hΨ3 : xΨis (xfv [45]) (zyEl zymx B H2) (zyEl zymx B H3) r := hΨ3
        have d74_36 : xE (zyEl zymx B H3) 74 36 = xE (zyEl zymx B H2) 74 36 := xFr_E hf3 rfl
        have d74_37 : xE (zyEl zymx B H3) 74 37 = xE (zyEl zymx B H2) 74 37 := xFr_E hf3 rfl
        have d74_38 : xE (zyEl zymx B H3) 74 38 = xE (zyEl zymx B H2) 74 38 := xFr_E hf3 rfl
        have d74_39 : xE (zyEl zymx B H3) 74 39 = xE (zyEl zymx B H2) 74 39 := xFr_E hf3 rfl
        have d74_40 : xE (zyEl zymx B H3) 74 40 = xE (zyEl zymx B H2) 74 40 := xFr_E hf3 rfl
        have d74_41 : xE (zyEl zymx B H3) 74 41 = xE (zyEl zymx B H2) 74 41 := xFr_E hf3 rfl
        have d74_42 : xE (zyEl zymx B H3) 74 42 = xE (zyEl zymx B H2) 74 42 := xFr_E hf3 rfl
        have d75_0 : xE (zyEl zymx B H3) 75 0 = xE (zyEl zymx B H2) 75 0 := xFr_E hf3 rfl
        have d75_1 : xE (zyEl zymx B H3) 75 1 = xE (zyEl zymx B H2) 75 1 := xFr_E hf3 rfl
        have d75_2 : xE (zyEl zymx B H3) 75 2 = xE (zyEl zymx B H2) 75 2 := xFr_E hf3 rfl
        have d75_5 : xE (zyEl zymx B H3) 75 5 = xE (zyEl zymx B H2) 75 5 := xFr_E hf3 rfl
        have d84 : ∀ i, xE (zyEl zymx B H3) 84 i = xE (zyEl zymx B H2) 84 i := fun i => xFr_E hf3 rfl
        have d75 : ∀ i, xE (zyEl zymx B H3) 75 i = xE (zyEl zymx B H2) 75 i := fun i => xFr_E hf3 rfl
        have hr : r = if tKd (xE (zyEl zymx B s.heap) 84) (xE (zyEl zymx B s.heap) 74 42) p = 4 then 1 else 0 := (xIs_g (x := xfv [45]) hΨ3 (by omega) hs2 hp (fun i => (e84 i).trans (q84 i))).1 rfl
        have hE3 : (zyEl zymx B H3) = (zyEl zymx B H2) := xFr_n hf3
        refine ⟨⟨5, by decide⟩, [0, 0], [0, 0, r], rfl, ⟨by decide +kernel, ⟨rfl, by decide +kernel⟩, (xcs_c rfl (xcs_c rfl xcs_n)), (xe_0 (xe_0 (xe_c (by omega) (by omega) rfl xe_n))), xkq_n⟩, (by rw [if_pos rfl]; exact ⟨2, [], rfl, by decide, rfl, xst_n⟩), ?_, ?_⟩
        · show xE (zyEl zymx B H3) 74 36 = 0 ∧ ∃ p Si, ((p) ≤ (xE (zyEl zymx B s.heap) 74 42) ∧ xRD (xE (zyEl zymx B s.heap) 84) (xE (zyEl zymx B s.heap) 74 42) (p) (zyEl zymx B H3)) ∧ (0 ≤ Si 5 ∧ Si 5 ≤ 60) ∧ (∀ k, 0 ≤ k → xE (zyEl zymx B H3) 75 k = Si k) ∧ pWs (xE (zyEl zymx B s.heap) 84) (xE (zyEl zymx B s.heap) 74 42) 60 (xE (zyEl zymx B s.heap) 74 39) (uS (xE (zyEl zymx B s.heap) 75) 5 0) = pWs (xE (zyEl zymx B s.heap) 84) (xE (zyEl zymx B s.heap) 74 42) (60 - Si 5).toNat p Si ∧ (tKd (xE (zyEl zymx B s.heap) 84) (xE (zyEl zymx B s.heap) 74 42) p = 3 ∨ tKd (xE (zyEl zymx B s.heap) 84) (xE (zyEl zymx B s.heap) 74 42) p = 4) ∧ ((r : Int) = if tKd (xE (zyEl zymx B s.heap) 84) (xE (zyEl zymx B s.heap) 74 42) p = 4 then 1 else 0)
          refine ⟨by omega, p, Si, ⟨hp, by rw [hE3]; exact hs2⟩, h5, fun k k0 => (d75 k).trans ((e75 k).trans (hc k k0)), ht, Or.inr hk5, hr⟩
        · show 10 * (70 - xE (zyEl zymx B H3) 75 5).toNat + 7 < 10 * (70 - xE (zyEl zymx B H) 75 5).toNat + 8
          have h5e : xE (zyEl zymx B H3) 75 5 = xE (zyEl zymx B H) 75 5 := (d75 5).trans (e75 5)
          omega
    · have hx : x ∈ [zxfwd_kx0, zxfwd_kx1] := hx
      have hag : ∀ k, k < 3 → v2 k = v k := hag
      have hfr : xFr [] _ _ := hfr
      rcases List.mem_cons.mp hx with ex | hx
      · subst ex
        obtain ⟨hF, hBd, hM⟩ := hXs
        have g2 : v2 2 = v 2 := hag 2 (by decide)
        have b0 : ((2147483649 : Nat) : Int) ≤ (v2 2) + 2147483648 ∧ (v2 2) + 2147483648 ≤ ((2147483649 : Nat) : Int) := xXb hBd 0 rfl
        have f0 : ¬ (v2 2) = 0 := xXf hF 0 rfl
        have e74_36 : xE (zyEl zymx B H2) 74 36 = xE (zyEl zymx B H) 74 36 := xFr_E hfr rfl
        have e74_37 : xE (zyEl zymx B H2) 74 37 = xE (zyEl zymx B H) 74 37 := xFr_E hfr rfl
        have e74_38 : xE (zyEl zymx B H2) 74 38 = xE (zyEl zymx B H) 74 38 := xFr_E hfr rfl
        have e74_39 : xE (zyEl zymx B H2) 74 39 = xE (zyEl zymx B H) 74 39 := xFr_E hfr rfl
        have e74_40 : xE (zyEl zymx B H2) 74 40 = xE (zyEl zymx B H) 74 40 := xFr_E hfr rfl
        have e74_41 : xE (zyEl zymx B H2) 74 41 = xE (zyEl zymx B H) 74 41 := xFr_E hfr rfl
        have e74_42 : xE (zyEl zymx B H2) 74 42 = xE (zyEl zymx B H) 74 42 := xFr_E hfr rfl
        have q74_42 : xE (zyEl zymx B H) 74 42 = xE (zyEl zymx B s.heap) 74 42 := xFr_E hFr0 rfl
        have e75_0 : xE (zyEl zymx B H2) 75 0 = xE (zyEl zymx B H) 75 0 := xFr_E hfr rfl
        have q75_0 : xE (zyEl zymx B H) 75 0 = xE (zyEl zymx B s.heap) 75 0 := xFr_E hFr0 rfl
        have e75_1 : xE (zyEl zymx B H2) 75 1 = xE (zyEl zymx B H) 75 1 := xFr_E hfr rfl
        have q75_1 : xE (zyEl zymx B H) 75 1 = xE (zyEl zymx B s.heap) 75 1 := xFr_E hFr0 rfl
        have e75_2 : xE (zyEl zymx B H2) 75 2 = xE (zyEl zymx B H) 75 2 := xFr_E hfr rfl
        have q75_2 : xE (zyEl zymx B H) 75 2 = xE (zyEl zymx B s.heap) 75 2 := xFr_E hFr0 rfl
        have e75_5 : xE (zyEl zymx B H2) 75 5 = xE (zyEl zymx B H) 75 5 := xFr_E hfr rfl
        have e84 : ∀ i, xE (zyEl zymx B H2) 84 i = xE (zyEl zymx B H) 84 i := fun i => xFr_E hfr rfl
        have q84 : ∀ i, xE (zyEl zymx B H) 84 i = xE (zyEl zymx B s.heap) 84 i := fun i => xFr_E hFr0 rfl
        have e75 : ∀ i, xE (zyEl zymx B H2) 75 i = xE (zyEl zymx B H) 75 i := fun i => xFr_E hfr rfl
        have y74_42 : ((2147483648 : Nat) : Int) ≤ xE (zyEl zymx B s.heap) 74 42 + 2147483648 ∧ xE (zyEl zymx B s.heap) 74 42 + 2147483648 ≤ ((2147484548 : Nat) : Int) := xTyF hT0 74 42 42 rfl rfl rfl rfl rfl rfl
        have hI : xE (zyEl zymx B H) 74 36 = 0 ∧ ∃ p Si, ((p) ≤ (xE (zyEl zymx B s.heap) 74 42) ∧ xRD (xE (zyEl zymx B s.heap) 84) (xE (zyEl zymx B s.heap) 74 42) (p) (zyEl zymx B H)) ∧ (0 ≤ Si 5 ∧ Si 5 ≤ 60) ∧ (∀ k, 0 ≤ k → xE (zyEl zymx B H) 75 k = Si k) ∧ pWs (xE (zyEl zymx B s.heap) 84) (xE (zyEl zymx B s.heap) 74 42) 60 (xE (zyEl zymx B s.heap) 74 39) (uS (xE (zyEl zymx B s.heap) 75) 5 0) = pWs (xE (zyEl zymx B s.heap) 84) (xE (zyEl zymx B s.heap) 74 42) (60 - Si 5).toNat p Si ∧ (tKd (xE (zyEl zymx B s.heap) 84) (xE (zyEl zymx B s.heap) 74 42) p = 3 ∨ tKd (xE (zyEl zymx B s.heap) 84) (xE (zyEl zymx B s.heap) 74 42) p = 4) ∧ ((v 2) = if tKd (xE (zyEl zymx B s.heap) 84) (xE (zyEl zymx B s.heap) 74 42) p = 4 then 1 else 0) := hInv
        obtain ⟨i1, p, Si, ⟨hp, hs⟩, h5, hc, ht, hk3, hk4⟩ := hI
        have h55 := hc 5 (by decide)
        have hEE : (zyEl zymx B H2) = (zyEl zymx B H) := xFr_n hfr
        have hs2 : xRD (xE (zyEl zymx B s.heap) 84) (xE (zyEl zymx B s.heap) 74 42) p (zyEl zymx B H2) := by rw [hEE]; exact hs
        obtain ⟨s1, s1b, s2, s3, s4, s5, s6, s7, s8⟩ := xRD_i hs2 hp
        have hk5 : tKd (xE (zyEl zymx B s.heap) 84) (xE (zyEl zymx B s.heap) 74 42) p = 4 := Classical.byContradiction fun z => by
          rw [if_neg z] at hk4
          omega
        have s4 := s4 (by omega)
        refine xCa hRu hIH hAt hB hv hFr (hfrd B) (ix := 450) (ax := 5024) rfl rfl rfl hmefrd ⟨_, rfl, rfl, by decide⟩ ⟨rfl, rfl, rfl⟩ (by decide) [] [] [] rfl ⟨rfl, rfl⟩ (by decide +kernel) xcs_n (by decide +kernel) ?_ (fun H3 r hT3 hf3 hFr3 hr3 hΨ3 => ?_)
        · show xΦrd (xfv []) (zyEl zymx B H2)
          unfold xΦrd
          omega
        · have hΨ3 : xΨrd (xfv []) (zyEl zymx B H2) (zyEl zymx B H3) r := hΨ3
          have d74_36 : xE (zyEl zymx B H3) 74 36 = xE (zyEl zymx B H2) 74 36 := xFr_E hf3 rfl
          have d74_37 : xE (zyEl zymx B H3) 74 37 = xE (zyEl zymx B H2) 74 37 := xFr_E hf3 rfl
          have d74_42 : xE (zyEl zymx B H3) 74 42 = xE (zyEl zymx B H2) 74 42 := xFr_E hf3 rfl
          have d75_0 : xE (zyEl zymx B H3) 75 0 = xE (zyEl zymx B H2) 75 0 := xFr_E hf3 rfl
          have d75_1 : xE (zyEl zymx B H3) 75 1 = xE (zyEl zymx B H2) 75 1 := xFr_E hf3 rfl
          have d75_2 : xE (zyEl zymx B H3) 75 2 = xE (zyEl zymx B H2) 75 2 := xFr_E hf3 rfl
          have d75_5 : xE (zyEl zymx B H3) 75 5 = xE (zyEl zymx B H2) 75 5 := xFr_E hf3 rfl
          have d84 : ∀ i, xE (zyEl zymx B H3) 84 i = xE (zyEl zymx B H2) 84 i := fun i => xFr_E hf3 rfl
          have d75 : ∀ i, xE (zyEl zymx B H3) 75 i = xE (zyEl zymx B H2) 75 i := fun i => xFr_E hf3 rfl
          have z74_36 : ((2147483648 : Nat) : Int) ≤ xE (zyEl zymx B H3) 74 36 + 2147483648 ∧ xE (zyEl zymx B H3) 74 36 + 2147483648 ≤ ((2147483657 : Nat) : Int) := xTyF hT3 74 36 36 rfl rfl rfl rfl rfl rfl
          have z74_37 : ((0 : Nat) : Int) ≤ xE (zyEl zymx B H3) 74 37 + 2147483648 ∧ xE (zyEl zymx B H3) 74 37 + 2147483648 ≤ ((4294967295 : Nat) : Int) := xTyF hT3 74 37 37 rfl rfl rfl rfl rfl rfl
          have z74_38 : ((2147483648 : Nat) : Int) ≤ xE (zyEl zymx B H3) 74 38 + 2147483648 ∧ xE (zyEl zymx B H3) 74 38 + 2147483648 ≤ ((2147484548 : Nat) : Int) := xTyF hT3 74 38 38 rfl rfl rfl rfl rfl rfl
          have z74_40 : ((2147483648 : Nat) : Int) ≤ xE (zyEl zymx B H3) 74 40 + 2147483648 ∧ xE (zyEl zymx B H3) 74 40 + 2147483648 ≤ ((2147483652 : Nat) : Int) := xTyF hT3 74 40 40 rfl rfl rfl rfl rfl rfl
          have z74_41 : ((2147483648 : Nat) : Int) ≤ xE (zyEl zymx B H3) 74 41 + 2147483648 ∧ xE (zyEl zymx B H3) 74 41 + 2147483648 ≤ ((2147484647 : Nat) : Int) := xTyF hT3 74 41 41 rfl rfl rfl rfl rfl rfl
          have z75_5 : ((0 : Nat) : Int) ≤ xE (zyEl zymx B H3) 75 5 + 2147483648 ∧ xE (zyEl zymx B H3) 75 5 + 2147483648 ≤ ((4294967295 : Nat) : Int) := xTyF hT3 75 5 0 rfl rfl rfl rfl rfl rfl
          unfold xΨrd at hΨ3
          rw [show xE (zyEl zymx B H2) 84 = xE (zyEl zymx B s.heap) 84 from funext fun i => (e84 i).trans (q84 i), show xE (zyEl zymx B H2) 74 42 = xE (zyEl zymx B s.heap) 74 42 by omega, show xE (zyEl zymx B H2) 74 39 = tNx (xE (zyEl zymx B s.heap) 84) (xE (zyEl zymx B s.heap) 74 42) p by omega] at hΨ3
          refine ⟨⟨6, by decide⟩, [0, 68719476737], [0, (v2 2), xE (zyEl zymx B H3) 74 36, xE (zyEl zymx B H3) 74 37, xE (zyEl zymx B H3) 74 38, xE (zyEl zymx B H3) 74 40, xE (zyEl zymx B H3) 74 41, xE (zyEl zymx B H3) 75 5], rfl, ⟨by decide +kernel, ⟨rfl, by decide +kernel⟩, (xcs_c rfl (xcs_c rfl xcs_n)), (xe_0 (xe_c (by omega) (by omega) rfl (xe_c (by omega) (by omega) rfl (xe_f (xE_r _ _ _) (xe_c (by omega) (by omega) rfl (xe_c (by omega) (by omega) rfl (xe_c (by omega) (by omega) rfl (xe_c (by omega) (by omega) rfl xe_n)))))))), (xkq_c hT3 74 36 (q := 36) rfl rfl rfl rfl rfl rfl rfl rfl rfl rfl rfl (xkq_c hT3 74 37 (q := 37) rfl rfl rfl rfl rfl rfl rfl rfl rfl rfl rfl (xkq_c hT3 74 38 (q := 38) rfl rfl rfl rfl rfl rfl rfl rfl rfl rfl rfl (xkq_c hT3 74 40 (q := 40) rfl rfl rfl rfl rfl rfl rfl rfl rfl rfl rfl (xkq_c hT3 74 41 (q := 41) rfl rfl rfl rfl rfl rfl rfl rfl rfl rfl rfl (xkq_c hT3 75 5 (q := 0) rfl rfl rfl rfl rfl rfl rfl rfl rfl rfl rfl xkq_n))))))⟩, (by rw [if_neg (by decide)]; exact xst_n), ?_, ?_⟩
          · show xE (zyEl zymx B H3) 74 36 = 0 ∧ ∃ p Si, ((p) ≤ (xE (zyEl zymx B s.heap) 74 42) ∧ xRD (xE (zyEl zymx B s.heap) 84) (xE (zyEl zymx B s.heap) 74 42) (p) (zyEl zymx B H3)) ∧ (0 ≤ Si 5 ∧ Si 5 ≤ 60) ∧ (∀ k, 0 ≤ k → xE (zyEl zymx B H3) 75 k = Si k) ∧ pWs (xE (zyEl zymx B s.heap) 84) (xE (zyEl zymx B s.heap) 74 42) 60 (xE (zyEl zymx B s.heap) 74 39) (uS (xE (zyEl zymx B s.heap) 75) 5 0) = pNum (xE (zyEl zymx B s.heap) 84) (xE (zyEl zymx B s.heap) 74 42) p 1 7 (fun x p2 => if Si 5 < 60 then pWs (xE (zyEl zymx B s.heap) 84) (xE (zyEl zymx B s.heap) 74 42) (60 - (Si 5 + 1)).toNat p2 (uS (uS Si (460 + Si 5) (if ((v2 2) : Int) = 0 then x else -x)) 5 (Si 5 + 1)) else .error (6, tFr (xE (zyEl zymx B s.heap) 84) (xE (zyEl zymx B s.heap) 74 42) p))
            refine ⟨by omega, _, Si, ⟨s4.2.1, hΨ3⟩, h5, fun k k0 => (d75 k).trans ((e75 k).trans (hc k k0)), ?_⟩
            rw [ht, pWs_4 h5 hk5]
            simp only [show ¬ ((v2 2) = 0) from by omega, if_false]
          · show 10 * (70 - xE (zyEl zymx B H3) 75 5).toNat + 6 < 10 * (70 - xE (zyEl zymx B H) 75 5).toNat + 7
            have h5e : xE (zyEl zymx B H3) 75 5 = xE (zyEl zymx B H) 75 5 := (d75 5).trans (e75 5)
            omega
      · skip
        have ex := List.mem_singleton.mp hx
        subst ex
        obtain ⟨hF, hBd, hM⟩ := hXs
        have g2 : v2 2 = v 2 := hag 2 (by decide)
        have b0 : ((2147483648 : Nat) : Int) ≤ (v2 2) + 2147483648 ∧ (v2 2) + 2147483648 ≤ ((2147483648 : Nat) : Int) := xXb hBd 0 rfl
        have f0 : (v2 2) = 0 := xXf hF 0 rfl
        have e74_36 : xE (zyEl zymx B H2) 74 36 = xE (zyEl zymx B H) 74 36 := xFr_E hfr rfl
        have e74_37 : xE (zyEl zymx B H2) 74 37 = xE (zyEl zymx B H) 74 37 := xFr_E hfr rfl
        have e74_38 : xE (zyEl zymx B H2) 74 38 = xE (zyEl zymx B H) 74 38 := xFr_E hfr rfl
        have e74_39 : xE (zyEl zymx B H2) 74 39 = xE (zyEl zymx B H) 74 39 := xFr_E hfr rfl
        have e74_40 : xE (zyEl zymx B H2) 74 40 = xE (zyEl zymx B H) 74 40 := xFr_E hfr rfl
        have e74_41 : xE (zyEl zymx B H2) 74 41 = xE (zyEl zymx B H) 74 41 := xFr_E hfr rfl
        have e74_42 : xE (zyEl zymx B H2) 74 42 = xE (zyEl zymx B H) 74 42 := xFr_E hfr rfl
        have q74_42 : xE (zyEl zymx B H) 74 42 = xE (zyEl zymx B s.heap) 74 42 := xFr_E hFr0 rfl
        have e75_0 : xE (zyEl zymx B H2) 75 0 = xE (zyEl zymx B H) 75 0 := xFr_E hfr rfl
        have q75_0 : xE (zyEl zymx B H) 75 0 = xE (zyEl zymx B s.heap) 75 0 := xFr_E hFr0 rfl
        have e75_1 : xE (zyEl zymx B H2) 75 1 = xE (zyEl zymx B H) 75 1 := xFr_E hfr rfl
        have q75_1 : xE (zyEl zymx B H) 75 1 = xE (zyEl zymx B s.heap) 75 1 := xFr_E hFr0 rfl
        have e75_2 : xE (zyEl zymx B H2) 75 2 = xE (zyEl zymx B H) 75 2 := xFr_E hfr rfl
        have q75_2 : xE (zyEl zymx B H) 75 2 = xE (zyEl zymx B s.heap) 75 2 := xFr_E hFr0 rfl
        have e75_5 : xE (zyEl zymx B H2) 75 5 = xE (zyEl zymx B H) 75 5 := xFr_E hfr rfl
        have e84 : ∀ i, xE (zyEl zymx B H2) 84 i = xE (zyEl zymx B H) 84 i := fun i => xFr_E hfr rfl
        have q84 : ∀ i, xE (zyEl zymx B H) 84 i = xE (zyEl zymx B s.heap) 84 i := fun i => xFr_E hFr0 rfl
        have e75 : ∀ i, xE (zyEl zymx B H2) 75 i = xE (zyEl zymx B H) 75 i := fun i => xFr_E hfr rfl
        have y74_42 : ((2147483648 : Nat) : Int) ≤ xE (zyEl zymx B s.heap) 74 42 + 2147483648 ∧ xE (zyEl zymx B s.heap) 74 42 + 2147483648 ≤ ((2147484548 : Nat) : Int) := xTyF hT0 74 42 42 rfl rfl rfl rfl rfl rfl
        have hI : xE (zyEl zymx B H) 74 36 = 0 ∧ ∃ p Si, ((p) ≤ (xE (zyEl zymx B s.heap) 74 42) ∧ xRD (xE (zyEl zymx B s.heap) 84) (xE (zyEl zymx B s.heap) 74 42) (p) (zyEl zymx B H)) ∧ (0 ≤ Si 5 ∧ Si 5 ≤ 60) ∧ (∀ k, 0 ≤ k → xE (zyEl zymx B H) 75 k = Si k) ∧ pWs (xE (zyEl zymx B s.heap) 84) (xE (zyEl zymx B s.heap) 74 42) 60 (xE (zyEl zymx B s.heap) 74 39) (uS (xE (zyEl zymx B s.heap) 75) 5 0) = pWs (xE (zyEl zymx B s.heap) 84) (xE (zyEl zymx B s.heap) 74 42) (60 - Si 5).toNat p Si ∧ (tKd (xE (zyEl zymx B s.heap) 84) (xE (zyEl zymx B s.heap) 74 42) p = 3 ∨ tKd (xE (zyEl zymx B s.heap) 84) (xE (zyEl zymx B s.heap) 74 42) p = 4) ∧ ((v 2) = if tKd (xE (zyEl zymx B s.heap) 84) (xE (zyEl zymx B s.heap) 74 42) p = 4 then 1 else 0) := hInv
        obtain ⟨i1, p, Si, ⟨hp, hs⟩, h5, hc, ht, hk3, hk4⟩ := hI
        have h55 := hc 5 (by decide)
        have hEE : (zyEl zymx B H2) = (zyEl zymx B H) := xFr_n hfr
        have hs2 : xRD (xE (zyEl zymx B s.heap) 84) (xE (zyEl zymx B s.heap) 74 42) p (zyEl zymx B H2) := by rw [hEE]; exact hs
        obtain ⟨s1, s1b, s2, s3, s4, s5, s6, s7, s8⟩ := xRD_i hs2 hp
        have hk5 : ¬ tKd (xE (zyEl zymx B s.heap) 84) (xE (zyEl zymx B s.heap) 74 42) p = 4 := fun z => by
          rw [if_pos z] at hk4
          omega
        have z74_36 : ((2147483648 : Nat) : Int) ≤ xE (zyEl zymx B H2) 74 36 + 2147483648 ∧ xE (zyEl zymx B H2) 74 36 + 2147483648 ≤ ((2147483657 : Nat) : Int) := xTyF hT2 74 36 36 rfl rfl rfl rfl rfl rfl
        have z74_37 : ((0 : Nat) : Int) ≤ xE (zyEl zymx B H2) 74 37 + 2147483648 ∧ xE (zyEl zymx B H2) 74 37 + 2147483648 ≤ ((4294967295 : Nat) : Int) := xTyF hT2 74 37 37 rfl rfl rfl rfl rfl rfl
        have z74_38 : ((2147483648 : Nat) : Int) ≤ xE (zyEl zymx B H2) 74 38 + 2147483648 ∧ xE (zyEl zymx B H2) 74 38 + 2147483648 ≤ ((2147484548 : Nat) : Int) := xTyF hT2 74 38 38 rfl rfl rfl rfl rfl rfl
        have z74_40 : ((2147483648 : Nat) : Int) ≤ xE (zyEl zymx B H2) 74 40 + 2147483648 ∧ xE (zyEl zymx B H2) 74 40 + 2147483648 ≤ ((2147483652 : Nat) : Int) := xTyF hT2 74 40 40 rfl rfl rfl rfl rfl rfl
        have z74_41 : ((2147483648 : Nat) : Int) ≤ xE (zyEl zymx B H2) 74 41 + 2147483648 ∧ xE (zyEl zymx B H2) 74 41 + 2147483648 ≤ ((2147484647 : Nat) : Int) := xTyF hT2 74 41 41 rfl rfl rfl rfl rfl rfl
        have z75_5 : ((0 : Nat) : Int) ≤ xE (zyEl zymx B H2) 75 5 + 2147483648 ∧ xE (zyEl zymx B H2) 75 5 + 2147483648 ≤ ((4294967295 : Nat) : Int) := xTyF hT2 75 5 0 rfl rfl rfl rfl rfl rfl
        refine xGo hIH hAt hB hv hFr ⟨6, by decide⟩ [0, 68719476737] [0, (v2 2), xE (zyEl zymx B H2) 74 36, xE (zyEl zymx B H2) 74 37, xE (zyEl zymx B H2) 74 38, xE (zyEl zymx B H2) 74 40, xE (zyEl zymx B H2) 74 41, xE (zyEl zymx B H2) 75 5] rfl ⟨by decide +kernel, ⟨rfl, by decide +kernel⟩, (xcs_c rfl (xcs_c rfl xcs_n)), (xe_0 (xe_c (by omega) (by omega) rfl (xe_c (by omega) (by omega) rfl (xe_f (xE_r _ _ _) (xe_c (by omega) (by omega) rfl (xe_c (by omega) (by omega) rfl (xe_c (by omega) (by omega) rfl (xe_c (by omega) (by omega) rfl xe_n)))))))), (xkq_c hT2 74 36 (q := 36) rfl rfl rfl rfl rfl rfl rfl rfl rfl rfl rfl (xkq_c hT2 74 37 (q := 37) rfl rfl rfl rfl rfl rfl rfl rfl rfl rfl rfl (xkq_c hT2 74 38 (q := 38) rfl rfl rfl rfl rfl rfl rfl rfl rfl rfl rfl (xkq_c hT2 74 40 (q := 40) rfl rfl rfl rfl rfl rfl rfl rfl rfl rfl rfl (xkq_c hT2 74 41 (q := 41) rfl rfl rfl rfl rfl rfl rfl rfl rfl rfl rfl (xkq_c hT2 75 5 (q := 0) rfl rfl rfl rfl rfl rfl rfl rfl rfl rfl rfl xkq_n))))))⟩ xst_n ?_ ?_
        · show xE (zyEl zymx B H2) 74 36 = 0 ∧ ∃ p Si, ((p) ≤ (xE (zyEl zymx B s.heap) 74 42) ∧ xRD (xE (zyEl zymx B s.heap) 84) (xE (zyEl zymx B s.heap) 74 42) (p) (zyEl zymx B H2)) ∧ (0 ≤ Si 5 ∧ Si 5 ≤ 60) ∧ (∀ k, 0 ≤ k → xE (zyEl zymx B H2) 75 k = Si k) ∧ pWs (xE (zyEl zymx B s.heap) 84) (xE (zyEl zymx B s.heap) 74 42) 60 (xE (zyEl zymx B s.heap) 74 39) (uS (xE (zyEl zymx B s.heap) 75) 5 0) = pNum (xE (zyEl zymx B s.heap) 84) (xE (zyEl zymx B s.heap) 74 42) p 1 7 (fun x p2 => if Si 5 < 60 then pWs (xE (zyEl zymx B s.heap) 84) (xE (zyEl zymx B s.heap) 74 42) (60 - (Si 5 + 1)).toNat p2 (uS (uS Si (460 + Si 5) (if ((v2 2) : Int) = 0 then x else -x)) 5 (Si 5 + 1)) else .error (6, tFr (xE (zyEl zymx B s.heap) 84) (xE (zyEl zymx B s.heap) 74 42) p))
          refine ⟨by omega, p, Si, ⟨hp, hs2⟩, h5, fun k k0 => (e75 k).trans (hc k k0), ?_⟩
          rw [ht, pWs_3 h5 (by omega)]
          simp only [show ((v2 2) = 0) from by omega, if_true]
        · show 10 * (70 - xE (zyEl zymx B H2) 75 5).toNat + 6 < 10 * (70 - xE (zyEl zymx B H) 75 5).toNat + 7
          have h5e := e75 5
          omega
    · have hx : x ∈ [zxfwd_mx0, zxfwd_mx1] := hx
      have hag : ∀ k, k < 8 → v2 k = v k := hag
      have hfr : xFr [(74, 36, 37)] _ _ := hfr
      rcases List.mem_cons.mp hx with ex | hx
      · subst ex
        obtain ⟨hF, hBd, hM⟩ := hXs
        have r3 := hr2 3
        have g1 : v2 1 = v 1 := hag 1 (by decide)
        have g2 : v2 2 = v 2 := hag 2 (by decide)
        have g3 : v2 3 = v 3 := hag 3 (by decide)
        have g4 : v2 4 = v 4 := hag 4 (by decide)
        have g5 : v2 5 = v 5 := hag 5 (by decide)
        have g6 : v2 6 = v 6 := hag 6 (by decide)
        have g7 : v2 7 = v 7 := hag 7 (by decide)
        have b0 : ((2147483649 : Nat) : Int) ≤ (v2 1) + 2147483648 ∧ (v2 1) + 2147483648 ≤ ((2147483649 : Nat) : Int) := xXb hBd 0 rfl
        have b1 : ((2147483648 : Nat) : Int) ≤ (v2 2) + 2147483648 ∧ (v2 2) + 2147483648 ≤ ((2147483648 : Nat) : Int) := xXb hBd 1 rfl
        have b2 : ((2147483650 : Nat) : Int) ≤ (v2 5) + 2147483648 ∧ (v2 5) + 2147483648 ≤ ((2147483650 : Nat) : Int) := xXb hBd 2 rfl
        have b3 : ((2147483649 : Nat) : Int) ≤ (v2 6) + 2147483648 ∧ (v2 6) + 2147483648 ≤ ((2147483655 : Nat) : Int) := xXb hBd 3 rfl
        have b4 : ((2147483648 : Nat) : Int) ≤ (v2 7) + 2147483648 ∧ (v2 7) + 2147483648 ≤ ((2147483707 : Nat) : Int) := xXb hBd 4 rfl
        have b5 : ((2147483641 : Nat) : Int) ≤ (v2 8) + 2147483648 ∧ (v2 8) + 2147483648 ≤ ((2147483647 : Nat) : Int) := xXb hBd 5 rfl
        have b6 : ((2147484108 : Nat) : Int) ≤ (v2 7 + 460) + 2147483648 ∧ (v2 7 + 460) + 2147483648 ≤ ((2147484167 : Nat) : Int) := xXb hBd 6 rfl
        have k0 : xE (zyEl zymx B H) 74 36 = v 2 := xKcf hKc 0 rfl rfl
        have k1 : xE (zyEl zymx B H) 74 37 = v 3 := xKcf hKc 1 rfl rfl
        have k2 : xE (zyEl zymx B H) 74 38 = v 4 := xKcf hKc 2 rfl rfl
        have k3 : xE (zyEl zymx B H) 74 40 = v 5 := xKcf hKc 3 rfl rfl
        have k4 : xE (zyEl zymx B H) 74 41 = v 6 := xKcf hKc 4 rfl rfl
        have k5 : xE (zyEl zymx B H) 75 5 = v 7 := xKcf hKc 5 rfl rfl
        have f0 : (v2 5) = 2 := xXf hF 0 rfl
        have f1 : 1 ≤ (v2 6) := xXf hF 1 rfl
        have f2 : (v2 6) ≤ 7 := xXf hF 2 rfl
        have f3 : (v2 7) < 60 := xXf hF 3 rfl
        have f4 : (v2 2) ≤ 0 := xXf hF 4 rfl
        have f5 : ¬ (v2 1) = 0 := xXf hF 5 rfl
        have f6 : -2147483648 ≤ 0 - (v2 6) → 0 - (v2 6) < 2147483648 → (v2 8) = 0 - (v2 6) := xXf hF 6 rfl
        have f6 := f6 (by omega) (by omega)
        have m0 : xE (zyEl zymx B H2) 74 36 = (v2 2) := xXm hM 0 rfl
        have m1 : xE (zyEl zymx B H2) 74 37 = (v2 3) := xXm hM 1 rfl
        have e74_38 : xE (zyEl zymx B H2) 74 38 = xE (zyEl zymx B H) 74 38 := xFr_E hfr rfl
        have e74_39 : xE (zyEl zymx B H2) 74 39 = xE (zyEl zymx B H) 74 39 := xFr_E hfr rfl
        have e74_40 : xE (zyEl zymx B H2) 74 40 = xE (zyEl zymx B H) 74 40 := xFr_E hfr rfl
        have e74_41 : xE (zyEl zymx B H2) 74 41 = xE (zyEl zymx B H) 74 41 := xFr_E hfr rfl
        have e74_42 : xE (zyEl zymx B H2) 74 42 = xE (zyEl zymx B H) 74 42 := xFr_E hfr rfl
        have q74_42 : xE (zyEl zymx B H) 74 42 = xE (zyEl zymx B s.heap) 74 42 := xFr_E hFr0 rfl
        have e75_0 : xE (zyEl zymx B H2) 75 0 = xE (zyEl zymx B H) 75 0 := xFr_E hfr rfl
        have q75_0 : xE (zyEl zymx B H) 75 0 = xE (zyEl zymx B s.heap) 75 0 := xFr_E hFr0 rfl
        have e75_1 : xE (zyEl zymx B H2) 75 1 = xE (zyEl zymx B H) 75 1 := xFr_E hfr rfl
        have q75_1 : xE (zyEl zymx B H) 75 1 = xE (zyEl zymx B s.heap) 75 1 := xFr_E hFr0 rfl
        have e75_2 : xE (zyEl zymx B H2) 75 2 = xE (zyEl zymx B H) 75 2 := xFr_E hfr rfl
        have q75_2 : xE (zyEl zymx B H) 75 2 = xE (zyEl zymx B s.heap) 75 2 := xFr_E hFr0 rfl
        have e75_5 : xE (zyEl zymx B H2) 75 5 = xE (zyEl zymx B H) 75 5 := xFr_E hfr rfl
        have e84 : ∀ i, xE (zyEl zymx B H2) 84 i = xE (zyEl zymx B H) 84 i := fun i => xFr_E hfr rfl
        have q84 : ∀ i, xE (zyEl zymx B H) 84 i = xE (zyEl zymx B s.heap) 84 i := fun i => xFr_E hFr0 rfl
        have e75 : ∀ i, xE (zyEl zymx B H2) 75 i = xE (zyEl zymx B H) 75 i := fun i => xFr_E hfr rfl
        have y74_42 : ((2147483648 : Nat) : Int) ≤ xE (zyEl zymx B s.heap) 74 42 + 2147483648 ∧ xE (zyEl zymx B s.heap) 74 42 + 2147483648 ≤ ((2147484548 : Nat) : Int) := xTyF hT0 74 42 42 rfl rfl rfl rfl rfl rfl
        have hI : xE (zyEl zymx B H) 74 36 = 0 ∧ ∃ p Si, ((p) ≤ (xE (zyEl zymx B s.heap) 74 42) ∧ xRD (xE (zyEl zymx B s.heap) 84) (xE (zyEl zymx B s.heap) 74 42) (p) (zyEl zymx B H)) ∧ (0 ≤ Si 5 ∧ Si 5 ≤ 60) ∧ (∀ k, 0 ≤ k → xE (zyEl zymx B H) 75 k = Si k) ∧ pWs (xE (zyEl zymx B s.heap) 84) (xE (zyEl zymx B s.heap) 74 42) 60 (xE (zyEl zymx B s.heap) 74 39) (uS (xE (zyEl zymx B s.heap) 75) 5 0) = pNum (xE (zyEl zymx B s.heap) 84) (xE (zyEl zymx B s.heap) 74 42) p 1 7 (fun x p2 => if Si 5 < 60 then pWs (xE (zyEl zymx B s.heap) 84) (xE (zyEl zymx B s.heap) 74 42) (60 - (Si 5 + 1)).toNat p2 (uS (uS Si (460 + Si 5) (if (v 1) = 0 then x else -x)) 5 (Si 5 + 1)) else .error (6, tFr (xE (zyEl zymx B s.heap) 84) (xE (zyEl zymx B s.heap) 74 42) p)) := hInv
        obtain ⟨i1, p, Si, ⟨hp, hs⟩, h5, hc, ht⟩ := hI
        have h55 := hc 5 (by decide)
        obtain ⟨s1, s1b, s2, s3, s4, s5, s6, s7, s8⟩ := xRD_i hs hp
        have c3 : tKd (xE (zyEl zymx B s.heap) 84) (xE (zyEl zymx B s.heap) 74 42) p = 3 := by omega
        have s6 := s6 c3
        refine xSt hRu hIH hAt hB hv hFr 75 (ax := 0) 274877906945 240518172257 (v2 8) (v2 7 + 460) rfl (Or.inl ⟨rfl, rfl⟩) rfl (by decide +kernel) rfl rfl (by omega) (by show (v2 7 + 460) < ((556 : Nat) : Int); omega) (fun r hr q1 q2 => by rw [List.mem_singleton.mp hr]; exact ⟨rfl, by show ((0 : Nat) : Int) ≤ (v2 8) + 2147483648; omega, by show (v2 8) + 2147483648 ≤ ((4294967295 : Nat) : Int); omega⟩) (zyin_iff.mpr ⟨(75, 460, 519), by decide, rfl, (by show 460 ≤ Int.toNat (v2 7 + 460); omega), by show Int.toNat (v2 7 + 460) ≤ 519; omega⟩) (fun H3 hT3 hst3 hne3 hfn3 hFr3 => ?_)
        have hfe3 : ∀ (a2 : Nat) (k2 : Int), ¬ a2 = 75 → xE (zyEl zymx B H3) a2 k2 = xE (zyEl zymx B H2) a2 k2 := fun a2 k2 hne => by unfold xE; rw [hfn3 a2 k2.toNat (fun z => hne z.1)]
        have d74_36 : xE (zyEl zymx B H3) 74 36 = xE (zyEl zymx B H2) 74 36 := hfe3 74 36 (fun z => absurd z (by decide))
        have d74_37 : xE (zyEl zymx B H3) 74 37 = xE (zyEl zymx B H2) 74 37 := hfe3 74 37 (fun z => absurd z (by decide))
        have d74_38 : xE (zyEl zymx B H3) 74 38 = xE (zyEl zymx B H2) 74 38 := hfe3 74 38 (fun z => absurd z (by decide))
        have d74_39 : xE (zyEl zymx B H3) 74 39 = xE (zyEl zymx B H2) 74 39 := hfe3 74 39 (fun z => absurd z (by decide))
        have d74_40 : xE (zyEl zymx B H3) 74 40 = xE (zyEl zymx B H2) 74 40 := hfe3 74 40 (fun z => absurd z (by decide))
        have d74_41 : xE (zyEl zymx B H3) 74 41 = xE (zyEl zymx B H2) 74 41 := hfe3 74 41 (fun z => absurd z (by decide))
        have d74_42 : xE (zyEl zymx B H3) 74 42 = xE (zyEl zymx B H2) 74 42 := hfe3 74 42 (fun z => absurd z (by decide))
        have d75_5 : xE (zyEl zymx B H3) 75 5 = xE (zyEl zymx B H2) 75 5 := hne3 75 5 (by decide) (fun z => by omega)
        have z75_5 : ((0 : Nat) : Int) ≤ xE (zyEl zymx B H3) 75 5 + 2147483648 ∧ xE (zyEl zymx B H3) 75 5 + 2147483648 ≤ ((4294967295 : Nat) : Int) := xTyF hT3 75 5 0 rfl rfl rfl rfl rfl rfl
        refine ⟨⟨7, by decide⟩, [0, 0], [0, 0, xE (zyEl zymx B H3) 75 5], rfl, ⟨by decide +kernel, ⟨rfl, by decide +kernel⟩, (xcs_c rfl (xcs_c rfl xcs_n)), (xe_0 (xe_0 (xe_c (by omega) (by omega) rfl xe_n))), (xkq_c hT3 75 5 (q := 0) rfl rfl rfl rfl rfl rfl rfl rfl rfl rfl rfl xkq_n)⟩, rfl, ?_, ?_⟩
        · show xE (zyEl zymx B H3) 74 36 = 0 ∧ ∃ p Si x, ((p) ≤ (xE (zyEl zymx B s.heap) 74 42) ∧ xRD (xE (zyEl zymx B s.heap) 84) (xE (zyEl zymx B s.heap) 74 42) (p) (zyEl zymx B H3)) ∧ (0 ≤ Si 5 ∧ Si 5 < 60) ∧ (∀ k, 0 ≤ k → xE (zyEl zymx B H3) 75 k = uS Si (460 + Si 5) x k) ∧ tKd (xE (zyEl zymx B s.heap) 84) (xE (zyEl zymx B s.heap) 74 42) p = 3 ∧ pWs (xE (zyEl zymx B s.heap) 84) (xE (zyEl zymx B s.heap) 74 42) 60 (xE (zyEl zymx B s.heap) 74 39) (uS (xE (zyEl zymx B s.heap) 75) 5 0) = pWs (xE (zyEl zymx B s.heap) 84) (xE (zyEl zymx B s.heap) 74 42) (60 - (Si 5 + 1)).toNat (tNx (xE (zyEl zymx B s.heap) 84) (xE (zyEl zymx B s.heap) 74 42) p) (uS (uS Si (460 + Si 5) x) 5 (Si 5 + 1))
          refine ⟨by omega, p, Si, (v2 8), ⟨hp, xRD_e (xRD_k hs hfr rfl rfl rfl rfl rfl) (fun k _ => hfn3 74 k (fun z => absurd z.1 (by decide)))⟩, by omega, fun k k0 => ?_, c3, ?_⟩
          · by_cases e : k = 460 + Si 5
            · rw [uS_e e, e, show 460 + Si 5 = (v2 7 + 460) by omega]
              exact hst3
            · rw [uS_n e, hne3 75 k k0 (fun z => e (by omega)), e75]
              exact hc k k0
          · rw [ht]
            unfold pNum
            rw [if_pos c3, if_pos (by omega)]
            simp only [show (Si 5 < 60) from by omega, if_true, show ¬ (v 1 = 0) from by omega, if_false]
            rw [show -tNm (xE (zyEl zymx B s.heap) 84) (xE (zyEl zymx B s.heap) 74 42) p = (v2 8) by omega]
        · show 10 * (70 - xE (zyEl zymx B H3) 75 5).toNat + 5 < 10 * (70 - xE (zyEl zymx B H) 75 5).toNat + 6
          have h5e : xE (zyEl zymx B H3) 75 5 = xE (zyEl zymx B H) 75 5 := (hne3 75 5 (by decide) (fun z => by omega)).trans (e75 5)
          omega
      · skip
        have ex := List.mem_singleton.mp hx
        subst ex
        obtain ⟨hF, hBd, hM⟩ := hXs
        have r3 := hr2 3
        have g1 : v2 1 = v 1 := hag 1 (by decide)
        have g2 : v2 2 = v 2 := hag 2 (by decide)
        have g3 : v2 3 = v 3 := hag 3 (by decide)
        have g4 : v2 4 = v 4 := hag 4 (by decide)
        have g5 : v2 5 = v 5 := hag 5 (by decide)
        have g6 : v2 6 = v 6 := hag 6 (by decide)
        have g7 : v2 7 = v 7 := hag 7 (by decide)
        have b0 : ((2147483648 : Nat) : Int) ≤ (v2 1) + 2147483648 ∧ (v2 1) + 2147483648 ≤ ((2147483648 : Nat) : Int) := xXb hBd 0 rfl
        have b1 : ((2147483648 : Nat) : Int) ≤ (v2 2) + 2147483648 ∧ (v2 2) + 2147483648 ≤ ((2147483648 : Nat) : Int) := xXb hBd 1 rfl
        have b2 : ((2147483650 : Nat) : Int) ≤ (v2 5) + 2147483648 ∧ (v2 5) + 2147483648 ≤ ((2147483650 : Nat) : Int) := xXb hBd 2 rfl
        have b3 : ((2147483649 : Nat) : Int) ≤ (v2 6) + 2147483648 ∧ (v2 6) + 2147483648 ≤ ((2147483655 : Nat) : Int) := xXb hBd 3 rfl
        have b4 : ((2147483648 : Nat) : Int) ≤ (v2 7) + 2147483648 ∧ (v2 7) + 2147483648 ≤ ((2147483707 : Nat) : Int) := xXb hBd 4 rfl
        have b5 : ((2147484108 : Nat) : Int) ≤ (v2 7 + 460) + 2147483648 ∧ (v2 7 + 460) + 2147483648 ≤ ((2147484167 : Nat) : Int) := xXb hBd 5 rfl
        have k0 : xE (zyEl zymx B H) 74 36 = v 2 := xKcf hKc 0 rfl rfl
        have k1 : xE (zyEl zymx B H) 74 37 = v 3 := xKcf hKc 1 rfl rfl
        have k2 : xE (zyEl zymx B H) 74 38 = v 4 := xKcf hKc 2 rfl rfl
        have k3 : xE (zyEl zymx B H) 74 40 = v 5 := xKcf hKc 3 rfl rfl
        have k4 : xE (zyEl zymx B H) 74 41 = v 6 := xKcf hKc 4 rfl rfl
        have k5 : xE (zyEl zymx B H) 75 5 = v 7 := xKcf hKc 5 rfl rfl
        have f0 : (v2 5) = 2 := xXf hF 0 rfl
        have f1 : 1 ≤ (v2 6) := xXf hF 1 rfl
        have f2 : (v2 6) ≤ 7 := xXf hF 2 rfl
        have f3 : (v2 7) < 60 := xXf hF 3 rfl
        have f4 : (v2 2) ≤ 0 := xXf hF 4 rfl
        have f5 : (v2 1) = 0 := xXf hF 5 rfl
        have m0 : xE (zyEl zymx B H2) 74 36 = (v2 2) := xXm hM 0 rfl
        have m1 : xE (zyEl zymx B H2) 74 37 = (v2 3) := xXm hM 1 rfl
        have e74_38 : xE (zyEl zymx B H2) 74 38 = xE (zyEl zymx B H) 74 38 := xFr_E hfr rfl
        have e74_39 : xE (zyEl zymx B H2) 74 39 = xE (zyEl zymx B H) 74 39 := xFr_E hfr rfl
        have e74_40 : xE (zyEl zymx B H2) 74 40 = xE (zyEl zymx B H) 74 40 := xFr_E hfr rfl
        have e74_41 : xE (zyEl zymx B H2) 74 41 = xE (zyEl zymx B H) 74 41 := xFr_E hfr rfl
        have e74_42 : xE (zyEl zymx B H2) 74 42 = xE (zyEl zymx B H) 74 42 := xFr_E hfr rfl
        have q74_42 : xE (zyEl zymx B H) 74 42 = xE (zyEl zymx B s.heap) 74 42 := xFr_E hFr0 rfl
        have e75_0 : xE (zyEl zymx B H2) 75 0 = xE (zyEl zymx B H) 75 0 := xFr_E hfr rfl
        have q75_0 : xE (zyEl zymx B H) 75 0 = xE (zyEl zymx B s.heap) 75 0 := xFr_E hFr0 rfl
        have e75_1 : xE (zyEl zymx B H2) 75 1 = xE (zyEl zymx B H) 75 1 := xFr_E hfr rfl
        have q75_1 : xE (zyEl zymx B H) 75 1 = xE (zyEl zymx B s.heap) 75 1 := xFr_E hFr0 rfl
        have e75_2 : xE (zyEl zymx B H2) 75 2 = xE (zyEl zymx B H) 75 2 := xFr_E hfr rfl
        have q75_2 : xE (zyEl zymx B H) 75 2 = xE (zyEl zymx B s.heap) 75 2 := xFr_E hFr0 rfl
        have e75_5 : xE (zyEl zymx B H2) 75 5 = xE (zyEl zymx B H) 75 5 := xFr_E hfr rfl
        have e84 : ∀ i, xE (zyEl zymx B H2) 84 i = xE (zyEl zymx B H) 84 i := fun i => xFr_E hfr rfl
        have q84 : ∀ i, xE (zyEl zymx B H) 84 i = xE (zyEl zymx B s.heap) 84 i := fun i => xFr_E hFr0 rfl
        have e75 : ∀ i, xE (zyEl zymx B H2) 75 i = xE (zyEl zymx B H) 75 i := fun i => xFr_E hfr rfl
        have y74_42 : ((2147483648 : Nat) : Int) ≤ xE (zyEl zymx B s.heap) 74 42 + 2147483648 ∧ xE (zyEl zymx B s.heap) 74 42 + 2147483648 ≤ ((2147484548 : Nat) : Int) := xTyF hT0 74 42 42 rfl rfl rfl rfl rfl rfl
        have hI : xE (zyEl zymx B H) 74 36 = 0 ∧ ∃ p Si, ((p) ≤ (xE (zyEl zymx B s.heap) 74 42) ∧ xRD (xE (zyEl zymx B s.heap) 84) (xE (zyEl zymx B s.heap) 74 42) (p) (zyEl zymx B H)) ∧ (0 ≤ Si 5 ∧ Si 5 ≤ 60) ∧ (∀ k, 0 ≤ k → xE (zyEl zymx B H) 75 k = Si k) ∧ pWs (xE (zyEl zymx B s.heap) 84) (xE (zyEl zymx B s.heap) 74 42) 60 (xE (zyEl zymx B s.heap) 74 39) (uS (xE (zyEl zymx B s.heap) 75) 5 0) = pNum (xE (zyEl zymx B s.heap) 84) (xE (zyEl zymx B s.heap) 74 42) p 1 7 (fun x p2 => if Si 5 < 60 then pWs (xE (zyEl zymx B s.heap) 84) (xE (zyEl zymx B s.heap) 74 42) (60 - (Si 5 + 1)).toNat p2 (uS (uS Si (460 + Si 5) (if (v 1) = 0 then x else -x)) 5 (Si 5 + 1)) else .error (6, tFr (xE (zyEl zymx B s.heap) 84) (xE (zyEl zymx B s.heap) 74 42) p)) := hInv
        obtain ⟨i1, p, Si, ⟨hp, hs⟩, h5, hc, ht⟩ := hI
        have h55 := hc 5 (by decide)
        obtain ⟨s1, s1b, s2, s3, s4, s5, s6, s7, s8⟩ := xRD_i hs hp
        have c3 : tKd (xE (zyEl zymx B s.heap) 84) (xE (zyEl zymx B s.heap) 74 42) p = 3 := by omega
        have s6 := s6 c3
        refine xSt hRu hIH hAt hB hv hFr 75 (ax := 0) 206158430209 240518172257 (v2 6) (v2 7 + 460) rfl (Or.inl ⟨rfl, rfl⟩) rfl (by decide +kernel) rfl rfl (by omega) (by show (v2 7 + 460) < ((556 : Nat) : Int); omega) (fun r hr q1 q2 => by rw [List.mem_singleton.mp hr]; exact ⟨rfl, by show ((0 : Nat) : Int) ≤ (v2 6) + 2147483648; omega, by show (v2 6) + 2147483648 ≤ ((4294967295 : Nat) : Int); omega⟩) (zyin_iff.mpr ⟨(75, 460, 519), by decide, rfl, (by show 460 ≤ Int.toNat (v2 7 + 460); omega), by show Int.toNat (v2 7 + 460) ≤ 519; omega⟩) (fun H3 hT3 hst3 hne3 hfn3 hFr3 => ?_)
        have hfe3 : ∀ (a2 : Nat) (k2 : Int), ¬ a2 = 75 → xE (zyEl zymx B H3) a2 k2 = xE (zyEl zymx B H2) a2 k2 := fun a2 k2 hne => by unfold xE; rw [hfn3 a2 k2.toNat (fun z => hne z.1)]
        have d74_36 : xE (zyEl zymx B H3) 74 36 = xE (zyEl zymx B H2) 74 36 := hfe3 74 36 (fun z => absurd z (by decide))
        have d74_37 : xE (zyEl zymx B H3) 74 37 = xE (zyEl zymx B H2) 74 37 := hfe3 74 37 (fun z => absurd z (by decide))
        have d74_38 : xE (zyEl zymx B H3) 74 38 = xE (zyEl zymx B H2) 74 38 := hfe3 74 38 (fun z => absurd z (by decide))
        have d74_39 : xE (zyEl zymx B H3) 74 39 = xE (zyEl zymx B H2) 74 39 := hfe3 74 39 (fun z => absurd z (by decide))
        have d74_40 : xE (zyEl zymx B H3) 74 40 = xE (zyEl zymx B H2) 74 40 := hfe3 74 40 (fun z => absurd z (by decide))
        have d74_41 : xE (zyEl zymx B H3) 74 41 = xE (zyEl zymx B H2) 74 41 := hfe3 74 41 (fun z => absurd z (by decide))
        have d74_42 : xE (zyEl zymx B H3) 74 42 = xE (zyEl zymx B H2) 74 42 := hfe3 74 42 (fun z => absurd z (by decide))
        have d75_5 : xE (zyEl zymx B H3) 75 5 = xE (zyEl zymx B H2) 75 5 := hne3 75 5 (by decide) (fun z => by omega)
        have z75_5 : ((0 : Nat) : Int) ≤ xE (zyEl zymx B H3) 75 5 + 2147483648 ∧ xE (zyEl zymx B H3) 75 5 + 2147483648 ≤ ((4294967295 : Nat) : Int) := xTyF hT3 75 5 0 rfl rfl rfl rfl rfl rfl
        refine ⟨⟨7, by decide⟩, [0, 0], [0, 0, xE (zyEl zymx B H3) 75 5], rfl, ⟨by decide +kernel, ⟨rfl, by decide +kernel⟩, (xcs_c rfl (xcs_c rfl xcs_n)), (xe_0 (xe_0 (xe_c (by omega) (by omega) rfl xe_n))), (xkq_c hT3 75 5 (q := 0) rfl rfl rfl rfl rfl rfl rfl rfl rfl rfl rfl xkq_n)⟩, rfl, ?_, ?_⟩
        · show xE (zyEl zymx B H3) 74 36 = 0 ∧ ∃ p Si x, ((p) ≤ (xE (zyEl zymx B s.heap) 74 42) ∧ xRD (xE (zyEl zymx B s.heap) 84) (xE (zyEl zymx B s.heap) 74 42) (p) (zyEl zymx B H3)) ∧ (0 ≤ Si 5 ∧ Si 5 < 60) ∧ (∀ k, 0 ≤ k → xE (zyEl zymx B H3) 75 k = uS Si (460 + Si 5) x k) ∧ tKd (xE (zyEl zymx B s.heap) 84) (xE (zyEl zymx B s.heap) 74 42) p = 3 ∧ pWs (xE (zyEl zymx B s.heap) 84) (xE (zyEl zymx B s.heap) 74 42) 60 (xE (zyEl zymx B s.heap) 74 39) (uS (xE (zyEl zymx B s.heap) 75) 5 0) = pWs (xE (zyEl zymx B s.heap) 84) (xE (zyEl zymx B s.heap) 74 42) (60 - (Si 5 + 1)).toNat (tNx (xE (zyEl zymx B s.heap) 84) (xE (zyEl zymx B s.heap) 74 42) p) (uS (uS Si (460 + Si 5) x) 5 (Si 5 + 1))
          refine ⟨by omega, p, Si, (v2 6), ⟨hp, xRD_e (xRD_k hs hfr rfl rfl rfl rfl rfl) (fun k _ => hfn3 74 k (fun z => absurd z.1 (by decide)))⟩, by omega, fun k k0 => ?_, c3, ?_⟩
          · by_cases e : k = 460 + Si 5
            · rw [uS_e e, e, show 460 + Si 5 = (v2 7 + 460) by omega]
              exact hst3
            · rw [uS_n e, hne3 75 k k0 (fun z => e (by omega)), e75]
              exact hc k k0
          · rw [ht]
            unfold pNum
            rw [if_pos c3, if_pos (by omega)]
            simp only [show (Si 5 < 60) from by omega, if_true, show (v 1 = 0) from by omega, if_true]
            rw [show tNm (xE (zyEl zymx B s.heap) 84) (xE (zyEl zymx B s.heap) 74 42) p = (v2 6) by omega]
        · show 10 * (70 - xE (zyEl zymx B H3) 75 5).toNat + 5 < 10 * (70 - xE (zyEl zymx B H) 75 5).toNat + 6
          have h5e : xE (zyEl zymx B H3) 75 5 = xE (zyEl zymx B H) 75 5 := (hne3 75 5 (by decide) (fun z => by omega)).trans (e75 5)
          omega
    · have hx : x ∈ [zxfwd_ox0] := hx
      have hag : ∀ k, k < 3 → v2 k = v k := hag
      have hfr : xFr [] _ _ := hfr
      have ex := List.mem_singleton.mp hx
      subst ex
      obtain ⟨hF, hBd, hM⟩ := hXs
      have g2 : v2 2 = v 2 := hag 2 (by decide)
      have b0 : ((2147483648 : Nat) : Int) ≤ (v2 2) + 2147483648 ∧ (v2 2) + 2147483648 ≤ ((2147483708 : Nat) : Int) := xXb hBd 0 rfl
      have b1 : ((2147483649 : Nat) : Int) ≤ (v2 2 + 1) + 2147483648 ∧ (v2 2 + 1) + 2147483648 ≤ ((2147483709 : Nat) : Int) := xXb hBd 1 rfl
      have k0 : xE (zyEl zymx B H) 75 5 = v 2 := xKcf hKc 0 rfl rfl
      have e74_36 : xE (zyEl zymx B H2) 74 36 = xE (zyEl zymx B H) 74 36 := xFr_E hfr rfl
      have e74_37 : xE (zyEl zymx B H2) 74 37 = xE (zyEl zymx B H) 74 37 := xFr_E hfr rfl
      have e74_38 : xE (zyEl zymx B H2) 74 38 = xE (zyEl zymx B H) 74 38 := xFr_E hfr rfl
      have e74_39 : xE (zyEl zymx B H2) 74 39 = xE (zyEl zymx B H) 74 39 := xFr_E hfr rfl
      have e74_40 : xE (zyEl zymx B H2) 74 40 = xE (zyEl zymx B H) 74 40 := xFr_E hfr rfl
      have e74_41 : xE (zyEl zymx B H2) 74 41 = xE (zyEl zymx B H) 74 41 := xFr_E hfr rfl
      have e74_42 : xE (zyEl zymx B H2) 74 42 = xE (zyEl zymx B H) 74 42 := xFr_E hfr rfl
      have q74_42 : xE (zyEl zymx B H) 74 42 = xE (zyEl zymx B s.heap) 74 42 := xFr_E hFr0 rfl
      have e75_0 : xE (zyEl zymx B H2) 75 0 = xE (zyEl zymx B H) 75 0 := xFr_E hfr rfl
      have q75_0 : xE (zyEl zymx B H) 75 0 = xE (zyEl zymx B s.heap) 75 0 := xFr_E hFr0 rfl
      have e75_1 : xE (zyEl zymx B H2) 75 1 = xE (zyEl zymx B H) 75 1 := xFr_E hfr rfl
      have q75_1 : xE (zyEl zymx B H) 75 1 = xE (zyEl zymx B s.heap) 75 1 := xFr_E hFr0 rfl
      have e75_2 : xE (zyEl zymx B H2) 75 2 = xE (zyEl zymx B H) 75 2 := xFr_E hfr rfl
      have q75_2 : xE (zyEl zymx B H) 75 2 = xE (zyEl zymx B s.heap) 75 2 := xFr_E hFr0 rfl
      have e75_5 : xE (zyEl zymx B H2) 75 5 = xE (zyEl zymx B H) 75 5 := xFr_E hfr rfl
      have e84 : ∀ i, xE (zyEl zymx B H2) 84 i = xE (zyEl zymx B H) 84 i := fun i => xFr_E hfr rfl
      have q84 : ∀ i, xE (zyEl zymx B H) 84 i = xE (zyEl zymx B s.heap) 84 i := fun i => xFr_E hFr0 rfl
      have e75 : ∀ i, xE (zyEl zymx B H2) 75 i = xE (zyEl zymx B H) 75 i := fun i => xFr_E hfr rfl
      have y74_42 : ((2147483648 : Nat) : Int) ≤ xE (zyEl zymx B s.heap) 74 42 + 2147483648 ∧ xE (zyEl zymx B s.heap) 74 42 + 2147483648 ≤ ((2147484548 : Nat) : Int) := xTyF hT0 74 42 42 rfl rfl rfl rfl rfl rfl
      have hI : xE (zyEl zymx B H) 74 36 = 0 ∧ ∃ p Si x, ((p) ≤ (xE (zyEl zymx B s.heap) 74 42) ∧ xRD (xE (zyEl zymx B s.heap) 84) (xE (zyEl zymx B s.heap) 74 42) (p) (zyEl zymx B H)) ∧ (0 ≤ Si 5 ∧ Si 5 < 60) ∧ (∀ k, 0 ≤ k → xE (zyEl zymx B H) 75 k = uS Si (460 + Si 5) x k) ∧ tKd (xE (zyEl zymx B s.heap) 84) (xE (zyEl zymx B s.heap) 74 42) p = 3 ∧ pWs (xE (zyEl zymx B s.heap) 84) (xE (zyEl zymx B s.heap) 74 42) 60 (xE (zyEl zymx B s.heap) 74 39) (uS (xE (zyEl zymx B s.heap) 75) 5 0) = pWs (xE (zyEl zymx B s.heap) 84) (xE (zyEl zymx B s.heap) 74 42) (60 - (Si 5 + 1)).toNat (tNx (xE (zyEl zymx B s.heap) 84) (xE (zyEl zymx B s.heap) 74 42) p) (uS (uS Si (460 + Si 5) x) 5 (Si 5 + 1)) := hInv
      obtain ⟨i1, p, Si, x, ⟨hp, hs⟩, h5, hc, hk, ht⟩ := hI
      have h55 := hc 5 (by decide)
      rw [uS_n (by omega)] at h55
      have hEE : (zyEl zymx B H2) = (zyEl zymx B H) := xFr_n hfr
      refine xSt hRu hIH hAt hB hv hFr 75 (ax := 0) 68719476745 40 (v2 2 + 1) 5 rfl (Or.inl ⟨rfl, rfl⟩) rfl (by decide +kernel) rfl rfl (by omega) (by show 5 < ((556 : Nat) : Int); omega) (fun r hr q1 q2 => by rw [List.mem_singleton.mp hr]; exact ⟨rfl, by show ((0 : Nat) : Int) ≤ (v2 2 + 1) + 2147483648; omega, by show (v2 2 + 1) + 2147483648 ≤ ((4294967295 : Nat) : Int); omega⟩) (zyin_iff.mpr ⟨(75, 5, 5), by decide, rfl, (by show 5 ≤ Int.toNat 5; omega), by show Int.toNat 5 ≤ 5; omega⟩) (fun H3 hT3 hst3 hne3 hfn3 hFr3 => ?_)
      have hfe3 : ∀ (a2 : Nat) (k2 : Int), ¬ a2 = 75 → xE (zyEl zymx B H3) a2 k2 = xE (zyEl zymx B H2) a2 k2 := fun a2 k2 hne => by unfold xE; rw [hfn3 a2 k2.toNat (fun z => hne z.1)]
      have d74_36 : xE (zyEl zymx B H3) 74 36 = xE (zyEl zymx B H2) 74 36 := hfe3 74 36 (fun z => absurd z (by decide))
      have d74_37 : xE (zyEl zymx B H3) 74 37 = xE (zyEl zymx B H2) 74 37 := hfe3 74 37 (fun z => absurd z (by decide))
      have d74_38 : xE (zyEl zymx B H3) 74 38 = xE (zyEl zymx B H2) 74 38 := hfe3 74 38 (fun z => absurd z (by decide))
      have d74_39 : xE (zyEl zymx B H3) 74 39 = xE (zyEl zymx B H2) 74 39 := hfe3 74 39 (fun z => absurd z (by decide))
      have d74_40 : xE (zyEl zymx B H3) 74 40 = xE (zyEl zymx B H2) 74 40 := hfe3 74 40 (fun z => absurd z (by decide))
      have d74_41 : xE (zyEl zymx B H3) 74 41 = xE (zyEl zymx B H2) 74 41 := hfe3 74 41 (fun z => absurd z (by decide))
      have d74_42 : xE (zyEl zymx B H3) 74 42 = xE (zyEl zymx B H2) 74 42 := hfe3 74 42 (fun z => absurd z (by decide))
      refine ⟨⟨8, by decide⟩, [0, 0], [0, 0], rfl, ⟨by decide +kernel, ⟨rfl, by decide +kernel⟩, (xcs_c rfl (xcs_c rfl xcs_n)), (xe_0 (xe_0 xe_n)), xkq_n⟩, rfl, ?_, ?_⟩
      · show xE (zyEl zymx B H3) 74 36 = 0 ∧ ∃ p Si, ((p) ≤ (xE (zyEl zymx B s.heap) 74 42) ∧ xRD (xE (zyEl zymx B s.heap) 84) (xE (zyEl zymx B s.heap) 74 42) (p) (zyEl zymx B H3)) ∧ (0 ≤ Si 5 ∧ Si 5 ≤ 60) ∧ (∀ k, 0 ≤ k → xE (zyEl zymx B H3) 75 k = Si k) ∧ tKd (xE (zyEl zymx B s.heap) 84) (xE (zyEl zymx B s.heap) 74 42) p = 3 ∧ pWs (xE (zyEl zymx B s.heap) 84) (xE (zyEl zymx B s.heap) 74 42) 60 (xE (zyEl zymx B s.heap) 74 39) (uS (xE (zyEl zymx B s.heap) 75) 5 0) = pWs (xE (zyEl zymx B s.heap) 84) (xE (zyEl zymx B s.heap) 74 42) (60 - Si 5).toNat (tNx (xE (zyEl zymx B s.heap) 84) (xE (zyEl zymx B s.heap) 74 42) p) Si
        refine ⟨by omega, p, uS (uS Si (460 + Si 5) x) 5 (Si 5 + 1), ⟨hp, xRD_e (xRD_k hs hfr rfl rfl rfl rfl rfl) (fun k _ => hfn3 74 k (fun z => absurd z.1 (by decide)))⟩, ?_, fun k k0 => ?_, hk, ?_⟩
        · rw [uS_e rfl]
          omega
        · by_cases e : k = 5
          · rw [uS_e e, e, hst3]
            omega
          · rw [uS_n e, hne3 75 k k0 (fun z => e (by omega)), e75]
            exact hc k k0
        · rw [uS_e rfl]
          exact ht
      · show 10 * (70 - xE (zyEl zymx B H3) 75 5).toNat + 11 < 10 * (70 - xE (zyEl zymx B H) 75 5).toNat + 5
        have h5e : xE (zyEl zymx B H3) 75 5 = (v2 2 + 1) := hst3
        omega
    · have hx : x ∈ [zxfwd_qx0] := hx
      have hag : ∀ k, k < 2 → v2 k = v k := hag
      have hfr : xFr [] _ _ := hfr
      have ex := List.mem_singleton.mp hx
      subst ex
      obtain ⟨hF, hBd, hM⟩ := hXs
      have e74_36 : xE (zyEl zymx B H2) 74 36 = xE (zyEl zymx B H) 74 36 := xFr_E hfr rfl
      have e74_37 : xE (zyEl zymx B H2) 74 37 = xE (zyEl zymx B H) 74 37 := xFr_E hfr rfl
      have e74_38 : xE (zyEl zymx B H2) 74 38 = xE (zyEl zymx B H) 74 38 := xFr_E hfr rfl
      have e74_39 : xE (zyEl zymx B H2) 74 39 = xE (zyEl zymx B H) 74 39 := xFr_E hfr rfl
      have e74_40 : xE (zyEl zymx B H2) 74 40 = xE (zyEl zymx B H) 74 40 := xFr_E hfr rfl
      have e74_41 : xE (zyEl zymx B H2) 74 41 = xE (zyEl zymx B H) 74 41 := xFr_E hfr rfl
      have e74_42 : xE (zyEl zymx B H2) 74 42 = xE (zyEl zymx B H) 74 42 := xFr_E hfr rfl
      have q74_42 : xE (zyEl zymx B H) 74 42 = xE (zyEl zymx B s.heap) 74 42 := xFr_E hFr0 rfl
      have e75_0 : xE (zyEl zymx B H2) 75 0 = xE (zyEl zymx B H) 75 0 := xFr_E hfr rfl
      have q75_0 : xE (zyEl zymx B H) 75 0 = xE (zyEl zymx B s.heap) 75 0 := xFr_E hFr0 rfl
      have e75_1 : xE (zyEl zymx B H2) 75 1 = xE (zyEl zymx B H) 75 1 := xFr_E hfr rfl
      have q75_1 : xE (zyEl zymx B H) 75 1 = xE (zyEl zymx B s.heap) 75 1 := xFr_E hFr0 rfl
      have e75_2 : xE (zyEl zymx B H2) 75 2 = xE (zyEl zymx B H) 75 2 := xFr_E hfr rfl
      have q75_2 : xE (zyEl zymx B H) 75 2 = xE (zyEl zymx B s.heap) 75 2 := xFr_E hFr0 rfl
      have e75_5 : xE (zyEl zymx B H2) 75 5 = xE (zyEl zymx B H) 75 5 := xFr_E hfr rfl
      have e84 : ∀ i, xE (zyEl zymx B H2) 84 i = xE (zyEl zymx B H) 84 i := fun i => xFr_E hfr rfl
      have q84 : ∀ i, xE (zyEl zymx B H) 84 i = xE (zyEl zymx B s.heap) 84 i := fun i => xFr_E hFr0 rfl
      have e75 : ∀ i, xE (zyEl zymx B H2) 75 i = xE (zyEl zymx B H) 75 i := fun i => xFr_E hfr rfl
      have y74_42 : ((2147483648 : Nat) : Int) ≤ xE (zyEl zymx B s.heap) 74 42 + 2147483648 ∧ xE (zyEl zymx B s.heap) 74 42 + 2147483648 ≤ ((2147484548 : Nat) : Int) := xTyF hT0 74 42 42 rfl rfl rfl rfl rfl rfl
      have hI : xE (zyEl zymx B H) 74 36 = 0 ∧ ∃ p Si, ((p) ≤ (xE (zyEl zymx B s.heap) 74 42) ∧ xRD (xE (zyEl zymx B s.heap) 84) (xE (zyEl zymx B s.heap) 74 42) (p) (zyEl zymx B H)) ∧ (0 ≤ Si 5 ∧ Si 5 ≤ 60) ∧ (∀ k, 0 ≤ k → xE (zyEl zymx B H) 75 k = Si k) ∧ tKd (xE (zyEl zymx B s.heap) 84) (xE (zyEl zymx B s.heap) 74 42) p = 3 ∧ pWs (xE (zyEl zymx B s.heap) 84) (xE (zyEl zymx B s.heap) 74 42) 60 (xE (zyEl zymx B s.heap) 74 39) (uS (xE (zyEl zymx B s.heap) 75) 5 0) = pWs (xE (zyEl zymx B s.heap) 84) (xE (zyEl zymx B s.heap) 74 42) (60 - Si 5).toNat (tNx (xE (zyEl zymx B s.heap) 84) (xE (zyEl zymx B s.heap) 74 42) p) Si := hInv
      obtain ⟨i1, p, Si, ⟨hp, hs⟩, h5, hc, hk, ht⟩ := hI
      have h55 := hc 5 (by decide)
      have hEE : (zyEl zymx B H2) = (zyEl zymx B H) := xFr_n hfr
      have hs2 : xRD (xE (zyEl zymx B s.heap) 84) (xE (zyEl zymx B s.heap) 74 42) p (zyEl zymx B H2) := by rw [hEE]; exact hs
      obtain ⟨s1, s1b, s2, s3, s4, s5, s6, s7, s8⟩ := xRD_i hs2 hp
      have s4 := s4 (by omega)
      refine xCa hRu hIH hAt hB hv hFr (hfrd B) (ix := 450) (ax := 5024) rfl rfl rfl hmefrd ⟨_, rfl, rfl, by decide⟩ ⟨rfl, rfl, rfl⟩ (by decide) [] [] [] rfl ⟨rfl, rfl⟩ (by decide +kernel) xcs_n (by decide +kernel) ?_ (fun H3 r hT3 hf3 hFr3 hr3 hΨ3 => ?_)
      · show xΦrd (xfv []) (zyEl zymx B H2)
        unfold xΦrd
        omega
      · have hΨ3 : xΨrd (xfv []) (zyEl zymx B H2) (zyEl zymx B H3) r := hΨ3
        have d74_36 : xE (zyEl zymx B H3) 74 36 = xE (zyEl zymx B H2) 74 36 := xFr_E hf3 rfl
        have d74_37 : xE (zyEl zymx B H3) 74 37 = xE (zyEl zymx B H2) 74 37 := xFr_E hf3 rfl
        have d74_42 : xE (zyEl zymx B H3) 74 42 = xE (zyEl zymx B H2) 74 42 := xFr_E hf3 rfl
        have d75_0 : xE (zyEl zymx B H3) 75 0 = xE (zyEl zymx B H2) 75 0 := xFr_E hf3 rfl
        have d75_1 : xE (zyEl zymx B H3) 75 1 = xE (zyEl zymx B H2) 75 1 := xFr_E hf3 rfl
        have d75_2 : xE (zyEl zymx B H3) 75 2 = xE (zyEl zymx B H2) 75 2 := xFr_E hf3 rfl
        have d75_5 : xE (zyEl zymx B H3) 75 5 = xE (zyEl zymx B H2) 75 5 := xFr_E hf3 rfl
        have d84 : ∀ i, xE (zyEl zymx B H3) 84 i = xE (zyEl zymx B H2) 84 i := fun i => xFr_E hf3 rfl
        have d75 : ∀ i, xE (zyEl zymx B H3) 75 i = xE (zyEl zymx B H2) 75 i := fun i => xFr_E hf3 rfl
        unfold xΨrd at hΨ3
        rw [show xE (zyEl zymx B H2) 84 = xE (zyEl zymx B s.heap) 84 from funext fun i => (e84 i).trans (q84 i), show xE (zyEl zymx B H2) 74 42 = xE (zyEl zymx B s.heap) 74 42 by omega, show xE (zyEl zymx B H2) 74 39 = tNx (xE (zyEl zymx B s.heap) 84) (xE (zyEl zymx B s.heap) 74 42) p by omega] at hΨ3
        refine ⟨⟨9, by decide⟩, [0, 0], [0, 0], rfl, ⟨by decide +kernel, ⟨rfl, by decide +kernel⟩, (xcs_c rfl (xcs_c rfl xcs_n)), (xe_0 (xe_0 xe_n)), xkq_n⟩, (by rw [if_neg (by decide)]; exact xst_n), ?_, ?_⟩
        · show xE (zyEl zymx B H3) 74 36 = 0 ∧ ∃ p Si, ((p) ≤ (xE (zyEl zymx B s.heap) 74 42) ∧ xRD (xE (zyEl zymx B s.heap) 84) (xE (zyEl zymx B s.heap) 74 42) (p) (zyEl zymx B H3)) ∧ (0 ≤ Si 5 ∧ Si 5 ≤ 60) ∧ (∀ k, 0 ≤ k → xE (zyEl zymx B H3) 75 k = Si k) ∧ pWs (xE (zyEl zymx B s.heap) 84) (xE (zyEl zymx B s.heap) 74 42) 60 (xE (zyEl zymx B s.heap) 74 39) (uS (xE (zyEl zymx B s.heap) 75) 5 0) = pWs (xE (zyEl zymx B s.heap) 84) (xE (zyEl zymx B s.heap) 74 42) (60 - Si 5).toNat p Si
          exact ⟨by omega, _, Si, ⟨s4.2.1, hΨ3⟩, h5, fun k k0 => (d75 k).trans ((e75 k).trans (hc k k0)), ht⟩
        · show 10 * (70 - xE (zyEl zymx B H3) 75 5).toNat + 10 < 10 * (70 - xE (zyEl zymx B H) 75 5).toNat + 11
          have h5e : xE (zyEl zymx B H3) 75 5 = xE (zyEl zymx B H) 75 5 := (d75 5).trans (e75 5)
          omega
    · have hx : x ∈ [zxfwd_rx0] := hx
      have hag : ∀ k, k < 2 → v2 k = v k := hag
      have hfr : xFr [] _ _ := hfr
      have ex := List.mem_singleton.mp hx
      subst ex
      obtain ⟨hF, hBd, hM⟩ := hXs
      have e74_36 : xE (zyEl zymx B H2) 74 36 = xE (zyEl zymx B H) 74 36 := xFr_E hfr rfl
      have e74_37 : xE (zyEl zymx B H2) 74 37 = xE (zyEl zymx B H) 74 37 := xFr_E hfr rfl
      have e74_38 : xE (zyEl zymx B H2) 74 38 = xE (zyEl zymx B H) 74 38 := xFr_E hfr rfl
      have e74_39 : xE (zyEl zymx B H2) 74 39 = xE (zyEl zymx B H) 74 39 := xFr_E hfr rfl
      have e74_40 : xE (zyEl zymx B H2) 74 40 = xE (zyEl zymx B H) 74 40 := xFr_E hfr rfl
      have e74_41 : xE (zyEl zymx B H2) 74 41 = xE (zyEl zymx B H) 74 41 := xFr_E hfr rfl
      have e74_42 : xE (zyEl zymx B H2) 74 42 = xE (zyEl zymx B H) 74 42 := xFr_E hfr rfl
      have q74_42 : xE (zyEl zymx B H) 74 42 = xE (zyEl zymx B s.heap) 74 42 := xFr_E hFr0 rfl
      have e75_0 : xE (zyEl zymx B H2) 75 0 = xE (zyEl zymx B H) 75 0 := xFr_E hfr rfl
      have q75_0 : xE (zyEl zymx B H) 75 0 = xE (zyEl zymx B s.heap) 75 0 := xFr_E hFr0 rfl
      have e75_1 : xE (zyEl zymx B H2) 75 1 = xE (zyEl zymx B H) 75 1 := xFr_E hfr rfl
      have q75_1 : xE (zyEl zymx B H) 75 1 = xE (zyEl zymx B s.heap) 75 1 := xFr_E hFr0 rfl
      have e75_2 : xE (zyEl zymx B H2) 75 2 = xE (zyEl zymx B H) 75 2 := xFr_E hfr rfl
      have q75_2 : xE (zyEl zymx B H) 75 2 = xE (zyEl zymx B s.heap) 75 2 := xFr_E hFr0 rfl
      have e75_5 : xE (zyEl zymx B H2) 75 5 = xE (zyEl zymx B H) 75 5 := xFr_E hfr rfl
      have e84 : ∀ i, xE (zyEl zymx B H2) 84 i = xE (zyEl zymx B H) 84 i := fun i => xFr_E hfr rfl
      have q84 : ∀ i, xE (zyEl zymx B H) 84 i = xE (zyEl zymx B s.heap) 84 i := fun i => xFr_E hFr0 rfl
      have e75 : ∀ i, xE (zyEl zymx B H2) 75 i = xE (zyEl zymx B H) 75 i := fun i => xFr_E hfr rfl
      have y74_42 : ((2147483648 : Nat) : Int) ≤ xE (zyEl zymx B s.heap) 74 42 + 2147483648 ∧ xE (zyEl zymx B s.heap) 74 42 + 2147483648 ≤ ((2147484548 : Nat) : Int) := xTyF hT0 74 42 42 rfl rfl rfl rfl rfl rfl
      have hI : xE (zyEl zymx B H) 74 36 = 0 ∧ ∃ p Si, ((p) ≤ (xE (zyEl zymx B s.heap) 74 42) ∧ xRD (xE (zyEl zymx B s.heap) 84) (xE (zyEl zymx B s.heap) 74 42) (p) (zyEl zymx B H)) ∧ (0 ≤ Si 5 ∧ Si 5 ≤ 60) ∧ (∀ k, 0 ≤ k → xE (zyEl zymx B H) 75 k = Si k) ∧ pWs (xE (zyEl zymx B s.heap) 84) (xE (zyEl zymx B s.heap) 74 42) 60 (xE (zyEl zymx B s.heap) 74 39) (uS (xE (zyEl zymx B s.heap) 75) 5 0) = pWs (xE (zyEl zymx B s.heap) 84) (xE (zyEl zymx B s.heap) 74 42) (60 - Si 5).toNat p Si := hInv
      obtain ⟨i1, p, Si, ⟨hp, hs⟩, h5, hc, ht⟩ := hI
      have h55 := hc 5 (by decide)
      have hEE : (zyEl zymx B H2) = (zyEl zymx B H) := xFr_n hfr
      have z74_36 : ((2147483648 : Nat) : Int) ≤ xE (zyEl zymx B H2) 74 36 + 2147483648 ∧ xE (zyEl zymx B H2) 74 36 + 2147483648 ≤ ((2147483657 : Nat) : Int) := xTyF hT2 74 36 36 rfl rfl rfl rfl rfl rfl
      have z74_40 : ((2147483648 : Nat) : Int) ≤ xE (zyEl zymx B H2) 74 40 + 2147483648 ∧ xE (zyEl zymx B H2) 74 40 + 2147483648 ≤ ((2147483652 : Nat) : Int) := xTyF hT2 74 40 40 rfl rfl rfl rfl rfl rfl
      refine xGo hIH hAt hB hv hFr ⟨3, by decide⟩ [0, 0] [0, 0, xE (zyEl zymx B H2) 74 36, xE (zyEl zymx B H2) 74 40] rfl ⟨by decide +kernel, ⟨rfl, by decide +kernel⟩, (xcs_c rfl (xcs_c rfl xcs_n)), (xe_0 (xe_0 (xe_c (by omega) (by omega) rfl (xe_c (by omega) (by omega) rfl xe_n)))), (xkq_c hT2 74 36 (q := 36) rfl rfl rfl rfl rfl rfl rfl rfl rfl rfl rfl (xkq_c hT2 74 40 (q := 40) rfl rfl rfl rfl rfl rfl rfl rfl rfl rfl rfl xkq_n))⟩ xst_n ?_ ?_
      · show xE (zyEl zymx B H2) 74 36 = 0 ∧ ∃ p Si, ((p) ≤ (xE (zyEl zymx B s.heap) 74 42) ∧ xRD (xE (zyEl zymx B s.heap) 84) (xE (zyEl zymx B s.heap) 74 42) (p) (zyEl zymx B H2)) ∧ (0 ≤ Si 5 ∧ Si 5 ≤ 60) ∧ (∀ k, 0 ≤ k → xE (zyEl zymx B H2) 75 k = Si k) ∧ pWs (xE (zyEl zymx B s.heap) 84) (xE (zyEl zymx B s.heap) 74 42) 60 (xE (zyEl zymx B s.heap) 74 39) (uS (xE (zyEl zymx B s.heap) 75) 5 0) = pWs (xE (zyEl zymx B s.heap) 84) (xE (zyEl zymx B s.heap) 74 42) (60 - Si 5).toNat p Si
        rw [hEE]
        exact ⟨i1, p, Si, ⟨hp, hs⟩, h5, hc, ht⟩
      · show 10 * (70 - xE (zyEl zymx B H2) 75 5).toNat + 9 < 10 * (70 - xE (zyEl zymx B H) 75 5).toNat + 10
        have h5e := e75 5
        omega
  · intro x0 E0 E E2 hrx hT0 hΦ i v hT hrv hInv hKc hFr0 x hx v2 hr2 hXs hag hfr hFr hT2
    rcases i with ⟨i, hi⟩
    have hi2 : i = 0 ∨ i = 1 ∨ i = 2 ∨ i = 3 ∨ i = 4 ∨ i = 5 ∨ i = 6 ∨ i = 7 ∨ i = 8 ∨ i = 9 := by omega
    rcases hi2 with rfl | rfl | rfl | rfl | rfl | rfl | rfl | rfl | rfl | rfl
    · cases hx
    · cases hx
    · cases hx
    · cases hx
    · have hx : x ∈ [zxfwd_ir0] := hx
      have hag : ∀ k, k < 3 → v2 k = v k := hag
      have hfr : xFr [] _ _ := hfr
      have ex := List.mem_singleton.mp hx
      subst ex
      obtain ⟨hF, hBd, hM⟩ := hXs
      have g2 : v2 2 = v 2 := hag 2 (by decide)
      have b0 : ((2147483648 : Nat) : Int) ≤ (v2 2) + 2147483648 ∧ (v2 2) + 2147483648 ≤ ((2147483648 : Nat) : Int) := xXb hBd 0 rfl
      have f0 : (v2 2) = 0 := xXf hF 0 rfl
      have e74_36 : xE E2 74 36 = xE E 74 36 := xFr_E hfr rfl
      have e74_37 : xE E2 74 37 = xE E 74 37 := xFr_E hfr rfl
      have e74_38 : xE E2 74 38 = xE E 74 38 := xFr_E hfr rfl
      have e74_39 : xE E2 74 39 = xE E 74 39 := xFr_E hfr rfl
      have e74_40 : xE E2 74 40 = xE E 74 40 := xFr_E hfr rfl
      have e74_41 : xE E2 74 41 = xE E 74 41 := xFr_E hfr rfl
      have e74_42 : xE E2 74 42 = xE E 74 42 := xFr_E hfr rfl
      have q74_42 : xE E 74 42 = xE E0 74 42 := xFr_E hFr0 rfl
      have e75_0 : xE E2 75 0 = xE E 75 0 := xFr_E hfr rfl
      have q75_0 : xE E 75 0 = xE E0 75 0 := xFr_E hFr0 rfl
      have e75_1 : xE E2 75 1 = xE E 75 1 := xFr_E hfr rfl
      have q75_1 : xE E 75 1 = xE E0 75 1 := xFr_E hFr0 rfl
      have e75_2 : xE E2 75 2 = xE E 75 2 := xFr_E hfr rfl
      have q75_2 : xE E 75 2 = xE E0 75 2 := xFr_E hFr0 rfl
      have e75_5 : xE E2 75 5 = xE E 75 5 := xFr_E hfr rfl
      have e84 : ∀ i, xE E2 84 i = xE E 84 i := fun i => xFr_E hfr rfl
      have q84 : ∀ i, xE E 84 i = xE E0 84 i := fun i => xFr_E hFr0 rfl
      have e75 : ∀ i, xE E2 75 i = xE E 75 i := fun i => xFr_E hfr rfl
      have y74_42 : ((2147483648 : Nat) : Int) ≤ xE E0 74 42 + 2147483648 ∧ xE E0 74 42 + 2147483648 ≤ ((2147484548 : Nat) : Int) := xTyF hT0 74 42 42 rfl rfl rfl rfl rfl rfl
      have hI : xE E 74 36 = 0 ∧ ∃ p Si, ((p) ≤ (xE E0 74 42) ∧ xRD (xE E0 84) (xE E0 74 42) (p) E) ∧ (0 ≤ Si 5 ∧ Si 5 ≤ 60) ∧ (∀ k, 0 ≤ k → xE E 75 k = Si k) ∧ pWs (xE E0 84) (xE E0 74 42) 60 (xE E0 74 39) (uS (xE E0 75) 5 0) = pWs (xE E0 84) (xE E0 74 42) (60 - Si 5).toNat p Si ∧ ¬ tKd (xE E0 84) (xE E0 74 42) p = 3 ∧ ((v 2) = if tKd (xE E0 84) (xE E0 74 42) p = 4 then 1 else 0) := hInv
      show xΨwd x0 E0 E2 0
      obtain ⟨i1, p, Si, ⟨hp, hs⟩, h5, hc, ht, hk3, hk4⟩ := hI
      have h55 := hc 5 (by decide)
      have hEE : E2 = E := xFr_n hfr
      have hs2 : xRD (xE E0 84) (xE E0 74 42) p E2 := by rw [hEE]; exact hs
      obtain ⟨s1, s1b, s2, s3, s4, s5, s6, s7, s8⟩ := xRD_i hs2 hp
      have hk5 : ¬ tKd (xE E0 84) (xE E0 74 42) p = 4 := fun z => by
        rw [if_pos z] at hk4
        omega
      unfold xΨwd
      rw [ht, pWs_e hk3 hk5, hEE]
      exact ⟨i1, hp, hs, fun k k0 _ => hc k k0⟩
    · cases hx
    · have hx : x ∈ [zxfwd_mr0, zxfwd_mr1, zxfwd_mr2, zxfwd_mr3, zxfwd_mr4, zxfwd_mr5, zxfwd_mr6, zxfwd_mr7, zxfwd_mr8, zxfwd_mr9, zxfwd_mr10, zxfwd_mr11, zxfwd_mr12, zxfwd_mr13, zxfwd_mr14, zxfwd_mr15, zxfwd_mr16, zxfwd_mr17, zxfwd_mr18, zxfwd_mr19, zxfwd_mr20, zxfwd_mr21, zxfwd_mr22] := hx
      have hag : ∀ k, k < 8 → v2 k = v k := hag
      have hfr : xFr [(74, 36, 37)] _ _ := hfr
      rcases List.mem_cons.mp hx with ex | hx
      · subst ex
        obtain ⟨hF, hBd, hM⟩ := hXs
        have g1 : v2 1 = v 1 := hag 1 (by decide)
        have g2 : v2 2 = v 2 := hag 2 (by decide)
        have g3 : v2 3 = v 3 := hag 3 (by decide)
        have g4 : v2 4 = v 4 := hag 4 (by decide)
        have g5 : v2 5 = v 5 := hag 5 (by decide)
        have g6 : v2 6 = v 6 := hag 6 (by decide)
        have g7 : v2 7 = v 7 := hag 7 (by decide)
        have b0 : ((2147483648 : Nat) : Int) ≤ (v2 2) + 2147483648 ∧ (v2 2) + 2147483648 ≤ ((2147483648 : Nat) : Int) := xXb hBd 0 rfl
        have b1 : ((2147483648 : Nat) : Int) ≤ (v2 4) + 2147483648 ∧ (v2 4) + 2147483648 ≤ ((2147484548 : Nat) : Int) := xXb hBd 1 rfl
        have b2 : ((2147483651 : Nat) : Int) ≤ (v2 5) + 2147483648 ∧ (v2 5) + 2147483648 ≤ ((2147483651 : Nat) : Int) := xXb hBd 2 rfl
        have b3 : ((2147483648 : Nat) : Int) ≤ (v2 6) + 2147483648 ∧ (v2 6) + 2147483648 ≤ ((2147483648 : Nat) : Int) := xXb hBd 3 rfl
        have b4 : ((2147483648 : Nat) : Int) ≤ (v2 7) + 2147483648 ∧ (v2 7) + 2147483648 ≤ ((2147483707 : Nat) : Int) := xXb hBd 4 rfl
        have k0 : xE E 74 36 = v 2 := xKcf hKc 0 rfl rfl
        have k1 : xE E 74 37 = v 3 := xKcf hKc 1 rfl rfl
        have k2 : xE E 74 38 = v 4 := xKcf hKc 2 rfl rfl
        have k3 : xE E 74 40 = v 5 := xKcf hKc 3 rfl rfl
        have k4 : xE E 74 41 = v 6 := xKcf hKc 4 rfl rfl
        have k5 : xE E 75 5 = v 7 := xKcf hKc 5 rfl rfl
        have f0 : ¬ (v2 5) = 2 := xXf hF 0 rfl
        have f1 : (v2 2) ≤ 0 := xXf hF 1 rfl
        have f2 : ¬ (v2 5) = 4 := xXf hF 2 rfl
        have f3 : (v2 6) < 1 := xXf hF 3 rfl
        have f4 : (v2 7) < 60 := xXf hF 4 rfl
        have m0 : xE E2 74 36 = 2 := xXm hM 0 rfl
        have m1 : xE E2 74 37 = (v2 4) := xXm hM 1 rfl
        have e74_38 : xE E2 74 38 = xE E 74 38 := xFr_E hfr rfl
        have e74_39 : xE E2 74 39 = xE E 74 39 := xFr_E hfr rfl
        have e74_40 : xE E2 74 40 = xE E 74 40 := xFr_E hfr rfl
        have e74_41 : xE E2 74 41 = xE E 74 41 := xFr_E hfr rfl
        have e74_42 : xE E2 74 42 = xE E 74 42 := xFr_E hfr rfl
        have q74_42 : xE E 74 42 = xE E0 74 42 := xFr_E hFr0 rfl
        have e75_0 : xE E2 75 0 = xE E 75 0 := xFr_E hfr rfl
        have q75_0 : xE E 75 0 = xE E0 75 0 := xFr_E hFr0 rfl
        have e75_1 : xE E2 75 1 = xE E 75 1 := xFr_E hfr rfl
        have q75_1 : xE E 75 1 = xE E0 75 1 := xFr_E hFr0 rfl
        have e75_2 : xE E2 75 2 = xE E 75 2 := xFr_E hfr rfl
        have q75_2 : xE E 75 2 = xE E0 75 2 := xFr_E hFr0 rfl
        have e75_5 : xE E2 75 5 = xE E 75 5 := xFr_E hfr rfl
        have e84 : ∀ i, xE E2 84 i = xE E 84 i := fun i => xFr_E hfr rfl
        have q84 : ∀ i, xE E 84 i = xE E0 84 i := fun i => xFr_E hFr0 rfl
        have e75 : ∀ i, xE E2 75 i = xE E 75 i := fun i => xFr_E hfr rfl
        have y74_42 : ((2147483648 : Nat) : Int) ≤ xE E0 74 42 + 2147483648 ∧ xE E0 74 42 + 2147483648 ≤ ((2147484548 : Nat) : Int) := xTyF hT0 74 42 42 rfl rfl rfl rfl rfl rfl
        have hI : xE E 74 36 = 0 ∧ ∃ p Si, ((p) ≤ (xE E0 74 42) ∧ xRD (xE E0 84) (xE E0 74 42) (p) E) ∧ (0 ≤ Si 5 ∧ Si 5 ≤ 60) ∧ (∀ k, 0 ≤ k → xE E 75 k = Si k) ∧ pWs (xE E0 84) (xE E0 74 42) 60 (xE E0 74 39) (uS (xE E0 75) 5 0) = pNum (xE E0 84) (xE E0 74 42) p 1 7 (fun x p2 => if Si 5 < 60 then pWs (xE E0 84) (xE E0 74 42) (60 - (Si 5 + 1)).toNat p2 (uS (uS Si (460 + Si 5) (if (v 1) = 0 then x else -x)) 5 (Si 5 + 1)) else .error (6, tFr (xE E0 84) (xE E0 74 42) p)) := hInv
        show xΨwd x0 E0 E2 0
        obtain ⟨i1, p, Si, ⟨hp, hs⟩, h5, hc, ht⟩ := hI
        have h55 := hc 5 (by decide)
        obtain ⟨s1, s1b, s2, s3, s4, s5, s6, s7, s8⟩ := xRD_i hs hp
        refine xRs_e ?_
        rw [ht]
        unfold pNum
        by_cases c3 : tKd (xE E0 84) (xE E0 74 42) p = 3
        · rw [if_pos c3]
          have s6 := s6 c3
          first
            | (exfalso; omega)
            | (rw [if_neg (by omega)]; exact xEr_n (by omega) (by omega) (by omega))
            | (rw [if_pos (by omega)]; show xEr E2 (if Si 5 < 60 then _ else _); rw [if_neg (by omega)]; exact xEr_n (by omega) (by omega) (by omega))
        · rw [if_neg c3]
          unfold pMis
          by_cases c1 : tKd (xE E0 84) (xE E0 74 42) p = 1
          · rw [if_pos c1]
            first
              | (exfalso; omega)
              | exact xEr_n (by omega) (by omega) (by omega)
          · rw [if_neg c1]
            first
              | (exfalso; omega)
              | exact xEr_n (by omega) (by omega) (by omega)
      · skip
        rcases List.mem_cons.mp hx with ex | hx
        · subst ex
          obtain ⟨hF, hBd, hM⟩ := hXs
          have g1 : v2 1 = v 1 := hag 1 (by decide)
          have g2 : v2 2 = v 2 := hag 2 (by decide)
          have g3 : v2 3 = v 3 := hag 3 (by decide)
          have g4 : v2 4 = v 4 := hag 4 (by decide)
          have g5 : v2 5 = v 5 := hag 5 (by decide)
          have g6 : v2 6 = v 6 := hag 6 (by decide)
          have g7 : v2 7 = v 7 := hag 7 (by decide)
          have b0 : ((2147483648 : Nat) : Int) ≤ (v2 2) + 2147483648 ∧ (v2 2) + 2147483648 ≤ ((2147483648 : Nat) : Int) := xXb hBd 0 rfl
          have b1 : ((2147483648 : Nat) : Int) ≤ (v2 4) + 2147483648 ∧ (v2 4) + 2147483648 ≤ ((2147484548 : Nat) : Int) := xXb hBd 1 rfl
          have b2 : ((2147483651 : Nat) : Int) ≤ (v2 5) + 2147483648 ∧ (v2 5) + 2147483648 ≤ ((2147483651 : Nat) : Int) := xXb hBd 2 rfl
          have b3 : ((2147483648 : Nat) : Int) ≤ (v2 6) + 2147483648 ∧ (v2 6) + 2147483648 ≤ ((2147483648 : Nat) : Int) := xXb hBd 3 rfl
          have b4 : ((2147483708 : Nat) : Int) ≤ (v2 7) + 2147483648 ∧ (v2 7) + 2147483648 ≤ ((2147483708 : Nat) : Int) := xXb hBd 4 rfl
          have k0 : xE E 74 36 = v 2 := xKcf hKc 0 rfl rfl
          have k1 : xE E 74 37 = v 3 := xKcf hKc 1 rfl rfl
          have k2 : xE E 74 38 = v 4 := xKcf hKc 2 rfl rfl
          have k3 : xE E 74 40 = v 5 := xKcf hKc 3 rfl rfl
          have k4 : xE E 74 41 = v 6 := xKcf hKc 4 rfl rfl
          have k5 : xE E 75 5 = v 7 := xKcf hKc 5 rfl rfl
          have f0 : ¬ (v2 5) = 2 := xXf hF 0 rfl
          have f1 : (v2 2) ≤ 0 := xXf hF 1 rfl
          have f2 : ¬ (v2 5) = 4 := xXf hF 2 rfl
          have f3 : (v2 6) < 1 := xXf hF 3 rfl
          have f4 : 60 ≤ (v2 7) := xXf hF 4 rfl
          have m0 : xE E2 74 36 = 2 := xXm hM 0 rfl
          have m1 : xE E2 74 37 = (v2 4) := xXm hM 1 rfl
          have e74_38 : xE E2 74 38 = xE E 74 38 := xFr_E hfr rfl
          have e74_39 : xE E2 74 39 = xE E 74 39 := xFr_E hfr rfl
          have e74_40 : xE E2 74 40 = xE E 74 40 := xFr_E hfr rfl
          have e74_41 : xE E2 74 41 = xE E 74 41 := xFr_E hfr rfl
          have e74_42 : xE E2 74 42 = xE E 74 42 := xFr_E hfr rfl
          have q74_42 : xE E 74 42 = xE E0 74 42 := xFr_E hFr0 rfl
          have e75_0 : xE E2 75 0 = xE E 75 0 := xFr_E hfr rfl
          have q75_0 : xE E 75 0 = xE E0 75 0 := xFr_E hFr0 rfl
          have e75_1 : xE E2 75 1 = xE E 75 1 := xFr_E hfr rfl
          have q75_1 : xE E 75 1 = xE E0 75 1 := xFr_E hFr0 rfl
          have e75_2 : xE E2 75 2 = xE E 75 2 := xFr_E hfr rfl
          have q75_2 : xE E 75 2 = xE E0 75 2 := xFr_E hFr0 rfl
          have e75_5 : xE E2 75 5 = xE E 75 5 := xFr_E hfr rfl
          have e84 : ∀ i, xE E2 84 i = xE E 84 i := fun i => xFr_E hfr rfl
          have q84 : ∀ i, xE E 84 i = xE E0 84 i := fun i => xFr_E hFr0 rfl
          have e75 : ∀ i, xE E2 75 i = xE E 75 i := fun i => xFr_E hfr rfl
          have y74_42 : ((2147483648 : Nat) : Int) ≤ xE E0 74 42 + 2147483648 ∧ xE E0 74 42 + 2147483648 ≤ ((2147484548 : Nat) : Int) := xTyF hT0 74 42 42 rfl rfl rfl rfl rfl rfl
          have hI : xE E 74 36 = 0 ∧ ∃ p Si, ((p) ≤ (xE E0 74 42) ∧ xRD (xE E0 84) (xE E0 74 42) (p) E) ∧ (0 ≤ Si 5 ∧ Si 5 ≤ 60) ∧ (∀ k, 0 ≤ k → xE E 75 k = Si k) ∧ pWs (xE E0 84) (xE E0 74 42) 60 (xE E0 74 39) (uS (xE E0 75) 5 0) = pNum (xE E0 84) (xE E0 74 42) p 1 7 (fun x p2 => if Si 5 < 60 then pWs (xE E0 84) (xE E0 74 42) (60 - (Si 5 + 1)).toNat p2 (uS (uS Si (460 + Si 5) (if (v 1) = 0 then x else -x)) 5 (Si 5 + 1)) else .error (6, tFr (xE E0 84) (xE E0 74 42) p)) := hInv
          show xΨwd x0 E0 E2 0
          obtain ⟨i1, p, Si, ⟨hp, hs⟩, h5, hc, ht⟩ := hI
          have h55 := hc 5 (by decide)
          obtain ⟨s1, s1b, s2, s3, s4, s5, s6, s7, s8⟩ := xRD_i hs hp
          refine xRs_e ?_
          rw [ht]
          unfold pNum
          by_cases c3 : tKd (xE E0 84) (xE E0 74 42) p = 3
          · rw [if_pos c3]
            have s6 := s6 c3
            first
              | (exfalso; omega)
              | (rw [if_neg (by omega)]; exact xEr_n (by omega) (by omega) (by omega))
              | (rw [if_pos (by omega)]; show xEr E2 (if Si 5 < 60 then _ else _); rw [if_neg (by omega)]; exact xEr_n (by omega) (by omega) (by omega))
          · rw [if_neg c3]
            unfold pMis
            by_cases c1 : tKd (xE E0 84) (xE E0 74 42) p = 1
            · rw [if_pos c1]
              first
                | (exfalso; omega)
                | exact xEr_n (by omega) (by omega) (by omega)
            · rw [if_neg c1]
              first
                | (exfalso; omega)
                | exact xEr_n (by omega) (by omega) (by omega)
        · skip
          rcases List.mem_cons.mp hx with ex | hx
          · subst ex
            obtain ⟨hF, hBd, hM⟩ := hXs
            have g1 : v2 1 = v 1 := hag 1 (by decide)
            have g2 : v2 2 = v 2 := hag 2 (by decide)
            have g3 : v2 3 = v 3 := hag 3 (by decide)
            have g4 : v2 4 = v 4 := hag 4 (by decide)
            have g5 : v2 5 = v 5 := hag 5 (by decide)
            have g6 : v2 6 = v 6 := hag 6 (by decide)
            have g7 : v2 7 = v 7 := hag 7 (by decide)
            have b0 : ((2147483648 : Nat) : Int) ≤ (v2 2) + 2147483648 ∧ (v2 2) + 2147483648 ≤ ((2147483648 : Nat) : Int) := xXb hBd 0 rfl
            have b1 : ((2147483648 : Nat) : Int) ≤ (v2 4) + 2147483648 ∧ (v2 4) + 2147483648 ≤ ((2147484548 : Nat) : Int) := xXb hBd 1 rfl
            have b2 : ((2147483651 : Nat) : Int) ≤ (v2 5) + 2147483648 ∧ (v2 5) + 2147483648 ≤ ((2147483651 : Nat) : Int) := xXb hBd 2 rfl
            have b3 : ((2147483656 : Nat) : Int) ≤ (v2 6) + 2147483648 ∧ (v2 6) + 2147483648 ≤ ((2147484647 : Nat) : Int) := xXb hBd 3 rfl
            have b4 : ((2147483648 : Nat) : Int) ≤ (v2 7) + 2147483648 ∧ (v2 7) + 2147483648 ≤ ((2147483707 : Nat) : Int) := xXb hBd 4 rfl
            have k0 : xE E 74 36 = v 2 := xKcf hKc 0 rfl rfl
            have k1 : xE E 74 37 = v 3 := xKcf hKc 1 rfl rfl
            have k2 : xE E 74 38 = v 4 := xKcf hKc 2 rfl rfl
            have k3 : xE E 74 40 = v 5 := xKcf hKc 3 rfl rfl
            have k4 : xE E 74 41 = v 6 := xKcf hKc 4 rfl rfl
            have k5 : xE E 75 5 = v 7 := xKcf hKc 5 rfl rfl
            have f0 : ¬ (v2 5) = 2 := xXf hF 0 rfl
            have f1 : (v2 2) ≤ 0 := xXf hF 1 rfl
            have f2 : ¬ (v2 5) = 4 := xXf hF 2 rfl
            have f3 : 1 ≤ (v2 6) := xXf hF 3 rfl
            have f4 : 7 < (v2 6) := xXf hF 4 rfl
            have f5 : (v2 7) < 60 := xXf hF 5 rfl
            have m0 : xE E2 74 36 = 2 := xXm hM 0 rfl
            have m1 : xE E2 74 37 = (v2 4) := xXm hM 1 rfl
            have e74_38 : xE E2 74 38 = xE E 74 38 := xFr_E hfr rfl
            have e74_39 : xE E2 74 39 = xE E 74 39 := xFr_E hfr rfl
            have e74_40 : xE E2 74 40 = xE E 74 40 := xFr_E hfr rfl
            have e74_41 : xE E2 74 41 = xE E 74 41 := xFr_E hfr rfl
            have e74_42 : xE E2 74 42 = xE E 74 42 := xFr_E hfr rfl
            have q74_42 : xE E 74 42 = xE E0 74 42 := xFr_E hFr0 rfl
            have e75_0 : xE E2 75 0 = xE E 75 0 := xFr_E hfr rfl
            have q75_0 : xE E 75 0 = xE E0 75 0 := xFr_E hFr0 rfl
            have e75_1 : xE E2 75 1 = xE E 75 1 := xFr_E hfr rfl
            have q75_1 : xE E 75 1 = xE E0 75 1 := xFr_E hFr0 rfl
            have e75_2 : xE E2 75 2 = xE E 75 2 := xFr_E hfr rfl
            have q75_2 : xE E 75 2 = xE E0 75 2 := xFr_E hFr0 rfl
            have e75_5 : xE E2 75 5 = xE E 75 5 := xFr_E hfr rfl
            have e84 : ∀ i, xE E2 84 i = xE E 84 i := fun i => xFr_E hfr rfl
            have q84 : ∀ i, xE E 84 i = xE E0 84 i := fun i => xFr_E hFr0 rfl
            have e75 : ∀ i, xE E2 75 i = xE E 75 i := fun i => xFr_E hfr rfl
            have y74_42 : ((2147483648 : Nat) : Int) ≤ xE E0 74 42 + 2147483648 ∧ xE E0 74 42 + 2147483648 ≤ ((2147484548 : Nat) : Int) := xTyF hT0 74 42 42 rfl rfl rfl rfl rfl rfl
            have hI : xE E 74 36 = 0 ∧ ∃ p Si, ((p) ≤ (xE E0 74 42) ∧ xRD (xE E0 84) (xE E0 74 42) (p) E) ∧ (0 ≤ Si 5 ∧ Si 5 ≤ 60) ∧ (∀ k, 0 ≤ k → xE E 75 k = Si k) ∧ pWs (xE E0 84) (xE E0 74 42) 60 (xE E0 74 39) (uS (xE E0 75) 5 0) = pNum (xE E0 84) (xE E0 74 42) p 1 7 (fun x p2 => if Si 5 < 60 then pWs (xE E0 84) (xE E0 74 42) (60 - (Si 5 + 1)).toNat p2 (uS (uS Si (460 + Si 5) (if (v 1) = 0 then x else -x)) 5 (Si 5 + 1)) else .error (6, tFr (xE E0 84) (xE E0 74 42) p)) := hInv
            show xΨwd x0 E0 E2 0
            obtain ⟨i1, p, Si, ⟨hp, hs⟩, h5, hc, ht⟩ := hI
            have h55 := hc 5 (by decide)
            obtain ⟨s1, s1b, s2, s3, s4, s5, s6, s7, s8⟩ := xRD_i hs hp
            refine xRs_e ?_
            rw [ht]
            unfold pNum
            by_cases c3 : tKd (xE E0 84) (xE E0 74 42) p = 3
            · rw [if_pos c3]
              have s6 := s6 c3
              first
                | (exfalso; omega)
                | (rw [if_neg (by omega)]; exact xEr_n (by omega) (by omega) (by omega))
                | (rw [if_pos (by omega)]; show xEr E2 (if Si 5 < 60 then _ else _); rw [if_neg (by omega)]; exact xEr_n (by omega) (by omega) (by omega))
            · rw [if_neg c3]
              unfold pMis
              by_cases c1 : tKd (xE E0 84) (xE E0 74 42) p = 1
              · rw [if_pos c1]
                first
                  | (exfalso; omega)
                  | exact xEr_n (by omega) (by omega) (by omega)
              · rw [if_neg c1]
                first
                  | (exfalso; omega)
                  | exact xEr_n (by omega) (by omega) (by omega)
          · skip
            rcases List.mem_cons.mp hx with ex | hx
            · subst ex
              obtain ⟨hF, hBd, hM⟩ := hXs
              have g1 : v2 1 = v 1 := hag 1 (by decide)
              have g2 : v2 2 = v 2 := hag 2 (by decide)
              have g3 : v2 3 = v 3 := hag 3 (by decide)
              have g4 : v2 4 = v 4 := hag 4 (by decide)
              have g5 : v2 5 = v 5 := hag 5 (by decide)
              have g6 : v2 6 = v 6 := hag 6 (by decide)
              have g7 : v2 7 = v 7 := hag 7 (by decide)
              have b0 : ((2147483648 : Nat) : Int) ≤ (v2 2) + 2147483648 ∧ (v2 2) + 2147483648 ≤ ((2147483648 : Nat) : Int) := xXb hBd 0 rfl
              have b1 : ((2147483648 : Nat) : Int) ≤ (v2 4) + 2147483648 ∧ (v2 4) + 2147483648 ≤ ((2147484548 : Nat) : Int) := xXb hBd 1 rfl
              have b2 : ((2147483651 : Nat) : Int) ≤ (v2 5) + 2147483648 ∧ (v2 5) + 2147483648 ≤ ((2147483651 : Nat) : Int) := xXb hBd 2 rfl
              have b3 : ((2147483656 : Nat) : Int) ≤ (v2 6) + 2147483648 ∧ (v2 6) + 2147483648 ≤ ((2147484647 : Nat) : Int) := xXb hBd 3 rfl
              have b4 : ((2147483708 : Nat) : Int) ≤ (v2 7) + 2147483648 ∧ (v2 7) + 2147483648 ≤ ((2147483708 : Nat) : Int) := xXb hBd 4 rfl
              have k0 : xE E 74 36 = v 2 := xKcf hKc 0 rfl rfl
              have k1 : xE E 74 37 = v 3 := xKcf hKc 1 rfl rfl
              have k2 : xE E 74 38 = v 4 := xKcf hKc 2 rfl rfl
              have k3 : xE E 74 40 = v 5 := xKcf hKc 3 rfl rfl
              have k4 : xE E 74 41 = v 6 := xKcf hKc 4 rfl rfl
              have k5 : xE E 75 5 = v 7 := xKcf hKc 5 rfl rfl
              have f0 : ¬ (v2 5) = 2 := xXf hF 0 rfl
              have f1 : (v2 2) ≤ 0 := xXf hF 1 rfl
              have f2 : ¬ (v2 5) = 4 := xXf hF 2 rfl
              have f3 : 1 ≤ (v2 6) := xXf hF 3 rfl
              have f4 : 7 < (v2 6) := xXf hF 4 rfl
              have f5 : 60 ≤ (v2 7) := xXf hF 5 rfl
              have m0 : xE E2 74 36 = 2 := xXm hM 0 rfl
              have m1 : xE E2 74 37 = (v2 4) := xXm hM 1 rfl
              have e74_38 : xE E2 74 38 = xE E 74 38 := xFr_E hfr rfl
              have e74_39 : xE E2 74 39 = xE E 74 39 := xFr_E hfr rfl
              have e74_40 : xE E2 74 40 = xE E 74 40 := xFr_E hfr rfl
              have e74_41 : xE E2 74 41 = xE E 74 41 := xFr_E hfr rfl
              have e74_42 : xE E2 74 42 = xE E 74 42 := xFr_E hfr rfl
              have q74_42 : xE E 74 42 = xE E0 74 42 := xFr_E hFr0 rfl
              have e75_0 : xE E2 75 0 = xE E 75 0 := xFr_E hfr rfl
              have q75_0 : xE E 75 0 = xE E0 75 0 := xFr_E hFr0 rfl
              have e75_1 : xE E2 75 1 = xE E 75 1 := xFr_E hfr rfl
              have q75_1 : xE E 75 1 = xE E0 75 1 := xFr_E hFr0 rfl
              have e75_2 : xE E2 75 2 = xE E 75 2 := xFr_E hfr rfl
              have q75_2 : xE E 75 2 = xE E0 75 2 := xFr_E hFr0 rfl
              have e75_5 : xE E2 75 5 = xE E 75 5 := xFr_E hfr rfl
              have e84 : ∀ i, xE E2 84 i = xE E 84 i := fun i => xFr_E hfr rfl
              have q84 : ∀ i, xE E 84 i = xE E0 84 i := fun i => xFr_E hFr0 rfl
              have e75 : ∀ i, xE E2 75 i = xE E 75 i := fun i => xFr_E hfr rfl
              have y74_42 : ((2147483648 : Nat) : Int) ≤ xE E0 74 42 + 2147483648 ∧ xE E0 74 42 + 2147483648 ≤ ((2147484548 : Nat) : Int) := xTyF hT0 74 42 42 rfl rfl rfl rfl rfl rfl
              have hI : xE E 74 36 = 0 ∧ ∃ p Si, ((p) ≤ (xE E0 74 42) ∧ xRD (xE E0 84) (xE E0 74 42) (p) E) ∧ (0 ≤ Si 5 ∧ Si 5 ≤ 60) ∧ (∀ k, 0 ≤ k → xE E 75 k = Si k) ∧ pWs (xE E0 84) (xE E0 74 42) 60 (xE E0 74 39) (uS (xE E0 75) 5 0) = pNum (xE E0 84) (xE E0 74 42) p 1 7 (fun x p2 => if Si 5 < 60 then pWs (xE E0 84) (xE E0 74 42) (60 - (Si 5 + 1)).toNat p2 (uS (uS Si (460 + Si 5) (if (v 1) = 0 then x else -x)) 5 (Si 5 + 1)) else .error (6, tFr (xE E0 84) (xE E0 74 42) p)) := hInv
              show xΨwd x0 E0 E2 0
              obtain ⟨i1, p, Si, ⟨hp, hs⟩, h5, hc, ht⟩ := hI
              have h55 := hc 5 (by decide)
              obtain ⟨s1, s1b, s2, s3, s4, s5, s6, s7, s8⟩ := xRD_i hs hp
              refine xRs_e ?_
              rw [ht]
              unfold pNum
              by_cases c3 : tKd (xE E0 84) (xE E0 74 42) p = 3
              · rw [if_pos c3]
                have s6 := s6 c3
                first
                  | (exfalso; omega)
                  | (rw [if_neg (by omega)]; exact xEr_n (by omega) (by omega) (by omega))
                  | (rw [if_pos (by omega)]; show xEr E2 (if Si 5 < 60 then _ else _); rw [if_neg (by omega)]; exact xEr_n (by omega) (by omega) (by omega))
              · rw [if_neg c3]
                unfold pMis
                by_cases c1 : tKd (xE E0 84) (xE E0 74 42) p = 1
                · rw [if_pos c1]
                  first
                    | (exfalso; omega)
                    | exact xEr_n (by omega) (by omega) (by omega)
                · rw [if_neg c1]
                  first
                    | (exfalso; omega)
                    | exact xEr_n (by omega) (by omega) (by omega)
            · skip
              rcases List.mem_cons.mp hx with ex | hx
              · subst ex
                obtain ⟨hF, hBd, hM⟩ := hXs
                have g1 : v2 1 = v 1 := hag 1 (by decide)
                have g2 : v2 2 = v 2 := hag 2 (by decide)
                have g3 : v2 3 = v 3 := hag 3 (by decide)
                have g4 : v2 4 = v 4 := hag 4 (by decide)
                have g5 : v2 5 = v 5 := hag 5 (by decide)
                have g6 : v2 6 = v 6 := hag 6 (by decide)
                have g7 : v2 7 = v 7 := hag 7 (by decide)
                have b0 : ((2147483648 : Nat) : Int) ≤ (v2 2) + 2147483648 ∧ (v2 2) + 2147483648 ≤ ((2147483648 : Nat) : Int) := xXb hBd 0 rfl
                have b1 : ((2147483648 : Nat) : Int) ≤ (v2 4) + 2147483648 ∧ (v2 4) + 2147483648 ≤ ((2147484548 : Nat) : Int) := xXb hBd 1 rfl
                have b2 : ((2147483651 : Nat) : Int) ≤ (v2 5) + 2147483648 ∧ (v2 5) + 2147483648 ≤ ((2147483651 : Nat) : Int) := xXb hBd 2 rfl
                have b3 : ((2147483649 : Nat) : Int) ≤ (v2 6) + 2147483648 ∧ (v2 6) + 2147483648 ≤ ((2147483655 : Nat) : Int) := xXb hBd 3 rfl
                have b4 : ((2147483648 : Nat) : Int) ≤ (v2 7) + 2147483648 ∧ (v2 7) + 2147483648 ≤ ((2147483707 : Nat) : Int) := xXb hBd 4 rfl
                have k0 : xE E 74 36 = v 2 := xKcf hKc 0 rfl rfl
                have k1 : xE E 74 37 = v 3 := xKcf hKc 1 rfl rfl
                have k2 : xE E 74 38 = v 4 := xKcf hKc 2 rfl rfl
                have k3 : xE E 74 40 = v 5 := xKcf hKc 3 rfl rfl
                have k4 : xE E 74 41 = v 6 := xKcf hKc 4 rfl rfl
                have k5 : xE E 75 5 = v 7 := xKcf hKc 5 rfl rfl
                have f0 : ¬ (v2 5) = 2 := xXf hF 0 rfl
                have f1 : (v2 2) ≤ 0 := xXf hF 1 rfl
                have f2 : ¬ (v2 5) = 4 := xXf hF 2 rfl
                have f3 : 1 ≤ (v2 6) := xXf hF 3 rfl
                have f4 : (v2 6) ≤ 7 := xXf hF 4 rfl
                have f5 : (v2 7) < 60 := xXf hF 5 rfl
                have m0 : xE E2 74 36 = 2 := xXm hM 0 rfl
                have m1 : xE E2 74 37 = (v2 4) := xXm hM 1 rfl
                have e74_38 : xE E2 74 38 = xE E 74 38 := xFr_E hfr rfl
                have e74_39 : xE E2 74 39 = xE E 74 39 := xFr_E hfr rfl
                have e74_40 : xE E2 74 40 = xE E 74 40 := xFr_E hfr rfl
                have e74_41 : xE E2 74 41 = xE E 74 41 := xFr_E hfr rfl
                have e74_42 : xE E2 74 42 = xE E 74 42 := xFr_E hfr rfl
                have q74_42 : xE E 74 42 = xE E0 74 42 := xFr_E hFr0 rfl
                have e75_0 : xE E2 75 0 = xE E 75 0 := xFr_E hfr rfl
                have q75_0 : xE E 75 0 = xE E0 75 0 := xFr_E hFr0 rfl
                have e75_1 : xE E2 75 1 = xE E 75 1 := xFr_E hfr rfl
                have q75_1 : xE E 75 1 = xE E0 75 1 := xFr_E hFr0 rfl
                have e75_2 : xE E2 75 2 = xE E 75 2 := xFr_E hfr rfl
                have q75_2 : xE E 75 2 = xE E0 75 2 := xFr_E hFr0 rfl
                have e75_5 : xE E2 75 5 = xE E 75 5 := xFr_E hfr rfl
                have e84 : ∀ i, xE E2 84 i = xE E 84 i := fun i => xFr_E hfr rfl
                have q84 : ∀ i, xE E 84 i = xE E0 84 i := fun i => xFr_E hFr0 rfl
                have e75 : ∀ i, xE E2 75 i = xE E 75 i := fun i => xFr_E hfr rfl
                have y74_42 : ((2147483648 : Nat) : Int) ≤ xE E0 74 42 + 2147483648 ∧ xE E0 74 42 + 2147483648 ≤ ((2147484548 : Nat) : Int) := xTyF hT0 74 42 42 rfl rfl rfl rfl rfl rfl
                have hI : xE E 74 36 = 0 ∧ ∃ p Si, ((p) ≤ (xE E0 74 42) ∧ xRD (xE E0 84) (xE E0 74 42) (p) E) ∧ (0 ≤ Si 5 ∧ Si 5 ≤ 60) ∧ (∀ k, 0 ≤ k → xE E 75 k = Si k) ∧ pWs (xE E0 84) (xE E0 74 42) 60 (xE E0 74 39) (uS (xE E0 75) 5 0) = pNum (xE E0 84) (xE E0 74 42) p 1 7 (fun x p2 => if Si 5 < 60 then pWs (xE E0 84) (xE E0 74 42) (60 - (Si 5 + 1)).toNat p2 (uS (uS Si (460 + Si 5) (if (v 1) = 0 then x else -x)) 5 (Si 5 + 1)) else .error (6, tFr (xE E0 84) (xE E0 74 42) p)) := hInv
                show xΨwd x0 E0 E2 0
                obtain ⟨i1, p, Si, ⟨hp, hs⟩, h5, hc, ht⟩ := hI
                have h55 := hc 5 (by decide)
                obtain ⟨s1, s1b, s2, s3, s4, s5, s6, s7, s8⟩ := xRD_i hs hp
                refine xRs_e ?_
                rw [ht]
                unfold pNum
                by_cases c3 : tKd (xE E0 84) (xE E0 74 42) p = 3
                · rw [if_pos c3]
                  have s6 := s6 c3
                  first
                    | (exfalso; omega)
                    | (rw [if_neg (by omega)]; exact xEr_n (by omega) (by omega) (by omega))
                    | (rw [if_pos (by omega)]; show xEr E2 (if Si 5 < 60 then _ else _); rw [if_neg (by omega)]; exact xEr_n (by omega) (by omega) (by omega))
                · rw [if_neg c3]
                  unfold pMis
                  by_cases c1 : tKd (xE E0 84) (xE E0 74 42) p = 1
                  · rw [if_pos c1]
                    first
                      | (exfalso; omega)
                      | exact xEr_n (by omega) (by omega) (by omega)
                  · rw [if_neg c1]
                    first
                      | (exfalso; omega)
                      | exact xEr_n (by omega) (by omega) (by omega)
              · skip
                rcases List.mem_cons.mp hx with ex | hx
                · subst ex
                  obtain ⟨hF, hBd, hM⟩ := hXs
                  have g1 : v2 1 = v 1 := hag 1 (by decide)
                  have g2 : v2 2 = v 2 := hag 2 (by decide)
                  have g3 : v2 3 = v 3 := hag 3 (by decide)
                  have g4 : v2 4 = v 4 := hag 4 (by decide)
                  have g5 : v2 5 = v 5 := hag 5 (by decide)
                  have g6 : v2 6 = v 6 := hag 6 (by decide)
                  have g7 : v2 7 = v 7 := hag 7 (by decide)
                  have b0 : ((2147483648 : Nat) : Int) ≤ (v2 2) + 2147483648 ∧ (v2 2) + 2147483648 ≤ ((2147483648 : Nat) : Int) := xXb hBd 0 rfl
                  have b1 : ((2147483648 : Nat) : Int) ≤ (v2 4) + 2147483648 ∧ (v2 4) + 2147483648 ≤ ((2147484548 : Nat) : Int) := xXb hBd 1 rfl
                  have b2 : ((2147483651 : Nat) : Int) ≤ (v2 5) + 2147483648 ∧ (v2 5) + 2147483648 ≤ ((2147483651 : Nat) : Int) := xXb hBd 2 rfl
                  have b3 : ((2147483649 : Nat) : Int) ≤ (v2 6) + 2147483648 ∧ (v2 6) + 2147483648 ≤ ((2147483655 : Nat) : Int) := xXb hBd 3 rfl
                  have b4 : ((2147483708 : Nat) : Int) ≤ (v2 7) + 2147483648 ∧ (v2 7) + 2147483648 ≤ ((2147483708 : Nat) : Int) := xXb hBd 4 rfl
                  have k0 : xE E 74 36 = v 2 := xKcf hKc 0 rfl rfl
                  have k1 : xE E 74 37 = v 3 := xKcf hKc 1 rfl rfl
                  have k2 : xE E 74 38 = v 4 := xKcf hKc 2 rfl rfl
                  have k3 : xE E 74 40 = v 5 := xKcf hKc 3 rfl rfl
                  have k4 : xE E 74 41 = v 6 := xKcf hKc 4 rfl rfl
                  have k5 : xE E 75 5 = v 7 := xKcf hKc 5 rfl rfl
                  have f0 : ¬ (v2 5) = 2 := xXf hF 0 rfl
                  have f1 : (v2 2) ≤ 0 := xXf hF 1 rfl
                  have f2 : ¬ (v2 5) = 4 := xXf hF 2 rfl
                  have f3 : 1 ≤ (v2 6) := xXf hF 3 rfl
                  have f4 : (v2 6) ≤ 7 := xXf hF 4 rfl
                  have f5 : 60 ≤ (v2 7) := xXf hF 5 rfl
                  have m0 : xE E2 74 36 = 2 := xXm hM 0 rfl
                  have m1 : xE E2 74 37 = (v2 4) := xXm hM 1 rfl
                  have e74_38 : xE E2 74 38 = xE E 74 38 := xFr_E hfr rfl
                  have e74_39 : xE E2 74 39 = xE E 74 39 := xFr_E hfr rfl
                  have e74_40 : xE E2 74 40 = xE E 74 40 := xFr_E hfr rfl
                  have e74_41 : xE E2 74 41 = xE E 74 41 := xFr_E hfr rfl
                  have e74_42 : xE E2 74 42 = xE E 74 42 := xFr_E hfr rfl
                  have q74_42 : xE E 74 42 = xE E0 74 42 := xFr_E hFr0 rfl
                  have e75_0 : xE E2 75 0 = xE E 75 0 := xFr_E hfr rfl
                  have q75_0 : xE E 75 0 = xE E0 75 0 := xFr_E hFr0 rfl
                  have e75_1 : xE E2 75 1 = xE E 75 1 := xFr_E hfr rfl
                  have q75_1 : xE E 75 1 = xE E0 75 1 := xFr_E hFr0 rfl
                  have e75_2 : xE E2 75 2 = xE E 75 2 := xFr_E hfr rfl
                  have q75_2 : xE E 75 2 = xE E0 75 2 := xFr_E hFr0 rfl
                  have e75_5 : xE E2 75 5 = xE E 75 5 := xFr_E hfr rfl
                  have e84 : ∀ i, xE E2 84 i = xE E 84 i := fun i => xFr_E hfr rfl
                  have q84 : ∀ i, xE E 84 i = xE E0 84 i := fun i => xFr_E hFr0 rfl
                  have e75 : ∀ i, xE E2 75 i = xE E 75 i := fun i => xFr_E hfr rfl
                  have y74_42 : ((2147483648 : Nat) : Int) ≤ xE E0 74 42 + 2147483648 ∧ xE E0 74 42 + 2147483648 ≤ ((2147484548 : Nat) : Int) := xTyF hT0 74 42 42 rfl rfl rfl rfl rfl rfl
                  have hI : xE E 74 36 = 0 ∧ ∃ p Si, ((p) ≤ (xE E0 74 42) ∧ xRD (xE E0 84) (xE E0 74 42) (p) E) ∧ (0 ≤ Si 5 ∧ Si 5 ≤ 60) ∧ (∀ k, 0 ≤ k → xE E 75 k = Si k) ∧ pWs (xE E0 84) (xE E0 74 42) 60 (xE E0 74 39) (uS (xE E0 75) 5 0) = pNum (xE E0 84) (xE E0 74 42) p 1 7 (fun x p2 => if Si 5 < 60 then pWs (xE E0 84) (xE E0 74 42) (60 - (Si 5 + 1)).toNat p2 (uS (uS Si (460 + Si 5) (if (v 1) = 0 then x else -x)) 5 (Si 5 + 1)) else .error (6, tFr (xE E0 84) (xE E0 74 42) p)) := hInv
                  show xΨwd x0 E0 E2 0
                  obtain ⟨i1, p, Si, ⟨hp, hs⟩, h5, hc, ht⟩ := hI
                  have h55 := hc 5 (by decide)
                  obtain ⟨s1, s1b, s2, s3, s4, s5, s6, s7, s8⟩ := xRD_i hs hp
                  refine xRs_e ?_
                  rw [ht]
                  unfold pNum
                  by_cases c3 : tKd (xE E0 84) (xE E0 74 42) p = 3
                  · rw [if_pos c3]
                    have s6 := s6 c3
                    first
                      | (exfalso; omega)
                      | (rw [if_neg (by omega)]; exact xEr_n (by omega) (by omega) (by omega))
                      | (rw [if_pos (by omega)]; show xEr E2 (if Si 5 < 60 then _ else _); rw [if_neg (by omega)]; exact xEr_n (by omega) (by omega) (by omega))
                  · rw [if_neg c3]
                    unfold pMis
                    by_cases c1 : tKd (xE E0 84) (xE E0 74 42) p = 1
                    · rw [if_pos c1]
                      first
                        | (exfalso; omega)
                        | exact xEr_n (by omega) (by omega) (by omega)
                    · rw [if_neg c1]
                      first
                        | (exfalso; omega)
                        | exact xEr_n (by omega) (by omega) (by omega)
                · skip
                  rcases List.mem_cons.mp hx with ex | hx
                  · subst ex
                    obtain ⟨hF, hBd, hM⟩ := hXs
                    have g1 : v2 1 = v 1 := hag 1 (by decide)
                    have g2 : v2 2 = v 2 := hag 2 (by decide)
                    have g3 : v2 3 = v 3 := hag 3 (by decide)
                    have g4 : v2 4 = v 4 := hag 4 (by decide)
                    have g5 : v2 5 = v 5 := hag 5 (by decide)
                    have g6 : v2 6 = v 6 := hag 6 (by decide)
                    have g7 : v2 7 = v 7 := hag 7 (by decide)
                    have b0 : ((2147483648 : Nat) : Int) ≤ (v2 2) + 2147483648 ∧ (v2 2) + 2147483648 ≤ ((2147483648 : Nat) : Int) := xXb hBd 0 rfl
                    have b1 : ((2147483648 : Nat) : Int) ≤ (v2 4) + 2147483648 ∧ (v2 4) + 2147483648 ≤ ((2147484548 : Nat) : Int) := xXb hBd 1 rfl
                    have b2 : ((2147483652 : Nat) : Int) ≤ (v2 5) + 2147483648 ∧ (v2 5) + 2147483648 ≤ ((2147483652 : Nat) : Int) := xXb hBd 2 rfl
                    have b3 : ((2147483648 : Nat) : Int) ≤ (v2 6) + 2147483648 ∧ (v2 6) + 2147483648 ≤ ((2147483648 : Nat) : Int) := xXb hBd 3 rfl
                    have b4 : ((2147483648 : Nat) : Int) ≤ (v2 7) + 2147483648 ∧ (v2 7) + 2147483648 ≤ ((2147483707 : Nat) : Int) := xXb hBd 4 rfl
                    have k0 : xE E 74 36 = v 2 := xKcf hKc 0 rfl rfl
                    have k1 : xE E 74 37 = v 3 := xKcf hKc 1 rfl rfl
                    have k2 : xE E 74 38 = v 4 := xKcf hKc 2 rfl rfl
                    have k3 : xE E 74 40 = v 5 := xKcf hKc 3 rfl rfl
                    have k4 : xE E 74 41 = v 6 := xKcf hKc 4 rfl rfl
                    have k5 : xE E 75 5 = v 7 := xKcf hKc 5 rfl rfl
                    have f0 : ¬ (v2 5) = 2 := xXf hF 0 rfl
                    have f1 : (v2 2) ≤ 0 := xXf hF 1 rfl
                    have f2 : (v2 5) = 4 := xXf hF 2 rfl
                    have f3 : (v2 6) < 1 := xXf hF 3 rfl
                    have f4 : (v2 7) < 60 := xXf hF 4 rfl
                    have m0 : xE E2 74 36 = 1 := xXm hM 0 rfl
                    have m1 : xE E2 74 37 = (v2 4) := xXm hM 1 rfl
                    have e74_38 : xE E2 74 38 = xE E 74 38 := xFr_E hfr rfl
                    have e74_39 : xE E2 74 39 = xE E 74 39 := xFr_E hfr rfl
                    have e74_40 : xE E2 74 40 = xE E 74 40 := xFr_E hfr rfl
                    have e74_41 : xE E2 74 41 = xE E 74 41 := xFr_E hfr rfl
                    have e74_42 : xE E2 74 42 = xE E 74 42 := xFr_E hfr rfl
                    have q74_42 : xE E 74 42 = xE E0 74 42 := xFr_E hFr0 rfl
                    have e75_0 : xE E2 75 0 = xE E 75 0 := xFr_E hfr rfl
                    have q75_0 : xE E 75 0 = xE E0 75 0 := xFr_E hFr0 rfl
                    have e75_1 : xE E2 75 1 = xE E 75 1 := xFr_E hfr rfl
                    have q75_1 : xE E 75 1 = xE E0 75 1 := xFr_E hFr0 rfl
                    have e75_2 : xE E2 75 2 = xE E 75 2 := xFr_E hfr rfl
                    have q75_2 : xE E 75 2 = xE E0 75 2 := xFr_E hFr0 rfl
                    have e75_5 : xE E2 75 5 = xE E 75 5 := xFr_E hfr rfl
                    have e84 : ∀ i, xE E2 84 i = xE E 84 i := fun i => xFr_E hfr rfl
                    have q84 : ∀ i, xE E 84 i = xE E0 84 i := fun i => xFr_E hFr0 rfl
                    have e75 : ∀ i, xE E2 75 i = xE E 75 i := fun i => xFr_E hfr rfl
                    have y74_42 : ((2147483648 : Nat) : Int) ≤ xE E0 74 42 + 2147483648 ∧ xE E0 74 42 + 2147483648 ≤ ((2147484548 : Nat) : Int) := xTyF hT0 74 42 42 rfl rfl rfl rfl rfl rfl
                    have hI : xE E 74 36 = 0 ∧ ∃ p Si, ((p) ≤ (xE E0 74 42) ∧ xRD (xE E0 84) (xE E0 74 42) (p) E) ∧ (0 ≤ Si 5 ∧ Si 5 ≤ 60) ∧ (∀ k, 0 ≤ k → xE E 75 k = Si k) ∧ pWs (xE E0 84) (xE E0 74 42) 60 (xE E0 74 39) (uS (xE E0 75) 5 0) = pNum (xE E0 84) (xE E0 74 42) p 1 7 (fun x p2 => if Si 5 < 60 then pWs (xE E0 84) (xE E0 74 42) (60 - (Si 5 + 1)).toNat p2 (uS (uS Si (460 + Si 5) (if (v 1) = 0 then x else -x)) 5 (Si 5 + 1)) else .error (6, tFr (xE E0 84) (xE E0 74 42) p)) := hInv
                    show xΨwd x0 E0 E2 0
                    obtain ⟨i1, p, Si, ⟨hp, hs⟩, h5, hc, ht⟩ := hI
                    have h55 := hc 5 (by decide)
                    obtain ⟨s1, s1b, s2, s3, s4, s5, s6, s7, s8⟩ := xRD_i hs hp
                    refine xRs_e ?_
                    rw [ht]
                    unfold pNum
                    by_cases c3 : tKd (xE E0 84) (xE E0 74 42) p = 3
                    · rw [if_pos c3]
                      have s6 := s6 c3
                      first
                        | (exfalso; omega)
                        | (rw [if_neg (by omega)]; exact xEr_n (by omega) (by omega) (by omega))
                        | (rw [if_pos (by omega)]; show xEr E2 (if Si 5 < 60 then _ else _); rw [if_neg (by omega)]; exact xEr_n (by omega) (by omega) (by omega))
                    · rw [if_neg c3]
                      unfold pMis
                      by_cases c1 : tKd (xE E0 84) (xE E0 74 42) p = 1
                      · rw [if_pos c1]
                        first
                          | (exfalso; omega)
                          | exact xEr_n (by omega) (by omega) (by omega)
                      · rw [if_neg c1]
                        first
                          | (exfalso; omega)
                          | exact xEr_n (by omega) (by omega) (by omega)
                  · skip
                    rcases List.mem_cons.mp hx with ex | hx
                    · subst ex
                      obtain ⟨hF, hBd, hM⟩ := hXs
                      have g1 : v2 1 = v 1 := hag 1 (by decide)
                      have g2 : v2 2 = v 2 := hag 2 (by decide)
                      have g3 : v2 3 = v 3 := hag 3 (by decide)
                      have g4 : v2 4 = v 4 := hag 4 (by decide)
                      have g5 : v2 5 = v 5 := hag 5 (by decide)
                      have g6 : v2 6 = v 6 := hag 6 (by decide)
                      have g7 : v2 7 = v 7 := hag 7 (by decide)
                      have b0 : ((2147483648 : Nat) : Int) ≤ (v2 2) + 2147483648 ∧ (v2 2) + 2147483648 ≤ ((2147483648 : Nat) : Int) := xXb hBd 0 rfl
                      have b1 : ((2147483648 : Nat) : Int) ≤ (v2 4) + 2147483648 ∧ (v2 4) + 2147483648 ≤ ((2147484548 : Nat) : Int) := xXb hBd 1 rfl
                      have b2 : ((2147483652 : Nat) : Int) ≤ (v2 5) + 2147483648 ∧ (v2 5) + 2147483648 ≤ ((2147483652 : Nat) : Int) := xXb hBd 2 rfl
                      have b3 : ((2147483648 : Nat) : Int) ≤ (v2 6) + 2147483648 ∧ (v2 6) + 2147483648 ≤ ((2147483648 : Nat) : Int) := xXb hBd 3 rfl
                      have b4 : ((2147483708 : Nat) : Int) ≤ (v2 7) + 2147483648 ∧ (v2 7) + 2147483648 ≤ ((2147483708 : Nat) : Int) := xXb hBd 4 rfl
                      have k0 : xE E 74 36 = v 2 := xKcf hKc 0 rfl rfl
                      have k1 : xE E 74 37 = v 3 := xKcf hKc 1 rfl rfl
                      have k2 : xE E 74 38 = v 4 := xKcf hKc 2 rfl rfl
                      have k3 : xE E 74 40 = v 5 := xKcf hKc 3 rfl rfl
                      have k4 : xE E 74 41 = v 6 := xKcf hKc 4 rfl rfl
                      have k5 : xE E 75 5 = v 7 := xKcf hKc 5 rfl rfl
                      have f0 : ¬ (v2 5) = 2 := xXf hF 0 rfl
                      have f1 : (v2 2) ≤ 0 := xXf hF 1 rfl
                      have f2 : (v2 5) = 4 := xXf hF 2 rfl
                      have f3 : (v2 6) < 1 := xXf hF 3 rfl
                      have f4 : 60 ≤ (v2 7) := xXf hF 4 rfl
                      have m0 : xE E2 74 36 = 1 := xXm hM 0 rfl
                      have m1 : xE E2 74 37 = (v2 4) := xXm hM 1 rfl
                      have e74_38 : xE E2 74 38 = xE E 74 38 := xFr_E hfr rfl
                      have e74_39 : xE E2 74 39 = xE E 74 39 := xFr_E hfr rfl
                      have e74_40 : xE E2 74 40 = xE E 74 40 := xFr_E hfr rfl
                      have e74_41 : xE E2 74 41 = xE E 74 41 := xFr_E hfr rfl
                      have e74_42 : xE E2 74 42 = xE E 74 42 := xFr_E hfr rfl
                      have q74_42 : xE E 74 42 = xE E0 74 42 := xFr_E hFr0 rfl
                      have e75_0 : xE E2 75 0 = xE E 75 0 := xFr_E hfr rfl
                      have q75_0 : xE E 75 0 = xE E0 75 0 := xFr_E hFr0 rfl
                      have e75_1 : xE E2 75 1 = xE E 75 1 := xFr_E hfr rfl
                      have q75_1 : xE E 75 1 = xE E0 75 1 := xFr_E hFr0 rfl
                      have e75_2 : xE E2 75 2 = xE E 75 2 := xFr_E hfr rfl
                      have q75_2 : xE E 75 2 = xE E0 75 2 := xFr_E hFr0 rfl
                      have e75_5 : xE E2 75 5 = xE E 75 5 := xFr_E hfr rfl
                      have e84 : ∀ i, xE E2 84 i = xE E 84 i := fun i => xFr_E hfr rfl
                      have q84 : ∀ i, xE E 84 i = xE E0 84 i := fun i => xFr_E hFr0 rfl
                      have e75 : ∀ i, xE E2 75 i = xE E 75 i := fun i => xFr_E hfr rfl
                      have y74_42 : ((2147483648 : Nat) : Int) ≤ xE E0 74 42 + 2147483648 ∧ xE E0 74 42 + 2147483648 ≤ ((2147484548 : Nat) : Int) := xTyF hT0 74 42 42 rfl rfl rfl rfl rfl rfl
                      have hI : xE E 74 36 = 0 ∧ ∃ p Si, ((p) ≤ (xE E0 74 42) ∧ xRD (xE E0 84) (xE E0 74 42) (p) E) ∧ (0 ≤ Si 5 ∧ Si 5 ≤ 60) ∧ (∀ k, 0 ≤ k → xE E 75 k = Si k) ∧ pWs (xE E0 84) (xE E0 74 42) 60 (xE E0 74 39) (uS (xE E0 75) 5 0) = pNum (xE E0 84) (xE E0 74 42) p 1 7 (fun x p2 => if Si 5 < 60 then pWs (xE E0 84) (xE E0 74 42) (60 - (Si 5 + 1)).toNat p2 (uS (uS Si (460 + Si 5) (if (v 1) = 0 then x else -x)) 5 (Si 5 + 1)) else .error (6, tFr (xE E0 84) (xE E0 74 42) p)) := hInv
                      show xΨwd x0 E0 E2 0
                      obtain ⟨i1, p, Si, ⟨hp, hs⟩, h5, hc, ht⟩ := hI
                      have h55 := hc 5 (by decide)
                      obtain ⟨s1, s1b, s2, s3, s4, s5, s6, s7, s8⟩ := xRD_i hs hp
                      refine xRs_e ?_
                      rw [ht]
                      unfold pNum
                      by_cases c3 : tKd (xE E0 84) (xE E0 74 42) p = 3
                      · rw [if_pos c3]
                        have s6 := s6 c3
                        first
                          | (exfalso; omega)
                          | (rw [if_neg (by omega)]; exact xEr_n (by omega) (by omega) (by omega))
                          | (rw [if_pos (by omega)]; show xEr E2 (if Si 5 < 60 then _ else _); rw [if_neg (by omega)]; exact xEr_n (by omega) (by omega) (by omega))
                      · rw [if_neg c3]
                        unfold pMis
                        by_cases c1 : tKd (xE E0 84) (xE E0 74 42) p = 1
                        · rw [if_pos c1]
                          first
                            | (exfalso; omega)
                            | exact xEr_n (by omega) (by omega) (by omega)
                        · rw [if_neg c1]
                          first
                            | (exfalso; omega)
                            | exact xEr_n (by omega) (by omega) (by omega)
                    · skip
                      rcases List.mem_cons.mp hx with ex | hx
                      · subst ex
                        obtain ⟨hF, hBd, hM⟩ := hXs
                        have g1 : v2 1 = v 1 := hag 1 (by decide)
                        have g2 : v2 2 = v 2 := hag 2 (by decide)
                        have g3 : v2 3 = v 3 := hag 3 (by decide)
                        have g4 : v2 4 = v 4 := hag 4 (by decide)
                        have g5 : v2 5 = v 5 := hag 5 (by decide)
                        have g6 : v2 6 = v 6 := hag 6 (by decide)
                        have g7 : v2 7 = v 7 := hag 7 (by decide)
                        have b0 : ((2147483648 : Nat) : Int) ≤ (v2 2) + 2147483648 ∧ (v2 2) + 2147483648 ≤ ((2147483648 : Nat) : Int) := xXb hBd 0 rfl
                        have b1 : ((2147483648 : Nat) : Int) ≤ (v2 4) + 2147483648 ∧ (v2 4) + 2147483648 ≤ ((2147484548 : Nat) : Int) := xXb hBd 1 rfl
                        have b2 : ((2147483652 : Nat) : Int) ≤ (v2 5) + 2147483648 ∧ (v2 5) + 2147483648 ≤ ((2147483652 : Nat) : Int) := xXb hBd 2 rfl
                        have b3 : ((2147483656 : Nat) : Int) ≤ (v2 6) + 2147483648 ∧ (v2 6) + 2147483648 ≤ ((2147484647 : Nat) : Int) := xXb hBd 3 rfl
                        have b4 : ((2147483648 : Nat) : Int) ≤ (v2 7) + 2147483648 ∧ (v2 7) + 2147483648 ≤ ((2147483707 : Nat) : Int) := xXb hBd 4 rfl
                        have k0 : xE E 74 36 = v 2 := xKcf hKc 0 rfl rfl
                        have k1 : xE E 74 37 = v 3 := xKcf hKc 1 rfl rfl
                        have k2 : xE E 74 38 = v 4 := xKcf hKc 2 rfl rfl
                        have k3 : xE E 74 40 = v 5 := xKcf hKc 3 rfl rfl
                        have k4 : xE E 74 41 = v 6 := xKcf hKc 4 rfl rfl
                        have k5 : xE E 75 5 = v 7 := xKcf hKc 5 rfl rfl
                        have f0 : ¬ (v2 5) = 2 := xXf hF 0 rfl
                        have f1 : (v2 2) ≤ 0 := xXf hF 1 rfl
                        have f2 : (v2 5) = 4 := xXf hF 2 rfl
                        have f3 : 1 ≤ (v2 6) := xXf hF 3 rfl
                        have f4 : 7 < (v2 6) := xXf hF 4 rfl
                        have f5 : (v2 7) < 60 := xXf hF 5 rfl
                        have m0 : xE E2 74 36 = 1 := xXm hM 0 rfl
                        have m1 : xE E2 74 37 = (v2 4) := xXm hM 1 rfl
                        have e74_38 : xE E2 74 38 = xE E 74 38 := xFr_E hfr rfl
                        have e74_39 : xE E2 74 39 = xE E 74 39 := xFr_E hfr rfl
                        have e74_40 : xE E2 74 40 = xE E 74 40 := xFr_E hfr rfl
                        have e74_41 : xE E2 74 41 = xE E 74 41 := xFr_E hfr rfl
                        have e74_42 : xE E2 74 42 = xE E 74 42 := xFr_E hfr rfl
                        have q74_42 : xE E 74 42 = xE E0 74 42 := xFr_E hFr0 rfl
                        have e75_0 : xE E2 75 0 = xE E 75 0 := xFr_E hfr rfl
                        have q75_0 : xE E 75 0 = xE E0 75 0 := xFr_E hFr0 rfl
                        have e75_1 : xE E2 75 1 = xE E 75 1 := xFr_E hfr rfl
                        have q75_1 : xE E 75 1 = xE E0 75 1 := xFr_E hFr0 rfl
                        have e75_2 : xE E2 75 2 = xE E 75 2 := xFr_E hfr rfl
                        have q75_2 : xE E 75 2 = xE E0 75 2 := xFr_E hFr0 rfl
                        have e75_5 : xE E2 75 5 = xE E 75 5 := xFr_E hfr rfl
                        have e84 : ∀ i, xE E2 84 i = xE E 84 i := fun i => xFr_E hfr rfl
                        have q84 : ∀ i, xE E 84 i = xE E0 84 i := fun i => xFr_E hFr0 rfl
                        have e75 : ∀ i, xE E2 75 i = xE E 75 i := fun i => xFr_E hfr rfl
                        have y74_42 : ((2147483648 : Nat) : Int) ≤ xE E0 74 42 + 2147483648 ∧ xE E0 74 42 + 2147483648 ≤ ((2147484548 : Nat) : Int) := xTyF hT0 74 42 42 rfl rfl rfl rfl rfl rfl
                        have hI : xE E 74 36 = 0 ∧ ∃ p Si, ((p) ≤ (xE E0 74 42) ∧ xRD (xE E0 84) (xE E0 74 42) (p) E) ∧ (0 ≤ Si 5 ∧ Si 5 ≤ 60) ∧ (∀ k, 0 ≤ k → xE E 75 k = Si k) ∧ pWs (xE E0 84) (xE E0 74 42) 60 (xE E0 74 39) (uS (xE E0 75) 5 0) = pNum (xE E0 84) (xE E0 74 42) p 1 7 (fun x p2 => if Si 5 < 60 then pWs (xE E0 84) (xE E0 74 42) (60 - (Si 5 + 1)).toNat p2 (uS (uS Si (460 + Si 5) (if (v 1) = 0 then x else -x)) 5 (Si 5 + 1)) else .error (6, tFr (xE E0 84) (xE E0 74 42) p)) := hInv
                        show xΨwd x0 E0 E2 0
                        obtain ⟨i1, p, Si, ⟨hp, hs⟩, h5, hc, ht⟩ := hI
                        have h55 := hc 5 (by decide)
                        obtain ⟨s1, s1b, s2, s3, s4, s5, s6, s7, s8⟩ := xRD_i hs hp
                        refine xRs_e ?_
                        rw [ht]
                        unfold pNum
                        by_cases c3 : tKd (xE E0 84) (xE E0 74 42) p = 3
                        · rw [if_pos c3]
                          have s6 := s6 c3
                          first
                            | (exfalso; omega)
                            | (rw [if_neg (by omega)]; exact xEr_n (by omega) (by omega) (by omega))
                            | (rw [if_pos (by omega)]; show xEr E2 (if Si 5 < 60 then _ else _); rw [if_neg (by omega)]; exact xEr_n (by omega) (by omega) (by omega))
                        · rw [if_neg c3]
                          unfold pMis
                          by_cases c1 : tKd (xE E0 84) (xE E0 74 42) p = 1
                          · rw [if_pos c1]
                            first
                              | (exfalso; omega)
                              | exact xEr_n (by omega) (by omega) (by omega)
                          · rw [if_neg c1]
                            first
                              | (exfalso; omega)
                              | exact xEr_n (by omega) (by omega) (by omega)
                      · skip
                        rcases List.mem_cons.mp hx with ex | hx
                        · subst ex
                          obtain ⟨hF, hBd, hM⟩ := hXs
                          have g1 : v2 1 = v 1 := hag 1 (by decide)
                          have g2 : v2 2 = v 2 := hag 2 (by decide)
                          have g3 : v2 3 = v 3 := hag 3 (by decide)
                          have g4 : v2 4 = v 4 := hag 4 (by decide)
                          have g5 : v2 5 = v 5 := hag 5 (by decide)
                          have g6 : v2 6 = v 6 := hag 6 (by decide)
                          have g7 : v2 7 = v 7 := hag 7 (by decide)
                          have b0 : ((2147483648 : Nat) : Int) ≤ (v2 2) + 2147483648 ∧ (v2 2) + 2147483648 ≤ ((2147483648 : Nat) : Int) := xXb hBd 0 rfl
                          have b1 : ((2147483648 : Nat) : Int) ≤ (v2 4) + 2147483648 ∧ (v2 4) + 2147483648 ≤ ((2147484548 : Nat) : Int) := xXb hBd 1 rfl
                          have b2 : ((2147483652 : Nat) : Int) ≤ (v2 5) + 2147483648 ∧ (v2 5) + 2147483648 ≤ ((2147483652 : Nat) : Int) := xXb hBd 2 rfl
                          have b3 : ((2147483656 : Nat) : Int) ≤ (v2 6) + 2147483648 ∧ (v2 6) + 2147483648 ≤ ((2147484647 : Nat) : Int) := xXb hBd 3 rfl
                          have b4 : ((2147483708 : Nat) : Int) ≤ (v2 7) + 2147483648 ∧ (v2 7) + 2147483648 ≤ ((2147483708 : Nat) : Int) := xXb hBd 4 rfl
                          have k0 : xE E 74 36 = v 2 := xKcf hKc 0 rfl rfl
                          have k1 : xE E 74 37 = v 3 := xKcf hKc 1 rfl rfl
                          have k2 : xE E 74 38 = v 4 := xKcf hKc 2 rfl rfl
                          have k3 : xE E 74 40 = v 5 := xKcf hKc 3 rfl rfl
                          have k4 : xE E 74 41 = v 6 := xKcf hKc 4 rfl rfl
                          have k5 : xE E 75 5 = v 7 := xKcf hKc 5 rfl rfl
                          have f0 : ¬ (v2 5) = 2 := xXf hF 0 rfl
                          have f1 : (v2 2) ≤ 0 := xXf hF 1 rfl
                          have f2 : (v2 5) = 4 := xXf hF 2 rfl
                          have f3 : 1 ≤ (v2 6) := xXf hF 3 rfl
                          have f4 : 7 < (v2 6) := xXf hF 4 rfl
                          have f5 : 60 ≤ (v2 7) := xXf hF 5 rfl
                          have m0 : xE E2 74 36 = 1 := xXm hM 0 rfl
                          have m1 : xE E2 74 37 = (v2 4) := xXm hM 1 rfl
                          have e74_38 : xE E2 74 38 = xE E 74 38 := xFr_E hfr rfl
                          have e74_39 : xE E2 74 39 = xE E 74 39 := xFr_E hfr rfl
                          have e74_40 : xE E2 74 40 = xE E 74 40 := xFr_E hfr rfl
                          have e74_41 : xE E2 74 41 = xE E 74 41 := xFr_E hfr rfl
                          have e74_42 : xE E2 74 42 = xE E 74 42 := xFr_E hfr rfl
                          have q74_42 : xE E 74 42 = xE E0 74 42 := xFr_E hFr0 rfl
                          have e75_0 : xE E2 75 0 = xE E 75 0 := xFr_E hfr rfl
                          have q75_0 : xE E 75 0 = xE E0 75 0 := xFr_E hFr0 rfl
                          have e75_1 : xE E2 75 1 = xE E 75 1 := xFr_E hfr rfl
                          have q75_1 : xE E 75 1 = xE E0 75 1 := xFr_E hFr0 rfl
                          have e75_2 : xE E2 75 2 = xE E 75 2 := xFr_E hfr rfl
                          have q75_2 : xE E 75 2 = xE E0 75 2 := xFr_E hFr0 rfl
                          have e75_5 : xE E2 75 5 = xE E 75 5 := xFr_E hfr rfl
                          have e84 : ∀ i, xE E2 84 i = xE E 84 i := fun i => xFr_E hfr rfl
                          have q84 : ∀ i, xE E 84 i = xE E0 84 i := fun i => xFr_E hFr0 rfl
                          have e75 : ∀ i, xE E2 75 i = xE E 75 i := fun i => xFr_E hfr rfl
                          have y74_42 : ((2147483648 : Nat) : Int) ≤ xE E0 74 42 + 2147483648 ∧ xE E0 74 42 + 2147483648 ≤ ((2147484548 : Nat) : Int) := xTyF hT0 74 42 42 rfl rfl rfl rfl rfl rfl
                          have hI : xE E 74 36 = 0 ∧ ∃ p Si, ((p) ≤ (xE E0 74 42) ∧ xRD (xE E0 84) (xE E0 74 42) (p) E) ∧ (0 ≤ Si 5 ∧ Si 5 ≤ 60) ∧ (∀ k, 0 ≤ k → xE E 75 k = Si k) ∧ pWs (xE E0 84) (xE E0 74 42) 60 (xE E0 74 39) (uS (xE E0 75) 5 0) = pNum (xE E0 84) (xE E0 74 42) p 1 7 (fun x p2 => if Si 5 < 60 then pWs (xE E0 84) (xE E0 74 42) (60 - (Si 5 + 1)).toNat p2 (uS (uS Si (460 + Si 5) (if (v 1) = 0 then x else -x)) 5 (Si 5 + 1)) else .error (6, tFr (xE E0 84) (xE E0 74 42) p)) := hInv
                          show xΨwd x0 E0 E2 0
                          obtain ⟨i1, p, Si, ⟨hp, hs⟩, h5, hc, ht⟩ := hI
                          have h55 := hc 5 (by decide)
                          obtain ⟨s1, s1b, s2, s3, s4, s5, s6, s7, s8⟩ := xRD_i hs hp
                          refine xRs_e ?_
                          rw [ht]
                          unfold pNum
                          by_cases c3 : tKd (xE E0 84) (xE E0 74 42) p = 3
                          · rw [if_pos c3]
                            have s6 := s6 c3
                            first
                              | (exfalso; omega)
                              | (rw [if_neg (by omega)]; exact xEr_n (by omega) (by omega) (by omega))
                              | (rw [if_pos (by omega)]; show xEr E2 (if Si 5 < 60 then _ else _); rw [if_neg (by omega)]; exact xEr_n (by omega) (by omega) (by omega))
                          · rw [if_neg c3]
                            unfold pMis
                            by_cases c1 : tKd (xE E0 84) (xE E0 74 42) p = 1
                            · rw [if_pos c1]
                              first
                                | (exfalso; omega)
                                | exact xEr_n (by omega) (by omega) (by omega)
                            · rw [if_neg c1]
                              first
                                | (exfalso; omega)
                                | exact xEr_n (by omega) (by omega) (by omega)
                        · skip
                          rcases List.mem_cons.mp hx with ex | hx
                          · subst ex
                            obtain ⟨hF, hBd, hM⟩ := hXs
                            have g1 : v2 1 = v 1 := hag 1 (by decide)
                            have g2 : v2 2 = v 2 := hag 2 (by decide)
                            have g3 : v2 3 = v 3 := hag 3 (by decide)
                            have g4 : v2 4 = v 4 := hag 4 (by decide)
                            have g5 : v2 5 = v 5 := hag 5 (by decide)
                            have g6 : v2 6 = v 6 := hag 6 (by decide)
                            have g7 : v2 7 = v 7 := hag 7 (by decide)
                            have b0 : ((2147483648 : Nat) : Int) ≤ (v2 2) + 2147483648 ∧ (v2 2) + 2147483648 ≤ ((2147483648 : Nat) : Int) := xXb hBd 0 rfl
                            have b1 : ((2147483648 : Nat) : Int) ≤ (v2 4) + 2147483648 ∧ (v2 4) + 2147483648 ≤ ((2147484548 : Nat) : Int) := xXb hBd 1 rfl
                            have b2 : ((2147483652 : Nat) : Int) ≤ (v2 5) + 2147483648 ∧ (v2 5) + 2147483648 ≤ ((2147483652 : Nat) : Int) := xXb hBd 2 rfl
                            have b3 : ((2147483649 : Nat) : Int) ≤ (v2 6) + 2147483648 ∧ (v2 6) + 2147483648 ≤ ((2147483655 : Nat) : Int) := xXb hBd 3 rfl
                            have b4 : ((2147483648 : Nat) : Int) ≤ (v2 7) + 2147483648 ∧ (v2 7) + 2147483648 ≤ ((2147483707 : Nat) : Int) := xXb hBd 4 rfl
                            have k0 : xE E 74 36 = v 2 := xKcf hKc 0 rfl rfl
                            have k1 : xE E 74 37 = v 3 := xKcf hKc 1 rfl rfl
                            have k2 : xE E 74 38 = v 4 := xKcf hKc 2 rfl rfl
                            have k3 : xE E 74 40 = v 5 := xKcf hKc 3 rfl rfl
                            have k4 : xE E 74 41 = v 6 := xKcf hKc 4 rfl rfl
                            have k5 : xE E 75 5 = v 7 := xKcf hKc 5 rfl rfl
                            have f0 : ¬ (v2 5) = 2 := xXf hF 0 rfl
                            have f1 : (v2 2) ≤ 0 := xXf hF 1 rfl
                            have f2 : (v2 5) = 4 := xXf hF 2 rfl
                            have f3 : 1 ≤ (v2 6) := xXf hF 3 rfl
                            have f4 : (v2 6) ≤ 7 := xXf hF 4 rfl
                            have f5 : (v2 7) < 60 := xXf hF 5 rfl
                            have m0 : xE E2 74 36 = 1 := xXm hM 0 rfl
                            have m1 : xE E2 74 37 = (v2 4) := xXm hM 1 rfl
                            have e74_38 : xE E2 74 38 = xE E 74 38 := xFr_E hfr rfl
                            have e74_39 : xE E2 74 39 = xE E 74 39 := xFr_E hfr rfl
                            have e74_40 : xE E2 74 40 = xE E 74 40 := xFr_E hfr rfl
                            have e74_41 : xE E2 74 41 = xE E 74 41 := xFr_E hfr rfl
                            have e74_42 : xE E2 74 42 = xE E 74 42 := xFr_E hfr rfl
                            have q74_42 : xE E 74 42 = xE E0 74 42 := xFr_E hFr0 rfl
                            have e75_0 : xE E2 75 0 = xE E 75 0 := xFr_E hfr rfl
                            have q75_0 : xE E 75 0 = xE E0 75 0 := xFr_E hFr0 rfl
                            have e75_1 : xE E2 75 1 = xE E 75 1 := xFr_E hfr rfl
                            have q75_1 : xE E 75 1 = xE E0 75 1 := xFr_E hFr0 rfl
                            have e75_2 : xE E2 75 2 = xE E 75 2 := xFr_E hfr rfl
                            have q75_2 : xE E 75 2 = xE E0 75 2 := xFr_E hFr0 rfl
                            have e75_5 : xE E2 75 5 = xE E 75 5 := xFr_E hfr rfl
                            have e84 : ∀ i, xE E2 84 i = xE E 84 i := fun i => xFr_E hfr rfl
                            have q84 : ∀ i, xE E 84 i = xE E0 84 i := fun i => xFr_E hFr0 rfl
                            have e75 : ∀ i, xE E2 75 i = xE E 75 i := fun i => xFr_E hfr rfl
                            have y74_42 : ((2147483648 : Nat) : Int) ≤ xE E0 74 42 + 2147483648 ∧ xE E0 74 42 + 2147483648 ≤ ((2147484548 : Nat) : Int) := xTyF hT0 74 42 42 rfl rfl rfl rfl rfl rfl
                            have hI : xE E 74 36 = 0 ∧ ∃ p Si, ((p) ≤ (xE E0 74 42) ∧ xRD (xE E0 84) (xE E0 74 42) (p) E) ∧ (0 ≤ Si 5 ∧ Si 5 ≤ 60) ∧ (∀ k, 0 ≤ k → xE E 75 k = Si k) ∧ pWs (xE E0 84) (xE E0 74 42) 60 (xE E0 74 39) (uS (xE E0 75) 5 0) = pNum (xE E0 84) (xE E0 74 42) p 1 7 (fun x p2 => if Si 5 < 60 then pWs (xE E0 84) (xE E0 74 42) (60 - (Si 5 + 1)).toNat p2 (uS (uS Si (460 + Si 5) (if (v 1) = 0 then x else -x)) 5 (Si 5 + 1)) else .error (6, tFr (xE E0 84) (xE E0 74 42) p)) := hInv
                            show xΨwd x0 E0 E2 0
                            obtain ⟨i1, p, Si, ⟨hp, hs⟩, h5, hc, ht⟩ := hI
                            have h55 := hc 5 (by decide)
                            obtain ⟨s1, s1b, s2, s3, s4, s5, s6, s7, s8⟩ := xRD_i hs hp
                            refine xRs_e ?_
                            rw [ht]
                            unfold pNum
                            by_cases c3 : tKd (xE E0 84) (xE E0 74 42) p = 3
                            · rw [if_pos c3]
                              have s6 := s6 c3
                              first
                                | (exfalso; omega)
                                | (rw [if_neg (by omega)]; exact xEr_n (by omega) (by omega) (by omega))
                                | (rw [if_pos (by omega)]; show xEr E2 (if Si 5 < 60 then _ else _); rw [if_neg (by omega)]; exact xEr_n (by omega) (by omega) (by omega))
                            · rw [if_neg c3]
                              unfold pMis
                              by_cases c1 : tKd (xE E0 84) (xE E0 74 42) p = 1
                              · rw [if_pos c1]
                                first
                                  | (exfalso; omega)
                                  | exact xEr_n (by omega) (by omega) (by omega)
                              · rw [if_neg c1]
                                first
                                  | (exfalso; omega)
                                  | exact xEr_n (by omega) (by omega) (by omega)
                          · skip
                            rcases List.mem_cons.mp hx with ex | hx
                            · subst ex
                              obtain ⟨hF, hBd, hM⟩ := hXs
                              have g1 : v2 1 = v 1 := hag 1 (by decide)
                              have g2 : v2 2 = v 2 := hag 2 (by decide)
                              have g3 : v2 3 = v 3 := hag 3 (by decide)
                              have g4 : v2 4 = v 4 := hag 4 (by decide)
                              have g5 : v2 5 = v 5 := hag 5 (by decide)
                              have g6 : v2 6 = v 6 := hag 6 (by decide)
                              have g7 : v2 7 = v 7 := hag 7 (by decide)
                              have b0 : ((2147483648 : Nat) : Int) ≤ (v2 2) + 2147483648 ∧ (v2 2) + 2147483648 ≤ ((2147483648 : Nat) : Int) := xXb hBd 0 rfl
                              have b1 : ((2147483648 : Nat) : Int) ≤ (v2 4) + 2147483648 ∧ (v2 4) + 2147483648 ≤ ((2147484548 : Nat) : Int) := xXb hBd 1 rfl
                              have b2 : ((2147483652 : Nat) : Int) ≤ (v2 5) + 2147483648 ∧ (v2 5) + 2147483648 ≤ ((2147483652 : Nat) : Int) := xXb hBd 2 rfl
                              have b3 : ((2147483649 : Nat) : Int) ≤ (v2 6) + 2147483648 ∧ (v2 6) + 2147483648 ≤ ((2147483655 : Nat) : Int) := xXb hBd 3 rfl
                              have b4 : ((2147483708 : Nat) : Int) ≤ (v2 7) + 2147483648 ∧ (v2 7) + 2147483648 ≤ ((2147483708 : Nat) : Int) := xXb hBd 4 rfl
                              have k0 : xE E 74 36 = v 2 := xKcf hKc 0 rfl rfl
                              have k1 : xE E 74 37 = v 3 := xKcf hKc 1 rfl rfl
                              have k2 : xE E 74 38 = v 4 := xKcf hKc 2 rfl rfl
                              have k3 : xE E 74 40 = v 5 := xKcf hKc 3 rfl rfl
                              have k4 : xE E 74 41 = v 6 := xKcf hKc 4 rfl rfl
                              have k5 : xE E 75 5 = v 7 := xKcf hKc 5 rfl rfl
                              have f0 : ¬ (v2 5) = 2 := xXf hF 0 rfl
                              have f1 : (v2 2) ≤ 0 := xXf hF 1 rfl
                              have f2 : (v2 5) = 4 := xXf hF 2 rfl
                              have f3 : 1 ≤ (v2 6) := xXf hF 3 rfl
                              have f4 : (v2 6) ≤ 7 := xXf hF 4 rfl
                              have f5 : 60 ≤ (v2 7) := xXf hF 5 rfl
                              have m0 : xE E2 74 36 = 1 := xXm hM 0 rfl
                              have m1 : xE E2 74 37 = (v2 4) := xXm hM 1 rfl
                              have e74_38 : xE E2 74 38 = xE E 74 38 := xFr_E hfr rfl
                              have e74_39 : xE E2 74 39 = xE E 74 39 := xFr_E hfr rfl
                              have e74_40 : xE E2 74 40 = xE E 74 40 := xFr_E hfr rfl
                              have e74_41 : xE E2 74 41 = xE E 74 41 := xFr_E hfr rfl
                              have e74_42 : xE E2 74 42 = xE E 74 42 := xFr_E hfr rfl
                              have q74_42 : xE E 74 42 = xE E0 74 42 := xFr_E hFr0 rfl
                              have e75_0 : xE E2 75 0 = xE E 75 0 := xFr_E hfr rfl
                              have q75_0 : xE E 75 0 = xE E0 75 0 := xFr_E hFr0 rfl
                              have e75_1 : xE E2 75 1 = xE E 75 1 := xFr_E hfr rfl
                              have q75_1 : xE E 75 1 = xE E0 75 1 := xFr_E hFr0 rfl
                              have e75_2 : xE E2 75 2 = xE E 75 2 := xFr_E hfr rfl
                              have q75_2 : xE E 75 2 = xE E0 75 2 := xFr_E hFr0 rfl
                              have e75_5 : xE E2 75 5 = xE E 75 5 := xFr_E hfr rfl
                              have e84 : ∀ i, xE E2 84 i = xE E 84 i := fun i => xFr_E hfr rfl
                              have q84 : ∀ i, xE E 84 i = xE E0 84 i := fun i => xFr_E hFr0 rfl
                              have e75 : ∀ i, xE E2 75 i = xE E 75 i := fun i => xFr_E hfr rfl
                              have y74_42 : ((2147483648 : Nat) : Int) ≤ xE E0 74 42 + 2147483648 ∧ xE E0 74 42 + 2147483648 ≤ ((2147484548 : Nat) : Int) := xTyF hT0 74 42 42 rfl rfl rfl rfl rfl rfl
                              have hI : xE E 74 36 = 0 ∧ ∃ p Si, ((p) ≤ (xE E0 74 42) ∧ xRD (xE E0 84) (xE E0 74 42) (p) E) ∧ (0 ≤ Si 5 ∧ Si 5 ≤ 60) ∧ (∀ k, 0 ≤ k → xE E 75 k = Si k) ∧ pWs (xE E0 84) (xE E0 74 42) 60 (xE E0 74 39) (uS (xE E0 75) 5 0) = pNum (xE E0 84) (xE E0 74 42) p 1 7 (fun x p2 => if Si 5 < 60 then pWs (xE E0 84) (xE E0 74 42) (60 - (Si 5 + 1)).toNat p2 (uS (uS Si (460 + Si 5) (if (v 1) = 0 then x else -x)) 5 (Si 5 + 1)) else .error (6, tFr (xE E0 84) (xE E0 74 42) p)) := hInv
                              show xΨwd x0 E0 E2 0
                              obtain ⟨i1, p, Si, ⟨hp, hs⟩, h5, hc, ht⟩ := hI
                              have h55 := hc 5 (by decide)
                              obtain ⟨s1, s1b, s2, s3, s4, s5, s6, s7, s8⟩ := xRD_i hs hp
                              refine xRs_e ?_
                              rw [ht]
                              unfold pNum
                              by_cases c3 : tKd (xE E0 84) (xE E0 74 42) p = 3
                              · rw [if_pos c3]
                                have s6 := s6 c3
                                first
                                  | (exfalso; omega)
                                  | (rw [if_neg (by omega)]; exact xEr_n (by omega) (by omega) (by omega))
                                  | (rw [if_pos (by omega)]; show xEr E2 (if Si 5 < 60 then _ else _); rw [if_neg (by omega)]; exact xEr_n (by omega) (by omega) (by omega))
                              · rw [if_neg c3]
                                unfold pMis
                                by_cases c1 : tKd (xE E0 84) (xE E0 74 42) p = 1
                                · rw [if_pos c1]
                                  first
                                    | (exfalso; omega)
                                    | exact xEr_n (by omega) (by omega) (by omega)
                                · rw [if_neg c1]
                                  first
                                    | (exfalso; omega)
                                    | exact xEr_n (by omega) (by omega) (by omega)
                            · skip
                              rcases List.mem_cons.mp hx with ex | hx
                              · subst ex
                                obtain ⟨hF, hBd, hM⟩ := hXs
                                have g1 : v2 1 = v 1 := hag 1 (by decide)
                                have g2 : v2 2 = v 2 := hag 2 (by decide)
                                have g3 : v2 3 = v 3 := hag 3 (by decide)
                                have g4 : v2 4 = v 4 := hag 4 (by decide)
                                have g5 : v2 5 = v 5 := hag 5 (by decide)
                                have g6 : v2 6 = v 6 := hag 6 (by decide)
                                have g7 : v2 7 = v 7 := hag 7 (by decide)
                                have b0 : ((2147483648 : Nat) : Int) ≤ (v2 2) + 2147483648 ∧ (v2 2) + 2147483648 ≤ ((2147483648 : Nat) : Int) := xXb hBd 0 rfl
                                have b1 : ((2147483648 : Nat) : Int) ≤ (v2 4) + 2147483648 ∧ (v2 4) + 2147483648 ≤ ((2147484548 : Nat) : Int) := xXb hBd 1 rfl
                                have b2 : ((2147483648 : Nat) : Int) ≤ (v2 5) + 2147483648 ∧ (v2 5) + 2147483648 ≤ ((2147483649 : Nat) : Int) := xXb hBd 2 rfl
                                have b3 : ((2147483648 : Nat) : Int) ≤ (v2 6) + 2147483648 ∧ (v2 6) + 2147483648 ≤ ((2147483648 : Nat) : Int) := xXb hBd 3 rfl
                                have b4 : ((2147483648 : Nat) : Int) ≤ (v2 7) + 2147483648 ∧ (v2 7) + 2147483648 ≤ ((2147483707 : Nat) : Int) := xXb hBd 4 rfl
                                have k0 : xE E 74 36 = v 2 := xKcf hKc 0 rfl rfl
                                have k1 : xE E 74 37 = v 3 := xKcf hKc 1 rfl rfl
                                have k2 : xE E 74 38 = v 4 := xKcf hKc 2 rfl rfl
                                have k3 : xE E 74 40 = v 5 := xKcf hKc 3 rfl rfl
                                have k4 : xE E 74 41 = v 6 := xKcf hKc 4 rfl rfl
                                have k5 : xE E 75 5 = v 7 := xKcf hKc 5 rfl rfl
                                have f0 : ¬ (v2 5) = 2 := xXf hF 0 rfl
                                have f1 : (v2 2) ≤ 0 := xXf hF 1 rfl
                                have f2 : ¬ (v2 5) = 4 := xXf hF 2 rfl
                                have f3 : (v2 6) < 1 := xXf hF 3 rfl
                                have f4 : (v2 7) < 60 := xXf hF 4 rfl
                                have m0 : xE E2 74 36 = 2 := xXm hM 0 rfl
                                have m1 : xE E2 74 37 = (v2 4) := xXm hM 1 rfl
                                have e74_38 : xE E2 74 38 = xE E 74 38 := xFr_E hfr rfl
                                have e74_39 : xE E2 74 39 = xE E 74 39 := xFr_E hfr rfl
                                have e74_40 : xE E2 74 40 = xE E 74 40 := xFr_E hfr rfl
                                have e74_41 : xE E2 74 41 = xE E 74 41 := xFr_E hfr rfl
                                have e74_42 : xE E2 74 42 = xE E 74 42 := xFr_E hfr rfl
                                have q74_42 : xE E 74 42 = xE E0 74 42 := xFr_E hFr0 rfl
                                have e75_0 : xE E2 75 0 = xE E 75 0 := xFr_E hfr rfl
                                have q75_0 : xE E 75 0 = xE E0 75 0 := xFr_E hFr0 rfl
                                have e75_1 : xE E2 75 1 = xE E 75 1 := xFr_E hfr rfl
                                have q75_1 : xE E 75 1 = xE E0 75 1 := xFr_E hFr0 rfl
                                have e75_2 : xE E2 75 2 = xE E 75 2 := xFr_E hfr rfl
                                have q75_2 : xE E 75 2 = xE E0 75 2 := xFr_E hFr0 rfl
                                have e75_5 : xE E2 75 5 = xE E 75 5 := xFr_E hfr rfl
                                have e84 : ∀ i, xE E2 84 i = xE E 84 i := fun i => xFr_E hfr rfl
                                have q84 : ∀ i, xE E 84 i = xE E0 84 i := fun i => xFr_E hFr0 rfl
                                have e75 : ∀ i, xE E2 75 i = xE E 75 i := fun i => xFr_E hfr rfl
                                have y74_42 : ((2147483648 : Nat) : Int) ≤ xE E0 74 42 + 2147483648 ∧ xE E0 74 42 + 2147483648 ≤ ((2147484548 : Nat) : Int) := xTyF hT0 74 42 42 rfl rfl rfl rfl rfl rfl
                                have hI : xE E 74 36 = 0 ∧ ∃ p Si, ((p) ≤ (xE E0 74 42) ∧ xRD (xE E0 84) (xE E0 74 42) (p) E) ∧ (0 ≤ Si 5 ∧ Si 5 ≤ 60) ∧ (∀ k, 0 ≤ k → xE E 75 k = Si k) ∧ pWs (xE E0 84) (xE E0 74 42) 60 (xE E0 74 39) (uS (xE E0 75) 5 0) = pNum (xE E0 84) (xE E0 74 42) p 1 7 (fun x p2 => if Si 5 < 60 then pWs (xE E0 84) (xE E0 74 42) (60 - (Si 5 + 1)).toNat p2 (uS (uS Si (460 + Si 5) (if (v 1) = 0 then x else -x)) 5 (Si 5 + 1)) else .error (6, tFr (xE E0 84) (xE E0 74 42) p)) := hInv
                                show xΨwd x0 E0 E2 0
                                obtain ⟨i1, p, Si, ⟨hp, hs⟩, h5, hc, ht⟩ := hI
                                have h55 := hc 5 (by decide)
                                obtain ⟨s1, s1b, s2, s3, s4, s5, s6, s7, s8⟩ := xRD_i hs hp
                                refine xRs_e ?_
                                rw [ht]
                                unfold pNum
                                by_cases c3 : tKd (xE E0 84) (xE E0 74 42) p = 3
                                · rw [if_pos c3]
                                  have s6 := s6 c3
                                  first
                                    | (exfalso; omega)
                                    | (rw [if_neg (by omega)]; exact xEr_n (by omega) (by omega) (by omega))
                                    | (rw [if_pos (by omega)]; show xEr E2 (if Si 5 < 60 then _ else _); rw [if_neg (by omega)]; exact xEr_n (by omega) (by omega) (by omega))
                                · rw [if_neg c3]
                                  unfold pMis
                                  by_cases c1 : tKd (xE E0 84) (xE E0 74 42) p = 1
                                  · rw [if_pos c1]
                                    first
                                      | (exfalso; omega)
                                      | exact xEr_n (by omega) (by omega) (by omega)
                                  · rw [if_neg c1]
                                    first
                                      | (exfalso; omega)
                                      | exact xEr_n (by omega) (by omega) (by omega)
                              · skip
                                rcases List.mem_cons.mp hx with ex | hx
                                · subst ex
                                  obtain ⟨hF, hBd, hM⟩ := hXs
                                  have g1 : v2 1 = v 1 := hag 1 (by decide)
                                  have g2 : v2 2 = v 2 := hag 2 (by decide)
                                  have g3 : v2 3 = v 3 := hag 3 (by decide)
                                  have g4 : v2 4 = v 4 := hag 4 (by decide)
                                  have g5 : v2 5 = v 5 := hag 5 (by decide)
                                  have g6 : v2 6 = v 6 := hag 6 (by decide)
                                  have g7 : v2 7 = v 7 := hag 7 (by decide)
                                  have b0 : ((2147483648 : Nat) : Int) ≤ (v2 2) + 2147483648 ∧ (v2 2) + 2147483648 ≤ ((2147483648 : Nat) : Int) := xXb hBd 0 rfl
                                  have b1 : ((2147483648 : Nat) : Int) ≤ (v2 4) + 2147483648 ∧ (v2 4) + 2147483648 ≤ ((2147484548 : Nat) : Int) := xXb hBd 1 rfl
                                  have b2 : ((2147483648 : Nat) : Int) ≤ (v2 5) + 2147483648 ∧ (v2 5) + 2147483648 ≤ ((2147483649 : Nat) : Int) := xXb hBd 2 rfl
                                  have b3 : ((2147483648 : Nat) : Int) ≤ (v2 6) + 2147483648 ∧ (v2 6) + 2147483648 ≤ ((2147483648 : Nat) : Int) := xXb hBd 3 rfl
                                  have b4 : ((2147483708 : Nat) : Int) ≤ (v2 7) + 2147483648 ∧ (v2 7) + 2147483648 ≤ ((2147483708 : Nat) : Int) := xXb hBd 4 rfl
                                  have k0 : xE E 74 36 = v 2 := xKcf hKc 0 rfl rfl
                                  have k1 : xE E 74 37 = v 3 := xKcf hKc 1 rfl rfl
                                  have k2 : xE E 74 38 = v 4 := xKcf hKc 2 rfl rfl
                                  have k3 : xE E 74 40 = v 5 := xKcf hKc 3 rfl rfl
                                  have k4 : xE E 74 41 = v 6 := xKcf hKc 4 rfl rfl
                                  have k5 : xE E 75 5 = v 7 := xKcf hKc 5 rfl rfl
                                  have f0 : ¬ (v2 5) = 2 := xXf hF 0 rfl
                                  have f1 : (v2 2) ≤ 0 := xXf hF 1 rfl
                                  have f2 : ¬ (v2 5) = 4 := xXf hF 2 rfl
                                  have f3 : (v2 6) < 1 := xXf hF 3 rfl
                                  have f4 : 60 ≤ (v2 7) := xXf hF 4 rfl
                                  have m0 : xE E2 74 36 = 2 := xXm hM 0 rfl
                                  have m1 : xE E2 74 37 = (v2 4) := xXm hM 1 rfl
                                  have e74_38 : xE E2 74 38 = xE E 74 38 := xFr_E hfr rfl
                                  have e74_39 : xE E2 74 39 = xE E 74 39 := xFr_E hfr rfl
                                  have e74_40 : xE E2 74 40 = xE E 74 40 := xFr_E hfr rfl
                                  have e74_41 : xE E2 74 41 = xE E 74 41 := xFr_E hfr rfl
                                  have e74_42 : xE E2 74 42 = xE E 74 42 := xFr_E hfr rfl
                                  have q74_42 : xE E 74 42 = xE E0 74 42 := xFr_E hFr0 rfl
                                  have e75_0 : xE E2 75 0 = xE E 75 0 := xFr_E hfr rfl
                                  have q75_0 : xE E 75 0 = xE E0 75 0 := xFr_E hFr0 rfl
                                  have e75_1 : xE E2 75 1 = xE E 75 1 := xFr_E hfr rfl
                                  have q75_1 : xE E 75 1 = xE E0 75 1 := xFr_E hFr0 rfl
                                  have e75_2 : xE E2 75 2 = xE E 75 2 := xFr_E hfr rfl
                                  have q75_2 : xE E 75 2 = xE E0 75 2 := xFr_E hFr0 rfl
                                  have e75_5 : xE E2 75 5 = xE E 75 5 := xFr_E hfr rfl
                                  have e84 : ∀ i, xE E2 84 i = xE E 84 i := fun i => xFr_E hfr rfl
                                  have q84 : ∀ i, xE E 84 i = xE E0 84 i := fun i => xFr_E hFr0 rfl
                                  have e75 : ∀ i, xE E2 75 i = xE E 75 i := fun i => xFr_E hfr rfl
                                  have y74_42 : ((2147483648 : Nat) : Int) ≤ xE E0 74 42 + 2147483648 ∧ xE E0 74 42 + 2147483648 ≤ ((2147484548 : Nat) : Int) := xTyF hT0 74 42 42 rfl rfl rfl rfl rfl rfl
                                  have hI : xE E 74 36 = 0 ∧ ∃ p Si, ((p) ≤ (xE E0 74 42) ∧ xRD (xE E0 84) (xE E0 74 42) (p) E) ∧ (0 ≤ Si 5 ∧ Si 5 ≤ 60) ∧ (∀ k, 0 ≤ k → xE E 75 k = Si k) ∧ pWs (xE E0 84) (xE E0 74 42) 60 (xE E0 74 39) (uS (xE E0 75) 5 0) = pNum (xE E0 84) (xE E0 74 42) p 1 7 (fun x p2 => if Si 5 < 60 then pWs (xE E0 84) (xE E0 74 42) (60 - (Si 5 + 1)).toNat p2 (uS (uS Si (460 + Si 5) (if (v 1) = 0 then x else -x)) 5 (Si 5 + 1)) else .error (6, tFr (xE E0 84) (xE E0 74 42) p)) := hInv
                                  show xΨwd x0 E0 E2 0
                                  obtain ⟨i1, p, Si, ⟨hp, hs⟩, h5, hc, ht⟩ := hI
                                  have h55 := hc 5 (by decide)
                                  obtain ⟨s1, s1b, s2, s3, s4, s5, s6, s7, s8⟩ := xRD_i hs hp
                                  refine xRs_e ?_
                                  rw [ht]
                                  unfold pNum
                                  by_cases c3 : tKd (xE E0 84) (xE E0 74 42) p = 3
                                  · rw [if_pos c3]
                                    have s6 := s6 c3
                                    first
                                      | (exfalso; omega)
                                      | (rw [if_neg (by omega)]; exact xEr_n (by omega) (by omega) (by omega))
                                      | (rw [if_pos (by omega)]; show xEr E2 (if Si 5 < 60 then _ else _); rw [if_neg (by omega)]; exact xEr_n (by omega) (by omega) (by omega))
                                  · rw [if_neg c3]
                                    unfold pMis
                                    by_cases c1 : tKd (xE E0 84) (xE E0 74 42) p = 1
                                    · rw [if_pos c1]
                                      first
                                        | (exfalso; omega)
                                        | exact xEr_n (by omega) (by omega) (by omega)
                                    · rw [if_neg c1]
                                      first
                                        | (exfalso; omega)
                                        | exact xEr_n (by omega) (by omega) (by omega)
                                · skip
                                  rcases List.mem_cons.mp hx with ex | hx
                                  · subst ex
                                    obtain ⟨hF, hBd, hM⟩ := hXs
                                    have g1 : v2 1 = v 1 := hag 1 (by decide)
                                    have g2 : v2 2 = v 2 := hag 2 (by decide)
                                    have g3 : v2 3 = v 3 := hag 3 (by decide)
                                    have g4 : v2 4 = v 4 := hag 4 (by decide)
                                    have g5 : v2 5 = v 5 := hag 5 (by decide)
                                    have g6 : v2 6 = v 6 := hag 6 (by decide)
                                    have g7 : v2 7 = v 7 := hag 7 (by decide)
                                    have b0 : ((2147483648 : Nat) : Int) ≤ (v2 2) + 2147483648 ∧ (v2 2) + 2147483648 ≤ ((2147483648 : Nat) : Int) := xXb hBd 0 rfl
                                    have b1 : ((2147483648 : Nat) : Int) ≤ (v2 4) + 2147483648 ∧ (v2 4) + 2147483648 ≤ ((2147484548 : Nat) : Int) := xXb hBd 1 rfl
                                    have b2 : ((2147483648 : Nat) : Int) ≤ (v2 5) + 2147483648 ∧ (v2 5) + 2147483648 ≤ ((2147483649 : Nat) : Int) := xXb hBd 2 rfl
                                    have b3 : ((2147483656 : Nat) : Int) ≤ (v2 6) + 2147483648 ∧ (v2 6) + 2147483648 ≤ ((2147484647 : Nat) : Int) := xXb hBd 3 rfl
                                    have b4 : ((2147483648 : Nat) : Int) ≤ (v2 7) + 2147483648 ∧ (v2 7) + 2147483648 ≤ ((2147483707 : Nat) : Int) := xXb hBd 4 rfl
                                    have k0 : xE E 74 36 = v 2 := xKcf hKc 0 rfl rfl
                                    have k1 : xE E 74 37 = v 3 := xKcf hKc 1 rfl rfl
                                    have k2 : xE E 74 38 = v 4 := xKcf hKc 2 rfl rfl
                                    have k3 : xE E 74 40 = v 5 := xKcf hKc 3 rfl rfl
                                    have k4 : xE E 74 41 = v 6 := xKcf hKc 4 rfl rfl
                                    have k5 : xE E 75 5 = v 7 := xKcf hKc 5 rfl rfl
                                    have f0 : ¬ (v2 5) = 2 := xXf hF 0 rfl
                                    have f1 : (v2 2) ≤ 0 := xXf hF 1 rfl
                                    have f2 : ¬ (v2 5) = 4 := xXf hF 2 rfl
                                    have f3 : 1 ≤ (v2 6) := xXf hF 3 rfl
                                    have f4 : 7 < (v2 6) := xXf hF 4 rfl
                                    have f5 : (v2 7) < 60 := xXf hF 5 rfl
                                    have m0 : xE E2 74 36 = 2 := xXm hM 0 rfl
                                    have m1 : xE E2 74 37 = (v2 4) := xXm hM 1 rfl
                                    have e74_38 : xE E2 74 38 = xE E 74 38 := xFr_E hfr rfl
                                    have e74_39 : xE E2 74 39 = xE E 74 39 := xFr_E hfr rfl
                                    have e74_40 : xE E2 74 40 = xE E 74 40 := xFr_E hfr rfl
                                    have e74_41 : xE E2 74 41 = xE E 74 41 := xFr_E hfr rfl
                                    have e74_42 : xE E2 74 42 = xE E 74 42 := xFr_E hfr rfl
                                    have q74_42 : xE E 74 42 = xE E0 74 42 := xFr_E hFr0 rfl
                                    have e75_0 : xE E2 75 0 = xE E 75 0 := xFr_E hfr rfl
                                    have q75_0 : xE E 75 0 = xE E0 75 0 := xFr_E hFr0 rfl
                                    have e75_1 : xE E2 75 1 = xE E 75 1 := xFr_E hfr rfl
                                    have q75_1 : xE E 75 1 = xE E0 75 1 := xFr_E hFr0 rfl
                                    have e75_2 : xE E2 75 2 = xE E 75 2 := xFr_E hfr rfl
                                    have q75_2 : xE E 75 2 = xE E0 75 2 := xFr_E hFr0 rfl
                                    have e75_5 : xE E2 75 5 = xE E 75 5 := xFr_E hfr rfl
                                    have e84 : ∀ i, xE E2 84 i = xE E 84 i := fun i => xFr_E hfr rfl
                                    have q84 : ∀ i, xE E 84 i = xE E0 84 i := fun i => xFr_E hFr0 rfl
                                    have e75 : ∀ i, xE E2 75 i = xE E 75 i := fun i => xFr_E hfr rfl
                                    have y74_42 : ((2147483648 : Nat) : Int) ≤ xE E0 74 42 + 2147483648 ∧ xE E0 74 42 + 2147483648 ≤ ((2147484548 : Nat) : Int) := xTyF hT0 74 42 42 rfl rfl rfl rfl rfl rfl
                                    have hI : xE E 74 36 = 0 ∧ ∃ p Si, ((p) ≤ (xE E0 74 42) ∧ xRD (xE E0 84) (xE E0 74 42) (p) E) ∧ (0 ≤ Si 5 ∧ Si 5 ≤ 60) ∧ (∀ k, 0 ≤ k → xE E 75 k = Si k) ∧ pWs (xE E0 84) (xE E0 74 42) 60 (xE E0 74 39) (uS (xE E0 75) 5 0) = pNum (xE E0 84) (xE E0 74 42) p 1 7 (fun x p2 => if Si 5 < 60 then pWs (xE E0 84) (xE E0 74 42) (60 - (Si 5 + 1)).toNat p2 (uS (uS Si (460 + Si 5) (if (v 1) = 0 then x else -x)) 5 (Si 5 + 1)) else .error (6, tFr (xE E0 84) (xE E0 74 42) p)) := hInv
                                    show xΨwd x0 E0 E2 0
                                    obtain ⟨i1, p, Si, ⟨hp, hs⟩, h5, hc, ht⟩ := hI
                                    have h55 := hc 5 (by decide)
                                    obtain ⟨s1, s1b, s2, s3, s4, s5, s6, s7, s8⟩ := xRD_i hs hp
                                    refine xRs_e ?_
                                    rw [ht]
                                    unfold pNum
                                    by_cases c3 : tKd (xE E0 84) (xE E0 74 42) p = 3
                                    · rw [if_pos c3]
                                      have s6 := s6 c3
                                      first
                                        | (exfalso; omega)
                                        | (rw [if_neg (by omega)]; exact xEr_n (by omega) (by omega) (by omega))
                                        | (rw [if_pos (by omega)]; show xEr E2 (if Si 5 < 60 then _ else _); rw [if_neg (by omega)]; exact xEr_n (by omega) (by omega) (by omega))
                                    · rw [if_neg c3]
                                      unfold pMis
                                      by_cases c1 : tKd (xE E0 84) (xE E0 74 42) p = 1
                                      · rw [if_pos c1]
                                        first
                                          | (exfalso; omega)
                                          | exact xEr_n (by omega) (by omega) (by omega)
                                      · rw [if_neg c1]
                                        first
                                          | (exfalso; omega)
                                          | exact xEr_n (by omega) (by omega) (by omega)
                                  · skip
                                    rcases List.mem_cons.mp hx with ex | hx
                                    · subst ex
                                      obtain ⟨hF, hBd, hM⟩ := hXs
                                      have g1 : v2 1 = v 1 := hag 1 (by decide)
                                      have g2 : v2 2 = v 2 := hag 2 (by decide)
                                      have g3 : v2 3 = v 3 := hag 3 (by decide)
                                      have g4 : v2 4 = v 4 := hag 4 (by decide)
                                      have g5 : v2 5 = v 5 := hag 5 (by decide)
                                      have g6 : v2 6 = v 6 := hag 6 (by decide)
                                      have g7 : v2 7 = v 7 := hag 7 (by decide)
                                      have b0 : ((2147483648 : Nat) : Int) ≤ (v2 2) + 2147483648 ∧ (v2 2) + 2147483648 ≤ ((2147483648 : Nat) : Int) := xXb hBd 0 rfl
                                      have b1 : ((2147483648 : Nat) : Int) ≤ (v2 4) + 2147483648 ∧ (v2 4) + 2147483648 ≤ ((2147484548 : Nat) : Int) := xXb hBd 1 rfl
                                      have b2 : ((2147483648 : Nat) : Int) ≤ (v2 5) + 2147483648 ∧ (v2 5) + 2147483648 ≤ ((2147483649 : Nat) : Int) := xXb hBd 2 rfl
                                      have b3 : ((2147483656 : Nat) : Int) ≤ (v2 6) + 2147483648 ∧ (v2 6) + 2147483648 ≤ ((2147484647 : Nat) : Int) := xXb hBd 3 rfl
                                      have b4 : ((2147483708 : Nat) : Int) ≤ (v2 7) + 2147483648 ∧ (v2 7) + 2147483648 ≤ ((2147483708 : Nat) : Int) := xXb hBd 4 rfl
                                      have k0 : xE E 74 36 = v 2 := xKcf hKc 0 rfl rfl
                                      have k1 : xE E 74 37 = v 3 := xKcf hKc 1 rfl rfl
                                      have k2 : xE E 74 38 = v 4 := xKcf hKc 2 rfl rfl
                                      have k3 : xE E 74 40 = v 5 := xKcf hKc 3 rfl rfl
                                      have k4 : xE E 74 41 = v 6 := xKcf hKc 4 rfl rfl
                                      have k5 : xE E 75 5 = v 7 := xKcf hKc 5 rfl rfl
                                      have f0 : ¬ (v2 5) = 2 := xXf hF 0 rfl
                                      have f1 : (v2 2) ≤ 0 := xXf hF 1 rfl
                                      have f2 : ¬ (v2 5) = 4 := xXf hF 2 rfl
                                      have f3 : 1 ≤ (v2 6) := xXf hF 3 rfl
                                      have f4 : 7 < (v2 6) := xXf hF 4 rfl
                                      have f5 : 60 ≤ (v2 7) := xXf hF 5 rfl
                                      have m0 : xE E2 74 36 = 2 := xXm hM 0 rfl
                                      have m1 : xE E2 74 37 = (v2 4) := xXm hM 1 rfl
                                      have e74_38 : xE E2 74 38 = xE E 74 38 := xFr_E hfr rfl
                                      have e74_39 : xE E2 74 39 = xE E 74 39 := xFr_E hfr rfl
                                      have e74_40 : xE E2 74 40 = xE E 74 40 := xFr_E hfr rfl
                                      have e74_41 : xE E2 74 41 = xE E 74 41 := xFr_E hfr rfl
                                      have e74_42 : xE E2 74 42 = xE E 74 42 := xFr_E hfr rfl
                                      have q74_42 : xE E 74 42 = xE E0 74 42 := xFr_E hFr0 rfl
                                      have e75_0 : xE E2 75 0 = xE E 75 0 := xFr_E hfr rfl
                                      have q75_0 : xE E 75 0 = xE E0 75 0 := xFr_E hFr0 rfl
                                      have e75_1 : xE E2 75 1 = xE E 75 1 := xFr_E hfr rfl
                                      have q75_1 : xE E 75 1 = xE E0 75 1 := xFr_E hFr0 rfl
                                      have e75_2 : xE E2 75 2 = xE E 75 2 := xFr_E hfr rfl
                                      have q75_2 : xE E 75 2 = xE E0 75 2 := xFr_E hFr0 rfl
                                      have e75_5 : xE E2 75 5 = xE E 75 5 := xFr_E hfr rfl
                                      have e84 : ∀ i, xE E2 84 i = xE E 84 i := fun i => xFr_E hfr rfl
                                      have q84 : ∀ i, xE E 84 i = xE E0 84 i := fun i => xFr_E hFr0 rfl
                                      have e75 : ∀ i, xE E2 75 i = xE E 75 i := fun i => xFr_E hfr rfl
                                      have y74_42 : ((2147483648 : Nat) : Int) ≤ xE E0 74 42 + 2147483648 ∧ xE E0 74 42 + 2147483648 ≤ ((2147484548 : Nat) : Int) := xTyF hT0 74 42 42 rfl rfl rfl rfl rfl rfl
                                      have hI : xE E 74 36 = 0 ∧ ∃ p Si, ((p) ≤ (xE E0 74 42) ∧ xRD (xE E0 84) (xE E0 74 42) (p) E) ∧ (0 ≤ Si 5 ∧ Si 5 ≤ 60) ∧ (∀ k, 0 ≤ k → xE E 75 k = Si k) ∧ pWs (xE E0 84) (xE E0 74 42) 60 (xE E0 74 39) (uS (xE E0 75) 5 0) = pNum (xE E0 84) (xE E0 74 42) p 1 7 (fun x p2 => if Si 5 < 60 then pWs (xE E0 84) (xE E0 74 42) (60 - (Si 5 + 1)).toNat p2 (uS (uS Si (460 + Si 5) (if (v 1) = 0 then x else -x)) 5 (Si 5 + 1)) else .error (6, tFr (xE E0 84) (xE E0 74 42) p)) := hInv
                                      show xΨwd x0 E0 E2 0
                                      obtain ⟨i1, p, Si, ⟨hp, hs⟩, h5, hc, ht⟩ := hI
                                      have h55 := hc 5 (by decide)
                                      obtain ⟨s1, s1b, s2, s3, s4, s5, s6, s7, s8⟩ := xRD_i hs hp
                                      refine xRs_e ?_
                                      rw [ht]
                                      unfold pNum
                                      by_cases c3 : tKd (xE E0 84) (xE E0 74 42) p = 3
                                      · rw [if_pos c3]
                                        have s6 := s6 c3
                                        first
                                          | (exfalso; omega)
                                          | (rw [if_neg (by omega)]; exact xEr_n (by omega) (by omega) (by omega))
                                          | (rw [if_pos (by omega)]; show xEr E2 (if Si 5 < 60 then _ else _); rw [if_neg (by omega)]; exact xEr_n (by omega) (by omega) (by omega))
                                      · rw [if_neg c3]
                                        unfold pMis
                                        by_cases c1 : tKd (xE E0 84) (xE E0 74 42) p = 1
                                        · rw [if_pos c1]
                                          first
                                            | (exfalso; omega)
                                            | exact xEr_n (by omega) (by omega) (by omega)
                                        · rw [if_neg c1]
                                          first
                                            | (exfalso; omega)
                                            | exact xEr_n (by omega) (by omega) (by omega)
                                    · skip
                                      rcases List.mem_cons.mp hx with ex | hx
                                      · subst ex
                                        obtain ⟨hF, hBd, hM⟩ := hXs
                                        have g1 : v2 1 = v 1 := hag 1 (by decide)
                                        have g2 : v2 2 = v 2 := hag 2 (by decide)
                                        have g3 : v2 3 = v 3 := hag 3 (by decide)
                                        have g4 : v2 4 = v 4 := hag 4 (by decide)
                                        have g5 : v2 5 = v 5 := hag 5 (by decide)
                                        have g6 : v2 6 = v 6 := hag 6 (by decide)
                                        have g7 : v2 7 = v 7 := hag 7 (by decide)
                                        have b0 : ((2147483648 : Nat) : Int) ≤ (v2 2) + 2147483648 ∧ (v2 2) + 2147483648 ≤ ((2147483648 : Nat) : Int) := xXb hBd 0 rfl
                                        have b1 : ((2147483648 : Nat) : Int) ≤ (v2 4) + 2147483648 ∧ (v2 4) + 2147483648 ≤ ((2147484548 : Nat) : Int) := xXb hBd 1 rfl
                                        have b2 : ((2147483648 : Nat) : Int) ≤ (v2 5) + 2147483648 ∧ (v2 5) + 2147483648 ≤ ((2147483649 : Nat) : Int) := xXb hBd 2 rfl
                                        have b3 : ((2147483649 : Nat) : Int) ≤ (v2 6) + 2147483648 ∧ (v2 6) + 2147483648 ≤ ((2147483655 : Nat) : Int) := xXb hBd 3 rfl
                                        have b4 : ((2147483648 : Nat) : Int) ≤ (v2 7) + 2147483648 ∧ (v2 7) + 2147483648 ≤ ((2147483707 : Nat) : Int) := xXb hBd 4 rfl
                                        have k0 : xE E 74 36 = v 2 := xKcf hKc 0 rfl rfl
                                        have k1 : xE E 74 37 = v 3 := xKcf hKc 1 rfl rfl
                                        have k2 : xE E 74 38 = v 4 := xKcf hKc 2 rfl rfl
                                        have k3 : xE E 74 40 = v 5 := xKcf hKc 3 rfl rfl
                                        have k4 : xE E 74 41 = v 6 := xKcf hKc 4 rfl rfl
                                        have k5 : xE E 75 5 = v 7 := xKcf hKc 5 rfl rfl
                                        have f0 : ¬ (v2 5) = 2 := xXf hF 0 rfl
                                        have f1 : (v2 2) ≤ 0 := xXf hF 1 rfl
                                        have f2 : ¬ (v2 5) = 4 := xXf hF 2 rfl
                                        have f3 : 1 ≤ (v2 6) := xXf hF 3 rfl
                                        have f4 : (v2 6) ≤ 7 := xXf hF 4 rfl
                                        have f5 : (v2 7) < 60 := xXf hF 5 rfl
                                        have m0 : xE E2 74 36 = 2 := xXm hM 0 rfl
                                        have m1 : xE E2 74 37 = (v2 4) := xXm hM 1 rfl
                                        have e74_38 : xE E2 74 38 = xE E 74 38 := xFr_E hfr rfl
                                        have e74_39 : xE E2 74 39 = xE E 74 39 := xFr_E hfr rfl
                                        have e74_40 : xE E2 74 40 = xE E 74 40 := xFr_E hfr rfl
                                        have e74_41 : xE E2 74 41 = xE E 74 41 := xFr_E hfr rfl
                                        have e74_42 : xE E2 74 42 = xE E 74 42 := xFr_E hfr rfl
                                        have q74_42 : xE E 74 42 = xE E0 74 42 := xFr_E hFr0 rfl
                                        have e75_0 : xE E2 75 0 = xE E 75 0 := xFr_E hfr rfl
                                        have q75_0 : xE E 75 0 = xE E0 75 0 := xFr_E hFr0 rfl
                                        have e75_1 : xE E2 75 1 = xE E 75 1 := xFr_E hfr rfl
                                        have q75_1 : xE E 75 1 = xE E0 75 1 := xFr_E hFr0 rfl
                                        have e75_2 : xE E2 75 2 = xE E 75 2 := xFr_E hfr rfl
                                        have q75_2 : xE E 75 2 = xE E0 75 2 := xFr_E hFr0 rfl
                                        have e75_5 : xE E2 75 5 = xE E 75 5 := xFr_E hfr rfl
                                        have e84 : ∀ i, xE E2 84 i = xE E 84 i := fun i => xFr_E hfr rfl
                                        have q84 : ∀ i, xE E 84 i = xE E0 84 i := fun i => xFr_E hFr0 rfl
                                        have e75 : ∀ i, xE E2 75 i = xE E 75 i := fun i => xFr_E hfr rfl
                                        have y74_42 : ((2147483648 : Nat) : Int) ≤ xE E0 74 42 + 2147483648 ∧ xE E0 74 42 + 2147483648 ≤ ((2147484548 : Nat) : Int) := xTyF hT0 74 42 42 rfl rfl rfl rfl rfl rfl
                                        have hI : xE E 74 36 = 0 ∧ ∃ p Si, ((p) ≤ (xE E0 74 42) ∧ xRD (xE E0 84) (xE E0 74 42) (p) E) ∧ (0 ≤ Si 5 ∧ Si 5 ≤ 60) ∧ (∀ k, 0 ≤ k → xE E 75 k = Si k) ∧ pWs (xE E0 84) (xE E0 74 42) 60 (xE E0 74 39) (uS (xE E0 75) 5 0) = pNum (xE E0 84) (xE E0 74 42) p 1 7 (fun x p2 => if Si 5 < 60 then pWs (xE E0 84) (xE E0 74 42) (60 - (Si 5 + 1)).toNat p2 (uS (uS Si (460 + Si 5) (if (v 1) = 0 then x else -x)) 5 (Si 5 + 1)) else .error (6, tFr (xE E0 84) (xE E0 74 42) p)) := hInv
                                        show xΨwd x0 E0 E2 0
                                        obtain ⟨i1, p, Si, ⟨hp, hs⟩, h5, hc, ht⟩ := hI
                                        have h55 := hc 5 (by decide)
                                        obtain ⟨s1, s1b, s2, s3, s4, s5, s6, s7, s8⟩ := xRD_i hs hp
                                        refine xRs_e ?_
                                        rw [ht]
                                        unfold pNum
                                        by_cases c3 : tKd (xE E0 84) (xE E0 74 42) p = 3
                                        · rw [if_pos c3]
                                          have s6 := s6 c3
                                          first
                                            | (exfalso; omega)
                                            | (rw [if_neg (by omega)]; exact xEr_n (by omega) (by omega) (by omega))
                                            | (rw [if_pos (by omega)]; show xEr E2 (if Si 5 < 60 then _ else _); rw [if_neg (by omega)]; exact xEr_n (by omega) (by omega) (by omega))
                                        · rw [if_neg c3]
                                          unfold pMis
                                          by_cases c1 : tKd (xE E0 84) (xE E0 74 42) p = 1
                                          · rw [if_pos c1]
                                            first
                                              | (exfalso; omega)
                                              | exact xEr_n (by omega) (by omega) (by omega)
                                          · rw [if_neg c1]
                                            first
                                              | (exfalso; omega)
                                              | exact xEr_n (by omega) (by omega) (by omega)
                                      · skip
                                        rcases List.mem_cons.mp hx with ex | hx
                                        · subst ex
                                          obtain ⟨hF, hBd, hM⟩ := hXs
                                          have g1 : v2 1 = v 1 := hag 1 (by decide)
                                          have g2 : v2 2 = v 2 := hag 2 (by decide)
                                          have g3 : v2 3 = v 3 := hag 3 (by decide)
                                          have g4 : v2 4 = v 4 := hag 4 (by decide)
                                          have g5 : v2 5 = v 5 := hag 5 (by decide)
                                          have g6 : v2 6 = v 6 := hag 6 (by decide)
                                          have g7 : v2 7 = v 7 := hag 7 (by decide)
                                          have b0 : ((2147483648 : Nat) : Int) ≤ (v2 2) + 2147483648 ∧ (v2 2) + 2147483648 ≤ ((2147483648 : Nat) : Int) := xXb hBd 0 rfl
                                          have b1 : ((2147483648 : Nat) : Int) ≤ (v2 4) + 2147483648 ∧ (v2 4) + 2147483648 ≤ ((2147484548 : Nat) : Int) := xXb hBd 1 rfl
                                          have b2 : ((2147483648 : Nat) : Int) ≤ (v2 5) + 2147483648 ∧ (v2 5) + 2147483648 ≤ ((2147483649 : Nat) : Int) := xXb hBd 2 rfl
                                          have b3 : ((2147483649 : Nat) : Int) ≤ (v2 6) + 2147483648 ∧ (v2 6) + 2147483648 ≤ ((2147483655 : Nat) : Int) := xXb hBd 3 rfl
                                          have b4 : ((2147483708 : Nat) : Int) ≤ (v2 7) + 2147483648 ∧ (v2 7) + 2147483648 ≤ ((2147483708 : Nat) : Int) := xXb hBd 4 rfl
                                          have k0 : xE E 74 36 = v 2 := xKcf hKc 0 rfl rfl
                                          have k1 : xE E 74 37 = v 3 := xKcf hKc 1 rfl rfl
                                          have k2 : xE E 74 38 = v 4 := xKcf hKc 2 rfl rfl
                                          have k3 : xE E 74 40 = v 5 := xKcf hKc 3 rfl rfl
                                          have k4 : xE E 74 41 = v 6 := xKcf hKc 4 rfl rfl
                                          have k5 : xE E 75 5 = v 7 := xKcf hKc 5 rfl rfl
                                          have f0 : ¬ (v2 5) = 2 := xXf hF 0 rfl
                                          have f1 : (v2 2) ≤ 0 := xXf hF 1 rfl
                                          have f2 : ¬ (v2 5) = 4 := xXf hF 2 rfl
                                          have f3 : 1 ≤ (v2 6) := xXf hF 3 rfl
                                          have f4 : (v2 6) ≤ 7 := xXf hF 4 rfl
                                          have f5 : 60 ≤ (v2 7) := xXf hF 5 rfl
                                          have m0 : xE E2 74 36 = 2 := xXm hM 0 rfl
                                          have m1 : xE E2 74 37 = (v2 4) := xXm hM 1 rfl
                                          have e74_38 : xE E2 74 38 = xE E 74 38 := xFr_E hfr rfl
                                          have e74_39 : xE E2 74 39 = xE E 74 39 := xFr_E hfr rfl
                                          have e74_40 : xE E2 74 40 = xE E 74 40 := xFr_E hfr rfl
                                          have e74_41 : xE E2 74 41 = xE E 74 41 := xFr_E hfr rfl
                                          have e74_42 : xE E2 74 42 = xE E 74 42 := xFr_E hfr rfl
                                          have q74_42 : xE E 74 42 = xE E0 74 42 := xFr_E hFr0 rfl
                                          have e75_0 : xE E2 75 0 = xE E 75 0 := xFr_E hfr rfl
                                          have q75_0 : xE E 75 0 = xE E0 75 0 := xFr_E hFr0 rfl
                                          have e75_1 : xE E2 75 1 = xE E 75 1 := xFr_E hfr rfl
                                          have q75_1 : xE E 75 1 = xE E0 75 1 := xFr_E hFr0 rfl
                                          have e75_2 : xE E2 75 2 = xE E 75 2 := xFr_E hfr rfl
                                          have q75_2 : xE E 75 2 = xE E0 75 2 := xFr_E hFr0 rfl
                                          have e75_5 : xE E2 75 5 = xE E 75 5 := xFr_E hfr rfl
                                          have e84 : ∀ i, xE E2 84 i = xE E 84 i := fun i => xFr_E hfr rfl
                                          have q84 : ∀ i, xE E 84 i = xE E0 84 i := fun i => xFr_E hFr0 rfl
                                          have e75 : ∀ i, xE E2 75 i = xE E 75 i := fun i => xFr_E hfr rfl
                                          have y74_42 : ((2147483648 : Nat) : Int) ≤ xE E0 74 42 + 2147483648 ∧ xE E0 74 42 + 2147483648 ≤ ((2147484548 : Nat) : Int) := xTyF hT0 74 42 42 rfl rfl rfl rfl rfl rfl
                                          have hI : xE E 74 36 = 0 ∧ ∃ p Si, ((p) ≤ (xE E0 74 42) ∧ xRD (xE E0 84) (xE E0 74 42) (p) E) ∧ (0 ≤ Si 5 ∧ Si 5 ≤ 60) ∧ (∀ k, 0 ≤ k → xE E 75 k = Si k) ∧ pWs (xE E0 84) (xE E0 74 42) 60 (xE E0 74 39) (uS (xE E0 75) 5 0) = pNum (xE E0 84) (xE E0 74 42) p 1 7 (fun x p2 => if Si 5 < 60 then pWs (xE E0 84) (xE E0 74 42) (60 - (Si 5 + 1)).toNat p2 (uS (uS Si (460 + Si 5) (if (v 1) = 0 then x else -x)) 5 (Si 5 + 1)) else .error (6, tFr (xE E0 84) (xE E0 74 42) p)) := hInv
                                          show xΨwd x0 E0 E2 0
                                          obtain ⟨i1, p, Si, ⟨hp, hs⟩, h5, hc, ht⟩ := hI
                                          have h55 := hc 5 (by decide)
                                          obtain ⟨s1, s1b, s2, s3, s4, s5, s6, s7, s8⟩ := xRD_i hs hp
                                          refine xRs_e ?_
                                          rw [ht]
                                          unfold pNum
                                          by_cases c3 : tKd (xE E0 84) (xE E0 74 42) p = 3
                                          · rw [if_pos c3]
                                            have s6 := s6 c3
                                            first
                                              | (exfalso; omega)
                                              | (rw [if_neg (by omega)]; exact xEr_n (by omega) (by omega) (by omega))
                                              | (rw [if_pos (by omega)]; show xEr E2 (if Si 5 < 60 then _ else _); rw [if_neg (by omega)]; exact xEr_n (by omega) (by omega) (by omega))
                                          · rw [if_neg c3]
                                            unfold pMis
                                            by_cases c1 : tKd (xE E0 84) (xE E0 74 42) p = 1
                                            · rw [if_pos c1]
                                              first
                                                | (exfalso; omega)
                                                | exact xEr_n (by omega) (by omega) (by omega)
                                            · rw [if_neg c1]
                                              first
                                                | (exfalso; omega)
                                                | exact xEr_n (by omega) (by omega) (by omega)
                                        · skip
                                          rcases List.mem_cons.mp hx with ex | hx
                                          · subst ex
                                            obtain ⟨hF, hBd, hM⟩ := hXs
                                            have g1 : v2 1 = v 1 := hag 1 (by decide)
                                            have g2 : v2 2 = v 2 := hag 2 (by decide)
                                            have g3 : v2 3 = v 3 := hag 3 (by decide)
                                            have g4 : v2 4 = v 4 := hag 4 (by decide)
                                            have g5 : v2 5 = v 5 := hag 5 (by decide)
                                            have g6 : v2 6 = v 6 := hag 6 (by decide)
                                            have g7 : v2 7 = v 7 := hag 7 (by decide)
                                            have b0 : ((2147483648 : Nat) : Int) ≤ (v2 2) + 2147483648 ∧ (v2 2) + 2147483648 ≤ ((2147483648 : Nat) : Int) := xXb hBd 0 rfl
                                            have b1 : ((2147483648 : Nat) : Int) ≤ (v2 4) + 2147483648 ∧ (v2 4) + 2147483648 ≤ ((2147484548 : Nat) : Int) := xXb hBd 1 rfl
                                            have b2 : ((2147483650 : Nat) : Int) ≤ (v2 5) + 2147483648 ∧ (v2 5) + 2147483648 ≤ ((2147483650 : Nat) : Int) := xXb hBd 2 rfl
                                            have b3 : ((2147483648 : Nat) : Int) ≤ (v2 6) + 2147483648 ∧ (v2 6) + 2147483648 ≤ ((2147483648 : Nat) : Int) := xXb hBd 3 rfl
                                            have b4 : ((2147483648 : Nat) : Int) ≤ (v2 7) + 2147483648 ∧ (v2 7) + 2147483648 ≤ ((2147483707 : Nat) : Int) := xXb hBd 4 rfl
                                            have k0 : xE E 74 36 = v 2 := xKcf hKc 0 rfl rfl
                                            have k1 : xE E 74 37 = v 3 := xKcf hKc 1 rfl rfl
                                            have k2 : xE E 74 38 = v 4 := xKcf hKc 2 rfl rfl
                                            have k3 : xE E 74 40 = v 5 := xKcf hKc 3 rfl rfl
                                            have k4 : xE E 74 41 = v 6 := xKcf hKc 4 rfl rfl
                                            have k5 : xE E 75 5 = v 7 := xKcf hKc 5 rfl rfl
                                            have f0 : (v2 5) = 2 := xXf hF 0 rfl
                                            have f1 : (v2 6) < 1 := xXf hF 1 rfl
                                            have f2 : (v2 2) ≤ 0 := xXf hF 2 rfl
                                            have f3 : (v2 7) < 60 := xXf hF 3 rfl
                                            have m0 : xE E2 74 36 = 3 := xXm hM 0 rfl
                                            have m1 : xE E2 74 37 = (v2 4) := xXm hM 1 rfl
                                            have e74_38 : xE E2 74 38 = xE E 74 38 := xFr_E hfr rfl
                                            have e74_39 : xE E2 74 39 = xE E 74 39 := xFr_E hfr rfl
                                            have e74_40 : xE E2 74 40 = xE E 74 40 := xFr_E hfr rfl
                                            have e74_41 : xE E2 74 41 = xE E 74 41 := xFr_E hfr rfl
                                            have e74_42 : xE E2 74 42 = xE E 74 42 := xFr_E hfr rfl
                                            have q74_42 : xE E 74 42 = xE E0 74 42 := xFr_E hFr0 rfl
                                            have e75_0 : xE E2 75 0 = xE E 75 0 := xFr_E hfr rfl
                                            have q75_0 : xE E 75 0 = xE E0 75 0 := xFr_E hFr0 rfl
                                            have e75_1 : xE E2 75 1 = xE E 75 1 := xFr_E hfr rfl
                                            have q75_1 : xE E 75 1 = xE E0 75 1 := xFr_E hFr0 rfl
                                            have e75_2 : xE E2 75 2 = xE E 75 2 := xFr_E hfr rfl
                                            have q75_2 : xE E 75 2 = xE E0 75 2 := xFr_E hFr0 rfl
                                            have e75_5 : xE E2 75 5 = xE E 75 5 := xFr_E hfr rfl
                                            have e84 : ∀ i, xE E2 84 i = xE E 84 i := fun i => xFr_E hfr rfl
                                            have q84 : ∀ i, xE E 84 i = xE E0 84 i := fun i => xFr_E hFr0 rfl
                                            have e75 : ∀ i, xE E2 75 i = xE E 75 i := fun i => xFr_E hfr rfl
                                            have y74_42 : ((2147483648 : Nat) : Int) ≤ xE E0 74 42 + 2147483648 ∧ xE E0 74 42 + 2147483648 ≤ ((2147484548 : Nat) : Int) := xTyF hT0 74 42 42 rfl rfl rfl rfl rfl rfl
                                            have hI : xE E 74 36 = 0 ∧ ∃ p Si, ((p) ≤ (xE E0 74 42) ∧ xRD (xE E0 84) (xE E0 74 42) (p) E) ∧ (0 ≤ Si 5 ∧ Si 5 ≤ 60) ∧ (∀ k, 0 ≤ k → xE E 75 k = Si k) ∧ pWs (xE E0 84) (xE E0 74 42) 60 (xE E0 74 39) (uS (xE E0 75) 5 0) = pNum (xE E0 84) (xE E0 74 42) p 1 7 (fun x p2 => if Si 5 < 60 then pWs (xE E0 84) (xE E0 74 42) (60 - (Si 5 + 1)).toNat p2 (uS (uS Si (460 + Si 5) (if (v 1) = 0 then x else -x)) 5 (Si 5 + 1)) else .error (6, tFr (xE E0 84) (xE E0 74 42) p)) := hInv
                                            show xΨwd x0 E0 E2 0
                                            obtain ⟨i1, p, Si, ⟨hp, hs⟩, h5, hc, ht⟩ := hI
                                            have h55 := hc 5 (by decide)
                                            obtain ⟨s1, s1b, s2, s3, s4, s5, s6, s7, s8⟩ := xRD_i hs hp
                                            refine xRs_e ?_
                                            rw [ht]
                                            unfold pNum
                                            by_cases c3 : tKd (xE E0 84) (xE E0 74 42) p = 3
                                            · rw [if_pos c3]
                                              have s6 := s6 c3
                                              first
                                                | (exfalso; omega)
                                                | (rw [if_neg (by omega)]; exact xEr_n (by omega) (by omega) (by omega))
                                                | (rw [if_pos (by omega)]; show xEr E2 (if Si 5 < 60 then _ else _); rw [if_neg (by omega)]; exact xEr_n (by omega) (by omega) (by omega))
                                            · rw [if_neg c3]
                                              unfold pMis
                                              by_cases c1 : tKd (xE E0 84) (xE E0 74 42) p = 1
                                              · rw [if_pos c1]
                                                first
                                                  | (exfalso; omega)
                                                  | exact xEr_n (by omega) (by omega) (by omega)
                                              · rw [if_neg c1]
                                                first
                                                  | (exfalso; omega)
                                                  | exact xEr_n (by omega) (by omega) (by omega)
                                          · skip
                                            rcases List.mem_cons.mp hx with ex | hx
                                            · subst ex
                                              obtain ⟨hF, hBd, hM⟩ := hXs
                                              have g1 : v2 1 = v 1 := hag 1 (by decide)
                                              have g2 : v2 2 = v 2 := hag 2 (by decide)
                                              have g3 : v2 3 = v 3 := hag 3 (by decide)
                                              have g4 : v2 4 = v 4 := hag 4 (by decide)
                                              have g5 : v2 5 = v 5 := hag 5 (by decide)
                                              have g6 : v2 6 = v 6 := hag 6 (by decide)
                                              have g7 : v2 7 = v 7 := hag 7 (by decide)
                                              have b0 : ((2147483648 : Nat) : Int) ≤ (v2 2) + 2147483648 ∧ (v2 2) + 2147483648 ≤ ((2147483648 : Nat) : Int) := xXb hBd 0 rfl
                                              have b1 : ((2147483648 : Nat) : Int) ≤ (v2 4) + 2147483648 ∧ (v2 4) + 2147483648 ≤ ((2147484548 : Nat) : Int) := xXb hBd 1 rfl
                                              have b2 : ((2147483650 : Nat) : Int) ≤ (v2 5) + 2147483648 ∧ (v2 5) + 2147483648 ≤ ((2147483650 : Nat) : Int) := xXb hBd 2 rfl
                                              have b3 : ((2147483648 : Nat) : Int) ≤ (v2 6) + 2147483648 ∧ (v2 6) + 2147483648 ≤ ((2147483648 : Nat) : Int) := xXb hBd 3 rfl
                                              have b4 : ((2147483708 : Nat) : Int) ≤ (v2 7) + 2147483648 ∧ (v2 7) + 2147483648 ≤ ((2147483708 : Nat) : Int) := xXb hBd 4 rfl
                                              have k0 : xE E 74 36 = v 2 := xKcf hKc 0 rfl rfl
                                              have k1 : xE E 74 37 = v 3 := xKcf hKc 1 rfl rfl
                                              have k2 : xE E 74 38 = v 4 := xKcf hKc 2 rfl rfl
                                              have k3 : xE E 74 40 = v 5 := xKcf hKc 3 rfl rfl
                                              have k4 : xE E 74 41 = v 6 := xKcf hKc 4 rfl rfl
                                              have k5 : xE E 75 5 = v 7 := xKcf hKc 5 rfl rfl
                                              have f0 : (v2 5) = 2 := xXf hF 0 rfl
                                              have f1 : (v2 6) < 1 := xXf hF 1 rfl
                                              have f2 : (v2 2) ≤ 0 := xXf hF 2 rfl
                                              have f3 : 60 ≤ (v2 7) := xXf hF 3 rfl
                                              have m0 : xE E2 74 36 = 3 := xXm hM 0 rfl
                                              have m1 : xE E2 74 37 = (v2 4) := xXm hM 1 rfl
                                              have e74_38 : xE E2 74 38 = xE E 74 38 := xFr_E hfr rfl
                                              have e74_39 : xE E2 74 39 = xE E 74 39 := xFr_E hfr rfl
                                              have e74_40 : xE E2 74 40 = xE E 74 40 := xFr_E hfr rfl
                                              have e74_41 : xE E2 74 41 = xE E 74 41 := xFr_E hfr rfl
                                              have e74_42 : xE E2 74 42 = xE E 74 42 := xFr_E hfr rfl
                                              have q74_42 : xE E 74 42 = xE E0 74 42 := xFr_E hFr0 rfl
                                              have e75_0 : xE E2 75 0 = xE E 75 0 := xFr_E hfr rfl
                                              have q75_0 : xE E 75 0 = xE E0 75 0 := xFr_E hFr0 rfl
                                              have e75_1 : xE E2 75 1 = xE E 75 1 := xFr_E hfr rfl
                                              have q75_1 : xE E 75 1 = xE E0 75 1 := xFr_E hFr0 rfl
                                              have e75_2 : xE E2 75 2 = xE E 75 2 := xFr_E hfr rfl
                                              have q75_2 : xE E 75 2 = xE E0 75 2 := xFr_E hFr0 rfl
                                              have e75_5 : xE E2 75 5 = xE E 75 5 := xFr_E hfr rfl
                                              have e84 : ∀ i, xE E2 84 i = xE E 84 i := fun i => xFr_E hfr rfl
                                              have q84 : ∀ i, xE E 84 i = xE E0 84 i := fun i => xFr_E hFr0 rfl
                                              have e75 : ∀ i, xE E2 75 i = xE E 75 i := fun i => xFr_E hfr rfl
                                              have y74_42 : ((2147483648 : Nat) : Int) ≤ xE E0 74 42 + 2147483648 ∧ xE E0 74 42 + 2147483648 ≤ ((2147484548 : Nat) : Int) := xTyF hT0 74 42 42 rfl rfl rfl rfl rfl rfl
                                              have hI : xE E 74 36 = 0 ∧ ∃ p Si, ((p) ≤ (xE E0 74 42) ∧ xRD (xE E0 84) (xE E0 74 42) (p) E) ∧ (0 ≤ Si 5 ∧ Si 5 ≤ 60) ∧ (∀ k, 0 ≤ k → xE E 75 k = Si k) ∧ pWs (xE E0 84) (xE E0 74 42) 60 (xE E0 74 39) (uS (xE E0 75) 5 0) = pNum (xE E0 84) (xE E0 74 42) p 1 7 (fun x p2 => if Si 5 < 60 then pWs (xE E0 84) (xE E0 74 42) (60 - (Si 5 + 1)).toNat p2 (uS (uS Si (460 + Si 5) (if (v 1) = 0 then x else -x)) 5 (Si 5 + 1)) else .error (6, tFr (xE E0 84) (xE E0 74 42) p)) := hInv
                                              show xΨwd x0 E0 E2 0
                                              obtain ⟨i1, p, Si, ⟨hp, hs⟩, h5, hc, ht⟩ := hI
                                              have h55 := hc 5 (by decide)
                                              obtain ⟨s1, s1b, s2, s3, s4, s5, s6, s7, s8⟩ := xRD_i hs hp
                                              refine xRs_e ?_
                                              rw [ht]
                                              unfold pNum
                                              by_cases c3 : tKd (xE E0 84) (xE E0 74 42) p = 3
                                              · rw [if_pos c3]
                                                have s6 := s6 c3
                                                first
                                                  | (exfalso; omega)
                                                  | (rw [if_neg (by omega)]; exact xEr_n (by omega) (by omega) (by omega))
                                                  | (rw [if_pos (by omega)]; show xEr E2 (if Si 5 < 60 then _ else _); rw [if_neg (by omega)]; exact xEr_n (by omega) (by omega) (by omega))
                                              · rw [if_neg c3]
                                                unfold pMis
                                                by_cases c1 : tKd (xE E0 84) (xE E0 74 42) p = 1
                                                · rw [if_pos c1]
                                                  first
                                                    | (exfalso; omega)
                                                    | exact xEr_n (by omega) (by omega) (by omega)
                                                · rw [if_neg c1]
                                                  first
                                                    | (exfalso; omega)
                                                    | exact xEr_n (by omega) (by omega) (by omega)
                                            · skip
                                              rcases List.mem_cons.mp hx with ex | hx
                                              · subst ex
                                                obtain ⟨hF, hBd, hM⟩ := hXs
                                                have g1 : v2 1 = v 1 := hag 1 (by decide)
                                                have g2 : v2 2 = v 2 := hag 2 (by decide)
                                                have g3 : v2 3 = v 3 := hag 3 (by decide)
                                                have g4 : v2 4 = v 4 := hag 4 (by decide)
                                                have g5 : v2 5 = v 5 := hag 5 (by decide)
                                                have g6 : v2 6 = v 6 := hag 6 (by decide)
                                                have g7 : v2 7 = v 7 := hag 7 (by decide)
                                                have b0 : ((2147483648 : Nat) : Int) ≤ (v2 2) + 2147483648 ∧ (v2 2) + 2147483648 ≤ ((2147483648 : Nat) : Int) := xXb hBd 0 rfl
                                                have b1 : ((2147483648 : Nat) : Int) ≤ (v2 4) + 2147483648 ∧ (v2 4) + 2147483648 ≤ ((2147484548 : Nat) : Int) := xXb hBd 1 rfl
                                                have b2 : ((2147483650 : Nat) : Int) ≤ (v2 5) + 2147483648 ∧ (v2 5) + 2147483648 ≤ ((2147483650 : Nat) : Int) := xXb hBd 2 rfl
                                                have b3 : ((2147483656 : Nat) : Int) ≤ (v2 6) + 2147483648 ∧ (v2 6) + 2147483648 ≤ ((2147484647 : Nat) : Int) := xXb hBd 3 rfl
                                                have b4 : ((2147483648 : Nat) : Int) ≤ (v2 7) + 2147483648 ∧ (v2 7) + 2147483648 ≤ ((2147483707 : Nat) : Int) := xXb hBd 4 rfl
                                                have k0 : xE E 74 36 = v 2 := xKcf hKc 0 rfl rfl
                                                have k1 : xE E 74 37 = v 3 := xKcf hKc 1 rfl rfl
                                                have k2 : xE E 74 38 = v 4 := xKcf hKc 2 rfl rfl
                                                have k3 : xE E 74 40 = v 5 := xKcf hKc 3 rfl rfl
                                                have k4 : xE E 74 41 = v 6 := xKcf hKc 4 rfl rfl
                                                have k5 : xE E 75 5 = v 7 := xKcf hKc 5 rfl rfl
                                                have f0 : (v2 5) = 2 := xXf hF 0 rfl
                                                have f1 : 1 ≤ (v2 6) := xXf hF 1 rfl
                                                have f2 : 7 < (v2 6) := xXf hF 2 rfl
                                                have f3 : (v2 2) ≤ 0 := xXf hF 3 rfl
                                                have f4 : (v2 7) < 60 := xXf hF 4 rfl
                                                have m0 : xE E2 74 36 = 3 := xXm hM 0 rfl
                                                have m1 : xE E2 74 37 = (v2 4) := xXm hM 1 rfl
                                                have e74_38 : xE E2 74 38 = xE E 74 38 := xFr_E hfr rfl
                                                have e74_39 : xE E2 74 39 = xE E 74 39 := xFr_E hfr rfl
                                                have e74_40 : xE E2 74 40 = xE E 74 40 := xFr_E hfr rfl
                                                have e74_41 : xE E2 74 41 = xE E 74 41 := xFr_E hfr rfl
                                                have e74_42 : xE E2 74 42 = xE E 74 42 := xFr_E hfr rfl
                                                have q74_42 : xE E 74 42 = xE E0 74 42 := xFr_E hFr0 rfl
                                                have e75_0 : xE E2 75 0 = xE E 75 0 := xFr_E hfr rfl
                                                have q75_0 : xE E 75 0 = xE E0 75 0 := xFr_E hFr0 rfl
                                                have e75_1 : xE E2 75 1 = xE E 75 1 := xFr_E hfr rfl
                                                have q75_1 : xE E 75 1 = xE E0 75 1 := xFr_E hFr0 rfl
                                                have e75_2 : xE E2 75 2 = xE E 75 2 := xFr_E hfr rfl
                                                have q75_2 : xE E 75 2 = xE E0 75 2 := xFr_E hFr0 rfl
                                                have e75_5 : xE E2 75 5 = xE E 75 5 := xFr_E hfr rfl
                                                have e84 : ∀ i, xE E2 84 i = xE E 84 i := fun i => xFr_E hfr rfl
                                                have q84 : ∀ i, xE E 84 i = xE E0 84 i := fun i => xFr_E hFr0 rfl
                                                have e75 : ∀ i, xE E2 75 i = xE E 75 i := fun i => xFr_E hfr rfl
                                                have y74_42 : ((2147483648 : Nat) : Int) ≤ xE E0 74 42 + 2147483648 ∧ xE E0 74 42 + 2147483648 ≤ ((2147484548 : Nat) : Int) := xTyF hT0 74 42 42 rfl rfl rfl rfl rfl rfl
                                                have hI : xE E 74 36 = 0 ∧ ∃ p Si, ((p) ≤ (xE E0 74 42) ∧ xRD (xE E0 84) (xE E0 74 42) (p) E) ∧ (0 ≤ Si 5 ∧ Si 5 ≤ 60) ∧ (∀ k, 0 ≤ k → xE E 75 k = Si k) ∧ pWs (xE E0 84) (xE E0 74 42) 60 (xE E0 74 39) (uS (xE E0 75) 5 0) = pNum (xE E0 84) (xE E0 74 42) p 1 7 (fun x p2 => if Si 5 < 60 then pWs (xE E0 84) (xE E0 74 42) (60 - (Si 5 + 1)).toNat p2 (uS (uS Si (460 + Si 5) (if (v 1) = 0 then x else -x)) 5 (Si 5 + 1)) else .error (6, tFr (xE E0 84) (xE E0 74 42) p)) := hInv
                                                show xΨwd x0 E0 E2 0
                                                obtain ⟨i1, p, Si, ⟨hp, hs⟩, h5, hc, ht⟩ := hI
                                                have h55 := hc 5 (by decide)
                                                obtain ⟨s1, s1b, s2, s3, s4, s5, s6, s7, s8⟩ := xRD_i hs hp
                                                refine xRs_e ?_
                                                rw [ht]
                                                unfold pNum
                                                by_cases c3 : tKd (xE E0 84) (xE E0 74 42) p = 3
                                                · rw [if_pos c3]
                                                  have s6 := s6 c3
                                                  first
                                                    | (exfalso; omega)
                                                    | (rw [if_neg (by omega)]; exact xEr_n (by omega) (by omega) (by omega))
                                                    | (rw [if_pos (by omega)]; show xEr E2 (if Si 5 < 60 then _ else _); rw [if_neg (by omega)]; exact xEr_n (by omega) (by omega) (by omega))
                                                · rw [if_neg c3]
                                                  unfold pMis
                                                  by_cases c1 : tKd (xE E0 84) (xE E0 74 42) p = 1
                                                  · rw [if_pos c1]
                                                    first
                                                      | (exfalso; omega)
                                                      | exact xEr_n (by omega) (by omega) (by omega)
                                                  · rw [if_neg c1]
                                                    first
                                                      | (exfalso; omega)
                                                      | exact xEr_n (by omega) (by omega) (by omega)
                                              · skip
                                                rcases List.mem_cons.mp hx with ex | hx
                                                · subst ex
                                                  obtain ⟨hF, hBd, hM⟩ := hXs
                                                  have g1 : v2 1 = v 1 := hag 1 (by decide)
                                                  have g2 : v2 2 = v 2 := hag 2 (by decide)
                                                  have g3 : v2 3 = v 3 := hag 3 (by decide)
                                                  have g4 : v2 4 = v 4 := hag 4 (by decide)
                                                  have g5 : v2 5 = v 5 := hag 5 (by decide)
                                                  have g6 : v2 6 = v 6 := hag 6 (by decide)
                                                  have g7 : v2 7 = v 7 := hag 7 (by decide)
                                                  have b0 : ((2147483648 : Nat) : Int) ≤ (v2 2) + 2147483648 ∧ (v2 2) + 2147483648 ≤ ((2147483648 : Nat) : Int) := xXb hBd 0 rfl
                                                  have b1 : ((2147483648 : Nat) : Int) ≤ (v2 4) + 2147483648 ∧ (v2 4) + 2147483648 ≤ ((2147484548 : Nat) : Int) := xXb hBd 1 rfl
                                                  have b2 : ((2147483650 : Nat) : Int) ≤ (v2 5) + 2147483648 ∧ (v2 5) + 2147483648 ≤ ((2147483650 : Nat) : Int) := xXb hBd 2 rfl
                                                  have b3 : ((2147483656 : Nat) : Int) ≤ (v2 6) + 2147483648 ∧ (v2 6) + 2147483648 ≤ ((2147484647 : Nat) : Int) := xXb hBd 3 rfl
                                                  have b4 : ((2147483708 : Nat) : Int) ≤ (v2 7) + 2147483648 ∧ (v2 7) + 2147483648 ≤ ((2147483708 : Nat) : Int) := xXb hBd 4 rfl
                                                  have k0 : xE E 74 36 = v 2 := xKcf hKc 0 rfl rfl
                                                  have k1 : xE E 74 37 = v 3 := xKcf hKc 1 rfl rfl
                                                  have k2 : xE E 74 38 = v 4 := xKcf hKc 2 rfl rfl
                                                  have k3 : xE E 74 40 = v 5 := xKcf hKc 3 rfl rfl
                                                  have k4 : xE E 74 41 = v 6 := xKcf hKc 4 rfl rfl
                                                  have k5 : xE E 75 5 = v 7 := xKcf hKc 5 rfl rfl
                                                  have f0 : (v2 5) = 2 := xXf hF 0 rfl
                                                  have f1 : 1 ≤ (v2 6) := xXf hF 1 rfl
                                                  have f2 : 7 < (v2 6) := xXf hF 2 rfl
                                                  have f3 : (v2 2) ≤ 0 := xXf hF 3 rfl
                                                  have f4 : 60 ≤ (v2 7) := xXf hF 4 rfl
                                                  have m0 : xE E2 74 36 = 3 := xXm hM 0 rfl
                                                  have m1 : xE E2 74 37 = (v2 4) := xXm hM 1 rfl
                                                  have e74_38 : xE E2 74 38 = xE E 74 38 := xFr_E hfr rfl
                                                  have e74_39 : xE E2 74 39 = xE E 74 39 := xFr_E hfr rfl
                                                  have e74_40 : xE E2 74 40 = xE E 74 40 := xFr_E hfr rfl
                                                  have e74_41 : xE E2 74 41 = xE E 74 41 := xFr_E hfr rfl
                                                  have e74_42 : xE E2 74 42 = xE E 74 42 := xFr_E hfr rfl
                                                  have q74_42 : xE E 74 42 = xE E0 74 42 := xFr_E hFr0 rfl
                                                  have e75_0 : xE E2 75 0 = xE E 75 0 := xFr_E hfr rfl
                                                  have q75_0 : xE E 75 0 = xE E0 75 0 := xFr_E hFr0 rfl
                                                  have e75_1 : xE E2 75 1 = xE E 75 1 := xFr_E hfr rfl
                                                  have q75_1 : xE E 75 1 = xE E0 75 1 := xFr_E hFr0 rfl
                                                  have e75_2 : xE E2 75 2 = xE E 75 2 := xFr_E hfr rfl
                                                  have q75_2 : xE E 75 2 = xE E0 75 2 := xFr_E hFr0 rfl
                                                  have e75_5 : xE E2 75 5 = xE E 75 5 := xFr_E hfr rfl
                                                  have e84 : ∀ i, xE E2 84 i = xE E 84 i := fun i => xFr_E hfr rfl
                                                  have q84 : ∀ i, xE E 84 i = xE E0 84 i := fun i => xFr_E hFr0 rfl
                                                  have e75 : ∀ i, xE E2 75 i = xE E 75 i := fun i => xFr_E hfr rfl
                                                  have y74_42 : ((2147483648 : Nat) : Int) ≤ xE E0 74 42 + 2147483648 ∧ xE E0 74 42 + 2147483648 ≤ ((2147484548 : Nat) : Int) := xTyF hT0 74 42 42 rfl rfl rfl rfl rfl rfl
                                                  have hI : xE E 74 36 = 0 ∧ ∃ p Si, ((p) ≤ (xE E0 74 42) ∧ xRD (xE E0 84) (xE E0 74 42) (p) E) ∧ (0 ≤ Si 5 ∧ Si 5 ≤ 60) ∧ (∀ k, 0 ≤ k → xE E 75 k = Si k) ∧ pWs (xE E0 84) (xE E0 74 42) 60 (xE E0 74 39) (uS (xE E0 75) 5 0) = pNum (xE E0 84) (xE E0 74 42) p 1 7 (fun x p2 => if Si 5 < 60 then pWs (xE E0 84) (xE E0 74 42) (60 - (Si 5 + 1)).toNat p2 (uS (uS Si (460 + Si 5) (if (v 1) = 0 then x else -x)) 5 (Si 5 + 1)) else .error (6, tFr (xE E0 84) (xE E0 74 42) p)) := hInv
                                                  show xΨwd x0 E0 E2 0
                                                  obtain ⟨i1, p, Si, ⟨hp, hs⟩, h5, hc, ht⟩ := hI
                                                  have h55 := hc 5 (by decide)
                                                  obtain ⟨s1, s1b, s2, s3, s4, s5, s6, s7, s8⟩ := xRD_i hs hp
                                                  refine xRs_e ?_
                                                  rw [ht]
                                                  unfold pNum
                                                  by_cases c3 : tKd (xE E0 84) (xE E0 74 42) p = 3
                                                  · rw [if_pos c3]
                                                    have s6 := s6 c3
                                                    first
                                                      | (exfalso; omega)
                                                      | (rw [if_neg (by omega)]; exact xEr_n (by omega) (by omega) (by omega))
                                                      | (rw [if_pos (by omega)]; show xEr E2 (if Si 5 < 60 then _ else _); rw [if_neg (by omega)]; exact xEr_n (by omega) (by omega) (by omega))
                                                  · rw [if_neg c3]
                                                    unfold pMis
                                                    by_cases c1 : tKd (xE E0 84) (xE E0 74 42) p = 1
                                                    · rw [if_pos c1]
                                                      first
                                                        | (exfalso; omega)
                                                        | exact xEr_n (by omega) (by omega) (by omega)
                                                    · rw [if_neg c1]
                                                      first
                                                        | (exfalso; omega)
                                                        | exact xEr_n (by omega) (by omega) (by omega)
                                                · skip
                                                  have ex := List.mem_singleton.mp hx
                                                  subst ex
                                                  obtain ⟨hF, hBd, hM⟩ := hXs
                                                  have g1 : v2 1 = v 1 := hag 1 (by decide)
                                                  have g2 : v2 2 = v 2 := hag 2 (by decide)
                                                  have g3 : v2 3 = v 3 := hag 3 (by decide)
                                                  have g4 : v2 4 = v 4 := hag 4 (by decide)
                                                  have g5 : v2 5 = v 5 := hag 5 (by decide)
                                                  have g6 : v2 6 = v 6 := hag 6 (by decide)
                                                  have g7 : v2 7 = v 7 := hag 7 (by decide)
                                                  have b0 : ((2147483648 : Nat) : Int) ≤ (v2 2) + 2147483648 ∧ (v2 2) + 2147483648 ≤ ((2147483648 : Nat) : Int) := xXb hBd 0 rfl
                                                  have b1 : ((2147483648 : Nat) : Int) ≤ (v2 4) + 2147483648 ∧ (v2 4) + 2147483648 ≤ ((2147484548 : Nat) : Int) := xXb hBd 1 rfl
                                                  have b2 : ((2147483650 : Nat) : Int) ≤ (v2 5) + 2147483648 ∧ (v2 5) + 2147483648 ≤ ((2147483650 : Nat) : Int) := xXb hBd 2 rfl
                                                  have b3 : ((2147483649 : Nat) : Int) ≤ (v2 6) + 2147483648 ∧ (v2 6) + 2147483648 ≤ ((2147483655 : Nat) : Int) := xXb hBd 3 rfl
                                                  have b4 : ((2147483708 : Nat) : Int) ≤ (v2 7) + 2147483648 ∧ (v2 7) + 2147483648 ≤ ((2147483708 : Nat) : Int) := xXb hBd 4 rfl
                                                  have k0 : xE E 74 36 = v 2 := xKcf hKc 0 rfl rfl
                                                  have k1 : xE E 74 37 = v 3 := xKcf hKc 1 rfl rfl
                                                  have k2 : xE E 74 38 = v 4 := xKcf hKc 2 rfl rfl
                                                  have k3 : xE E 74 40 = v 5 := xKcf hKc 3 rfl rfl
                                                  have k4 : xE E 74 41 = v 6 := xKcf hKc 4 rfl rfl
                                                  have k5 : xE E 75 5 = v 7 := xKcf hKc 5 rfl rfl
                                                  have f0 : (v2 5) = 2 := xXf hF 0 rfl
                                                  have f1 : 1 ≤ (v2 6) := xXf hF 1 rfl
                                                  have f2 : (v2 6) ≤ 7 := xXf hF 2 rfl
                                                  have f3 : 60 ≤ (v2 7) := xXf hF 3 rfl
                                                  have f4 : (v2 2) ≤ 0 := xXf hF 4 rfl
                                                  have m0 : xE E2 74 36 = 6 := xXm hM 0 rfl
                                                  have m1 : xE E2 74 37 = (v2 4) := xXm hM 1 rfl
                                                  have e74_38 : xE E2 74 38 = xE E 74 38 := xFr_E hfr rfl
                                                  have e74_39 : xE E2 74 39 = xE E 74 39 := xFr_E hfr rfl
                                                  have e74_40 : xE E2 74 40 = xE E 74 40 := xFr_E hfr rfl
                                                  have e74_41 : xE E2 74 41 = xE E 74 41 := xFr_E hfr rfl
                                                  have e74_42 : xE E2 74 42 = xE E 74 42 := xFr_E hfr rfl
                                                  have q74_42 : xE E 74 42 = xE E0 74 42 := xFr_E hFr0 rfl
                                                  have e75_0 : xE E2 75 0 = xE E 75 0 := xFr_E hfr rfl
                                                  have q75_0 : xE E 75 0 = xE E0 75 0 := xFr_E hFr0 rfl
                                                  have e75_1 : xE E2 75 1 = xE E 75 1 := xFr_E hfr rfl
                                                  have q75_1 : xE E 75 1 = xE E0 75 1 := xFr_E hFr0 rfl
                                                  have e75_2 : xE E2 75 2 = xE E 75 2 := xFr_E hfr rfl
                                                  have q75_2 : xE E 75 2 = xE E0 75 2 := xFr_E hFr0 rfl
                                                  have e75_5 : xE E2 75 5 = xE E 75 5 := xFr_E hfr rfl
                                                  have e84 : ∀ i, xE E2 84 i = xE E 84 i := fun i => xFr_E hfr rfl
                                                  have q84 : ∀ i, xE E 84 i = xE E0 84 i := fun i => xFr_E hFr0 rfl
                                                  have e75 : ∀ i, xE E2 75 i = xE E 75 i := fun i => xFr_E hfr rfl
                                                  have y74_42 : ((2147483648 : Nat) : Int) ≤ xE E0 74 42 + 2147483648 ∧ xE E0 74 42 + 2147483648 ≤ ((2147484548 : Nat) : Int) := xTyF hT0 74 42 42 rfl rfl rfl rfl rfl rfl
                                                  have hI : xE E 74 36 = 0 ∧ ∃ p Si, ((p) ≤ (xE E0 74 42) ∧ xRD (xE E0 84) (xE E0 74 42) (p) E) ∧ (0 ≤ Si 5 ∧ Si 5 ≤ 60) ∧ (∀ k, 0 ≤ k → xE E 75 k = Si k) ∧ pWs (xE E0 84) (xE E0 74 42) 60 (xE E0 74 39) (uS (xE E0 75) 5 0) = pNum (xE E0 84) (xE E0 74 42) p 1 7 (fun x p2 => if Si 5 < 60 then pWs (xE E0 84) (xE E0 74 42) (60 - (Si 5 + 1)).toNat p2 (uS (uS Si (460 + Si 5) (if (v 1) = 0 then x else -x)) 5 (Si 5 + 1)) else .error (6, tFr (xE E0 84) (xE E0 74 42) p)) := hInv
                                                  show xΨwd x0 E0 E2 0
                                                  obtain ⟨i1, p, Si, ⟨hp, hs⟩, h5, hc, ht⟩ := hI
                                                  have h55 := hc 5 (by decide)
                                                  obtain ⟨s1, s1b, s2, s3, s4, s5, s6, s7, s8⟩ := xRD_i hs hp
                                                  refine xRs_e ?_
                                                  rw [ht]
                                                  unfold pNum
                                                  by_cases c3 : tKd (xE E0 84) (xE E0 74 42) p = 3
                                                  · rw [if_pos c3]
                                                    have s6 := s6 c3
                                                    first
                                                      | (exfalso; omega)
                                                      | (rw [if_neg (by omega)]; exact xEr_n (by omega) (by omega) (by omega))
                                                      | (rw [if_pos (by omega)]; show xEr E2 (if Si 5 < 60 then _ else _); rw [if_neg (by omega)]; exact xEr_n (by omega) (by omega) (by omega))
                                                  · rw [if_neg c3]
                                                    unfold pMis
                                                    by_cases c1 : tKd (xE E0 84) (xE E0 74 42) p = 1
                                                    · rw [if_pos c1]
                                                      first
                                                        | (exfalso; omega)
                                                        | exact xEr_n (by omega) (by omega) (by omega)
                                                    · rw [if_neg c1]
                                                      first
                                                        | (exfalso; omega)
                                                        | exact xEr_n (by omega) (by omega) (by omega)
    · cases hx
    · cases hx
    · cases hx
