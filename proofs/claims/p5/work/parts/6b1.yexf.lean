/-! phases: placeOf (printed by yexf.py) -/
noncomputable def zxplo_ar0 : zyXp := (0, [], [171798691833], [(24, 103079215105, 75, 34359739649), (20, 0, 103079215105, 0), (2, 137438953473, 0, 103079215105)], [(34359738369, 2147483648, 2147483947), (103079215105, 2147483641, 2147483647), (137438953473, 2147483649, 2147483655), (171798691833, 2147483648, 2147483654)], [])
noncomputable def zxplo_ar1 : zyXp := (0, [], [137438953465], [(24, 103079215105, 75, 34359739649), (21, 0, 103079215105, 0)], [(34359738369, 2147483648, 2147483947), (103079215105, 2147483648, 2147483655), (137438953465, 2147483647, 2147483654)], [])
noncomputable def zpplo_a : zyPh := (0, [595, 34359738369, 13], [(0, 4294967295), (2147483648, 2147483947), (0, 4294967295)], [], [])
noncomputable def zpplo (i : Nat) : zyPh := zpplo_a
noncomputable def zXplo (i : Nat) : List zyXp := []
noncomputable def zRplo (i : Nat) : List zyXp := [zxplo_ar0, zxplo_ar1]
noncomputable def zFplo (i : Nat) : zyR := []
noncomputable def zSplo (i : Nat) : Nat := 0
