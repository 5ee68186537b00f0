/-! phases: cut (printed by yexd.py) -/
noncomputable def zxcu_ar0 : zyXp := (0, [], [68719476737], [(22, 0, 0, 0)], [(68719476737, 2147483648, 2147483948)], [(1228804, 0)])
noncomputable def zpcu_a : zyPh := (0, [595, 13], [(0, 4294967295), (0, 4294967295)], [], [])
noncomputable def zpcu (i : Nat) : zyPh := zpcu_a
noncomputable def zXcu (i : Nat) : List zyXp := []
noncomputable def zRcu (i : Nat) : List zyXp := [zxcu_ar0]
noncomputable def zFcu (i : Nat) : zyR := [(74, 2, 3), (75, 4, 4)]
noncomputable def zScu (i : Nat) : Nat := 0
