/-! calls, with any contract -/
theorem zyrow_v {p : Program} {l : Launch} {e : Env} {R : Room} {s : State} {mt : MethodId} {args : Array Value} {below : List Frame} {meth : Method} {c : Code} {X : zCx} {nL pc idx cells slots : Nat} {H : Heap} {locs : List Loc} {lsA : Array Slot} {stA rest AsV : List Value} {own : String} {cc : ByteArray} {en2 : zEn} {me2 : zMe} {rm : Room} {Pc : Array Value → State → Prop} {Qc : Array Value → State → Outcome → State → Prop}
    (hexec : p.tables.exec = Jvm.exec) (hb : c.code = cc) (hml : c.maxLocals = nL) (hown : s.vm.findClass own = some mt.cls) (hK : zKn X s) (hw : Cond.methodLink own idx me2.1 ∈ lw_tbl) (hcls2 : me2.1.cls = me2.2.2.2) (hKi : zKi 0 en2 me2)
    (hsA : stA = AsV.reverse ++ rest) (hAl : AsV.length = en2.2.1) (hrw : (rest.map fun v => v.category).sum ≤ 8) (hMet : Met l me2.1 [Cond.code me2.1 me2.2.1 en2.2.2.1 me2.2.2.1] rm Pc Qc en2.2.2.2.2.2.1 en2.2.2.2.2.2.2.1 (fun q => zbs X ≤ q)) (hr1 : rm.cells = en2.2.2.2.2.2.1) (hr2 : rm.slots = en2.2.2.2.2.2.2.1) (hr3 : rm.frames + 1 ≤ R.frames) (hr4 : 8 + (en2.2.2.1 + 11) + rm.locals ≤ R.locals) (hbl : FrameBlind Pc) (hpre : ∀ U : State, U.heap = H → s.WarmedH U.vm → Pc AsV.toArray U) (hrc : ∃ (a : Addr) (As : List Value), AsV = .ref a :: As ∧ ∃ cellB : Cell, H[a]? = some cellB ∧ cellB.vm.isStatics = false ∧ s.vm.findClass me2.2.2.2 = some cellB.cls)
    (hcs : cells + en2.2.2.2.2.2.1 ≤ R.cells ∧ slots + en2.2.2.2.2.2.2.1 ≤ R.slots) (hsz : lsA.size = nL) (hd : decode cc pc = .ok (.invokevirtual idx, 3)) : va_Run p l e R s mt args below meth c H locs cells slots en2.2.2.2.2.2.1 en2.2.2.2.2.2.2.1 (F0 mt pc lsA stA) rest (Qc AsV.toArray) (fun q => zbs X ≤ q) := by
  obtain ⟨-, hg12, hgw2⟩ := hKi
  rcases hgw2 with z | ⟨hnm, hcode, hini, hkd, hsel, hpar⟩
  · exact absurd z (by decide)
  have hcodeB := zword (args := args) hK hcode rfl
  have hiniB := zword (args := args) hK hini rfl
  have hws : ∀ w ∈ [Cond.code me2.1 me2.2.1 en2.2.2.1 me2.2.2.1], ∀ (a' : Array Value) (U : State), s.WarmedH U.vm → w.before a' U = true := fun w hw a' U hW => by
    rw [List.mem_singleton] at hw
    rw [hw]
    exact (hK.warm hW).1 _ hcode rfl a'
  have hS : CallFix p mt c cc nL s args [] own := ⟨hexec, hb, hml, hown, fun _ h => by cases h⟩
  have hlen : ∀ sig, parseMethodDescriptor me2.1.desc = some sig → en2.2.1 = sig.parameters.length + 1 := fun sig h => by
    rw [h] at hpar
    exact (Option.some.inj hpar).symm
  rw [if_neg (by decide)] at hkd
  obtain ⟨a, As, rfl, hcell⟩ := hrc
  rw [← hcls2] at hcell
  exact va_runV (As := As) (n := As.length) hS hMet ⟨⟨hr1, hr2, hr3, hr4, hws, List.mem_cons_self, hcodeB, hiniB, hnm, (fun sig h => by have := hlen sig h; rw [← hAl, List.length_cons] at this; omega), zword (args := args) hK hw rfl⟩, zword (args := args) hK hkd rfl, zword (args := args) hK (hsel rfl) rfl⟩ ⟨hbl, hcell, hpre⟩ rfl rfl hsz (by rw [hsA, List.reverse_cons, List.append_assoc]; rfl) (lv_room hrw) hd hcs
theorem zyrow_vN {p : Program} {l : Launch} {e : Env} {R : Room} {s : State} {mt : MethodId} {args : Array Value} {below : List Frame} {meth : Method} {c : Code} {X : zCx} {nL pc idx cells slots : Nat} {H : Heap} {locs : List Loc} {lsA : Array Slot} {stA rest AsV : List Value} {own : String} {cc : ByteArray} {en2 : zEn} {me2 : zMe} {rm : Room} {Pc : Array Value → State → Prop} {Qc : Array Value → State → Outcome → State → Prop}
    (hexec : p.tables.exec = Jvm.exec) (hb : c.code = cc) (hml : c.maxLocals = nL) (hown : s.vm.findClass own = some mt.cls) (hK : zKn X s) (hw : Cond.methodLinkNest own idx me2.1 "HornBraider" ∈ lw_tbl) (hcls2 : me2.1.cls = me2.2.2.2) (hKi : zKi 0 en2 me2)
    (hsA : stA = AsV.reverse ++ rest) (hAl : AsV.length = en2.2.1) (hrw : (rest.map fun v => v.category).sum ≤ 8) (hMet : Met l me2.1 [Cond.code me2.1 me2.2.1 en2.2.2.1 me2.2.2.1] rm Pc Qc en2.2.2.2.2.2.1 en2.2.2.2.2.2.2.1 (fun q => zbs X ≤ q)) (hr1 : rm.cells = en2.2.2.2.2.2.1) (hr2 : rm.slots = en2.2.2.2.2.2.2.1) (hr3 : rm.frames + 1 ≤ R.frames) (hr4 : 8 + (en2.2.2.1 + 11) + rm.locals ≤ R.locals) (hbl : FrameBlind Pc) (hpre : ∀ U : State, U.heap = H → s.WarmedH U.vm → Pc AsV.toArray U) (hrc : ∃ (a : Addr) (As : List Value), AsV = .ref a :: As ∧ ∃ cellB : Cell, H[a]? = some cellB ∧ cellB.vm.isStatics = false ∧ s.vm.findClass me2.2.2.2 = some cellB.cls)
    (hcs : cells + en2.2.2.2.2.2.1 ≤ R.cells ∧ slots + en2.2.2.2.2.2.2.1 ≤ R.slots) (hsz : lsA.size = nL) (hd : decode cc pc = .ok (.invokevirtual idx, 3)) : va_Run p l e R s mt args below meth c H locs cells slots en2.2.2.2.2.2.1 en2.2.2.2.2.2.2.1 (F0 mt pc lsA stA) rest (Qc AsV.toArray) (fun q => zbs X ≤ q) := by
  obtain ⟨-, hg12, hgw2⟩ := hKi
  rcases hgw2 with z | ⟨hnm, hcode, hini, hkd, hsel, hpar⟩
  · exact absurd z (by decide)
  have hcodeB := zword (args := args) hK hcode rfl
  have hiniB := zword (args := args) hK hini rfl
  have hws : ∀ w ∈ [Cond.code me2.1 me2.2.1 en2.2.2.1 me2.2.2.1], ∀ (a' : Array Value) (U : State), s.WarmedH U.vm → w.before a' U = true := fun w hw a' U hW => by
    rw [List.mem_singleton] at hw
    rw [hw]
    exact (hK.warm hW).1 _ hcode rfl a'
  have hS : CallFix p mt c cc nL s args [] own := ⟨hexec, hb, hml, hown, fun _ h => by cases h⟩
  have hlen : ∀ sig, parseMethodDescriptor me2.1.desc = some sig → en2.2.1 = sig.parameters.length + 1 := fun sig h => by
    rw [h] at hpar
    exact (Option.some.inj hpar).symm
  rw [if_neg (by decide)] at hkd
  obtain ⟨a, As, rfl, hcell⟩ := hrc
  rw [← hcls2] at hcell
  exact va_runVN (As := As) (n := As.length) hS hMet ⟨⟨⟨hr1, hr2, hr3, hr4, hws, List.mem_cons_self⟩, hcodeB, hiniB, hnm, (fun sig h => by have := hlen sig h; rw [← hAl, List.length_cons] at this; omega), zword (args := args) hK hw rfl⟩, zword (args := args) hK hkd rfl, zword (args := args) hK (hsel rfl) rfl⟩ ⟨hbl, hcell, hpre⟩ rfl rfl hsz (by rw [hsA, List.reverse_cons, List.append_assoc]; rfl) (lv_room hrw) hd hcs
theorem zyrow_s {p : Program} {l : Launch} {e : Env} {R : Room} {s : State} {mt : MethodId} {args : Array Value} {below : List Frame} {meth : Method} {c : Code} {X : zCx} {nL pc idx cells slots : Nat} {H : Heap} {locs : List Loc} {lsA : Array Slot} {stA rest AsV : List Value} {own : String} {cc : ByteArray} {en2 : zEn} {me2 : zMe} {rm : Room} {Pc : Array Value → State → Prop} {Qc : Array Value → State → Outcome → State → Prop}
    (hexec : p.tables.exec = Jvm.exec) (hb : c.code = cc) (hml : c.maxLocals = nL) (hown : s.vm.findClass own = some mt.cls) (hK : zKn X s) (hw : Cond.methodLink own idx me2.1 ∈ lw_tbl) (hcls2 : me2.1.cls = me2.2.2.2) (hKi : zKi 2 en2 me2)
    (hsA : stA = AsV.reverse ++ rest) (hAl : AsV.length = en2.2.1) (hrw : (rest.map fun v => v.category).sum ≤ 8) (hMet : Met l me2.1 [Cond.code me2.1 me2.2.1 en2.2.2.1 me2.2.2.1] rm Pc Qc en2.2.2.2.2.2.1 en2.2.2.2.2.2.2.1 (fun q => zbs X ≤ q)) (hr1 : rm.cells = en2.2.2.2.2.2.1) (hr2 : rm.slots = en2.2.2.2.2.2.2.1) (hr3 : rm.frames + 1 ≤ R.frames) (hr4 : 8 + (en2.2.2.1 + 11) + rm.locals ≤ R.locals) (hbl : FrameBlind Pc) (hpre : ∀ U : State, U.heap = H → s.WarmedH U.vm → Pc AsV.toArray U)
    (hcs : cells + en2.2.2.2.2.2.1 ≤ R.cells ∧ slots + en2.2.2.2.2.2.2.1 ≤ R.slots) (hsz : lsA.size = nL) (hd : decode cc pc = .ok (.invokestatic idx, 3)) : va_Run p l e R s mt args below meth c H locs cells slots en2.2.2.2.2.2.1 en2.2.2.2.2.2.2.1 (F0 mt pc lsA stA) rest (Qc AsV.toArray) (fun q => zbs X ≤ q) := by
  obtain ⟨-, hg12, hgw2⟩ := hKi
  rcases hgw2 with z | ⟨hnm, hcode, hini, hkd, hsel, hpar⟩
  · exact absurd z (by decide)
  have hcodeB := zword (args := args) hK hcode rfl
  have hiniB := zword (args := args) hK hini rfl
  have hws : ∀ w ∈ [Cond.code me2.1 me2.2.1 en2.2.2.1 me2.2.2.1], ∀ (a' : Array Value) (U : State), s.WarmedH U.vm → w.before a' U = true := fun w hw a' U hW => by
    rw [List.mem_singleton] at hw
    rw [hw]
    exact (hK.warm hW).1 _ hcode rfl a'
  have hS : CallFix p mt c cc nL s args [] own := ⟨hexec, hb, hml, hown, fun _ h => by cases h⟩
  have hlen : ∀ sig, parseMethodDescriptor me2.1.desc = some sig → en2.2.1 = sig.parameters.length := fun sig h => by
    rw [h] at hpar
    exact (Option.some.inj hpar).symm
  rw [if_pos rfl] at hkd
  exact va_runS hS hMet ⟨⟨hr1, hr2, hr3, hr4, hws, List.mem_cons_self, hcodeB, hiniB, hnm, hlen, zword (args := args) hK hw rfl⟩, zword (args := args) hK hkd rfl⟩ ⟨hbl, hpre⟩ rfl hAl hsz hsA (lv_room hrw) hd hcs
theorem zyrow_sN {p : Program} {l : Launch} {e : Env} {R : Room} {s : State} {mt : MethodId} {args : Array Value} {below : List Frame} {meth : Method} {c : Code} {X : zCx} {nL pc idx cells slots : Nat} {H : Heap} {locs : List Loc} {lsA : Array Slot} {stA rest AsV : List Value} {own : String} {cc : ByteArray} {en2 : zEn} {me2 : zMe} {rm : Room} {Pc : Array Value → State → Prop} {Qc : Array Value → State → Outcome → State → Prop}
    (hexec : p.tables.exec = Jvm.exec) (hb : c.code = cc) (hml : c.maxLocals = nL) (hown : s.vm.findClass own = some mt.cls) (hK : zKn X s) (hw : Cond.methodLinkNest own idx me2.1 "HornBraider" ∈ lw_tbl) (hcls2 : me2.1.cls = me2.2.2.2) (hKi : zKi 2 en2 me2)
    (hsA : stA = AsV.reverse ++ rest) (hAl : AsV.length = en2.2.1) (hrw : (rest.map fun v => v.category).sum ≤ 8) (hMet : Met l me2.1 [Cond.code me2.1 me2.2.1 en2.2.2.1 me2.2.2.1] rm Pc Qc en2.2.2.2.2.2.1 en2.2.2.2.2.2.2.1 (fun q => zbs X ≤ q)) (hr1 : rm.cells = en2.2.2.2.2.2.1) (hr2 : rm.slots = en2.2.2.2.2.2.2.1) (hr3 : rm.frames + 1 ≤ R.frames) (hr4 : 8 + (en2.2.2.1 + 11) + rm.locals ≤ R.locals) (hbl : FrameBlind Pc) (hpre : ∀ U : State, U.heap = H → s.WarmedH U.vm → Pc AsV.toArray U)
    (hcs : cells + en2.2.2.2.2.2.1 ≤ R.cells ∧ slots + en2.2.2.2.2.2.2.1 ≤ R.slots) (hsz : lsA.size = nL) (hd : decode cc pc = .ok (.invokestatic idx, 3)) : va_Run p l e R s mt args below meth c H locs cells slots en2.2.2.2.2.2.1 en2.2.2.2.2.2.2.1 (F0 mt pc lsA stA) rest (Qc AsV.toArray) (fun q => zbs X ≤ q) := by
  obtain ⟨-, hg12, hgw2⟩ := hKi
  rcases hgw2 with z | ⟨hnm, hcode, hini, hkd, hsel, hpar⟩
  · exact absurd z (by decide)
  have hcodeB := zword (args := args) hK hcode rfl
  have hiniB := zword (args := args) hK hini rfl
  have hws : ∀ w ∈ [Cond.code me2.1 me2.2.1 en2.2.2.1 me2.2.2.1], ∀ (a' : Array Value) (U : State), s.WarmedH U.vm → w.before a' U = true := fun w hw a' U hW => by
    rw [List.mem_singleton] at hw
    rw [hw]
    exact (hK.warm hW).1 _ hcode rfl a'
  have hS : CallFix p mt c cc nL s args [] own := ⟨hexec, hb, hml, hown, fun _ h => by cases h⟩
  have hlen : ∀ sig, parseMethodDescriptor me2.1.desc = some sig → en2.2.1 = sig.parameters.length := fun sig h => by
    rw [h] at hpar
    exact (Option.some.inj hpar).symm
  rw [if_pos rfl] at hkd
  exact va_runSN hS hMet ⟨⟨⟨hr1, hr2, hr3, hr4, hws, List.mem_cons_self⟩, hcodeB, hiniB, hnm, hlen, zword (args := args) hK hw rfl⟩, zword (args := args) hK hkd rfl, trivial⟩ ⟨hbl, hpre⟩ rfl hAl hsz hsA (lv_room hrw) hd hcs
