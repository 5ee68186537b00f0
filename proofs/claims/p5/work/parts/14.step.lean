theorem zdec {me : zMe} {pc nx k : Nat} {i : Instr} (hk : zln i = k) (hk0 : ¬ k = 0) (hlen : zln i = 0 ∨ nx = pc + zln i) (hdec : decode me.2.1 pc = .ok (i, nx - pc)) : nx = pc + k ∧ decode me.2.1 pc = .ok (i, k) := by
  rcases hlen with h | h
  · exact absurd (hk.symm.trans h) hk0
  · rw [hk] at h
    refine ⟨h, ?_⟩
    rw [hdec, h, Nat.add_sub_cancel_left]
theorem zinv_k {nx ax kd : Nat} {k : zK} {w : zW} {cf : Nat → zT} {y : zY} {pc : Nat} {ls st : List Nat} {q : zQ} {fs : List zFr} {m : zM} (hx : ax % 16 < 15) (hk : ax % 16 / 2 = kd) (h : zo_inv nx ax k w cf y pc ls st q fs m = true) : zcall (ax / 16) kd nx ax k w cf y pc ls st q fs m = true := by
  unfold zo_inv at h
  simp only [zn_m, zn_d] at h
  have e1 : Nat.beq (ax % 16) 15 = false := by
    cases hq : Nat.beq (ax % 16) 15 with
    | false => rfl
    | true => exact absurd (zbeqT hq) (by omega)
  rw [e1, hk] at h
  exact h
theorem zrow_v {p : Program} {l : Launch} {e : Env} {R : Room} {s : State} {mt : MethodId} {args : Array Value} {below : List Frame} {meth : Method} {c : Code} {X : zCx} {nL pc idx cells slots : Nat} {H : Heap} {locs : List Loc} {lsA : Array Slot} {stA rest AsV : List Value} {own : String} {cc : ByteArray} {en2 : zEn} {me2 : zMe} {rm : Room} {Pc : Array Value → State → Prop} {K : zW → List Nat → zM → Prop}
    (hexec : p.tables.exec = Jvm.exec) (hb : c.code = cc) (hml : c.maxLocals = nL) (hown : s.vm.findClass own = some mt.cls) (hK : zKn X s) (hw : Cond.methodLink own idx me2.1 ∈ lw_tbl) (hcls2 : me2.1.cls = me2.2.2.2) (hKi : zKi 0 en2 me2)
    (hsA : stA = AsV.reverse ++ rest) (hAl : AsV.length = en2.2.1) (hrw : (rest.map fun v => v.category).sum ≤ 8) (hMet : Met l me2.1 [Cond.code me2.1 me2.2.1 en2.2.2.1 me2.2.2.1] rm Pc (zQc X K) en2.2.2.2.2.2.1 en2.2.2.2.2.2.2.1 (fun q => zbs X ≤ q)) (hr1 : rm.cells = en2.2.2.2.2.2.1) (hr2 : rm.slots = en2.2.2.2.2.2.2.1) (hr3 : rm.frames + 1 ≤ R.frames) (hr4 : 8 + (en2.2.2.1 + 11) + rm.locals ≤ R.locals) (hbl : FrameBlind Pc) (hpre : ∀ U : State, U.heap = H → s.WarmedH U.vm → Pc AsV.toArray U) (hrc : ∃ (a : Addr) (As : List Value), AsV = .ref a :: As ∧ ∃ cellB : Cell, H[a]? = some cellB ∧ cellB.vm.isStatics = false ∧ s.vm.findClass me2.2.2.2 = some cellB.cls)
    (hcs : cells + en2.2.2.2.2.2.1 ≤ R.cells ∧ slots + en2.2.2.2.2.2.2.1 ≤ R.slots) (hsz : lsA.size = nL) (hd : decode cc pc = .ok (.invokevirtual idx, 3)) : va_Run p l e R s mt args below meth c H locs cells slots en2.2.2.2.2.2.1 en2.2.2.2.2.2.2.1 (F0 mt pc lsA stA) rest (zQc X K AsV.toArray) (fun q => zbs X ≤ q) := by
  obtain ⟨-, hg12, hgw2⟩ := hKi
  rcases hgw2 with z | ⟨hnm, hcode, hini, hkd, hsel, hpar⟩
  · exact absurd z (by decide)
  have hcodeB := zword (args := args) hK hcode rfl
  have hiniB := zword (args := args) hK hini rfl
  have hws : ∀ w ∈ [Cond.code me2.1 me2.2.1 en2.2.2.1 me2.2.2.1], ∀ (a' : Array Value) (U : State), s.WarmedH U.vm → w.before a' U = true := fun w hw a' U hW => by
    rw [List.mem_singleton] at hw
    rw [hw]
    exact (hK.warm hW).1 _ hcode rfl a'
  have hS : CallFix p mt c cc nL s args [] own := ⟨hexec, hb, hml, hown, fun _ h => by cases h⟩
  have hlen : ∀ sig, parseMethodDescriptor me2.1.desc = some sig → en2.2.1 = sig.parameters.length + 1 := fun sig h => by
    rw [h] at hpar
    exact (Option.some.inj hpar).symm
  rw [if_neg (by decide)] at hkd
  obtain ⟨a, As, rfl, hcell⟩ := hrc
  rw [← hcls2] at hcell
  exact va_runV (As := As) (n := As.length) hS hMet ⟨⟨hr1, hr2, hr3, hr4, hws, List.mem_cons_self, hcodeB, hiniB, hnm, (fun sig h => by have := hlen sig h; rw [← hAl, List.length_cons] at this; omega), zword (args := args) hK hw rfl⟩, zword (args := args) hK hkd rfl, zword (args := args) hK (hsel rfl) rfl⟩ ⟨hbl, hcell, hpre⟩ rfl rfl hsz (by rw [hsA, List.reverse_cons, List.append_assoc]; rfl) (lv_room hrw) hd hcs
theorem zrow_vN {p : Program} {l : Launch} {e : Env} {R : Room} {s : State} {mt : MethodId} {args : Array Value} {below : List Frame} {meth : Method} {c : Code} {X : zCx} {nL pc idx cells slots : Nat} {H : Heap} {locs : List Loc} {lsA : Array Slot} {stA rest AsV : List Value} {own : String} {cc : ByteArray} {en2 : zEn} {me2 : zMe} {rm : Room} {Pc : Array Value → State → Prop} {K : zW → List Nat → zM → Prop}
    (hexec : p.tables.exec = Jvm.exec) (hb : c.code = cc) (hml : c.maxLocals = nL) (hown : s.vm.findClass own = some mt.cls) (hK : zKn X s) (hw : Cond.methodLinkNest own idx me2.1 "HornBraider" ∈ lw_tbl) (hcls2 : me2.1.cls = me2.2.2.2) (hKi : zKi 0 en2 me2)
    (hsA : stA = AsV.reverse ++ rest) (hAl : AsV.length = en2.2.1) (hrw : (rest.map fun v => v.category).sum ≤ 8) (hMet : Met l me2.1 [Cond.code me2.1 me2.2.1 en2.2.2.1 me2.2.2.1] rm Pc (zQc X K) en2.2.2.2.2.2.1 en2.2.2.2.2.2.2.1 (fun q => zbs X ≤ q)) (hr1 : rm.cells = en2.2.2.2.2.2.1) (hr2 : rm.slots = en2.2.2.2.2.2.2.1) (hr3 : rm.frames + 1 ≤ R.frames) (hr4 : 8 + (en2.2.2.1 + 11) + rm.locals ≤ R.locals) (hbl : FrameBlind Pc) (hpre : ∀ U : State, U.heap = H → s.WarmedH U.vm → Pc AsV.toArray U) (hrc : ∃ (a : Addr) (As : List Value), AsV = .ref a :: As ∧ ∃ cellB : Cell, H[a]? = some cellB ∧ cellB.vm.isStatics = false ∧ s.vm.findClass me2.2.2.2 = some cellB.cls)
    (hcs : cells + en2.2.2.2.2.2.1 ≤ R.cells ∧ slots + en2.2.2.2.2.2.2.1 ≤ R.slots) (hsz : lsA.size = nL) (hd : decode cc pc = .ok (.invokevirtual idx, 3)) : va_Run p l e R s mt args below meth c H locs cells slots en2.2.2.2.2.2.1 en2.2.2.2.2.2.2.1 (F0 mt pc lsA stA) rest (zQc X K AsV.toArray) (fun q => zbs X ≤ q) := by
  obtain ⟨-, hg12, hgw2⟩ := hKi
  rcases hgw2 with z | ⟨hnm, hcode, hini, hkd, hsel, hpar⟩
  · exact absurd z (by decide)
  have hcodeB := zword (args := args) hK hcode rfl
  have hiniB := zword (args := args) hK hini rfl
  have hws : ∀ w ∈ [Cond.code me2.1 me2.2.1 en2.2.2.1 me2.2.2.1], ∀ (a' : Array Value) (U : State), s.WarmedH U.vm → w.before a' U = true := fun w hw a' U hW => by
    rw [List.mem_singleton] at hw
    rw [hw]
    exact (hK.warm hW).1 _ hcode rfl a'
  have hS : CallFix p mt c cc nL s args [] own := ⟨hexec, hb, hml, hown, fun _ h => by cases h⟩
  have hlen : ∀ sig, parseMethodDescriptor me2.1.desc = some sig → en2.2.1 = sig.parameters.length + 1 := fun sig h => by
    rw [h] at hpar
    exact (Option.some.inj hpar).symm
  rw [if_neg (by decide)] at hkd
  obtain ⟨a, As, rfl, hcell⟩ := hrc
  rw [← hcls2] at hcell
  exact va_runVN (As := As) (n := As.length) hS hMet ⟨⟨⟨hr1, hr2, hr3, hr4, hws, List.mem_cons_self⟩, hcodeB, hiniB, hnm, (fun sig h => by have := hlen sig h; rw [← hAl, List.length_cons] at this; omega), zword (args := args) hK hw rfl⟩, zword (args := args) hK hkd rfl, zword (args := args) hK (hsel rfl) rfl⟩ ⟨hbl, hcell, hpre⟩ rfl rfl hsz (by rw [hsA, List.reverse_cons, List.append_assoc]; rfl) (lv_room hrw) hd hcs
theorem zrow_i {p : Program} {l : Launch} {e : Env} {R : Room} {s : State} {mt : MethodId} {args : Array Value} {below : List Frame} {meth : Method} {c : Code} {X : zCx} {nL pc idx cells slots : Nat} {H : Heap} {locs : List Loc} {lsA : Array Slot} {stA rest AsV : List Value} {own : String} {cc : ByteArray} {en2 : zEn} {me2 : zMe} {rm : Room} {Pc : Array Value → State → Prop} {K : zW → List Nat → zM → Prop}
    (hexec : p.tables.exec = Jvm.exec) (hb : c.code = cc) (hml : c.maxLocals = nL) (hown : s.vm.findClass own = some mt.cls) (hK : zKn X s) (hw : Cond.methodLink own idx me2.1 ∈ lw_tbl) (hcls2 : me2.1.cls = me2.2.2.2) (hKi : zKi 1 en2 me2)
    (hsA : stA = AsV.reverse ++ rest) (hAl : AsV.length = en2.2.1) (hrw : (rest.map fun v => v.category).sum ≤ 8) (hMet : Met l me2.1 [Cond.code me2.1 me2.2.1 en2.2.2.1 me2.2.2.1] rm Pc (zQc X K) en2.2.2.2.2.2.1 en2.2.2.2.2.2.2.1 (fun q => zbs X ≤ q)) (hr1 : rm.cells = en2.2.2.2.2.2.1) (hr2 : rm.slots = en2.2.2.2.2.2.2.1) (hr3 : rm.frames + 1 ≤ R.frames) (hr4 : 8 + (en2.2.2.1 + 11) + rm.locals ≤ R.locals) (hbl : FrameBlind Pc) (hpre : ∀ U : State, U.heap = H → s.WarmedH U.vm → Pc AsV.toArray U) (hrc : ∃ (a : Addr) (As : List Value), AsV = .ref a :: As ∧ ∃ cellB : Cell, H[a]? = some cellB ∧ cellB.vm.isStatics = false ∧ s.vm.findClass me2.2.2.2 = some cellB.cls)
    (hcs : cells + en2.2.2.2.2.2.1 ≤ R.cells ∧ slots + en2.2.2.2.2.2.2.1 ≤ R.slots) (hsz : lsA.size = nL) (hd : decode cc pc = .ok (.invokespecial idx, 3)) : va_Run p l e R s mt args below meth c H locs cells slots en2.2.2.2.2.2.1 en2.2.2.2.2.2.2.1 (F0 mt pc lsA stA) rest (zQc X K AsV.toArray) (fun q => zbs X ≤ q) := by
  obtain ⟨-, hg12, hgw2⟩ := hKi
  rcases hgw2 with z | ⟨hnm, hcode, hini, hkd, hsel, hpar⟩
  · exact absurd z (by decide)
  have hcodeB := zword (args := args) hK hcode rfl
  have hiniB := zword (args := args) hK hini rfl
  have hws : ∀ w ∈ [Cond.code me2.1 me2.2.1 en2.2.2.1 me2.2.2.1], ∀ (a' : Array Value) (U : State), s.WarmedH U.vm → w.before a' U = true := fun w hw a' U hW => by
    rw [List.mem_singleton] at hw
    rw [hw]
    exact (hK.warm hW).1 _ hcode rfl a'
  have hS : CallFix p mt c cc nL s args [] own := ⟨hexec, hb, hml, hown, fun _ h => by cases h⟩
  have hlen : ∀ sig, parseMethodDescriptor me2.1.desc = some sig → en2.2.1 = sig.parameters.length + 1 := fun sig h => by
    rw [h] at hpar
    exact (Option.some.inj hpar).symm
  rw [if_neg (by decide)] at hkd
  obtain ⟨hnmI, hretI⟩ := hg12 rfl
  rw [hretI] at hMet hcodeB hws
  obtain ⟨b, As, rfl, hcell⟩ := hrc
  exact va_runI (b := b) (As := As) (n := As.length) hS hMet ⟨⟨hr1, hr2, hr3, hr4, hws, List.mem_cons_self, hcodeB, hiniB, hnm, (fun sig h => by have := hlen sig h; rw [← hAl, List.length_cons] at this; omega), zword (args := args) hK hw rfl⟩, hnmI, zword (args := args) hK hkd rfl⟩ ⟨hbl, hpre⟩ rfl rfl hsz (by rw [hsA, List.reverse_cons, List.append_assoc]; rfl) (lv_room hrw) hd hcs
theorem zrow_iN {p : Program} {l : Launch} {e : Env} {R : Room} {s : State} {mt : MethodId} {args : Array Value} {below : List Frame} {meth : Method} {c : Code} {X : zCx} {nL pc idx cells slots : Nat} {H : Heap} {locs : List Loc} {lsA : Array Slot} {stA rest AsV : List Value} {own : String} {cc : ByteArray} {en2 : zEn} {me2 : zMe} {rm : Room} {Pc : Array Value → State → Prop} {K : zW → List Nat → zM → Prop}
    (hexec : p.tables.exec = Jvm.exec) (hb : c.code = cc) (hml : c.maxLocals = nL) (hown : s.vm.findClass own = some mt.cls) (hK : zKn X s) (hw : Cond.methodLinkNest own idx me2.1 "HornBraider" ∈ lw_tbl) (hcls2 : me2.1.cls = me2.2.2.2) (hKi : zKi 1 en2 me2)
    (hsA : stA = AsV.reverse ++ rest) (hAl : AsV.length = en2.2.1) (hrw : (rest.map fun v => v.category).sum ≤ 8) (hMet : Met l me2.1 [Cond.code me2.1 me2.2.1 en2.2.2.1 me2.2.2.1] rm Pc (zQc X K) en2.2.2.2.2.2.1 en2.2.2.2.2.2.2.1 (fun q => zbs X ≤ q)) (hr1 : rm.cells = en2.2.2.2.2.2.1) (hr2 : rm.slots = en2.2.2.2.2.2.2.1) (hr3 : rm.frames + 1 ≤ R.frames) (hr4 : 8 + (en2.2.2.1 + 11) + rm.locals ≤ R.locals) (hbl : FrameBlind Pc) (hpre : ∀ U : State, U.heap = H → s.WarmedH U.vm → Pc AsV.toArray U) (hrc : ∃ (a : Addr) (As : List Value), AsV = .ref a :: As ∧ ∃ cellB : Cell, H[a]? = some cellB ∧ cellB.vm.isStatics = false ∧ s.vm.findClass me2.2.2.2 = some cellB.cls)
    (hcs : cells + en2.2.2.2.2.2.1 ≤ R.cells ∧ slots + en2.2.2.2.2.2.2.1 ≤ R.slots) (hsz : lsA.size = nL) (hd : decode cc pc = .ok (.invokespecial idx, 3)) : va_Run p l e R s mt args below meth c H locs cells slots en2.2.2.2.2.2.1 en2.2.2.2.2.2.2.1 (F0 mt pc lsA stA) rest (zQc X K AsV.toArray) (fun q => zbs X ≤ q) := by
  obtain ⟨-, hg12, hgw2⟩ := hKi
  rcases hgw2 with z | ⟨hnm, hcode, hini, hkd, hsel, hpar⟩
  · exact absurd z (by decide)
  have hcodeB := zword (args := args) hK hcode rfl
  have hiniB := zword (args := args) hK hini rfl
  have hws : ∀ w ∈ [Cond.code me2.1 me2.2.1 en2.2.2.1 me2.2.2.1], ∀ (a' : Array Value) (U : State), s.WarmedH U.vm → w.before a' U = true := fun w hw a' U hW => by
    rw [List.mem_singleton] at hw
    rw [hw]
    exact (hK.warm hW).1 _ hcode rfl a'
  have hS : CallFix p mt c cc nL s args [] own := ⟨hexec, hb, hml, hown, fun _ h => by cases h⟩
  have hlen : ∀ sig, parseMethodDescriptor me2.1.desc = some sig → en2.2.1 = sig.parameters.length + 1 := fun sig h => by
    rw [h] at hpar
    exact (Option.some.inj hpar).symm
  rw [if_neg (by decide)] at hkd
  obtain ⟨hnmI, hretI⟩ := hg12 rfl
  rw [hretI] at hMet hcodeB hws
  obtain ⟨b, As, rfl, hcell⟩ := hrc
  exact va_runIN (b := b) (As := As) (n := As.length) hS hMet ⟨⟨⟨hr1, hr2, hr3, hr4, hws, List.mem_cons_self⟩, hcodeB, hiniB, hnm, (fun sig h => by have := hlen sig h; rw [← hAl, List.length_cons] at this; omega), zword (args := args) hK hw rfl⟩, hnmI, zword (args := args) hK hkd rfl⟩ ⟨hbl, hpre⟩ rfl rfl hsz (by rw [hsA, List.reverse_cons, List.append_assoc]; rfl) (lv_room hrw) hd hcs
theorem zrow_s {p : Program} {l : Launch} {e : Env} {R : Room} {s : State} {mt : MethodId} {args : Array Value} {below : List Frame} {meth : Method} {c : Code} {X : zCx} {nL pc idx cells slots : Nat} {H : Heap} {locs : List Loc} {lsA : Array Slot} {stA rest AsV : List Value} {own : String} {cc : ByteArray} {en2 : zEn} {me2 : zMe} {rm : Room} {Pc : Array Value → State → Prop} {K : zW → List Nat → zM → Prop}
    (hexec : p.tables.exec = Jvm.exec) (hb : c.code = cc) (hml : c.maxLocals = nL) (hown : s.vm.findClass own = some mt.cls) (hK : zKn X s) (hw : Cond.methodLink own idx me2.1 ∈ lw_tbl) (hcls2 : me2.1.cls = me2.2.2.2) (hKi : zKi 2 en2 me2)
    (hsA : stA = AsV.reverse ++ rest) (hAl : AsV.length = en2.2.1) (hrw : (rest.map fun v => v.category).sum ≤ 8) (hMet : Met l me2.1 [Cond.code me2.1 me2.2.1 en2.2.2.1 me2.2.2.1] rm Pc (zQc X K) en2.2.2.2.2.2.1 en2.2.2.2.2.2.2.1 (fun q => zbs X ≤ q)) (hr1 : rm.cells = en2.2.2.2.2.2.1) (hr2 : rm.slots = en2.2.2.2.2.2.2.1) (hr3 : rm.frames + 1 ≤ R.frames) (hr4 : 8 + (en2.2.2.1 + 11) + rm.locals ≤ R.locals) (hbl : FrameBlind Pc) (hpre : ∀ U : State, U.heap = H → s.WarmedH U.vm → Pc AsV.toArray U)
    (hcs : cells + en2.2.2.2.2.2.1 ≤ R.cells ∧ slots + en2.2.2.2.2.2.2.1 ≤ R.slots) (hsz : lsA.size = nL) (hd : decode cc pc = .ok (.invokestatic idx, 3)) : va_Run p l e R s mt args below meth c H locs cells slots en2.2.2.2.2.2.1 en2.2.2.2.2.2.2.1 (F0 mt pc lsA stA) rest (zQc X K AsV.toArray) (fun q => zbs X ≤ q) := by
  obtain ⟨-, hg12, hgw2⟩ := hKi
  rcases hgw2 with z | ⟨hnm, hcode, hini, hkd, hsel, hpar⟩
  · exact absurd z (by decide)
  have hcodeB := zword (args := args) hK hcode rfl
  have hiniB := zword (args := args) hK hini rfl
  have hws : ∀ w ∈ [Cond.code me2.1 me2.2.1 en2.2.2.1 me2.2.2.1], ∀ (a' : Array Value) (U : State), s.WarmedH U.vm → w.before a' U = true := fun w hw a' U hW => by
    rw [List.mem_singleton] at hw
    rw [hw]
    exact (hK.warm hW).1 _ hcode rfl a'
  have hS : CallFix p mt c cc nL s args [] own := ⟨hexec, hb, hml, hown, fun _ h => by cases h⟩
  have hlen : ∀ sig, parseMethodDescriptor me2.1.desc = some sig → en2.2.1 = sig.parameters.length := fun sig h => by
    rw [h] at hpar
    exact (Option.some.inj hpar).symm
  rw [if_pos rfl] at hkd
  exact va_runS hS hMet ⟨⟨hr1, hr2, hr3, hr4, hws, List.mem_cons_self, hcodeB, hiniB, hnm, hlen, zword (args := args) hK hw rfl⟩, zword (args := args) hK hkd rfl⟩ ⟨hbl, hpre⟩ rfl hAl hsz hsA (lv_room hrw) hd hcs
theorem zrow_sN {p : Program} {l : Launch} {e : Env} {R : Room} {s : State} {mt : MethodId} {args : Array Value} {below : List Frame} {meth : Method} {c : Code} {X : zCx} {nL pc idx cells slots : Nat} {H : Heap} {locs : List Loc} {lsA : Array Slot} {stA rest AsV : List Value} {own : String} {cc : ByteArray} {en2 : zEn} {me2 : zMe} {rm : Room} {Pc : Array Value → State → Prop} {K : zW → List Nat → zM → Prop}
    (hexec : p.tables.exec = Jvm.exec) (hb : c.code = cc) (hml : c.maxLocals = nL) (hown : s.vm.findClass own = some mt.cls) (hK : zKn X s) (hw : Cond.methodLinkNest own idx me2.1 "HornBraider" ∈ lw_tbl) (hcls2 : me2.1.cls = me2.2.2.2) (hKi : zKi 2 en2 me2)
    (hsA : stA = AsV.reverse ++ rest) (hAl : AsV.length = en2.2.1) (hrw : (rest.map fun v => v.category).sum ≤ 8) (hMet : Met l me2.1 [Cond.code me2.1 me2.2.1 en2.2.2.1 me2.2.2.1] rm Pc (zQc X K) en2.2.2.2.2.2.1 en2.2.2.2.2.2.2.1 (fun q => zbs X ≤ q)) (hr1 : rm.cells = en2.2.2.2.2.2.1) (hr2 : rm.slots = en2.2.2.2.2.2.2.1) (hr3 : rm.frames + 1 ≤ R.frames) (hr4 : 8 + (en2.2.2.1 + 11) + rm.locals ≤ R.locals) (hbl : FrameBlind Pc) (hpre : ∀ U : State, U.heap = H → s.WarmedH U.vm → Pc AsV.toArray U)
    (hcs : cells + en2.2.2.2.2.2.1 ≤ R.cells ∧ slots + en2.2.2.2.2.2.2.1 ≤ R.slots) (hsz : lsA.size = nL) (hd : decode cc pc = .ok (.invokestatic idx, 3)) : va_Run p l e R s mt args below meth c H locs cells slots en2.2.2.2.2.2.1 en2.2.2.2.2.2.2.1 (F0 mt pc lsA stA) rest (zQc X K AsV.toArray) (fun q => zbs X ≤ q) := by
  obtain ⟨-, hg12, hgw2⟩ := hKi
  rcases hgw2 with z | ⟨hnm, hcode, hini, hkd, hsel, hpar⟩
  · exact absurd z (by decide)
  have hcodeB := zword (args := args) hK hcode rfl
  have hiniB := zword (args := args) hK hini rfl
  have hws : ∀ w ∈ [Cond.code me2.1 me2.2.1 en2.2.2.1 me2.2.2.1], ∀ (a' : Array Value) (U : State), s.WarmedH U.vm → w.before a' U = true := fun w hw a' U hW => by
    rw [List.mem_singleton] at hw
    rw [hw]
    exact (hK.warm hW).1 _ hcode rfl a'
  have hS : CallFix p mt c cc nL s args [] own := ⟨hexec, hb, hml, hown, fun _ h => by cases h⟩
  have hlen : ∀ sig, parseMethodDescriptor me2.1.desc = some sig → en2.2.1 = sig.parameters.length := fun sig h => by
    rw [h] at hpar
    exact (Option.some.inj hpar).symm
  rw [if_pos rfl] at hkd
  exact va_runSN hS hMet ⟨⟨⟨hr1, hr2, hr3, hr4, hws, List.mem_cons_self⟩, hcodeB, hiniB, hnm, hlen, zword (args := args) hK hw rfl⟩, zword (args := args) hK hkd rfl, trivial⟩ ⟨hbl, hpre⟩ rfl hAl hsz hsA (lv_room hrw) hd hcs
/-- one instruction -/
theorem zstep {p : Program} {l : Launch} {e : Env} {R : Room} {s : State} {mt : MethodId} {args : Array Value} {below : List Frame} {meth : Method} {c : Code} {Q : State → Prop} {X : zCx} {fs : List zFr} {w : zW} {pc nx ax d0 : Nat} {i : Instr} {ls st : List Nat} {q : zQ} {m : zM} {H : Heap} {locs : List Loc} {lsA : Array Slot} {stA : List Value}
    {bt : zW → List Nat → zM → Bool} {stop : zK} {n y0 : Nat} {en : zEn} {me : zMe} (hIH : ∀ k, k < n + 1 → zMain l bt (zLn X) stop k) (hst : ∀ w cf y pc ls st q f fs m, stop w cf y pc ls st q (f :: fs) m = false) (hOK : zOK y0 en me) (hC : zCt X en me d0 p R s mt meth c)
    (hKSa : ∀ k, k ≤ n → zKS p l e R s mt args below meth c Q X en.1 en.2.2.2.2 fs en.2.2.1 (d0, en.2.2.2.2.2.1, en.2.2.2.2.2.2.1) (zok bt (zLn X) stop k)) (hHr : zHr bt (zLn X) stop (n + 1) X en me fs p l e R s mt args below meth c Q) (hrow : i = .nop ∨ zrowP me pc (i, nx, ax))
    (h : zop bt (zLn X) i nx ax (zok bt (zLn X) stop n) w en.1 en.2.2.2.2 pc ls st q fs m = true) (hR : zRl X s en.2.2.1 (d0, en.2.2.2.2.2.1, en.2.2.2.2.2.2.1) w ls st q m H locs lsA stA) : W p l e R s mt args below meth c H locs q.2.1 q.2.2 Q (F0 mt pc lsA stA) := by
  rcases hrow with hn | ⟨hlen, hdec, pp, hlk⟩
  · subst hn
    exact absurd (show false = true from h) (by decide)
  have hKS := hKSa n (Nat.le_refl n)
  obtain ⟨hexec, hb, hml, hown, hK, hin, hfr, hlo, hmc, hms⟩ := hC
  obtain ⟨-, -, hrk, hcn, -, -, -, g, hing, -, -⟩ := hOK
  have hinC : ¬ en.2.2.2.2.2.2.2.2 = 0 → me.2.2.2 = zcn (en.2.2.2.2.2.2.2.2 - 1) := by
    intro z
    have e1 : en.2.2.2.2.2.2.2.2 = en.2.2.2.1 + 1 := by
      by_cases hg : g = 1
      · rw [if_pos hg] at hing
        exact hing
      · rw [if_neg hg] at hing
        exact absurd hing z
    rw [e1, Nat.add_sub_cancel, hcn]
  dsimp only at hlen hdec hlk
  cases i with
  | aaload => exact absurd (show false = true from h) (by decide)
  | aastore => exact absurd (show false = true from h) (by decide)
  | aconst_null => exact absurd (show false = true from h) (by decide)
  | aload v =>
    obtain ⟨hnx, hd⟩ := zdec (k := 2) rfl (by decide) hlen hdec
    subst hnx
    exact zw_load (ax := ax) hKS h hR (fun x hx k0 k1 k2 kk => by obtain ⟨z, rfl⟩ := k2 rfl; exact lv_aload hexec hb hd hx kk)
  | aload_n v =>
    obtain ⟨hnx, hd⟩ := zdec (k := 1) rfl (by decide) hlen hdec
    subst hnx
    exact zw_load (ax := ax) hKS h hR (fun x hx k0 k1 k2 kk => by obtain ⟨z, rfl⟩ := k2 rfl; exact lv_aload_n hexec hb hd rfl hx kk)
  | anewarray _ => exact absurd (show false = true from h) (by decide)
  | areturn => exact absurd (show false = true from h) (by decide)
  | arraylength =>
    obtain ⟨hnx, hd⟩ := zdec (k := 1) rfl (by decide) hlen hdec
    subst hnx
    exact zw_alen (ax := ax) hexec hb hK hd rfl hKS h hR
  | astore v =>
    obtain ⟨hnx, hd⟩ := zdec (k := 2) rfl (by decide) hlen hdec
    subst hnx
    exact zw_store (ax := ax) (by decide) hKS h hR (fun x r hs hi k0 k2 kk => by obtain ⟨z, rfl⟩ := k2 rfl; subst hs; exact lv_astore hexec hb hd (zlv_has hR.2.2.2.1) hi rfl kk)
  | astore_n v =>
    obtain ⟨hnx, hd⟩ := zdec (k := 1) rfl (by decide) hlen hdec
    subst hnx
    exact zw_store (ax := ax) (by decide) hKS h hR (fun x r hs hi k0 k2 kk => by obtain ⟨z, rfl⟩ := k2 rfl; subst hs; exact lv_astore_n hexec hb hd rfl (zlv_has hR.2.2.2.1) hi rfl kk)
  | athrow => exact absurd (show false = true from h) (by decide)
  | baload =>
    obtain ⟨hnx, hd⟩ := zdec (k := 1) rfl (by decide) hlen hdec
    subst hnx
    exact zw_ald (ax := ax) (by decide) (by decide) hK hKS h hR (fun g ty a cell j v r hg hty hc ha hv hi hx kk => by
      rcases hg with rfl | rfl
      · cases hty; exact W.bald hexec hb hc ha hv hi hx rfl rfl hd kk
      · cases hty; exact W.zald hexec hb hc ha hv hi hx rfl rfl hd kk)
  | bastore =>
    obtain ⟨hnx, hd⟩ := zdec (k := 1) rfl (by decide) hlen hdec
    subst hnx
    exact zw_ast (ax := ax) hKS h hR (fun g ty a cell j x x2 r hg hty hst2 hc ha hv hi kk => by
      rcases hg with rfl | rfl
      · cases hty
        rcases hst2 with ⟨z, hst2⟩ | ⟨z, hst2⟩ | ⟨z, hst2⟩ | ⟨z, hst2⟩ <;> first | (exfalso; omega) | (obtain ⟨u, rfl, rfl⟩ := hst2; exact W.bast hexec hb hc ha hv hi rfl rfl hd kk)
      · cases hty
        rcases hst2 with ⟨z, hst2⟩ | ⟨z, hst2⟩ | ⟨z, hst2⟩ | ⟨z, hst2⟩ <;> first | (exfalso; omega) | (obtain ⟨u, rfl, rfl⟩ := hst2; exact W.zast hexec hb hc ha hv hi rfl rfl hd kk))
  | bipush v =>
    obtain ⟨hnx, hd⟩ := zdec (k := 2) rfl (by decide) hlen hdec
    subst hnx
    exact zw_push (ax := ax) hKS h hR (zv_mkx (Int8.ofInt v).toInt32) (fun kk => lv_bipush hexec hb hd rfl kk)
  | caload => exact absurd (show false = true from h) (by decide)
  | castore => exact absurd (show false = true from h) (by decide)
  | checkcast _ => exact absurd (show false = true from h) (by decide)
  | d2f => exact absurd (show false = true from h) (by decide)
  | d2i => exact absurd (show false = true from h) (by decide)
  | d2l => exact absurd (show false = true from h) (by decide)
  | dadd => exact absurd (show false = true from h) (by decide)
  | daload => exact absurd (show false = true from h) (by decide)
  | dastore => exact absurd (show false = true from h) (by decide)
  | dcmp _ => exact absurd (show false = true from h) (by decide)
  | dconst _ => exact absurd (show false = true from h) (by decide)
  | ddiv => exact absurd (show false = true from h) (by decide)
  | dload _ => exact absurd (show false = true from h) (by decide)
  | dload_n _ => exact absurd (show false = true from h) (by decide)
  | dmul => exact absurd (show false = true from h) (by decide)
  | dneg => exact absurd (show false = true from h) (by decide)
  | drem => exact absurd (show false = true from h) (by decide)
  | dreturn => exact absurd (show false = true from h) (by decide)
  | dstore _ => exact absurd (show false = true from h) (by decide)
  | dstore_n _ => exact absurd (show false = true from h) (by decide)
  | dsub => exact absurd (show false = true from h) (by decide)
  | dup =>
    obtain ⟨hnx, hd⟩ := zdec (k := 1) rfl (by decide) hlen hdec
    subst hnx
    exact zw_dup (ax := ax) hKS h hR (fun x r hs hc kk => by subst hs; exact lv_dup hexec hb hd hc kk)
  | dup_x1 => exact absurd (show false = true from h) (by decide)
  | dup_x2 => exact absurd (show false = true from h) (by decide)
  | dup2 =>
    obtain ⟨hnx, hd⟩ := zdec (k := 1) rfl (by decide) hlen hdec
    subst hnx
    exact zw_dup2 (ax := ax) hKS h hR (fun x z r hs hc hc2 kk => by subst hs; exact lv_dup2_11 hexec hb hd hc hc2 kk)
  | dup2_x1 => exact absurd (show false = true from h) (by decide)
  | dup2_x2 => exact absurd (show false = true from h) (by decide)
  | f2d => exact absurd (show false = true from h) (by decide)
  | f2i => exact absurd (show false = true from h) (by decide)
  | f2l => exact absurd (show false = true from h) (by decide)
  | fadd => exact absurd (show false = true from h) (by decide)
  | faload => exact absurd (show false = true from h) (by decide)
  | fastore => exact absurd (show false = true from h) (by decide)
  | fcmp _ => exact absurd (show false = true from h) (by decide)
  | fconst _ => exact absurd (show false = true from h) (by decide)
  | fdiv => exact absurd (show false = true from h) (by decide)
  | fload _ => exact absurd (show false = true from h) (by decide)
  | fload_n _ => exact absurd (show false = true from h) (by decide)
  | fmul => exact absurd (show false = true from h) (by decide)
  | fneg => exact absurd (show false = true from h) (by decide)
  | frem => exact absurd (show false = true from h) (by decide)
  | freturn => exact absurd (show false = true from h) (by decide)
  | fstore _ => exact absurd (show false = true from h) (by decide)
  | fstore_n _ => exact absurd (show false = true from h) (by decide)
  | fsub => exact absurd (show false = true from h) (by decide)
  | getfield ix =>
    obtain ⟨hnx, hd⟩ := zdec (k := 3) rfl (by decide) hlen hdec
    subst hnx
    exact zw_getf (ax := ax) hexec hb hown hK hlk hd rfl hKS h hR
  | getstatic ix =>
    obtain ⟨hnx, hd⟩ := zdec (k := 3) rfl (by decide) hlen hdec
    subst hnx
    exact zw_gets (ax := ax) hexec hb hown hK hlk hd rfl hKS h hR
  | goto o =>
    obtain ⟨hnx, hd⟩ := zdec (k := 3) rfl (by decide) hlen hdec
    subst hnx
    exact zw_goto (ax := ax) (nx := pc + 3) hKS h hR (fun kk => lv_goto hexec hb hd (of_decide_eq_true hlk) kk)
  | goto_w _ => exact absurd (show false = true from h) (by decide)
  | i2b =>
    obtain ⟨hnx, hd⟩ := zdec (k := 1) rfl (by decide) hlen hdec
    subst hnx
    exact zw_un (ax := ax) (F := fun x => .int x.toInt8.toInt32) (fun u => zv_mkx _) (fun _ x => ⟨_, rfl⟩) hKS h hR (fun x r hs kk => by subst hs; exact lv_i2b hexec hb hd rfl kk)
  | i2c =>
    obtain ⟨hnx, hd⟩ := zdec (k := 1) rfl (by decide) hlen hdec
    subst hnx
    exact zw_un (ax := ax) (F := fun x => .int (x.toUInt32 % 65536).toInt32) (fun u => zv_mkx _) (fun z => absurd z (by decide)) hKS h hR (fun x r hs kk => by subst hs; exact lv_i2c hexec hb hd rfl kk)
  | i2d => exact absurd (show false = true from h) (by decide)
  | i2f => exact absurd (show false = true from h) (by decide)
  | i2l =>
    obtain ⟨hnx, hd⟩ := zdec (k := 1) rfl (by decide) hlen hdec
    subst hnx
    exact zw_un (ax := ax) (F := fun x => .long x.toInt64) (fun u => zv_mklx _) (fun z => absurd z (by decide)) hKS h hR (fun x r hs kk => by subst hs; exact lv_i2l hexec hb hd rfl kk)
  | i2s => exact absurd (show false = true from h) (by decide)
  | iadd =>
    obtain ⟨hnx, hd⟩ := zdec (k := 1) rfl (by decide) hlen hdec
    subst hnx
    exact zw_bin (ax := ax) zf_add_ok zAbs_1 hKS h hR (fun x z r hs kk => by subst hs; exact lv_iadd hexec hb hd kk)
  | iaload =>
    obtain ⟨hnx, hd⟩ := zdec (k := 1) rfl (by decide) hlen hdec
    subst hnx
    exact zw_ald (ax := ax) (by decide) (by decide) hK hKS h hR (fun g ty a cell j v r hg hty hc ha hv hi hx kk => by
      rcases hg with rfl | rfl
      · cases hty; exact W.iald hexec hb hc ha hv hi hx rfl rfl hd kk
      · cases hty; exact W.iald hexec hb hc ha hv hi hx rfl rfl hd kk)
  | iand =>
    obtain ⟨hnx, hd⟩ := zdec (k := 1) rfl (by decide) hlen hdec
    subst hnx
    exact zw_bin (ax := ax) zf_and_ok zAbs_4 hKS h hR (fun x z r hs kk => by subst hs; exact lv_iand hexec hb hd kk)
  | iastore =>
    obtain ⟨hnx, hd⟩ := zdec (k := 1) rfl (by decide) hlen hdec
    subst hnx
    exact zw_ast (ax := ax) hKS h hR (fun g ty a cell j x x2 r hg hty hst2 hc ha hv hi kk => by
      rcases hg with rfl | rfl
      · cases hty
        rcases hst2 with ⟨z, hst2⟩ | ⟨z, hst2⟩ | ⟨z, hst2⟩ | ⟨z, hst2⟩ <;> first | (exfalso; omega) | (obtain ⟨u, rfl, rfl⟩ := hst2; exact W.iast hexec hb hc ha hv hi rfl rfl hd kk)
      · cases hty
        rcases hst2 with ⟨z, hst2⟩ | ⟨z, hst2⟩ | ⟨z, hst2⟩ | ⟨z, hst2⟩ <;> first | (exfalso; omega) | (obtain ⟨u, rfl, rfl⟩ := hst2; exact W.iast hexec hb hc ha hv hi rfl rfl hd kk))
  | iconst v =>
    obtain ⟨hnx, hd⟩ := zdec (k := 1) rfl (by decide) hlen hdec
    subst hnx
    exact zw_push (ax := ax) hKS h hR (zv_mkx (Int32.ofInt v)) (fun kk => lv_iconst hexec hb hd rfl kk)
  | idiv =>
    obtain ⟨hnx, hd⟩ := zdec (k := 1) rfl (by decide) hlen hdec
    subst hnx
    exact zw_div (ax := ax) (zf_32_ok _) (zAbs_0 _) (Or.inr rfl) hKS h hR (fun x z r hs hz kk => by subst hs; exact lv_idiv hexec hb hd hz kk)
  | if_acmp _ _ => exact absurd (show false = true from h) (by decide)
  | if_icmp cnd o =>
    obtain ⟨hnx, hd⟩ := zdec (k := 3) rfl (by decide) hlen hdec
    subst hnx
    cases cnd with
    | eq => exact zw_cmp (ax := ax) hKS h hR (fun x z0 r hs kt kf => by subst hs; simp only [reduceIte, Bool.false_eq_true] at kt kf; exact lv_icmp_eq hexec hb hd (of_decide_eq_true hlk) (fun z => kt z) (fun z => kf z))
    | ne => exact zw_cmp (ax := ax) hKS h hR (fun x z0 r hs kt kf => by subst hs; simp only [reduceIte, Bool.false_eq_true] at kt kf; exact lv_icmp_ne hexec hb hd (of_decide_eq_true hlk) (fun z => kf z) (fun z => kt z))
    | lt => exact zw_cmp (ax := ax) hKS h hR (fun x z0 r hs kt kf => by subst hs; simp only [reduceIte, Bool.false_eq_true] at kt kf; exact lv_icmp_lt hexec hb hd (of_decide_eq_true hlk) (fun z => kt z) (fun z => kf z))
    | ge => exact zw_cmp (ax := ax) hKS h hR (fun x z0 r hs kt kf => by subst hs; simp only [reduceIte, Bool.false_eq_true] at kt kf; exact lv_icmp_ge hexec hb hd (of_decide_eq_true hlk) (fun z => kf (Int32.not_lt.mpr z)) (fun z => kt (Int32.not_le.mp z)))
    | gt => exact zw_cmp (ax := ax) hKS h hR (fun x z0 r hs kt kf => by subst hs; simp only [reduceIte, Bool.false_eq_true] at kt kf; exact lv_icmp_gt hexec hb hd (of_decide_eq_true hlk) (fun z => kt z) (fun z => kf z))
    | le => exact zw_cmp (ax := ax) hKS h hR (fun x z0 r hs kt kf => by subst hs; simp only [reduceIte, Bool.false_eq_true] at kt kf; exact lv_icmp_le hexec hb hd (of_decide_eq_true hlk) (fun z => kf (Int32.not_lt.mpr z)) (fun z => kt (Int32.not_le.mp z)))
  | ifCond cnd o =>
    obtain ⟨hnx, hd⟩ := zdec (k := 3) rfl (by decide) hlen hdec
    subst hnx
    cases cnd with
    | eq => exact zw_cmp0 (ax := ax) hKS h hR (fun x r hs kt kf => by subst hs; simp only [reduceIte, Bool.false_eq_true] at kt kf; exact lv_if_eq hexec hb hd (of_decide_eq_true hlk) (fun z => kt z) (fun z => kf z))
    | ne => exact zw_cmp0 (ax := ax) hKS h hR (fun x r hs kt kf => by subst hs; simp only [reduceIte, Bool.false_eq_true] at kt kf; exact lv_if_ne hexec hb hd (of_decide_eq_true hlk) (fun z => kf z) (fun z => kt z))
    | lt => exact zw_cmp0 (ax := ax) hKS h hR (fun x r hs kt kf => by subst hs; simp only [reduceIte, Bool.false_eq_true] at kt kf; exact lv_if_lt hexec hb hd (of_decide_eq_true hlk) (fun z => kt z) (fun z => kf z))
    | ge => exact zw_cmp0 (ax := ax) hKS h hR (fun x r hs kt kf => by subst hs; simp only [reduceIte, Bool.false_eq_true] at kt kf; exact lv_if_ge hexec hb hd (of_decide_eq_true hlk) (fun z => kf (Int32.not_lt.mpr z)) (fun z => kt (Int32.not_le.mp z)))
    | gt => exact zw_cmp0 (ax := ax) hKS h hR (fun x r hs kt kf => by subst hs; simp only [reduceIte, Bool.false_eq_true] at kt kf; exact lv_if_gt hexec hb hd (of_decide_eq_true hlk) (fun z => kt z) (fun z => kf z))
    | le => exact zw_cmp0 (ax := ax) hKS h hR (fun x r hs kt kf => by subst hs; simp only [reduceIte, Bool.false_eq_true] at kt kf; exact lv_if_le hexec hb hd (of_decide_eq_true hlk) (fun z => kf (Int32.not_lt.mpr z)) (fun z => kt (Int32.not_le.mp z)))
  | ifnonnull _ => exact absurd (show false = true from h) (by decide)
  | ifnull _ => exact absurd (show false = true from h) (by decide)
  | iinc v z =>
    obtain ⟨hnx, hd⟩ := zdec (k := 3) rfl (by decide) hlen hdec
    subst hnx
    exact zw_iinc (ax := ax) hKS h hR (fun x hx hi kk => by
      obtain ⟨j, hj⟩ := List.getElem?_of_mem (zlv_mem.mpr hx)
      exact lv_iinc hexec hb hd (zlv_has hR.2.2.2.1) hj (by rw [zN_self]) hi rfl kk)
  | iload v =>
    obtain ⟨hnx, hd⟩ := zdec (k := 2) rfl (by decide) hlen hdec
    subst hnx
    exact zw_load (ax := ax) hKS h hR (fun x hx k0 k1 k2 kk => by obtain ⟨z, rfl⟩ := k0 rfl; exact lv_iload hexec hb hd hx kk)
  | iload_n v =>
    obtain ⟨hnx, hd⟩ := zdec (k := 1) rfl (by decide) hlen hdec
    subst hnx
    exact zw_load (ax := ax) hKS h hR (fun x hx k0 k1 k2 kk => by obtain ⟨z, rfl⟩ := k0 rfl; exact lv_iload_n hexec hb hd rfl hx kk)
  | imul =>
    obtain ⟨hnx, hd⟩ := zdec (k := 1) rfl (by decide) hlen hdec
    subst hnx
    exact zw_bin (ax := ax) zf_mul_ok (zAbs_3 _) hKS h hR (fun x z r hs kk => by subst hs; exact lv_imul hexec hb hd kk)
  | ineg =>
    obtain ⟨hnx, hd⟩ := zdec (k := 1) rfl (by decide) hlen hdec
    subst hnx
    exact zw_un (ax := ax) (F := fun x => .int (-x)) (fun u => zv_mkx _) (fun z => absurd z (by decide)) hKS h hR (fun x r hs kk => by subst hs; exact lv_ineg hexec hb hd kk)
  | instanceof _ => exact absurd (show false = true from h) (by decide)
  | invokedynamic _ => exact absurd (show false = true from h) (by decide)
  | invokeinterface _ _ => exact absurd (show false = true from h) (by decide)
  | invokespecial ix =>
    obtain ⟨hnx, hd⟩ := zdec (k := 3) rfl (by decide) hlen hdec
    subst hnx
    unfold zlk at hlk
    rw [Bool.or_eq_true] at hlk
    rcases hlk with hlk | hlk
    · rw [Bool.and_eq_true, decide_eq_true_eq, decide_eq_true_eq] at hlk
      obtain ⟨e31, hlk⟩ := hlk
      subst e31
      exact zw_obj (ax := 31) (nx := pc + 3) hexec hb hml hown hK hlk hfr hlo hd rfl hKS h hR
    · have hlk2 : zlc me.2.2.2 ix ax pp 2 = true := hlk
      unfold zlc at hlk2
      cases hme2 : zG zMeth (ax / 16) with
      | none => rw [hme2] at hlk2; cases hlk2
      | some me2 =>
        rw [hme2] at hlk2
        simp only [Bool.or_eq_true, Bool.and_eq_true, decide_eq_true_eq] at hlk2
        rcases hlk2 with ⟨hkd, hw⟩ | ⟨hkd, hw⟩
        · have h2 : zcall (ax / 16) 1 (pc + 3) ax (zok bt (zLn X) stop n) w en.1 en.2.2.2.2 pc ls st q fs m = true := zinv_k (kd := 1) (by omega) (by omega) h
          refine zw_call hIH hst rfl hK hfr hlo hmc hms rfl rfl rfl hKSa h2 hR (fun en2 me3 AsV rest rm Pc K hm3 hO2 hKi hsA hAl hrw hMet hr1 hr2 hr3 hr4 hbl hpre hrc hcs => ?_)
          rw [hme2] at hm3
          cases hm3
          have hcls2 := hO2.2.2.2.2.1
          exact zrow_i hexec hb hml hown hK (zwd_mem hw) hcls2 hKi hsA hAl hrw hMet hr1 hr2 hr3 hr4 hbl hpre (hrc (by decide)) hcs hR.2.2.2.1.2.1 hd
        · have h2 : zcall (ax / 16) 1 (pc + 3) ax (zok bt (zLn X) stop n) w en.1 en.2.2.2.2 pc ls st q fs m = true := zinv_k (kd := 1) (by omega) (by omega) h
          refine zw_call hIH hst rfl hK hfr hlo hmc hms rfl rfl rfl hKSa h2 hR (fun en2 me3 AsV rest rm Pc K hm3 hO2 hKi hsA hAl hrw hMet hr1 hr2 hr3 hr4 hbl hpre hrc hcs => ?_)
          rw [hme2] at hm3
          cases hm3
          have hcls2 := hO2.2.2.2.2.1
          exact zrow_iN hexec hb hml hown hK (zwd_mem hw) hcls2 hKi hsA hAl hrw hMet hr1 hr2 hr3 hr4 hbl hpre (hrc (by decide)) hcs hR.2.2.2.1.2.1 hd
  | invokestatic ix =>
    obtain ⟨hnx, hd⟩ := zdec (k := 3) rfl (by decide) hlen hdec
    subst hnx
    have hlk2 : zlc me.2.2.2 ix ax pp 4 = true := hlk
    unfold zlc at hlk2
    cases hme2 : zG zMeth (ax / 16) with
    | none => rw [hme2] at hlk2; cases hlk2
    | some me2 =>
      rw [hme2] at hlk2
      simp only [Bool.or_eq_true, Bool.and_eq_true, decide_eq_true_eq] at hlk2
      rcases hlk2 with ⟨hkd, hw⟩ | ⟨hkd, hw⟩
      · have h2 : zcall (ax / 16) 2 (pc + 3) ax (zok bt (zLn X) stop n) w en.1 en.2.2.2.2 pc ls st q fs m = true := zinv_k (kd := 2) (by omega) (by omega) h
        refine zw_call hIH hst rfl hK hfr hlo hmc hms rfl rfl rfl hKSa h2 hR (fun en2 me3 AsV rest rm Pc K hm3 hO2 hKi hsA hAl hrw hMet hr1 hr2 hr3 hr4 hbl hpre hrc hcs => ?_)
        rw [hme2] at hm3
        cases hm3
        have hcls2 := hO2.2.2.2.2.1
        exact zrow_s hexec hb hml hown hK (zwd_mem hw) hcls2 hKi hsA hAl hrw hMet hr1 hr2 hr3 hr4 hbl hpre hcs hR.2.2.2.1.2.1 hd
      · have h2 : zcall (ax / 16) 2 (pc + 3) ax (zok bt (zLn X) stop n) w en.1 en.2.2.2.2 pc ls st q fs m = true := zinv_k (kd := 2) (by omega) (by omega) h
        refine zw_call hIH hst rfl hK hfr hlo hmc hms rfl rfl rfl hKSa h2 hR (fun en2 me3 AsV rest rm Pc K hm3 hO2 hKi hsA hAl hrw hMet hr1 hr2 hr3 hr4 hbl hpre hrc hcs => ?_)
        rw [hme2] at hm3
        cases hm3
        have hcls2 := hO2.2.2.2.2.1
        exact zrow_sN hexec hb hml hown hK (zwd_mem hw) hcls2 hKi hsA hAl hrw hMet hr1 hr2 hr3 hr4 hbl hpre hcs hR.2.2.2.1.2.1 hd
  | invokevirtual ix =>
    obtain ⟨hnx, hd⟩ := zdec (k := 3) rfl (by decide) hlen hdec
    subst hnx
    have hlk2 : zlc me.2.2.2 ix ax pp 0 = true := hlk
    unfold zlc at hlk2
    cases hme2 : zG zMeth (ax / 16) with
    | none => rw [hme2] at hlk2; cases hlk2
    | some me2 =>
      rw [hme2] at hlk2
      simp only [Bool.or_eq_true, Bool.and_eq_true, decide_eq_true_eq] at hlk2
      rcases hlk2 with ⟨hkd, hw⟩ | ⟨hkd, hw⟩
      · have h2 : zcall (ax / 16) 0 (pc + 3) ax (zok bt (zLn X) stop n) w en.1 en.2.2.2.2 pc ls st q fs m = true := zinv_k (kd := 0) (by omega) (by omega) h
        refine zw_call hIH hst rfl hK hfr hlo hmc hms rfl rfl rfl hKSa h2 hR (fun en2 me3 AsV rest rm Pc K hm3 hO2 hKi hsA hAl hrw hMet hr1 hr2 hr3 hr4 hbl hpre hrc hcs => ?_)
        rw [hme2] at hm3
        cases hm3
        have hcls2 := hO2.2.2.2.2.1
        exact zrow_v hexec hb hml hown hK (zwd_mem hw) hcls2 hKi hsA hAl hrw hMet hr1 hr2 hr3 hr4 hbl hpre (hrc (by decide)) hcs hR.2.2.2.1.2.1 hd
      · have h2 : zcall (ax / 16) 0 (pc + 3) ax (zok bt (zLn X) stop n) w en.1 en.2.2.2.2 pc ls st q fs m = true := zinv_k (kd := 0) (by omega) (by omega) h
        refine zw_call hIH hst rfl hK hfr hlo hmc hms rfl rfl rfl hKSa h2 hR (fun en2 me3 AsV rest rm Pc K hm3 hO2 hKi hsA hAl hrw hMet hr1 hr2 hr3 hr4 hbl hpre hrc hcs => ?_)
        rw [hme2] at hm3
        cases hm3
        have hcls2 := hO2.2.2.2.2.1
        exact zrow_vN hexec hb hml hown hK (zwd_mem hw) hcls2 hKi hsA hAl hrw hMet hr1 hr2 hr3 hr4 hbl hpre (hrc (by decide)) hcs hR.2.2.2.1.2.1 hd
  | ior =>
    obtain ⟨hnx, hd⟩ := zdec (k := 1) rfl (by decide) hlen hdec
    subst hnx
    exact zw_bin (ax := ax) zf_or_ok (zAbs_3 _) hKS h hR (fun x z r hs kk => by subst hs; exact lv_ior hexec hb hd kk)
  | irem =>
    obtain ⟨hnx, hd⟩ := zdec (k := 1) rfl (by decide) hlen hdec
    subst hnx
    exact zw_div (ax := ax) (zf_32_ok _) zAbs_5 (Or.inl rfl) hKS h hR (fun x z r hs hz kk => by subst hs; exact lv_irem hexec hb hd hz kk)
  | ireturn =>
    obtain ⟨hnx, hd⟩ := zdec (k := 1) rfl (by decide) hlen hdec
    subst hnx
    exact zw_ret (ax := ax) (cf := en.1) (nx := pc + 1) (lg := false) hrk hd hHr rfl rfl h hR
  | ishl =>
    obtain ⟨hnx, hd⟩ := zdec (k := 1) rfl (by decide) hlen hdec
    subst hnx
    exact zw_bin (ax := ax) (zf_32_ok _) (zAbs_3 _) hKS h hR (fun x z r hs kk => by subst hs; exact lv_ishl hexec hb hd kk)
  | ishr =>
    obtain ⟨hnx, hd⟩ := zdec (k := 1) rfl (by decide) hlen hdec
    subst hnx
    exact zw_bin (ax := ax) (zf_32_ok _) (zAbs_3 _) hKS h hR (fun x z r hs kk => by subst hs; exact lv_ishr hexec hb hd kk)
  | istore v =>
    obtain ⟨hnx, hd⟩ := zdec (k := 2) rfl (by decide) hlen hdec
    subst hnx
    exact zw_store (ax := ax) (by decide) hKS h hR (fun x r hs hi k0 k2 kk => by obtain ⟨z, rfl⟩ := k0 rfl; subst hs; exact lv_istore hexec hb hd (zlv_has hR.2.2.2.1) hi rfl kk)
  | istore_n v =>
    obtain ⟨hnx, hd⟩ := zdec (k := 1) rfl (by decide) hlen hdec
    subst hnx
    exact zw_store (ax := ax) (by decide) hKS h hR (fun x r hs hi k0 k2 kk => by obtain ⟨z, rfl⟩ := k0 rfl; subst hs; exact lv_istore_n hexec hb hd rfl (zlv_has hR.2.2.2.1) hi rfl kk)
  | isub =>
    obtain ⟨hnx, hd⟩ := zdec (k := 1) rfl (by decide) hlen hdec
    subst hnx
    exact zw_bin (ax := ax) zf_sub_ok zAbs_2 hKS h hR (fun x z r hs kk => by subst hs; exact lv_isub hexec hb hd kk)
  | iushr => exact absurd (show false = true from h) (by decide)
  | ixor =>
    obtain ⟨hnx, hd⟩ := zdec (k := 1) rfl (by decide) hlen hdec
    subst hnx
    exact zw_bin (ax := ax) zf_xor_ok zAbs_6 hKS h hR (fun x z r hs kk => by subst hs; exact lv_ixor hexec hb hd kk)
  | jsr _ => exact absurd (show false = true from h) (by decide)
  | jsr_w _ => exact absurd (show false = true from h) (by decide)
  | l2d => exact absurd (show false = true from h) (by decide)
  | l2f => exact absurd (show false = true from h) (by decide)
  | l2i =>
    obtain ⟨hnx, hd⟩ := zdec (k := 1) rfl (by decide) hlen hdec
    subst hnx
    exact zw_lun (ax := ax) (F := fun x => .int x.toInt32) (fun u => zv_mkx _) hKS h hR (fun x r hs kk => by subst hs; exact lv_l2i hexec hb hd rfl kk)
  | ladd =>
    obtain ⟨hnx, hd⟩ := zdec (k := 1) rfl (by decide) hlen hdec
    subst hnx
    exact zw_lbin (ax := ax) (F := fun x z => .long (x + z)) (fun u v => zv_mklx _) hKS h hR (fun x z r hs _ kk => by subst hs; exact lv_ladd hexec hb hd kk)
  | laload =>
    obtain ⟨hnx, hd⟩ := zdec (k := 1) rfl (by decide) hlen hdec
    subst hnx
    exact zw_ald (ax := ax) (by decide) (by decide) hK hKS h hR (fun g ty a cell j v r hg hty hc ha hv hi hx kk => by
      rcases hg with rfl | rfl
      · cases hty; exact W.lald hexec hb hc ha hv hi hx rfl rfl hd kk
      · cases hty; exact W.lald hexec hb hc ha hv hi hx rfl rfl hd kk)
  | land =>
    obtain ⟨hnx, hd⟩ := zdec (k := 1) rfl (by decide) hlen hdec
    subst hnx
    exact zw_lbin (ax := ax) (F := fun x z => .long (x &&& z)) (fun u v => zv_mklx _) hKS h hR (fun x z r hs _ kk => by subst hs; exact lv_land hexec hb hd kk)
  | lastore =>
    obtain ⟨hnx, hd⟩ := zdec (k := 1) rfl (by decide) hlen hdec
    subst hnx
    exact zw_ast (ax := ax) hKS h hR (fun g ty a cell j x x2 r hg hty hst2 hc ha hv hi kk => by
      rcases hg with rfl | rfl
      · cases hty
        rcases hst2 with ⟨z, hst2⟩ | ⟨z, hst2⟩ | ⟨z, hst2⟩ | ⟨z, hst2⟩ <;> first | (exfalso; omega) | (obtain ⟨u, rfl, rfl⟩ := hst2; exact W.last hexec hb hc ha hv hi rfl rfl hd kk)
      · cases hty
        rcases hst2 with ⟨z, hst2⟩ | ⟨z, hst2⟩ | ⟨z, hst2⟩ | ⟨z, hst2⟩ <;> first | (exfalso; omega) | (obtain ⟨u, rfl, rfl⟩ := hst2; exact W.last hexec hb hc ha hv hi rfl rfl hd kk))
  | lcmp =>
    obtain ⟨hnx, hd⟩ := zdec (k := 1) rfl (by decide) hlen hdec
    subst hnx
    exact zw_lbin (ax := ax) (F := fun x z => .int (lg_cmp x z)) (fun u v => zv_mkx _) hKS h hR (fun x z r hs _ kk => by subst hs; exact W.lcmp hexec hb hd kk)
  | lconst v =>
    obtain ⟨hnx, hd⟩ := zdec (k := 1) rfl (by decide) hlen hdec
    subst hnx
    exact zw_push (ax := ax) hKS h hR (zv_mkl (u := v.val) rfl) (fun kk => lv_lconst hexec hb hd rfl kk)
  | ldc ix =>
    obtain ⟨hnx, hd⟩ := zdec (k := 2) rfl (by decide) hlen hdec
    subst hnx
    exact zw_ldc (ax := ax) (lw := false) hexec hb hown hK hlk hd rfl hKS h hR
  | ldc_w ix =>
    obtain ⟨hnx, hd⟩ := zdec (k := 3) rfl (by decide) hlen hdec
    subst hnx
    exact zw_ldc (ax := ax) (lw := true) hexec hb hown hK hlk hd rfl hKS h hR
  | ldc2_w ix =>
    obtain ⟨hnx, hd⟩ := zdec (k := 3) rfl (by decide) hlen hdec
    subst hnx
    exact zw_ldc2 (ax := ax) hexec hb hown hK (of_decide_eq_true hlk) hd rfl hKS h hR
  | ldiv =>
    obtain ⟨hnx, hd⟩ := zdec (k := 1) rfl (by decide) hlen hdec
    subst hnx
    exact zw_lbin (ax := ax) (F := fun x z => .long (x / z)) (fun u v => zv_mklx _) hKS h hR (fun x z r hs hz kk => by subst hs; exact lv_ldiv hexec hb hd (hz rfl) kk)
  | lload v =>
    obtain ⟨hnx, hd⟩ := zdec (k := 2) rfl (by decide) hlen hdec
    subst hnx
    exact zw_load (ax := ax) hKS h hR (fun x hx k0 k1 k2 kk => by obtain ⟨z, rfl⟩ := k1 rfl; exact lv_lload hexec hb hd hx kk)
  | lload_n v =>
    obtain ⟨hnx, hd⟩ := zdec (k := 1) rfl (by decide) hlen hdec
    subst hnx
    exact zw_load (ax := ax) hKS h hR (fun x hx k0 k1 k2 kk => by obtain ⟨z, rfl⟩ := k1 rfl; exact lv_lload_n hexec hb hd rfl hx kk)
  | lmul =>
    obtain ⟨hnx, hd⟩ := zdec (k := 1) rfl (by decide) hlen hdec
    subst hnx
    exact zw_lbin (ax := ax) (F := fun x z => .long (x * z)) (fun u v => zv_mklx _) hKS h hR (fun x z r hs _ kk => by subst hs; exact lv_lmul hexec hb hd kk)
  | lneg => exact absurd (show false = true from h) (by decide)
  | lookupswitch df prs =>
    exact zw_look (ax := ax) (nx := nx) hexec hb hdec hKS h hR
  | lor =>
    obtain ⟨hnx, hd⟩ := zdec (k := 1) rfl (by decide) hlen hdec
    subst hnx
    exact zw_lbin (ax := ax) (F := fun x z => .long (x ||| z)) (fun u v => zv_mklx _) hKS h hR (fun x z r hs _ kk => by subst hs; exact lv_lor hexec hb hd kk)
  | lrem =>
    obtain ⟨hnx, hd⟩ := zdec (k := 1) rfl (by decide) hlen hdec
    subst hnx
    exact zw_lbin (ax := ax) (F := fun x z => .long (x - x / z * z)) (fun u v => zv_mklx _) hKS h hR (fun x z r hs hz kk => by subst hs; exact lv_lrem hexec hb hd (hz rfl) kk)
  | lreturn =>
    obtain ⟨hnx, hd⟩ := zdec (k := 1) rfl (by decide) hlen hdec
    subst hnx
    exact zw_ret (ax := ax) (cf := en.1) (nx := pc + 1) (lg := true) hrk hd hHr rfl rfl h hR
  | lshl =>
    obtain ⟨hnx, hd⟩ := zdec (k := 1) rfl (by decide) hlen hdec
    subst hnx
    exact zw_lsh (ax := ax) (F := fun x z => .long (x <<< (z.toInt64 &&& 63))) (fun u v => zv_mklx _) hKS h hR (fun x z r hs kk => by subst hs; exact lv_lshl hexec hb hd rfl kk)
  | lshr =>
    obtain ⟨hnx, hd⟩ := zdec (k := 1) rfl (by decide) hlen hdec
    subst hnx
    exact zw_lsh (ax := ax) (F := fun x z => .long (x >>> (z.toInt64 &&& 63))) (fun u v => zv_mklx _) hKS h hR (fun x z r hs kk => by subst hs; exact lv_lshr hexec hb hd rfl kk)
  | lstore v =>
    obtain ⟨hnx, hd⟩ := zdec (k := 2) rfl (by decide) hlen hdec
    subst hnx
    exact zw_storeL (ax := ax) hKS h hR (fun x r hs hi kk => by subst hs; exact lv_lstore hexec hb hd (zlv_has hR.2.2.2.1) hi rfl kk)
  | lstore_n v =>
    obtain ⟨hnx, hd⟩ := zdec (k := 1) rfl (by decide) hlen hdec
    subst hnx
    exact zw_storeL (ax := ax) hKS h hR (fun x r hs hi kk => by subst hs; exact lv_lstore_n hexec hb hd rfl (zlv_has hR.2.2.2.1) hi rfl kk)
  | lsub =>
    obtain ⟨hnx, hd⟩ := zdec (k := 1) rfl (by decide) hlen hdec
    subst hnx
    exact zw_lbin (ax := ax) (F := fun x z => .long (x - z)) (fun u v => zv_mklx _) hKS h hR (fun x z r hs _ kk => by subst hs; exact lv_lsub hexec hb hd kk)
  | lushr => exact absurd (show false = true from h) (by decide)
  | lxor => exact absurd (show false = true from h) (by decide)
  | monitorenter => exact absurd (show false = true from h) (by decide)
  | monitorexit => exact absurd (show false = true from h) (by decide)
  | multianewarray _ _ => exact absurd (show false = true from h) (by decide)
  | new ix =>
    obtain ⟨hnx, hd⟩ := zdec (k := 3) rfl (by decide) hlen hdec
    subst hnx
    exact zw_new (ax := ax) hexec hb hown hK (of_decide_eq_true hlk) hmc hms rfl rfl hd rfl hKS h hR
  | newarray aty =>
    obtain ⟨hnx, hd⟩ := zdec (k := 2) rfl (by decide) hlen hdec
    subst hnx
    cases aty with
    | boolean => exact zw_newa (ax := ax) (ty := .boolean) hexec hb hK rfl rfl zacZ (by decide) zv_zero hmc hms rfl rfl hd rfl hKS h hR
    | char => exact absurd (show false = true from h) (by decide)
    | float => exact absurd (show false = true from h) (by decide)
    | double => exact absurd (show false = true from h) (by decide)
    | byte => exact zw_newa (ax := ax) (ty := .byte) hexec hb hK rfl rfl zacB (by decide) zv_zero hmc hms rfl rfl hd rfl hKS h hR
    | short => exact absurd (show false = true from h) (by decide)
    | int => exact zw_newa (ax := ax) (ty := .int) hexec hb hK rfl rfl zacI (by decide) zv_zero hmc hms rfl rfl hd rfl hKS h hR
    | long => exact zw_newa (ax := ax) (ty := .long) hexec hb hK rfl rfl zacJ (by decide) (zv_mkl (u := 0) rfl) hmc hms rfl rfl hd rfl hKS h hR
  | nop => exact absurd (show false = true from h) (by decide)
  | pop =>
    obtain ⟨hnx, hd⟩ := zdec (k := 1) rfl (by decide) hlen hdec
    subst hnx
    exact zw_pop (ax := ax) hKS h hR (fun x r hs hc kk => by subst hs; exact lv_pop hexec hb hd hc kk)
  | pop2 => exact absurd (show false = true from h) (by decide)
  | putfield ix =>
    obtain ⟨hnx, hd⟩ := zdec (k := 3) rfl (by decide) hlen hdec
    subst hnx
    have hlk2 := hlk
    unfold zlk at hlk2
    rw [Bool.and_eq_true, decide_eq_true_eq] at hlk2
    exact zw_putf (ax := ax) hexec hb hown hK hlk2.1 hlk2.2 (fun z => ⟨hin z, hinC z⟩) hd rfl hKS h hR
  | putstatic _ => exact absurd (show false = true from h) (by decide)
  | ret _ => exact absurd (show false = true from h) (by decide)
  | return_ =>
    obtain ⟨hnx, hd⟩ := zdec (k := 1) rfl (by decide) hlen hdec
    subst hnx
    exact zw_retv (ax := ax) (cf := en.1) (nx := pc + 1) hrk hd hHr rfl rfl h hR
  | saload => exact absurd (show false = true from h) (by decide)
  | sastore => exact absurd (show false = true from h) (by decide)
  | sipush v =>
    obtain ⟨hnx, hd⟩ := zdec (k := 3) rfl (by decide) hlen hdec
    subst hnx
    exact zw_push (ax := ax) hKS h hR (zv_mkx (Int16.ofInt v).toInt32) (fun kk => lv_sipush hexec hb hd rfl kk)
  | swap => exact absurd (show false = true from h) (by decide)
  | tableswitch df lo hi offs =>
    exact zw_tab (ax := ax) (nx := nx) hexec hb hdec hKS h hR

theorem zmain {l : Launch} {bt : zW → List Nat → zM → Bool} {L : Nat} {stop : zK} (hst : ∀ w cf y pc ls st q f fs m, stop w cf y pc ls st q (f :: fs) m = false) : ∀ n, zMain l bt L stop n := by
  intro n
  induction n using Nat.strongRecOn with
  | ind n IH =>
    intro X y0 en me hL hOK w pc ls st q fs m h p e R s mt args below meth c Q H locs lsA stA hC hR hHr hHs
    subst hL
    cases n with
    | zero => exact hHs w pc ls st q m H locs lsA stA h hR
    | succ n =>
      have h' : zif (stop w en.1 en.2.2.2.2 pc ls st q fs m) true (Prod.rec (motive := fun _ => Bool) (fun i r => Prod.rec (motive := fun _ => Bool) (fun nx ax => zop bt (zLn X) i nx ax (zok bt (zLn X) stop n) w en.1 en.2.2.2.2 pc ls st q fs m) r) (en.1 pc)) = true := h
      rcases zif_iff h' with ⟨h1, -⟩ | ⟨-, h2⟩
      · exact hHs w pc ls st q m H locs lsA stA h1 hR
      · have hrow := hOK.1 pc
        generalize en.1 pc = t at h2 hrow
        obtain ⟨i, nx, ax⟩ := t
        refine zstep (d0 := q.1) (y0 := y0) IH hst hOK hC (fun k hk w2 pc2 ls2 st2 q2 m2 H2 locs2 lsA2 stA2 hz hR2 => ?_) hHr hrow h2 hR
        have e1 : q2.1 = q.1 := hR2.2.2.2.2.2.1
        refine IH k (by omega) X y0 en me rfl hOK w2 pc2 ls2 st2 q2 fs m2 hz p e R s mt args below meth c Q H2 locs2 lsA2 stA2 (by rw [e1]; exact hC) (by rw [e1]; exact hR2) (fun n' w3 v m3 H3 locs3 lsA3 pc3 vo cells slots hn' => hHr n' w3 v m3 H3 locs3 lsA3 pc3 vo cells slots (by omega)) (by rw [e1]; exact hHs)
