/-! THE LAW'S FRAME -/
def R_law : String := "HornBraiderLaw"
def lw_P (b : Addr) (xs : List Int32) (args : Array Value) (s : State) : Prop := args = #[.ref b] ∧ s.IntsAt b xs ∧ xs.length ≤ 3072 ∧ (Jvm.Cond.and given_1 narrow_1).before args s = true
def lw_Q (_ : Array Value) (s : State) (o : Outcome) (t : State) : Prop := o = .returned (some (.int 1)) ∧ Framed s o t [] 600000 7302250
def lw_Z (below : List Frame) (a : Array Value) (s : State) : State → Prop := fun t => ∃ o, t.status = .running ∧ Ended t below o ∧ lw_Q a s o t
/-- the law's own end, with 1 on the stack, nothing written that was there before, its room as the claim has it -/
theorem lw_ret {p : Program} {l : Launch} {e : Env} {s : State} {m : MethodId} {below : List Frame} {meth : Method} {c : Code} {b : Nat} (hx : p.tables.exec = Jvm.exec) (hb : c.code = code) (hr : meth.sig.returnType = ret) (hlocks : meth.locks = false) {pc : Nat} {H : Heap} {ls : Array Slot} (hdg : decode code pc = .ok (.ireturn, 1)) : W p l e room_1 s m #[Value.ref b] below meth c H [] 600000 7302250 (lw_Z below #[Value.ref b] s) (F0 m pc ls [.int 1]) := by
  intro T hT X
  obtain ⟨fs, hret, hrun, hended, hW, hframe⟩ := X.leave (v := some (.int 1)) (hlocks := hlocks) (fun h => by rw [hr] at h; cases h)
  have hmeth' : T.vm.method? m = some meth := X.method'
  refine ⟨T.setFrames fs, ?_, .returned (some (.int 1)), hrun, hended, rfl, ⟨_, rfl⟩, hW, hframe⟩
  jvm_step X.here [X.here.top, hx, hb, hdg, hmeth', hr, ret, narrow_b1]
  (try refine ⟨rfl, ?_⟩); (try refine ⟨rfl, ?_⟩)
  first | (intro acts; rw [hret _ acts rfl rfl rfl]) | rw [hret _ _ rfl rfl rfl]
  exact Steps.refl _
/-- what holds at the law's entry: the machine, the code, the tables' words, the script of L ints xs at the cell b, what the Statement gives of the start -/
def lw_At (p : Program) (s : State) (m : MethodId) (meth : Method) (c : Code) (b L : Nat) (xs : Nat → Int32) : Prop :=
  p.tables.exec = Jvm.exec ∧ c.code = code ∧ meth.sig.returnType = ret ∧ c.maxLocals = 4 ∧ s.vm.findClass R_law = some m.cls ∧ (∀ w ∈ lw_tbl, w.before #[Value.ref b] s = true) ∧ va_X b L xs s s.heap ∧ b < s.heap.size ∧ meth.locks = false ∧ (Jvm.Cond.and given_1 narrow_1).before #[Value.ref b] s = true
noncomputable def zbtL : zW → List Nat → zM → Bool := fun _ v _ => List.rec (motive := fun _ => Bool) false (fun a t _ => List.rec (motive := fun _ => Bool) (Nat.beq a 8) (fun _ _ _ => false) t) v
theorem zbtL_iff {w : zW} {v : List Nat} {m : zM} (h : zbtL w v m = true) : v = [8] := by
  cases v with
  | nil => cases h
  | cons a t =>
    cases t with
    | nil =>
      have e : a = 8 := zbeqT (show Nat.beq a 8 = true from h)
      rw [e]
    | cons b u => cases h
noncomputable def zy0 : zY := (0, 600000, 7302250, 2, 0)
noncomputable def ze0 : List (Nat × Nat) := [(0, 4294967295), (0, 4294967295), (0, 4294967295), (0, 4294967295), (0, 4294967295), (0, 4294967295)]
noncomputable def zmem0 : zM := zrow (zrow (zrow (99, 0, []) 8) 8) 2
noncomputable def zen0 : zEn := (zxi0, 0, 4, 17, 0, 600000, 7302250, 2, 0)
noncomputable def zme0 : zMe := (yL_law, cL_law, some .boolean, RL)
/-- the law's frame: what it stands on -/
def zLc (X : zCx) (p : Program) (s : State) (mt : MethodId) (meth : Method) (c : Code) : Prop := p.tables.exec = Jvm.exec ∧ c.code = code ∧ meth.sig.returnType = ret ∧ meth.locks = false ∧ c.maxLocals = 4 ∧ s.vm.findClass R_law = some mt.cls ∧ zKn X s ∧ zbs X = s.heap.size
section ZL
variable {p : Program} {l : Launch} {e : Env} {s : State} {mt : MethodId} {below : List Frame} {meth : Method} {c : Code} {b : Nat} {X : zCx}
variable {w : zW} {pc : Nat} {ls st : List Nat} {q : zQ} {m : zM} {H : Heap} {locs : List Loc} {lsA : Array Slot} {stA : List Value}
/-- a run of the law's frame, to its end or to where it stops -/
theorem zrun {stop : zK} (hst : ∀ w cf y pc ls st q f fs m, stop w cf y pc ls st q (f :: fs) m = false) {n : Nat} (hC : zLc X p s mt meth c) (h : zok zbtL (zLn X) stop n w zxi0 zy0 pc ls st q [] m = true) (hR : zRl X s 4 (1000, 600000, 7302250) w ls st q m H locs lsA stA)
    (hS : ∀ (w : zW) (pc : Nat) (ls st : List Nat) (q : zQ) (m : zM) (H : Heap) (locs : List Loc) (lsA : Array Slot) (stA : List Value), stop w zxi0 zy0 pc ls st q [] m = true → zRl X s 4 (1000, 600000, 7302250) w ls st q m H locs lsA stA → W p l e room_1 s mt #[Value.ref b] below meth c H locs q.2.1 q.2.2 (lw_Z below #[Value.ref b] s) (F0 mt pc lsA stA)) :
    W p l e room_1 s mt #[Value.ref b] below meth c H locs q.2.1 q.2.2 (lw_Z below #[Value.ref b] s) (F0 mt pc lsA stA) := by
  obtain ⟨hexec, hb, hr, hlk, hml, hown, hK, hbs⟩ := hC
  obtain ⟨d, nc, ns⟩ := q
  have hd : d = 1000 := hR.2.2.2.2.2.1
  subst hd
  refine zmain hst n X 0 zen0 zme0 rfl zm0 w pc ls st (1000, nc, ns) [] m h p e room_1 s mt _ below meth c _ H locs lsA stA ⟨hexec, hb, hml, hown, hK, fun z => absurd rfl z, (by decide : 1000 ≤ room_1.frames), (by decide : 64 * 1000 ≤ room_1.locals), (by decide : 600000 ≤ room_1.cells), (by decide : 7302250 ≤ room_1.slots)⟩ hR ?_ ?_
  · intro n' w2 v m2 H2 locs2 lsB pc2 vo cells slots hn' hbk hE2 hM2 hlo hc hs hvo hri
    have hv := zbtL_iff (show zbtL w2 v m2 = true from hbk)
    subst hv
    rcases hri with ⟨hd, x, ty, rfl, hty, hnar⟩ | ⟨hd, x, rfl, hty⟩ | ⟨hd, rfl, hty⟩
    · have hx : zV X 8 (.int x) := hvo
      have e1 := Value.int.inj (zv_0 hx (by decide))
      have e2 : x = 1 := e1
      subst e2
      refine W.widen hc hs (va_forget (fun q hq => ?_) (lw_ret hexec hb hr hlk hd))
      rw [← hbs]
      exact hlo q hq
    · exact absurd hty (by show ¬ some FieldType.boolean = some .long; intro z; cases z)
    · exact absurd hty (by show ¬ some FieldType.boolean = none; intro z; cases z)
  · intro w2 pc2 ls2 st2 q2 m2 H2 locs2 lsB stB hs2 hR2
    exact hS w2 pc2 ls2 st2 q2 m2 H2 locs2 lsB stB hs2 hR2
end ZL
theorem zenv0 (ρ : Nat → Int32) : zEnv ρ ze0 := by
  intro k q h
  have hq : q = (0, 4294967295) := by
    unfold ze0 at h
    match k, h with
    | 0, h => cases h; rfl
    | 1, h => cases h; rfl
    | 2, h => cases h; rfl
    | 3, h => cases h; rfl
    | 4, h => cases h; rfl
    | 5, h => cases h; rfl
    | k + 6, h => simp at h
  rw [hq]
  have := zB_lt (ρ k)
  exact ⟨Nat.zero_le _, by show zB (ρ k) ≤ 4294967295; omega⟩
theorem zrow_only {α : Type} (v : α) : ∀ (n j : Nat) (x : α), (zrow v n)[j]? = some x → x = v := by
  intro n
  induction n with
  | zero =>
    intro j x h
    have h : ([] : List α)[j]? = some x := h
    simp at h
  | succ n ih =>
    intro j x h
    have e : zrow v (n + 1) = v :: zrow v n := rfl
    rw [e] at h
    cases j with
    | zero => rw [List.getElem?_cons_zero] at h; cases h; rfl
    | succ j => rw [List.getElem?_cons_succ] at h; exact ih j x h
