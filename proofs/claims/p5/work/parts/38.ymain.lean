/-! THE SECOND EXECUTOR IS RIGHT -/
def zyX0 (B : zCx) (J : zyJt) : zyX := (B, fun _ => 0, 0, fun _ => 0, 0, (fun _ _ => none, fun _ => none), J)
def zyvo (X : zyX) (v : List Nat) (o : Option Value) : Prop := match v, o with
  | [], none => True
  | [a], some x => zyV X a x
  | _, _ => False
/-- the base alone -/
def zyMI (mi : zyB) (B : zCx) (J : zyJt) (U : State) (H : Heap) : Prop :=
  (∀ a c, zG mi a = some c → a < 90000 ∧ zySh B U a c H) ∧ (∀ a c k, zG mi a = some c → k < zyLen c → ∃ w, zyEl mi B H a k = some w ∧ ∀ r ∈ c.2.2, r.1 ≤ k → k ≤ r.2.1 → ¬ r.2.2 % 8 = 1 ∧ zyv (fun _ => 0) 0 (zad B) r.2.2 w) ∧
  J.1 (zyEl mi B H) ∧ ∀ q, q < zbs B → H[q]? = (zH0 B)[q]?
theorem zyMI.moved {mi : zyB} {B : zCx} {J : zyJt} {u U : State} {H : Heap} (hvm : u.vm.Alike U.vm) (h : zyMI mi B J u H) : zyMI mi B J U H := ⟨fun a c h1 => ⟨(h.1 a c h1).1, (h.1 a c h1).2.moved hvm⟩, h.2⟩
/-- elements as a list of codes says -/
def zyPk (mi : zyB) (B : zCx) (l : List (Nat × Nat)) (H : Heap) : Prop := ∀ p ∈ l, ∃ (c : zyCl) (x : Value), zG mi (p.1 / 16384) = some c ∧ p.1 % 16384 < zyLen c ∧ zyEl mi B H (p.1 / 16384) (p.1 % 16384) = some x ∧ ¬ p.2 % 8 = 1 ∧ zyv (fun _ => 0) 0 (zad B) p.2 x
def zyAi (A : Array Value) (i : Nat) : Int32 := match A.toList[i]? with
  | some (.int x) => x
  | _ => 0
/-- an answer as a contract's list says -/
def zyvr (mi : zyB) (B : zCx) (J : zyJt) (r : List Nat) (A : Array Value) (s t : State) (vo : Option Value) : Prop := match r with
  | [c, id] => ∃ z : Int32, vo = some (.int z) ∧ zyV (zyX0 B J) c (.int z) ∧ J.2 id (zyEl mi B s.heap) (zyAi A 1) (zyAi A 2) z
  | [c, id, key] => vo = none ∧ ∃ z0 z : Int32, zyEl mi B s.heap (key / 16384) (key % 16384) = some (.int z0) ∧ zyEl mi B t.heap (key / 16384) (key % 16384) = some (.int z) ∧ zyV (zyX0 B J) c (.int z) ∧ J.2 id (zyEl mi B s.heap) z0 (zyAi A 1) z
  | r => zyvo (zyX0 B J) r vo
theorem zyvr_of {mi : zyB} {B : zCx} {J : zyJt} {r : List Nat} {A : Array Value} {s t : State} {vo : Option Value} (h : zyvo (zyX0 B J) r vo) : zyvr mi B J r A s t vo := by
  match r, vo, h with
  | [], none, h => exact h
  | [a], some x, h => exact h
def zyQk (mi : zyB) (B : zCx) (J : zyJt) (ct : zyCt) : Array Value → State → Outcome → State → Prop := fun A s o t => ∃ vo, o = .returned vo ∧ zyvr mi B J ct.2.2.1 A s t vo ∧ zKn B t ∧ zyMI mi B J t t.heap ∧ zyPk mi B ct.2.2.2.2.2 t.heap ∧ (∀ a k, zyin ct.2.1 a k = false → zyEl mi B t.heap a k = zyEl mi B s.heap a k) ∧ ∀ q, (∀ a c, zG mi a = some c → ¬ q = zad B a) → t.heap[q]? = s.heap[q]?
/-- a contract holds -/
def zyCon (l : Launch) (mi : zyB) (J : zyJt) (en2 : zEn) (me2 : zMe) (ct : zyCt) : Prop := ∀ (B : zCx) (AsV : List Value), zySt (zyX0 B J) ct.1 AsV →
  Met l me2.1 [Cond.code me2.1 me2.2.1 en2.2.2.1 me2.2.2.1] { frames := ct.2.2.2.1, cells := en2.2.2.2.2.2.1, slots := en2.2.2.2.2.2.2.1, locals := 64 * ct.2.2.2.1 } (va_Pc AsV (fun U => zKn B U ∧ zyMI mi B J U U.heap ∧ zyPk mi B ct.2.2.2.2.1 U.heap)) (zyQk mi B J ct) en2.2.2.2.2.2.1 en2.2.2.2.2.2.2.1 (fun q => zbs B ≤ q)
def zyCons (l : Launch) (P : zyP) (J : zyJt) : Prop := ∀ y2 ct en2 me2, ct ∈ P.2.1 y2 → zG zxMeta y2 = some en2 → zG zMeth y2 = some me2 → zyCon l P.1 J en2 me2 ct
def zyCf (P : zyP) (X : zyX) (en : zEn) (me : zMe) (d : Nat) (p : Program) (R : Room) (s : State) (mt : MethodId) (c : Code) : Prop :=
  p.tables.exec = Jvm.exec ∧ c.code = me.2.1 ∧ c.maxLocals = en.2.2.1 ∧ s.vm.findClass me.2.2.2 = some mt.cls ∧ zyKn P X s ∧ d ≤ R.frames ∧ 64 * d ≤ R.locals ∧ en.2.2.2.2.2.1 ≤ R.cells ∧ en.2.2.2.2.2.2.1 ≤ R.slots
/-- symbols, facts -/
def zyEx (X : zyX) (ρ2 : Nat → Int32) (w : zW) (m : zyM) : Prop := zEnv ρ2 w.2 ∧ zyXt (zyre X ρ2 w.1) ∧ ∀ f ∈ m.2, zyFm (zyre X ρ2 w.1) f
def zyHr (bt : zW → List Nat → zyM → Bool) (P : zyP) (stop : zyK) (n : Nat) (X : zyX) (en : zEn) (me : zMe) (fs : List zFr) (p : Program) (l : Launch) (e : Env) (R : Room) (s : State) (mt : MethodId) (args : Array Value) (below : List Frame) (meth : Method) (c : Code) (Q : State → Prop) : Prop :=
  ∀ (n' : Nat) (ρ2 : Nat → Int32) (w : zW) (v : List Nat) (m : zyM) (H : Heap) (locs : List Loc) (lsA : Array Slot) (pc : Nat) (vo : Option Value) (cells slots : Nat), n' < n → zyback bt v (zyok bt P stop n') w fs m = true → zyEx X ρ2 w m → zyMem P (zyre X ρ2 w.1) s m.1 H → (∀ x ∈ locs, zbs (zyb X) ≤ x.base) → cells ≤ en.2.2.2.2.2.1 → slots ≤ en.2.2.2.2.2.2.1 → zyvo (zyre X ρ2 w.1) v vo → zRi me pc vo →
    W p l e R s mt args below meth c H locs cells slots Q (F0 mt pc lsA vo.toList)
def zyHs (P : zyP) (stop : zyK) (X : zyX) (en : zEn) (d : Nat) (fs : List zFr) (p : Program) (l : Launch) (e : Env) (R : Room) (s : State) (mt : MethodId) (args : Array Value) (below : List Frame) (meth : Method) (c : Code) (Q : State → Prop) : Prop :=
  ∀ (ρ2 : Nat → Int32) (N2 : Nat) (w : zW) (pc : Nat) (ls st : List Nat) (q : zQ) (m : zyM) (H : Heap) (locs : List Loc) (lsA : Array Slot) (stA : List Value), stop w en.1 en.2.2.2.2 pc ls st q fs m = true → zyRl P (zyre X ρ2 N2) s en.2.2.1 (d, en.2.2.2.2.2.1, en.2.2.2.2.2.2.1) w ls st q m H locs lsA stA →
    W p l e R s mt args below meth c H locs q.2.1 q.2.2 Q (F0 mt pc lsA stA)
def zyMain (l : Launch) (bt : zW → List Nat → zyM → Bool) (P : zyP) (stop : zyK) (n : Nat) : Prop :=
  ∀ (X : zyX) (y0 : Nat) (en : zEn) (me : zMe), zyCons l P (zyJ X) → zOK y0 en me →
  ∀ (w : zW) (pc : Nat) (ls st : List Nat) (q : zQ) (fs : List zFr) (m : zyM), zyok bt P stop n w en.1 en.2.2.2.2 pc ls st q fs m = true →
  ∀ (p : Program) (e : Env) (R : Room) (s : State) (mt : MethodId) (args : Array Value) (below : List Frame) (meth : Method) (c : Code) (Q : State → Prop) (H : Heap) (locs : List Loc) (lsA : Array Slot) (stA : List Value),
    zyCf P X en me q.1 p R s mt c → zyRl P X s en.2.2.1 (q.1, en.2.2.2.2.2.1, en.2.2.2.2.2.2.1) w ls st q m H locs lsA stA → zyHr bt P stop n X en me fs p l e R s mt args below meth c Q → zyHs P stop X en q.1 fs p l e R s mt args below meth c Q →
    W p l e R s mt args below meth c H locs q.2.1 q.2.2 Q (F0 mt pc lsA stA)
theorem zyback_c {bt : zW → List Nat → zyM → Bool} {v : List Nat} {k : zyK} {w : zW} {cf : Nat → zT} {y : zY} {pc : Nat} {ls st : List Nat} {q : zQ} {fs : List zFr} {m : zyM} : zyback bt v k w ((cf, y, pc, ls, st, q) :: fs) m = k w cf y pc ls (List.rec (motive := fun _ => List Nat) st (fun a _ _ => a :: st) v) q fs m := rfl
/-- a call's continuation -/
theorem zycont {p : Program} {l : Launch} {e : Env} {R : Room} {s : State} {mt : MethodId} {args : Array Value} {below : List Frame} {meth : Method} {c : Code} {Q : State → Prop} {B : zCx} {H : Heap} {locs : List Loc} {cells slots mc ms pc : Nat} {lsA : Array Slot} {st0 rest : List Value} {Qa : State → Outcome → State → Prop}
    (hr : va_Run p l e R s mt args below meth c H locs cells slots mc ms (F0 mt pc lsA st0) rest Qa (fun q => zbs B ≤ q)) (hl : ∀ x ∈ locs, zbs B ≤ x.base)
    (kk : ∀ (st₀ t : State) (vo : Option Value) (locs2 : List Loc), st₀.heap = H → Qa st₀ (.returned vo) t → t.vm.Alike s.vm → (∀ x ∈ locs2, zbs B ≤ x.base) → W p l e R s mt args below meth c t.heap locs2 (cells + mc) (slots + ms) Q (F0 mt (pc + 3) lsA (vo.toList ++ rest))) :
    W p l e R s mt args below meth c H locs cells slots Q (F0 mt pc lsA st0) := by
  intro T hT X0
  obtain ⟨v, st₀, t, T', L, h0, X', hL, e1, e2, hQ, st⟩ := hr T hT X0
  have hal : t.vm.Alike s.vm := by
    have := X'.warmed.alike
    rw [e2] at this
    exact this.symm
  obtain ⟨t2, a1, b1⟩ := kk st₀ t v (locs ++ L) h0 hQ hal (fun x hx => by
    rcases List.mem_append.mp hx with h | h
    · exact hl x h
    · exact hL x h) T' e1 X'
  exact ⟨t2, st t2 a1, b1⟩
/-! lists of calls by contract -/
theorem zyfind_iff {w : zW} {B : zyB} {m : List (Nat × Nat)} {as : List Nat} {j : Bool} {k : zyCt → Bool} : ∀ {l : List zyCt}, zyfind w B m as j k l = true → j = true ∨ ∃ ct ∈ l, zysubL w as ct.1 = true ∧ zypre w B m ct.2.2.2.2.1 = true ∧ k ct = true := by
  intro l
  induction l with
  | nil => intro h; exact Or.inl h
  | cons ct t ih =>
    intro h
    have e : zyfind w B m as j k (ct :: t) = zif (zand (zysubL w as ct.1) (zypre w B m ct.2.2.2.2.1)) (k ct) (zyfind w B m as j k t) := rfl
    rw [e] at h
    rcases zif_iff h with ⟨h1, h2⟩ | ⟨-, h2⟩
    · obtain ⟨g1, g2⟩ := zand_iff h1
      exact Or.inr ⟨ct, List.mem_cons_self, g1, g2, h2⟩
    · rcases ih h2 with q | ⟨c2, q1, q2⟩
      · exact Or.inl q
      · exact Or.inr ⟨c2, List.mem_cons_of_mem _ q1, q2⟩
theorem zylen_eq (c : zyCl) : zylenB c = zyLen c := by
  unfold zylenB zyLen
  cases h : Nat.ble (Nat.succ c.1) 12 with
  | true =>
    have h2 : c.1 + 1 ≤ 12 := zbleT h
    rw [if_pos (by omega)]
    rfl
  | false =>
    have h2 : ¬ c.1 + 1 ≤ 12 := zbleF h
    rw [if_neg (by omega)]
    rfl
theorem zysubL_iff {X : zyX} {w : zW} (hE : zEnv (zyρ X) w.2) : ∀ {as cs : List Nat} {AsV : List Value}, zysubL w as cs = true → zySt X as AsV → zySt (zyX0 (zyb X) (zyJ X)) cs AsV := by
  intro as
  induction as with
  | nil =>
    intro cs AsV h hS
    rw [zySt_n hS]
    cases cs with
    | nil => trivial
    | cons c t => cases h
  | cons a t ih =>
    intro cs AsV h hS
    obtain ⟨b, u, rfl, h1, h2⟩ := zySt_c hS
    cases cs with
    | nil => cases h
    | cons c t2 =>
      have h : zand (zysub w a c) (zysubL w t t2) = true := h
      obtain ⟨g1, g2⟩ := zand_iff h
      exact ⟨(zysub_iff g1 hE h1).2, ih g2 h2⟩
theorem zykeep_eq {f : zyR} : ∀ {l : List (Nat × Nat)} {k : List (Nat × Nat) → Bool}, zykeep f l k = k (l.filter (fun p => !(zyin f (p.1 / 16384) (p.1 % 16384)))) := by
  intro l
  induction l with
  | nil => intro k; rfl
  | cons p t ih =>
    intro k
    have e : zykeep f (p :: t) k = zif (zyin f (p.1 / 16384) (p.1 % 16384)) (zykeep f t k) (zykeep f t (fun u => k (p :: u))) := rfl
    rw [e]
    cases hb : zyin f (p.1 / 16384) (p.1 % 16384) with
    | true => rw [zif_t, ih, List.filter_cons_of_neg (by rw [hb]; decide)]
    | false => rw [zif_f, ih, List.filter_cons_of_pos (by rw [hb]; decide)]
theorem zykeep_l {f : zyR} {key : Nat} : ∀ {l : List (Nat × Nat)}, zyl (l.filter (fun p => !(zyin f (p.1 / 16384) (p.1 % 16384)))) key = if zyin f (key / 16384) (key % 16384) = true then none else zyl l key := by
  intro l
  induction l with
  | nil => split <;> rfl
  | cons p t ih =>
    cases hb : zyin f (p.1 / 16384) (p.1 % 16384) with
    | true =>
      rw [List.filter_cons_of_neg (by rw [hb]; decide), ih, zyl_c]
      by_cases q : p.1 = key
      · rw [q] at hb
        rw [if_pos hb, if_pos hb]
      · rw [if_neg q]
    | false =>
      rw [List.filter_cons_of_pos (by rw [hb]; decide), zyl_c, zyl_c, ih]
      by_cases q : p.1 = key
      · rw [q] at hb
        rw [if_pos q, if_pos q, if_neg (by rw [hb]; decide)]
      · rw [if_neg q, if_neg q]
theorem zyfitM_iff {w : zW} {B : zyB} : ∀ {l : List (Nat × Nat)}, zyfitM w B l = true → ∀ key v, zyl l key = some v → ∃ c, zG B (key / 16384) = some c ∧ ∀ r ∈ c.2.2, r.1 ≤ key % 16384 → key % 16384 ≤ r.2.1 → zysub w v r.2.2 = true := by
  intro l
  induction l with
  | nil => intro _ key v h; cases h
  | cons p t ih =>
    intro h key v hk
    have h : zand (zget B (p.1 / 16384) (fun c => zyall (fun code => zysub w p.2 code) (p.1 % 16384) (p.1 % 16384) c.2.2)) (zyfitM w B t) = true := h
    obtain ⟨g1, g2⟩ := zand_iff h
    rw [zyl_c] at hk
    by_cases q : p.1 = key
    · rw [if_pos q] at hk
      cases hk
      obtain ⟨c, q1, q2⟩ := zget_iff g1
      rw [q] at q1 q2
      exact ⟨c, q1, fun r hr r1 r2 => zyall_iff q2 r hr _ (Nat.le_refl _) (Nat.le_refl _) r1 r2⟩
    · rw [if_neg q] at hk
      exact ih g2 key v hk
theorem zysubF_iff {F : zyR} : ∀ {f : zyR}, zysubF F f = true → ∀ a k, zyin f a k = true → zyin F a k = true := by
  intro f
  induction f with
  | nil => intro _ a k h; cases h
  | cons p t ih =>
    intro h a k hk
    have h : zand (zycov F p.1 p.2.1 p.2.2) (zysubF F t) = true := h
    obtain ⟨g1, g2⟩ := zand_iff h
    obtain ⟨p2, q1, q2, q3, q4⟩ := zyin_iff.mp hk
    rcases List.mem_cons.mp q1 with q | q
    · rw [← q] at g1
      rw [← q2]
      exact zycov_iff g1 k q3 q4
    · exact ih g2 a k (zyin_iff.mpr ⟨p2, q, q2, q3, q4⟩)
/-- the memory is as the base says -/
theorem zyMem.base {P : zyP} {X : zyX} {U : State} {w : zW} {l0 : List (Nat × Nat)} {H : Heap} (hM : zyMem P X U l0 H) (hE : zEnv (zyρ X) w.2) (hf : zyfitM w P.1 l0 = true) : zyMI P.1 (zyb X) (zyJ X) U H := by
  refine ⟨hM.1, fun a c k hg hk => ?_, hM.2.2.2.1, hM.2.2.2.2.1⟩
  obtain ⟨x, h1, h2⟩ := hM.2.1 a c k hg hk
  have hl := zyLen_le hM hg
  refine ⟨x, h1, fun r hr r1 r2 => ?_⟩
  unfold zyEt at h2
  cases hq : zyl l0 (a * 16384 + k) with
  | none =>
    rw [hq] at h2
    exact ⟨(h2 r hr r1 r2).1, zyv_cl (h2 r hr r1 r2).1 (h2 r hr r1 r2).2⟩
  | some v =>
    rw [hq] at h2
    obtain ⟨c2, g1, g2⟩ := zyfitM_iff hf _ v hq
    have e1 : (a * 16384 + k) / 16384 = a := by omega
    have e2 : (a * 16384 + k) % 16384 = k := by omega
    rw [e1, hg] at g1
    cases g1
    rw [e2] at g2
    exact zysub_iff (g2 r hr r1 r2) hE h2
/-- behind a call by contract -/
theorem zyMem.after {P : zyP} {X : zyX} {U : State} {l0 : List (Nat × Nat)} {H H2 : Heap} {F : zyR} (hM : zyMem P X U l0 H) (hI : zyMI P.1 (zyb X) (zyJ X) U H2) (hF : ∀ a k, zyin F a k = true → zyin P.2.2.1 a k = true) (hfr : ∀ a k, zyin F a k = false → zyEl P.1 (zyb X) H2 a k = zyEl P.1 (zyb X) H a k) (hout : ∀ q, (∀ a c, zG P.1 a = some c → ¬ q = zad (zyb X) a) → H2[q]? = H[q]?) : zyMem P X U (l0.filter (fun p => !(zyin F (p.1 / 16384) (p.1 % 16384)))) H2 := by
  refine ⟨hI.1, fun a c k hg hk => ?_, fun a k hf => ?_, hI.2.2.1, hI.2.2.2, fun q hq => (hout q hq).trans (hM.2.2.2.2.2 q hq)⟩
  · obtain ⟨x, h1, h2⟩ := hI.2.1 a c k hg hk
    have hl := zyLen_le hM hg
    refine ⟨x, h1, ?_⟩
    have e1 : (a * 16384 + k) / 16384 = a := by omega
    have e2 : (a * 16384 + k) % 16384 = k := by omega
    unfold zyEt
    rw [zykeep_l, e1, e2]
    by_cases hin : zyin F a k = true
    · rw [if_pos hin]
      exact fun r hr r1 r2 => ⟨(h2 r hr r1 r2).1, zyv_cl (h2 r hr r1 r2).1 (h2 r hr r1 r2).2⟩
    · rw [if_neg hin]
      have hin2 : zyin F a k = false := by
        cases hq : zyin F a k with
        | true => exact absurd hq hin
        | false => rfl
      obtain ⟨x2, g1, g2⟩ := hM.2.1 a c k hg hk
      rw [← hfr a k hin2, h1] at g1
      cases g1
      exact g2
  · have hin2 : zyin F a k = false := by
      cases hq : zyin F a k with
      | true => rw [hF a k hq] at hf; cases hf
      | false => rfl
    rw [hfr a k hin2]
    exact hM.2.2.1 a k hf
/-- an inlined call's contract -/
def zyQi (P : zyP) (X : zyX) (K : zW → List Nat → zyM → Prop) : Array Value → State → Outcome → State → Prop := fun _ _ o t => ∃ (ρ2 : Nat → Int32) (w : zW) (v : List Nat) (m : zyM) (vo : Option Value), o = .returned vo ∧ zyN X ≤ w.1 ∧ (∀ k, k < zyN X → ρ2 k = zyρ X k) ∧ zEnv ρ2 w.2 ∧ (∀ f ∈ m.2, zyFm (zyre X ρ2 w.1) f) ∧ zyvo (zyre X ρ2 w.1) v vo ∧ zyMem P (zyre X ρ2 w.1) t m.1 t.heap ∧ K w v m
theorem zypre_iff {P : zyP} {X : zyX} {U : State} {w : zW} {l0 : List (Nat × Nat)} {H : Heap} (hM : zyMem P X U l0 H) (hE : zEnv (zyρ X) w.2) : ∀ {l : List (Nat × Nat)}, zypre w P.1 l0 l = true → zyPk P.1 (zyb X) l H := by
  intro l
  induction l with
  | nil => intro _ p hp; cases hp
  | cons p0 t ih =>
    intro h p hp
    have h : zand (zget P.1 (p0.1 / 16384) (fun c => zif (Nat.ble (p0.1 % 16384 + 1) (zylenB c)) (zylk (zyrw (fun v => zysub w v p0.2) (p0.1 % 16384) (p0.1 % 16384) c.2.2) (fun v => zysub w v p0.2) p0.1 l0) false)) (zypre w P.1 l0 t) = true := h
    obtain ⟨g1, g2⟩ := zand_iff h
    rcases List.mem_cons.mp hp with q | q
    · subst q
      obtain ⟨c, hg, g3⟩ := zget_iff g1
      rcases zif_iff g3 with ⟨g4, g5⟩ | ⟨-, g5⟩
      · have g4 := zbleT g4
        rw [zylen_eq] at g4
        obtain ⟨x, h1, h2⟩ := hM.2.1 _ c (p.1 % 16384) hg (by omega)
        unfold zyEt at h2
        have e1 : p.1 / 16384 * 16384 + p.1 % 16384 = p.1 := by omega
        rw [e1] at h2
        rw [zylk_eq] at g5
        have fin : ∀ v, zyV X v x → zysub w v p.2 = true → ∃ (c : zyCl) (x : Value), zG P.1 (p.1 / 16384) = some c ∧ p.1 % 16384 < zyLen c ∧ zyEl P.1 (zyb X) H (p.1 / 16384) (p.1 % 16384) = some x ∧ ¬ p.2 % 8 = 1 ∧ zyv (fun _ => 0) 0 (zad (zyb X)) p.2 x := fun v hv hs => ⟨c, x, hg, by omega, h1, (zysub_iff (ρ2 := fun _ => 0) (N2 := 0) hs hE hv).1, (zysub_iff hs hE hv).2⟩
        cases hq : zyl l0 p.1 with
        | some v =>
          rw [hq] at g5 h2
          exact fin v h2 g5
        | none =>
          rw [hq] at g5 h2
          obtain ⟨r, q1, q2, q3, q4⟩ := zyrw_iff g5
          exact fin r.2.2 (h2 r q1 q2 q3).2 q4
      · cases g5
    · exact ih g2 p q
theorem zyputs_iff {P : zyP} {X : zyX} {U : State} {H : Heap} : ∀ {l : List (Nat × Nat)} {u : List (Nat × Nat)} {k : List (Nat × Nat) → Bool}, zyputs l u k = true → zyMem P X U u H → zyPk P.1 (zyb X) l H → ∃ u2, k u2 = true ∧ zyMem P X U u2 H := by
  intro l
  induction l with
  | nil => intro u k h hM _; exact ⟨u, h, hM⟩
  | cons p t ih =>
    intro u k h hM hP
    have h : zyputs t u (fun u2 => zydel p.1 u2 (fun u3 => k (p :: u3))) = true := h
    obtain ⟨u2, h2, hM2⟩ := ih h hM (fun p2 hp2 => hP p2 (List.mem_cons_of_mem _ hp2))
    rw [zydel_eq] at h2
    obtain ⟨c, x, q1, q2, q3, q4, q5⟩ := hP p List.mem_cons_self
    have hk := hM2.know q1 q2 q3 (zyv_cl (ρ2 := zyρ X) (N2 := zyN X) q4 q5)
    have e1 : p.1 / 16384 * 16384 + p.1 % 16384 = p.1 := by omega
    rw [e1] at hk
    exact ⟨_, h2, hk⟩
