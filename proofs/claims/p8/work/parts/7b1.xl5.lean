/-! IN THE LAW'S LOOP: arguments, calls -/
section ZLW
variable {p : Program} {l : Launch} {e : Env} {s : State} {mt : MethodId} {below : List Frame} {meth : Method} {c : Code} {b : Nat} {X : zCx}
def zWL (p : Program) (l : Launch) (e : Env) (s : State) (mt : MethodId) (below : List Frame) (meth : Method) (c : Code) (b : Nat) (H : Heap) (locs : List Loc) (pc : Nat) (ls : Array Slot) (st : List Value) : Prop := W p l e room_1 s mt #[Value.ref b] below meth c H locs 88 23815 (lw_Z below #[Value.ref b] s) (F0 mt pc ls st)
theorem zdL {pc i k ax} (hz : zxi0 pc = (i, pc + k, ax)) (hn : ¬ i = .nop) : decode code pc = .ok (i, k) := by
  have hr := zm0.1 pc
  dsimp only at hr
  rw [hz] at hr
  rcases hr with q | q
  · exact absurd q hn
  · have q1 := q.2.1
    rw [Nat.add_sub_cancel_left] at q1
    exact q1
/-- the locals in the loop -/
def zLl (X : zCx) (b i : Nat) (ls : Array Slot) : Prop := lv_has ls 4 [(3, .int (Int32.ofNat i)), (2, .ref (zad X 74)), (1, .ref (zad X 0)), (0, .ref b)]
/-- the script -/
def zSc0 (s : State) (X : zCx) (b L : Nat) (xs : Nat → Int32) : Prop := va_X b L xs s s.heap ∧ b < zbs X ∧ zH0 X = s.heap ∧ L ≤ 3072
def zLh (X : zCx) (H : Heap) : Prop := ∀ q, q < zbs X → H[q]? = (zH0 X)[q]?
theorem zofI : ∀ k, k < 6 → Int32.ofInt (Int.ofNat k) = Int32.ofNat k := by decide
def zAg (pc : Nat) : List Nat → Prop
  | [] => True
  | k :: t => (zxi0 pc = (.aload_n 0, pc + 1, 0) ∧ zxi0 (pc + 1) = (.iload_n 3, pc + 1 + 1, 0) ∧ zxi0 (pc + 2) = (.iconst (Int.ofNat k), pc + 2 + 1, 0) ∧ zxi0 (pc + 3) = (.iadd, pc + 3 + 1, 0) ∧ zxi0 (pc + 4) = (.iaload, pc + 4 + 1, 0) ∧ k < 6) ∧ zAg (pc + 5) t
theorem zl_ald (hC : zLc X p s mt meth c) {L i : Nat} {xs : Nat → Int32} (hS : zSc0 s X b L xs) {H : Heap} (hH : zLh X H) {k pc : Nat} (hk : i + k < L) (r4 : zxi0 pc = (.iaload, pc + 1, 0)) {ls : Array Slot} {locs : List Loc} {st : List Value} (kk : zWL p l e s mt below meth c b H locs (pc + 1) ls (.int (xs (i + k)) :: st)) : zWL p l e s mt below meth c b H locs pc ls (.int (Int32.ofNat (i + k)) :: .ref b :: st) := by
  obtain ⟨hexec, hb, -⟩ := hC
  obtain ⟨⟨scr, g1, g2, g3, g4, g5⟩, hbl, hH0, hL⟩ := hS
  obtain ⟨p1, p2⟩ := zsmall (u := i + k) (by omega)
  have hc : H[b]? = some scr := by rw [hH b hbl, hH0]; exact g1
  exact W.iald hexec hb hc g2 g3 (by rw [g4, p2]; exact fun z => z.elim p1 (by omega)) (by rw [p2]; exact g5 _ hk) rfl rfl (zdL r4 (fun q => by cases q)) kk
theorem zl_arg (hC : zLc X p s mt meth c) {L i : Nat} {xs : Nat → Int32} (hS : zSc0 s X b L xs) {H : Heap} (hH : zLh X H) {ls : Array Slot} (hl : zLl X b i ls) {k pc : Nat} (hk : i + k < L) (r0 : zxi0 pc = (.aload_n 0, pc + 1, 0)) (r1 : zxi0 (pc + 1) = (.iload_n 3, pc + 1 + 1, 0)) (r2 : zxi0 (pc + 2) = (.iconst (Int.ofNat k), pc + 2 + 1, 0)) (r3 : zxi0 (pc + 3) = (.iadd, pc + 3 + 1, 0)) (r4 : zxi0 (pc + 4) = (.iaload, pc + 4 + 1, 0)) (hk6 : k < 6) {locs : List Loc} {st : List Value} (kk : zWL p l e s mt below meth c b H locs (pc + 5) ls (.int (xs (i + k)) :: st)) : zWL p l e s mt below meth c b H locs pc ls st := by
  have hexec := hC.1
  have hb := hC.2.1
  refine lv_aload_n hexec hb (zdL r0 (fun q => by cases q)) rfl (lv_at hl 3 rfl) ?_
  refine lv_iload_n hexec hb (zdL r1 (fun q => by cases q)) rfl (lv_at hl 0 rfl) ?_
  refine lv_iconst hexec hb (zdL r2 (fun q => by cases q)) (zofI k hk6) ?_
  refine lv_iadd hexec hb (zdL r3 (fun q => by cases q)) ?_
  rw [show Int32.ofNat i + Int32.ofNat k = Int32.ofNat (i + k) from zyOa i k]
  exact zl_ald hC hS hH hk r4 kk
theorem zl_args (hC : zLc X p s mt meth c) {L i : Nat} {xs : Nat → Int32} (hS : zSc0 s X b L xs) {H : Heap} (hH : zLh X H) {ls : Array Slot} (hl : zLl X b i ls) (hi : i + 5 < L) {locs : List Loc} : ∀ {ks : List Nat} {pc : Nat} {st : List Value}, zAg pc ks → zWL p l e s mt below meth c b H locs (pc + 5 * ks.length) ls ((ks.map fun k => Value.int (xs (i + k))).reverse ++ st) → zWL p l e s mt below meth c b H locs pc ls st := by
  intro ks
  induction ks with
  | nil => intro pc st _ h; exact h
  | cons k t ih =>
    intro pc st hr h
    obtain ⟨⟨r0, r1, r2, r3, r4, hk⟩, hr⟩ := hr
    refine zl_arg hC hS hH hl (by omega) r0 r1 r2 r3 r4 hk (ih hr ?_)
    rw [List.length_cons, show pc + 5 * (t.length + 1) = pc + 5 + 5 * t.length by omega] at h
    rw [List.map_cons, List.reverse_cons, List.append_assoc] at h
    exact h
/-- a call -/
theorem zl_call (hC : zLc X p s mt meth c) {pc ix ax dep : Nat} {en2 : zEn} {me2 : zMe} {AsV rs : List Value} {H : Heap} {locs : List Loc} {ls : Array Slot} {Pf : State → Prop} {Qc : Array Value → State → Outcome → State → Prop} (hrow : zxi0 pc = (.invokevirtual ix, pc + 3, ax)) (hkd : zG zKd (ax / 16) = some 0) (hen2 : zG zxMeta (ax / 16) = some en2) (hme2 : zG zMeth (ax / 16) = some me2) (hAl : AsV.length = en2.2.1) (hc2 : en2.2.2.2.2.2.1 = 0) (hs2 : en2.2.2.2.2.2.2.1 = 0) (hdep : dep ≤ 100) (hrs : (rs.map fun v => v.category).sum ≤ 8)
    (hMet : Met l me2.1 [Cond.code me2.1 me2.2.1 en2.2.2.1 me2.2.2.1] { frames := dep, cells := en2.2.2.2.2.2.1, slots := en2.2.2.2.2.2.2.1, locals := 64 * dep } (va_Pc AsV Pf) Qc en2.2.2.2.2.2.1 en2.2.2.2.2.2.2.1 (fun q => zbs X ≤ q)) (hbl : FrameBlind (va_Pc AsV Pf)) (hpre : ∀ U : State, U.heap = H → s.WarmedH U.vm → Pf U) (hrc : ∃ (a : Addr) (As : List Value), AsV = .ref a :: As ∧ ∃ cellB : Cell, H[a]? = some cellB ∧ cellB.vm.isStatics = false ∧ s.vm.findClass me2.2.2.2 = some cellB.cls) (hsz : ls.size = 4) (hlo : ∀ x ∈ locs, zbs X ≤ x.base)
    (kk : ∀ (st₀ t : State) (vo : Option Value) (locs2 : List Loc), st₀.heap = H → Qc AsV.toArray st₀ (.returned vo) t → t.vm.Alike s.vm → (∀ x ∈ locs2, zbs X ≤ x.base) → zWL p l e s mt below meth c b t.heap locs2 (pc + 3) ls (vo.toList ++ rs)) : zWL p l e s mt below meth c b H locs pc ls (AsV.reverse ++ rs) := by
  obtain ⟨hexec, hb, -, -, hml, hown, hK, -⟩ := hC
  have hr := zm0.1 pc
  dsimp only at hr
  rw [hrow] at hr
  rcases hr with hn | ⟨hlen, hdec, pp, hlk⟩
  · cases hn
  obtain ⟨-, hd⟩ := zdec (k := 3) rfl (by decide) hlen hdec
  obtain ⟨me3, hme3, hO2⟩ := zall hen2
  rw [hme2] at hme3
  cases hme3
  obtain ⟨me3, hme3, hKi⟩ := zallk hen2 hkd
  rw [hme2] at hme3
  cases hme3
  have hcls2 := hO2.2.2.2.2.1
  have hml40 : en2.2.2.1 ≤ 40 := hO2.2.2.2.2.2.1
  have hlk2 : zlc RL ix ax pp 0 = true := hlk
  unfold zlc at hlk2
  rw [hme2] at hlk2
  simp only [Bool.or_eq_true, Bool.and_eq_true, decide_eq_true_eq] at hlk2
  have e1 : dep + 1 ≤ room_1.frames := by
    have : room_1.frames = 2048 := rfl
    omega
  have e2 : 8 + (en2.2.2.1 + 11) + 64 * dep ≤ room_1.locals := by
    have : room_1.locals = 84000 := rfl
    omega
  have e3 : 88 + en2.2.2.2.2.2.1 ≤ room_1.cells ∧ 23815 + en2.2.2.2.2.2.2.1 ≤ room_1.slots := by
    rw [hc2, hs2]
    exact ⟨by decide, by decide⟩
  have hrun : va_Run p l e room_1 s mt #[Value.ref b] below meth c H locs 88 23815 en2.2.2.2.2.2.1 en2.2.2.2.2.2.2.1 (F0 mt pc ls (AsV.reverse ++ rs)) rs (Qc AsV.toArray) (fun q => zbs X ≤ q) := by
    rcases hlk2 with ⟨hkd, hw⟩ | ⟨hkd, hw⟩
    · exact zyrow_v hexec hb hml hown hK (zwd_mem hw) hcls2 hKi rfl hAl hrs hMet rfl rfl e1 e2 hbl (fun U hU hW => ⟨rfl, hpre U hU hW⟩) hrc e3 hsz hd
    · exact zyrow_vN hexec hb hml hown hK (zwd_mem hw) hcls2 hKi rfl hAl hrs hMet rfl rfl e1 e2 hbl (fun U hU hW => ⟨rfl, hpre U hU hW⟩) hrc e3 hsz hd
  refine zycont hrun hlo (fun st₀ t vo locs2 hh0 hQ hal hlo2 => ?_)
  rw [hc2, hs2]
  exact kk st₀ t vo locs2 hh0 hQ hal hlo2
theorem zl_recv {mi : zyB} {J : zyJt} {H : Heap} (hK : zKn X s) (hI : zyMI mi X J s H) {a k : Nat} {cl : zyCl} (hg : zG mi a = some cl) (hcl : cl.1 = k) (hk : k < 12) (nm : String) (hn : zcn k = nm) : ∃ cellB : Cell, H[zad X a]? = some cellB ∧ cellB.vm.isStatics = false ∧ s.vm.findClass nm = some cellB.cls := by
  rcases (hI.1 _ _ hg).2 with ⟨q1, cell, q2, q3, q4⟩ | ⟨ty, cA, f, q1, -⟩
  · refine ⟨cell, q2, by rw [q4]; rfl, ?_⟩
    rw [q3, ← hn, hcl]
    exact (hK.2.1 k _ (zvw _ hk)).2.1
  · have := zty_kd q1
    omega
/-- the reference's, by a semantic contract -/
theorem zl_callR (hC : zLc X p s mt meth c) {pc ix ax dep na : Nat} {en2 : zEn} {me2 : zMe} {rs : List Value} {H : Heap} {locs : List Loc} {ls : Array Slot} {x : zyCl} {Φ : List Int32 → zyEm → Prop} {Ψ : List Int32 → zyEm → zyEm → Option Value → Prop} {as : List Int32} (hrow : zxi0 pc = (.invokevirtual ix, pc + 3, ax)) (hkd : zG zKd (ax / 16) = some 0) (hen2 : zG zxMeta (ax / 16) = some en2) (hme2 : zG zMeth (ax / 16) = some me2) (how : en2.2.2.2.1 = 11) (hna : en2.2.1 = na + 1) (hc2 : en2.2.2.2.2.2.1 = 0) (hs2 : en2.2.2.2.2.2.2.1 = 0) (hdep : dep ≤ 100) (hrs : (rs.map fun v => v.category).sum ≤ 8)
    (hHc : zyHc l (zymrX x) en2 me2 dep na Φ Ψ) (has : as.length = na) (hI : zyMI (zymrX x) X zyJ0 s H) (hΦ : Φ as (zyEl (zymrX x) X H)) (hsz : ls.size = 4) (hlo : ∀ x ∈ locs, zbs X ≤ x.base)
    (kk : ∀ (H3 : Heap) (vo : Option Value) (locs2 : List Loc), zyMI (zymrX x) X zyJ0 s H3 → zyOut (zymrX x) X H H3 → Ψ as (zyEl (zymrX x) X H) (zyEl (zymrX x) X H3) vo → (∀ x ∈ locs2, zbs X ≤ x.base) → zWL p l e s mt below meth c b H3 locs2 (pc + 3) ls (vo.toList ++ rs)) : zWL p l e s mt below meth c b H locs pc ls ((zyAr X as).reverse ++ rs) := by
  have hK := hC.2.2.2.2.2.2.1
  obtain ⟨me3, hme3, hO2⟩ := zall hen2
  rw [hme2] at hme3
  cases hme3
  have hcn : zcn en2.2.2.2.1 = me2.2.2.2 := hO2.2.2.2.1
  obtain ⟨cellB, h1, h2, h3⟩ := zl_recv hK hI (show zG (zymrX x) 74 = some zymr74 from rfl) (k := 11) rfl (by decide) me2.2.2.2 (by rw [← how]; exact hcn)
  refine zl_call hC hrow hkd hen2 hme2 (by show (as.map Value.int).length + 1 = _; rw [List.length_map, has, hna]) hc2 hs2 hdep hrs (hHc X as has) (fun a U g mk hp => ⟨hp.1, zKn.same (s := U) rfl hp.2.1, (hp.2.2.1).moved (u := U) (Vm.Alike.refl U.vm), hp.2.2.2⟩) (fun U hU hW => ⟨hK.warm hW, by rw [hU]; exact hI.moved hW.alike, by rw [hU]; exact hΦ⟩) ⟨zad X 74, _, rfl, cellB, h1, h2, h3⟩ hsz hlo (fun st₀ t vo locs2 hh0 hQ hal hlo2 => ?_)
  obtain ⟨vo2, ho, -, hI2, hΨ, hout⟩ := hQ
  cases ho
  rw [hh0] at hΨ hout
  exact kk t.heap vo locs2 (hI2.moved hal) hout hΨ hlo2
/-- the class's, by a contract -/
theorem zl_callC (hC : zLc X p s mt meth c) {pc ix ax : Nat} {en2 : zEn} {me2 : zMe} {ct : zyCt} {cd : Nat} {rs : List Value} {H : Heap} {locs : List Loc} {ls : Array Slot} {as : List Int32} (hrow : zxi0 pc = (.invokevirtual ix, pc + 3, ax)) (hkd : zG zKd (ax / 16) = some 0) (hen2 : zG zxMeta (ax / 16) = some en2) (hme2 : zG zMeth (ax / 16) = some me2) (how : en2.2.2.2.1 = 10) (hna : en2.2.1 = as.length + 1) (hc2 : en2.2.2.2.2.2.1 = 0) (hs2 : en2.2.2.2.2.2.2.1 = 0) (hdep : ct.2.2.2.1 ≤ 100) (hrs : (rs.map fun v => v.category).sum ≤ 8)
    (hcon : zyCon l zymc zyJc en2 me2 ct) (hres : ct.2.2.1 = [cd]) (hst : zySt (zyX0 X zyJc) ct.1 (.ref (zad X 0) :: as.map Value.int)) (hI : zyMI zymc X zyJc s H) (hpk : zyPk zymc X ct.2.2.2.2.1 H) (hsz : ls.size = 4) (hlo : ∀ x ∈ locs, zbs X ≤ x.base)
    (kk : ∀ (H3 : Heap) (vo : Option Value) (locs2 : List Loc), zyMI zymc X zyJc s H3 → zyOut zymc X H H3 → zyPk zymc X ct.2.2.2.2.2 H3 → (∀ a k, zyin ct.2.1 a k = false → zyEl zymc X H3 a k = zyEl zymc X H a k) → zyvo (zyX0 X zyJc) [cd] vo → (∀ x ∈ locs2, zbs X ≤ x.base) → zWL p l e s mt below meth c b H3 locs2 (pc + 3) ls (vo.toList ++ rs)) : zWL p l e s mt below meth c b H locs pc ls ((.ref (zad X 0) :: as.map Value.int).reverse ++ rs) := by
  have hK := hC.2.2.2.2.2.2.1
  obtain ⟨me3, hme3, hO2⟩ := zall hen2
  rw [hme2] at hme3
  cases hme3
  have hcn : zcn en2.2.2.2.1 = me2.2.2.2 := hO2.2.2.2.1
  obtain ⟨c0, hg0, he0⟩ : ∃ c0, zG zymc 0 = some c0 ∧ c0.1 = 10 := ⟨_, rfl, rfl⟩
  obtain ⟨cellB, h1, h2, h3⟩ := zl_recv hK hI hg0 he0 (by decide) me2.2.2.2 (by rw [← how]; exact hcn)
  refine zl_call hC hrow hkd hen2 hme2 (by show (as.map Value.int).length + 1 = _; rw [List.length_map, hna]) hc2 hs2 hdep hrs (hcon X _ hst) (fun a U g mk hp => ⟨hp.1, zKn.same (s := U) rfl hp.2.1, (hp.2.2.1).moved (u := U) (Vm.Alike.refl U.vm), hp.2.2.2⟩) (fun U hU hW => ⟨hK.warm hW, by rw [hU]; exact hI.moved hW.alike, by rw [hU]; exact hpk⟩) ⟨zad X 0, _, rfl, cellB, h1, h2, h3⟩ hsz hlo (fun st₀ t vo locs2 hh0 hQ hal hlo2 => ?_)
  obtain ⟨vo2, ho, hv, -, hI2, hpo, hfr, hout⟩ := hQ
  cases ho
  rw [hh0] at hfr hout
  rw [hres] at hv
  exact kk t.heap vo locs2 (hI2.moved hal) hout hpo hfr hv hlo2
end ZLW
