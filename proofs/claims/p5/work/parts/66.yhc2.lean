/-! semantic contracts of the reference's methods (this, then ints) -/
def zyAr (B : zCx) (xs : List Int32) : List Value := .ref (zad B 74) :: xs.map Value.int
def zyOut (mi : zyB) (B : zCx) (H0 H : Heap) : Prop := ∀ q, (∀ a c, zG mi a = some c → ¬ q = zad B a) → H[q]? = H0[q]?
def zyHq (mi : zyB) (B : zCx) (Ψ : zyEm → zyEm → Option Value → Prop) : Array Value → State → Outcome → State → Prop := fun _ s o t => ∃ vo, o = .returned vo ∧ zKn B t ∧ zyMI mi B zyJ0 t t.heap ∧ Ψ (zyEl mi B s.heap) (zyEl mi B t.heap) vo ∧ zyOut mi B s.heap t.heap
def zyHc (l : Launch) (mi : zyB) (en : zEn) (me : zMe) (dep na : Nat) (Φ : List Int32 → zyEm → Prop) (Ψ : List Int32 → zyEm → zyEm → Option Value → Prop) : Prop := ∀ (B : zCx) (xs : List Int32), xs.length = na →
  Met l me.1 [Cond.code me.1 me.2.1 en.2.2.1 me.2.2.1] { frames := dep, cells := en.2.2.2.2.2.1, slots := en.2.2.2.2.2.2.1, locals := 64 * dep } (va_Pc (zyAr B xs) (fun U => zKn B U ∧ zyMI mi B zyJ0 U U.heap ∧ Φ xs (zyEl mi B U.heap))) (zyHq mi B (Ψ xs)) en.2.2.2.2.2.1 en.2.2.2.2.2.2.1 (fun q => zbs B ≤ q)
/-- a phase: pc, locals, bounds of symbols, elements, stack -/
abbrev zyPh : Type := Nat × List Nat × List (Nat × Nat) × List (Nat × Nat) × List Nat
def zyXn (B : zCx) (ρ : Nat → Int32) (N : Nat) : zyX := (B, ρ, N, ρ, N, (fun _ _ => none, fun _ => none), zyJ0)
def zySs (mi : zyB) (B : zCx) (nL : Nat) (φ : zyPh) (ρ : Nat → Int32) (H : Heap) (locs : List Loc) (lsB : Array Slot) (stB : List Value) : Prop :=
  (∀ x ∈ locs, zbs B ≤ x.base) ∧ (lsB.size = nL ∧ lv_wf lsB) ∧ (φ.2.1.length = nL ∧ ∀ (i c : Nat), φ.2.1[i]? = some c → ¬ c = 13 → ∃ w, lsB[i]? = some (.val w) ∧ zyv ρ φ.2.2.1.length (zad B) c w) ∧ zEnv ρ φ.2.2.1 ∧ zySt (zyXn B ρ φ.2.2.1.length) φ.2.2.2.2 stB ∧ ∀ p ∈ φ.2.2.2.1, ∃ (c : zyCl) (w : Value), zG mi (p.1 / 16384) = some c ∧ p.1 % 16384 < zyLen c ∧ zyEl mi B H (p.1 / 16384) (p.1 % 16384) = some w ∧ zyv ρ φ.2.2.1.length (zad B) p.2 w
/-- memory, seen anew -/
theorem zyMem_new {mi : zyB} {B : zCx} {U : State} {H : Heap} {tb : Nat → List zyCt} {fp dj : zyR} {sp : Nat} {ρ : Nat → Int32} {N : Nat} {kc : List (Nat × Nat)} (hI : zyMI mi B zyJ0 U H) (hkc : ∀ p ∈ kc, ∃ (c : zyCl) (w : Value), zG mi (p.1 / 16384) = some c ∧ p.1 % 16384 < zyLen c ∧ zyEl mi B H (p.1 / 16384) (p.1 % 16384) = some w ∧ zyv ρ N (zad B) p.2 w) : zyMem (mi, tb, fp, dj, sp) (B, ρ, N, ρ, N, (zyEl mi B H, fun q => H[q]?), zyJ0) U kc H := by
  refine ⟨hI.1, fun a c k hg hk => ?_, fun a k _ => rfl, trivial, hI.2.2.2, fun q _ => rfl⟩
  obtain ⟨x, h1, h2⟩ := hI.2.1 a c k hg hk
  refine ⟨x, h1, ?_⟩
  have hl : zyLen c ≤ 16384 := by
    unfold zyLen
    rcases (hI.1 a c hg).2 with ⟨q1, -⟩ | ⟨ty, cA, f, q1, -, -, q4⟩
    · rw [if_pos q1]
      have := zyn64 c.1 q1
      omega
    · rw [if_neg (by have := zty_kd q1; omega)]
      exact q4
  unfold zyEt
  cases hq : zyl kc (a * 16384 + k) with
  | none => exact fun r hr r1 r2 => ⟨(h2 r hr r1 r2).1, zyv_cl (h2 r hr r1 r2).1 (h2 r hr r1 r2).2⟩
  | some v =>
    obtain ⟨j, hj⟩ := zyl_ix hq
    obtain ⟨c2, w, q1, q2, q3, q4⟩ := hkc _ (List.mem_of_getElem? hj)
    dsimp only at q1 q2 q3 q4
    rw [show (a * 16384 + k) / 16384 = a by omega, show (a * 16384 + k) % 16384 = k by omega, h1] at q3
    cases q3
    exact q4
theorem zyRl_new {mi : zyB} {B : zCx} {s : State} {H : Heap} {tb : Nat → List zyCt} {fp dj : zyR} {sp nL dep c0 s0 : Nat} {φ : zyPh} {ρ : Nat → Int32} {locs : List Loc} {lsB : Array Slot} {stB : List Value} (hI : zyMI mi B zyJ0 s H) (h : zySs mi B nL φ ρ H locs lsB stB) : zyRl (mi, tb, fp, dj, sp) (B, ρ, φ.2.2.1.length, ρ, φ.2.2.1.length, (zyEl mi B H, fun q => H[q]?), zyJ0) s nL (dep, c0, s0) (φ.2.2.1.length, φ.2.2.1) φ.2.1 φ.2.2.2.2 (dep, 0, 0) (φ.2.2.2.1, []) H locs lsB stB := by
  obtain ⟨h1, h2, h3, h4, h5, h6⟩ := h
  exact ⟨⟨h4, rfl, ⟨Nat.le_refl _, fun _ _ => rfl⟩, fun f hf => by cases hf⟩, zyMem_new hI h6, h1, ⟨h3.1, h2.1, h2.2, h3.2⟩, zySt_map (X := zyXn B ρ φ.2.2.1.length) (X2 := (B, ρ, φ.2.2.1.length, ρ, φ.2.2.1.length, (zyEl mi B H, fun q => H[q]?), zyJ0)) (fun v w h => h) h5, rfl, Nat.zero_le _, Nat.zero_le _⟩
/-- a stop -/
def zyAt (mi : zyB) (B : zCx) (s : State) (nL : Nat) (x : zyXp) (ρ : Nat → Int32) (N : Nat) (H : Heap) (locs : List Loc) (lsB : Array Slot) (stA : List Value) : Prop :=
  zyMI mi B zyJ0 s H ∧ zyOut mi B s.heap H ∧ (∀ x ∈ locs, zbs B ≤ x.base) ∧ (lsB.size = nL ∧ lv_wf lsB) ∧ (∀ (i c : Nat), x.2.1[i]? = some c → ¬ c = 13 → ∃ w, lsB[i]? = some (.val w) ∧ zyv ρ N (zad B) c w) ∧ zySt (zyXn B ρ N) x.2.2.1 stA
abbrev zyWt : Type := Heap → List Loc → Nat → Array Slot → List Value → Prop
/-- the rules by hand: a call, an element -/
def zyRu (l : Launch) (mi : zyB) (en : zEn) (dep : Nat) (B : zCx) (s : State) (Wg : zyWt) : Prop :=
  (∀ (pc ix ax : Nat) (en2 : zEn) (me2 : zMe) (dep2 na2 : Nat) (Φ2 : List Int32 → zyEm → Prop) (Ψ2 : List Int32 → zyEm → zyEm → Option Value → Prop) (xs2 : List Int32) (rs : List Value) (H : Heap) (locs : List Loc) (lsB : Array Slot), (rs.map fun v => v.category).sum ≤ 8 → en.1 pc = (.invokevirtual ix, pc + 3, ax) → zG zKd (ax / 16) = some 0 → zG zxMeta (ax / 16) = some en2 → zG zMeth (ax / 16) = some me2 → en2.2.2.2.1 = 11 → en2.2.1 = na2 + 1 → en2.2.2.2.2.2.1 = 0 → en2.2.2.2.2.2.2.1 = 0 → zyHc l mi en2 me2 dep2 na2 Φ2 Ψ2 → dep2 + 1 ≤ dep → xs2.length = na2 → zyMI mi B zyJ0 s H → (∀ x ∈ locs, zbs B ≤ x.base) → lsB.size = en.2.2.1 → Φ2 xs2 (zyEl mi B H) →
    (∀ (H3 : Heap) (locs3 : List Loc) (vo : Option Value), zyMI mi B zyJ0 s H3 → zyOut mi B H H3 → (∀ x ∈ locs3, zbs B ≤ x.base) → Ψ2 xs2 (zyEl mi B H) (zyEl mi B H3) vo → Wg H3 locs3 (pc + 3) lsB (vo.toList ++ rs)) → Wg H locs pc lsB ((zyAr B xs2).reverse ++ rs)) ∧
  (∀ (pc ax a n : Nat) (c : zyCl) (v : Int32) (H : Heap) (locs : List Loc) (lsB : Array Slot), en.1 pc = (.iastore, pc + 1, ax) → zG mi a = some c → c.1 = 20 → n < c.2.1 → (∀ r ∈ c.2.2, r.1 ≤ n → n ≤ r.2.1 → r.2.2 % 8 = 2 ∧ r.2.2 / 34359738368 ≤ zB v ∧ zB v ≤ r.2.2 / 8 % 4294967296) → zyMI mi B zyJ0 s H → (∀ x ∈ locs, zbs B ≤ x.base) →
    (∀ (H3 : Heap) (locs3 : List Loc), zyMI mi B zyJ0 s H3 → zyOut mi B H H3 → (∀ x ∈ locs3, zbs B ≤ x.base) → zyEl mi B H3 a n = some (.int v) → (∀ a2 k2, ¬ (a2 = a ∧ k2 = n) → zyEl mi B H3 a2 k2 = zyEl mi B H a2 k2) → Wg H3 locs3 (pc + 1) lsB []) → Wg H locs pc lsB [.int v, .int (Int32.ofNat n), .ref (zad B a)])
theorem zyRu_ok {l : Launch} {mi : zyB} {y0 dep : Nat} {en : zEn} {me : zMe} {p : Program} {e : Env} {s : State} {mt : MethodId} {args : Array Value} {below : List Frame} {meth : Method} {c : Code} {Q : State → Prop} {B : zCx} (hOK : zOK y0 en me) (hc0 : en.2.2.2.2.2.1 = 0) (hs0 : en.2.2.2.2.2.2.1 = 0) (h74 : ∃ c, zG mi 74 = some c ∧ c.1 = 11) (hexec : p.tables.exec = Jvm.exec) (hb : c.code = me.2.1) (hml : c.maxLocals = en.2.2.1) (hown : s.vm.findClass me.2.2.2 = some mt.cls) (hK : zKn B s) :
    zyRu l mi en dep B s (fun H locs pc lsB stA => W p l e { frames := dep, cells := en.2.2.2.2.2.1, slots := en.2.2.2.2.2.2.1, locals := 64 * dep } s mt args below meth c H locs 0 0 Q (F0 mt pc lsB stA)) := by
  refine ⟨?_, ?_⟩
  · intro pc ix ax en2 me2 dep2 na2 Φ2 Ψ2 xs2 rs H locs lsB hrs hrow hkd hen2 hme2 how hna hc2 hs2 hHc hdp hxs hI hlo hsz hΦ kk
    have hr := hOK.1 pc
    rw [hrow] at hr
    rcases hr with hn | ⟨hlen, hdec, pp, hlk⟩
    · cases hn
    obtain ⟨-, hd⟩ := zdec (k := 3) rfl (by decide) hlen hdec
    obtain ⟨me3, hme3, hO2⟩ := zall hen2
    rw [hme2] at hme3
    cases hme3
    obtain ⟨me3, hme3, hKi⟩ := zallk hen2 hkd
    rw [hme2] at hme3
    cases hme3
    have hcls2 := hO2.2.2.2.2.1
    have hml40 : en2.2.2.1 ≤ 40 := hO2.2.2.2.2.2.1
    have hrc : ∃ (a : Addr) (As : List Value), zyAr B xs2 = .ref a :: As ∧ ∃ cellB : Cell, H[a]? = some cellB ∧ cellB.vm.isStatics = false ∧ s.vm.findClass me2.2.2.2 = some cellB.cls := by
      obtain ⟨c74, hg, e11⟩ := h74
      refine ⟨zad B 74, _, rfl, ?_⟩
      rcases (hI.1 _ _ hg).2 with ⟨q1, cell, q2, q3, q4⟩ | ⟨ty, cA, f, q1, -⟩
      · refine ⟨cell, q2, by rw [q4]; rfl, ?_⟩
        have e1 : zcn en2.2.2.2.1 = me2.2.2.2 := hO2.2.2.2.1
        rw [q3, ← e1, how, e11]
        exact (hK.2.1 11 _ (zvw _ (by decide))).2.1
      · have := zty_kd q1
        omega
    have hMet := hHc B xs2 hxs
    have hAl : (zyAr B xs2).length = en2.2.1 := by
      show (xs2.map Value.int).length + 1 = _
      rw [List.length_map, hxs, hna]
    have hrw := hrs
    have hlk2 : zlc me.2.2.2 ix ax pp 0 = true := hlk
    unfold zlc at hlk2
    rw [hme2] at hlk2
    simp only [Bool.or_eq_true, Bool.and_eq_true, decide_eq_true_eq] at hlk2
    have hrun : va_Run p l e { frames := dep, cells := en.2.2.2.2.2.1, slots := en.2.2.2.2.2.2.1, locals := 64 * dep } s mt args below meth c H locs 0 0 en2.2.2.2.2.2.1 en2.2.2.2.2.2.2.1 (F0 mt pc lsB ((zyAr B xs2).reverse ++ rs)) rs (zyHq mi B (Ψ2 xs2) (zyAr B xs2).toArray) (fun q => zbs B ≤ q) := by
      rcases hlk2 with ⟨hkd, hw⟩ | ⟨hkd, hw⟩
      · exact zyrow_v hexec hb hml hown hK (zwd_mem hw) hcls2 hKi rfl hAl hrw hMet rfl rfl hdp (by show 8 + (en2.2.2.1 + 11) + 64 * dep2 ≤ 64 * dep; omega) (fun a U g mk hp => ⟨hp.1, zKn.same (s := U) rfl hp.2.1, (hp.2.2.1).moved (u := U) (Vm.Alike.refl U.vm), hp.2.2.2⟩) (fun U hU hW => ⟨rfl, hK.warm hW, by rw [hU]; exact hI.moved hW.alike, by rw [hU]; exact hΦ⟩) hrc (by rw [hc0, hs0, hc2, hs2]; exact ⟨Nat.le_refl _, Nat.le_refl _⟩) hsz hd
      · exact zyrow_vN hexec hb hml hown hK (zwd_mem hw) hcls2 hKi rfl hAl hrw hMet rfl rfl hdp (by show 8 + (en2.2.2.1 + 11) + 64 * dep2 ≤ 64 * dep; omega) (fun a U g mk hp => ⟨hp.1, zKn.same (s := U) rfl hp.2.1, (hp.2.2.1).moved (u := U) (Vm.Alike.refl U.vm), hp.2.2.2⟩) (fun U hU hW => ⟨rfl, hK.warm hW, by rw [hU]; exact hI.moved hW.alike, by rw [hU]; exact hΦ⟩) hrc (by rw [hc0, hs0, hc2, hs2]; exact ⟨Nat.le_refl _, Nat.le_refl _⟩) hsz hd
    refine zycont hrun hlo (fun st₀ t vo locs2 hh0 hQ hal hlo2 => ?_)
    obtain ⟨vo2, ho, -, hI2, hΨ, hout⟩ := hQ
    cases ho
    rw [hh0] at hΨ hout
    rw [hc2, hs2]
    exact kk t.heap locs2 vo (hI2.moved hal) hout hlo2 hΨ
  · intro pc ax a n c2 v H locs lsB hrow hg h20 hn hrows hI hlo kk
    have hr := hOK.1 pc
    rw [hrow] at hr
    rcases hr with hn | ⟨hlen, hdec, pp, hlk⟩
    · cases hn
    obtain ⟨-, hd⟩ := zdec (k := 1) rfl (by decide) hlen hdec
    obtain ⟨hlt90, hsh⟩ := hI.1 _ _ hg
    have hlenc : zyLen c2 = c2.2.1 := if_neg (by omega)
    rcases hsh with ⟨q1, -⟩ | ⟨ty, cA, f, q1, q2, q3, q4⟩
    · omega
    rw [h20] at q1
    cases q1
    obtain ⟨p1, p2⟩ := zsmall (u := n) (by omega)
    refine W.iast hexec hb q2 (q3 _ _) (fun z => by cases z) (by rw [arrV_size, p2]; exact fun z => z.elim p1 (by omega)) rfl rfl hd (fun H1 f1 f2 f3 => ?_)
    rw [p2, arrV_store] at f1
    have hM0 : zyMem (mi, fun _ => [], [(a, n, n)], [], 0) (B, fun _ => 0, 0, fun _ => 0, 0, (zyEl mi B H, fun q => H[q]?), zyJ0) s [] H := zyMem_new hI (fun p hp => by cases hp)
    have hel : zyEl mi B H1 a n = some (.int v) := by
      rw [zyEl_some hg (by rw [hlenc]; exact hn), f1, Option.bind_some, if_neg (by omega), arrV_read _ _ hn]
      unfold updV
      rw [if_pos rfl]
    have hMem : zyMem (mi, fun _ => [], [(a, n, n)], [], 0) (B, fun _ => 0, 0, fun _ => 0, 0, (zyEl mi B H, fun q => H[q]?), zyJ0) s [] H1 := by
      refine zyMem.upd (s := s) (x := .int v) ⟨hK, zyJ0_p (fun p hp => by cases hp)⟩ hM0 hg (by rw [hlenc]; exact hn) f3 (Or.inr ⟨.int, cA, _, by rw [h20]; rfl, f1, q3, q4⟩) hel (fun k0 hk0 hne => ?_) (zyin_iff.mpr ⟨(a, n, n), List.mem_cons_self, rfl, Nat.le_refl _, Nat.le_refl _⟩) rfl ?_ (fun a1 c1 k1 w1 _ _ _ h => h)
      · rw [zyEl_some hg hk0, zyEl_some hg hk0, f1, q2, Option.bind_some, Option.bind_some]
        rw [hlenc] at hk0
        rw [if_neg (by omega), arrV_read _ _ hk0, arrV_read _ _ hk0]
        unfold updV
        rw [if_neg hne]
      · intro r hr r1 r2
        obtain ⟨g1, g2, g3⟩ := hrows r hr r1 r2
        refine ⟨by omega, Or.inl ⟨Or.inr (Or.inr (Or.inl ⟨g1, v, rfl, g2, g3⟩)), fun q => by omega, fun q => by omega⟩⟩
    refine kk H1 _ (hMem.base (w := (0, [])) (fun k p hp => by simp at hp) rfl) (fun q hq => hMem.2.2.2.2.2 q hq) (fun z hz => ?_) hel (fun a2 k2 hne => hMem.2.2.1 a2 k2 ?_)
    · rcases List.mem_append.mp hz with h7 | h7
      · exact hlo z h7
      · rw [List.mem_singleton] at h7
        rw [h7]
        exact zyad_ge hlt90
    · cases hq : zyin [(a, n, n)] a2 k2 with
      | false => rfl
      | true =>
        obtain ⟨p0, g1, g2, g3, g4⟩ := zyin_iff.mp hq
        rw [List.mem_singleton.mp g1] at g2 g3 g4
        exact absurd ⟨g2.symm, by dsimp only at g3 g4; omega⟩ hne
theorem zyints_cat : ∀ (q : List Int32), ((q.map Value.int).map fun v => v.category).sum = q.length := by
  intro q
  induction q with
  | nil => rfl
  | cons a t ih =>
    rw [List.map_cons, List.map_cons, List.sum_cons, ih, List.length_cons]
    exact Nat.add_comm _ _
