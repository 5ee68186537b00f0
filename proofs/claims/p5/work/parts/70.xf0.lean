/-! FUNCTIONAL CONTRACTS: any base; references, then ints -/
def xAg (B : zCx) (ps : List Nat) (xs : List Int32) : List Value := (ps.map fun p => Value.ref (zad B p)) ++ xs.map Value.int
def xMt (l : Launch) (mi : zyB) (B : zCx) (en : zEn) (me : zMe) (dep : Nat) (As : List Value) (Φ : zyEm → Prop) (Ψ : zyEm → zyEm → Option Value → Prop) : Prop :=
  Met l me.1 [Cond.code me.1 me.2.1 en.2.2.1 me.2.2.1] { frames := dep, cells := en.2.2.2.2.2.1, slots := en.2.2.2.2.2.2.1, locals := 64 * dep } (va_Pc As (fun U => zKn B U ∧ zyMI mi B zyJ0 U U.heap ∧ Φ (zyEl mi B U.heap))) (zyHq mi B Ψ) en.2.2.2.2.2.1 en.2.2.2.2.2.2.1 (fun q => zbs B ≤ q)
def xGcB (l : Launch) (mi : zyB) (B : zCx) (en : zEn) (me : zMe) (dep : Nat) (ps : List Nat) (na : Nat) (Φ : List Int32 → zyEm → Prop) (Ψ : List Int32 → zyEm → zyEm → Option Value → Prop) : Prop := ∀ (xs : List Int32), xs.length = na → xMt l mi B en me dep (xAg B ps xs) (Φ xs) (Ψ xs)
theorem xAg_74 (B : zCx) (xs : List Int32) : xAg B [74] xs = zyAr B xs := rfl
theorem xGc_of {l : Launch} {mi : zyB} {B : zCx} {en : zEn} {me : zMe} {dep na : Nat} {Φ : List Int32 → zyEm → Prop} {Ψ : List Int32 → zyEm → zyEm → Option Value → Prop} (h : zyHc l mi en me dep na Φ Ψ) : xGcB l mi B en me dep [74] na Φ Ψ := fun xs hx => h B xs hx
/-- the rules by hand: a call, an element stored, a byte made of an int -/
def xRu (l : Launch) (mi : zyB) (en : zEn) (dep : Nat) (B : zCx) (s : State) (Wg : zyWt) : Prop :=
  (∀ (pc ix ax : Nat) (en2 : zEn) (me2 : zMe) (dep2 p0 : Nat) (As : List Value) (Φ2 : zyEm → Prop) (Ψ2 : zyEm → zyEm → Option Value → Prop) (rs : List Value) (H : Heap) (locs : List Loc) (lsB : Array Slot), (rs.map fun v => v.category).sum ≤ 8 → en.1 pc = (.invokevirtual ix, pc + 3, ax) → zG zKd (ax / 16) = some 0 → zG zxMeta (ax / 16) = some en2 → zG zMeth (ax / 16) = some me2 → (∃ c, zG mi p0 = some c ∧ c.1 = en2.2.2.2.1 ∧ c.1 < 12) → As.length + 1 = en2.2.1 → en2.2.2.2.2.2.1 = 0 → en2.2.2.2.2.2.2.1 = 0 → xMt l mi B en2 me2 dep2 (.ref (zad B p0) :: As) Φ2 Ψ2 → dep2 + 1 ≤ dep → zyMI mi B zyJ0 s H → (∀ x ∈ locs, zbs B ≤ x.base) → lsB.size = en.2.2.1 → Φ2 (zyEl mi B H) →
    (∀ (H3 : Heap) (locs3 : List Loc) (vo : Option Value), zyMI mi B zyJ0 s H3 → zyOut mi B H H3 → (∀ x ∈ locs3, zbs B ≤ x.base) → Ψ2 (zyEl mi B H) (zyEl mi B H3) vo → Wg H3 locs3 (pc + 3) lsB (vo.toList ++ rs)) → Wg H locs pc lsB ((.ref (zad B p0) :: As : List Value).reverse ++ rs)) ∧
  (∀ (pc ax a n : Nat) (c : zyCl) (v : Int32) (H : Heap) (locs : List Loc) (lsB : Array Slot), ((c.1 = 20 ∧ en.1 pc = (.iastore, pc + 1, ax)) ∨ (c.1 = 22 ∧ en.1 pc = (.bastore, pc + 1, ax) ∧ -128 ≤ v.toInt ∧ v.toInt ≤ 127) ∨ (c.1 = 23 ∧ en.1 pc = (.bastore, pc + 1, ax) ∧ 0 ≤ v.toInt ∧ v.toInt ≤ 1)) → zG mi a = some c → n < c.2.1 → (∀ r ∈ c.2.2, r.1 ≤ n → n ≤ r.2.1 → r.2.2 % 8 = 2 ∧ r.2.2 / 34359738368 ≤ zB v ∧ zB v ≤ r.2.2 / 8 % 4294967296) → zyMI mi B zyJ0 s H → (∀ x ∈ locs, zbs B ≤ x.base) →
    (∀ (H3 : Heap) (locs3 : List Loc), zyMI mi B zyJ0 s H3 → zyOut mi B H H3 → (∀ x ∈ locs3, zbs B ≤ x.base) → zyEl mi B H3 a n = some (.int v) → (∀ a2 k2, ¬ (a2 = a ∧ k2 = n) → zyEl mi B H3 a2 k2 = zyEl mi B H a2 k2) → Wg H3 locs3 (pc + 1) lsB []) → Wg H locs pc lsB [.int v, .int (Int32.ofNat n), .ref (zad B a)]) ∧
  (∀ (pc ax : Nat) (v : Int32) (rs : List Value) (H : Heap) (locs : List Loc) (lsB : Array Slot), en.1 pc = (.i2b, pc + 1, ax) → Wg H locs (pc + 1) lsB (.int v.toInt8.toInt32 :: rs) → Wg H locs pc lsB (.int v :: rs))
theorem xRu_ok {l : Launch} {mi : zyB} {y0 dep : Nat} {en : zEn} {me : zMe} {p : Program} {e : Env} {s : State} {mt : MethodId} {args : Array Value} {below : List Frame} {meth : Method} {c : Code} {Q : State → Prop} {B : zCx} (hOK : zOK y0 en me) (hc0 : en.2.2.2.2.2.1 = 0) (hs0 : en.2.2.2.2.2.2.1 = 0) (hexec : p.tables.exec = Jvm.exec) (hb : c.code = me.2.1) (hml : c.maxLocals = en.2.2.1) (hown : s.vm.findClass me.2.2.2 = some mt.cls) (hK : zKn B s) :
    xRu l mi en dep B s (fun H locs pc lsB stA => W p l e { frames := dep, cells := en.2.2.2.2.2.1, slots := en.2.2.2.2.2.2.1, locals := 64 * dep } s mt args below meth c H locs 0 0 Q (F0 mt pc lsB stA)) := by
  refine ⟨?_, ?_, ?_⟩
  · intro pc ix ax en2 me2 dep2 p0 As Φ2 Ψ2 rs H locs lsB hrs hrow hkd hen2 hme2 how hna hc2 hs2 hHc hdp hI hlo hsz hΦ kk
    have hr := hOK.1 pc
    rw [hrow] at hr
    rcases hr with hn | ⟨hlen, hdec, pp, hlk⟩
    · cases hn
    obtain ⟨-, hd⟩ := zdec (k := 3) rfl (by decide) hlen hdec
    obtain ⟨me3, hme3, hO2⟩ := zall hen2
    rw [hme2] at hme3
    cases hme3
    obtain ⟨me3, hme3, hKi⟩ := zallk hen2 hkd
    rw [hme2] at hme3
    cases hme3
    have hcls2 := hO2.2.2.2.2.1
    have hml40 : en2.2.2.1 ≤ 40 := hO2.2.2.2.2.2.1
    have hrc : ∃ (a : Addr) (As2 : List Value), (.ref (zad B p0) :: As : List Value) = .ref a :: As2 ∧ ∃ cellB : Cell, H[a]? = some cellB ∧ cellB.vm.isStatics = false ∧ s.vm.findClass me2.2.2.2 = some cellB.cls := by
      obtain ⟨c74, hg, e11, e12⟩ := how
      refine ⟨zad B p0, _, rfl, ?_⟩
      rcases (hI.1 _ _ hg).2 with ⟨q1, cell, q2, q3, q4⟩ | ⟨ty, cA, f, q1, -⟩
      · refine ⟨cell, q2, by rw [q4]; rfl, ?_⟩
        have e1 : zcn en2.2.2.2.1 = me2.2.2.2 := hO2.2.2.2.1
        rw [q3, ← e1, ← e11]
        exact (hK.2.1 c74.1 _ (zvw _ e12)).2.1
      · have := zty_kd q1
        omega
    have hMet := hHc
    have hAl : ((.ref (zad B p0) :: As : List Value)).length = en2.2.1 := by
      rw [List.length_cons]
      exact hna
    have hrw := hrs
    have hlk2 : zlc me.2.2.2 ix ax pp 0 = true := hlk
    unfold zlc at hlk2
    rw [hme2] at hlk2
    simp only [Bool.or_eq_true, Bool.and_eq_true, decide_eq_true_eq] at hlk2
    have hrun : va_Run p l e { frames := dep, cells := en.2.2.2.2.2.1, slots := en.2.2.2.2.2.2.1, locals := 64 * dep } s mt args below meth c H locs 0 0 en2.2.2.2.2.2.1 en2.2.2.2.2.2.2.1 (F0 mt pc lsB (((.ref (zad B p0) :: As : List Value)).reverse ++ rs)) rs (zyHq mi B (Ψ2) ((.ref (zad B p0) :: As : List Value)).toArray) (fun q => zbs B ≤ q) := by
      rcases hlk2 with ⟨hkd, hw⟩ | ⟨hkd, hw⟩
      · exact zyrow_v hexec hb hml hown hK (zwd_mem hw) hcls2 hKi rfl hAl hrw hMet rfl rfl hdp (by show 8 + (en2.2.2.1 + 11) + 64 * dep2 ≤ 64 * dep; omega) (fun a U g mk hp => ⟨hp.1, zKn.same (s := U) rfl hp.2.1, (hp.2.2.1).moved (u := U) (Vm.Alike.refl U.vm), hp.2.2.2⟩) (fun U hU hW => ⟨rfl, hK.warm hW, by rw [hU]; exact hI.moved hW.alike, by rw [hU]; exact hΦ⟩) hrc (by rw [hc0, hs0, hc2, hs2]; exact ⟨Nat.le_refl _, Nat.le_refl _⟩) hsz hd
      · exact zyrow_vN hexec hb hml hown hK (zwd_mem hw) hcls2 hKi rfl hAl hrw hMet rfl rfl hdp (by show 8 + (en2.2.2.1 + 11) + 64 * dep2 ≤ 64 * dep; omega) (fun a U g mk hp => ⟨hp.1, zKn.same (s := U) rfl hp.2.1, (hp.2.2.1).moved (u := U) (Vm.Alike.refl U.vm), hp.2.2.2⟩) (fun U hU hW => ⟨rfl, hK.warm hW, by rw [hU]; exact hI.moved hW.alike, by rw [hU]; exact hΦ⟩) hrc (by rw [hc0, hs0, hc2, hs2]; exact ⟨Nat.le_refl _, Nat.le_refl _⟩) hsz hd
    refine zycont hrun hlo (fun st₀ t vo locs2 hh0 hQ hal hlo2 => ?_)
    obtain ⟨vo2, ho, -, hI2, hΨ, hout⟩ := hQ
    cases ho
    rw [hh0] at hΨ hout
    rw [hc2, hs2]
    exact kk t.heap locs2 vo (hI2.moved hal) hout hlo2 hΨ
  · intro pc ax a n c2 v H locs lsB hrow hg hn hrows hI hlo kk
    obtain ⟨hlt90, hsh⟩ := hI.1 _ _ hg
    have hc20 : 20 ≤ c2.1 := by rcases hrow with ⟨q, -⟩ | ⟨q, -⟩ | ⟨q, -⟩ <;> omega
    have hlenc : zyLen c2 = c2.2.1 := if_neg (by omega)
    rcases hsh with ⟨q1, -⟩ | ⟨ty, cA, f, q1, q2, q3, q4⟩
    · omega
    obtain ⟨p1, p2⟩ := zsmall (u := n) (by omega)
    have fin : ∀ (H1 : Heap) (locs3 : List Loc), H1[zad B a]? = some (arrV cA c2.2.1 (updV f n (.int v))) → (∀ q, q ≠ zad B a → H1[q]? = H[q]?) → (∀ z ∈ locs3, zbs B ≤ z.base) → W p l e { frames := dep, cells := en.2.2.2.2.2.1, slots := en.2.2.2.2.2.2.1, locals := 64 * dep } s mt args below meth c H1 locs3 0 0 Q (F0 mt (pc + 1) lsB []) := by
      intro H1 locs3 f1 f3 hlo3
      have hM0 : zyMem (mi, fun _ => [], [(a, n, n)], [], 0) (B, fun _ => 0, 0, fun _ => 0, 0, (zyEl mi B H, fun q => H[q]?), zyJ0) s [] H := zyMem_new hI (fun p hp => by cases hp)
      have hel : zyEl mi B H1 a n = some (.int v) := by
        rw [zyEl_some hg (by rw [hlenc]; exact hn), f1, Option.bind_some, if_neg (by omega), arrV_read _ _ hn]
        unfold updV
        rw [if_pos rfl]
      have hMem : zyMem (mi, fun _ => [], [(a, n, n)], [], 0) (B, fun _ => 0, 0, fun _ => 0, 0, (zyEl mi B H, fun q => H[q]?), zyJ0) s [] H1 := by
        refine zyMem.upd (s := s) (x := .int v) ⟨hK, zyJ0_p (fun p hp => by cases hp)⟩ hM0 hg (by rw [hlenc]; exact hn) f3 (Or.inr ⟨ty, cA, _, q1, f1, q3, q4⟩) hel (fun k0 hk0 hne => ?_) (zyin_iff.mpr ⟨(a, n, n), List.mem_cons_self, rfl, Nat.le_refl _, Nat.le_refl _⟩) rfl ?_ (fun a1 c1 k1 w1 _ _ _ h => h)
        · rw [zyEl_some hg hk0, zyEl_some hg hk0, f1, q2, Option.bind_some, Option.bind_some]
          rw [hlenc] at hk0
          rw [if_neg (by omega), arrV_read _ _ hk0, arrV_read _ _ hk0]
          unfold updV
          rw [if_neg hne]
        · intro r hr r1 r2
          obtain ⟨g1, g2, g3⟩ := hrows r hr r1 r2
          refine ⟨by omega, Or.inl ⟨Or.inr (Or.inr (Or.inl ⟨g1, v, rfl, g2, g3⟩)), fun q => by omega, fun q => by omega⟩⟩
      refine kk H1 locs3 (hMem.base (w := (0, [])) (fun k p hp => by simp at hp) rfl) (fun q hq => hMem.2.2.2.2.2 q hq) hlo3 hel (fun a2 k2 hne => hMem.2.2.1 a2 k2 ?_)
      cases hq : zyin [(a, n, n)] a2 k2 with
      | false => rfl
      | true =>
        obtain ⟨p0, g1, g2, g3, g4⟩ := zyin_iff.mp hq
        rw [List.mem_singleton.mp g1] at g2 g3 g4
        exact absurd ⟨g2.symm, by dsimp only at g3 g4; omega⟩ hne
    have lo3 : ∀ z ∈ locs ++ [(⟨zad B a, n⟩ : Loc)], zbs B ≤ z.base := by
      intro z hz
      rcases List.mem_append.mp hz with h7 | h7
      · exact hlo z h7
      · rw [List.mem_singleton] at h7
        rw [h7]
        exact zyad_ge hlt90
    rcases hrow with ⟨hg1, hrow⟩ | ⟨hg1, hrow, v1, v2⟩ | ⟨hg1, hrow, v1, v2⟩
    · have hr := hOK.1 pc
      rw [hrow] at hr
      rcases hr with hn' | ⟨hlen, hdec, pp, hlk⟩
      · cases hn'
      obtain ⟨-, hd⟩ := zdec (k := 1) rfl (by decide) hlen hdec
      have q5 := q1
      rw [hg1] at q5
      have q5 : some FieldType.int = some ty := q5
      cases q5
      refine W.iast hexec hb q2 (q3 _ _) (fun z => by cases z) (by rw [arrV_size, p2]; exact fun z => z.elim p1 (by omega)) rfl rfl hd (fun H1 f1 f2 f3 => ?_)
      rw [p2, arrV_store] at f1
      exact fin H1 _ f1 f3 (by rw [p2]; exact lo3)
    · have hr := hOK.1 pc
      rw [hrow] at hr
      rcases hr with hn' | ⟨hlen, hdec, pp, hlk⟩
      · cases hn'
      obtain ⟨-, hd⟩ := zdec (k := 1) rfl (by decide) hlen hdec
      have q5 := q1
      rw [hg1] at q5
      have q5 : some FieldType.byte = some ty := q5
      cases q5
      refine W.bast hexec hb q2 (q3 _ _) (fun z => by cases z) (by rw [arrV_size, p2]; exact fun z => z.elim p1 (by omega)) rfl rfl hd (fun H1 f1 f2 f3 => ?_)
      have e3 : v.toInt8.toInt32 = v := by
        apply Int32.toInt_inj.mp
        rw [Int8.toInt_toInt32, Int32.toInt_toInt8]
        apply Int.bmod_eq_of_le
        · omega
        · omega
      rw [p2, arrV_store, show narrow .byte (.int v) = Value.int v.toInt8.toInt32 from rfl, e3] at f1
      exact fin H1 _ f1 f3 (by rw [p2]; exact lo3)
    · have hr := hOK.1 pc
      rw [hrow] at hr
      rcases hr with hn' | ⟨hlen, hdec, pp, hlk⟩
      · cases hn'
      obtain ⟨-, hd⟩ := zdec (k := 1) rfl (by decide) hlen hdec
      have q5 := q1
      rw [hg1] at q5
      have q5 : some FieldType.boolean = some ty := q5
      cases q5
      refine W.zast hexec hb q2 (q3 _ _) (fun z => by cases z) (by rw [arrV_size, p2]; exact fun z => z.elim p1 (by omega)) rfl rfl hd (fun H1 f1 f2 f3 => ?_)
      have e3 : narrow .boolean (.int v) = .int v := by
        have bx := zB_int v
        rcases zybool (x := v) (by omega) (by omega) with rfl | rfl <;> decide
      rw [p2, arrV_store, e3] at f1
      exact fin H1 _ f1 f3 (by rw [p2]; exact lo3)
  · intro pc ax v rs H locs lsB hrow kk
    have hr := hOK.1 pc
    rw [hrow] at hr
    rcases hr with hn' | ⟨hlen, hdec, pp, hlk⟩
    · cases hn'
    obtain ⟨-, hd⟩ := zdec (k := 1) rfl (by decide) hlen hdec
    exact lv_i2b hexec hb hd rfl kk
