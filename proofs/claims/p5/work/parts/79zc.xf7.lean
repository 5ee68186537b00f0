/-! LONGS, by hand: fields, elements, arithmetic -/
def xRl (mi : zyB) (en : zEn) (B : zCx) (s : State) (Wg : zyWt) : Prop :=
  (∀ (pc ix ax p0 : Nat) (c : zyCl) (v : Value) (rs : List Value) (H : Heap) (locs : List Loc) (lsB : Array Slot), en.1 pc = (.getfield ix, pc + 3, ax) → zG mi p0 = some c → c.1 = ax / 64 → c.1 < 12 → zyMI mi B zyJ0 s H → zyEl mi B H p0 (ax % 64) = some v → Wg H locs (pc + 3) lsB (v :: rs) → Wg H locs pc lsB (.ref (zad B p0) :: rs)) ∧
  (∀ (pc ix ax p0 : Nat) (c : zyCl) (x : Int64) (rs : List Value) (H : Heap) (locs : List Loc) (lsB : Array Slot), en.1 pc = (.putfield ix, pc + 3, ax) → zG mi p0 = some c → c.1 = ax / 64 → c.1 < 12 → Nat.mod (zxK ax) 8 = 2 → zxK ax ≤ 7 → (∀ r ∈ c.2.2, r.1 ≤ ax % 64 → ax % 64 ≤ r.2.1 → r.2.2 = 147573952589676412932) → zyMI mi B zyJ0 s H → (∀ x ∈ locs, zbs B ≤ x.base) →
    (∀ (H3 : Heap) (locs3 : List Loc), zyMI mi B zyJ0 s H3 → zyOut mi B H H3 → (∀ x ∈ locs3, zbs B ≤ x.base) → zyEl mi B H3 p0 (ax % 64) = some (.long x) → (∀ a2 k2, ¬ (a2 = p0 ∧ k2 = ax % 64) → zyEl mi B H3 a2 k2 = zyEl mi B H a2 k2) → Wg H3 locs3 (pc + 3) lsB rs) → Wg H locs pc lsB (.long x :: .ref (zad B p0) :: rs)) ∧
  (∀ (pc ax a n : Nat) (c : zyCl) (v : Value) (rs : List Value) (H : Heap) (locs : List Loc) (lsB : Array Slot), (c.1 = 22 ∧ en.1 pc = (.baload, pc + 1, ax) ∨ c.1 = 21 ∧ en.1 pc = (.laload, pc + 1, ax)) → zG mi a = some c → n < c.2.1 → zyMI mi B zyJ0 s H → zyEl mi B H a n = some v → Wg H locs (pc + 1) lsB (v :: rs) → Wg H locs pc lsB (.int (Int32.ofNat n) :: .ref (zad B a) :: rs)) ∧
  (∀ (pc ix ax : Nat) (rs : List Value) (H : Heap) (locs : List Loc) (lsB : Array Slot), en.1 pc = (.ldc2_w ix, pc + 3, ax) → Wg H locs (pc + 3) lsB (.long (Int64.ofNat ax) :: rs) → Wg H locs pc lsB rs) ∧
  (∀ (pc ax : Nat) (x y : Int64) (rs : List Value) (H : Heap) (locs : List Loc) (lsB : Array Slot), (en.1 pc = (.lmul, pc + 1, ax) → Wg H locs (pc + 1) lsB (.long (x * y) :: rs) → Wg H locs pc lsB (.long y :: .long x :: rs)) ∧ (en.1 pc = (.ladd, pc + 1, ax) → Wg H locs (pc + 1) lsB (.long (x + y) :: rs) → Wg H locs pc lsB (.long y :: .long x :: rs)) ∧ (en.1 pc = (.lsub, pc + 1, ax) → Wg H locs (pc + 1) lsB (.long (x - y) :: rs) → Wg H locs pc lsB (.long y :: .long x :: rs)) ∧ (en.1 pc = (.lcmp, pc + 1, ax) → Wg H locs (pc + 1) lsB (.int (lg_cmp x y) :: rs) → Wg H locs pc lsB (.long y :: .long x :: rs))) ∧
  (∀ (pc ax : Nat) (x : Int32) (rs : List Value) (H : Heap) (locs : List Loc) (lsB : Array Slot), en.1 pc = (.i2l, pc + 1, ax) → Wg H locs (pc + 1) lsB (.long x.toInt64 :: rs) → Wg H locs pc lsB (.int x :: rs)) ∧
  (∀ (pc ax : Nat) (k : Fin 4) (q : Nat) (rs : List Value) (H : Heap) (locs : List Loc) (lsB : Array Slot), en.1 pc = (.aload_n k, pc + 1, ax) → lsB[(k : Nat)]? = some (.val (.ref q)) → Wg H locs (pc + 1) lsB (.ref q :: rs) → Wg H locs pc lsB rs) ∧
  (∀ (pc ax : Nat) (o : Int) (rs : List Value) (H : Heap) (locs : List Loc) (lsB : Array Slot), en.1 pc = (.goto o, pc + 3, ax) → Wg H locs ax lsB rs → Wg H locs pc lsB rs) ∧
  (∀ (pc ax : Nat) (k : Fin 2) (rs : List Value) (H : Heap) (locs : List Loc) (lsB : Array Slot), en.1 pc = (.lconst k, pc + 1, ax) → Wg H locs (pc + 1) lsB (.long (Int64.ofNat (k : Nat)) :: rs) → Wg H locs pc lsB rs) ∧
  (∀ (pc ax : Nat) (k : Fin 4) (x : Int32) (rs : List Value) (H : Heap) (locs : List Loc) (lsB : Array Slot), en.1 pc = (.iload_n k, pc + 1, ax) → lsB[(k : Nat)]? = some (.val (.int x)) → Wg H locs (pc + 1) lsB (.int x :: rs) → Wg H locs pc lsB rs)
theorem xRl_ok {l : Launch} {mi : zyB} {y0 dep : Nat} {en : zEn} {me : zMe} {p : Program} {e : Env} {s : State} {mt : MethodId} {args : Array Value} {below : List Frame} {meth : Method} {c : Code} {Q : State → Prop} {B : zCx} (hOK : zOK y0 en me) (hexec : p.tables.exec = Jvm.exec) (hb : c.code = me.2.1) (hown : s.vm.findClass me.2.2.2 = some mt.cls) (hK : zKn B s) :
    xRl mi en B s (fun H locs pc lsB stA => W p l e { frames := dep, cells := en.2.2.2.2.2.1, slots := en.2.2.2.2.2.2.1, locals := 64 * dep } s mt args below meth c H locs 0 0 Q (F0 mt pc lsB stA)) := by
  refine ⟨?_, ?_, ?_, ?_, ?_, ?_, ?_, ?_, ?_, ?_⟩
  · intro pc ix ax p0 c2 v rs H locs lsB hrow hg hc1 hc12 hI hel kk
    have hr := hOK.1 pc
    rw [hrow] at hr
    rcases hr with hn | ⟨hlen, hdec, pp, hlk⟩
    · cases hn
    obtain ⟨-, hd⟩ := zdec (k := 3) rfl (by decide) hlen hdec
    have hlk : zlf me.2.2.2 ix ax pp = true := hlk
    have hcx : ax / 64 < 12 := by omega
    unfold zlf at hlk
    rw [if_neg (by omega), if_neg (by omega)] at hlk
    simp only [Bool.and_eq_true, Bool.or_eq_true, decide_eq_true_eq] at hlk
    obtain ⟨⟨-, hkN⟩, hlk⟩ := hlk
    have hlen2 : zyLen c2 = zxCn (ax / 64) := by
      rw [← hc1]
      exact if_pos hc12
    obtain ⟨-, hsh⟩ := hI.1 _ _ hg
    rcases hsh with ⟨q1, cell, q2, q3, q4⟩ | ⟨ty, cA, f, q1, -⟩
    rotate_left
    · exfalso
      have := zty_kd q1
      omega
    have hsl : cell.slots[zdI B (ax / 64) (ax % 64)]? = some v := by
      rw [zyEl_some hg (by rw [hlen2]; exact hkN), q2, Option.bind_some] at hel
      rw [if_pos hc12, hc1] at hel
      exact hel
    obtain ⟨hSl, hfc, kC, hkC, hkind⟩ := hK.2.1 (ax / 64) _ (zvw _ hcx)
    obtain ⟨cf0, kf, fi, f, hi, hse⟩ := hSl (ax % 64) hkN
    have hstat := (u_facts (args := args) hfc hkC (u_lays (zTs_ok hK) (zTs_in hcx) hkN) hi).1
    rcases hlk with hlk | hlk
    · exact W.getf hexec hb hown (zword (args := args) hK (zwd_mem hlk) rfl) hi hstat q2 (by rw [q4]; exact fun z => by cases z) (v := v) (by rw [hse]; exact hsl) rfl rfl hd kk
    · exact va_Wgetf hexec hb hown (zword (args := args) hK (zwd_mem hlk) rfl) hi hstat q2 (by rw [q4]; exact fun z => by cases z) (v := v) (by rw [hse]; exact hsl) rfl rfl hd kk
  · intro pc ix ax p0 c2 x rs H locs lsB hrow hg hc1 hc12 hk2 hk7 hrows hI hlo kk
    have hr := hOK.1 pc
    rw [hrow] at hr
    rcases hr with hn | ⟨hlen, hdec, pp, hlk⟩
    · cases hn
    obtain ⟨-, hd⟩ := zdec (k := 3) rfl (by decide) hlen hdec
    have hlk : (decide (ax < 768) && zlf me.2.2.2 ix ax pp) = true := hlk
    rw [Bool.and_eq_true] at hlk
    have hlk := hlk.2
    have hcx : ax / 64 < 12 := by omega
    unfold zlf at hlk
    rw [if_neg (by omega), if_neg (by omega)] at hlk
    simp only [Bool.and_eq_true, Bool.or_eq_true, decide_eq_true_eq] at hlk
    obtain ⟨⟨-, hkN⟩, hlk⟩ := hlk
    have hlen2 : zyLen c2 = zxCn (ax / 64) := by
      rw [← hc1]
      exact if_pos hc12
    obtain ⟨hlt90, hsh⟩ := hI.1 _ _ hg
    rcases hsh with ⟨q1, cell, q2, q3, q4⟩ | ⟨ty, cA, f, q1, -⟩
    rotate_left
    · exfalso
      have := zty_kd q1
      omega
    obtain ⟨z1, z2, z3, -⟩ := zkks (ax / 64) hcx (ax % 64) hkN
    have e64 : 64 * (ax / 64) + ax % 64 = ax := by omega
    rw [e64] at z1 z2
    have hM0 : zyMem (mi, fun _ => [], [(p0, ax % 64, ax % 64)], [], 0) (B, fun _ => 0, 0, fun _ => 0, 0, (zyEl mi B H, fun q => H[q]?), zyJ0) s [] H := zyMem_new hI (fun p hp => by cases hp)
    have hvl : zyV (B, fun _ => 0, 0, fun _ => 0, 0, (zyEl mi B H, fun q => H[q]?), zyJ0) 147573952589676412932 (.long x) := zyv_anyL x
    obtain ⟨hnar, hfit⟩ := zyfit_iff (w := (0, [])) (g := Nat.mod (zxK ax) 8) (by rw [hk2]; rfl) (fun k p hp => by simp at hp) hvl z1
    obtain ⟨x0, hel0, -⟩ := hM0.2.1 _ _ (ax % 64) hg (by rw [hlen2]; exact hkN)
    have hsl : cell.slots[zdI B (ax / 64) (ax % 64)]? = some x0 := by
      rw [zyEl_some hg (by rw [hlen2]; exact hkN), q2, Option.bind_some] at hel0
      rw [if_pos hc12, hc1] at hel0
      exact hel0
    obtain ⟨hSl, hfc, kC, hkC, hkind⟩ := hK.2.1 (ax / 64) _ (zvw _ hcx)
    obtain ⟨cf0, kf, fi, f, hi, hse⟩ := hSl (ax % 64) hkN
    have hul := u_lays (zTs_ok (args := args) hK) (zTs_in hcx) hkN
    have hstat := (u_facts (args := args) hfc hkC hul hi).1
    have hft := u_fits hfc hkC hkind hul hi (ztys (ax / 64) hcx (ax % 64) hkN) hnar hfit
    have hlay := zTs_ok (args := args) hK _ (zTs_in hcx _ (u_in_lay hkN))
    have hfin2 : hasFlag f.accessFlags Acc.final = false ∨ (mt.cls = cf0 ∧ meth.name = "<init>") := by
      cases hfl : (zTX (ax / 64) (ax % 64)).2.2.2 with
      | false =>
        unfold u_lay at hlay
        rw [if_neg (by rw [hfl]; decide)] at hlay
        exact Or.inl (u_store hfc hkC hkind hlay hi (ztys (ax / 64) hcx (ax % 64) hkN) hnar hfit).1
      | true =>
        exfalso
        rw [hfl] at z2
        have z2 := zbleT z2.symm
        omega
    have hal : zad B p0 < H.size := (Array.getElem?_eq_some_iff.mp q2).1
    have hslt : f.slot < cell.slots.size := by rw [hse]; exact k2_hasslot hsl
    have go : W p l e { frames := dep, cells := en.2.2.2.2.2.1, slots := en.2.2.2.2.2.2.1, locals := 64 * dep } s mt args below meth c (H.setIfInBounds (zad B p0) (cell.setSlot f.slot (.long x))) (locs ++ [⟨zad B p0, f.slot⟩]) 0 0 Q (F0 mt (pc + 3) lsB rs) := by
      have hH1 : (H.setIfInBounds (zad B p0) (cell.setSlot f.slot (.long x)))[zad B p0]? = some (cell.setSlot f.slot (.long x)) := by simp [Array.getElem?_setIfInBounds, hal]
      have hel : zyEl mi B (H.setIfInBounds (zad B p0) (cell.setSlot f.slot (.long x))) p0 (ax % 64) = some (.long x) := by
        rw [zyEl_some hg (by rw [hlen2]; exact hkN), hH1, Option.bind_some]
        rw [if_pos hc12, hc1, hse]
        rw [hse] at hslt
        simp [Cell.setSlot, hslt]
      have hMem : zyMem (mi, fun _ => [], [(p0, ax % 64, ax % 64)], [], 0) (B, fun _ => 0, 0, fun _ => 0, 0, (zyEl mi B H, fun q => H[q]?), zyJ0) s [] (H.setIfInBounds (zad B p0) (cell.setSlot f.slot (.long x))) := by
        refine zyMem.upd (s := s) (x := .long x) ⟨hK, zyJ0_p (fun p hp => by cases hp)⟩ hM0 hg (by rw [hlen2]; exact hkN) (fun b hb => by simp [Array.getElem?_setIfInBounds, Ne.symm hb]) (Or.inl ⟨q1, cell.setSlot f.slot (.long x), hH1, q3, q4⟩) hel (fun k1 hk1 hne => ?_) (zyin_iff.mpr ⟨(p0, ax % 64, ax % 64), List.mem_cons_self, rfl, Nat.le_refl _, Nat.le_refl _⟩) rfl ?_ (fun a1 c1 k1 w1 _ _ _ h => h)
        · rw [zyEl_some hg hk1, zyEl_some hg hk1, hH1, q2, Option.bind_some, Option.bind_some]
          rw [if_pos hc12]
          rw [hlen2] at hk1
          have hne2 := zapart hK hcx k1 (ax % 64) hk1 hkN hne
          rw [hse, hc1]
          simp only [Cell.setSlot]
          rw [Array.getElem?_setIfInBounds_ne (fun q => hne2 q.symm)]
        · intro r hr r1 r2
          rw [hrows r hr r1 r2]
          exact ⟨by omega, zyv_anyL x⟩
      refine kk _ _ (hMem.base (w := (0, [])) (fun k p hp => by simp at hp) rfl) (fun q hq => hMem.2.2.2.2.2 q hq) (fun z hz => ?_) hel (fun a2 k2 hne => hMem.2.2.1 a2 k2 ?_)
      · rcases List.mem_append.mp hz with h7 | h7
        · exact hlo z h7
        · rw [List.mem_singleton] at h7
          rw [h7]
          exact zyad_ge hlt90
      · cases hq : zyin [(p0, ax % 64, ax % 64)] a2 k2 with
        | false => rfl
        | true =>
          obtain ⟨p1, g1, g2, g3, g4⟩ := zyin_iff.mp hq
          rw [List.mem_singleton.mp g1] at g2 g3 g4
          exact absurd ⟨g2.symm, by dsimp only at g3 g4; omega⟩ hne
    rcases hlk with hlk | hlk
    · exact W.putf hexec hb hown (zword (args := args) hK (zwd_mem hlk) rfl) hi hstat hfin2 q2 (by rw [q4]; exact fun z => by cases z) hslt hft.1 (by rw [q3, q4, hc1]; exact hft.2) rfl rfl hd go
    · exact va_Wputf hexec hb hown (zword (args := args) hK (zwd_mem hlk) rfl) hi hstat hfin2 q2 (by rw [q4]; exact fun z => by cases z) hslt hft.1 (by rw [q3, q4, hc1]; exact hft.2) rfl rfl hd go
  · intro pc ax a n c2 v rs H locs lsB hrow hg hn hI hel kk
    obtain ⟨hlt90, hsh⟩ := hI.1 _ _ hg
    have hc20 : 20 ≤ c2.1 := by rcases hrow with ⟨q, -⟩ | ⟨q, -⟩ <;> omega
    have hlenc : zyLen c2 = c2.2.1 := if_neg (by omega)
    rcases hsh with ⟨q1, -⟩ | ⟨ty, cA, f, q1, q2, q3, q4⟩
    · omega
    obtain ⟨p1, p2⟩ := zsmall (u := n) (by omega)
    have hx : (arrV cA c2.2.1 f).slots[(Int32.ofNat n).toNatClampNeg]? = some v := by
      rw [p2, arrV_read _ _ hn]
      rw [zyEl_some hg (by rw [hlenc]; exact hn), q2, Option.bind_some, if_neg (by omega), arrV_read _ _ hn] at hel
      exact hel
    rcases hrow with ⟨hg1, hrow⟩ | ⟨hg1, hrow⟩
    · have hr := hOK.1 pc
      rw [hrow] at hr
      rcases hr with hn' | ⟨hlen, hdec, pp, hlk⟩
      · cases hn'
      obtain ⟨-, hd⟩ := zdec (k := 1) rfl (by decide) hlen hdec
      have q5 := q1
      rw [hg1] at q5
      have q5 : some FieldType.byte = some ty := q5
      cases q5
      exact W.bald hexec hb q2 (q3 _ _) (fun z => by cases z) (by rw [arrV_size, p2]; exact fun z => z.elim p1 (by omega)) hx rfl rfl hd kk
    · have hr := hOK.1 pc
      rw [hrow] at hr
      rcases hr with hn' | ⟨hlen, hdec, pp, hlk⟩
      · cases hn'
      obtain ⟨-, hd⟩ := zdec (k := 1) rfl (by decide) hlen hdec
      have q5 := q1
      rw [hg1] at q5
      have q5 : some FieldType.long = some ty := q5
      cases q5
      exact W.lald hexec hb q2 (q3 _ _) (fun z => by cases z) (by rw [arrV_size, p2]; exact fun z => z.elim p1 (by omega)) hx rfl rfl hd kk
  · intro pc ix ax rs H locs lsB hrow kk
    have hr := hOK.1 pc
    rw [hrow] at hr
    rcases hr with hn' | ⟨hlen, hdec, pp, hlk⟩
    · cases hn'
    obtain ⟨-, hd⟩ := zdec (k := 3) rfl (by decide) hlen hdec
    exact lv_ldc2 hexec hb hown (zword (args := args) hK (zwd_mem (of_decide_eq_true hlk)) rfl) hd kk
  · intro pc ax x y rs H locs lsB
    refine ⟨?_, ?_, ?_, ?_⟩
    all_goals
      intro hrow kk
      have hr := hOK.1 pc
      rw [hrow] at hr
      rcases hr with hn' | ⟨hlen, hdec, pp, hlk⟩
      · cases hn'
      obtain ⟨-, hd⟩ := zdec (k := 1) rfl (by decide) hlen hdec
      first | exact lv_lmul hexec hb hd kk | exact lv_ladd hexec hb hd kk | exact lv_lsub hexec hb hd kk | exact W.lcmp hexec hb hd kk
  · intro pc ax x rs H locs lsB hrow kk
    have hr := hOK.1 pc
    rw [hrow] at hr
    rcases hr with hn' | ⟨hlen, hdec, pp, hlk⟩
    · cases hn'
    obtain ⟨-, hd⟩ := zdec (k := 1) rfl (by decide) hlen hdec
    exact lv_i2l hexec hb hd rfl kk
  · intro pc ax k q rs H locs lsB hrow hq kk
    have hr := hOK.1 pc
    rw [hrow] at hr
    rcases hr with hn' | ⟨hlen, hdec, pp, hlk⟩
    · cases hn'
    obtain ⟨-, hd⟩ := zdec (k := 1) rfl (by decide) hlen hdec
    exact lv_aload_n hexec hb hd rfl hq kk
  · intro pc ax o rs H locs lsB hrow kk
    have hr := hOK.1 pc
    rw [hrow] at hr
    rcases hr with hn' | ⟨hlen, hdec, pp, hlk⟩
    · cases hn'
    obtain ⟨-, hd⟩ := zdec (k := 3) rfl (by decide) hlen hdec
    exact lv_goto hexec hb hd (of_decide_eq_true hlk) kk
  · intro pc ax k rs H locs lsB hrow kk
    have hr := hOK.1 pc
    rw [hrow] at hr
    rcases hr with hn' | ⟨hlen, hdec, pp, hlk⟩
    · cases hn'
    obtain ⟨-, hd⟩ := zdec (k := 1) rfl (by decide) hlen hdec
    exact lv_lconst hexec hb hd rfl kk
  · intro pc ax k x rs H locs lsB hrow hx kk
    have hr := hOK.1 pc
    rw [hrow] at hr
    rcases hr with hn' | ⟨hlen, hdec, pp, hlk⟩
    · cases hn'
    obtain ⟨-, hd⟩ := zdec (k := 1) rfl (by decide) hlen hdec
    exact lv_iload_n hexec hb hd rfl hx kk
