/-! THE MACHINE's STEPS: fields, arrays, making -/
def zTs : List Cond := lw_tbl.filter zgood
section ZM
variable {p : Program} {l : Launch} {e : Env} {R : Room} {s : State} {mt : MethodId} {args : Array Value} {below : List Frame} {meth : Method} {c : Code} {Q : State → Prop} {X : zCx} {cf : Nat → zT} {y : zY} {fs : List zFr} {nL : Nat} {d : Nat × Nat × Nat} {k : zK}
variable {w : zW} {pc nx ax : Nat} {ls st : List Nat} {q : zQ} {m : zM} {H : Heap} {locs : List Loc} {lsA : Array Slot} {stA : List Value} {own : String} {cc : ByteArray} {idx pp : Nat}
theorem zword (hK : zKn X s) {v : Cond} (h : v ∈ lw_tbl) (hg : zgood v = true) : v.before args s = true := hK.1 v h hg args
theorem zTs_ok (hK : zKn X s) : ∀ v ∈ zTs, v.before args s = true := fun v h => hK.1 v (List.mem_filter.mp h).1 (List.mem_filter.mp h).2 args
theorem zTs_in {cI : Nat} (h : cI < 12) : ∀ v ∈ u_ws (zcn cI) (zTX cI) (zxCn cI), v ∈ zTs := by
  intro v hv
  obtain ⟨j, hj, rfl⟩ := List.mem_map.mp hv
  obtain ⟨h1, h2⟩ := zlays cI h j (List.mem_range.mp hj)
  exact List.mem_filter.mpr ⟨h1, h2⟩
theorem zapart (hK : zKn X s) {cI : Nat} (h : cI < 12) : ∀ a b, a < zxCn cI → b < zxCn cI → a ≠ b → zdI X cI a ≠ zdI X cI b :=
  va_apart (own := "") (args := #[]) (s := s) (D := (zdC X, zdI X)) (cl := vwCl) (tys := []) (ci := cI) (zTs_ok hK) (zTs_in h) (ztyX cI) (ztys cI h) (znms cI h) ⟨hK.2.1, fun k q h => by simp at h⟩ (zvw cI h)
theorem zlowH (hM : zMem X s w.1 m H) : ∀ a : Nat, a < (zH0 X).size → ¬ zUp X a → H[a]? = (zH0 X)[a]? := fun a _ h => hM.2.2.2 a (Nat.not_le.mp h)
theorem zhigh {a : Nat} (h : 90000 ≤ a) : zad X a = zhi X a := by
  unfold zad
  rw [if_neg (by omega)]
theorem zw_getf (hexec : p.tables.exec = Jvm.exec) (hb : c.code = cc) (hown : s.vm.findClass own = some mt.cls) (hK : zKn X s) (hlk : zlf own idx ax pp = true) (hdg : decode cc pc = .ok (.getfield idx, 3)) (hnx : nx = pc + 3)
    (hKS : zKS p l e R s mt args below meth c Q X cf y fs nL d k) (h : zo_getf nx ax k w cf y pc ls st q fs m = true) (hR : zRl X s nL d w ls st q m H locs lsA stA) : W p l e R s mt args below meth c H locs q.2.1 q.2.2 Q (F0 mt pc lsA stA) := by
  subst hnx
  unfold zo_getf at h
  simp only [zfr_eq, zn_m, zn_d, zn_a, zn_s, zn_c] at h
  obtain ⟨a, r, es, h'⟩ := zpop_iff h
  clear h
  have h := h'
  clear h'
  subst es
  obtain ⟨x', stB, rfl, ha, hS2⟩ := zSt_c hR.2.2.2.2.1
  rcases zif_iff h with ⟨h1, h⟩ | ⟨-, h⟩
  rotate_left
  · cases h
  have ea := zv_3 ha (zbeqT h1)
  have e8 : a % 8 = 3 := zbeqT h1
  subst ea
  have hlow := zlowH (w := w) hR.2.1
  rcases zif_iff h with ⟨h2, h⟩ | ⟨h2, h⟩
  · have h2 := zbleT h2
    rcases zif_iff h with ⟨h3, h⟩ | ⟨-, h⟩
    rotate_left
    · cases h
    have h3 : a / 8 - 100000 + 1 ≤ 30 := zbleT h3
    obtain ⟨i, hi⟩ : ∃ i, a / 8 = 100000 + i := ⟨a / 8 - 100000, by omega⟩
    obtain ⟨-, -, hCo, hVa, -⟩ := hK.2.2.2.1 i (by omega)
    rw [hi, zhigh (by omega)] at ha ⊢
    unfold zlf at hlk
    rcases zif_iff h with ⟨h4, h⟩ | ⟨h4, h⟩
    · rw [if_pos (zbeqT h4), decide_eq_true_eq] at hlk
      have hln := zword (args := args) hK (zwd_mem hlk) rfl
      obtain ⟨cf0, kk, fi, f, cell, g1, g2, g3, g4, g5, g6⟩ := hVa.kept hlow
      refine W.getf hexec hb hown hln g1 g2 g3 g4 (v := .ref (zhi X (200000 + i))) g5 rfl rfl hdg (zgo hKS h hR rfl hR.1 ⟨?_, hS2⟩)
      have e9 : a + 800000 = 8 * (200000 + i) + 3 := by omega
      rw [e9, ← zhigh (X := X) (a := 200000 + i) (by omega)]
      exact zv_ref _
    · rcases zif_iff h with ⟨h5, h⟩ | ⟨-, h⟩
      rotate_left
      · cases h
      rw [if_neg (zbeqF h4), if_pos (zbeqT h5), decide_eq_true_eq] at hlk
      have hln := zword (args := args) hK (zwd_mem hlk) rfl
      obtain ⟨cf0, kk, fi, f, cell, g1, g2, g3, g4, g5, g6⟩ := hCo.kept hlow
      exact W.getf hexec hb hown hln g1 g2 g3 g4 (v := .int 0) g5 rfl rfl hdg (zgo hKS h hR rfl hR.1 ⟨zv_zero, hS2⟩)
  · obtain ⟨⟨tg, ln, ct⟩, hg, h⟩ := zget_iff h
    dsimp only at h
    rcases zif_iff h with ⟨h3, h⟩ | ⟨-, h⟩
    rotate_left
    · cases h
    have h3 : tg = ax / 64 := zbeqT h3
    obtain ⟨v, hv, h⟩ := zget_iff h
    unfold zlf at hlk
    by_cases n1 : ax = 832
    · obtain ⟨-, -, hc⟩ := hR.2.1.get hg (by dsimp only; omega)
      exfalso
      rcases hc with ⟨q1, -⟩ | ⟨ty, cA, f, q1, -⟩
      · have : tg < 12 := q1
        omega
      · have : zty tg = some ty := q1
        rw [h3, n1] at this
        cases this
    by_cases n2 : ax = 833
    · obtain ⟨-, -, hc⟩ := hR.2.1.get hg (by dsimp only; omega)
      exfalso
      rcases hc with ⟨q1, -⟩ | ⟨ty, cA, f, q1, -⟩
      · have : tg < 12 := q1
        omega
      · have : zty tg = some ty := q1
        rw [h3, n2] at this
        cases this
    rw [if_neg n1, if_neg n2] at hlk
    simp only [Bool.and_eq_true, Bool.or_eq_true, decide_eq_true_eq] at hlk
    obtain ⟨⟨hc12, hkN⟩, hlk⟩ := hlk
    have hfin := h
    subst h3
    obtain ⟨-, -, hc⟩ := hR.2.1.get hg (by dsimp only; omega)
    rcases hc with ⟨q1, cell, q2, q3, q4, q5⟩ | ⟨ty, cA, f, q1, -⟩
    rotate_left
    · exfalso
      have q1 : zty (ax / 64) = some ty := q1
      unfold zty at q1
      split at q1 <;> first | omega | cases q1
    obtain ⟨x, hx, hsl⟩ := q5 (ax % 64) v hkN hv
    obtain ⟨hSl, hfc, kC, hkC, hkind⟩ := hK.2.1 (ax / 64) _ (zvw _ hc12)
    obtain ⟨cf0, kf, fi, f, hi, hse⟩ := hSl (ax % 64) hkN
    have hstat := (u_facts (args := args) hfc hkC (u_lays (zTs_ok hK) (zTs_in hc12) hkN) hi).1
    rcases hlk with hlk | hlk
    · exact W.getf hexec hb hown (zword (args := args) hK (zwd_mem hlk) rfl) hi hstat q2 (by rw [q4]; exact fun z => by cases z) (v := x) (by rw [hse]; exact hsl) rfl rfl hdg (zgo hKS hfin hR rfl hR.1 ⟨hx, hS2⟩)
    · exact va_Wgetf hexec hb hown (zword (args := args) hK (zwd_mem hlk) rfl) hi hstat q2 (by rw [q4]; exact fun z => by cases z) (v := x) (by rw [hse]; exact hsl) rfl rfl hdg (zgo hKS hfin hR rfl hR.1 ⟨hx, hS2⟩)
theorem zfit_iff {g v : Nat} {x : Value} {ty : FieldType} (h : zfit g v = true) (hv : zV X v x) (ht : zkt ty = g) : narrow ty x = x ∧ fits ty x = true := by
  unfold zfit at h
  simp only [zn_m] at h
  rcases zif_iff h with ⟨h1, h⟩ | ⟨h1, h⟩
  · have e1 := zbeqT h1
    obtain ⟨n, rfl⟩ := zv_int hv (zbleT h)
    rw [e1] at ht
    cases ty <;> first | exact ⟨rfl, rfl⟩ | (exfalso; revert ht; decide) | (cases ht)
  rcases zif_iff h with ⟨h2, h⟩ | ⟨h2, h⟩
  · have e1 := zbeqT h2
    rw [e1] at ht
    have hx : x = .int 0 ∨ x = .int 1 := by
      rcases zif_iff h with ⟨h3, -⟩ | ⟨-, h3⟩
      · have e2 := zbeqT h3
        subst e2
        exact Or.inl (zv_0 hv rfl)
      · have e2 := zbeqT h3
        subst e2
        exact Or.inr (zv_0 hv rfl)
    cases ty <;> first | (rcases hx with rfl | rfl <;> exact ⟨by decide, by decide⟩) | (cases ht)
  rcases zif_iff h with ⟨h3, h⟩ | ⟨h3, h⟩
  · have e1 := zbeqT h3
    rw [e1] at ht
    have hx := zv_4 hv (zbeqT h)
    subst hx
    cases ty <;> first | exact ⟨rfl, rfl⟩ | (cases ht)
  rcases zif_iff h with ⟨h4, h⟩ | ⟨h4, h⟩
  · have e1 := zbeqT h4
    rw [e1] at ht
    have hx := zv_3 hv (zbeqT h)
    subst hx
    cases ty <;> first | exact ⟨rfl, rfl⟩ | (cases ht)
  · cases h
theorem zw_putf (hexec : p.tables.exec = Jvm.exec) (hb : c.code = cc) (hown : s.vm.findClass own = some mt.cls) (hK : zKn X s) (hlt : ax < 768) (hlk : zlf own idx ax pp = true) (hin : ¬ y.2.2.2.2 = 0 → meth.name = "<init>" ∧ own = zcn (y.2.2.2.2 - 1)) (hdg : decode cc pc = .ok (.putfield idx, 3)) (hnx : nx = pc + 3)
    (hKS : zKS p l e R s mt args below meth c Q X cf y fs nL d k) (h : zo_putf nx ax k w cf y pc ls st q fs m = true) (hR : zRl X s nL d w ls st q m H locs lsA stA) : W p l e R s mt args below meth c H locs q.2.1 q.2.2 Q (F0 mt pc lsA stA) := by
  subst hnx
  unfold zo_putf at h
  simp only [zfr_eq, zn_m, zn_d, zn_c] at h
  obtain ⟨v, t, es, h'⟩ := zpop_iff h
  clear h
  have h := h'
  clear h'
  subst es
  obtain ⟨a, r, es, h'⟩ := zpop_iff h
  clear h
  have h := h'
  clear h'
  subst es
  obtain ⟨x, stB, rfl, hv, hS2⟩ := zSt_c hR.2.2.2.2.1
  obtain ⟨a', stC, rfl, ha, hS3⟩ := zSt_c hS2
  rcases zif_iff h with ⟨h1, h⟩ | ⟨-, h⟩
  rotate_left
  · cases h
  obtain ⟨h1, h2⟩ := zand_iff h1
  obtain ⟨h2, h3⟩ := zand_iff h2
  have ea := zv_3 ha (zbeqT h1)
  subst ea
  obtain ⟨tg, ln, ct, hg, h⟩ := zcell_iff h
  rcases zif_iff h with ⟨h4, h⟩ | ⟨-, h⟩
  rotate_left
  · cases h
  have h4 : tg = ax / 64 := zbeqT h4
  subst h4
  obtain ⟨⟨o, ho⟩, h⟩ := zset_iff h
  unfold zlf at hlk
  rw [if_neg (by omega), if_neg (by omega)] at hlk
  simp only [Bool.and_eq_true, Bool.or_eq_true, decide_eq_true_eq] at hlk
  obtain ⟨⟨hc12, hkN⟩, hlk⟩ := hlk
  obtain ⟨ead, -, hc⟩ := hR.2.1.get hg (by dsimp only; omega)
  rcases hc with ⟨q1, cell, q2, q3, q4, q5⟩ | ⟨ty, cA, f, q1, -⟩
  rotate_left
  · exfalso
    have q1 : zty (ax / 64) = some ty := q1
    unfold zty at q1
    split at q1 <;> first | omega | cases q1
  obtain ⟨z1, z2, z3, -⟩ := zkks (ax / 64) hc12 (ax % 64) hkN
  have e64 : 64 * (ax / 64) + ax % 64 = ax := by omega
  rw [e64] at z1 z2
  obtain ⟨hnar, hfit⟩ := zfit_iff h2 hv z1
  obtain ⟨x0, hx0, hsl⟩ := q5 (ax % 64) o hkN ho
  obtain ⟨hSl, hfc, kC, hkC, hkind⟩ := hK.2.1 (ax / 64) _ (zvw _ hc12)
  obtain ⟨cf0, kf, fi, f, hi, hse⟩ := hSl (ax % 64) hkN
  have hul := u_lays (zTs_ok (args := args) hK) (zTs_in hc12) hkN
  have hstat := (u_facts (args := args) hfc hkC hul hi).1
  have hft := u_fits hfc hkC hkind hul hi (ztys (ax / 64) hc12 (ax % 64) hkN) hnar hfit
  have hlay := zTs_ok (args := args) hK _ (zTs_in hc12 _ (u_in_lay hkN))
  have hfin : hasFlag f.accessFlags Acc.final = false ∨ (mt.cls = cf0 ∧ meth.name = "<init>") := by
    cases hfl : (zTX (ax / 64) (ax % 64)).2.2.2 with
    | false =>
      unfold u_lay at hlay
      rw [if_neg (by rw [hfl]; decide)] at hlay
      exact Or.inl (u_store hfc hkC hkind hlay hi (ztys (ax / 64) hc12 (ax % 64) hkN) hnar hfit).1
    | true =>
      unfold u_lay at hlay
      rw [if_pos hfl] at hlay
      rw [hfl] at z2
      have z2 := zbleT z2.symm
      have h3 : Nat.beq y.2.2.2.2 (ax / 64 + 1) = true := by
        rcases zif_iff h3 with ⟨h5, -⟩ | ⟨-, h5⟩
        · have := zbleT h5
          omega
        · exact h5
      have h3 := zbeqT h3
      obtain ⟨hi1, hi2⟩ := hin (by omega)
      refine Or.inr ⟨?_, hi1⟩
      obtain ⟨_, _, c', _, _, _, -, -, hf', -, -, -, hown2, -⟩ := Cond.laysFinal_spec hlay
      have e1 : c' = cf0 := by have := hi.symm.trans hf'; simp at this; exact this.1.symm
      rw [z3] at hown2
      rw [hi2, h3, show ax / 64 + 1 - 1 = ax / 64 by omega] at hown
      rw [← e1]
      exact Option.some.inj (hown.symm.trans hown2)
  have hal : zad X (a / 8) < H.size := (Array.getElem?_eq_some_iff.mp q2).1
  have hslt : f.slot < cell.slots.size := by rw [hse]; exact k2_hasslot hsl
  have go : W p l e R s mt args below meth c (H.setIfInBounds (zad X (a / 8)) (cell.setSlot f.slot x)) (locs ++ [⟨zad X (a / 8), f.slot⟩]) q.2.1 q.2.2 Q (F0 mt (pc + 3) lsA stC) := by
    refine hKS _ _ _ _ _ _ _ _ _ _ h ⟨hR.1, hR.2.1.set hg (by dsimp only; omega) (by simp) (fun b hb => by simp [Array.getElem?_setIfInBounds, Ne.symm hb]) ?_, fun z hz => ?_, hR.2.2.2.1, hS3, hR.2.2.2.2.2⟩
    · refine Or.inl ⟨q1, cell.setSlot f.slot x, by simp [Array.getElem?_setIfInBounds, hal], q3, q4, fun j u hj hu => ?_⟩
      have hu : zG (zS ct (ax % 64) v) j = some u := hu
      rw [zG_set ho j] at hu
      have hj : j < zxCn (ax / 64) := hj
      by_cases hjk : j = ax % 64
      · rw [if_pos hjk] at hu
        cases hu
        refine ⟨x, hv, ?_⟩
        rw [hjk]
        show (cell.setSlot f.slot x).slots[zdI X (ax / 64) (ax % 64)]? = some x
        rw [hse]
        rw [hse] at hslt
        simp [Cell.setSlot, hslt]
      · rw [if_neg hjk] at hu
        obtain ⟨xu, hxu, hsu⟩ := q5 j u hj hu
        refine ⟨xu, hxu, ?_⟩
        have hne := zapart hK hc12 j (ax % 64) hj hkN hjk
        show (cell.setSlot f.slot x).slots[zdI X (ax / 64) j]? = some xu
        rw [hse]
        simp only [Cell.setSlot]
        rw [Array.getElem?_setIfInBounds_ne (fun q => hne q.symm)]
        exact hsu
    · rcases List.mem_append.mp hz with h6 | h6
      · exact hR.2.2.1 z h6
      · rw [List.mem_singleton] at h6
        rw [h6]
        show zbs X ≤ zad X (a / 8)
        rw [ead]; omega
  rcases hlk with hlk | hlk
  · exact W.putf hexec hb hown (zword (args := args) hK (zwd_mem hlk) rfl) hi hstat hfin q2 (by rw [q4]; exact fun z => by cases z) hslt hft.1 (by rw [q3, q4]; exact hft.2) rfl rfl hdg go
  · exact va_Wputf hexec hb hown (zword (args := args) hK (zwd_mem hlk) rfl) hi hstat hfin q2 (by rw [q4]; exact fun z => by cases z) hslt hft.1 (by rw [q3, q4]; exact hft.2) rfl rfl hdg go
theorem zw_new (hexec : p.tables.exec = Jvm.exec) (hb : c.code = cc) (hown : s.vm.findClass own = some mt.cls) (hK : zKn X s) (hlk : zwd pp = some (.classLink own idx (zcn ax))) (hmc : y.2.1 ≤ R.cells) (hms : y.2.2.1 ≤ R.slots) (hd1 : d.2.1 = y.2.1) (hd2 : d.2.2 = y.2.2.1) (hdg : decode cc pc = .ok (.new idx, 3)) (hnx : nx = pc + 3)
    (hKS : zKS p l e R s mt args below meth c Q X cf y fs nL d k) (h : zo_new nx ax k w cf y pc ls st q fs m = true) (hR : zRl X s nL d w ls st q m H locs lsA stA) : W p l e R s mt args below meth c H locs q.2.1 q.2.2 Q (F0 mt pc lsA stA) := by
  subst hnx
  obtain ⟨d0, nc, ns⟩ := q
  obtain ⟨sz, e0⟩ := w
  unfold zo_new at h
  dsimp only at h
  simp only [zfr_eq, zn_a, zn_c, zn_u] at h
  rcases zif_iff h with ⟨h1, h⟩ | ⟨-, h⟩
  rotate_left
  · cases h
  obtain ⟨h1, h2⟩ := zand_iff h1
  obtain ⟨h2, h3⟩ := zand_iff h2
  obtain ⟨h3, h4⟩ := zand_iff h3
  have h1 := zbleT h1
  have h2 := zbleT h2
  have h3 := zbleT h3
  have h4 := zbleT h4
  have hc12 : ax < 12 := by omega
  obtain ⟨tg, ln, ct, hg, h⟩ := zcell_iff h
  rcases zif_iff h with ⟨h5, h⟩ | ⟨-, h⟩
  rotate_left
  · cases h
  obtain ⟨hSl, hfc, kC0, hkC0, hkind⟩ := hK.2.1 ax _ (zvw _ hc12)
  obtain ⟨hi1, hi2⟩ := zins ax hc12
  have hMem : zMem X s sz m H := hR.2.1
  refine W.newcK hexec hb hown (zword (args := args) hK (zwd_mem hlk) rfl) (zword (args := args) hK hi1 rfl) (zword (args := args) hK hi2 rfl) (n := zxCn ax) rfl hdg (by dsimp only; omega) (by dsimp only; omega) hfc rfl fun H1 kC hkC e1 z1 o1 => ?_
  have hob := u_born (ztyX ax) (zTs_ok (args := args) hK) (zTs_in hc12) ⟨hSl, hfc, kC0, hkC0, hkind⟩ hkC e1 (ztys ax hc12)
  have hsz : H.size = zbs X + sz := hMem.1
  have hR2 : zRl X s nL d (sz + 1, e0) ls ((8 * sz + 3) :: st) (d0, nc + 1, ns + zxCn ax) (zS m sz (ax, zxCn ax, zxD ax)) H1 locs lsA (.ref H.size :: stA) := by
    refine ⟨hR.1, hMem.new hg z1 o1 (by omega) ?_, hR.2.2.1, hR.2.2.2.1, ⟨?_, hR.2.2.2.2.1⟩, hR.2.2.2.2.2.1, by dsimp only; omega, by dsimp only; omega⟩
    · obtain ⟨cell, t1, t2, t3, t4⟩ := hob
      refine Or.inl ⟨hc12, cell, by rw [← hsz]; exact t1, t2, t3, fun j u hj hu => ?_⟩
      obtain ⟨-, -, -, z4⟩ := zkks ax hc12 j hj
      have hu : zG (zxD ax) j = some u := hu
      rw [z4] at hu
      refine ⟨_, ?_, t4 j hj⟩
      have hk9 := (zkks ax hc12 j hj).1
      show zV X u (defaultValue (ztyX ax j))
      generalize ztyX ax j = tyj at hu hk9 ⊢
      have hu := Option.some.inj hu
      subst hu
      cases tyj with
      | int => exact zv_zero
      | boolean => exact zv_zero
      | long => exact Or.inr (Or.inr (Or.inr (Or.inr (Or.inl ⟨rfl, rfl⟩))))
      | object C => exact Or.inr (Or.inr (Or.inr (Or.inr (Or.inr (Or.inl ⟨rfl, rfl⟩)))))
      | array C => exact Or.inr (Or.inr (Or.inr (Or.inr (Or.inr (Or.inl ⟨rfl, rfl⟩)))))
      | byte => exact zv_zero
      | short => exact zv_zero
      | char => exact zv_zero
      | float =>
        exfalso
        have h9 : zkt FieldType.float = 9 := rfl
        omega
      | double =>
        exfalso
        have h9 : zkt FieldType.double = 9 := rfl
        omega
    · have e3 : zad X sz = H.size := by
        unfold zad
        rw [if_pos (by omega), hsz]
      rw [← e3]
      exact zv_ref sz
  exact hKS _ _ _ _ _ _ _ _ _ _ h hR2
theorem zsmall {u : Nat} (h : u < 2147483648) : ¬ Int32.ofNat u < 0 ∧ (Int32.ofNat u).toNatClampNeg = u := ⟨nI_pos (n := u) h, nI_clamp (n := u) h⟩
theorem zrow_get {α : Type} (v : α) : ∀ (n j : Nat), j < n → (zrow v n)[j]? = some v := by
  intro n
  induction n with
  | zero => intro j h; omega
  | succ n ih =>
    intro j h
    have e1 : zrow v (n + 1) = v :: zrow v n := rfl
    rw [e1]
    cases j with
    | zero => rfl
    | succ j => rw [List.getElem?_cons_succ]; exact ih j (by omega)
theorem zrep_get {v n j u : Nat} (h : j < n) (hu : zG (zrep v n) j = some u) : u = v := by
  unfold zG zrep at hu
  simp only [zn_d, zn_a] at hu
  rw [zrow_get _ _ (j / 64) (by omega), Option.bind_some, zrow_get _ _ (j / 8 % 8) (by omega), Option.bind_some, zrow_get _ _ (j % 8) (by omega)] at hu
  exact (Option.some.inj hu).symm
theorem zw_newa {kd : Nat} {at_ : ArrayType} {ty : FieldType} (hexec : p.tables.exec = Jvm.exec) (hb : c.code = cc) (hK : zKn X s) (hty : newarray.typeOf at_ = ty) (hkd : zty kd = some ty) (hac : Cond.arrayClass ty ∈ lw_tbl) (hcb : componentBytes ty ≤ 8) (hdef : zV X (zif (Nat.beq kd 21) 4 0) (defaultValue ty)) (hmc : y.2.1 ≤ R.cells) (hms : y.2.2.1 ≤ R.slots) (hd1 : d.2.1 = y.2.1) (hd2 : d.2.2 = y.2.2.1) (hdg : decode cc pc = .ok (.newarray at_, 2)) (hnx : nx = pc + 2)
    (hKS : zKS p l e R s mt args below meth c Q X cf y fs nL d k) (h : zo_newa kd nx ax k w cf y pc ls st q fs m = true) (hR : zRl X s nL d w ls st q m H locs lsA stA) : W p l e R s mt args below meth c H locs q.2.1 q.2.2 Q (F0 mt pc lsA stA) := by
  subst hnx
  subst hty
  obtain ⟨d0, nc, ns⟩ := q
  obtain ⟨sz, e0⟩ := w
  unfold zo_newa at h
  dsimp only at h
  simp only [zfr_eq, zn_m, zn_d, zn_a, zn_c, zn_u] at h
  obtain ⟨n, r, es, h'⟩ := zpop_iff h
  clear h
  have h := h'
  clear h'
  subst es
  obtain ⟨x, stB, rfl, hv, hS2⟩ := zSt_c hR.2.2.2.2.1
  rcases zif_iff h with ⟨h1, h⟩ | ⟨-, h⟩
  rotate_left
  · cases h
  obtain ⟨h0, h1⟩ := zand_iff h1
  obtain ⟨h1, h2⟩ := zand_iff h1
  obtain ⟨h2, h3⟩ := zand_iff h2
  obtain ⟨h3, h4⟩ := zand_iff h3
  have h1 := zbleT h1
  have h2 := zbleT h2
  have h3 := zbleT h3
  have h4 := zbleT h4
  have ex := zv_0 hv (zbeqT h0)
  subst ex
  obtain ⟨tg, ln, ct, hg, h⟩ := zcell_iff h
  rcases zif_iff h with ⟨h5, h⟩ | ⟨-, h⟩
  rotate_left
  · cases h
  obtain ⟨p1, p2⟩ := zsmall (u := n / 8) (by omega)
  have hMem : zMem X s sz m H := hR.2.1
  have hsz : H.size = zbs X + sz := hMem.1
  have hbig : n / 8 * componentBytes (newarray.typeOf at_) ≤ 536870912 := by
    have := Nat.mul_le_mul h1 hcb
    omega
  refine va_newaK hexec hb (zword (args := args) hK hac rfl) rfl hdg rfl p1 p2 hbig (by dsimp only; omega) (by dsimp only; omega) rfl fun H1 cA e1 z1 o1 hAr _ => ?_
  have hR2 : zRl X s nL d (sz + 1, e0) ls ((8 * sz + 3) :: r) (d0, nc + 1, ns + n / 8) (zS m sz (kd, n / 8, zrep (zif (Nat.beq kd 21) 4 0) (n / 8))) H1 locs lsA (.ref H.size :: stB) := by
    refine ⟨hR.1, hMem.new hg z1 o1 (by omega) ?_, hR.2.2.1, hR.2.2.2.1, ⟨?_, hS2⟩, hR.2.2.2.2.2.1, by dsimp only; omega, by dsimp only; omega⟩
    · refine Or.inr ⟨_, cA, _, hkd, by rw [← hsz]; exact e1, hAr, h1, fun j u hj hu => ?_⟩
      rw [zrep_get hj hu]
      exact hdef
    · have e3 : zad X sz = H.size := by
        unfold zad
        rw [if_pos (by omega), hsz]
      rw [← e3]
      exact zv_ref sz
  exact hKS _ _ _ _ _ _ _ _ _ _ h hR2
theorem zty_kd {g : Nat} {ty : FieldType} (h : zty g = some ty) : 20 ≤ g ∧ g ≤ 23 := by
  unfold zty at h
  split at h <;> first | exact ⟨by omega, by omega⟩ | cases h
theorem zw_alen (hexec : p.tables.exec = Jvm.exec) (hb : c.code = cc) (hK : zKn X s) (hdg : decode cc pc = .ok (.arraylength, 1)) (hnx : nx = pc + 1)
    (hKS : zKS p l e R s mt args below meth c Q X cf y fs nL d k) (h : zo_alen (zLn X) nx ax k w cf y pc ls st q fs m = true) (hR : zRl X s nL d w ls st q m H locs lsA stA) : W p l e R s mt args below meth c H locs q.2.1 q.2.2 Q (F0 mt pc lsA stA) := by
  subst hnx
  unfold zo_alen at h
  simp only [zfr_eq, zn_m, zn_d, zn_u, zn_s, zn_c] at h
  obtain ⟨a, r, es, h'⟩ := zpop_iff h
  clear h
  have h := h'
  clear h'
  subst es
  obtain ⟨x, stB, rfl, ha, hS2⟩ := zSt_c hR.2.2.2.2.1
  rcases zif_iff h with ⟨h1, h⟩ | ⟨-, h⟩
  rotate_left
  · cases h
  have ea := zv_3 ha (zbeqT h1)
  subst ea
  have hlow := zlowH (w := w) hR.2.1
  rcases zif_iff h with ⟨h2, h⟩ | ⟨h2, h⟩
  · have e2 := zbeqT h2
    rcases zif_iff h with ⟨-, h⟩ | ⟨hL0, h⟩
    · cases h
    have hL0 := zbeqF hL0
    obtain ⟨s1, s2, s0⟩ := hK.2.2.1
    obtain ⟨scr, s3, s4, s5, s6, s7⟩ := s0.resolve_left hL0
    rw [e2, zhigh (by omega)]
    have hc : H[zhi X 99999]? = some scr := by rw [hR.2.1.2.2.2 _ s1]; exact s3
    exact W.alen (n := Int32.ofNat (zLn X)) hexec hb hc s4 (by rw [s6]) rfl rfl hdg (zgo hKS h hR rfl hR.1 ⟨zv_mk rfl, hS2⟩)
  rcases zif_iff h with ⟨h3, h⟩ | ⟨h3, h⟩
  · have h3 := zbleT h3
    rcases zif_iff h with ⟨h4, h⟩ | ⟨-, h⟩
    rotate_left
    · cases h
    have h4 : a / 8 - 200000 + 1 ≤ 30 := zbleT h4
    obtain ⟨i, hi⟩ : ∃ i, a / 8 = 200000 + i := ⟨a / 8 - 200000, by omega⟩
    obtain ⟨-, -, -, -, hT⟩ := hK.2.2.2.1 i (by omega)
    obtain ⟨cell, t1, t2, t3, t4, t5, t6, t7⟩ := hT.kept hlow
    rw [hi, zhigh (by omega)]
    rw [hi, show 200000 + i - 200000 = i by omega] at h
    exact W.alen (n := Int32.ofNat (zxTl i)) hexec hb t1 t2 t5 rfl rfl hdg (zgo hKS h hR rfl hR.1 ⟨zv_mk rfl, hS2⟩)
  · obtain ⟨⟨tg, ln, ct⟩, hg, h⟩ := zget_iff h
    dsimp only at h
    rcases zif_iff h with ⟨h5, h⟩ | ⟨-, h⟩
    rotate_left
    · cases h
    obtain ⟨h5, h6⟩ := zand_iff h5
    have h5 := zbleT h5
    have h6 := zbleT h6
    obtain ⟨-, -, hc⟩ := hR.2.1.get hg (by dsimp only; omega)
    rcases hc with ⟨q1, -⟩ | ⟨ty, cA, f, q1, q2, q3, q4, -⟩
    · have : tg < 12 := q1
      omega
    · exact W.alen (n := Int32.ofNat ln) hexec hb q2 (q3 _ _) (by rw [arrV_size]) rfl rfl hdg (zgo hKS h hR rfl hR.1 ⟨zv_mk rfl, hS2⟩)
theorem zindex_iff {j : Nat} {again : zW → Bool} {put k2 : Nat → Bool} {ρ : Nat → Int32} {ad : Nat → Nat} {x' : Value} (h : zindex w j again put k2 = true) (hE : zEnv ρ w.2) (hv : zv ρ ad j x') :
    (∃ w2 : zW, w2.1 = w.1 ∧ zEnv ρ w2.2 ∧ again w2 = true) ∨ (∃ u : Nat, x' = .int (Int32.ofNat u) ∧ put u = true) ∨ ∃ u : Nat, x' = .int (Int32.ofNat u) ∧ k2 u = true := by
  unfold zindex at h
  simp only [zn_m, zn_d, zn_c, zn_s] at h
  rcases zif_iff h with ⟨h1, h⟩ | ⟨h1, h⟩
  · exact Or.inr (Or.inr ⟨_, zv_0 hv (zbeqT h1), h⟩)
  rcases zhalf_iff h hE hv with h | h
  · exact Or.inl h
  rcases zkn_iff h hE hv with ⟨u, e1, h⟩ | h
  · exact Or.inr (Or.inr ⟨u, e1, h⟩)
  rcases zif_iff h with ⟨h2, h⟩ | ⟨-, h⟩
  · obtain ⟨x, lo, hi, rfl, b1, b2, h⟩ := zbd_iff h hE hv
    rcases zif_iff h with ⟨h3, h⟩ | ⟨-, h⟩
    · rcases zif_iff h with ⟨h4, h⟩ | ⟨-, h⟩
      · have h5 := zeach_iff h (zB x) b1 (by have := zbleT h4; omega)
        exact Or.inr (Or.inl ⟨zb (zB x), by rw [zb_B], h5⟩)
      · cases h
    · cases h
  · cases h
theorem zw_ald {k1 k2 : Nat} (hk1 : 20 ≤ k1 ∧ k1 ≤ 23) (hk2 : 20 ≤ k2 ∧ k2 ≤ 23) (hK : zKn X s) (hKS : zKS p l e R s mt args below meth c Q X cf y fs nL d k) (h : zo_ald (zLn X) k1 k2 nx ax k w cf y pc ls st q fs m = true) (hR : zRl X s nL d w ls st q m H locs lsA stA)
    (row : ∀ (g : Nat) (ty : FieldType) (a : Addr) (cell : Cell) (j : Int32) (v : Value) (r : List Value), (g = k1 ∨ g = k2) → zty g = some ty → H[a]? = some cell → s.isArrayOf cell ty → cell.vm ≠ .unknown → ¬ (j < 0 ∨ cell.slots.size ≤ j.toNatClampNeg) → cell.slots[j.toNatClampNeg]? = some v → W p l e R s mt args below meth c H locs q.2.1 q.2.2 Q (F0 mt nx lsA (v :: r)) → W p l e R s mt args below meth c H locs q.2.1 q.2.2 Q (F0 mt pc lsA (.int j :: .ref a :: r))) : W p l e R s mt args below meth c H locs q.2.1 q.2.2 Q (F0 mt pc lsA stA) := by
  unfold zo_ald at h
  simp only [zfr_eq, zn_m, zn_d, zn_u, zn_s, zn_c, zn_a] at h
  obtain ⟨j, t, es, h'⟩ := zpop_iff h
  clear h
  have h := h'
  clear h'
  subst es
  obtain ⟨a, r, es, h'⟩ := zpop_iff h
  clear h
  have h := h'
  clear h'
  subst es
  obtain ⟨j', stB, rfl, hj, hS2⟩ := zSt_c hR.2.2.2.2.1
  obtain ⟨a', stC, rfl, ha, hS3⟩ := zSt_c hS2
  rcases zif_iff h with ⟨h1, h⟩ | ⟨-, h⟩
  rotate_left
  · cases h
  have ea := zv_3 ha (zbeqT h1)
  have hlow := zlowH (w := w) hR.2.1
  rcases zindex_iff h hR.1 hj with ⟨w2, e1, E2, h⟩ | ⟨u, rfl, h⟩ | ⟨u, rfl, h⟩
  · exact zgo hKS h hR e1 E2 hR.2.2.2.2.1
  · exact zgo hKS h hR rfl hR.1 ⟨zv_mk rfl, ha, hS3⟩
  subst ea
  rcases zif_iff h with ⟨h2, h⟩ | ⟨h2, h⟩
  · have e2 := zbeqT h2
    rcases zif_iff h with ⟨h3, h⟩ | ⟨-, h⟩
    rotate_left
    · cases h
    obtain ⟨h3, h4⟩ := zand_iff h3
    have h3 := zbleT h3
    have h4 := zbeqT h4
    obtain ⟨s1, s2, s0⟩ := hK.2.2.1
    obtain ⟨scr, s3, s4, s5, s6, s7⟩ := s0.resolve_left (by omega)
    obtain ⟨p1, p2⟩ := zsmall (u := u) (by omega)
    rw [e2, zhigh (by omega)]
    have hc : H[zhi X 99999]? = some scr := by rw [hR.2.1.2.2.2 _ s1]; exact s3
    refine row 20 .int _ scr _ (.int (zρ X u)) stC (Or.inl h4.symm) rfl hc s4 s5 (by rw [s6, p2]; exact fun z => z.elim p1 (by omega)) (by rw [p2]; exact s7 u (by omega)) (zgo hKS h hR rfl hR.1 ⟨?_, hS3⟩)
    refine Or.inr (Or.inl ⟨by omega, ?_⟩)
    have e5 : (34359738368 * u + 1) / 34359738368 = u := by omega
    have e6 : (34359738368 * u + 1) / 8 % 4294967296 = 0 := by omega
    rw [e5, e6]
    congr 1
    show zρ X u = zρ X u + 0
    rw [Int32.add_zero]
  rcases zif_iff h with ⟨h3, h⟩ | ⟨h3, h⟩
  · have h3 := zbleT h3
    rcases zif_iff h with ⟨h4, h⟩ | ⟨-, h⟩
    rotate_left
    · cases h
    obtain ⟨h4, h5⟩ := zand_iff h4
    have h4 := zbeqT h4
    have h5 : a / 8 - 200000 + 1 ≤ 30 := zbleT h5
    obtain ⟨i, hi⟩ : ∃ i, a / 8 = 200000 + i := ⟨a / 8 - 200000, by omega⟩
    obtain ⟨-, -, -, -, hT⟩ := hK.2.2.2.1 i (by omega)
    obtain ⟨cell, t1, t2, t3, t4, t5, t6, t7⟩ := hT.kept hlow
    rw [hi, show 200000 + i - 200000 = i by omega] at h
    obtain ⟨cv, hcv, h⟩ := znth_iff h
    rw [hi, zhigh (by omega)]
    have hTl : u < zxTl i := by
      have hu : u < (zxT i).length := (List.getElem?_eq_some_iff.mp hcv).1
      have htab : ∀ i, i < 30 → (zxT i).length = zxTl i ∧ zxTl i ≤ 20 := by decide +kernel
      rw [← (htab i (by omega)).1]
      exact hu
    have hle : zxTl i ≤ 20 := by
      have htab : ∀ i, i < 30 → (zxT i).length = zxTl i ∧ zxTl i ≤ 20 := by decide +kernel
      exact (htab i (by omega)).2
    obtain ⟨p1, p2⟩ := zsmall (u := u) (by omega)
    refine row 22 .byte _ cell _ (.int (Int32.ofNat cv)) stC (Or.inl h4.symm) rfl t1 t2 t3 (by rw [p2]; exact fun z => z.elim p1 (by omega)) (by rw [p2, t6 u hTl]; show some (Value.int (Int32.ofNat ((zxT i).getD u 0))) = _; rw [List.getD_eq_getElem?_getD, hcv]; rfl) (zgo hKS h hR rfl hR.1 ⟨zv_mk rfl, hS3⟩)
  · obtain ⟨⟨tg, ln, ct⟩, hg, h⟩ := zget_iff h
    dsimp only at h
    rcases zif_iff h with ⟨h5, h⟩ | ⟨-, h⟩
    rotate_left
    · cases h
    have h5 : tg = k1 ∨ tg = k2 := by
      rcases zif_iff h5 with ⟨h6, -⟩ | ⟨-, h6⟩
      · exact Or.inl (zbeqT h6)
      · exact Or.inr (zbeqT h6)
    rcases zif_iff h with ⟨h6, h⟩ | ⟨-, h⟩
    rotate_left
    · cases h
    have h6 := zbleT h6
    obtain ⟨v, hv, h⟩ := zget_iff h
    have h99 : ¬ tg = 99 := by omega
    obtain ⟨-, -, hc⟩ := hR.2.1.get hg h99
    rcases hc with ⟨q1, -⟩ | ⟨ty, cA, f, q1, q2, q3, q4, q5⟩
    · exfalso
      have q1 : tg < 12 := q1
      omega
    · have q4 : ln ≤ 20000 := q4
      obtain ⟨p1, p2⟩ := zsmall (u := u) (by omega)
      refine row tg ty _ _ _ (f u) stC h5 q1 q2 (q3 _ _) (fun z => by cases z) (by rw [arrV_size, p2]; exact fun z => z.elim p1 (by dsimp only; omega)) (by rw [p2, arrV_read _ _ (by dsimp only; omega)]) (zgo hKS h hR rfl hR.1 ⟨q5 u v (by dsimp only; omega) hv, hS3⟩)
theorem zinto_iff {kd v : Nat} {k2 : Nat → Bool} {x : Value} (h : zinto w kd v k2 = true) (hE : zEnv (zρ X) w.2) (hv : zV X v x) :
    ∃ (v2 : Nat) (x2 : Value), zV X v2 x2 ∧ k2 v2 = true ∧ ((kd = 20 ∧ ∃ n, x = .int n ∧ x2 = .int n) ∨ (kd = 21 ∧ ∃ n, x = .long n ∧ x2 = .long n) ∨ (kd = 22 ∧ ∃ n, x = .int n ∧ x2 = narrow .byte (.int n)) ∨ (kd = 23 ∧ ∃ n, x = .int n ∧ x2 = narrow .boolean (.int n))) := by
  unfold zinto at h
  simp only [zfr_eq, zn_m, zn_d, zn_u] at h
  rcases zif_iff h with ⟨h1, h⟩ | ⟨h1, h⟩
  · rcases zif_iff h with ⟨h2, h⟩ | ⟨-, h⟩
    · obtain ⟨n, rfl⟩ := zv_int hv (zbleT h2)
      exact ⟨v, _, hv, h, Or.inl ⟨zbeqT h1, n, rfl, rfl⟩⟩
    · cases h
  rcases zif_iff h with ⟨h2, h⟩ | ⟨h2, h⟩
  · rcases zif_iff h with ⟨h3, h⟩ | ⟨-, h⟩
    · have e1 := zv_4 hv (zbeqT h3)
      exact ⟨v, _, hv, h, Or.inr (Or.inl ⟨zbeqT h2, _, e1, e1⟩)⟩
    · cases h
  rcases zif_iff h with ⟨h3, h⟩ | ⟨h3, h⟩
  · rcases zif_iff h with ⟨h4, h⟩ | ⟨-, h⟩
    · have e1 := zv_0 hv (zbeqT h4)
      refine ⟨_, _, zv_mkx _, h, Or.inr (Or.inr (Or.inl ⟨zbeqT h3, _, e1, ?_⟩))⟩
      rfl
    rcases zif_iff h with ⟨h5, h⟩ | ⟨-, h⟩
    · obtain ⟨n, lo, hi, e1, -, -, h⟩ := zbd_iff h hE hv
      exact ⟨_, .int n.toInt8.toInt32, zv_any _, h, Or.inr (Or.inr (Or.inl ⟨zbeqT h3, n, e1, rfl⟩))⟩
    · cases h
  rcases zif_iff h with ⟨h4, h⟩ | ⟨-, h⟩
  · rcases zif_iff h with ⟨h5, h⟩ | ⟨-, h⟩
    · have hx : x = .int 0 ∨ x = .int 1 := by
        rcases zif_iff h5 with ⟨h6, -⟩ | ⟨-, h6⟩
        · have e2 := zbeqT h6
          subst e2
          exact Or.inl (zv_0 hv rfl)
        · have e2 := zbeqT h6
          subst e2
          exact Or.inr (zv_0 hv rfl)
      refine ⟨v, x, hv, h, Or.inr (Or.inr (Or.inr ⟨zbeqT h4, ?_⟩))⟩
      rcases hx with rfl | rfl
      · exact ⟨0, rfl, by decide⟩
      · exact ⟨1, rfl, by decide⟩
    · cases h
  · cases h
theorem zw_ast {k1 k2 : Nat} (hKS : zKS p l e R s mt args below meth c Q X cf y fs nL d k) (h : zo_ast k1 k2 nx ax k w cf y pc ls st q fs m = true) (hR : zRl X s nL d w ls st q m H locs lsA stA)
    (row : ∀ (g : Nat) (ty : FieldType) (a : Addr) (cell : Cell) (j : Int32) (x x2 : Value) (r : List Value), (g = k1 ∨ g = k2) → zty g = some ty → ((g = 20 ∧ ∃ n, x = .int n ∧ x2 = .int n) ∨ (g = 21 ∧ ∃ n, x = .long n ∧ x2 = .long n) ∨ (g = 22 ∧ ∃ n, x = .int n ∧ x2 = narrow .byte (.int n)) ∨ (g = 23 ∧ ∃ n, x = .int n ∧ x2 = narrow .boolean (.int n))) → H[a]? = some cell → s.isArrayOf cell ty → cell.vm ≠ .unknown → ¬ (j < 0 ∨ cell.slots.size ≤ j.toNatClampNeg) →
      (∀ H' : Heap, H'[a]? = some (cell.setSlot j.toNatClampNeg x2) → H'.size = H.size → (∀ q, q ≠ a → H'[q]? = H[q]?) → W p l e R s mt args below meth c H' (locs ++ [⟨a, j.toNatClampNeg⟩]) q.2.1 q.2.2 Q (F0 mt nx lsA r)) → W p l e R s mt args below meth c H locs q.2.1 q.2.2 Q (F0 mt pc lsA (x :: .int j :: .ref a :: r))) : W p l e R s mt args below meth c H locs q.2.1 q.2.2 Q (F0 mt pc lsA stA) := by
  unfold zo_ast at h
  simp only [zfr_eq, zn_m, zn_d, zn_u, zn_c] at h
  obtain ⟨v, t, es, h'⟩ := zpop_iff h
  clear h
  have h := h'
  clear h'
  subst es
  obtain ⟨j, t2, es, h'⟩ := zpop_iff h
  clear h
  have h := h'
  clear h'
  subst es
  obtain ⟨a, r, es, h'⟩ := zpop_iff h
  clear h
  have h := h'
  clear h'
  subst es
  obtain ⟨x, stB, rfl, hv, hS2⟩ := zSt_c hR.2.2.2.2.1
  obtain ⟨j', stC, rfl, hj, hS3⟩ := zSt_c hS2
  obtain ⟨a', stD, rfl, ha, hS4⟩ := zSt_c hS3
  rcases zif_iff h with ⟨h1, h⟩ | ⟨-, h⟩
  rotate_left
  · cases h
  have ea := zv_3 ha (zbeqT h1)
  rcases zindex_iff h hR.1 hj with ⟨w2, e1, E2, h⟩ | ⟨u, rfl, h⟩ | ⟨u, rfl, h⟩
  · exact zgo hKS h hR e1 E2 hR.2.2.2.2.1
  · exact zgo hKS h hR rfl hR.1 ⟨hv, zv_mk rfl, ha, hS4⟩
  subst ea
  obtain ⟨tg, ln, ct, hg, h⟩ := zcell_iff h
  rcases zif_iff h with ⟨h5, h⟩ | ⟨-, h⟩
  rotate_left
  · cases h
  obtain ⟨h5, h6⟩ := zand_iff h5
  have h5 : tg = k1 ∨ tg = k2 := by
    rcases zif_iff h5 with ⟨h6, -⟩ | ⟨-, h6⟩
    · exact Or.inl (zbeqT h6)
    · exact Or.inr (zbeqT h6)
  have h6 := zbleT h6
  obtain ⟨v2, x2, hv2, h, hst⟩ := zinto_iff h hR.1 hv
  obtain ⟨⟨o, ho⟩, h⟩ := zset_iff h
  have h99 : ¬ tg = 99 := by rcases hst with ⟨q, -⟩ | ⟨q, -⟩ | ⟨q, -⟩ | ⟨q, -⟩ <;> omega
  have h20 : 20 ≤ tg := by rcases hst with ⟨q, -⟩ | ⟨q, -⟩ | ⟨q, -⟩ | ⟨q, -⟩ <;> omega
  obtain ⟨ead, -, hc⟩ := hR.2.1.get hg h99
  rcases hc with ⟨q1, -⟩ | ⟨ty, cA, f, q1, q2, q3, q4, q5⟩
  · have : tg < 12 := q1
    omega
  have q4 : ln ≤ 20000 := q4
  obtain ⟨p1, p2⟩ := zsmall (u := u) (by omega)
  refine row tg ty _ _ _ x x2 stD h5 q1 hst q2 (q3 _ _) (fun z => by cases z) (by rw [arrV_size, p2]; exact fun z => z.elim p1 (by dsimp only; omega)) (fun H1 f1 f2 f3 => ?_)
  rw [p2, arrV_store] at f1
  refine hKS _ _ _ _ _ _ _ _ _ _ h ⟨hR.1, hR.2.1.set hg h99 f2 f3 (Or.inr ⟨ty, cA, _, q1, f1, q3, q4, fun i b hi hb => ?_⟩), fun z hz => ?_, hR.2.2.2.1, hS4, hR.2.2.2.2.2⟩
  · have hb : zG (zS ct u v2) i = some b := hb
    rw [zG_set ho i] at hb
    by_cases hiu : i = u
    · rw [if_pos hiu] at hb
      cases hb
      show zV X v2 (updV f u x2 i)
      rw [hiu]
      have e7 : updV f u x2 u = x2 := by unfold updV; rw [if_pos rfl]
      rw [e7]
      exact hv2
    · rw [if_neg hiu] at hb
      show zV X b (updV f u x2 i)
      have e7 : updV f u x2 i = f i := by unfold updV; rw [if_neg hiu]
      rw [e7]
      exact q5 i b hi hb
  · rcases List.mem_append.mp hz with h7 | h7
    · exact hR.2.2.1 z h7
    · rw [List.mem_singleton] at h7
      rw [h7]
      show zbs X ≤ zad X (a / 8)
      rw [ead]; omega
end ZM
