/-! THE EXECUTOR IS RIGHT: by induction on its steps -/
def zRi (me : zMe) (pc : Nat) (vo : Option Value) : Prop :=
  (decode me.2.1 pc = .ok (.ireturn, 1) ∧ ∃ (x : Int32) (ty : FieldType), vo = some (.int x) ∧ me.2.2.1 = some ty ∧ narrow ty (.int x) = .int x) ∨
  (decode me.2.1 pc = .ok (.lreturn, 1) ∧ ∃ x : Int64, vo = some (.long x) ∧ me.2.2.1 = some .long) ∨ (decode me.2.1 pc = .ok (.return_, 1) ∧ vo = none ∧ me.2.2.1 = none)
def zCt (X : zCx) (en : zEn) (me : zMe) (d : Nat) (p : Program) (R : Room) (s : State) (mt : MethodId) (meth : Method) (c : Code) : Prop :=
  p.tables.exec = Jvm.exec ∧ c.code = me.2.1 ∧ c.maxLocals = en.2.2.1 ∧ s.vm.findClass me.2.2.2 = some mt.cls ∧ zKn X s ∧ (¬ en.2.2.2.2.2.2.2.2 = 0 → meth.name = "<init>") ∧ d ≤ R.frames ∧ 64 * d ≤ R.locals ∧ en.2.2.2.2.2.1 ≤ R.cells ∧ en.2.2.2.2.2.2.1 ≤ R.slots
def zHr (bt : zW → List Nat → zM → Bool) (L : Nat) (stop : zK) (n : Nat) (X : zCx) (en : zEn) (me : zMe) (fs : List zFr) (p : Program) (l : Launch) (e : Env) (R : Room) (s : State) (mt : MethodId) (args : Array Value) (below : List Frame) (meth : Method) (c : Code) (Q : State → Prop) : Prop :=
  ∀ (n' : Nat) (w : zW) (v : List Nat) (m : zM) (H : Heap) (locs : List Loc) (lsA : Array Slot) (pc : Nat) (vo : Option Value) (cells slots : Nat), n' < n → zback bt v (zok bt L stop n') w fs m = true → zEnv (zρ X) w.2 → zMem X s w.1 m H → (∀ x ∈ locs, zbs X ≤ x.base) → cells ≤ en.2.2.2.2.2.1 → slots ≤ en.2.2.2.2.2.2.1 → zvo X v vo → zRi me pc vo →
    W p l e R s mt args below meth c H locs cells slots Q (F0 mt pc lsA vo.toList)
def zHs (stop : zK) (X : zCx) (en : zEn) (d : Nat) (fs : List zFr) (p : Program) (l : Launch) (e : Env) (R : Room) (s : State) (mt : MethodId) (args : Array Value) (below : List Frame) (meth : Method) (c : Code) (Q : State → Prop) : Prop :=
  ∀ (w : zW) (pc : Nat) (ls st : List Nat) (q : zQ) (m : zM) (H : Heap) (locs : List Loc) (lsA : Array Slot) (stA : List Value), stop w en.1 en.2.2.2.2 pc ls st q fs m = true → zRl X s en.2.2.1 (d, en.2.2.2.2.2.1, en.2.2.2.2.2.2.1) w ls st q m H locs lsA stA →
    W p l e R s mt args below meth c H locs q.2.1 q.2.2 Q (F0 mt pc lsA stA)
def zMain (l : Launch) (bt : zW → List Nat → zM → Bool) (L : Nat) (stop : zK) (n : Nat) : Prop :=
  ∀ (X : zCx) (y0 : Nat) (en : zEn) (me : zMe), zLn X = L → zOK y0 en me →
  ∀ (w : zW) (pc : Nat) (ls st : List Nat) (q : zQ) (fs : List zFr) (m : zM), zok bt L stop n w en.1 en.2.2.2.2 pc ls st q fs m = true →
  ∀ (p : Program) (e : Env) (R : Room) (s : State) (mt : MethodId) (args : Array Value) (below : List Frame) (meth : Method) (c : Code) (Q : State → Prop) (H : Heap) (locs : List Loc) (lsA : Array Slot) (stA : List Value),
    zCt X en me q.1 p R s mt meth c → zRl X s en.2.2.1 (q.1, en.2.2.2.2.2.1, en.2.2.2.2.2.2.1) w ls st q m H locs lsA stA → zHr bt L stop n X en me fs p l e R s mt args below meth c Q → zHs stop X en q.1 fs p l e R s mt args below meth c Q →
    W p l e R s mt args below meth c H locs q.2.1 q.2.2 Q (F0 mt pc lsA stA)
theorem zback_c {bt : zW → List Nat → zM → Bool} {v : List Nat} {k : zK} {w : zW} {cf : Nat → zT} {y : zY} {pc : Nat} {ls st : List Nat} {q : zQ} {fs : List zFr} {m : zM} : zback bt v k w ((cf, y, pc, ls, st, q) :: fs) m = k w cf y pc ls (List.rec (motive := fun _ => List Nat) st (fun a _ _ => a :: st) v) q fs m := rfl
/-- a callee's contract out of its run -/
theorem zmet {l : Launch} {bt : zW → List Nat → zM → Bool} {L : Nat} {stop : zK} {n : Nat} (hM : zMain l bt L stop n) (hst : ∀ w cf y pc ls st q f fs m, stop w cf y pc ls st q (f :: fs) m = false) {X : zCx} {y0 : Nat} {en : zEn} {me : zMe} (hL : zLn X = L) (hOK : zOK y0 en me)
    {w : zW} {l2 : List Nat} {d : Nat} {fr : zFr} {fs : List zFr} {m : zM} {as : List Nat} {AsV : List Value} (h : zok bt L stop n w en.1 en.2.2.2.2 0 l2 [] (d, 0, 0) (fr :: fs) m = true) (hE : zEnv (zρ X) w.2) (hA : zSt X as AsV) (hl : l2.length = en.2.2.1) (hle : (zexp as).length ≤ en.2.2.1) (hl2 : ∀ i c : Nat, l2[i]? = some c → (zexp as)[i]? = some c ∨ c = 13) :
    Met l me.1 [Cond.code me.1 me.2.1 en.2.2.1 me.2.2.1] { frames := d, cells := en.2.2.2.2.2.1, slots := en.2.2.2.2.2.2.1, locals := 64 * d } (va_Pc AsV (fun U => zKn X U ∧ zMem X U w.1 m U.heap)) (zQc X (fun w2 v m2 => ∃ n', n' < n ∧ zback bt v (zok bt L stop n') w2 (fr :: fs) m2 = true)) en.2.2.2.2.2.1 en.2.2.2.2.2.2.1 (fun q => zbs X ≤ q) := by
  obtain ⟨hrow, hnum, hrk, hcn, hcls, hml40, hpl, g, hin, hg1, hgw⟩ := hOK
  refine zMet_ofW hpl ?_
  intro p e s mt args below meth c s₁ B hml hv
  obtain ⟨rfl, hK, hMem⟩ := hv
  have hown : s.vm.findClass me.2.2.2 = some mt.cls := by rw [← hcls]; exact findClass_of_methodNamed B.named
  have hlen := zexp_len hA
  have hent := lv_entry AsV (n := en.2.2.1) (by rw [hlen]; exact hle)
  rw [lg_entry_eq]
  generalize (lg_sl AsV ++ List.replicate (en.2.2.1 - (lg_sl AsV).length) Slot.unset).toArray = lsA at hent ⊢
  have hlocks := B.notSynchronized
  refine hM X y0 en me hL ⟨hrow, hnum, hrk, hcn, hcls, hml40, hpl, g, hin, hg1, hgw⟩ w 0 l2 [] (d, 0, 0) (fr :: fs) m h p e _ s mt _ below meth c _ s.heap [] lsA [] ⟨B.exec, B.bytes, hml, hown, hK, ?_, Nat.le_refl _, Nat.le_refl _, Nat.le_refl _, Nat.le_refl _⟩ ⟨hE, hMem, (fun x hx => by cases hx), ⟨hl, hent.1, hent.2.1, ?_⟩, trivial, rfl, Nat.zero_le _, Nat.zero_le _⟩ ?_ ?_
  · intro hne
    have hg : g = 1 := by
      by_cases q : g = 1
      · exact q
      · rw [if_neg q] at hin
        exact absurd hin hne
    rw [(name_of_methodNamed B.named B.method).1]
    exact (hg1 hg).1
  · intro i cc hc hn
    rcases hl2 i cc hc with h1 | h1
    · obtain ⟨v, h2, h3⟩ := zexp_args (o := 0) hA i cc h1 hn
      rw [Nat.zero_add] at h2
      exact ⟨v, hent.2.2 _ h2, h3⟩
    · exact absurd h1 hn
  · intro n' w2 v m2 H locs lsB pc vo cells slots hn' hbk hE2 hM2 hlo hc hs hvo hri
    have hq : ∀ t : State, t.heap = H → s.WarmedH t.vm → zQc X (fun w2 v m2 => ∃ n', n' < n ∧ zback bt v (zok bt L stop n') w2 (fr :: fs) m2 = true) AsV.toArray s (.returned vo) t := fun t ht hW => ⟨w2, v, m2, vo, rfl, hvo, hK.warm hW, by rw [ht]; exact hM2.moved hW.alike, hE2, n', hn', hbk⟩
    refine W.widen hc hs ?_
    rcases hri with ⟨hd, x, ty, rfl, hty, hnar⟩ | ⟨hd, x, rfl, hty⟩ | ⟨hd, rfl, hty⟩
    · exact W.zret B.exec B.bytes (by rw [B.returns]; exact hty) hnar hq hlo hd hlocks
    · exact W.lret B.exec B.bytes (by rw [B.returns]; exact hty) hq hlo hd hlocks
    · exact W.vret B.exec B.bytes (by rw [B.returns]; exact hty) hq hlo hd hlocks
  · intro w2 pc ls st q m2 H locs lsB stA hs
    rw [hst] at hs
    cases hs
section ZC
variable {p : Program} {l : Launch} {e : Env} {R : Room} {s : State} {mt : MethodId} {args : Array Value} {below : List Frame} {meth : Method} {c : Code} {Q : State → Prop} {X : zCx} {cf : Nat → zT} {y : zY} {fs : List zFr} {nL : Nat} {d : Nat × Nat × Nat}
variable {w : zW} {pc nx ax : Nat} {ls st : List Nat} {q : zQ} {m : zM} {H : Heap} {locs : List Loc} {lsA : Array Slot} {stA : List Value} {own : String} {cc : ByteArray} {idx pp : Nat}
variable {bt : zW → List Nat → zM → Bool} {L : Nat} {stop : zK} {n : Nat}
theorem zrcv_iff {cI : Nat} {as : List Nat} {b : Bool} {AsV : List Value} (hK : zKn X s) (hM : zMem X s w.1 m H) (hA : zSt X as AsV) (h : zrcv (cI + 1) as m b = true) : b = true ∧ ∃ (a : Addr) (As : List Value), AsV = .ref a :: As ∧ ∃ cellB : Cell, H[a]? = some cellB ∧ cellB.vm.isStatics = false ∧ s.vm.findClass (zcn cI) = some cellB.cls := by
  unfold zrcv at h
  simp only [zn_m, zn_d, zn_c, zn_s] at h
  rcases zif_iff h with ⟨h1, h9⟩ | ⟨-, h9⟩
  · exact absurd (zbeqT h1) (by omega)
  clear h
  have h := h9
  clear h9
  obtain ⟨a, t, es, h'⟩ := zpop_iff h
  clear h
  have h := h'
  clear h'
  subst es
  obtain ⟨x, u, rfl, hx, hA2⟩ := zSt_c hA
  rcases zif_iff h with ⟨h1, h⟩ | ⟨-, h⟩
  rotate_left
  · cases h
  have ex := zv_3 hx (zbeqT h1)
  subst ex
  have hlow := zlowH (w := w) hM
  rcases zif_iff h with ⟨h2, h⟩ | ⟨h2, h⟩
  · have h2 := zbleT h2
    rcases zif_iff h with ⟨h3, h⟩ | ⟨-, h⟩
    rotate_left
    · cases h
    obtain ⟨h3, h4⟩ := zand_iff h3
    have h3 := zbeqT h3
    have h4 : a / 8 - 100000 + 1 ≤ 30 := zbleT h4
    obtain ⟨i, hi⟩ : ∃ i, a / 8 = 100000 + i := ⟨a / 8 - 100000, by omega⟩
    obtain ⟨-, hO, -⟩ := hK.2.2.2.1 i (by omega)
    obtain ⟨cell, g1, g2, g3, -⟩ := hO.kept hlow
    refine ⟨h, _, u, rfl, cell, ?_, g2, ?_⟩
    · rw [hi, zhigh (by omega)]
      exact g1
    · have : cI = 13 := by omega
      rw [this]
      exact g3
  · obtain ⟨⟨tg, ln, ct⟩, hg, h⟩ := zget_iff h
    dsimp only at h
    rcases zif_iff h with ⟨h3, h⟩ | ⟨-, h⟩
    rotate_left
    · cases h
    obtain ⟨h3, h5⟩ := zand_iff h3
    have h3 := zbeqT h3
    have h5 := zbleT h5
    have htg : tg = cI := by omega
    have hfin := h
    subst htg
    obtain ⟨-, -, hc⟩ := hM.get hg (by dsimp only; omega)
    rcases hc with ⟨q1, cell, q2, q3, q4, q5⟩ | ⟨ty, cA, f, q1, -⟩
    · have q1 : tg < 12 := q1
      refine ⟨hfin, _, u, rfl, cell, q2, by rw [q4]; rfl, ?_⟩
      rw [q3]
      exact (hK.2.1 tg _ (zvw _ q1)).2.1
    · have := zty_kd (show zty tg = some ty from q1)
      omega
theorem zw_call {y2 kd : Nat} (hIH : ∀ k, k < n + 1 → zMain l bt L stop k) (hst : ∀ w cf y pc ls st q f fs m, stop w cf y pc ls st q (f :: fs) m = false) (hL : zLn X = L) (hK : zKn X s) (hfr : d.1 ≤ R.frames) (hlo : 64 * d.1 ≤ R.locals) (hmc : d.2.1 ≤ R.cells) (hms : d.2.2 ≤ R.slots) (hd1 : d.2.1 = y.2.1) (hd2 : d.2.2 = y.2.2.1) (hnx : nx = pc + 3)
    (hKS : ∀ k, k ≤ n → zKS p l e R s mt args below meth c Q X cf y fs nL d (zok bt L stop k)) (h : zcall y2 kd nx ax (zok bt L stop n) w cf y pc ls st q fs m = true) (hR : zRl X s nL d w ls st q m H locs lsA stA)
    (row : ∀ (en2 : zEn) (me2 : zMe) (AsV rest : List Value) (rm : Room) (Pc : Array Value → State → Prop) (K : zW → List Nat → zM → Prop), zG zMeth y2 = some me2 → zOK y2 en2 me2 → zKi kd en2 me2 → stA = AsV.reverse ++ rest → AsV.length = en2.2.1 → (rest.map fun v => v.category).sum ≤ 8 →
      Met l me2.1 [Cond.code me2.1 me2.2.1 en2.2.2.1 me2.2.2.1] rm Pc (zQc X K) en2.2.2.2.2.2.1 en2.2.2.2.2.2.2.1 (fun q => zbs X ≤ q) → rm.cells = en2.2.2.2.2.2.1 → rm.slots = en2.2.2.2.2.2.2.1 → rm.frames + 1 ≤ R.frames → 8 + (en2.2.2.1 + 11) + rm.locals ≤ R.locals → FrameBlind Pc → (∀ U : State, U.heap = H → s.WarmedH U.vm → Pc AsV.toArray U) →
      (¬ kd = 2 → ∃ (a : Addr) (As : List Value), AsV = .ref a :: As ∧ ∃ cellB : Cell, H[a]? = some cellB ∧ cellB.vm.isStatics = false ∧ s.vm.findClass me2.2.2.2 = some cellB.cls) → (q.2.1 + en2.2.2.2.2.2.1 ≤ R.cells ∧ q.2.2 + en2.2.2.2.2.2.2.1 ≤ R.slots) →
      va_Run p l e R s mt args below meth c H locs q.2.1 q.2.2 en2.2.2.2.2.2.1 en2.2.2.2.2.2.2.1 (F0 mt pc lsA stA) rest (zQc X K AsV.toArray) (fun q => zbs X ≤ q)) : W p l e R s mt args below meth c H locs q.2.1 q.2.2 Q (F0 mt pc lsA stA) := by
  subst hnx
  unfold zcall at h
  obtain ⟨gk, hgk, h⟩ := zget_iff h
  rcases zif_iff h with ⟨h0, h⟩ | ⟨-, h⟩
  rotate_left
  · cases h
  have h0 := zbeqT h0
  subst h0
  obtain ⟨en2, hen2, h⟩ := zget_iff h
  obtain ⟨me2, hme2, hOK⟩ := zall hen2
  have hKi : zKi gk en2 me2 := by
    obtain ⟨me3, hm3, hk3⟩ := zallk hen2 hgk
    rw [hme2] at hm3
    cases hm3
    exact hk3
  obtain ⟨cf2, na, ml, ow, yt⟩ := en2
  dsimp only at h
  obtain ⟨asr, r, rfl, hlen, h⟩ := zargs_iff h
  rw [List.append_nil] at h
  obtain ⟨d0, nc, ns⟩ := q
  dsimp only at h
  simp only [zfr_eq, zn_a, zn_c, zn_p] at h
  obtain ⟨qA, rest, rfl, hSa, hSr⟩ := zSt_split hR.2.2.2.2.1
  rcases zif_iff h with ⟨h1, h⟩ | ⟨-, h⟩
  rotate_left
  · cases h
  obtain ⟨h1, h2⟩ := zand_iff h1
  obtain ⟨h2, h3⟩ := zand_iff h2
  obtain ⟨h3, h4⟩ := zand_iff h3
  have h1 := zbleT h1
  have h2 := zbleT h2
  have h3 := zbleT h3
  have h4 := zbleT h4
  have hd0 : d0 = d.1 := hR.2.2.2.2.2.1
  have hA := zSt_rev hSa
  have hrcv : (zpad ml (zexp asr.reverse) (fun l2 => zok bt L stop n w cf2 yt 0 l2 [] (d0 - 1, 0, 0) ((cf, y, pc + 3, ls, r, d0, nc + yt.2.1, ns + yt.2.2.1) :: fs) m)) = true ∧ (¬ gk = 2 → ∃ (a : Addr) (As : List Value), qA.reverse = .ref a :: As ∧ ∃ cellB : Cell, H[a]? = some cellB ∧ cellB.vm.isStatics = false ∧ s.vm.findClass me2.2.2.2 = some cellB.cls) := by
    by_cases hk : gk = 2
    · subst hk
      exact ⟨h, fun q => absurd rfl q⟩
    · have e0 : Nat.beq gk 2 = false := by
        cases hq : Nat.beq gk 2 with
        | false => rfl
        | true => exact absurd (zbeqT hq) hk
      rw [e0] at h
      have h' : zrcv (ow + 1) asr.reverse m (zpad ml (zexp asr.reverse) (fun l2 => zok bt L stop n w cf2 yt 0 l2 [] (d0 - 1, 0, 0) ((cf, y, pc + 3, ls, r, d0, nc + yt.2.1, ns + yt.2.2.1) :: fs) m)) = true := h
      obtain ⟨g1, g2⟩ := zrcv_iff hK hR.2.1 hA h'
      refine ⟨g1, fun _ => ?_⟩
      have e1 : zcn ow = me2.2.2.2 := hOK.2.2.2.1
      rw [← e1]
      exact g2
  obtain ⟨hpd, hrec⟩ := hrcv
  obtain ⟨l2, hl2, hle, hl3, h⟩ := zpad_iff hpd
  have hMet := zmet (hIH n (Nat.lt_succ_self n)) hst hL hOK (w := w) (l2 := l2) (d := d0 - 1) (as := asr.reverse) (AsV := qA.reverse) h hR.1 hA hl2 hle hl3
  have hml40 : ml ≤ 40 := hOK.2.2.2.2.2.1
  have hrun := row (cf2, na, ml, ow, yt) me2 qA.reverse rest _ _ _ hme2 hOK hKi (by rw [List.reverse_reverse]) (by rw [List.length_reverse, zSt_len hSa]; exact hlen) (by rw [zSt_words hSr]; exact h1) hMet rfl rfl (by dsimp only; omega) (by dsimp only; omega)
    (fun a U g mk hp => ⟨hp.1, zKn.same (s := U) rfl hp.2.1, (hp.2.2).moved (u := U) (Vm.Alike.refl U.vm)⟩) (fun U hU hW => ⟨rfl, hK.warm hW, by rw [hU]; exact hR.2.1.moved hW.alike⟩) hrec (by dsimp only; omega)
  refine zcont hrun hR.2.2.1 (fun w2 v m2 vo H2 locs2 hvo hMem2 hE2 hKk hlo2 => ?_)
  obtain ⟨n', hn', hb⟩ := hKk
  rw [zback_c] at hb
  refine hKS n' (by omega) w2 (pc + 3) ls _ (d0, nc + yt.2.1, ns + yt.2.2.1) m2 H2 locs2 lsA _ hb ⟨hE2, hMem2, hlo2, hR.2.2.2.1, ?_, hR.2.2.2.2.2.1, by dsimp only; omega, by dsimp only; omega⟩
  match v, vo, hvo with
  | [], none, _ => exact hSr
  | [a], some x, hz => exact ⟨hz, hSr⟩
theorem zrk_1 {r : Option FieldType} : (zrk r = 0 → r = none) ∧ (zrk r = 1 → r = some .int) ∧ (zrk r = 2 → r = some .boolean) ∧ (zrk r = 3 → r = some .long) ∧ (zrk r = 4 → r = some .byte) ∧ (zrk r = 5 → r = some .char) := by
  unfold zrk
  split <;> simp
theorem znb : ∀ u, u < 128 → narrow .byte (.int (Int32.ofNat u)) = .int (Int32.ofNat u) := by decide +kernel
theorem zans_iff {g v : Nat} {x : Value} {r : Option FieldType} (h : zans g v = true) (hv : zV X v x) (hr : zrk r = g) (hg : ¬ g = 3) : ∃ (n : Int32) (ty : FieldType), x = .int n ∧ r = some ty ∧ narrow ty (.int n) = .int n := by
  obtain ⟨-, r1, r2, -, r4, r5⟩ := zrk_1 (r := r)
  unfold zans at h
  simp only [zn_m, zn_d] at h
  rcases zif_iff h with ⟨h1, h⟩ | ⟨h1, h⟩
  · have e1 := zbeqT h1
    obtain ⟨n, rfl⟩ := zv_int hv (zbleT h)
    exact ⟨n, .int, rfl, r1 (hr.trans e1), rfl⟩
  rcases zif_iff h with ⟨h2, h⟩ | ⟨h2, h⟩
  · have e1 := zbeqT h2
    have hx : x = .int 0 ∨ x = .int 1 := by
      rcases zif_iff h with ⟨h3, -⟩ | ⟨-, h3⟩
      · have e2 := zbeqT h3
        subst e2
        exact Or.inl (zv_0 hv rfl)
      · have e2 := zbeqT h3
        subst e2
        exact Or.inr (zv_0 hv rfl)
    rcases hx with rfl | rfl
    · exact ⟨0, .boolean, rfl, r2 (hr.trans e1), by decide⟩
    · exact ⟨1, .boolean, rfl, r2 (hr.trans e1), by decide⟩
  rcases zif_iff h with ⟨h3, h⟩ | ⟨h3, h⟩
  · exact absurd (zbeqT h3) hg
  obtain ⟨h4, h5⟩ := zand_iff h
  obtain ⟨h5, h6⟩ := zand_iff h5
  have e0 := zv_0 hv (zbeqT h5)
  have h6 := zbleT h6
  rcases zif_iff h4 with ⟨h7, -⟩ | ⟨-, h7⟩
  · exact ⟨_, .byte, e0, r4 (hr.trans (zbeqT h7)), znb _ (by omega)⟩
  · exact ⟨_, .char, e0, r5 (hr.trans (zbeqT h7)), (pk_charN (q := v / 8) (by omega)).1⟩
theorem zw_ret {lg : Bool} {en : zEn} {me : zMe} (hrk : zrk me.2.2.1 = en.2.2.2.2.2.2.2.1) (hdg : decode me.2.1 pc = .ok (if lg then .lreturn else .ireturn, 1)) (hHr : zHr bt L stop (n + 1) X en me fs p l e R s mt args below meth c Q) (hd1 : d.2.1 = en.2.2.2.2.2.1) (hd2 : d.2.2 = en.2.2.2.2.2.2.1)
    (h : zo_ret bt lg nx ax (zok bt L stop n) w cf en.2.2.2.2 pc ls st q fs m = true) (hR : zRl X s nL d w ls st q m H locs lsA stA) : W p l e R s mt args below meth c H locs q.2.1 q.2.2 Q (F0 mt pc lsA stA) := by
  unfold zo_ret at h
  obtain ⟨v, r, es, h'⟩ := zpop_iff h
  clear h
  have h := h'
  clear h'
  subst es
  cases r with
  | cons a t => cases h
  | nil =>
    have h : zif (zand (zif lg (Nat.beq en.2.2.2.2.2.2.2.1 3) (zif (Nat.beq en.2.2.2.2.2.2.2.1 3) false true)) (zans en.2.2.2.2.2.2.2.1 v)) (zback bt [v] (zok bt L stop n) w fs m) false = true := h
    obtain ⟨x, stB, rfl, hv, hS2⟩ := zSt_c hR.2.2.2.2.1
    have e1 := zSt_n hS2
    subst e1
    rcases zif_iff h with ⟨h1, h⟩ | ⟨-, h⟩
    rotate_left
    · cases h
    obtain ⟨h1, h2⟩ := zand_iff h1
    refine hHr n w [v] m H locs lsA pc (some x) q.2.1 q.2.2 (Nat.lt_succ_self n) h hR.1 hR.2.1 hR.2.2.1 (by rw [← hd1]; exact hR.2.2.2.2.2.2.1) (by rw [← hd2]; exact hR.2.2.2.2.2.2.2) hv ?_
    cases lg with
    | false =>
      have h3 : ¬ en.2.2.2.2.2.2.2.1 = 3 := by
        rcases zif_iff (c := Nat.beq en.2.2.2.2.2.2.2.1 3) (t := false) (e := true) h1 with ⟨-, h3⟩ | ⟨h3, -⟩
        · cases h3
        · exact zbeqF h3
      obtain ⟨k, ty, e1, e2, e3⟩ := zans_iff h2 hv hrk h3
      exact Or.inl ⟨hdg, k, ty, by rw [e1], e2, e3⟩
    | true =>
      have h3 : en.2.2.2.2.2.2.2.1 = 3 := zbeqT h1
      obtain ⟨-, -, -, r3, -⟩ := zrk_1 (r := me.2.2.1)
      rw [h3] at h2
      have e4 := zv_4 hv (zbeqT h2)
      exact Or.inr (Or.inl ⟨hdg, _, by rw [e4], r3 (hrk.trans h3)⟩)
theorem zw_retv {en : zEn} {me : zMe} (hrk : zrk me.2.2.1 = en.2.2.2.2.2.2.2.1) (hdg : decode me.2.1 pc = .ok (.return_, 1)) (hHr : zHr bt L stop (n + 1) X en me fs p l e R s mt args below meth c Q) (hd1 : d.2.1 = en.2.2.2.2.2.1) (hd2 : d.2.2 = en.2.2.2.2.2.2.1)
    (h : zo_retv bt nx ax (zok bt L stop n) w cf en.2.2.2.2 pc ls st q fs m = true) (hR : zRl X s nL d w ls st q m H locs lsA stA) : W p l e R s mt args below meth c H locs q.2.1 q.2.2 Q (F0 mt pc lsA stA) := by
  unfold zo_retv at h
  cases st with
  | cons a t => cases h
  | nil =>
    have h : zif (Nat.beq en.2.2.2.2.2.2.2.1 0) (zback bt [] (zok bt L stop n) w fs m) false = true := h
    have e1 := zSt_n hR.2.2.2.2.1
    subst e1
    rcases zif_iff h with ⟨h1, h⟩ | ⟨-, h⟩
    rotate_left
    · cases h
    exact hHr n w [] m H locs lsA pc none q.2.1 q.2.2 (Nat.lt_succ_self n) h hR.1 hR.2.1 hR.2.2.1 (by rw [← hd1]; exact hR.2.2.2.2.2.2.1) (by rw [← hd2]; exact hR.2.2.2.2.2.2.2) trivial (Or.inr (Or.inr ⟨hdg, rfl, zrk_1.1 (hrk.trans (zbeqT h1))⟩))
end ZC
