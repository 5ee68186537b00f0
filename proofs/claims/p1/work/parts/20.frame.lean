/-! A FRAME of any method, run by the executor with stops -/
def zFc (bt : zW → List Nat → zM → Bool) (X : zCx) (en : zEn) (me : zMe) (d : Nat) (p : Program) (l : Launch) (e : Env) (R : Room) (s : State) (mt : MethodId) (args : Array Value) (below : List Frame) (meth : Method) (c : Code) (Q : State → Prop) : Prop :=
  zCt X en me d p R s mt meth c ∧ ∀ (w : zW) (v : List Nat) (m : zM) (H : Heap) (locs : List Loc) (lsA : Array Slot) (pc : Nat) (vo : Option Value) (cells slots : Nat), bt w v m = true → zEnv (zρ X) w.2 → zMem X s w.1 m H → (∀ x ∈ locs, zbs X ≤ x.base) → cells ≤ en.2.2.2.2.2.1 → slots ≤ en.2.2.2.2.2.2.1 → zvo X v vo → zRi me pc vo →
    W p l e R s mt args below meth c H locs cells slots Q (F0 mt pc lsA vo.toList)
theorem zrunB {bt : zW → List Nat → zM → Bool} {X : zCx} {y0 : Nat} {en : zEn} {me : zMe} {d : Nat} {p : Program} {l : Launch} {e : Env} {R : Room} {s : State} {mt : MethodId} {args : Array Value} {below : List Frame} {meth : Method} {c : Code} {Q : State → Prop} {stop : zK} (hst : ∀ w cf y pc ls st q f fs m, stop w cf y pc ls st q (f :: fs) m = false) {n : Nat}
    {w : zW} {pc : Nat} {ls st : List Nat} {q : zQ} {m : zM} {H : Heap} {locs : List Loc} {lsA : Array Slot} {stA : List Value} (hOK : zOK y0 en me) (hF : zFc bt X en me d p l e R s mt args below meth c Q) (h : zok bt (zLn X) stop n w en.1 en.2.2.2.2 pc ls st q [] m = true) (hR : zRl X s en.2.2.1 (d, en.2.2.2.2.2.1, en.2.2.2.2.2.2.1) w ls st q m H locs lsA stA)
    (hS : ∀ (w : zW) (pc : Nat) (ls st : List Nat) (q : zQ) (m : zM) (H : Heap) (locs : List Loc) (lsA : Array Slot) (stA : List Value), stop w en.1 en.2.2.2.2 pc ls st q [] m = true → zRl X s en.2.2.1 (d, en.2.2.2.2.2.1, en.2.2.2.2.2.2.1) w ls st q m H locs lsA stA → W p l e R s mt args below meth c H locs q.2.1 q.2.2 Q (F0 mt pc lsA stA)) :
    W p l e R s mt args below meth c H locs q.2.1 q.2.2 Q (F0 mt pc lsA stA) := by
  obtain ⟨d0, nc, ns⟩ := q
  have hd : d0 = d := hR.2.2.2.2.2.1
  subst hd
  exact zmain hst n X y0 en me rfl hOK w pc ls st (d0, nc, ns) [] m h p e R s mt args below meth c Q H locs lsA stA hF.1 hR (fun n' w2 v m2 H2 locs2 lsB pc2 vo cells slots _ hbk hE hM hlo hc hs hvo hri => hF.2 w2 v m2 H2 locs2 lsB pc2 vo cells slots hbk hE hM hlo hc hs hvo hri)
    (fun w2 pc2 ls2 st2 q2 m2 H2 locs2 lsB stB hs hR2 => hS w2 pc2 ls2 st2 q2 m2 H2 locs2 lsB stB hs hR2)
/-- a method's contract out of runs of its frame -/
theorem zmetB {l : Launch} {X : zCx} {y0 : Nat} {en : zEn} {me : zMe} {d : Nat} {Qc : Array Value → State → Outcome → State → Prop} (hOK : zOK y0 en me) {w : zW} {l2 : List Nat} {m : zM} {as : List Nat} {AsV : List Value} (hE : zEnv (zρ X) w.2) (hA : zSt X as AsV) (hl : l2.length = en.2.2.1) (hle : (zexp as).length ≤ en.2.2.1) (hl2 : ∀ i c : Nat, l2[i]? = some c → (zexp as)[i]? = some c ∨ c = 13)
    (hW : ∀ (p : Program) (e : Env) (s : State) (mt : MethodId) (below : List Frame) (meth : Method) (c : Code) (lsA : Array Slot), zKn X s → (∀ (bt : zW → List Nat → zM → Bool) (X2 : zCx), zbs X2 = zbs X → zKn X2 s → (∀ (t : State) (w : zW) (v : List Nat) (m : zM) (vo : Option Value), bt w v m = true → zEnv (zρ X2) w.2 → zMem X2 s w.1 m t.heap → zvo X2 v vo → s.WarmedH t.vm → Qc AsV.toArray s (.returned vo) t) →
        zFc bt X2 en me d p l e { frames := d, cells := en.2.2.2.2.2.1, slots := en.2.2.2.2.2.2.1, locals := 64 * d } s mt AsV.toArray below meth c (MQ below Qc AsV.toArray s en.2.2.2.2.2.1 en.2.2.2.2.2.2.1 (fun q => zbs X ≤ q))) →
      zRl X s en.2.2.1 (d, en.2.2.2.2.2.1, en.2.2.2.2.2.2.1) w l2 [] (d, 0, 0) m s.heap [] lsA [] → W p l e { frames := d, cells := en.2.2.2.2.2.1, slots := en.2.2.2.2.2.2.1, locals := 64 * d } s mt AsV.toArray below meth c s.heap [] 0 0 (MQ below Qc AsV.toArray s en.2.2.2.2.2.1 en.2.2.2.2.2.2.1 (fun q => zbs X ≤ q)) (F0 mt 0 lsA [])) :
    Met l me.1 [Cond.code me.1 me.2.1 en.2.2.1 me.2.2.1] { frames := d, cells := en.2.2.2.2.2.1, slots := en.2.2.2.2.2.2.1, locals := 64 * d } (va_Pc AsV (fun U => zKn X U ∧ zMem X U w.1 m U.heap)) Qc en.2.2.2.2.2.1 en.2.2.2.2.2.2.1 (fun q => zbs X ≤ q) := by
  obtain ⟨hrow, hnum, hrk, hcn, hcls, hml40, hpl, g, hin, hg1, hgw⟩ := hOK
  refine zMet_ofW hpl ?_
  intro p e s mt args below meth c s₁ B hml hv
  obtain ⟨rfl, hK, hMem⟩ := hv
  have hown : s.vm.findClass me.2.2.2 = some mt.cls := by rw [← hcls]; exact findClass_of_methodNamed B.named
  have hlen := zexp_len hA
  have hent := lv_entry AsV (n := en.2.2.1) (by rw [hlen]; exact hle)
  rw [lg_entry_eq]
  generalize (lg_sl AsV ++ List.replicate (en.2.2.1 - (lg_sl AsV).length) Slot.unset).toArray = lsA at hent ⊢
  have hlocks := B.notSynchronized
  refine hW p e s mt below meth c lsA hK (fun bt X2 hbs hK2 hQ => ⟨⟨B.exec, B.bytes, hml, hown, hK2, ?_, Nat.le_refl _, Nat.le_refl _, Nat.le_refl _, Nat.le_refl _⟩, ?_⟩) ⟨hE, hMem, (fun x hx => by cases hx), ⟨hl, hent.1, hent.2.1, ?_⟩, trivial, rfl, Nat.zero_le _, Nat.zero_le _⟩
  · intro hne
    have hg : g = 1 := by
      by_cases q : g = 1
      · exact q
      · rw [if_neg q] at hin
        exact absurd hin hne
    rw [(name_of_methodNamed B.named B.method).1]
    exact (hg1 hg).1
  · intro w2 v m2 H locs lsB pc vo cells slots hbk hE2 hM2 hlo hc hs hvo hri
    have hq : ∀ t : State, t.heap = H → s.WarmedH t.vm → Qc AsV.toArray s (.returned vo) t := fun t ht hWm => hQ t w2 v m2 vo hbk hE2 (by rw [ht]; exact hM2) hvo hWm
    have hlo2 : ∀ x ∈ locs, zbs X ≤ x.base := fun x hx => by rw [← hbs]; exact hlo x hx
    refine W.widen hc hs ?_
    rcases hri with ⟨hd, x, ty, rfl, hty, hnar⟩ | ⟨hd, x, rfl, hty⟩ | ⟨hd, rfl, hty⟩
    · exact W.zret B.exec B.bytes (by rw [B.returns]; exact hty) hnar hq hlo2 hd hlocks
    · exact W.lret B.exec B.bytes (by rw [B.returns]; exact hty) hq hlo2 hd hlocks
    · exact W.vret B.exec B.bytes (by rw [B.returns]; exact hty) hq hlo2 hd hlocks
  · intro i cc hc hn
    rcases hl2 i cc hc with h1 | h1
    · obtain ⟨v, h2, h3⟩ := zexp_args (o := 0) hA i cc h1 hn
      rw [Nat.zero_add] at h2
      exact ⟨v, hent.2.2 _ h2, h3⟩
    · exact absurd h1 hn
/-- a call out of the law's frame, of a method whose contract is at hand -/
theorem zcallL {p : Program} {l : Launch} {e : Env} {s : State} {mt : MethodId} {below : List Frame} {meth : Method} {c : Code} {b : Nat} {X : zCx} {y2 : Nat} {en2 : zEn} {me2 : zMe} {w : zW} {pc idx : Nat} {ls asr r : List Nat} {q : zQ} {m : zM} {H : Heap} {locs : List Loc} {lsA : Array Slot} {stA : List Value} {K : zW → List Nat → zM → Prop}
    (hC : zLc X p s mt meth c) (hOK2 : zOK y2 en2 me2) (hKi : zKi 0 en2 me2) (hmc : en2.2.2.2.2.2.1 = 0) (hms : en2.2.2.2.2.2.2.1 = 0) (hw : Cond.methodLink R_law idx me2.1 ∈ lw_tbl) (hd : decode code pc = .ok (.invokevirtual idx, 3)) (hR : zRl X s 4 (1000, 600000, 7302250) w ls (asr ++ r) q m H locs lsA stA) (hal : asr.length = en2.2.1) (hrw : zwords r ≤ 8)
    (hrcv : zrcv (en2.2.2.2.1 + 1) asr.reverse m true = true)
    (hMet : ∀ AsV : List Value, zSt X asr.reverse AsV → Met l me2.1 [Cond.code me2.1 me2.2.1 en2.2.2.1 me2.2.2.1] { frames := 999, cells := en2.2.2.2.2.2.1, slots := en2.2.2.2.2.2.2.1, locals := 64 * 999 } (va_Pc AsV (fun U => zKn X U ∧ zMem X U w.1 m U.heap)) (zQc X K) en2.2.2.2.2.2.1 en2.2.2.2.2.2.2.1 (fun q => zbs X ≤ q))
    (kk : ∀ (w2 : zW) (v : List Nat) (m2 : zM) (vo : Option Value) (H2 : Heap) (locs2 : List Loc) (rest : List Value), zSt X r rest → zvo X v vo → zMem X s w2.1 m2 H2 → zEnv (zρ X) w2.2 → K w2 v m2 → (∀ x ∈ locs2, zbs X ≤ x.base) → W p l e room_1 s mt #[Value.ref b] below meth c H2 locs2 q.2.1 q.2.2 (lw_Z below #[Value.ref b] s) (F0 mt (pc + 3) lsA (vo.toList ++ rest))) :
    W p l e room_1 s mt #[Value.ref b] below meth c H locs q.2.1 q.2.2 (lw_Z below #[Value.ref b] s) (F0 mt pc lsA stA) := by
  obtain ⟨hexec, hb, hr, hlk, hml, hown, hK, hbs⟩ := hC
  obtain ⟨qA, rest, rfl, hSa, hSr⟩ := zSt_split hR.2.2.2.2.1
  have hA := zSt_rev hSa
  have e1 : zcn en2.2.2.2.1 = me2.2.2.2 := hOK2.2.2.2.1
  obtain ⟨-, hrc⟩ := zrcv_iff (w := w) hK hR.2.1 hA hrcv
  rw [e1] at hrc
  have hrun := zrow_v hexec hb hml hown hK hw hOK2.2.2.2.2.1 hKi (stA := qA ++ rest) (AsV := qA.reverse) (rest := rest) (locs := locs) (cells := q.2.1) (slots := q.2.2) (p := p) (e := e) (R := room_1) (args := #[Value.ref b]) (below := below) (meth := meth) (H := H) (lsA := lsA) (by rw [List.reverse_reverse]) (by rw [List.length_reverse, zSt_len hSa]; exact hal) (by rw [zSt_words hSr]; exact hrw) (hMet _ hA) rfl rfl
    (show 999 + 1 ≤ 2048 by decide) (by have := hOK2.2.2.2.2.2.1; show 8 + (en2.2.2.1 + 11) + 64 * 999 ≤ 84000; omega) (fun a U g mk hp => ⟨hp.1, zKn.same (s := U) rfl hp.2.1, (hp.2.2).moved (u := U) (Vm.Alike.refl U.vm)⟩) (fun U hU hW => ⟨rfl, hK.warm hW, by rw [hU]; exact hR.2.1.moved hW.alike⟩) hrc
    (by
      have h1 : q.2.1 ≤ 600000 := hR.2.2.2.2.2.2.1
      have h2 : q.2.2 ≤ 7302250 := hR.2.2.2.2.2.2.2
      rw [hmc, hms]
      exact ⟨h1, h2⟩) hR.2.2.2.1.2.1 hd
  refine zcont hrun hR.2.2.1 (fun w2 v m2 vo H2 locs2 hvo hMem2 hE2 hKk hlo2 => ?_)
  have h3 := kk w2 v m2 vo H2 locs2 rest hSr hvo hMem2 hE2 hKk hlo2
  rw [hmc, hms]
  exact h3
/-- lists, place by place -/
noncomputable def zrelL {α : Type} (f : α → α → Bool) (a : List α) : List α → Bool := List.rec (motive := fun _ => List α → Bool) (fun _ => true) (fun x _ ih b => List.rec (motive := fun _ => Bool) false (fun y t _ => zand (f x y) (ih t)) b) a
theorem zrelL_iff {α : Type} {f : α → α → Bool} : ∀ {a b : List α}, zrelL f a b = true → ∀ (i : Nat) (x : α), a[i]? = some x → ∃ y, b[i]? = some y ∧ f x y = true := by
  intro a
  induction a with
  | nil => intro b h i x hx; simp at hx
  | cons z s ih =>
    intro b h i x hx
    cases b with
    | nil => cases h
    | cons y t =>
      obtain ⟨h1, h2⟩ := zand_iff (show zand (f z y) (zrelL f s t) = true from h)
      cases i with
      | zero =>
        rw [List.getElem?_cons_zero] at hx
        cases hx
        exact ⟨y, List.getElem?_cons_zero, h1⟩
      | succ i =>
        rw [List.getElem?_cons_succ] at hx
        obtain ⟨y', h3, h4⟩ := ih h2 i x hx
        exact ⟨y', by rw [List.getElem?_cons_succ]; exact h3, h4⟩
noncomputable def zsubC (x y : zCl) : Bool := zif (Nat.beq x.1 99) true (zeqC x y)
noncomputable def zsubM (a b : zM) : Bool := zrelL (zrelL (zrelL zsubC)) a b
theorem zsubM_iff {a b : zM} (h : zsubM a b = true) {i : Nat} {c : zCl} (hc : zG a i = some c) (hn : ¬ c.1 = 99) : zG b i = some c := by
  obtain ⟨b1, a1, h1, h2, h3⟩ := zG_iff hc
  obtain ⟨y1, g1, f1⟩ := zrelL_iff h _ _ h1
  obtain ⟨y2, g2, f2⟩ := zrelL_iff f1 _ _ h2
  obtain ⟨y3, g3, f3⟩ := zrelL_iff f2 _ _ h3
  have e : c = y3 := by
    rcases zif_iff f3 with ⟨q, -⟩ | ⟨-, q⟩
    · exact absurd (zbeqT q) hn
    · exact zeqC_iff q
  unfold zG
  rw [g1, Option.bind_some, g2, Option.bind_some, g3, e]
theorem zMem.weak {X : zCx} {U : State} {n : Nat} {m m2 : zM} {H : Heap} (h : zMem X U n m H) (hs : zsubM m2 m = true) : zMem X U n m2 H := ⟨h.1, h.2.1, fun a c ha hn => h.2.2.1 a c (zsubM_iff hs ha hn) hn, h.2.2.2⟩
noncomputable def zallL {α : Type} (f : α → Bool) (a : List α) : Bool := List.rec (motive := fun _ => Bool) true (fun x _ ih => zand (f x) ih) a
theorem zallL_iff {α : Type} {f : α → Bool} : ∀ {a : List α}, zallL f a = true → ∀ (i : Nat) (x : α), a[i]? = some x → f x = true := by
  intro a
  induction a with
  | nil => intro h i x hx; simp at hx
  | cons z s ih =>
    intro h i x hx
    obtain ⟨h1, h2⟩ := zand_iff (show zand (f z) (zallL f s) = true from h)
    cases i with
    | zero => rw [List.getElem?_cons_zero] at hx; cases hx; exact h1
    | succ i => rw [List.getElem?_cons_succ] at hx; exact ih h2 i x hx
/-- no symbol in the memory -/
noncomputable def zclM (m : zM) : Bool := zallL (zallL (zallL (fun c : zCl => zallL (zallL (zallL (fun v => zif (Nat.beq (Nat.mod v 8) 1) false true))) c.2.2))) m
theorem zclM_iff {m : zM} (h : zclM m = true) {a j v : Nat} {c : zCl} (hc : zG m a = some c) (hv : zG c.2.2 j = some v) : ¬ v % 8 = 1 := by
  obtain ⟨b1, a1, h1, h2, h3⟩ := zG_iff hc
  obtain ⟨b2, a2, h4, h5, h6⟩ := zG_iff hv
  have f := zallL_iff (zallL_iff (zallL_iff (zallL_iff (zallL_iff (zallL_iff h _ _ h1) _ _ h2) _ _ h3) _ _ h4) _ _ h5) _ _ h6
  rcases zif_iff (c := Nat.beq (Nat.mod v 8) 1) (t := false) (e := true) f with ⟨-, q⟩ | ⟨q, -⟩
  · cases q
  · exact zbeqF q
/-- another symbol's int -/
def zset6 (X : zCx) (k : Int32) : zCx := (fun j => if j = 6 then k else X.1 j, X.2)
theorem zV_set {X : zCx} {k : Int32} {v : Nat} {w : Value} (hn : ¬ (v % 8 = 1 ∧ v / 34359738368 = 6)) (h : zV X v w) : zV (zset6 X k) v w := by
  rcases h with h | ⟨h1, h2⟩ | h | h | h | h | h
  · exact Or.inl h
  · refine Or.inr (Or.inl ⟨h1, ?_⟩)
    have e : zρ (zset6 X k) (v / 34359738368) = zρ X (v / 34359738368) := by
      show (if v / 34359738368 = 6 then k else X.1 (v / 34359738368)) = _
      rw [if_neg (fun q => hn ⟨h1, q⟩)]
    rw [e]
    exact h2
  · exact Or.inr (Or.inr (Or.inl h))
  · exact Or.inr (Or.inr (Or.inr (Or.inl h)))
  · exact Or.inr (Or.inr (Or.inr (Or.inr (Or.inl h))))
  · exact Or.inr (Or.inr (Or.inr (Or.inr (Or.inr (Or.inl h)))))
  · exact Or.inr (Or.inr (Or.inr (Or.inr (Or.inr (Or.inr h)))))
theorem zV_unset {X : zCx} {k : Int32} {v : Nat} {w : Value} (hn : ¬ v % 8 = 1) (h : zV (zset6 X k) v w) : zV X v w := by
  rcases h with h | ⟨h1, h2⟩ | h | h | h | h | h
  · exact Or.inl h
  · exact absurd h1 hn
  · exact Or.inr (Or.inr (Or.inl h))
  · exact Or.inr (Or.inr (Or.inr (Or.inl h)))
  · exact Or.inr (Or.inr (Or.inr (Or.inr (Or.inl h))))
  · exact Or.inr (Or.inr (Or.inr (Or.inr (Or.inr (Or.inl h)))))
  · exact Or.inr (Or.inr (Or.inr (Or.inr (Or.inr (Or.inr h)))))
theorem zMem.re {X : zCx} {U : State} {n : Nat} {m : zM} {H : Heap} {X2 : zCx} (h2 : X2.2 = X.2) (hv : ∀ v w, ¬ v % 8 = 1 → zV X v w → zV X2 v w) (hc : zclM m = true) (h : zMem X U n m H) : zMem X2 U n m H := by
  obtain ⟨ρ2, Y2⟩ := X2
  obtain ⟨ρ, Y⟩ := X
  have e : Y2 = Y := h2
  subst e
  refine ⟨h.1, h.2.1, fun a c ha hn => ⟨(h.2.2.1 a c ha hn).1, ?_⟩, h.2.2.2⟩
  rcases (h.2.2.1 a c ha hn).2 with ⟨q1, cell, q2, q3, q4, q5⟩ | ⟨ty, cA, f, q1, q2, q3, q4, q5⟩
  · refine Or.inl ⟨q1, cell, q2, q3, q4, fun k v hk hg => ?_⟩
    obtain ⟨w, r1, r2⟩ := q5 k v hk hg
    exact ⟨w, hv v w (zclM_iff hc ha hg) r1, r2⟩
  · exact Or.inr ⟨ty, cA, f, q1, q2, q3, q4, fun j v hj hg => hv v _ (zclM_iff hc ha hg) (q5 j v hj hg)⟩
theorem zKn.set6 {X : zCx} {s : State} {k : Int32} (hL : zLn X ≤ 6) (h : zKn X s) : zKn (zset6 X k) s := by
  obtain ⟨h1, h2, ⟨h3, h3', scr, h4, h5, h6, h7, h8⟩, h9⟩ := h
  refine ⟨h1, h2, ⟨h3, h3', scr, h4, h5, h6, h7, fun j hj => ?_⟩, h9⟩
  have hj : j < zLn X := hj
  have e : zρ (zset6 X k) j = zρ X j := by
    show (if j = 6 then k else X.1 j) = _
    rw [if_neg (by omega)]
  rw [e]
  exact h8 j hj
