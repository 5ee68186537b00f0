section
/-! calls, returns -/
/-! relations of contracts -/
theorem zyFo_iff {F : zyR} : ∀ {l : zyR}, zyFo F l = true → ∀ a k, zyin l a k = true → zyin F a k = false := by
  intro l
  induction l with
  | nil => intro _ a k h; cases h
  | cons p t ih =>
    intro h a k hk
    have h : zand (zyapt F p.1 p.2.1 p.2.2) (zyFo F t) = true := h
    obtain ⟨g1, g2⟩ := zand_iff h
    obtain ⟨p2, q1, q2, q3, q4⟩ := zyin_iff.mp hk
    rcases List.mem_cons.mp q1 with q | q
    · subst q
      rw [← q2]
      exact zyapt_iff g1 k q3 q4
    · exact ih g2 a k (zyin_iff.mpr ⟨p2, q, q2, q3, q4⟩)
theorem zyff_iff {P : zyP} {id v a b : Nat} {l : List zyF} {f : zyF} (h : f ∈ zyff P id v a b l) : f ∈ l ∨ (f = (1000 + id, v, a, b) ∧ zyFo P.2.2.1 (zyFd id) = true ∧ a % 8 ≤ 2 ∧ b % 8 ≤ 2) := by
  unfold zyff at h
  cases hb : zand (zyFo P.2.2.1 (zyFd id)) (zand (Nat.ble (Nat.mod a 8) 2) (Nat.ble (Nat.mod b 8) 2)) with
  | false => rw [hb] at h; exact Or.inl h
  | true =>
    rw [hb] at h
    obtain ⟨g1, g2⟩ := zand_iff hb
    obtain ⟨g2, g3⟩ := zand_iff g2
    rcases List.mem_cons.mp h with q | q
    · exact Or.inr ⟨q, g1, zbleT g2, zbleT g3⟩
    · exact Or.inl q
theorem zyFm_mk {X : zyX} {id v a b : Nat} {x y z : Int32} (hv : zyV X v (.int z)) (ha : zyV X a (.int x)) (hb : zyV X b (.int y)) (h : (zyJ X).2 id (zyE X) x y z) : zyFm X (1000 + id, v, a, b) := by
  unfold zyFm
  dsimp only
  rw [if_neg (by omega), if_neg (by omega), if_neg (by omega), show 1000 + id - 1000 = id by omega]
  exact ⟨x, y, z, hv, ha, hb, h⟩
theorem zyFm_rel {X : zyX} {id v a b : Nat} (h : zyFm X (1000 + id, v, a, b)) : ∃ x y z : Int32, zyV X v (.int z) ∧ zyV X a (.int x) ∧ zyV X b (.int y) ∧ (zyJ X).2 id (zyE X) x y z := by
  unfold zyFm at h
  dsimp only at h
  rw [if_neg (by omega), if_neg (by omega), if_neg (by omega), show 1000 + id - 1000 = id by omega] at h
  exact h
theorem zyag_c {as : List Nat} {a i : Nat} : zyag (a :: as) (i + 1) = zyag as i := rfl
theorem zyag_iff {X : zyX} : ∀ {as : List Nat} {AsV : List Value} {i : Nat}, zySt X as AsV → (zyag as i) % 8 ≤ 2 → zyV X (zyag as i) (.int (zyAi AsV.toArray i)) := by
  intro as
  induction as with
  | nil =>
    intro AsV i h _
    have e := zySt_n h
    subst e
    have e : zyAi (([] : List Value).toArray) i = 0 := by simp [zyAi]
    rw [e]
    exact zyv_zero
  | cons a t ih =>
    intro AsV i h hk
    obtain ⟨b, u, rfl, h1, h2⟩ := zySt_c h
    cases i with
    | zero =>
      have hk : a % 8 ≤ 2 := hk
      obtain ⟨x, rfl⟩ := zyv_int h1 hk
      have e : zyAi ((Value.int x :: u).toArray) 0 = x := by simp [zyAi]
      rw [e]
      exact h1
    | succ i =>
      rw [zyag_c] at hk ⊢
      have e : zyAi ((b :: u).toArray) (i + 1) = zyAi u.toArray i := by simp [zyAi]
      rw [e]
      exact ih h2 hk
theorem zyag_no {X : zyX} : ∀ {as : List Nat} {AsV : List Value} {i : Nat}, zySt X as AsV → ¬ (zyag as i) % 8 ≤ 2 → zyAi AsV.toArray i = 0 := by
  intro as
  induction as with
  | nil => intro AsV i h hk; exact absurd (show (zyag [] i) % 8 ≤ 2 from Nat.zero_le _) hk
  | cons a t ih =>
    intro AsV i h hk
    obtain ⟨b, u, rfl, h1, h2⟩ := zySt_c h
    cases i with
    | zero =>
      have hk : ¬ a % 8 ≤ 2 := hk
      have e : zyAi ((b :: u).toArray) 0 = match b with
        | .int x => x
        | _ => 0 := by
        unfold zyAi
        simp
        cases b <;> rfl
      rw [e]
      cases b with
      | int x => exact absurd (zyv_ik h1) hk
      | _ => rfl
    | succ i =>
      rw [zyag_c] at hk
      have e : zyAi ((b :: u).toArray) (i + 1) = zyAi u.toArray i := by simp [zyAi]
      rw [e]
      exact ih h2 hk
theorem zyai_iff {X : zyX} {as : List Nat} {AsV : List Value} {i : Nat} (h : zySt X as AsV) : zyV X (zyai as i) (.int (zyAi AsV.toArray i)) := by
  unfold zyai
  cases hb : Nat.ble (Nat.mod (zyag as i) 8) 2 with
  | true => exact zyag_iff h (zbleT hb)
  | false =>
    rw [zyag_no h (zbleF hb)]
    exact zyv_zero
theorem zyEl_is {B : zyB} {Y : zCx} {H : Heap} {a k : Nat} {x : Value} (h : zyEl B Y H a k = some x) : ∃ c, zG B a = some c ∧ k < zyLen c := by
  unfold zyEl at h
  cases hg : zG B a with
  | none => rw [hg] at h; cases h
  | some cc =>
    rw [hg] at h
    dsimp only at h
    by_cases hl : k < zyLen cc
    · exact ⟨cc, rfl, hl⟩
    · rw [if_neg hl] at h
      cases h
theorem zyexp_len {X : zyX} : ∀ {as : List Nat} {vs : List Value}, zySt X as vs → (lg_sl vs).length = (zexp as).length := by
  intro as
  induction as with
  | nil => intro vs h; rw [zySt_n h]; rfl
  | cons a t ih =>
    intro vs h
    obtain ⟨b, u, rfl, h1, h2⟩ := zySt_c h
    have e1 : zexp (a :: t) = zif (Nat.beq (Nat.mod a 8) 4) (a :: 13 :: zexp t) (a :: zexp t) := rfl
    have e2 : lg_sl (b :: u) = (if b.category = 2 then [.val b, .second] else [.val b]) ++ lg_sl u := rfl
    rw [e1, e2, zyv_cat h1]
    cases hb : Nat.beq (Nat.mod a 8) 4 with
    | true =>
      have this : a % 8 = 4 := zbeqT hb
      rw [if_pos this, if_pos rfl]
      show ([Slot.val b, Slot.second] ++ lg_sl u).length = (a :: 13 :: zexp t).length
      simp [ih h2]
    | false =>
      have this : ¬ a % 8 = 4 := zbeqF hb
      rw [if_neg this, if_neg (by decide)]
      show ([Slot.val b] ++ lg_sl u).length = (a :: zexp t).length
      simp [ih h2]
theorem zyexp_args {X : zyX} : ∀ {as : List Nat} {vs : List Value} {o : Nat}, zySt X as vs → ∀ i c, (zexp as)[i]? = some c → ¬ c = 13 → ∃ v, (o + i, v) ∈ lv_args o vs ∧ zyV X c v := by
  intro as
  induction as with
  | nil => intro vs o h i c hc; simp [zexp] at hc
  | cons a t ih =>
    intro vs o h i c hc hn
    obtain ⟨b, u, rfl, h1, h2⟩ := zySt_c h
    have e1 : zexp (a :: t) = zif (Nat.beq (Nat.mod a 8) 4) (a :: 13 :: zexp t) (a :: zexp t) := rfl
    have e2 : lv_args o (b :: u) = (o, b) :: lv_args (if b.category = 2 then o + 2 else o + 1) u := rfl
    rw [e1] at hc
    rw [e2, zyv_cat h1]
    cases hb : Nat.beq (Nat.mod a 8) 4 with
    | true =>
      have this : a % 8 = 4 := zbeqT hb
      rw [if_pos this, if_pos rfl]
      rw [hb] at hc
      have hc : (a :: 13 :: zexp t)[i]? = some c := hc
      match i, hc with
      | 0, hc => rw [List.getElem?_cons_zero] at hc; cases hc; exact ⟨b, List.mem_cons_self, h1⟩
      | 1, hc => rw [List.getElem?_cons_succ, List.getElem?_cons_zero] at hc; cases hc; exact absurd rfl hn
      | i + 2, hc =>
        rw [List.getElem?_cons_succ, List.getElem?_cons_succ] at hc
        obtain ⟨v, q1, q2⟩ := ih (o := o + 2) h2 i c hc hn
        exact ⟨v, List.mem_cons_of_mem _ (by rw [show o + (i + 2) = o + 2 + i by omega]; exact q1), q2⟩
    | false =>
      have this : ¬ a % 8 = 4 := zbeqF hb
      rw [if_neg this, if_neg (by decide)]
      rw [hb] at hc
      have hc : (a :: zexp t)[i]? = some c := hc
      match i, hc with
      | 0, hc => rw [List.getElem?_cons_zero] at hc; cases hc; exact ⟨b, List.mem_cons_self, h1⟩
      | i + 1, hc =>
        rw [List.getElem?_cons_succ] at hc
        obtain ⟨v, q1, q2⟩ := ih (o := o + 1) h2 i c hc hn
        exact ⟨v, List.mem_cons_of_mem _ (by rw [show o + (i + 1) = o + 1 + i by omega]; exact q1), q2⟩
theorem zySt_split {X : zyX} : ∀ {s1 s2 : List Nat} {q : List Value}, zySt X (s1 ++ s2) q → ∃ q1 q2, q = q1 ++ q2 ∧ zySt X s1 q1 ∧ zySt X s2 q2 := by
  intro s1
  induction s1 with
  | nil => intro s2 q h; exact ⟨[], q, rfl, trivial, h⟩
  | cons a t ih =>
    intro s2 q h
    obtain ⟨b, u, rfl, h1, h2⟩ := zySt_c h
    obtain ⟨q1, q2, rfl, h3, h4⟩ := ih h2
    exact ⟨b :: q1, q2, rfl, ⟨h1, h3⟩, h4⟩
theorem zySt_rev {X : zyX} : ∀ {s1 : List Nat} {q1 : List Value}, zySt X s1 q1 → zySt X s1.reverse q1.reverse := by
  intro s1
  induction s1 with
  | nil => intro q1 h; rw [zySt_n h]; exact trivial
  | cons a t ih =>
    intro q1 h
    obtain ⟨b, u, rfl, h1, h2⟩ := zySt_c h
    rw [List.reverse_cons, List.reverse_cons]
    exact zySt_app (ih h2) ⟨h1, trivial⟩
/-- a callee's contract out of its run -/
theorem zymet {l : Launch} {bt : zW → List Nat → zyM → Bool} {P : zyP} {stop : zyK} {n : Nat} (hM : zyMain l bt P stop n) (hst : ∀ w cf y pc ls st q f fs m, stop w cf y pc ls st q (f :: fs) m = false) {X : zyX} (hCon : zyCons l P (zyJ X)) (hJd : zyJp P.2.2.2.1 (zyJ X)) {y0 : Nat} {en : zEn} {me : zMe} (hOK : zOK y0 en me)
    {w : zW} {l2 : List Nat} {d : Nat} {fr : zFr} {fs : List zFr} {m : zyM} {as : List Nat} {AsV : List Value} (h : zyok bt P stop n w en.1 en.2.2.2.2 0 l2 [] (d, 0, 0) (fr :: fs) m = true) (hE : zEnv (zyρ X) w.2) (hN : w.1 = zyN X) (hf : ∀ f ∈ m.2, zyFm X f) (hA : zySt X as AsV) (hl : l2.length = en.2.2.1) (hle : (zexp as).length ≤ en.2.2.1) (hl2 : ∀ i c : Nat, l2[i]? = some c → (zexp as)[i]? = some c ∨ c = 13) :
    Met l me.1 [Cond.code me.1 me.2.1 en.2.2.1 me.2.2.1] { frames := d, cells := en.2.2.2.2.2.1, slots := en.2.2.2.2.2.2.1, locals := 64 * d } (va_Pc AsV (fun U => zKn (zyb X) U ∧ zyMem P X U m.1 U.heap)) (zyQi P X (fun w2 v m2 => ∃ n', n' < n ∧ zyback bt v (zyok bt P stop n') w2 (fr :: fs) m2 = true)) en.2.2.2.2.2.1 en.2.2.2.2.2.2.1 (fun q => zbs (zyb X) ≤ q) := by
  obtain ⟨hrow, hnum, hrk, hcn, hcls, hml40, hpl, g, hin, hg1, hgw⟩ := hOK
  refine zMet_ofW hpl ?_
  intro p e s mt args below meth c s₁ B hml hv
  obtain ⟨rfl, hK, hMem⟩ := hv
  have hown : s.vm.findClass me.2.2.2 = some mt.cls := by rw [← hcls]; exact findClass_of_methodNamed B.named
  have hlen := zyexp_len hA
  have hent := lv_entry AsV (n := en.2.2.1) (by rw [hlen]; exact hle)
  rw [lg_entry_eq]
  generalize (lg_sl AsV ++ List.replicate (en.2.2.1 - (lg_sl AsV).length) Slot.unset).toArray = lsA at hent ⊢
  have hlocks := B.notSynchronized
  refine hM (X.1, X.2.1, X.2.2.1, X.2.1, X.2.2.1, X.2.2.2.2.2) y0 en me hCon ⟨hrow, hnum, hrk, hcn, hcls, hml40, hpl, g, hin, hg1, hgw⟩ w 0 l2 [] (d, 0, 0) (fr :: fs) m h p e _ s mt _ below meth c _ s.heap [] lsA [] ⟨B.exec, B.bytes, hml, hown, ⟨hK, hJd⟩, Nat.le_refl _, Nat.le_refl _, Nat.le_refl _, Nat.le_refl _⟩ ⟨⟨hE, hN, ⟨Nat.le_refl _, fun _ _ => rfl⟩, hf⟩, hMem, (fun x hx => by cases hx), ⟨hl, hent.1, hent.2.1, ?_⟩, trivial, rfl, Nat.zero_le _, Nat.zero_le _⟩ ?_ ?_
  · intro i cc hc hn
    rcases hl2 i cc hc with h1 | h1
    · obtain ⟨v, h2, h3⟩ := zyexp_args (o := 0) hA i cc h1 hn
      rw [Nat.zero_add] at h2
      exact ⟨v, hent.2.2 _ h2, h3⟩
    · exact absurd h1 hn
  · intro n' ρ2 w2 v m2 H locs lsB pc vo cells slots hn' hbk hX hM2 hlo hc hs hvo hri
    have hq : ∀ t : State, t.heap = H → s.WarmedH t.vm → zyQi P X (fun w2 v m2 => ∃ n', n' < n ∧ zyback bt v (zyok bt P stop n') w2 (fr :: fs) m2 = true) AsV.toArray s (.returned vo) t := fun t ht hW => ⟨ρ2, w2, v, m2, vo, rfl, hX.2.1.1, hX.2.1.2, hX.1, hX.2.2, hvo, by rw [ht]; exact hM2.moved hW.alike, n', hn', hbk⟩
    refine W.widen hc hs ?_
    rcases hri with ⟨hd, x, ty, rfl, hty, hnar⟩ | ⟨hd, x, rfl, hty⟩ | ⟨hd, rfl, hty⟩
    · exact W.zret B.exec B.bytes (by rw [B.returns]; exact hty) hnar hq hlo hd hlocks
    · exact W.lret B.exec B.bytes (by rw [B.returns]; exact hty) hq hlo hd hlocks
    · exact W.vret B.exec B.bytes (by rw [B.returns]; exact hty) hq hlo hd hlocks
  · intro ρ2 N2 w2 pc ls st q m2 H locs lsB stA hs
    rw [hst] at hs
    cases hs
section ZYC
variable {p : Program} {l : Launch} {e : Env} {R : Room} {s : State} {mt : MethodId} {args : Array Value} {below : List Frame} {meth : Method} {c : Code} {Q : State → Prop} {P : zyP} {X : zyX} {cf : Nat → zT} {y : zY} {fs : List zFr} {nL : Nat} {d : Nat × Nat × Nat}
variable {w : zW} {pc nx ax : Nat} {ls st : List Nat} {q : zQ} {m : zyM} {H : Heap} {locs : List Loc} {lsA : Array Slot} {stA : List Value} {own : String} {cc : ByteArray} {idx pp : Nat}
variable {bt : zW → List Nat → zyM → Bool} {stop : zyK} {n : Nat}
theorem zyrcv_iff {cI : Nat} {as : List Nat} {b : Bool} {AsV : List Value} (hK : zKn (zyb X) s) (hM : zyMem P X s m.1 H) (hA : zySt X as AsV) (h : zyrcv P.1 (cI + 1) as b = true) : b = true ∧ ∃ (a : Addr) (As : List Value), AsV = .ref a :: As ∧ ∃ cellB : Cell, H[a]? = some cellB ∧ cellB.vm.isStatics = false ∧ s.vm.findClass (zcn cI) = some cellB.cls := by
  unfold zyrcv at h
  simp only [zn_m, zn_d, zn_c, zn_s] at h
  rcases zif_iff h with ⟨h1, h9⟩ | ⟨-, h9⟩
  · exact absurd (zbeqT h1) (by omega)
  clear h
  have h := h9
  clear h9
  obtain ⟨a, t, es, h'⟩ := zpop_iff h
  clear h
  have h := h'
  clear h'
  subst es
  obtain ⟨x, u, rfl, hx, hA2⟩ := zySt_c hA
  rcases zif_iff h with ⟨h1, h⟩ | ⟨-, h⟩
  rotate_left
  · cases h
  have ex := zyv_3 hx (zbeqT h1)
  subst ex
  have hlow := zylowH hM
  rcases zif_iff h with ⟨h2, h⟩ | ⟨h2, h⟩
  · have h2 := zbleT h2
    rcases zif_iff h with ⟨h3, h⟩ | ⟨-, h⟩
    rotate_left
    · cases h
    obtain ⟨h3, h4⟩ := zand_iff h3
    have h3 := zbeqT h3
    have h4 : a / 8 - 100000 + 1 ≤ 30 := zbleT h4
    obtain ⟨i, hi⟩ : ∃ i, a / 8 = 100000 + i := ⟨a / 8 - 100000, by omega⟩
    obtain ⟨-, hO, -⟩ := hK.2.2.2.1 i (by omega)
    obtain ⟨cell, g1, g2, g3, -⟩ := hO.kept hlow
    refine ⟨h, _, u, rfl, cell, ?_, g2, ?_⟩
    · rw [hi, zhigh (by omega)]
      exact g1
    · have : cI = 13 := by omega
      rw [this]
      exact g3
  · obtain ⟨⟨tg, ln, ct⟩, hg, h⟩ := zget_iff h
    dsimp only at h
    rcases zif_iff h with ⟨h3, h⟩ | ⟨-, h⟩
    rotate_left
    · cases h
    obtain ⟨h3, h5⟩ := zand_iff h3
    have h3 := zbeqT h3
    have h5 := zbleT h5
    have htg : tg = cI := by omega
    have hfin := h
    subst htg
    rcases (hM.1 _ _ hg).2 with ⟨q1, cell, q2, q3, q4⟩ | ⟨ty, cA, f, q1, -⟩
    · have q1 : tg < 12 := q1
      refine ⟨hfin, _, u, rfl, cell, q2, by rw [q4]; rfl, ?_⟩
      rw [q3]
      exact (hK.2.1 tg _ (zvw _ q1)).2.1
    · have := zty_kd (show zty tg = some ty from q1)
      omega
theorem zyw_call {y2 kd : Nat} (hIH : ∀ k, k < n + 1 → zyMain l bt P stop k) (hst : ∀ w cf y pc ls st q f fs m, stop w cf y pc ls st q (f :: fs) m = false) (hCon : zyCons l P (zyJ X)) (hK : zyKn P X s) (hfr : d.1 ≤ R.frames) (hlo : 64 * d.1 ≤ R.locals) (hmc : d.2.1 ≤ R.cells) (hms : d.2.2 ≤ R.slots) (hd1 : d.2.1 = y.2.1) (hd2 : d.2.2 = y.2.2.1) (hnx : nx = pc + 3)
    (hKS : ∀ k, k ≤ n → zyKS p l e R s mt args below meth c Q P X cf y fs nL d (zyok bt P stop k)) (h : zycall P y2 kd nx ax (zyok bt P stop n) w cf y pc ls st q fs m = true) (hR : zyRl P X s nL d w ls st q m H locs lsA stA)
    (row : ∀ (en2 : zEn) (me2 : zMe) (AsV rest : List Value) (rm : Room) (Pc : Array Value → State → Prop) (Qc : Array Value → State → Outcome → State → Prop), zG zMeth y2 = some me2 → zOK y2 en2 me2 → zKi kd en2 me2 → stA = AsV.reverse ++ rest → AsV.length = en2.2.1 → (rest.map fun v => v.category).sum ≤ 8 →
      Met l me2.1 [Cond.code me2.1 me2.2.1 en2.2.2.1 me2.2.2.1] rm Pc Qc en2.2.2.2.2.2.1 en2.2.2.2.2.2.2.1 (fun q => zbs (zyb X) ≤ q) → rm.cells = en2.2.2.2.2.2.1 → rm.slots = en2.2.2.2.2.2.2.1 → rm.frames + 1 ≤ R.frames → 8 + (en2.2.2.1 + 11) + rm.locals ≤ R.locals → FrameBlind Pc → (∀ U : State, U.heap = H → s.WarmedH U.vm → Pc AsV.toArray U) →
      (¬ kd = 2 → ∃ (a : Addr) (As : List Value), AsV = .ref a :: As ∧ ∃ cellB : Cell, H[a]? = some cellB ∧ cellB.vm.isStatics = false ∧ s.vm.findClass me2.2.2.2 = some cellB.cls) → (q.2.1 + en2.2.2.2.2.2.1 ≤ R.cells ∧ q.2.2 + en2.2.2.2.2.2.2.1 ≤ R.slots) →
      va_Run p l e R s mt args below meth c H locs q.2.1 q.2.2 en2.2.2.2.2.2.1 en2.2.2.2.2.2.2.1 (F0 mt pc lsA stA) rest (Qc AsV.toArray) (fun q => zbs (zyb X) ≤ q)) : W p l e R s mt args below meth c H locs q.2.1 q.2.2 Q (F0 mt pc lsA stA) := by
  subst hnx
  unfold zycall at h
  obtain ⟨gk, hgk, h⟩ := zget_iff h
  rcases zif_iff h with ⟨h0, h⟩ | ⟨-, h⟩
  rotate_left
  · cases h
  have h0 := zbeqT h0
  subst h0
  obtain ⟨en2, hen2, h⟩ := zget_iff h
  obtain ⟨me2, hme2, hOK⟩ := zall hen2
  have hKi : zKi gk en2 me2 := by
    obtain ⟨me3, hm3, hk3⟩ := zallk hen2 hgk
    rw [hme2] at hm3
    cases hm3
    exact hk3
  obtain ⟨cf2, na, ml, ow, yt⟩ := en2
  dsimp only at h
  obtain ⟨asr, r, rfl, hlen, h⟩ := zargs_iff h
  rw [List.append_nil] at h
  obtain ⟨d0, nc, ns⟩ := q
  dsimp only at h
  simp only [zfr_eq, zn_a, zn_c, zn_p] at h
  obtain ⟨qA, rest, rfl, hSa, hSr⟩ := zySt_split hR.2.2.2.2.1
  rcases zif_iff h with ⟨h1, h⟩ | ⟨-, h⟩
  rotate_left
  · cases h
  obtain ⟨h1, h2⟩ := zand_iff h1
  obtain ⟨h2, h3⟩ := zand_iff h2
  obtain ⟨h3, h4⟩ := zand_iff h3
  have h1 := zbleT h1
  have h2 := zbleT h2
  have h3 := zbleT h3
  have h4 := zbleT h4
  have hd0 : d0 = d.1 := hR.2.2.2.2.2.1
  have hA := zySt_rev hSa
  have hrcv : ∀ {b : Bool}, zyrcv P.1 (zif (Nat.beq gk 2) 0 (ow + 1)) asr.reverse b = true → b = true ∧ (¬ gk = 2 → ∃ (a : Addr) (As : List Value), qA.reverse = .ref a :: As ∧ ∃ cellB : Cell, H[a]? = some cellB ∧ cellB.vm.isStatics = false ∧ s.vm.findClass me2.2.2.2 = some cellB.cls) := by
    intro b h
    by_cases hk : gk = 2
    · subst hk
      exact ⟨h, fun q => absurd rfl q⟩
    · have e0 : Nat.beq gk 2 = false := by
        cases hq : Nat.beq gk 2 with
        | false => rfl
        | true => exact absurd (zbeqT hq) hk
      rw [e0] at h
      have h' : zyrcv P.1 (ow + 1) asr.reverse b = true := h
      obtain ⟨g1, g2⟩ := zyrcv_iff hK.1 hR.2.1 hA h'
      refine ⟨g1, fun _ => ?_⟩
      have e1 : zcn ow = me2.2.2.2 := hOK.2.2.2.1
      rw [← e1]
      exact g2
  obtain ⟨hgo, hrec⟩ := hrcv h
  clear h
  have hml40 : ml ≤ 40 := hOK.2.2.2.2.2.1
  rcases zyfind_iff hgo with hpd | ⟨ct, hct, hsub, hpre, hct2⟩
  · obtain ⟨l2, hl2, hle, hl3, h⟩ := zpad_iff hpd
    have hMet := zymet (hIH n (Nat.lt_succ_self n)) hst hCon hK.2 hOK (w := w) (l2 := l2) (d := d0 - 1) (as := asr.reverse) (AsV := qA.reverse) h hR.1.1 hR.1.2.1 hR.1.2.2.2 hA hl2 hle hl3
    have hrun := row (cf2, na, ml, ow, yt) me2 qA.reverse rest _ _ _ hme2 hOK hKi (by rw [List.reverse_reverse]) (by rw [List.length_reverse, zySt_len hSa]; exact hlen) (by rw [zySt_words hSr]; exact h1) hMet rfl rfl (by dsimp only; omega) (by dsimp only; omega)
      (fun a U g mk hp => ⟨hp.1, zKn.same (s := U) rfl hp.2.1, (hp.2.2).moved (u := U) (Vm.Alike.refl U.vm)⟩) (fun U hU hW => ⟨rfl, hK.1.warm hW, by rw [hU]; exact hR.2.1.moved hW.alike⟩) hrec (by dsimp only; omega)
    refine zycont hrun hR.2.2.1 (fun st₀ t vo locs2 hh0 hQ hal hlo2 => ?_)
    obtain ⟨ρ2, w2, v, m2, vo2, ho, hN, hr, hE2, hf2, hvo, hMem2, n', hn', hb⟩ := hQ
    cases ho
    rw [zyback_c] at hb
    refine hKS n' (by omega) ρ2 w2.1 w2 (pc + 3) ls _ (d0, nc + yt.2.1, ns + yt.2.2.1) m2 t.heap locs2 lsA _ hb ⟨⟨hE2, rfl, hR.1.2.2.1.up hN hr, hf2⟩, hMem2.moved hal, hlo2, hR.2.2.2.1.up hN hr, ?_, hR.2.2.2.2.2.1, by dsimp only; omega, by dsimp only; omega⟩
    match v, vo, hvo with
    | [], none, _ => exact hSr.up hN hr
    | [a], some x, hz => exact ⟨hz, hSr.up hN hr⟩
  · rcases zif_iff hct2 with ⟨h5, h⟩ | ⟨-, h⟩
    rotate_left
    · cases h
    have h5 := zbleT h5
    unfold zycon at h
    rcases zif_iff h with ⟨h6, h⟩ | ⟨-, h⟩
    rotate_left
    · cases h
    obtain ⟨h6, h7⟩ := zand_iff h6
    rw [zykeep_eq] at h
    have hI := hR.2.1.base hR.1.1 h6
    have hPk := zypre_iff hR.2.1 hR.1.1 hpre
    have hMet := hCon y2 ct _ me2 hct hen2 hme2 (zyb X) qA.reverse (zysubL_iff hR.1.1 hsub hA)
    have hrun := row (cf2, na, ml, ow, yt) me2 qA.reverse rest _ _ _ hme2 hOK hKi (by rw [List.reverse_reverse]) (by rw [List.length_reverse, zySt_len hSa]; exact hlen) (by rw [zySt_words hSr]; exact h1) hMet rfl rfl (by dsimp only; omega) (by dsimp only; omega)
      (fun a U g mk hp => ⟨hp.1, zKn.same (s := U) rfl hp.2.1, (hp.2.2.1).moved (u := U) (Vm.Alike.refl U.vm), hp.2.2.2⟩) (fun U hU hW => ⟨rfl, hK.1.warm hW, by rw [hU]; exact hI.moved hW.alike, by rw [hU]; exact hPk⟩) hrec (by dsimp only; omega)
    refine zycont hrun hR.2.2.1 (fun st₀ t vo locs2 hh0 hQ hal hlo2 => ?_)
    obtain ⟨vo2, ho, hvo, -, hI2, hPk2, hfr2, hout2⟩ := hQ
    cases ho
    rw [hh0] at hfr2 hout2
    have hM1 := hR.2.1.after (hI2.moved hal) (zysubF_iff h7) hfr2 hout2
    obtain ⟨u, h, hM2⟩ := zyputs_iff h hM1 hPk2
    have hdd : nc + yt.2.1 ≤ d.2.1 ∧ ns + yt.2.2.1 ≤ d.2.2 := ⟨by omega, by omega⟩
    have old1 : ∀ (cd : Nat) (x : Value) (F : Nat → List zyF), zyvo (zyX0 (zyb X) (zyJ X)) [cd] (some x) → zynew cd w (fun w2 v => zyok bt P stop n w2 cf y (pc + 3) ls (v :: r) (d0, nc + yt.2.1, ns + yt.2.2.1) fs (u, F v)) = true → (∀ (ρ2 : Nat → Int32) (w2 : zW) (v : Nat), zyN X ≤ w2.1 → (∀ k, k < zyN X → ρ2 k = zyρ X k) → zyV (zyre X ρ2 w2.1) v x → ∀ f ∈ F v, zyFm (zyre X ρ2 w2.1) f) → W p l e R s mt args below meth c t.heap locs2 (nc + yt.2.1) (ns + yt.2.2.1) Q (F0 mt (pc + 3) lsA ((some x).toList ++ rest)) := by
      intro cd x F hz h hF
      have hz1 : ¬ cd % 8 = 1 := by
        intro q
        rcases hz with ⟨-, g, -⟩ | ⟨g, -⟩ | ⟨g, -⟩
        · exact absurd (g q) (Nat.not_lt_zero _)
        · omega
        · omega
      have hz2 : zyV X cd x := zyv_cl hz1 hz
      obtain ⟨ρ2, w2, v2, hN, hr, hE2, hv2, h⟩ := zynew_iff h hR.1.1 hR.1.2.1 hz2
      exact hKS n (Nat.le_refl n) ρ2 w2.1 w2 (pc + 3) ls _ (d0, nc + yt.2.1, ns + yt.2.2.1) _ t.heap locs2 lsA _ h ⟨⟨hE2, rfl, hR.1.2.2.1.up hN hr, hF ρ2 w2 v2 hN hr hv2⟩, hM2.up hN hr, hlo2, hR.2.2.2.1.up hN hr, ⟨hv2, hSr.up hN hr⟩, hR.2.2.2.2.2.1, hdd.1, hdd.2⟩
    have hEq : ∀ id, zyFo P.2.2.1 (zyFd id) = true → ∀ x1 x2 z : Int32, (zyJ X).2 id (zyEl P.1 (zyb X) H) x1 x2 z → (zyJ X).2 id (zyE X) x1 x2 z := by
      intro id ho x1 x2 z hj
      exact hK.2.2.2.1 id _ _ _ _ _ (fun a k hk => hR.2.1.2.2.1 a k (zyFo_iff ho a k hk)) hj
    cases hres : ct.2.2.1 with
    | nil =>
      rw [hres] at h hvo
      cases vo with
      | some x => exact hvo.elim
      | none =>
        exact hKS n (Nat.le_refl n) (zyρ X) (zyN X) w (pc + 3) ls _ (d0, nc + yt.2.1, ns + yt.2.2.1) _ t.heap locs2 lsA _ h ⟨hR.1, hM2, hlo2, hR.2.2.2.1, hSr, hR.2.2.2.2.2.1, hdd.1, hdd.2⟩
    | cons cd t1 =>
      rw [hres] at h hvo
      cases t1 with
      | nil =>
        cases vo with
        | none => exact hvo.elim
        | some x => exact old1 cd x (fun _ => m.2) hvo h (fun ρ2 w2 v hN hr _ f hf => (hR.1.2.2.2 f hf).up hN hr)
      | cons id t2 =>
        cases t2 with
        | nil =>
          obtain ⟨z, e1, hz, hrel⟩ := hvo
          subst e1
          rw [hh0] at hrel
          refine old1 cd (.int z) (fun v => zyff P id v (zyai asr.reverse 1) (zyai asr.reverse 2) m.2) hz h (fun ρ2 w2 v hN hr hv f hf => ?_)
          rcases zyff_iff hf with q1 | ⟨q1, q2, q3, q4⟩
          · exact (hR.1.2.2.2 f q1).up hN hr
          · rw [q1]
            exact zyFm_mk hv (zyv_up (zyai_iff (X := X) hA) hr hN) (zyv_up (zyai_iff (X := X) hA) hr hN) (hEq id q2 _ _ _ hrel)
        | cons key t3 =>
          cases t3 with
          | cons _ _ =>
            exact False.elim (by
              cases vo <;> exact hvo)
          | nil =>
            obtain ⟨e1, z0, z, hz0, hz1, hz, hrel⟩ := hvo
            subst e1
            rw [hh0] at hrel hz0
            have h : zylk false (fun old => zif (Nat.ble 300 id) (zbd w old (fun lo hi => zfr false (Nat.add hi (Nat.sub id 300)) (fun h2 => zif (Nat.ble h2 4294967295) (zyfresh w lo h2 (fun w2 v => zydel key u (fun u2 => zyok bt P stop n w2 cf y (pc + 3) ls r (d0, nc + yt.2.1, ns + yt.2.2.1) fs ((key, v) :: u2, zyff P id v old (zyai asr.reverse 1) m.2)))) false)))
              (zynew cd w (fun w2 v => zydel key u (fun u2 => zyok bt P stop n w2 cf y (pc + 3) ls r (d0, nc + yt.2.1, ns + yt.2.2.1) fs ((key, v) :: u2, zyff P id v old (zyai asr.reverse 1) m.2))))) key m.1 = true := h
            rw [zylk_eq] at h
            cases hq : zyl m.1 key with
            | none => rw [hq] at h; cases h
            | some old =>
              rw [hq] at h
              dsimp only at h
              have hcd : ¬ cd % 8 = 1 := by
                intro q
                rcases hz with ⟨-, g, -⟩ | ⟨g, -⟩ | ⟨g, -⟩
                · exact absurd (g q) (Nat.not_lt_zero _)
                · omega
                · omega
              obtain ⟨c0, g1, g2⟩ := zyEl_is hz0
              obtain ⟨x0, g3, g4⟩ := hR.2.1.2.1 _ c0 _ g1 g2
              rw [hz0] at g3
              cases g3
              unfold zyEt at g4
              rw [show key / 16384 * 16384 + key % 16384 = key by omega, hq] at g4
              have hnew : ∃ (ρ2 : Nat → Int32) (w2 : zW) (v2 : Nat), zyN X ≤ w2.1 ∧ (∀ k, k < zyN X → ρ2 k = zyρ X k) ∧ zEnv ρ2 w2.2 ∧ zyv ρ2 w2.1 (zad (zyb X)) v2 (.int z) ∧ zydel key u (fun u2 => zyok bt P stop n w2 cf y (pc + 3) ls r (d0, nc + yt.2.1, ns + yt.2.2.1) fs ((key, v2) :: u2, zyff P id v2 old (zyai asr.reverse 1) m.2)) = true := by
                rcases zif_iff h with ⟨h8, h⟩ | ⟨-, h⟩
                · have h8 := zbleT h8
                  obtain ⟨x5, lo, hi, ex, b1, b2, h⟩ := zybd_iff h hR.1.1 g4
                  have ex := Value.int.inj ex
                  subst ex
                  rw [zfr_eq] at h
                  rcases zif_iff h with ⟨h9, h⟩ | ⟨-, h⟩
                  · obtain ⟨q5, q6⟩ := hK.2.2.2.2 id _ _ _ _ h8 hrel
                    obtain ⟨E2, g⟩ := zyfresh_iff h hR.1.1 hR.1.2.1 (x := z) (by omega) (by show zB z ≤ hi + (id - 300); omega)
                    exact ⟨_, (zyN X + 1, _), _, Nat.le_succ _, fun k hk => zyρ2_lt hk, E2, zyv_new z, g⟩
                  · cases h
                · exact zynew_iff h hR.1.1 hR.1.2.1 (show zyV X cd (.int z) from zyv_cl hcd hz)
              clear h
              obtain ⟨ρ2, w2, v2, hN, hr, hE2, hv2, h⟩ := hnew
              rw [zydel_eq] at h
              have hM3 := (hM2.up hN hr).know g1 g2 hz1 hv2
              rw [show key / 16384 * 16384 + key % 16384 = key by omega] at hM3
              refine hKS n (Nat.le_refl n) ρ2 w2.1 w2 (pc + 3) ls _ (d0, nc + yt.2.1, ns + yt.2.2.1) _ t.heap locs2 lsA _ h ⟨⟨hE2, rfl, hR.1.2.2.1.up hN hr, fun f hf => ?_⟩, hM3, hlo2, hR.2.2.2.1.up hN hr, hSr.up hN hr, hR.2.2.2.2.2.1, hdd.1, hdd.2⟩
              rcases zyff_iff hf with q1 | ⟨q1, q2, q3, q4⟩
              · exact (hR.1.2.2.2 f q1).up hN hr
              · rw [q1]
                exact zyFm_mk hv2 (zyv_up g4 hr hN) (zyv_up (zyai_iff (X := X) hA) hr hN) (hEq id q2 _ _ _ hrel)
theorem zyans_iff {g v : Nat} {x : Value} {r : Option FieldType} (h : zyans w g v = true) (hE : zEnv (zyρ X) w.2) (hv : zyV X v x) (hr : zrk r = g) (hg : ¬ g = 3) : ∃ (n : Int32) (ty : FieldType), x = .int n ∧ r = some ty ∧ narrow ty (.int n) = .int n := by
  obtain ⟨-, r1, r2, -, r4, r5⟩ := zrk_1 (r := r)
  unfold zyans at h
  simp only [zn_m, zn_d] at h
  rcases zif_iff h with ⟨h1, h⟩ | ⟨h1, h⟩
  · have e1 := zbeqT h1
    obtain ⟨n, rfl⟩ := zyv_int hv (zbleT h)
    exact ⟨n, .int, rfl, r1 (hr.trans e1), rfl⟩
  rcases zif_iff h with ⟨h2, h⟩ | ⟨h2, h⟩
  · have e1 := zbeqT h2
    obtain ⟨n, lo, hi, rfl, b1, b2, h⟩ := zybd_iff h hE hv
    obtain ⟨g1, g2⟩ := zand_iff h
    have g1 := zbleT g1
    have g2 := zbleT g2
    rcases zybool (x := n) (by omega) (by omega) with rfl | rfl
    · exact ⟨0, .boolean, rfl, r2 (hr.trans e1), by decide⟩
    · exact ⟨1, .boolean, rfl, r2 (hr.trans e1), by decide⟩
  rcases zif_iff h with ⟨h3, h⟩ | ⟨h3, h⟩
  · exact absurd (zbeqT h3) hg
  obtain ⟨h4, h5⟩ := zand_iff h
  obtain ⟨n, lo, hi, rfl, b1, b2, h5⟩ := zybd_iff h5 hE hv
  obtain ⟨g1, g2⟩ := zand_iff h5
  have g1 := zbleT g1
  have g2 := zbleT g2
  obtain ⟨en, l1, e2⟩ := zyp (x := n) (by omega)
  rcases zif_iff h4 with ⟨h7, -⟩ | ⟨-, h7⟩
  · refine ⟨_, .byte, rfl, r4 (hr.trans (zbeqT h7)), ?_⟩
    rw [en]
    exact znb _ (by omega)
  · refine ⟨_, .char, rfl, r5 (hr.trans (zbeqT h7)), ?_⟩
    rw [en]
    exact (pk_charN (q := n.toBitVec.toNat) (by omega)).1
theorem zyw_ret {lg : Bool} {en : zEn} {me : zMe} (hrk : zrk me.2.2.1 = en.2.2.2.2.2.2.2.1) (hdg : decode me.2.1 pc = .ok (if lg then .lreturn else .ireturn, 1)) (hHr : zyHr bt P stop (n + 1) X en me fs p l e R s mt args below meth c Q) (hd1 : d.2.1 = en.2.2.2.2.2.1) (hd2 : d.2.2 = en.2.2.2.2.2.2.1)
    (h : zyo_ret bt lg nx ax (zyok bt P stop n) w cf en.2.2.2.2 pc ls st q fs m = true) (hR : zyRl P X s nL d w ls st q m H locs lsA stA) : W p l e R s mt args below meth c H locs q.2.1 q.2.2 Q (F0 mt pc lsA stA) := by
  unfold zyo_ret at h
  obtain ⟨v, r, es, h'⟩ := zpop_iff h
  clear h
  have h := h'
  clear h'
  subst es
  cases r with
  | cons a t => cases h
  | nil =>
    have h : zif (zand (zif lg (Nat.beq en.2.2.2.2.2.2.2.1 3) (zif (Nat.beq en.2.2.2.2.2.2.2.1 3) false true)) (zyans w en.2.2.2.2.2.2.2.1 v)) (zyback bt [v] (zyok bt P stop n) w fs m) false = true := h
    obtain ⟨x, stB, rfl, hv, hS2⟩ := zySt_c hR.2.2.2.2.1
    have e1 := zySt_n hS2
    subst e1
    rcases zif_iff h with ⟨h1, h⟩ | ⟨-, h⟩
    rotate_left
    · cases h
    obtain ⟨h1, h2⟩ := zand_iff h1
    have hN : zyN X ≤ w.1 := Nat.le_of_eq hR.1.2.1.symm
    refine hHr n (zyρ X) w [v] m H locs lsA pc (some x) q.2.1 q.2.2 (Nat.lt_succ_self n) h ⟨hR.1.1, hR.1.2.2.1.up hN (fun _ _ => rfl), fun f hf => (hR.1.2.2.2 f hf).up hN (fun _ _ => rfl)⟩ (hR.2.1.up hN (fun _ _ => rfl)) hR.2.2.1 (by rw [← hd1]; exact hR.2.2.2.2.2.2.1) (by rw [← hd2]; exact hR.2.2.2.2.2.2.2) (zyv_up hv (fun _ _ => rfl) hN) ?_
    cases lg with
    | false =>
      have h3 : ¬ en.2.2.2.2.2.2.2.1 = 3 := by
        rcases zif_iff (c := Nat.beq en.2.2.2.2.2.2.2.1 3) (t := false) (e := true) h1 with ⟨-, h3⟩ | ⟨h3, -⟩
        · cases h3
        · exact zbeqF h3
      obtain ⟨k, ty, e1, e2, e3⟩ := zyans_iff h2 hR.1.1 hv hrk h3
      exact Or.inl ⟨hdg, k, ty, by rw [e1], e2, e3⟩
    | true =>
      have h3 : en.2.2.2.2.2.2.2.1 = 3 := zbeqT h1
      obtain ⟨-, -, -, r3, -⟩ := zrk_1 (r := me.2.2.1)
      rw [h3] at h2
      obtain ⟨z, e4, -⟩ := zyv_4 hv (zbeqT h2)
      exact Or.inr (Or.inl ⟨hdg, z, by rw [e4], r3 (hrk.trans h3)⟩)
theorem zyw_retv {en : zEn} {me : zMe} (hrk : zrk me.2.2.1 = en.2.2.2.2.2.2.2.1) (hdg : decode me.2.1 pc = .ok (.return_, 1)) (hHr : zyHr bt P stop (n + 1) X en me fs p l e R s mt args below meth c Q) (hd1 : d.2.1 = en.2.2.2.2.2.1) (hd2 : d.2.2 = en.2.2.2.2.2.2.1)
    (h : zyo_retv bt nx ax (zyok bt P stop n) w cf en.2.2.2.2 pc ls st q fs m = true) (hR : zyRl P X s nL d w ls st q m H locs lsA stA) : W p l e R s mt args below meth c H locs q.2.1 q.2.2 Q (F0 mt pc lsA stA) := by
  unfold zyo_retv at h
  cases st with
  | cons a t => cases h
  | nil =>
    have h : zif (Nat.beq en.2.2.2.2.2.2.2.1 0) (zyback bt [] (zyok bt P stop n) w fs m) false = true := h
    have e1 := zySt_n hR.2.2.2.2.1
    subst e1
    rcases zif_iff h with ⟨h1, h⟩ | ⟨-, h⟩
    rotate_left
    · cases h
    have hN : zyN X ≤ w.1 := Nat.le_of_eq hR.1.2.1.symm
    exact hHr n (zyρ X) w [] m H locs lsA pc none q.2.1 q.2.2 (Nat.lt_succ_self n) h ⟨hR.1.1, hR.1.2.2.1.up hN (fun _ _ => rfl), fun f hf => (hR.1.2.2.2 f hf).up hN (fun _ _ => rfl)⟩ (hR.2.1.up hN (fun _ _ => rfl)) hR.2.2.1 (by rw [← hd1]; exact hR.2.2.2.2.2.2.1) (by rw [← hd2]; exact hR.2.2.2.2.2.2.2) trivial (Or.inr (Or.inr ⟨hdg, rfl, zrk_1.1 (hrk.trans (zbeqT h1))⟩))
end ZYC
end
section
theorem zyinv_k {P : zyP} {nx ax kd : Nat} {k : zyK} {w : zW} {cf : Nat → zT} {y : zY} {pc : Nat} {ls st : List Nat} {q : zQ} {fs : List zFr} {m : zyM} (hx : ax % 16 < 15) (hk : ax % 16 / 2 = kd) (h : zyo_inv P nx ax k w cf y pc ls st q fs m = true) : zycall P (ax / 16) kd nx ax k w cf y pc ls st q fs m = true := by
  unfold zyo_inv at h
  simp only [zn_m, zn_d] at h
  have e1 : Nat.beq (ax % 16) 15 = false := by
    cases hq : Nat.beq (ax % 16) 15 with
    | false => rfl
    | true => exact absurd (zbeqT hq) (by omega)
  rw [e1, hk] at h
  exact h
/-- one instruction -/
theorem zystep {p : Program} {l : Launch} {e : Env} {R : Room} {s : State} {mt : MethodId} {args : Array Value} {below : List Frame} {meth : Method} {c : Code} {Q : State → Prop} {P : zyP} {X : zyX} {fs : List zFr} {w : zW} {pc nx ax d0 : Nat} {i : Instr} {ls st : List Nat} {q : zQ} {m : zyM} {H : Heap} {locs : List Loc} {lsA : Array Slot} {stA : List Value}
    {bt : zW → List Nat → zyM → Bool} {stop : zyK} {n y0 : Nat} {en : zEn} {me : zMe} (hIH : ∀ k, k < n + 1 → zyMain l bt P stop k) (hst : ∀ w cf y pc ls st q f fs m, stop w cf y pc ls st q (f :: fs) m = false) (hCon : zyCons l P (zyJ X)) (hOK : zOK y0 en me) (hC : zyCf P X en me d0 p R s mt c)
    (hKSa : ∀ k, k ≤ n → zyKS p l e R s mt args below meth c Q P X en.1 en.2.2.2.2 fs en.2.2.1 (d0, en.2.2.2.2.2.1, en.2.2.2.2.2.2.1) (zyok bt P stop k)) (hHr : zyHr bt P stop (n + 1) X en me fs p l e R s mt args below meth c Q) (hrow : i = .nop ∨ zrowP me pc (i, nx, ax))
    (h : zyop bt P i nx ax (zyok bt P stop n) w en.1 en.2.2.2.2 pc ls st q fs m = true) (hR : zyRl P X s en.2.2.1 (d0, en.2.2.2.2.2.1, en.2.2.2.2.2.2.1) w ls st q m H locs lsA stA) : W p l e R s mt args below meth c H locs q.2.1 q.2.2 Q (F0 mt pc lsA stA) := by
  rcases hrow with hn | ⟨hlen, hdec, pp, hlk⟩
  · subst hn
    exact absurd (show false = true from h) (by decide)
  have hKS := hKSa n (Nat.le_refl n)
  obtain ⟨hexec, hb, hml, hown, hK, hfr, hlo, hmc, hms⟩ := hC
  obtain ⟨-, -, hrk, hcn, -, -, -, g, hing, -, -⟩ := hOK
  dsimp only at hlen hdec hlk
  cases i with
  | aaload => exact absurd (show false = true from h) (by decide)
  | aastore => exact absurd (show false = true from h) (by decide)
  | aconst_null => exact absurd (show false = true from h) (by decide)
  | aload v =>
    obtain ⟨hnx, hd⟩ := zdec (k := 2) rfl (by decide) hlen hdec
    subst hnx
    exact zyw_load (ax := ax) hKS h hR (fun x hx k0 k1 k2 kk => by obtain ⟨z, rfl⟩ := k2 rfl; exact lv_aload hexec hb hd hx kk)
  | aload_n v =>
    obtain ⟨hnx, hd⟩ := zdec (k := 1) rfl (by decide) hlen hdec
    subst hnx
    exact zyw_load (ax := ax) hKS h hR (fun x hx k0 k1 k2 kk => by obtain ⟨z, rfl⟩ := k2 rfl; exact lv_aload_n hexec hb hd rfl hx kk)
  | anewarray _ => exact absurd (show false = true from h) (by decide)
  | areturn => exact absurd (show false = true from h) (by decide)
  | arraylength =>
    obtain ⟨hnx, hd⟩ := zdec (k := 1) rfl (by decide) hlen hdec
    subst hnx
    exact zyw_alen (ax := ax) hexec hb hK hd rfl hKS h hR
  | astore v =>
    obtain ⟨hnx, hd⟩ := zdec (k := 2) rfl (by decide) hlen hdec
    subst hnx
    exact zyw_store (ax := ax) (by decide) hKS h hR (fun x r hs hi k0 k2 kk => by obtain ⟨z, rfl⟩ := k2 rfl; subst hs; exact lv_astore hexec hb hd (zylv_has hR.2.2.2.1) hi rfl kk)
  | astore_n v =>
    obtain ⟨hnx, hd⟩ := zdec (k := 1) rfl (by decide) hlen hdec
    subst hnx
    exact zyw_store (ax := ax) (by decide) hKS h hR (fun x r hs hi k0 k2 kk => by obtain ⟨z, rfl⟩ := k2 rfl; subst hs; exact lv_astore_n hexec hb hd rfl (zylv_has hR.2.2.2.1) hi rfl kk)
  | athrow => exact absurd (show false = true from h) (by decide)
  | baload =>
    obtain ⟨hnx, hd⟩ := zdec (k := 1) rfl (by decide) hlen hdec
    subst hnx
    exact zyw_ald (ax := ax) (by decide) (by decide) hK hKS h hR (fun g ty a cell j v r hg hty hc ha hv hi hx kk => by
      rcases hg with rfl | rfl
      · cases hty; exact W.bald hexec hb hc ha hv hi hx rfl rfl hd kk
      · cases hty; exact W.zald hexec hb hc ha hv hi hx rfl rfl hd kk)
  | bastore =>
    obtain ⟨hnx, hd⟩ := zdec (k := 1) rfl (by decide) hlen hdec
    subst hnx
    exact zyw_ast (ax := ax) hK hKS h hR (fun g ty a cell j x x2 r hg hty hst2 hc ha hv hi kk => by
      rcases hg with rfl | rfl
      · cases hty
        rcases hst2 with ⟨z, hst2⟩ | ⟨z, hst2⟩ | ⟨z, hst2⟩ | ⟨z, hst2⟩ <;> first | (exfalso; omega) | (obtain ⟨u, rfl, rfl⟩ := hst2; exact W.bast hexec hb hc ha hv hi rfl rfl hd kk)
      · cases hty
        rcases hst2 with ⟨z, hst2⟩ | ⟨z, hst2⟩ | ⟨z, hst2⟩ | ⟨z, hst2⟩ <;> first | (exfalso; omega) | (obtain ⟨u, rfl, rfl⟩ := hst2; exact W.zast hexec hb hc ha hv hi rfl rfl hd kk))
  | bipush v =>
    obtain ⟨hnx, hd⟩ := zdec (k := 2) rfl (by decide) hlen hdec
    subst hnx
    exact zyw_push (ax := ax) hKS h hR (zyv_mkx (Int8.ofInt v).toInt32) (fun kk => lv_bipush hexec hb hd rfl kk)
  | caload => exact absurd (show false = true from h) (by decide)
  | castore => exact absurd (show false = true from h) (by decide)
  | checkcast _ => exact absurd (show false = true from h) (by decide)
  | d2f => exact absurd (show false = true from h) (by decide)
  | d2i => exact absurd (show false = true from h) (by decide)
  | d2l => exact absurd (show false = true from h) (by decide)
  | dadd => exact absurd (show false = true from h) (by decide)
  | daload => exact absurd (show false = true from h) (by decide)
  | dastore => exact absurd (show false = true from h) (by decide)
  | dcmp _ => exact absurd (show false = true from h) (by decide)
  | dconst _ => exact absurd (show false = true from h) (by decide)
  | ddiv => exact absurd (show false = true from h) (by decide)
  | dload _ => exact absurd (show false = true from h) (by decide)
  | dload_n _ => exact absurd (show false = true from h) (by decide)
  | dmul => exact absurd (show false = true from h) (by decide)
  | dneg => exact absurd (show false = true from h) (by decide)
  | drem => exact absurd (show false = true from h) (by decide)
  | dreturn => exact absurd (show false = true from h) (by decide)
  | dstore _ => exact absurd (show false = true from h) (by decide)
  | dstore_n _ => exact absurd (show false = true from h) (by decide)
  | dsub => exact absurd (show false = true from h) (by decide)
  | dup =>
    obtain ⟨hnx, hd⟩ := zdec (k := 1) rfl (by decide) hlen hdec
    subst hnx
    exact zyw_dup (ax := ax) hKS h hR (fun x r hs hc kk => by subst hs; exact lv_dup hexec hb hd hc kk)
  | dup_x1 => exact absurd (show false = true from h) (by decide)
  | dup_x2 => exact absurd (show false = true from h) (by decide)
  | dup2 =>
    obtain ⟨hnx, hd⟩ := zdec (k := 1) rfl (by decide) hlen hdec
    subst hnx
    exact zyw_dup2 (ax := ax) hKS h hR (fun x z r hs hc hc2 kk => by subst hs; exact lv_dup2_11 hexec hb hd hc hc2 kk)
  | dup2_x1 => exact absurd (show false = true from h) (by decide)
  | dup2_x2 => exact absurd (show false = true from h) (by decide)
  | f2d => exact absurd (show false = true from h) (by decide)
  | f2i => exact absurd (show false = true from h) (by decide)
  | f2l => exact absurd (show false = true from h) (by decide)
  | fadd => exact absurd (show false = true from h) (by decide)
  | faload => exact absurd (show false = true from h) (by decide)
  | fastore => exact absurd (show false = true from h) (by decide)
  | fcmp _ => exact absurd (show false = true from h) (by decide)
  | fconst _ => exact absurd (show false = true from h) (by decide)
  | fdiv => exact absurd (show false = true from h) (by decide)
  | fload _ => exact absurd (show false = true from h) (by decide)
  | fload_n _ => exact absurd (show false = true from h) (by decide)
  | fmul => exact absurd (show false = true from h) (by decide)
  | fneg => exact absurd (show false = true from h) (by decide)
  | frem => exact absurd (show false = true from h) (by decide)
  | freturn => exact absurd (show false = true from h) (by decide)
  | fstore _ => exact absurd (show false = true from h) (by decide)
  | fstore_n _ => exact absurd (show false = true from h) (by decide)
  | fsub => exact absurd (show false = true from h) (by decide)
  | getfield ix =>
    obtain ⟨hnx, hd⟩ := zdec (k := 3) rfl (by decide) hlen hdec
    subst hnx
    exact zyw_getf (ax := ax) hexec hb hown hK hlk hd rfl hKS h hR
  | getstatic ix =>
    obtain ⟨hnx, hd⟩ := zdec (k := 3) rfl (by decide) hlen hdec
    subst hnx
    exact zyw_gets (ax := ax) hexec hb hown hK hlk hd rfl hKS h hR
  | goto o =>
    obtain ⟨hnx, hd⟩ := zdec (k := 3) rfl (by decide) hlen hdec
    subst hnx
    exact zyw_goto (ax := ax) (nx := pc + 3) hKS h hR (fun kk => lv_goto hexec hb hd (of_decide_eq_true hlk) kk)
  | goto_w _ => exact absurd (show false = true from h) (by decide)
  | i2b =>
    obtain ⟨hnx, hd⟩ := zdec (k := 1) rfl (by decide) hlen hdec
    subst hnx
    exact zyw_un (ax := ax) (g := 2) (F := fun x => x.toInt8.toInt32) (fun u => ⟨by show Int32.ofNat (8 * _ / 8) = _; rw [Nat.mul_div_cancel_left _ (by decide)]; exact zN_self _, Nat.mul_mod_right 8 _⟩) (Or.inr (Or.inl ⟨rfl, rfl⟩)) hKS h hR (fun x r hs kk => by subst hs; exact lv_i2b hexec hb hd rfl kk)
  | i2c =>
    obtain ⟨hnx, hd⟩ := zdec (k := 1) rfl (by decide) hlen hdec
    subst hnx
    exact zyw_un (ax := ax) (g := 3) (F := fun x => (x.toUInt32 % 65536).toInt32) (fun u => ⟨by show Int32.ofNat (8 * _ / 8) = _; rw [Nat.mul_div_cancel_left _ (by decide)]; exact zN_self _, Nat.mul_mod_right 8 _⟩) (Or.inr (Or.inr ⟨rfl, rfl⟩)) hKS h hR (fun x r hs kk => by subst hs; exact lv_i2c hexec hb hd rfl kk)
  | i2d => exact absurd (show false = true from h) (by decide)
  | i2f => exact absurd (show false = true from h) (by decide)
  | i2l =>
    obtain ⟨hnx, hd⟩ := zdec (k := 1) rfl (by decide) hlen hdec
    subst hnx
    exact zyw_i2l (ax := ax) (fun u => rfl) hKS h hR (fun x r hs kk => by subst hs; exact lv_i2l hexec hb hd rfl kk)
  | i2s => exact absurd (show false = true from h) (by decide)
  | iadd =>
    obtain ⟨hnx, hd⟩ := zdec (k := 1) rfl (by decide) hlen hdec
    subst hnx
    exact zyw_bin (ax := ax) (dv := false) (g := 1) (by decide) (fun u v => zf_add_ok u v) zyItv_1 (fun q => by cases q) hKS h hR (fun x z r hs _ kk => by subst hs; exact lv_iadd hexec hb hd kk)
  | iaload =>
    obtain ⟨hnx, hd⟩ := zdec (k := 1) rfl (by decide) hlen hdec
    subst hnx
    exact zyw_ald (ax := ax) (by decide) (by decide) hK hKS h hR (fun g ty a cell j v r hg hty hc ha hv hi hx kk => by
      rcases hg with rfl | rfl
      · cases hty; exact W.iald hexec hb hc ha hv hi hx rfl rfl hd kk
      · cases hty; exact W.iald hexec hb hc ha hv hi hx rfl rfl hd kk)
  | iand =>
    obtain ⟨hnx, hd⟩ := zdec (k := 1) rfl (by decide) hlen hdec
    subst hnx
    exact zyw_bin (ax := ax) (dv := false) (g := 4) (by decide) (fun u v => zf_and_ok u v) zyItv_4 (fun q => by cases q) hKS h hR (fun x z r hs _ kk => by subst hs; exact lv_iand hexec hb hd kk)
  | iastore =>
    obtain ⟨hnx, hd⟩ := zdec (k := 1) rfl (by decide) hlen hdec
    subst hnx
    exact zyw_ast (ax := ax) hK hKS h hR (fun g ty a cell j x x2 r hg hty hst2 hc ha hv hi kk => by
      rcases hg with rfl | rfl
      · cases hty
        rcases hst2 with ⟨z, hst2⟩ | ⟨z, hst2⟩ | ⟨z, hst2⟩ | ⟨z, hst2⟩ <;> first | (exfalso; omega) | (obtain ⟨u, rfl, rfl⟩ := hst2; exact W.iast hexec hb hc ha hv hi rfl rfl hd kk)
      · cases hty
        rcases hst2 with ⟨z, hst2⟩ | ⟨z, hst2⟩ | ⟨z, hst2⟩ | ⟨z, hst2⟩ <;> first | (exfalso; omega) | (obtain ⟨u, rfl, rfl⟩ := hst2; exact W.iast hexec hb hc ha hv hi rfl rfl hd kk))
  | iconst v =>
    obtain ⟨hnx, hd⟩ := zdec (k := 1) rfl (by decide) hlen hdec
    subst hnx
    exact zyw_push (ax := ax) hKS h hR (zyv_mkx (Int32.ofInt v)) (fun kk => lv_iconst hexec hb hd rfl kk)
  | idiv =>
    obtain ⟨hnx, hd⟩ := zdec (k := 1) rfl (by decide) hlen hdec
    subst hnx
    exact zyw_bin (ax := ax) (dv := true) (g := 10) (by decide) (fun u v => zf_32_ok _ u v) zyItv_10 (fun _ => Or.inr rfl) hKS h hR (fun x z r hs hz kk => by subst hs; exact lv_idiv hexec hb hd (hz rfl) kk)
  | if_acmp _ _ => exact absurd (show false = true from h) (by decide)
  | if_icmp cnd o =>
    obtain ⟨hnx, hd⟩ := zdec (k := 3) rfl (by decide) hlen hdec
    subst hnx
    cases cnd with
    | eq => exact zyw_cmp (ax := ax) hKS h hR (fun x z0 r hs kt kf => by subst hs; simp only [reduceIte, Bool.false_eq_true] at kt kf; exact lv_icmp_eq hexec hb hd (of_decide_eq_true hlk) (fun z => kt z) (fun z => kf z))
    | ne => exact zyw_cmp (ax := ax) hKS h hR (fun x z0 r hs kt kf => by subst hs; simp only [reduceIte, Bool.false_eq_true] at kt kf; exact lv_icmp_ne hexec hb hd (of_decide_eq_true hlk) (fun z => kf z) (fun z => kt z))
    | lt => exact zyw_cmp (ax := ax) hKS h hR (fun x z0 r hs kt kf => by subst hs; simp only [reduceIte, Bool.false_eq_true] at kt kf; exact lv_icmp_lt hexec hb hd (of_decide_eq_true hlk) (fun z => kt z) (fun z => kf z))
    | ge => exact zyw_cmp (ax := ax) hKS h hR (fun x z0 r hs kt kf => by subst hs; simp only [reduceIte, Bool.false_eq_true] at kt kf; exact lv_icmp_ge hexec hb hd (of_decide_eq_true hlk) (fun z => kf (Int32.not_lt.mpr z)) (fun z => kt (Int32.not_le.mp z)))
    | gt => exact zyw_cmp (ax := ax) hKS h hR (fun x z0 r hs kt kf => by subst hs; simp only [reduceIte, Bool.false_eq_true] at kt kf; exact lv_icmp_gt hexec hb hd (of_decide_eq_true hlk) (fun z => kt z) (fun z => kf z))
    | le => exact zyw_cmp (ax := ax) hKS h hR (fun x z0 r hs kt kf => by subst hs; simp only [reduceIte, Bool.false_eq_true] at kt kf; exact lv_icmp_le hexec hb hd (of_decide_eq_true hlk) (fun z => kf (Int32.not_lt.mpr z)) (fun z => kt (Int32.not_le.mp z)))
  | ifCond cnd o =>
    obtain ⟨hnx, hd⟩ := zdec (k := 3) rfl (by decide) hlen hdec
    subst hnx
    cases cnd with
    | eq => exact zyw_cmp0 (ax := ax) hKS h hR (fun x r hs kt kf => by subst hs; simp only [reduceIte, Bool.false_eq_true] at kt kf; exact lv_if_eq hexec hb hd (of_decide_eq_true hlk) (fun z => kt z) (fun z => kf z))
    | ne => exact zyw_cmp0 (ax := ax) hKS h hR (fun x r hs kt kf => by subst hs; simp only [reduceIte, Bool.false_eq_true] at kt kf; exact lv_if_ne hexec hb hd (of_decide_eq_true hlk) (fun z => kf z) (fun z => kt z))
    | lt => exact zyw_cmp0 (ax := ax) hKS h hR (fun x r hs kt kf => by subst hs; simp only [reduceIte, Bool.false_eq_true] at kt kf; exact lv_if_lt hexec hb hd (of_decide_eq_true hlk) (fun z => kt z) (fun z => kf z))
    | ge => exact zyw_cmp0 (ax := ax) hKS h hR (fun x r hs kt kf => by subst hs; simp only [reduceIte, Bool.false_eq_true] at kt kf; exact lv_if_ge hexec hb hd (of_decide_eq_true hlk) (fun z => kf (Int32.not_lt.mpr z)) (fun z => kt (Int32.not_le.mp z)))
    | gt => exact zyw_cmp0 (ax := ax) hKS h hR (fun x r hs kt kf => by subst hs; simp only [reduceIte, Bool.false_eq_true] at kt kf; exact lv_if_gt hexec hb hd (of_decide_eq_true hlk) (fun z => kt z) (fun z => kf z))
    | le => exact zyw_cmp0 (ax := ax) hKS h hR (fun x r hs kt kf => by subst hs; simp only [reduceIte, Bool.false_eq_true] at kt kf; exact lv_if_le hexec hb hd (of_decide_eq_true hlk) (fun z => kf (Int32.not_lt.mpr z)) (fun z => kt (Int32.not_le.mp z)))
  | ifnonnull _ => exact absurd (show false = true from h) (by decide)
  | ifnull _ => exact absurd (show false = true from h) (by decide)
  | iinc v z =>
    obtain ⟨hnx, hd⟩ := zdec (k := 3) rfl (by decide) hlen hdec
    subst hnx
    exact zyw_iinc (ax := ax) hKS h hR (fun x hx hi kk => by
      obtain ⟨j, hj⟩ := List.getElem?_of_mem (zlv_mem.mpr hx)
      exact lv_iinc hexec hb hd (zylv_has hR.2.2.2.1) hj (by rw [zN_self]) hi rfl kk)
  | iload v =>
    obtain ⟨hnx, hd⟩ := zdec (k := 2) rfl (by decide) hlen hdec
    subst hnx
    exact zyw_load (ax := ax) hKS h hR (fun x hx k0 k1 k2 kk => by obtain ⟨z, rfl⟩ := k0 rfl; exact lv_iload hexec hb hd hx kk)
  | iload_n v =>
    obtain ⟨hnx, hd⟩ := zdec (k := 1) rfl (by decide) hlen hdec
    subst hnx
    exact zyw_load (ax := ax) hKS h hR (fun x hx k0 k1 k2 kk => by obtain ⟨z, rfl⟩ := k0 rfl; exact lv_iload_n hexec hb hd rfl hx kk)
  | imul =>
    obtain ⟨hnx, hd⟩ := zdec (k := 1) rfl (by decide) hlen hdec
    subst hnx
    exact zyw_bin (ax := ax) (dv := false) (g := 3) (by decide) (fun u v => zf_mul_ok u v) zyItv_3 (fun q => by cases q) hKS h hR (fun x z r hs _ kk => by subst hs; exact lv_imul hexec hb hd kk)
  | ineg =>
    obtain ⟨hnx, hd⟩ := zdec (k := 1) rfl (by decide) hlen hdec
    subst hnx
    exact zyw_un (ax := ax) (g := 1) (F := fun x => -x) (fun u => ⟨by show Int32.ofNat (8 * _ / 8) = _; rw [Nat.mul_div_cancel_left _ (by decide)]; exact zN_self _, Nat.mul_mod_right 8 _⟩) (Or.inl ⟨rfl, rfl⟩) hKS h hR (fun x r hs kk => by subst hs; exact lv_ineg hexec hb hd kk)
  | instanceof _ => exact absurd (show false = true from h) (by decide)
  | invokedynamic _ => exact absurd (show false = true from h) (by decide)
  | invokeinterface _ _ => exact absurd (show false = true from h) (by decide)
  | invokespecial _ => exact absurd (show false = true from h) (by decide)
  | invokestatic ix =>
    obtain ⟨hnx, hd⟩ := zdec (k := 3) rfl (by decide) hlen hdec
    subst hnx
    have hlk2 : zlc me.2.2.2 ix ax pp 4 = true := hlk
    unfold zlc at hlk2
    cases hme2 : zG zMeth (ax / 16) with
    | none => rw [hme2] at hlk2; cases hlk2
    | some me2 =>
      rw [hme2] at hlk2
      simp only [Bool.or_eq_true, Bool.and_eq_true, decide_eq_true_eq] at hlk2
      rcases hlk2 with ⟨hkd, hw⟩ | ⟨hkd, hw⟩
      · have h2 : zycall P (ax / 16) 2 (pc + 3) ax (zyok bt P stop n) w en.1 en.2.2.2.2 pc ls st q fs m = true := zyinv_k (kd := 2) (by omega) (by omega) h
        refine zyw_call hIH hst hCon hK hfr hlo hmc hms rfl rfl rfl hKSa h2 hR (fun en2 me3 AsV rest rm Pc Qc hm3 hO2 hKi hsA hAl hrw hMet hr1 hr2 hr3 hr4 hbl hpre hrc hcs => ?_)
        rw [hme2] at hm3
        cases hm3
        have hcls2 := hO2.2.2.2.2.1
        exact zyrow_s hexec hb hml hown hK.1 (zwd_mem hw) hcls2 hKi hsA hAl hrw hMet hr1 hr2 hr3 hr4 hbl hpre hcs hR.2.2.2.1.2.1 hd
      · have h2 : zycall P (ax / 16) 2 (pc + 3) ax (zyok bt P stop n) w en.1 en.2.2.2.2 pc ls st q fs m = true := zyinv_k (kd := 2) (by omega) (by omega) h
        refine zyw_call hIH hst hCon hK hfr hlo hmc hms rfl rfl rfl hKSa h2 hR (fun en2 me3 AsV rest rm Pc Qc hm3 hO2 hKi hsA hAl hrw hMet hr1 hr2 hr3 hr4 hbl hpre hrc hcs => ?_)
        rw [hme2] at hm3
        cases hm3
        have hcls2 := hO2.2.2.2.2.1
        exact zyrow_sN hexec hb hml hown hK.1 (zwd_mem hw) hcls2 hKi hsA hAl hrw hMet hr1 hr2 hr3 hr4 hbl hpre hcs hR.2.2.2.1.2.1 hd
  | invokevirtual ix =>
    obtain ⟨hnx, hd⟩ := zdec (k := 3) rfl (by decide) hlen hdec
    subst hnx
    have hlk2 : zlc me.2.2.2 ix ax pp 0 = true := hlk
    unfold zlc at hlk2
    cases hme2 : zG zMeth (ax / 16) with
    | none => rw [hme2] at hlk2; cases hlk2
    | some me2 =>
      rw [hme2] at hlk2
      simp only [Bool.or_eq_true, Bool.and_eq_true, decide_eq_true_eq] at hlk2
      rcases hlk2 with ⟨hkd, hw⟩ | ⟨hkd, hw⟩
      · have h2 : zycall P (ax / 16) 0 (pc + 3) ax (zyok bt P stop n) w en.1 en.2.2.2.2 pc ls st q fs m = true := zyinv_k (kd := 0) (by omega) (by omega) h
        refine zyw_call hIH hst hCon hK hfr hlo hmc hms rfl rfl rfl hKSa h2 hR (fun en2 me3 AsV rest rm Pc Qc hm3 hO2 hKi hsA hAl hrw hMet hr1 hr2 hr3 hr4 hbl hpre hrc hcs => ?_)
        rw [hme2] at hm3
        cases hm3
        have hcls2 := hO2.2.2.2.2.1
        exact zyrow_v hexec hb hml hown hK.1 (zwd_mem hw) hcls2 hKi hsA hAl hrw hMet hr1 hr2 hr3 hr4 hbl hpre (hrc (by decide)) hcs hR.2.2.2.1.2.1 hd
      · have h2 : zycall P (ax / 16) 0 (pc + 3) ax (zyok bt P stop n) w en.1 en.2.2.2.2 pc ls st q fs m = true := zyinv_k (kd := 0) (by omega) (by omega) h
        refine zyw_call hIH hst hCon hK hfr hlo hmc hms rfl rfl rfl hKSa h2 hR (fun en2 me3 AsV rest rm Pc Qc hm3 hO2 hKi hsA hAl hrw hMet hr1 hr2 hr3 hr4 hbl hpre hrc hcs => ?_)
        rw [hme2] at hm3
        cases hm3
        have hcls2 := hO2.2.2.2.2.1
        exact zyrow_vN hexec hb hml hown hK.1 (zwd_mem hw) hcls2 hKi hsA hAl hrw hMet hr1 hr2 hr3 hr4 hbl hpre (hrc (by decide)) hcs hR.2.2.2.1.2.1 hd
  | ior =>
    obtain ⟨hnx, hd⟩ := zdec (k := 1) rfl (by decide) hlen hdec
    subst hnx
    exact zyw_bin (ax := ax) (dv := false) (g := 7) (by decide) (fun u v => zf_or_ok u v) zyItv_7 (fun q => by cases q) hKS h hR (fun x z r hs _ kk => by subst hs; exact lv_ior hexec hb hd kk)
  | irem =>
    obtain ⟨hnx, hd⟩ := zdec (k := 1) rfl (by decide) hlen hdec
    subst hnx
    exact zyw_bin (ax := ax) (dv := true) (g := 5) (by decide) (fun u v => zf_32_ok _ u v) zyItv_5 (fun _ => Or.inl rfl) hKS h hR (fun x z r hs hz kk => by subst hs; exact lv_irem hexec hb hd (hz rfl) kk)
  | ireturn =>
    obtain ⟨hnx, hd⟩ := zdec (k := 1) rfl (by decide) hlen hdec
    subst hnx
    exact zyw_ret (ax := ax) (cf := en.1) (nx := pc + 1) (lg := false) hrk hd hHr rfl rfl h hR
  | ishl =>
    obtain ⟨hnx, hd⟩ := zdec (k := 1) rfl (by decide) hlen hdec
    subst hnx
    exact zyw_bin (ax := ax) (dv := false) (g := 8) (by decide) (fun u v => zf_32_ok _ u v) zyItv_8 (fun q => by cases q) hKS h hR (fun x z r hs _ kk => by subst hs; exact lv_ishl hexec hb hd kk)
  | ishr =>
    obtain ⟨hnx, hd⟩ := zdec (k := 1) rfl (by decide) hlen hdec
    subst hnx
    exact zyw_bin (ax := ax) (dv := false) (g := 9) (by decide) (fun u v => zf_32_ok _ u v) zyItv_9 (fun q => by cases q) hKS h hR (fun x z r hs _ kk => by subst hs; exact lv_ishr hexec hb hd kk)
  | istore v =>
    obtain ⟨hnx, hd⟩ := zdec (k := 2) rfl (by decide) hlen hdec
    subst hnx
    exact zyw_store (ax := ax) (by decide) hKS h hR (fun x r hs hi k0 k2 kk => by obtain ⟨z, rfl⟩ := k0 rfl; subst hs; exact lv_istore hexec hb hd (zylv_has hR.2.2.2.1) hi rfl kk)
  | istore_n v =>
    obtain ⟨hnx, hd⟩ := zdec (k := 1) rfl (by decide) hlen hdec
    subst hnx
    exact zyw_store (ax := ax) (by decide) hKS h hR (fun x r hs hi k0 k2 kk => by obtain ⟨z, rfl⟩ := k0 rfl; subst hs; exact lv_istore_n hexec hb hd rfl (zylv_has hR.2.2.2.1) hi rfl kk)
  | isub =>
    obtain ⟨hnx, hd⟩ := zdec (k := 1) rfl (by decide) hlen hdec
    subst hnx
    exact zyw_bin (ax := ax) (dv := false) (g := 2) (by decide) (fun u v => zf_sub_ok u v) zyItv_2 (fun q => by cases q) hKS h hR (fun x z r hs _ kk => by subst hs; exact lv_isub hexec hb hd kk)
  | iushr => exact absurd (show false = true from h) (by decide)
  | ixor =>
    obtain ⟨hnx, hd⟩ := zdec (k := 1) rfl (by decide) hlen hdec
    subst hnx
    exact zyw_bin (ax := ax) (dv := false) (g := 6) (by decide) (fun u v => zf_xor_ok u v) zyItv_6 (fun q => by cases q) hKS h hR (fun x z r hs _ kk => by subst hs; exact lv_ixor hexec hb hd kk)
  | jsr _ => exact absurd (show false = true from h) (by decide)
  | jsr_w _ => exact absurd (show false = true from h) (by decide)
  | l2d => exact absurd (show false = true from h) (by decide)
  | l2f => exact absurd (show false = true from h) (by decide)
  | l2i =>
    obtain ⟨hnx, hd⟩ := zdec (k := 1) rfl (by decide) hlen hdec
    subst hnx
    exact zyw_l2i (ax := ax) (fun u => rfl) hKS h hR (fun x r hs kk => by subst hs; exact lv_l2i hexec hb hd rfl kk)
  | ladd =>
    obtain ⟨hnx, hd⟩ := zdec (k := 1) rfl (by decide) hlen hdec
    subst hnx
    exact zyw_lbin (ax := ax) (F := fun x z => x + z) (fun u v => rfl) hKS h hR (fun x z r hs _ kk => by subst hs; exact lv_ladd hexec hb hd kk)
  | laload =>
    obtain ⟨hnx, hd⟩ := zdec (k := 1) rfl (by decide) hlen hdec
    subst hnx
    exact zyw_ald (ax := ax) (by decide) (by decide) hK hKS h hR (fun g ty a cell j v r hg hty hc ha hv hi hx kk => by
      rcases hg with rfl | rfl
      · cases hty; exact W.lald hexec hb hc ha hv hi hx rfl rfl hd kk
      · cases hty; exact W.lald hexec hb hc ha hv hi hx rfl rfl hd kk)
  | land =>
    obtain ⟨hnx, hd⟩ := zdec (k := 1) rfl (by decide) hlen hdec
    subst hnx
    exact zyw_lbin (ax := ax) (F := fun x z => x &&& z) (fun u v => rfl) hKS h hR (fun x z r hs _ kk => by subst hs; exact lv_land hexec hb hd kk)
  | lastore =>
    obtain ⟨hnx, hd⟩ := zdec (k := 1) rfl (by decide) hlen hdec
    subst hnx
    exact zyw_ast (ax := ax) hK hKS h hR (fun g ty a cell j x x2 r hg hty hst2 hc ha hv hi kk => by
      rcases hg with rfl | rfl
      · cases hty
        rcases hst2 with ⟨z, hst2⟩ | ⟨z, hst2⟩ | ⟨z, hst2⟩ | ⟨z, hst2⟩ <;> first | (exfalso; omega) | (obtain ⟨u, rfl, rfl⟩ := hst2; exact W.last hexec hb hc ha hv hi rfl rfl hd kk)
      · cases hty
        rcases hst2 with ⟨z, hst2⟩ | ⟨z, hst2⟩ | ⟨z, hst2⟩ | ⟨z, hst2⟩ <;> first | (exfalso; omega) | (obtain ⟨u, rfl, rfl⟩ := hst2; exact W.last hexec hb hc ha hv hi rfl rfl hd kk))
  | lcmp =>
    obtain ⟨hnx, hd⟩ := zdec (k := 1) rfl (by decide) hlen hdec
    subst hnx
    exact zyw_lcmp (ax := ax) hKS h hR (fun x z r hs kk => by subst hs; exact W.lcmp hexec hb hd kk)
  | lconst v =>
    obtain ⟨hnx, hd⟩ := zdec (k := 1) rfl (by decide) hlen hdec
    subst hnx
    exact zyw_push (ax := ax) hKS h hR (zyv_mkl (u := v.val) rfl (by have := v.isLt; omega)) (fun kk => lv_lconst hexec hb hd rfl kk)
  | ldc ix =>
    obtain ⟨hnx, hd⟩ := zdec (k := 2) rfl (by decide) hlen hdec
    subst hnx
    exact zyw_ldc (ax := ax) (lw := false) hexec hb hown hK hlk hd rfl hKS h hR
  | ldc_w ix =>
    obtain ⟨hnx, hd⟩ := zdec (k := 3) rfl (by decide) hlen hdec
    subst hnx
    exact zyw_ldc (ax := ax) (lw := true) hexec hb hown hK hlk hd rfl hKS h hR
  | ldc2_w ix =>
    obtain ⟨hnx, hd⟩ := zdec (k := 3) rfl (by decide) hlen hdec
    subst hnx
    exact zyw_ldc2 (ax := ax) hexec hb hown hK (of_decide_eq_true hlk) hd rfl hKS h hR
  | ldiv =>
    obtain ⟨hnx, hd⟩ := zdec (k := 1) rfl (by decide) hlen hdec
    subst hnx
    exact zyw_lbin (ax := ax) (F := fun x z => x / z) (fun u v => rfl) hKS h hR (fun x z r hs hz kk => by subst hs; exact lv_ldiv hexec hb hd (hz rfl) kk)
  | lload v =>
    obtain ⟨hnx, hd⟩ := zdec (k := 2) rfl (by decide) hlen hdec
    subst hnx
    exact zyw_load (ax := ax) hKS h hR (fun x hx k0 k1 k2 kk => by obtain ⟨z, rfl⟩ := k1 rfl; exact lv_lload hexec hb hd hx kk)
  | lload_n v =>
    obtain ⟨hnx, hd⟩ := zdec (k := 1) rfl (by decide) hlen hdec
    subst hnx
    exact zyw_load (ax := ax) hKS h hR (fun x hx k0 k1 k2 kk => by obtain ⟨z, rfl⟩ := k1 rfl; exact lv_lload_n hexec hb hd rfl hx kk)
  | lmul =>
    obtain ⟨hnx, hd⟩ := zdec (k := 1) rfl (by decide) hlen hdec
    subst hnx
    exact zyw_lbin (ax := ax) (F := fun x z => x * z) (fun u v => rfl) hKS h hR (fun x z r hs _ kk => by subst hs; exact lv_lmul hexec hb hd kk)
  | lneg =>
    obtain ⟨hnx, hd⟩ := zdec (k := 1) rfl (by decide) hlen hdec
    subst hnx
    exact zyw_lneg (ax := ax) (fun u => rfl) hKS h hR (fun x r hs kk => by subst hs; exact lv_lneg hexec hb hd kk)
  | lookupswitch df prs =>
    exact zyw_look (ax := ax) (nx := nx) hexec hb hdec hKS h hR
  | lor =>
    obtain ⟨hnx, hd⟩ := zdec (k := 1) rfl (by decide) hlen hdec
    subst hnx
    exact zyw_lbin (ax := ax) (F := fun x z => x ||| z) (fun u v => rfl) hKS h hR (fun x z r hs _ kk => by subst hs; exact lv_lor hexec hb hd kk)
  | lrem =>
    obtain ⟨hnx, hd⟩ := zdec (k := 1) rfl (by decide) hlen hdec
    subst hnx
    exact zyw_lbin (ax := ax) (F := fun x z => x - x / z * z) (fun u v => rfl) hKS h hR (fun x z r hs hz kk => by subst hs; exact lv_lrem hexec hb hd (hz rfl) kk)
  | lreturn =>
    obtain ⟨hnx, hd⟩ := zdec (k := 1) rfl (by decide) hlen hdec
    subst hnx
    exact zyw_ret (ax := ax) (cf := en.1) (nx := pc + 1) (lg := true) hrk hd hHr rfl rfl h hR
  | lshl =>
    obtain ⟨hnx, hd⟩ := zdec (k := 1) rfl (by decide) hlen hdec
    subst hnx
    exact zyw_lsh (ax := ax) (F := fun x z => x <<< (z.toInt64 &&& 63)) (fun u v => rfl) hKS h hR (fun x z r hs kk => by subst hs; exact lv_lshl hexec hb hd rfl kk)
  | lshr =>
    obtain ⟨hnx, hd⟩ := zdec (k := 1) rfl (by decide) hlen hdec
    subst hnx
    exact zyw_lsh (ax := ax) (F := fun x z => x >>> (z.toInt64 &&& 63)) (fun u v => rfl) hKS h hR (fun x z r hs kk => by subst hs; exact lv_lshr hexec hb hd rfl kk)
  | lstore v =>
    obtain ⟨hnx, hd⟩ := zdec (k := 2) rfl (by decide) hlen hdec
    subst hnx
    exact zyw_storeL (ax := ax) hKS h hR (fun x r hs hi kk => by subst hs; exact lv_lstore hexec hb hd (zylv_has hR.2.2.2.1) hi rfl kk)
  | lstore_n v =>
    obtain ⟨hnx, hd⟩ := zdec (k := 1) rfl (by decide) hlen hdec
    subst hnx
    exact zyw_storeL (ax := ax) hKS h hR (fun x r hs hi kk => by subst hs; exact lv_lstore_n hexec hb hd rfl (zylv_has hR.2.2.2.1) hi rfl kk)
  | lsub =>
    obtain ⟨hnx, hd⟩ := zdec (k := 1) rfl (by decide) hlen hdec
    subst hnx
    exact zyw_lbin (ax := ax) (F := fun x z => x - z) (fun u v => rfl) hKS h hR (fun x z r hs _ kk => by subst hs; exact lv_lsub hexec hb hd kk)
  | lushr => exact absurd (show false = true from h) (by decide)
  | lxor => exact absurd (show false = true from h) (by decide)
  | monitorenter => exact absurd (show false = true from h) (by decide)
  | monitorexit => exact absurd (show false = true from h) (by decide)
  | multianewarray _ _ => exact absurd (show false = true from h) (by decide)
  | new _ => exact absurd (show false = true from h) (by decide)
  | newarray _ => exact absurd (show false = true from h) (by decide)
  | nop => exact absurd (show false = true from h) (by decide)
  | pop =>
    obtain ⟨hnx, hd⟩ := zdec (k := 1) rfl (by decide) hlen hdec
    subst hnx
    exact zyw_pop (ax := ax) hKS h hR (fun x r hs hc kk => by subst hs; exact lv_pop hexec hb hd hc kk)
  | pop2 => exact absurd (show false = true from h) (by decide)
  | putfield ix =>
    obtain ⟨hnx, hd⟩ := zdec (k := 3) rfl (by decide) hlen hdec
    subst hnx
    have hlk2 := hlk
    unfold zlk at hlk2
    rw [Bool.and_eq_true, decide_eq_true_eq] at hlk2
    exact zyw_putf (ax := ax) hexec hb hown hK hlk2.1 hlk2.2 hd rfl hKS h hR
  | putstatic _ => exact absurd (show false = true from h) (by decide)
  | ret _ => exact absurd (show false = true from h) (by decide)
  | return_ =>
    obtain ⟨hnx, hd⟩ := zdec (k := 1) rfl (by decide) hlen hdec
    subst hnx
    exact zyw_retv (ax := ax) (cf := en.1) (nx := pc + 1) hrk hd hHr rfl rfl h hR
  | saload => exact absurd (show false = true from h) (by decide)
  | sastore => exact absurd (show false = true from h) (by decide)
  | sipush v =>
    obtain ⟨hnx, hd⟩ := zdec (k := 3) rfl (by decide) hlen hdec
    subst hnx
    exact zyw_push (ax := ax) hKS h hR (zyv_mkx (Int16.ofInt v).toInt32) (fun kk => lv_sipush hexec hb hd rfl kk)
  | swap => exact absurd (show false = true from h) (by decide)
  | tableswitch df lo hi offs =>
    exact zyw_tab (ax := ax) (nx := nx) hexec hb hdec hKS h hR
theorem zymain {l : Launch} {bt : zW → List Nat → zyM → Bool} {P : zyP} {stop : zyK} (hst : ∀ w cf y pc ls st q f fs m, stop w cf y pc ls st q (f :: fs) m = false) : ∀ n, zyMain l bt P stop n := by
  intro n
  induction n using Nat.strongRecOn with
  | ind n IH =>
    intro X y0 en me hCon hOK w pc ls st q fs m h p e R s mt args below meth c Q H locs lsA stA hC hR hHr hHs
    cases n with
    | zero => exact hHs (zyρ X) (zyN X) w pc ls st q m H locs lsA stA h hR
    | succ n =>
      have h' : zif (stop w en.1 en.2.2.2.2 pc ls st q fs m) true (Prod.rec (motive := fun _ => Bool) (fun i r => Prod.rec (motive := fun _ => Bool) (fun nx ax => zyop bt P i nx ax (zyok bt P stop n) w en.1 en.2.2.2.2 pc ls st q fs m) r) (en.1 pc)) = true := h
      rcases zif_iff h' with ⟨h1, -⟩ | ⟨-, h2⟩
      · exact hHs (zyρ X) (zyN X) w pc ls st q m H locs lsA stA h1 hR
      · have hrow := hOK.1 pc
        generalize en.1 pc = t at h2 hrow
        obtain ⟨i, nx, ax⟩ := t
        refine zystep (d0 := q.1) (y0 := y0) IH hst hCon hOK hC (fun k hk ρ2 N2 w2 pc2 ls2 st2 q2 m2 H2 locs2 lsA2 stA2 hz hR2 => ?_) hHr hrow h2 hR
        have e1 : q2.1 = q.1 := hR2.2.2.2.2.2.1
        refine IH k (by omega) (zyre X ρ2 N2) y0 en me hCon hOK w2 pc2 ls2 st2 q2 fs m2 hz p e R s mt args below meth c Q H2 locs2 lsA2 stA2 (by rw [e1]; exact hC) (by rw [e1]; exact hR2) (fun n' ρ3 w3 v m3 H3 locs3 lsA3 pc3 vo cells slots hn' => hHr n' ρ3 w3 v m3 H3 locs3 lsA3 pc3 vo cells slots (by omega)) (by rw [e1]; exact fun ρ3 N3 => hHs ρ3 N3)
end
section
/-! CUTS: a method's contract out of runs between cuts. A cut: where, how many symbols, locals, bounds, what is known of the memory, a measure (0 and a number; 1 and a place that grows; 2 and a place that falls). The symbol of the i-th local is i, that of the j-th known element the number of locals and j. -/
abbrev zyKt : Type := Nat × Nat × List Nat × List (Nat × Nat) × List (Nat × Nat) × List (Nat × Nat)
noncomputable def zysym (i : Nat) : Nat := Nat.add (Nat.mul i 34359738368) 1
noncomputable def zyck (w : zW) (env : List (Nat × Nat)) (i code v : Nat) : Bool := zif (Nat.beq code (zysym i)) (znth (fun p => zbd w v (fun lo hi => zand (Nat.ble p.1 lo) (Nat.ble hi p.2))) env i) (zysub w v code)
noncomputable def zyinL (w : zW) (env : List (Nat × Nat)) (cls : List Nat) : Nat → List Nat → Bool := List.rec (motive := fun _ => Nat → List Nat → Bool) (fun _ ls => List.rec (motive := fun _ => Bool) true (fun _ _ _ => false) ls) (fun cl _ ih i ls => List.rec (motive := fun _ => Bool) false (fun a t _ => zand (zif (Nat.beq cl 13) true (zif (Nat.beq a 13) false (zyck w env i cl a))) (ih (Nat.succ i) t)) ls) cls
noncomputable def zyinC (w : zW) (B : zyB) (env : List (Nat × Nat)) (m : List (Nat × Nat)) (kc : List (Nat × Nat)) : Nat → Bool := List.rec (motive := fun _ => Nat → Bool) (fun _ => true) (fun p _ ih i => zand (zget B (Nat.div p.1 16384) (fun c => zif (Nat.ble (Nat.succ (Nat.mod p.1 16384)) (zylenB c)) (zylk (zyrw (fun v => zyck w env i p.2 v) (Nat.mod p.1 16384) (Nat.mod p.1 16384) c.2.2) (fun v => zyck w env i p.2 v) p.1 m) false)) (ih (Nat.succ i))) kc
noncomputable def zyinR (w : zW) (B : zyB) (kc : List (Nat × Nat)) (m : List (Nat × Nat)) : Bool := List.rec (motive := fun _ => Bool) true (fun p _ ih => zand (zylk (zget B (Nat.div p.1 16384) (fun c => zyall (fun code => zysub w p.2 code) (Nat.mod p.1 16384) (Nat.mod p.1 16384) c.2.2)) (fun _ => true) p.1 kc) ih) m
noncomputable def zyfl (p : Nat × Nat) : Bool := zand (Nat.beq p.1 0) (Nat.beq p.2 4294967295)
noncomputable def zywf1 (env : List (Nat × Nat)) (i code : Nat) : Bool := zif (Nat.beq code (zysym i)) true (zand (zif (Nat.beq (Nat.mod code 8) 1) false true) (znth zyfl env i))
noncomputable def zywfL (env : List (Nat × Nat)) (cls : List Nat) : Nat → Bool := List.rec (motive := fun _ => Nat → Bool) (fun _ => true) (fun cl _ ih i => zand (zywf1 env i cl) (ih (Nat.succ i))) cls
noncomputable def zywfC (env : List (Nat × Nat)) (kc : List (Nat × Nat)) : Nat → Bool := List.rec (motive := fun _ => Nat → Bool) (fun _ => true) (fun p _ ih i => zand (zywf1 env i p.2) (ih (Nat.succ i))) kc
noncomputable def zyln {α : Type} (l : List α) : Nat := List.rec (motive := fun _ => Nat) 0 (fun _ _ ih => Nat.succ ih) l
noncomputable def zywf (nL : Nat) (κ : zyKt) : Bool := zand (zywfL κ.2.2.2.1 κ.2.2.1 0) (zand (zywfC κ.2.2.2.1 κ.2.2.2.2.1 nL) (zand (Nat.beq (zyln κ.2.2.2.1) κ.2.1) (zand (Nat.beq (zyln κ.2.2.1) nL) (Nat.beq κ.2.1 (Nat.add nL (zyln κ.2.2.2.2.1))))))
noncomputable def zyincl (P : zyP) (nL : Nat) (w : zW) (ls : List Nat) (m : List (Nat × Nat)) (κ : zyKt) : Bool := zand (zyinL w κ.2.2.2.1 κ.2.2.1 0 ls) (zand (zyinC w P.1 κ.2.2.2.1 m κ.2.2.2.2.1 nL) (zyinR w P.1 κ.2.2.2.2.1 m))
/-! measures -/
noncomputable def zyloc (nL : Nat) (ls : List Nat) (kc m : List (Nat × Nat)) (an : Nat) (f : Nat → Bool) : Bool := zif (Nat.ble (Nat.succ an) nL) (znth f ls an) (znth (fun p => zylk false f p.1 m) kc (Nat.sub an nL))
noncomputable def zylex (w : zW) (No nL : Nat) (ls : List Nat) (kc m : List (Nat × Nat)) (new : List (Nat × Nat)) : List (Nat × Nat) → Bool := List.rec (motive := fun _ => List (Nat × Nat) → Bool) (fun _ => false) (fun n _ ih old => List.rec (motive := fun _ => Bool) false (fun o t _ =>
  zif (zand (Nat.beq n.1 0) (Nat.beq o.1 0)) (zif (zand (Nat.ble (Nat.succ n.2) o.2) (Nat.ble o.2 4294967295)) true (zif (Nat.beq n.2 o.2) (ih t) false))
  (zif (zand (Nat.beq n.1 o.1) (zand (zif (Nat.beq n.1 1) true (Nat.beq n.1 2)) (Nat.ble (Nat.succ o.2) No))) (zyloc nL ls kc m n.2 (fun v => zif (Nat.beq v (zysym o.2)) (ih t)
      (zand (Nat.beq (Nat.mod v 8) 1) (zand (Nat.beq (Nat.div v 34359738368) o.2) (znth (fun p => zif (Nat.beq n.1 1)
        (zand (Nat.ble 1 (Nat.mod (Nat.div v 8) 4294967296)) (zand (Nat.ble (Nat.mod (Nat.div v 8) 4294967296) 2147483647) (Nat.ble (Nat.add p.2 (Nat.mod (Nat.div v 8) 4294967296)) 4294967295)))
        (zand (Nat.ble 2147483648 (Nat.mod (Nat.div v 8) 4294967296)) (Nat.ble 4294967296 (Nat.add p.1 (Nat.mod (Nat.div v 8) 4294967296))))) w.2 o.2))))) false)) old) new
noncomputable def zystop (P : zyP) (nL : Nat) (K : List zyKt) (κ0 : zyKt) : zyK := fun w _ _ pc ls st _ fs m => List.rec (motive := fun _ => Bool) (List.rec (motive := fun _ => Bool) (List.rec (motive := fun _ => Bool) false (fun κ _ ih => zif (Nat.beq pc κ.1) (zif (zand (zyincl P nL w ls m.1 κ) (zylex w κ0.2.1 nL ls κ.2.2.2.2.1 m.1 κ.2.2.2.2.2 κ0.2.2.2.2.2)) true ih) ih) K) (fun _ _ _ => false) st) (fun _ _ _ => false) fs
noncomputable def zybt (P : zyP) (ct : zyCt) : zW → List Nat → zyM → Bool := fun w v m => zand (zyfitM w P.1 m.1) (zand (zysubL w v ct.2.2.1) (zypre w P.1 m.1 ct.2.2.2.2.2))
theorem zyln_eq {α : Type} : ∀ (l : List α), zyln l = l.length := by
  intro l
  induction l with
  | nil => rfl
  | cons a t ih =>
    have e : zyln (a :: t) = zyln t + 1 := rfl
    rw [e, ih, List.length_cons]
theorem zysym_def (i : Nat) : zysym i = i * 34359738368 + 1 := rfl
theorem zyck_iff {w : zW} {env : List (Nat × Nat)} {i code v : Nat} {ρ : Nat → Int32} {N : Nat} {ad : Nat → Nat} {x : Value} (h : zyck w env i code v = true) (hE : zEnv ρ w.2) (hv : zyv ρ N ad v x) : (code = zysym i ∧ ∃ (p : Nat × Nat) (n : Int32), env[i]? = some p ∧ x = .int n ∧ p.1 ≤ zB n ∧ zB n ≤ p.2) ∨ (¬ code = zysym i ∧ ¬ code % 8 = 1 ∧ ∀ (ρ2 : Nat → Int32) (N2 : Nat), zyv ρ2 N2 ad code x) := by
  unfold zyck at h
  rcases zif_iff h with ⟨h1, h⟩ | ⟨h1, h⟩
  · obtain ⟨p, hp, h⟩ := znth_iff h
    obtain ⟨n, lo, hi, rfl, b1, b2, h⟩ := zybd_iff h hE hv
    obtain ⟨g1, g2⟩ := zand_iff h
    have g1 := zbleT g1
    have g2 := zbleT g2
    exact Or.inl ⟨zbeqT h1, p, n, hp, rfl, by omega, by omega⟩
  · exact Or.inr ⟨zbeqF h1, (zysub_iff (ρ2 := ρ) (N2 := N) h hE hv).1, fun ρ2 N2 => (zysub_iff h hE hv).2⟩
theorem zyinL_iff {w : zW} {env : List (Nat × Nat)} : ∀ {cls : List Nat} {i : Nat} {ls : List Nat}, zyinL w env cls i ls = true → ∀ (j cl : Nat), cls[j]? = some cl → ¬ cl = 13 → ∃ a, ls[j]? = some a ∧ ¬ a = 13 ∧ zyck w env (i + j) cl a = true := by
  intro cls
  induction cls with
  | nil => intro i ls h j cl hc; simp at hc
  | cons c t ih =>
    intro i ls h j cl hc hn
    cases ls with
    | nil => cases h
    | cons a u =>
      have h : zand (zif (Nat.beq c 13) true (zif (Nat.beq a 13) false (zyck w env i c a))) (zyinL w env t (i + 1) u) = true := h
      obtain ⟨g1, g2⟩ := zand_iff h
      cases j with
      | zero =>
        rw [List.getElem?_cons_zero] at hc
        cases hc
        rcases zif_iff g1 with ⟨g3, -⟩ | ⟨-, g3⟩
        · exact absurd (zbeqT g3) hn
        rcases zif_iff g3 with ⟨-, g4⟩ | ⟨g4, g5⟩
        · cases g4
        · exact ⟨a, List.getElem?_cons_zero, zbeqF g4, g5⟩
      | succ j =>
        rw [List.getElem?_cons_succ] at hc
        obtain ⟨a2, q1, q2, q3⟩ := ih g2 j cl hc hn
        exact ⟨a2, by rw [List.getElem?_cons_succ]; exact q1, q2, by rw [show i + (j + 1) = i + 1 + j by omega]; exact q3⟩
theorem zyinC_iff {w : zW} {B : zyB} {env m : List (Nat × Nat)} : ∀ {kc : List (Nat × Nat)} {i : Nat}, zyinC w B env m kc i = true → ∀ (j : Nat) (p : Nat × Nat), kc[j]? = some p → ∃ c, zG B (p.1 / 16384) = some c ∧ p.1 % 16384 < zyLen c ∧ ∃ v, (zyl m p.1 = some v ∨ (zyl m p.1 = none ∧ ∃ r ∈ c.2.2, r.1 ≤ p.1 % 16384 ∧ p.1 % 16384 ≤ r.2.1 ∧ v = r.2.2)) ∧ zyck w env (i + j) p.2 v = true := by
  intro kc
  induction kc with
  | nil => intro i h j p hp; simp at hp
  | cons p0 t ih =>
    intro i h j p hp
    have h : zand (zget B (p0.1 / 16384) (fun c => zif (Nat.ble (p0.1 % 16384 + 1) (zylenB c)) (zylk (zyrw (fun v => zyck w env i p0.2 v) (p0.1 % 16384) (p0.1 % 16384) c.2.2) (fun v => zyck w env i p0.2 v) p0.1 m) false)) (zyinC w B env m t (i + 1)) = true := h
    obtain ⟨g1, g2⟩ := zand_iff h
    cases j with
    | zero =>
      rw [List.getElem?_cons_zero] at hp
      cases hp
      obtain ⟨c, hg, g3⟩ := zget_iff g1
      rcases zif_iff g3 with ⟨g4, g5⟩ | ⟨-, g5⟩
      · have g4 := zbleT g4
        rw [zylen_eq] at g4
        refine ⟨c, hg, by omega, ?_⟩
        rw [zylk_eq] at g5
        cases hq : zyl m p0.1 with
        | some v => rw [hq] at g5; exact ⟨v, Or.inl rfl, g5⟩
        | none =>
          rw [hq] at g5
          obtain ⟨r, q1, q2, q3, q4⟩ := zyrw_iff g5
          exact ⟨r.2.2, Or.inr ⟨rfl, r, q1, q2, q3, rfl⟩, q4⟩
      · cases g5
    | succ j =>
      rw [List.getElem?_cons_succ] at hp
      obtain ⟨c, q1, q2, v, q3, q4⟩ := ih g2 j p hp
      exact ⟨c, q1, q2, v, q3, by rw [show i + (j + 1) = i + 1 + j by omega]; exact q4⟩
theorem zyinR_iff {w : zW} {B : zyB} {kc : List (Nat × Nat)} : ∀ {m : List (Nat × Nat)}, zyinR w B kc m = true → ∀ key v, zyl m key = some v → zyl kc key = none → ∃ c, zG B (key / 16384) = some c ∧ ∀ r ∈ c.2.2, r.1 ≤ key % 16384 → key % 16384 ≤ r.2.1 → zysub w v r.2.2 = true := by
  intro m
  induction m with
  | nil => intro _ key v h; cases h
  | cons p t ih =>
    intro h key v hk hn
    have h : zand (zylk (zget B (p.1 / 16384) (fun c => zyall (fun code => zysub w p.2 code) (p.1 % 16384) (p.1 % 16384) c.2.2)) (fun _ => true) p.1 kc) (zyinR w B kc t) = true := h
    obtain ⟨g1, g2⟩ := zand_iff h
    rw [zyl_c] at hk
    by_cases q : p.1 = key
    · rw [if_pos q] at hk
      cases hk
      rw [q, zylk_eq, hn] at g1
      obtain ⟨c, q1, q2⟩ := zget_iff g1
      exact ⟨c, q1, fun r hr r1 r2 => zyall_iff q2 r hr _ (Nat.le_refl _) (Nat.le_refl _) r1 r2⟩
    · rw [if_neg q] at hk
      exact ih g2 key v hk hn
theorem zyl_ix {key v : Nat} : ∀ {l : List (Nat × Nat)}, zyl l key = some v → ∃ j : Nat, l[j]? = some (key, v) := by
  intro l
  induction l with
  | nil => intro h; cases h
  | cons p t ih =>
    intro h
    rw [zyl_c] at h
    by_cases q : p.1 = key
    · rw [if_pos q] at h
      cases h
      exact ⟨0, by rw [List.getElem?_cons_zero, ← q]⟩
    · rw [if_neg q] at h
      obtain ⟨j, hj⟩ := ih h
      exact ⟨j + 1, by rw [List.getElem?_cons_succ]; exact hj⟩
theorem zywf1_iff {env : List (Nat × Nat)} {i code : Nat} (h : zywf1 env i code = true) : code = zysym i ∨ (¬ code % 8 = 1 ∧ env[i]? = some (0, 4294967295)) := by
  unfold zywf1 at h
  simp only [zn_m] at h
  rcases zif_iff h with ⟨h1, -⟩ | ⟨-, h⟩
  · exact Or.inl (zbeqT h1)
  obtain ⟨h1, h2⟩ := zand_iff h
  have h1 := zbeqF (zyF_n h1)
  obtain ⟨p, q1, q2⟩ := znth_iff h2
  obtain ⟨g1, g2⟩ := zand_iff q2
  have g1 := zbeqT g1
  have g2 := zbeqT g2
  refine Or.inr ⟨h1, ?_⟩
  rw [q1]
  obtain ⟨p1, p2⟩ := p
  dsimp only at g1 g2
  rw [g1, g2]
theorem zywfL_iff {env : List (Nat × Nat)} : ∀ {cls : List Nat} {i : Nat}, zywfL env cls i = true → ∀ (j cl : Nat), cls[j]? = some cl → zywf1 env (i + j) cl = true := by
  intro cls
  induction cls with
  | nil => intro i h j cl hc; simp at hc
  | cons c t ih =>
    intro i h j cl hc
    have h : zand (zywf1 env i c) (zywfL env t (i + 1)) = true := h
    obtain ⟨g1, g2⟩ := zand_iff h
    cases j with
    | zero => rw [List.getElem?_cons_zero] at hc; cases hc; exact g1
    | succ j =>
      rw [List.getElem?_cons_succ] at hc
      rw [show i + (j + 1) = i + 1 + j by omega]
      exact ih g2 j cl hc
theorem zywfC_iff {env : List (Nat × Nat)} : ∀ {kc : List (Nat × Nat)} {i : Nat}, zywfC env kc i = true → ∀ (j : Nat) (p : Nat × Nat), kc[j]? = some p → zywf1 env (i + j) p.2 = true := by
  intro cls
  induction cls with
  | nil => intro i h j cl hc; simp at hc
  | cons c t ih =>
    intro i h j cl hc
    have h : zand (zywf1 env i c.2) (zywfC env t (i + 1)) = true := h
    obtain ⟨g1, g2⟩ := zand_iff h
    cases j with
    | zero => rw [List.getElem?_cons_zero] at hc; cases hc; exact g1
    | succ j =>
      rw [List.getElem?_cons_succ] at hc
      rw [show i + (j + 1) = i + 1 + j by omega]
      exact ih g2 j cl hc
/-- what the cut's symbols are -/
noncomputable def zyrho (B : zyB) (Y : zCx) (H : Heap) (nL : Nat) (lsA : Array Slot) (kc : List (Nat × Nat)) : Nat → Int32 := fun i => if i < nL then (match lsA[i]? with
  | some (.val (.int x)) => x
  | _ => 0) else (match kc[i - nL]? with
  | some p => (match zyEl B Y H (p.1 / 16384) (p.1 % 16384) with
    | some (.int x) => x
    | _ => 0)
  | none => 0)
theorem zyrho_l {B : zyB} {Y : zCx} {H : Heap} {nL i : Nat} {lsA : Array Slot} {kc : List (Nat × Nat)} {x : Int32} (hi : i < nL) (h : lsA[i]? = some (.val (.int x))) : zyrho B Y H nL lsA kc i = x := by
  unfold zyrho
  rw [if_pos hi, h]
theorem zyrho_c {B : zyB} {Y : zCx} {H : Heap} {nL j : Nat} {lsA : Array Slot} {kc : List (Nat × Nat)} {p : Nat × Nat} {x : Int32} (hp : kc[j]? = some p) (h : zyEl B Y H (p.1 / 16384) (p.1 % 16384) = some (.int x)) : zyrho B Y H nL lsA kc (nL + j) = x := by
  unfold zyrho
  rw [if_neg (by omega), show nL + j - nL = j by omega, hp]
  dsimp only
  rw [h]
theorem zyv_sym {ρ : Nat → Int32} {N : Nat} {ad : Nat → Nat} {i : Nat} {x : Int32} (hi : i < N) (h : ρ i = x) : zyv ρ N ad (zysym i) (.int x) := by
  rw [zysym_def]
  refine Or.inl ⟨Or.inr (Or.inl ⟨by omega, ?_⟩), fun _ => by omega, fun q => by omega⟩
  have e5 : (i * 34359738368 + 1) / 34359738368 = i := by omega
  have e6 : (i * 34359738368 + 1) / 8 % 4294967296 = 0 := by omega
  rw [e5, e6, h]
  congr 1
  show x = x + 0
  rw [Int32.add_zero]
/-- a state within a cut -/
theorem zycutR {P : zyP} {X : zyX} {s : State} {nL : Nat} {d : Nat × Nat × Nat} {w : zW} {ls : List Nat} {q : zQ} {m : zyM} {H : Heap} {locs : List Loc} {lsA : Array Slot} {κ : zyKt} (hR : zyRl P X s nL d w ls [] q m H locs lsA []) (hi : zyincl P nL w ls m.1 κ = true) (hwf : zywf nL κ = true) :
    zyRl P (zyb X, zyrho P.1 (zyb X) H nL lsA κ.2.2.2.2.1, κ.2.1, zyrho P.1 (zyb X) H nL lsA κ.2.2.2.2.1, κ.2.1, X.2.2.2.2.2.1, zyJ X) s nL d (κ.2.1, κ.2.2.2.1) κ.2.2.1 [] q (κ.2.2.2.2.1, []) H locs lsA [] := by
  obtain ⟨kpc, kN, kls, kenv, kc, kmu⟩ := κ
  obtain ⟨h1, h2⟩ := zand_iff hi
  obtain ⟨h2, h3⟩ := zand_iff h2
  obtain ⟨f1, f2⟩ := zand_iff hwf
  obtain ⟨f2, f3⟩ := zand_iff f2
  obtain ⟨f3, f4⟩ := zand_iff f3
  obtain ⟨f4, f5⟩ := zand_iff f4
  have f3 := zbeqT f3
  have f4 := zbeqT f4
  have f5 := zbeqT f5
  rw [zyln_eq] at f3 f4
  rw [show Nat.add nL (zyln kc) = nL + zyln kc from rfl, zyln_eq] at f5
  dsimp only at h1 h2 h3 f1 f2 f3 f4 f5 ⊢
  have hloc : ∀ (i cl : Nat), kls[i]? = some cl → ¬ cl = 13 → ∃ (a : Nat) (x : Value), ls[i]? = some a ∧ zyV X a x ∧ lsA[i]? = some (.val x) ∧ ((cl = zysym i ∧ ∃ (p : Nat × Nat) (n : Int32), kenv[i]? = some p ∧ x = .int n ∧ p.1 ≤ zB n ∧ zB n ≤ p.2) ∨ (¬ cl = zysym i ∧ ¬ cl % 8 = 1 ∧ ∀ (ρ2 : Nat → Int32) (N2 : Nat), zyv ρ2 N2 (zad (zyb X)) cl x)) := by
    intro i cl hc hn
    obtain ⟨a, q1, q2, q3⟩ := zyinL_iff h1 i cl hc hn
    rw [Nat.zero_add] at q3
    obtain ⟨x, g1, g2⟩ := hR.2.2.2.1.2.2.2 i a q1 q2
    exact ⟨a, x, q1, g2, g1, zyck_iff q3 hR.1.1 g2⟩
  have hcell : ∀ (j : Nat) (p : Nat × Nat), kc[j]? = some p → ∃ (c : zyCl) (x : Value), zG P.1 (p.1 / 16384) = some c ∧ p.1 % 16384 < zyLen c ∧ zyEl P.1 (zyb X) H (p.1 / 16384) (p.1 % 16384) = some x ∧ ((p.2 = zysym (nL + j) ∧ ∃ (e : Nat × Nat) (n : Int32), kenv[nL + j]? = some e ∧ x = .int n ∧ e.1 ≤ zB n ∧ zB n ≤ e.2) ∨ (¬ p.2 = zysym (nL + j) ∧ ¬ p.2 % 8 = 1 ∧ ∀ (ρ2 : Nat → Int32) (N2 : Nat), zyv ρ2 N2 (zad (zyb X)) p.2 x)) := by
    intro j p hp
    obtain ⟨c, q1, q2, v, q3, q4⟩ := zyinC_iff h2 j p hp
    obtain ⟨x, g1, g2⟩ := hR.2.1.2.1 _ c _ q1 q2
    refine ⟨c, x, q1, q2, g1, ?_⟩
    have hv : zyV X v x := by
      unfold zyEt at g2
      have e1 : p.1 / 16384 * 16384 + p.1 % 16384 = p.1 := by omega
      rw [e1] at g2
      rcases q3 with q3 | ⟨q3, r, r1, r2, r3, r4⟩
      · rw [q3] at g2
        exact g2
      · rw [q3] at g2
        rw [r4]
        exact (g2 r r1 r2 r3).2
    exact zyck_iff q4 hR.1.1 hv
  have hlsl : ls.length = nL := hR.2.2.2.1.1
  refine ⟨⟨?_, rfl, ⟨Nat.le_refl _, fun _ _ => rfl⟩, fun f hf => by cases hf⟩, ⟨hR.2.1.1, fun a c k hg hk => ?_, hR.2.1.2.2⟩, hR.2.2.1, ⟨f4, hR.2.2.2.1.2.1, hR.2.2.2.1.2.2.1, fun i cl hc hn => ?_⟩, trivial, hR.2.2.2.2.2⟩
  · intro i p hp
    dsimp only at hp ⊢
    have hil : i < kenv.length := (List.getElem?_eq_some_iff.mp hp).1
    by_cases hi2 : i < nL
    · obtain ⟨cl, hcl⟩ : ∃ cl, kls[i]? = some cl := ⟨kls[i]'(by omega), List.getElem?_eq_getElem (by omega)⟩
      rcases zywf1_iff (zywfL_iff f1 i cl hcl) with e1 | ⟨-, e1⟩
      · rw [Nat.zero_add] at e1
        have hn : ¬ cl = 13 := by
          rw [e1, zysym_def]
          omega
        obtain ⟨a, x, q1, q2, q3, q4⟩ := hloc i cl hcl hn
        rcases q4 with ⟨-, p2, n, g1, g2, g3, g4⟩ | ⟨q4, -⟩
        · rw [hp] at g1
          cases g1
          rw [g2] at q3
          have e9 := zyrho_l (B := P.1) (Y := zyb X) (H := H) (kc := kc) hi2 q3
          show p.1 ≤ zB (zyrho P.1 (zyb X) H nL lsA kc i) ∧ zB (zyrho P.1 (zyb X) H nL lsA kc i) ≤ p.2
          rw [e9]
          exact ⟨g3, g4⟩
        · exact absurd e1 q4
      · rw [Nat.zero_add, hp] at e1
        cases e1
        exact zyfull _
    · obtain ⟨j, rfl⟩ : ∃ j, i = nL + j := ⟨i - nL, by omega⟩
      obtain ⟨pc, hpc⟩ : ∃ pc, kc[j]? = some pc := ⟨kc[j]'(by omega), List.getElem?_eq_getElem (by omega)⟩
      rcases zywf1_iff (zywfC_iff f2 j pc hpc) with e1 | ⟨-, e1⟩
      · obtain ⟨c, x, q1, q2, q3, q4⟩ := hcell j pc hpc
        rcases q4 with ⟨-, p2, n, g1, g2, g3, g4⟩ | ⟨q4, -⟩
        · rw [hp] at g1
          cases g1
          rw [g2] at q3
          have e9 := zyrho_c (nL := nL) (lsA := lsA) hpc q3
          show p.1 ≤ zB (zyrho P.1 (zyb X) H nL lsA kc (nL + j)) ∧ zB (zyrho P.1 (zyb X) H nL lsA kc (nL + j)) ≤ p.2
          rw [e9]
          exact ⟨g3, g4⟩
        · exact absurd e1 q4
      · rw [hp] at e1
        cases e1
        exact zyfull _
  · obtain ⟨x, g1, g2⟩ := hR.2.1.2.1 a c k hg hk
    have hl := zyLen_le hR.2.1 hg
    have e1 : (a * 16384 + k) / 16384 = a := by omega
    have e2 : (a * 16384 + k) % 16384 = k := by omega
    refine ⟨x, g1, ?_⟩
    unfold zyEt
    dsimp only
    cases hq : zyl kc (a * 16384 + k) with
    | some code =>
      obtain ⟨j, hj⟩ := zyl_ix hq
      obtain ⟨c2, x2, q1, q2, q3, q4⟩ := hcell j _ hj
      dsimp only at q1 q2 q3 q4
      rw [e1, e2] at q3
      rw [g1] at q3
      cases q3
      have hjl : j < kc.length := (List.getElem?_eq_some_iff.mp hj).1
      rcases q4 with ⟨q5, p2, n, r1, r2, r3, r4⟩ | ⟨-, -, q5⟩
      · show zyv _ _ _ code x
        rw [q5, r2]
        refine zyv_sym (show nL + j < kN by omega) (zyrho_c hj ?_)
        dsimp only
        rw [e1, e2, g1, r2]
      · exact q5 _ _
    | none =>
      intro r hr r1 r2
      unfold zyEt at g2
      cases hq2 : zyl m.1 (a * 16384 + k) with
      | none =>
        rw [hq2] at g2
        exact ⟨(g2 r hr r1 r2).1, zyv_cl (g2 r hr r1 r2).1 (g2 r hr r1 r2).2⟩
      | some v =>
        rw [hq2] at g2
        obtain ⟨c2, y1, y2⟩ := zyinR_iff h3 _ v hq2 hq
        rw [e1, hg] at y1
        cases y1
        rw [e2] at y2
        exact zysub_iff (y2 r hr r1 r2) hR.1.1 g2
  · obtain ⟨a, x, q1, q2, q3, q4⟩ := hloc i cl hc hn
    have hil : i < kls.length := (List.getElem?_eq_some_iff.mp hc).1
    refine ⟨x, q3, ?_⟩
    rcases q4 with ⟨q5, p2, n, r1, r2, r3, r4⟩ | ⟨-, -, q5⟩
    · show zyv _ _ _ cl x
      rw [q5, r2]
      rw [r2] at q3
      exact zyv_sym (show i < kN by omega) (zyrho_l (by omega) q3)
    · exact q5 _ _
end
section
/-! CUTS: measures, and the contract -/
def zymv (ρ : Nat → Int32) (c : Nat × Nat) : Nat := if c.1 = 0 then c.2 % 18446744073709551616 else if c.1 = 1 then 4294967295 - zB (ρ c.2) else zB (ρ c.2)
def zymu (ρ : Nat → Int32) : List (Nat × Nat) → Nat
  | [] => 0
  | c :: t => zymv ρ c * 18446744073709551616 ^ t.length + zymu ρ t
theorem zymv_lt (ρ : Nat → Int32) (c : Nat × Nat) : zymv ρ c < 18446744073709551616 := by
  unfold zymv
  have := zB_lt (ρ c.2)
  split
  · exact Nat.mod_lt _ (by decide)
  · split <;> omega
theorem zymu_lt (ρ : Nat → Int32) : ∀ l : List (Nat × Nat), zymu ρ l < 18446744073709551616 ^ l.length := by
  intro l
  induction l with
  | nil => exact Nat.one_pos
  | cons c t ih =>
    show zymv ρ c * 18446744073709551616 ^ t.length + zymu ρ t < 18446744073709551616 ^ (t.length + 1)
    have h1 := zymv_lt ρ c
    have h2 : (zymv ρ c + 1) * 18446744073709551616 ^ t.length ≤ 18446744073709551616 * 18446744073709551616 ^ t.length := Nat.mul_le_mul_right _ (by omega)
    rw [Nat.pow_succ, Nat.mul_comm (18446744073709551616 ^ t.length)]
    rw [Nat.add_mul, Nat.one_mul] at h2
    omega
theorem zymu_lex {ρ ρ2 : Nat → Int32} {n o : Nat × Nat} {tn to : List (Nat × Nat)} (hl : tn.length = to.length) (h : zymv ρ2 n < zymv ρ o ∨ (zymv ρ2 n = zymv ρ o ∧ zymu ρ2 tn < zymu ρ to)) : zymu ρ2 (n :: tn) < zymu ρ (o :: to) := by
  show zymv ρ2 n * 18446744073709551616 ^ tn.length + zymu ρ2 tn < zymv ρ o * 18446744073709551616 ^ to.length + zymu ρ to
  have h1 := zymu_lt ρ2 tn
  rw [hl] at h1 ⊢
  rcases h with h | ⟨h, h2⟩
  · have h2 : (zymv ρ2 n + 1) * 18446744073709551616 ^ to.length ≤ zymv ρ o * 18446744073709551616 ^ to.length := Nat.mul_le_mul_right _ (by omega)
    rw [Nat.add_mul, Nat.one_mul] at h2
    omega
  · rw [h]
    omega
theorem zylex_iff {w : zW} {No nL : Nat} {ls : List Nat} {kc m : List (Nat × Nat)} {ρ0 ρ1 ρ2 : Nat → Int32} {N2 : Nat} {ad : Nat → Nat} (hE : zEnv ρ2 w.2) (hag : ∀ k, k < No → ρ2 k = ρ0 k)
    (hloc : ∀ (an : Nat) (f : Nat → Bool), zyloc nL ls kc m an f = true → (∀ v, f v = true → v % 8 = 1) → ∃ v, f v = true ∧ zyv ρ2 N2 ad v (.int (ρ1 an))) : ∀ {new old : List (Nat × Nat)}, zylex w No nL ls kc m new old = true → new.length = old.length → zymu ρ1 new < zymu ρ0 old := by
  intro new
  induction new with
  | nil => intro old h; cases h
  | cons n tn ih =>
    intro old h hl
    cases old with
    | nil => cases h
    | cons o to =>
      rw [List.length_cons, List.length_cons] at hl
      have hl : tn.length = to.length := by omega
      have h : zif (zand (Nat.beq n.1 0) (Nat.beq o.1 0)) (zif (zand (Nat.ble (n.2 + 1) o.2) (Nat.ble o.2 4294967295)) true (zif (Nat.beq n.2 o.2) (zylex w No nL ls kc m tn to) false))
        (zif (zand (Nat.beq n.1 o.1) (zand (zif (Nat.beq n.1 1) true (Nat.beq n.1 2)) (Nat.ble (o.2 + 1) No))) (zyloc nL ls kc m n.2 (fun v => zif (Nat.beq v (zysym o.2)) (zylex w No nL ls kc m tn to)
          (zand (Nat.beq (v % 8) 1) (zand (Nat.beq (v / 34359738368) o.2) (znth (fun p => zif (Nat.beq n.1 1)
            (zand (Nat.ble 1 (v / 8 % 4294967296)) (zand (Nat.ble (v / 8 % 4294967296) 2147483647) (Nat.ble (p.2 + v / 8 % 4294967296) 4294967295)))
            (zand (Nat.ble 2147483648 (v / 8 % 4294967296)) (Nat.ble 4294967296 (p.1 + v / 8 % 4294967296)))) w.2 o.2))))) false) = true := h
      rcases zif_iff h with ⟨h1, h2⟩ | ⟨-, h2⟩
      · obtain ⟨e1, e2⟩ := zand_iff h1
        have e1 := zbeqT e1
        have e2 := zbeqT e2
        have v1 : zymv ρ1 n = n.2 % 18446744073709551616 := if_pos e1
        have v2 : zymv ρ0 o = o.2 % 18446744073709551616 := if_pos e2
        rcases zif_iff h2 with ⟨h3, -⟩ | ⟨-, h3⟩
        · obtain ⟨g1, g2⟩ := zand_iff h3
          have g1 := zbleT g1
          have g2 := zbleT g2
          exact zymu_lex hl (Or.inl (by rw [v1, v2]; omega))
        rcases zif_iff h3 with ⟨h4, h5⟩ | ⟨-, h5⟩
        · have g1 := zbeqT h4
          exact zymu_lex hl (Or.inr ⟨by rw [v1, v2, g1], ih h5 hl⟩)
        · cases h5
      rcases zif_iff h2 with ⟨h3, h4⟩ | ⟨-, h4⟩
      · obtain ⟨e1, e2⟩ := zand_iff h3
        obtain ⟨e2, e3⟩ := zand_iff e2
        have e1 := zbeqT e1
        have e3 := zbleT e3
        have e2 : n.1 = 1 ∨ n.1 = 2 := by
          rcases zif_iff e2 with ⟨q, -⟩ | ⟨-, q⟩
          · exact Or.inl (zbeqT q)
          · exact Or.inr (zbeqT q)
        obtain ⟨v, hv, hz⟩ := hloc n.2 _ h4 (fun v hv => by
          rcases zif_iff hv with ⟨q, -⟩ | ⟨-, q⟩
          · have := zbeqT q
            rw [zysym_def] at this
            omega
          · exact zbeqT (zand_iff q).1)
        rcases zif_iff hv with ⟨q1, q2⟩ | ⟨-, q2⟩
        · have q1 := zbeqT q1
          have hz1 := Value.int.inj (zv_1 (zyv_zv hz (by rw [q1, zysym_def]; omega) (by rw [q1, zysym_def]; omega)) (by rw [q1, zysym_def]; omega))
          have e5 : v / 34359738368 = o.2 := by rw [q1, zysym_def]; omega
          have e6 : v / 8 % 4294967296 = 0 := by rw [q1, zysym_def]; omega
          rw [e5, e6, hag _ (by omega)] at hz1
          have hz2 : ρ1 n.2 = ρ0 o.2 := by
            rw [hz1]
            show ρ0 o.2 + 0 = _
            rw [Int32.add_zero]
          refine zymu_lex hl (Or.inr ⟨?_, ih q2 hl⟩)
          unfold zymv
          rw [hz2, e1]
          by_cases e9 : o.1 = 0
          · omega
          · rw [if_neg e9, if_neg e9]
        · obtain ⟨g1, g2⟩ := zand_iff q2
          obtain ⟨g2, g3⟩ := zand_iff g2
          have g1 := zbeqT g1
          have g2 := zbeqT g2
          obtain ⟨pp, hp, g3⟩ := znth_iff g3
          have hz1 := Value.int.inj (zv_1 (zyv_zv hz (by omega) (by omega)) g1)
          rw [g2] at hz1
          have hag2 := hag o.2 (by omega)
          obtain ⟨b1, b2⟩ := hE _ _ hp
          have hb := zb_def (v / 8 % 4294967296)
          refine zymu_lex hl (Or.inl ?_)
          rcases zif_iff g3 with ⟨q3, q4⟩ | ⟨q3, q4⟩
          · have q3 := zbeqT q3
            obtain ⟨k1, k2⟩ := zand_iff q4
            obtain ⟨k3, k2⟩ := zand_iff k2
            have k1 := zbleT k1
            have k3 := zbleT k3
            have k2 := zbleT k2
            have hz3 := zB_add (ρ2 o.2) (v / 8 % 4294967296) (by omega) (by omega)
            rw [← hz1, hag2] at hz3
            rw [hag2] at b2
            have v1 : zymv ρ1 n = 4294967295 - zB (ρ1 n.2) := by unfold zymv; rw [if_neg (by omega), if_pos q3]
            have v2 : zymv ρ0 o = 4294967295 - zB (ρ0 o.2) := by unfold zymv; rw [if_neg (by omega), if_pos (by omega)]
            rw [v1, v2]
            omega
          · have q3 := zbeqF q3
            obtain ⟨k1, k2⟩ := zand_iff q4
            have k1 := zbleT k1
            have k2 := zbleT k2
            have hz3 := zB_add (ρ2 o.2) (v / 8 % 4294967296) (by omega) (by have := zB_lt (ρ2 o.2); omega)
            rw [← hz1, hag2] at hz3
            rw [hag2] at b1
            have v1 : zymv ρ1 n = zB (ρ1 n.2) := by unfold zymv; rw [if_neg (by omega), if_neg q3]
            have v2 : zymv ρ0 o = zB (ρ0 o.2) := by unfold zymv; rw [if_neg (by omega), if_neg (by omega)]
            rw [v1, v2]
            have := zB_lt (ρ0 o.2)
            omega
      · cases h4
theorem zystop_iff {P : zyP} {nL : Nat} {K : List zyKt} {κ0 : zyKt} {w : zW} {cf : Nat → zT} {y : zY} {pc : Nat} {ls st : List Nat} {q : zQ} {m : zyM} (h : zystop P nL K κ0 w cf y pc ls st q [] m = true) : st = [] ∧ ∃ κ ∈ K, pc = κ.1 ∧ zyincl P nL w ls m.1 κ = true ∧ zylex w κ0.2.1 nL ls κ.2.2.2.2.1 m.1 κ.2.2.2.2.2 κ0.2.2.2.2.2 = true := by
  cases st with
  | cons a t => cases h
  | nil =>
    refine ⟨rfl, ?_⟩
    have key : ∀ (K2 : List zyKt), List.rec (motive := fun _ => Bool) false (fun κ _ ih => zif (Nat.beq pc κ.1) (zif (zand (zyincl P nL w ls m.1 κ) (zylex w κ0.2.1 nL ls κ.2.2.2.2.1 m.1 κ.2.2.2.2.2 κ0.2.2.2.2.2)) true ih) ih) K2 = true → ∃ κ ∈ K2, pc = κ.1 ∧ zyincl P nL w ls m.1 κ = true ∧ zylex w κ0.2.1 nL ls κ.2.2.2.2.1 m.1 κ.2.2.2.2.2 κ0.2.2.2.2.2 = true := by
      intro K2
      induction K2 with
      | nil => intro h; cases h
      | cons κ t ih =>
        intro h
        rcases zif_iff (c := Nat.beq pc κ.1) h with ⟨h1, h2⟩ | ⟨-, h2⟩
        · rcases zif_iff h2 with ⟨h3, -⟩ | ⟨-, h3⟩
          · obtain ⟨g1, g2⟩ := zand_iff h3
            exact ⟨κ, List.mem_cons_self, zbeqT h1, g1, g2⟩
          · obtain ⟨κ2, q1, q2⟩ := ih h3
            exact ⟨κ2, List.mem_cons_of_mem _ q1, q2⟩
        · obtain ⟨κ2, q1, q2⟩ := ih h2
          exact ⟨κ2, List.mem_cons_of_mem _ q1, q2⟩
    exact key K h
theorem zySt_map {X X2 : zyX} (h : ∀ v w, zyV X v w → zyV X2 v w) : ∀ {s : List Nat} {q : List Value}, zySt X s q → zySt X2 s q := by
  intro s
  induction s with
  | nil => intro q h1; rw [zySt_n h1]; trivial
  | cons a s ih =>
    intro q h1
    obtain ⟨b, t, rfl, h2, h3⟩ := zySt_c h1
    exact ⟨h _ _ h2, ih h3⟩
/-- where a measure looks -/
theorem zyloc_iff {P : zyP} {X : zyX} {s : State} {nL : Nat} {d : Nat × Nat × Nat} {w : zW} {ls : List Nat} {q : zQ} {m : zyM} {H : Heap} {locs : List Loc} {lsA : Array Slot} {κ : zyKt} (hR : zyRl P X s nL d w ls [] q m H locs lsA []) (hi : zyincl P nL w ls m.1 κ = true) (an : Nat) (f : Nat → Bool) (h : zyloc nL ls κ.2.2.2.2.1 m.1 an f = true) (hf : ∀ v, f v = true → v % 8 = 1) : ∃ v, f v = true ∧ zyV X v (.int (zyrho P.1 (zyb X) H nL lsA κ.2.2.2.2.1 an)) := by
  obtain ⟨-, h2⟩ := zand_iff hi
  obtain ⟨h2, -⟩ := zand_iff h2
  unfold zyloc at h
  rcases zif_iff h with ⟨h1, h⟩ | ⟨h1, h⟩
  · have h1 : an + 1 ≤ nL := zbleT h1
    obtain ⟨v, q1, q2⟩ := znth_iff h
    have hk := hf v q2
    obtain ⟨x, g1, g2⟩ := hR.2.2.2.1.2.2.2 an v q1 (by omega)
    obtain ⟨n, rfl⟩ := zyv_int g2 (by omega)
    exact ⟨v, q2, by rw [zyrho_l (by omega) g1]; exact g2⟩
  · have h1 : ¬ an + 1 ≤ nL := zbleF h1
    obtain ⟨p, q1, q2⟩ := znth_iff h
    have q1 : κ.2.2.2.2.1[an - nL]? = some p := q1
    rw [zylk_eq] at q2
    cases hq : zyl m.1 p.1 with
    | none => rw [hq] at q2; cases q2
    | some v =>
      rw [hq] at q2
      have hk := hf v q2
      obtain ⟨c, g1, g2, -⟩ := zyinC_iff h2 (an - nL) p q1
      obtain ⟨x, g3, g4⟩ := hR.2.1.2.1 _ c _ g1 g2
      unfold zyEt at g4
      have e1 : p.1 / 16384 * 16384 + p.1 % 16384 = p.1 := by omega
      rw [e1, hq] at g4
      obtain ⟨n, rfl⟩ := zyv_int g4 (by omega)
      have e2 := zyrho_c (nL := nL) (lsA := lsA) q1 g3
      rw [show nL + (an - nL) = an by omega] at e2
      exact ⟨v, q2, by rw [e2]; exact g4⟩
/-- a method's contract out of its cuts -/
theorem zycutT {l : Launch} {P : zyP} {J : zyJt} {y0 : Nat} {en : zEn} {me : zMe} (hOK : zOK y0 en me) (hCon : zyCons l P J) (hJd : zyJp P.2.2.2.1 J) {ct : zyCt} (hfp : P.2.2.1 = ct.2.1) (hc0 : en.2.2.2.2.2.1 = 0) (hs0 : en.2.2.2.2.2.2.1 = 0) {K : List zyKt} {κ0 : zyKt} {Lm n : Nat} (hκ0 : κ0 ∈ K) (hpc0 : κ0.1 = 0) (hwf : ∀ κ ∈ K, zywf en.2.2.1 κ = true ∧ κ.2.2.2.2.2.length = Lm)
    (hrun : ∀ κ ∈ K, zyok (zybt P ct) P (zystop P en.2.2.1 K κ) n (κ.2.1, κ.2.2.2.1) en.1 en.2.2.2.2 κ.1 κ.2.2.1 [] (ct.2.2.2.1, 0, 0) [] (κ.2.2.2.2.1, []) = true) (hentry : zpad en.2.2.1 (zexp ct.1) (fun l2 => zyincl P en.2.2.1 (0, []) l2 ct.2.2.2.2.1 κ0) = true) : zyCon l P.1 J en me ct := by
  intro B AsV hA
  have hOK' := hOK
  obtain ⟨hrow, hnum, hrk, hcn, hcls, hml40, hpl, g, hin, hg1, hgw⟩ := hOK
  refine zMet_ofW hpl ?_
  intro p e s mt args below meth c s₁ Bd hml hv
  obtain ⟨rfl, hK, hI, hPk⟩ := hv
  have hown : s.vm.findClass me.2.2.2 = some mt.cls := by rw [← hcls]; exact findClass_of_methodNamed Bd.named
  obtain ⟨l2, hl2, hle, hl3, hinc⟩ := zpad_iff hentry
  have hlen := zyexp_len hA
  have hent := lv_entry AsV (n := en.2.2.1) (by rw [hlen]; exact hle)
  rw [lg_entry_eq]
  generalize (lg_sl AsV ++ List.replicate (en.2.2.1 - (lg_sl AsV).length) Slot.unset).toArray = lsA at hent ⊢
  have hlocks := Bd.notSynchronized
  have claim : ∀ (M : Nat) (κ : zyKt) (H : Heap) (locs : List Loc) (lsA : Array Slot) (ρ : Nat → Int32), κ ∈ K → zyRl P (B, ρ, κ.2.1, ρ, κ.2.1, (zyEl P.1 B s.heap, fun q => s.heap[q]?), J) s en.2.2.1 (ct.2.2.2.1, en.2.2.2.2.2.1, en.2.2.2.2.2.2.1) (κ.2.1, κ.2.2.2.1) κ.2.2.1 [] (ct.2.2.2.1, 0, 0) (κ.2.2.2.2.1, []) H locs lsA [] → zymu ρ κ.2.2.2.2.2 = M →
      W p l e { frames := ct.2.2.2.1, cells := en.2.2.2.2.2.1, slots := en.2.2.2.2.2.2.1, locals := 64 * ct.2.2.2.1 } s mt AsV.toArray below meth c H locs 0 0 (MQ below (zyQk P.1 B J ct) AsV.toArray s en.2.2.2.2.2.1 en.2.2.2.2.2.2.1 (fun q => zbs B ≤ q)) (F0 mt κ.1 lsA []) := by
    intro M
    induction M using Nat.strongRecOn with
    | ind M IH =>
      intro κ H locs lsA ρ hκ hR hM
      refine zymain (l := l) (bt := zybt P ct) (stop := zystop P en.2.2.1 K κ) (fun _ _ _ _ _ _ _ _ _ _ => rfl) n (B, ρ, κ.2.1, ρ, κ.2.1, (zyEl P.1 B s.heap, fun q => s.heap[q]?), J) y0 en me hCon hOK' (κ.2.1, κ.2.2.2.1) κ.1 κ.2.2.1 [] (ct.2.2.2.1, 0, 0) [] (κ.2.2.2.2.1, []) (hrun κ hκ) p e { frames := ct.2.2.2.1, cells := en.2.2.2.2.2.1, slots := en.2.2.2.2.2.2.1, locals := 64 * ct.2.2.2.1 } s mt AsV.toArray below meth c _ H locs lsA [] ⟨Bd.exec, Bd.bytes, hml, hown, ⟨hK, hJd⟩, Nat.le_refl _, Nat.le_refl _, Nat.le_refl _, Nat.le_refl _⟩ hR ?_ ?_
      · intro n' ρ2 w2 v m2 H2 locs2 lsB pc vo cells slots hn' hbk hX hM2 hlo hc hs hvo hri
        have hbk : zand (zyfitM w2 P.1 m2.1) (zand (zysubL w2 v ct.2.2.1) (zypre w2 P.1 m2.1 ct.2.2.2.2.2)) = true := hbk
        obtain ⟨b1, b2⟩ := zand_iff hbk
        obtain ⟨b2, b3⟩ := zand_iff b2
        have hq : ∀ t : State, t.heap = H2 → s.WarmedH t.vm → zyQk P.1 B J ct AsV.toArray s (.returned vo) t := by
          intro t ht hW
          refine ⟨vo, rfl, ?_, hK.warm hW, ?_, by rw [ht]; exact zypre_iff hM2 hX.1 b3, fun a k hf => ?_, fun q hq => by rw [ht]; exact hM2.2.2.2.2.2 q hq⟩
          · refine zyvr_of ?_
            match v, vo, hvo with
            | [], none, _ =>
              match hr : ct.2.2.1, b2 with
              | [], _ => trivial
              | cd :: tt, b2 => cases b2
            | [a], some x, hz =>
              match hr : ct.2.2.1, b2 with
              | [], b2 => cases b2
              | [cd], b2 =>
                have b2 : zand (zysub w2 a cd) true = true := b2
                exact (zysub_iff (zand_iff b2).1 hX.1 hz).2
              | cd :: cd2 :: tt, b2 =>
                have b2 : zand (zysub w2 a cd) false = true := b2
                cases (zand_iff b2).2
          · rw [ht]
            exact (hM2.base (w := w2) hX.1 b1).moved hW.alike
          · rw [ht]
            exact hM2.2.2.1 a k (by rw [hfp]; exact hf)
        refine W.widen hc hs ?_
        rcases hri with ⟨hd, x, ty, rfl, hty, hnar⟩ | ⟨hd, x, rfl, hty⟩ | ⟨hd, rfl, hty⟩
        · exact W.zret Bd.exec Bd.bytes (by rw [Bd.returns]; exact hty) hnar hq hlo hd hlocks
        · exact W.lret Bd.exec Bd.bytes (by rw [Bd.returns]; exact hty) hq hlo hd hlocks
        · exact W.vret Bd.exec Bd.bytes (by rw [Bd.returns]; exact hty) hq hlo hd hlocks
      · intro ρ2 N2 w2 pc ls st q m2 H2 locs2 lsB stA hs hR2
        obtain ⟨est, κ2, hκ2, hpc, hi2, hlx⟩ := zystop_iff hs
        subst est
        have eA := zySt_n hR2.2.2.2.2.1
        subst eA
        have hq1 : q.1 = ct.2.2.2.1 := hR2.2.2.2.2.2.1
        have hq2 : q.2.1 ≤ en.2.2.2.2.2.1 := hR2.2.2.2.2.2.2.1
        have hq3 : q.2.2 ≤ en.2.2.2.2.2.2.1 := hR2.2.2.2.2.2.2.2
        obtain ⟨q1, q2, q3⟩ := q
        dsimp only at hq1 hq2 hq3
        have eq2 : q2 = 0 := by omega
        have eq3 : q3 = 0 := by omega
        subst hq1
        subst eq2
        subst eq3
        rw [hpc]
        have hRk := zycutR hR2 hi2 (hwf κ2 hκ2).1
        refine IH _ ?_ κ2 H2 locs2 lsB _ hκ2 hRk rfl
        rw [← hM]
        refine zylex_iff hR2.1.1 (fun k hk => hR2.1.2.2.1.2 k hk) (fun an f h1 h2 => zyloc_iff hR2 hi2 an f h1 h2) hlx ?_
        rw [(hwf κ2 hκ2).2, (hwf κ hκ).2]
  have hA2 : zySt (B, fun _ => 0, 0, fun _ => 0, 0, (zyEl P.1 B s.heap, fun q => s.heap[q]?), J) ct.1 AsV := zySt_map (X := zyX0 B J) (X2 := (B, fun _ => 0, 0, fun _ => 0, 0, (zyEl P.1 B s.heap, fun q => s.heap[q]?), J)) (fun v w h => h) hA
  have hR0 : zyRl P (B, fun _ => 0, 0, fun _ => 0, 0, (zyEl P.1 B s.heap, fun q => s.heap[q]?), J) s en.2.2.1 (ct.2.2.2.1, en.2.2.2.2.2.1, en.2.2.2.2.2.2.1) (0, []) l2 [] (ct.2.2.2.1, 0, 0) (ct.2.2.2.2.1, []) s.heap [] lsA [] := by
    refine ⟨⟨fun k p hp => by simp at hp, rfl, ⟨Nat.le_refl _, fun _ _ => rfl⟩, fun f hf => by cases hf⟩, ⟨hI.1, fun a c k hg hk => ?_, fun a k _ => rfl, hI.2.2.1, hI.2.2.2, fun q _ => rfl⟩, (fun x hx => by cases hx), ⟨hl2, hent.1, hent.2.1, fun i cc hc hn => ?_⟩, trivial, rfl, Nat.zero_le _, Nat.zero_le _⟩
    · obtain ⟨x, h1, h2⟩ := hI.2.1 a c k hg hk
      refine ⟨x, h1, ?_⟩
      have hl : zyLen c ≤ 16384 := by
        unfold zyLen
        rcases (hI.1 a c hg).2 with ⟨q1, -⟩ | ⟨ty, cA, f, q1, -, -, q4⟩
        · rw [if_pos q1]
          have := zyn64 c.1 q1
          omega
        · rw [if_neg (by have := zty_kd q1; omega)]
          exact q4
      unfold zyEt
      dsimp only
      cases hq : zyl ct.2.2.2.2.1 (a * 16384 + k) with
      | none => exact h2
      | some v =>
        obtain ⟨j, hj⟩ := zyl_ix hq
        obtain ⟨c2, x2, q1, q2, q3, q4, q5⟩ := hPk _ (List.mem_of_getElem? hj)
        dsimp only at q1 q2 q3 q4 q5
        rw [show (a * 16384 + k) / 16384 = a by omega, show (a * 16384 + k) % 16384 = k by omega, h1] at q3
        cases q3
        exact q5
    · rcases hl3 i cc hc with h1 | h1
      · obtain ⟨v, h2, h3⟩ := zyexp_args (o := 0) hA2 i cc h1 hn
        rw [Nat.zero_add] at h2
        exact ⟨v, hent.2.2 _ h2, h3⟩
      · exact absurd h1 hn
  have hRk := zycutR hR0 hinc (hwf κ0 hκ0).1
  have hfin := claim _ κ0 s.heap [] lsA _ hκ0 hRk rfl
  rw [hpc0] at hfin
  exact hfin
end
section
/-! THE TABLE OF CONTRACTS: each one with its cuts, the length of its measures, how wide a symbol may be to be split, and the numbers of those that it stands on -/
abbrev zyIn : Type := Nat × zyCt × List zyKt × Nat × Nat × List Nat
noncomputable def zynd {α : Type} (d : α) (l : List α) : Nat → α := List.rec (motive := fun _ => Nat → α) (fun _ => d) (fun a _ ih n => Nat.rec (motive := fun _ => α) a (fun i _ => ih i) n) l
noncomputable def zyIg (IT : List (List (List zyIn))) (i : Nat) : zyIn := zynd (0, ([], [], [], 0, [], []), [], 0, 0, []) (zynd [] (zynd [] IT (Nat.div i 64)) (Nat.mod (Nat.div i 8) 8)) (Nat.mod i 8)
noncomputable def zydeps (IT : List (List (List zyIn))) (deps : List Nat) (y2 : Nat) : List zyCt := List.rec (motive := fun _ => List zyCt) [] (fun d _ ih => zif (Nat.beq (zyIg IT d).1 y2) ((zyIg IT d).2.1 :: ih) ih) deps
noncomputable def zylow (i : Nat) (deps : List Nat) : Bool := List.rec (motive := fun _ => Bool) true (fun d _ ih => zand (Nat.ble (Nat.succ d) i) ih) deps
noncomputable def zywfs (nL Lm : Nat) (K : List zyKt) : Bool := List.rec (motive := fun _ => Bool) true (fun κ _ ih => zand (zywf nL κ) (zand (Nat.beq (zyln κ.2.2.2.2.2) Lm) ih)) K
noncomputable def zyruns (P : zyP) (ct : zyCt) (en : zEn) (K0 : List zyKt) (K : List zyKt) : Bool := List.rec (motive := fun _ => Bool) true (fun κ _ ih => zand (zyok (zybt P ct) P (zystop P en.2.2.1 K0 κ) 200000 (κ.2.1, κ.2.2.2.1) en.1 en.2.2.2.2 κ.1 κ.2.2.1 [] (ct.2.2.2.1, 0, 0) [] (κ.2.2.2.2.1, [])) ih) K
noncomputable def zyent (P : zyP) (ct : zyCt) (en : zEn) (K : List zyKt) : Bool := List.rec (motive := fun _ => Bool) false (fun κ _ _ => zand (Nat.beq κ.1 0) (zpad en.2.2.1 (zexp ct.1) (fun l2 => zyincl P en.2.2.1 (0, []) l2 ct.2.2.2.2.1 κ))) K
noncomputable def zychk (mi : zyB) (dj : zyR) (IT : List (List (List zyIn))) (i : Nat) (I : zyIn) : Bool := Prod.rec (motive := fun _ => Bool) (fun y I2 => Prod.rec (motive := fun _ => Bool) (fun ct I3 => Prod.rec (motive := fun _ => Bool) (fun K I4 => Prod.rec (motive := fun _ => Bool) (fun Lm I5 => Prod.rec (motive := fun _ => Bool) (fun sp deps =>
  zand (zylow i deps) (zget zxMeta y (fun en => zand (Nat.beq en.2.2.2.2.2.1 0) (zand (Nat.beq en.2.2.2.2.2.2.1 0) (zand (zywfs en.2.2.1 Lm K) (zand (zyent (mi, zydeps IT deps, ct.2.1, dj, sp) ct en K) (zyruns (mi, zydeps IT deps, ct.2.1, dj, sp) ct en K K))))))) I5) I4) I3) I2) I
noncomputable def zychks (mi : zyB) (dj : zyR) (IT : List (List (List zyIn))) (a : Nat) (n : Nat) : Bool := Nat.rec (motive := fun _ => Bool) true (fun k ih => zand (zychk mi dj IT (Nat.add a k) (zyIg IT (Nat.add a k))) ih) n
/-- the i-th contract holds -/
def zyCo (l : Launch) (mi : zyB) (J : zyJt) (IT : List (List (List zyIn))) (i : Nat) : Prop := ∀ en me, zG zxMeta (zyIg IT i).1 = some en → zG zMeth (zyIg IT i).1 = some me → zyCon l mi J en me (zyIg IT i).2.1
theorem zydeps_iff {IT : List (List (List zyIn))} {y2 : Nat} {ct : zyCt} : ∀ {deps : List Nat}, ct ∈ zydeps IT deps y2 → ∃ d ∈ deps, (zyIg IT d).1 = y2 ∧ (zyIg IT d).2.1 = ct := by
  intro deps
  induction deps with
  | nil => intro h; cases h
  | cons d t ih =>
    intro h
    have e : zydeps IT (d :: t) y2 = zif (Nat.beq (zyIg IT d).1 y2) ((zyIg IT d).2.1 :: zydeps IT t y2) (zydeps IT t y2) := rfl
    rw [e] at h
    cases hb : Nat.beq (zyIg IT d).1 y2 with
    | true =>
      rw [hb] at h
      rcases List.mem_cons.mp h with q | q
      · exact ⟨d, List.mem_cons_self, zbeqT hb, q.symm⟩
      · obtain ⟨d2, q1, q2⟩ := ih q
        exact ⟨d2, List.mem_cons_of_mem _ q1, q2⟩
    | false =>
      rw [hb] at h
      obtain ⟨d2, q1, q2⟩ := ih h
      exact ⟨d2, List.mem_cons_of_mem _ q1, q2⟩
theorem zylow_iff' {i : Nat} : ∀ {deps : List Nat}, zylow i deps = true → ∀ d ∈ deps, d < i := by
  intro deps
  induction deps with
  | nil => intro _ d h; cases h
  | cons d t ih =>
    intro h d2 hd
    have h : zand (Nat.ble (d + 1) i) (zylow i t) = true := h
    obtain ⟨g1, g2⟩ := zand_iff h
    have g1 := zbleT g1
    rcases List.mem_cons.mp hd with q | q
    · omega
    · exact ih g2 d2 q
theorem zywfs_iff {nL Lm : Nat} : ∀ {K : List zyKt}, zywfs nL Lm K = true → ∀ κ ∈ K, zywf nL κ = true ∧ κ.2.2.2.2.2.length = Lm := by
  intro K
  induction K with
  | nil => intro _ κ h; cases h
  | cons k t ih =>
    intro h κ hk
    have h : zand (zywf nL k) (zand (Nat.beq (zyln k.2.2.2.2.2) Lm) (zywfs nL Lm t)) = true := h
    obtain ⟨g1, g2⟩ := zand_iff h
    obtain ⟨g2, g3⟩ := zand_iff g2
    have g2 := zbeqT g2
    rw [zyln_eq] at g2
    rcases List.mem_cons.mp hk with q | q
    · rw [q]
      exact ⟨g1, g2⟩
    · exact ih g3 κ q
theorem zyruns_iff {P : zyP} {ct : zyCt} {en : zEn} {K0 : List zyKt} : ∀ {K : List zyKt}, zyruns P ct en K0 K = true → ∀ κ ∈ K, zyok (zybt P ct) P (zystop P en.2.2.1 K0 κ) 200000 (κ.2.1, κ.2.2.2.1) en.1 en.2.2.2.2 κ.1 κ.2.2.1 [] (ct.2.2.2.1, 0, 0) [] (κ.2.2.2.2.1, []) = true := by
  intro K
  induction K with
  | nil => intro _ κ h; cases h
  | cons k t ih =>
    intro h κ hk
    have h : zand (zyok (zybt P ct) P (zystop P en.2.2.1 K0 k) 200000 (k.2.1, k.2.2.2.1) en.1 en.2.2.2.2 k.1 k.2.2.1 [] (ct.2.2.2.1, 0, 0) [] (k.2.2.2.2.1, [])) (zyruns P ct en K0 t) = true := h
    obtain ⟨g1, g2⟩ := zand_iff h
    rcases List.mem_cons.mp hk with q | q
    · rw [q]
      exact g1
    · exact ih g2 κ q
theorem zychk_ok {l : Launch} {J : zyJt} {mi : zyB} {dj : zyR} {IT : List (List (List zyIn))} {i : Nat} (h : zychk mi dj IT i (zyIg IT i) = true) (hJd : zyJp dj J) (hd : ∀ d, d < i → zyCo l mi J IT d) : zyCo l mi J IT i := by
  unfold zyCo
  revert h
  generalize zyIg IT i = I
  obtain ⟨y, ct, K, Lm, sp, deps⟩ := I
  intro h en me hen hme
  have h : zand (zylow i deps) (zget zxMeta y (fun en => zand (Nat.beq en.2.2.2.2.2.1 0) (zand (Nat.beq en.2.2.2.2.2.2.1 0) (zand (zywfs en.2.2.1 Lm K) (zand (zyent (mi, zydeps IT deps, ct.2.1, dj, sp) ct en K) (zyruns (mi, zydeps IT deps, ct.2.1, dj, sp) ct en K K)))))) = true := h
  obtain ⟨h1, h2⟩ := zand_iff h
  obtain ⟨en1, hen1, h2⟩ := zget_iff h2
  dsimp only at hen hme ⊢
  rw [hen] at hen1
  cases hen1
  obtain ⟨k2, h3⟩ := zand_iff h2
  obtain ⟨k3, h4⟩ := zand_iff h3
  obtain ⟨k4, h5⟩ := zand_iff h4
  obtain ⟨k5, k6⟩ := zand_iff h5
  obtain ⟨me1, hme1, hOK⟩ := zall hen
  rw [hme] at hme1
  cases hme1
  cases K with
  | nil => cases k5
  | cons κ t =>
    have h5 : zand (Nat.beq κ.1 0) (zpad en.2.2.1 (zexp ct.1) (fun l2 => zyincl (mi, zydeps IT deps, ct.2.1, dj, sp) en.2.2.1 (0, []) l2 ct.2.2.2.2.1 κ)) = true := k5
    obtain ⟨k7, k8⟩ := zand_iff h5
    refine zycutT (P := (mi, zydeps IT deps, ct.2.1, dj, sp)) (J := J) hOK ?_ hJd (ct := ct) rfl (zbeqT k2) (zbeqT k3) (K := κ :: t) (κ0 := κ) (Lm := Lm) (n := 200000) List.mem_cons_self (zbeqT k7) (zywfs_iff k4) (zyruns_iff k6) k8
    intro y2 ct2 en2 me2 hct hen2 hme2
    obtain ⟨d, hdm, e1, e2⟩ := zydeps_iff hct
    have hco := hd d (zylow_iff' h1 d hdm)
    unfold zyCo at hco
    rw [e1, e2] at hco
    exact hco en2 me2 hen2 hme2
theorem zychks_iff {mi : zyB} {dj : zyR} {IT : List (List (List zyIn))} {a : Nat} : ∀ {n : Nat}, zychks mi dj IT a n = true → ∀ i, a ≤ i → i < a + n → zychk mi dj IT i (zyIg IT i) = true := by
  intro n
  induction n with
  | zero => intro _ i h1 h2; omega
  | succ n ih =>
    intro h i h1 h2
    have h : zand (zychk mi dj IT (a + n) (zyIg IT (a + n))) (zychks mi dj IT a n) = true := h
    obtain ⟨g1, g2⟩ := zand_iff h
    by_cases e : i = a + n
    · rw [e]
      exact g1
    · exact ih g2 i h1 (by omega)
end
section
/-! CUTS with an invariant and a measure of one's own: for methods of which more is to be said than bounds -/
theorem zycutG {l : Launch} {P : zyP} {J : zyJt} {y0 : Nat} {en : zEn} {me : zMe} (hOK : zOK y0 en me) (hCon : zyCons l P J) (hJd : zyJp P.2.2.2.1 J) {dep : Nat} (hc0 : en.2.2.2.2.2.1 = 0) (hs0 : en.2.2.2.2.2.2.1 = 0) {K : List zyKt} {κ0 : zyKt} {n : Nat} (hκ0 : κ0 ∈ K) (hpc0 : κ0.1 = 0) (hwf : ∀ κ ∈ K, zywf en.2.2.1 κ = true)
    {bt : zyKt → zW → List Nat → zyM → Bool} {stp : zyKt → zyK} (hst : ∀ κ w cf y pc ls st q f fs m, stp κ w cf y pc ls st q (f :: fs) m = false)
    (hrun : ∀ κ ∈ K, zyok (bt κ) P (stp κ) n (κ.2.1, κ.2.2.2.1) en.1 en.2.2.2.2 κ.1 κ.2.2.1 [] (dep, 0, 0) [] (κ.2.2.2.2.1, []) = true)
    {as : List Nat} {B : zCx} {AsV : List Value} {pre : List (Nat × Nat)} (hA : zySt (zyX0 B J) as AsV) (hentry : zpad en.2.2.1 (zexp as) (fun l2 => zyincl P en.2.2.1 (0, []) l2 pre κ0) = true)
    {Qc : Array Value → State → Outcome → State → Prop} (Inv : zyKt → State → (Nat → Int32) → Heap → Prop) (Mu : zyKt → State → (Nat → Int32) → Heap → Nat)
    (hinv0 : ∀ (s : State) (lsA : Array Slot), zKn B s → zyMI P.1 B J s s.heap → zyPk P.1 B pre s.heap → (∀ (i c : Nat) (v : Value), (zexp as)[i]? = some c → ¬ c = 13 → zyV (zyX0 B J) c v → (i, v) ∈ lv_args 0 AsV → lsA[i]? = some (.val v)) → lv_has lsA en.2.2.1 (lv_args 0 AsV) → Inv κ0 s (zyrho P.1 B s.heap en.2.2.1 lsA κ0.2.2.2.2.1) s.heap)
    (hstop : ∀ κ ∈ K, ∀ (p : Program) (e : Env) (s : State) (mt : MethodId) (below : List Frame) (meth : Method) (c : Code) (ρ : Nat → Int32) (H : Heap), zyPk P.1 B pre s.heap → zyCf P (B, ρ, κ.2.1, ρ, κ.2.1, (zyEl P.1 B s.heap, fun q => s.heap[q]?), J) en me dep p { frames := dep, cells := en.2.2.2.2.2.1, slots := en.2.2.2.2.2.2.1, locals := 64 * dep } s mt c → zyMI P.1 B J s s.heap → Inv κ s ρ H →
      (∀ κ2 ∈ K, ∀ (H2 : Heap) (locs2 : List Loc) (lsB : Array Slot) (ρ' : Nat → Int32), Inv κ2 s ρ' H2 → zyRl P (B, ρ', κ2.2.1, ρ', κ2.2.1, (zyEl P.1 B s.heap, fun q => s.heap[q]?), J) s en.2.2.1 (dep, en.2.2.2.2.2.1, en.2.2.2.2.2.2.1) (κ2.2.1, κ2.2.2.2.1) κ2.2.2.1 [] (dep, 0, 0) (κ2.2.2.2.2.1, []) H2 locs2 lsB [] → Mu κ2 s ρ' H2 < Mu κ s ρ H → W p l e { frames := dep, cells := en.2.2.2.2.2.1, slots := en.2.2.2.2.2.2.1, locals := 64 * dep } s mt AsV.toArray below meth c H2 locs2 0 0 (MQ below Qc AsV.toArray s en.2.2.2.2.2.1 en.2.2.2.2.2.2.1 (fun q => zbs B ≤ q)) (F0 mt κ2.1 lsB [])) →
      ∀ (ρ2 : Nat → Int32) (N2 : Nat) (w : zW) (pc : Nat) (ls st : List Nat) (q : zQ) (m : zyM) (H2 : Heap) (locs2 : List Loc) (lsB : Array Slot) (stA : List Value), stp κ w en.1 en.2.2.2.2 pc ls st q [] m = true → (∀ k, k < κ.2.1 → ρ2 k = ρ k) → zyRl P (B, ρ2, N2, ρ, κ.2.1, (zyEl P.1 B s.heap, fun q => s.heap[q]?), J) s en.2.2.1 (dep, en.2.2.2.2.2.1, en.2.2.2.2.2.2.1) w ls st q m H2 locs2 lsB stA →
      W p l e { frames := dep, cells := en.2.2.2.2.2.1, slots := en.2.2.2.2.2.2.1, locals := 64 * dep } s mt AsV.toArray below meth c H2 locs2 q.2.1 q.2.2 (MQ below Qc AsV.toArray s en.2.2.2.2.2.1 en.2.2.2.2.2.2.1 (fun q => zbs B ≤ q)) (F0 mt pc lsB stA))
    (hret : ∀ κ ∈ K, ∀ (s : State) (ρ : Nat → Int32) (H : Heap), zyPk P.1 B pre s.heap → zKn B s → zyMI P.1 B J s s.heap → Inv κ s ρ H → ∀ (ρ2 : Nat → Int32) (w : zW) (v : List Nat) (m : zyM) (H2 : Heap) (vo : Option Value), bt κ w v m = true → (κ.2.1 ≤ w.1 ∧ ∀ k, k < κ.2.1 → ρ2 k = ρ k) → zEnv ρ2 w.2 → (∀ f ∈ m.2, zyFm (B, ρ2, w.1, ρ, κ.2.1, (zyEl P.1 B s.heap, fun q => s.heap[q]?), J) f) → zyMem P (B, ρ2, w.1, ρ, κ.2.1, (zyEl P.1 B s.heap, fun q => s.heap[q]?), J) s m.1 H2 → zyvo (B, ρ2, w.1, ρ, κ.2.1, (zyEl P.1 B s.heap, fun q => s.heap[q]?), J) v vo → ∀ t : State, t.heap = H2 → s.WarmedH t.vm → Qc AsV.toArray s (.returned vo) t) :
    Met l me.1 [Cond.code me.1 me.2.1 en.2.2.1 me.2.2.1] { frames := dep, cells := en.2.2.2.2.2.1, slots := en.2.2.2.2.2.2.1, locals := 64 * dep } (va_Pc AsV (fun U => zKn B U ∧ zyMI P.1 B J U U.heap ∧ zyPk P.1 B pre U.heap)) Qc en.2.2.2.2.2.1 en.2.2.2.2.2.2.1 (fun q => zbs B ≤ q) := by
  have hOK' := hOK
  obtain ⟨hrow, hnum, hrk, hcn, hcls, hml40, hpl, g, hin, hg1, hgw⟩ := hOK
  refine zMet_ofW hpl ?_
  intro p e s mt args below meth c s₁ Bd hml hv
  obtain ⟨rfl, hK, hI, hPre⟩ := hv
  have hown : s.vm.findClass me.2.2.2 = some mt.cls := by rw [← hcls]; exact findClass_of_methodNamed Bd.named
  obtain ⟨l2, hl2, hle, hl3, hinc⟩ := zpad_iff hentry
  have hlen := zyexp_len hA
  have hent := lv_entry AsV (n := en.2.2.1) (by rw [hlen]; exact hle)
  rw [lg_entry_eq]
  generalize (lg_sl AsV ++ List.replicate (en.2.2.1 - (lg_sl AsV).length) Slot.unset).toArray = lsA at hent ⊢
  have hlocks := Bd.notSynchronized
  have claim : ∀ (M : Nat) (κ : zyKt) (H : Heap) (locs : List Loc) (lsA : Array Slot) (ρ : Nat → Int32), κ ∈ K → Inv κ s ρ H → zyRl P (B, ρ, κ.2.1, ρ, κ.2.1, (zyEl P.1 B s.heap, fun q => s.heap[q]?), J) s en.2.2.1 (dep, en.2.2.2.2.2.1, en.2.2.2.2.2.2.1) (κ.2.1, κ.2.2.2.1) κ.2.2.1 [] (dep, 0, 0) (κ.2.2.2.2.1, []) H locs lsA [] → Mu κ s ρ H = M →
      W p l e { frames := dep, cells := en.2.2.2.2.2.1, slots := en.2.2.2.2.2.2.1, locals := 64 * dep } s mt AsV.toArray below meth c H locs 0 0 (MQ below Qc AsV.toArray s en.2.2.2.2.2.1 en.2.2.2.2.2.2.1 (fun q => zbs B ≤ q)) (F0 mt κ.1 lsA []) := by
    intro M
    induction M using Nat.strongRecOn with
    | ind M IH =>
      intro κ H locs lsA ρ hκ hInv hR hM
      refine zymain (l := l) (bt := bt κ) (stop := stp κ) (hst κ) n (B, ρ, κ.2.1, ρ, κ.2.1, (zyEl P.1 B s.heap, fun q => s.heap[q]?), J) y0 en me hCon hOK' (κ.2.1, κ.2.2.2.1) κ.1 κ.2.2.1 [] (dep, 0, 0) [] (κ.2.2.2.2.1, []) (hrun κ hκ) p e { frames := dep, cells := en.2.2.2.2.2.1, slots := en.2.2.2.2.2.2.1, locals := 64 * dep } s mt AsV.toArray below meth c _ H locs lsA [] ⟨Bd.exec, Bd.bytes, hml, hown, ⟨hK, hJd⟩, Nat.le_refl _, Nat.le_refl _, Nat.le_refl _, Nat.le_refl _⟩ hR ?_ ?_
      · intro n' ρ2 w2 v m2 H2 locs2 lsB pc vo cells slots hn' hbk hX hM2 hlo hc hs hvo hri
        have hbk : bt κ w2 v m2 = true := hbk
        have hq : ∀ t : State, t.heap = H2 → s.WarmedH t.vm → Qc AsV.toArray s (.returned vo) t := hret κ hκ s ρ H hPre hK hI hInv ρ2 w2 v m2 H2 vo hbk hX.2.1 hX.1 hX.2.2 hM2 hvo
        refine W.widen hc hs ?_
        rcases hri with ⟨hd, x, ty, rfl, hty, hnar⟩ | ⟨hd, x, rfl, hty⟩ | ⟨hd, rfl, hty⟩
        · exact W.zret Bd.exec Bd.bytes (by rw [Bd.returns]; exact hty) hnar hq hlo hd hlocks
        · exact W.lret Bd.exec Bd.bytes (by rw [Bd.returns]; exact hty) hq hlo hd hlocks
        · exact W.vret Bd.exec Bd.bytes (by rw [Bd.returns]; exact hty) hq hlo hd hlocks
      · intro ρ2 N2 w2 pc ls st q m2 H2 locs2 lsB stA hs hR2
        refine hstop κ hκ p e s mt below meth c ρ H hPre ⟨Bd.exec, Bd.bytes, hml, hown, ⟨hK, hJd⟩, Nat.le_refl _, Nat.le_refl _, Nat.le_refl _, Nat.le_refl _⟩ hI hInv (fun κ2 hκ2 H3 locs3 lsC ρ' hInv2 hRk hmu => ?_) ρ2 N2 w2 pc ls st q m2 H2 locs2 lsB stA hs hR2.1.2.2.1.2 hR2
        exact IH (Mu κ2 s ρ' H3) (by rw [← hM]; exact hmu) κ2 H3 locs3 lsC ρ' hκ2 hInv2 hRk rfl
  have hA2 : zySt (B, fun _ => 0, 0, fun _ => 0, 0, (zyEl P.1 B s.heap, fun q => s.heap[q]?), J) as AsV := zySt_map (X := zyX0 B J) (X2 := (B, fun _ => 0, 0, fun _ => 0, 0, (zyEl P.1 B s.heap, fun q => s.heap[q]?), J)) (fun v w h => h) hA
  have hR0 : zyRl P (B, fun _ => 0, 0, fun _ => 0, 0, (zyEl P.1 B s.heap, fun q => s.heap[q]?), J) s en.2.2.1 (dep, en.2.2.2.2.2.1, en.2.2.2.2.2.2.1) (0, []) l2 [] (dep, 0, 0) (pre, []) s.heap [] lsA [] := by
    refine ⟨⟨fun k p hp => by simp at hp, rfl, ⟨Nat.le_refl _, fun _ _ => rfl⟩, fun f hf => by cases hf⟩, ⟨hI.1, fun a c k hg hk => ?_, fun a k _ => rfl, hI.2.2.1, hI.2.2.2, fun q _ => rfl⟩, (fun x hx => by cases hx), ⟨hl2, hent.1, hent.2.1, fun i cc hc hn => ?_⟩, trivial, rfl, Nat.zero_le _, Nat.zero_le _⟩
    · obtain ⟨x, h1, h2⟩ := hI.2.1 a c k hg hk
      refine ⟨x, h1, ?_⟩
      have hl : zyLen c ≤ 16384 := by
        unfold zyLen
        rcases (hI.1 a c hg).2 with ⟨q1, -⟩ | ⟨ty, cA, f, q1, -, -, q4⟩
        · rw [if_pos q1]
          have := zyn64 c.1 q1
          omega
        · rw [if_neg (by have := zty_kd q1; omega)]
          exact q4
      unfold zyEt
      dsimp only
      cases hq : zyl pre (a * 16384 + k) with
      | none => exact h2
      | some v =>
        obtain ⟨j, hj⟩ := zyl_ix hq
        obtain ⟨c2, x2, q1, q2, q3, q4, q5⟩ := hPre _ (List.mem_of_getElem? hj)
        dsimp only at q1 q2 q3 q4 q5
        rw [show (a * 16384 + k) / 16384 = a by omega, show (a * 16384 + k) % 16384 = k by omega, h1] at q3
        cases q3
        exact q5
    · rcases hl3 i cc hc with h1 | h1
      · obtain ⟨v, h2, h3⟩ := zyexp_args (o := 0) hA2 i cc h1 hn
        rw [Nat.zero_add] at h2
        exact ⟨v, hent.2.2 _ h2, h3⟩
      · exact absurd h1 hn
  have hRk := zycutR hR0 hinc (hwf κ0 hκ0)
  have hfin := claim (Mu κ0 s (zyrho P.1 B s.heap en.2.2.1 lsA κ0.2.2.2.2.1) s.heap) κ0 s.heap [] lsA (zyrho P.1 B s.heap en.2.2.1 lsA κ0.2.2.2.2.1) hκ0 (hinv0 s lsA hK hI hPre (fun i c v _ _ _ hm => hent.2.2 (i, v) hm) hent) hRk rfl
  rw [hpc0] at hfin
  exact hfin
theorem zycutF {l : Launch} {P : zyP} {J : zyJt} {y0 : Nat} {en : zEn} {me : zMe} (hOK : zOK y0 en me) (hCon : zyCons l P J) (hJd : zyJp P.2.2.2.1 J) {dep : Nat} (hc0 : en.2.2.2.2.2.1 = 0) (hs0 : en.2.2.2.2.2.2.1 = 0) {K : List zyKt} {κ0 : zyKt} {n : Nat} (hκ0 : κ0 ∈ K) (hpc0 : κ0.1 = 0) (hwf : ∀ κ ∈ K, zywf en.2.2.1 κ = true)
    {bt : zyKt → zW → List Nat → zyM → Bool} {stp : zyKt → zyK} (hst : ∀ κ w cf y pc ls st q f fs m, stp κ w cf y pc ls st q (f :: fs) m = false)
    (hrun : ∀ κ ∈ K, zyok (bt κ) P (stp κ) n (κ.2.1, κ.2.2.2.1) en.1 en.2.2.2.2 κ.1 κ.2.2.1 [] (dep, 0, 0) [] (κ.2.2.2.2.1, []) = true)
    {as : List Nat} {B : zCx} {AsV : List Value} {pre : List (Nat × Nat)} (hA : zySt (zyX0 B J) as AsV) (hentry : zpad en.2.2.1 (zexp as) (fun l2 => zyincl P en.2.2.1 (0, []) l2 pre κ0) = true)
    {Qc : Array Value → State → Outcome → State → Prop} (Inv : zyKt → State → (Nat → Int32) → Heap → Prop) (Mu : zyKt → State → (Nat → Int32) → Heap → Nat)
    (hinv0 : ∀ (s : State) (lsA : Array Slot), zKn B s → zyMI P.1 B J s s.heap → zyPk P.1 B pre s.heap → (∀ (i c : Nat) (v : Value), (zexp as)[i]? = some c → ¬ c = 13 → zyV (zyX0 B J) c v → (i, v) ∈ lv_args 0 AsV → lsA[i]? = some (.val v)) → lv_has lsA en.2.2.1 (lv_args 0 AsV) → Inv κ0 s (zyrho P.1 B s.heap en.2.2.1 lsA κ0.2.2.2.2.1) s.heap)
    (hstop : ∀ κ ∈ K, ∀ (s : State) (ρ : Nat → Int32) (H : Heap), zyPk P.1 B pre s.heap → zyMI P.1 B J s s.heap → Inv κ s ρ H → ∀ (ρ2 : Nat → Int32) (N2 : Nat) (w : zW) (pc : Nat) (ls st : List Nat) (q : zQ) (m : zyM) (H2 : Heap) (locs2 : List Loc) (lsB : Array Slot) (stA : List Value), stp κ w en.1 en.2.2.2.2 pc ls st q [] m = true → (∀ k, k < κ.2.1 → ρ2 k = ρ k) → zyRl P (B, ρ2, N2, ρ, κ.2.1, (zyEl P.1 B s.heap, fun q => s.heap[q]?), J) s en.2.2.1 (dep, en.2.2.2.2.2.1, en.2.2.2.2.2.2.1) w ls st q m H2 locs2 lsB stA →
      ∃ κ2 ∈ K, st = [] ∧ pc = κ2.1 ∧ (∃ w3 : zW, w3.1 = w.1 ∧ zEnv ρ2 w3.2 ∧ zyincl P en.2.2.1 w3 ls m.1 κ2 = true) ∧ Inv κ2 s (zyrho P.1 B H2 en.2.2.1 lsB κ2.2.2.2.2.1) H2 ∧ Mu κ2 s (zyrho P.1 B H2 en.2.2.1 lsB κ2.2.2.2.2.1) H2 < Mu κ s ρ H)
    (hret : ∀ κ ∈ K, ∀ (s : State) (ρ : Nat → Int32) (H : Heap), zyPk P.1 B pre s.heap → zKn B s → zyMI P.1 B J s s.heap → Inv κ s ρ H → ∀ (ρ2 : Nat → Int32) (w : zW) (v : List Nat) (m : zyM) (H2 : Heap) (vo : Option Value), bt κ w v m = true → (κ.2.1 ≤ w.1 ∧ ∀ k, k < κ.2.1 → ρ2 k = ρ k) → zEnv ρ2 w.2 → (∀ f ∈ m.2, zyFm (B, ρ2, w.1, ρ, κ.2.1, (zyEl P.1 B s.heap, fun q => s.heap[q]?), J) f) → zyMem P (B, ρ2, w.1, ρ, κ.2.1, (zyEl P.1 B s.heap, fun q => s.heap[q]?), J) s m.1 H2 → zyvo (B, ρ2, w.1, ρ, κ.2.1, (zyEl P.1 B s.heap, fun q => s.heap[q]?), J) v vo → ∀ t : State, t.heap = H2 → s.WarmedH t.vm → Qc AsV.toArray s (.returned vo) t) :
    Met l me.1 [Cond.code me.1 me.2.1 en.2.2.1 me.2.2.1] { frames := dep, cells := en.2.2.2.2.2.1, slots := en.2.2.2.2.2.2.1, locals := 64 * dep } (va_Pc AsV (fun U => zKn B U ∧ zyMI P.1 B J U U.heap ∧ zyPk P.1 B pre U.heap)) Qc en.2.2.2.2.2.1 en.2.2.2.2.2.2.1 (fun q => zbs B ≤ q) := by
  refine zycutG hOK hCon hJd hc0 hs0 hκ0 hpc0 hwf hst hrun hA hentry Inv Mu hinv0 ?_ hret
  intro κ hκ p e s mt below meth c ρ H hPre hCf hI hInv IH ρ2 N2 w2 pc ls st q m2 H2 locs2 lsB stA hs hag hR2
  obtain ⟨κ2, hκ2, est, hpc, ⟨w3, ew, hE3, hi2⟩, hInv2, hmu⟩ := hstop κ hκ s ρ H hPre hI hInv ρ2 N2 w2 pc ls st q m2 H2 locs2 lsB stA hs hag hR2
  subst est
  have eA := zySt_n hR2.2.2.2.2.1
  subst eA
  have hq1 : q.1 = dep := hR2.2.2.2.2.2.1
  have hq2 : q.2.1 ≤ en.2.2.2.2.2.1 := hR2.2.2.2.2.2.2.1
  have hq3 : q.2.2 ≤ en.2.2.2.2.2.2.1 := hR2.2.2.2.2.2.2.2
  obtain ⟨q1, q2, q3⟩ := q
  dsimp only at hq1 hq2 hq3
  have eq2 : q2 = 0 := by omega
  have eq3 : q3 = 0 := by omega
  subst hq1
  subst eq2
  subst eq3
  rw [hpc]
  have hR3 : zyRl P (B, ρ2, N2, ρ, κ.2.1, (zyEl P.1 B s.heap, fun q => s.heap[q]?), J) s en.2.2.1 (q1, en.2.2.2.2.2.1, en.2.2.2.2.2.2.1) w3 ls [] (q1, 0, 0) m2 H2 locs2 lsB [] := ⟨⟨hE3, ew.trans hR2.1.2.1, hR2.1.2.2⟩, hR2.2⟩
  have hRk := zycutR hR3 hi2 (hwf κ2 hκ2)
  exact IH κ2 hκ2 H2 locs2 lsB (zyrho P.1 B H2 en.2.2.1 lsB κ2.2.2.2.2.1) hInv2 hRk hmu
/-- a contract out of cuts, its relation by hand -/
theorem zycutC {l : Launch} {P : zyP} {J : zyJt} {y0 : Nat} {en : zEn} {me : zMe} (hOK : zOK y0 en me) (hCon : zyCons l P J) (hJd : zyJp P.2.2.2.1 J) {ct : zyCt} (hc0 : en.2.2.2.2.2.1 = 0) (hs0 : en.2.2.2.2.2.2.1 = 0) {K : List zyKt} {κ0 : zyKt} {n : Nat} (hκ0 : κ0 ∈ K) (hpc0 : κ0.1 = 0) (hwf : ∀ κ ∈ K, zywf en.2.2.1 κ = true)
    {bt : zyKt → zW → List Nat → zyM → Bool} {stp : zyKt → zyK} (hst : ∀ κ w cf y pc ls st q f fs m, stp κ w cf y pc ls st q (f :: fs) m = false)
    (hrun : ∀ κ ∈ K, zyok (fun w v m => zand (zyfitM w P.1 m.1) (zand (zypre w P.1 m.1 ct.2.2.2.2.2) (bt κ w v m))) P (stp κ) n (κ.2.1, κ.2.2.2.1) en.1 en.2.2.2.2 κ.1 κ.2.2.1 [] (ct.2.2.2.1, 0, 0) [] (κ.2.2.2.2.1, []) = true)
    (hentry : zpad en.2.2.1 (zexp ct.1) (fun l2 => zyincl P en.2.2.1 (0, []) l2 ct.2.2.2.2.1 κ0) = true) (hfp : ∀ a k, zyin ct.2.1 a k = false → zyin P.2.2.1 a k = false)
    (Inv : zCx → List Value → zyKt → State → (Nat → Int32) → Heap → Prop) (Mu : zCx → List Value → zyKt → State → (Nat → Int32) → Heap → Nat)
    (hinv0 : ∀ (B : zCx) (AsV : List Value), zySt (zyX0 B J) ct.1 AsV → ∀ (s : State) (lsA : Array Slot), zKn B s → zyMI P.1 B J s s.heap → zyPk P.1 B ct.2.2.2.2.1 s.heap → lv_has lsA en.2.2.1 (lv_args 0 AsV) → Inv B AsV κ0 s (zyrho P.1 B s.heap en.2.2.1 lsA κ0.2.2.2.2.1) s.heap)
    (hstop : ∀ (B : zCx) (AsV : List Value), zySt (zyX0 B J) ct.1 AsV → ∀ κ ∈ K, ∀ (s : State) (ρ : Nat → Int32) (H : Heap), zyPk P.1 B ct.2.2.2.2.1 s.heap → zyMI P.1 B J s s.heap → Inv B AsV κ s ρ H → ∀ (ρ2 : Nat → Int32) (N2 : Nat) (w : zW) (pc : Nat) (ls st : List Nat) (q : zQ) (m : zyM) (H2 : Heap) (locs2 : List Loc) (lsB : Array Slot) (stA : List Value), stp κ w en.1 en.2.2.2.2 pc ls st q [] m = true → (∀ k, k < κ.2.1 → ρ2 k = ρ k) → zyRl P (B, ρ2, N2, ρ, κ.2.1, (zyEl P.1 B s.heap, fun q => s.heap[q]?), J) s en.2.2.1 (ct.2.2.2.1, en.2.2.2.2.2.1, en.2.2.2.2.2.2.1) w ls st q m H2 locs2 lsB stA →
      ∃ κ2 ∈ K, st = [] ∧ pc = κ2.1 ∧ (∃ w3 : zW, w3.1 = w.1 ∧ zEnv ρ2 w3.2 ∧ zyincl P en.2.2.1 w3 ls m.1 κ2 = true) ∧ Inv B AsV κ2 s (zyrho P.1 B H2 en.2.2.1 lsB κ2.2.2.2.2.1) H2 ∧ Mu B AsV κ2 s (zyrho P.1 B H2 en.2.2.1 lsB κ2.2.2.2.2.1) H2 < Mu B AsV κ s ρ H)
    (hret : ∀ (B : zCx) (AsV : List Value), zySt (zyX0 B J) ct.1 AsV → ∀ κ ∈ K, ∀ (s : State) (ρ : Nat → Int32) (H : Heap), zyPk P.1 B ct.2.2.2.2.1 s.heap → zyMI P.1 B J s s.heap → Inv B AsV κ s ρ H → ∀ (ρ2 : Nat → Int32) (w : zW) (v : List Nat) (m : zyM) (t : State) (vo : Option Value), bt κ w v m = true → (κ.2.1 ≤ w.1 ∧ ∀ k, k < κ.2.1 → ρ2 k = ρ k) → zEnv ρ2 w.2 → (∀ f ∈ m.2, zyFm (B, ρ2, w.1, ρ, κ.2.1, (zyEl P.1 B s.heap, fun q => s.heap[q]?), J) f) → zyMem P (B, ρ2, w.1, ρ, κ.2.1, (zyEl P.1 B s.heap, fun q => s.heap[q]?), J) s m.1 t.heap → zyvo (B, ρ2, w.1, ρ, κ.2.1, (zyEl P.1 B s.heap, fun q => s.heap[q]?), J) v vo → zyvr P.1 B J ct.2.2.1 AsV.toArray s t vo) : zyCon l P.1 J en me ct := by
  intro B AsV hA
  refine zycutF (bt := fun κ w v m => zand (zyfitM w P.1 m.1) (zand (zypre w P.1 m.1 ct.2.2.2.2.2) (bt κ w v m))) (Qc := zyQk P.1 B J ct) (pre := ct.2.2.2.2.1) hOK hCon hJd (dep := ct.2.2.2.1) hc0 hs0 hκ0 hpc0 hwf hst hrun hA hentry (Inv B AsV) (Mu B AsV) (fun s lsA hK hI hPre _ hlv => hinv0 B AsV hA s lsA hK hI hPre hlv) (hstop B AsV hA) ?_
  intro κ hκ s ρ H hPre hK hI hInv ρ2 w v m H2 vo hbt hag hE hF hM hvo t ht hW
  obtain ⟨b1, b2⟩ := zand_iff hbt
  obtain ⟨b2, b3⟩ := zand_iff b2
  subst ht
  exact ⟨vo, rfl, hret B AsV hA κ hκ s ρ H hPre hI hInv ρ2 w v m t vo b3 hag hE hF hM hvo, hK.warm hW, (hM.base (w := w) hE b1).moved hW.alike, zypre_iff hM hE b2, fun a k hf => hM.2.2.1 a k (hfp a k hf), fun q hq => hM.2.2.2.2.2 q hq⟩
end
section
/-! A RUN WITHOUT CUTS, its end held against more than the base -/
def zyJ1 : zyJt := (fun _ => True, fun _ _ _ _ _ => False)
noncomputable def zystop0 : zyK := fun _ _ _ _ _ _ _ _ _ => false
theorem zyrunT {l : Launch} {P : zyP} {J : zyJt} {y0 : Nat} {en : zEn} {me : zMe} (hOK : zOK y0 en me) (hno : ∀ y, P.2.1 y = []) (hdj : P.2.2.2.1 = []) {ct : zyCt} (hfp : ∀ a k, zyin ct.2.1 a k = false → zyin P.2.2.1 a k = false) {bt : zW → List Nat → zyM → Bool} {κ0 : zyKt} {n : Nat} (hpc0 : κ0.1 = 0) (hwf : zywf en.2.2.1 κ0 = true)
    (hrun : zyok bt P zystop0 n (κ0.2.1, κ0.2.2.2.1) en.1 en.2.2.2.2 0 κ0.2.2.1 [] (ct.2.2.2.1, 0, 0) [] (κ0.2.2.2.2.1, []) = true) (hentry : zpad en.2.2.1 (zexp ct.1) (fun l2 => zyincl P en.2.2.1 (0, []) l2 ct.2.2.2.2.1 κ0) = true)
    (hbt : ∀ (B : zCx) (s : State) (ρ2 : Nat → Int32) (N2 : Nat) (ρ0 : Nat → Int32) (N0 : Nat) (w : zW) (v : List Nat) (m : zyM) (H : Heap) (vo : Option Value), bt w v m = true → zEnv ρ2 w.2 → zyMem P (B, ρ2, N2, ρ0, N0, (zyEl P.1 B s.heap, fun q => s.heap[q]?), zyJ1) s m.1 H → zyvo (B, ρ2, N2, ρ0, N0, (zyEl P.1 B s.heap, fun q => s.heap[q]?), zyJ1) v vo → zyMI P.1 B J s s.heap → zyvo (zyX0 B J) ct.2.2.1 vo ∧ zyMI P.1 B J s H ∧ zyPk P.1 B ct.2.2.2.2.2 H) : zyCon l P.1 J en me ct := by
  intro B AsV hA
  have hOK' := hOK
  obtain ⟨hrow, hnum, hrk, hcn, hcls, hml40, hpl, g, hin, hg1, hgw⟩ := hOK
  refine zMet_ofW hpl ?_
  intro p e s mt args below meth c s₁ Bd hml hv
  obtain ⟨rfl, hK, hI, hPk⟩ := hv
  have hown : s.vm.findClass me.2.2.2 = some mt.cls := by rw [← hcls]; exact findClass_of_methodNamed Bd.named
  obtain ⟨l2, hl2, hle, hl3, hinc⟩ := zpad_iff hentry
  have hlen := zyexp_len hA
  have hent := lv_entry AsV (n := en.2.2.1) (by rw [hlen]; exact hle)
  rw [lg_entry_eq]
  generalize (lg_sl AsV ++ List.replicate (en.2.2.1 - (lg_sl AsV).length) Slot.unset).toArray = lsA at hent ⊢
  have hlocks := Bd.notSynchronized
  have hA2 : zySt (B, fun _ => 0, 0, fun _ => 0, 0, (zyEl P.1 B s.heap, fun q => s.heap[q]?), zyJ1) ct.1 AsV := zySt_map (X := zyX0 B J) (X2 := (B, fun _ => 0, 0, fun _ => 0, 0, (zyEl P.1 B s.heap, fun q => s.heap[q]?), zyJ1)) (fun v w h => h) hA
  have hR0 : zyRl P (B, fun _ => 0, 0, fun _ => 0, 0, (zyEl P.1 B s.heap, fun q => s.heap[q]?), zyJ1) s en.2.2.1 (ct.2.2.2.1, en.2.2.2.2.2.1, en.2.2.2.2.2.2.1) (0, []) l2 [] (ct.2.2.2.1, 0, 0) (ct.2.2.2.2.1, []) s.heap [] lsA [] := by
    refine ⟨⟨fun k p hp => by simp at hp, rfl, ⟨Nat.le_refl _, fun _ _ => rfl⟩, fun f hf => by cases hf⟩, ⟨hI.1, fun a c k hg hk => ?_, fun a k _ => rfl, trivial, hI.2.2.2, fun q _ => rfl⟩, (fun x hx => by cases hx), ⟨hl2, hent.1, hent.2.1, fun i cc hc hn => ?_⟩, trivial, rfl, Nat.zero_le _, Nat.zero_le _⟩
    · obtain ⟨x, h1, h2⟩ := hI.2.1 a c k hg hk
      refine ⟨x, h1, ?_⟩
      have hl : zyLen c ≤ 16384 := by
        unfold zyLen
        rcases (hI.1 a c hg).2 with ⟨q1, -⟩ | ⟨ty, cA, f, q1, -, -, q4⟩
        · rw [if_pos q1]
          have := zyn64 c.1 q1
          omega
        · rw [if_neg (by have := zty_kd q1; omega)]
          exact q4
      unfold zyEt
      dsimp only
      cases hq : zyl ct.2.2.2.2.1 (a * 16384 + k) with
      | none => exact h2
      | some v =>
        obtain ⟨j, hj⟩ := zyl_ix hq
        obtain ⟨c2, x2, q1, q2, q3, q4, q5⟩ := hPk _ (List.mem_of_getElem? hj)
        dsimp only at q1 q2 q3 q4 q5
        rw [show (a * 16384 + k) / 16384 = a by omega, show (a * 16384 + k) % 16384 = k by omega, h1] at q3
        cases q3
        exact q5
    · rcases hl3 i cc hc with h1 | h1
      · obtain ⟨v, h2, h3⟩ := zyexp_args (o := 0) hA2 i cc h1 hn
        rw [Nat.zero_add] at h2
        exact ⟨v, hent.2.2 _ h2, h3⟩
      · exact absurd h1 hn
  have hRk := zycutR hR0 hinc hwf
  refine zymain (l := l) (bt := bt) (stop := zystop0) (fun _ _ _ _ _ _ _ _ _ _ => rfl) n _ y0 en me ?_ hOK' (κ0.2.1, κ0.2.2.2.1) 0 κ0.2.2.1 [] (ct.2.2.2.1, 0, 0) [] (κ0.2.2.2.2.1, []) hrun p e { frames := ct.2.2.2.1, cells := en.2.2.2.2.2.1, slots := en.2.2.2.2.2.2.1, locals := 64 * ct.2.2.2.1 } s mt AsV.toArray below meth c _ s.heap [] lsA [] ⟨Bd.exec, Bd.bytes, hml, hown, ⟨hK, ?_⟩, Nat.le_refl _, Nat.le_refl _, Nat.le_refl _, Nat.le_refl _⟩ hRk ?_ ?_
  · intro y2 ct2 en2 me2 hct
    rw [hno y2] at hct
    cases hct
  · refine ⟨fun E E2 _ _ => trivial, fun E _ p0 hp0 => ?_, fun _ _ _ _ _ _ _ h => h, fun _ _ _ _ _ _ h => h.elim⟩
    rw [hdj] at hp0
    cases hp0
  · intro n' ρ2 w2 v m2 H2 locs2 lsB pc vo cells slots hn' hbk hX hM2 hlo hc hs hvo hri
    have hbk : bt w2 v m2 = true := hbk
    obtain ⟨r1, r2, r3⟩ := hbt B s ρ2 w2.1 _ _ w2 v m2 H2 vo hbk hX.1 hM2 hvo hI
    have hq : ∀ t : State, t.heap = H2 → s.WarmedH t.vm → zyQk P.1 B J ct AsV.toArray s (.returned vo) t := by
      intro t ht hW
      refine ⟨vo, rfl, zyvr_of r1, hK.warm hW, by rw [ht]; exact r2.moved hW.alike, by rw [ht]; exact r3, fun a k hf => ?_, fun q hq => by rw [ht]; exact hM2.2.2.2.2.2 q hq⟩
      rw [ht]
      exact hM2.2.2.1 a k (hfp a k hf)
    refine W.widen hc hs ?_
    rcases hri with ⟨hd, x, ty, rfl, hty, hnar⟩ | ⟨hd, x, rfl, hty⟩ | ⟨hd, rfl, hty⟩
    · exact W.zret Bd.exec Bd.bytes (by rw [Bd.returns]; exact hty) hnar hq hlo hd hlocks
    · exact W.lret Bd.exec Bd.bytes (by rw [Bd.returns]; exact hty) hq hlo hd hlocks
    · exact W.vret Bd.exec Bd.bytes (by rw [Bd.returns]; exact hty) hq hlo hd hlocks
  · intro ρ2 N2 w2 pc ls st q m2 H2 locs2 lsB stA hs
    cases hs
end
section
/-! BY HAND: the least common multiple of longs; the phase of any int -/
theorem zycmp0 {x : Int64} (h : ¬ lg_cmp x 0 = 0) : ¬ x = 0 := fun z => h (by rw [z]; rfl)
theorem zyhand_lc {l : Launch} {mi : zyB} {J : zyJt} {en : zEn} {me : zMe} (hen : zG zxMeta 187 = some en) (hme : zG zMeth 187 = some me) : zyCon l mi J en me ([147573952589676412932, 147573952589676412932], [], [147573952589676412932], 1, [], []) := by
  have een : zG zxMeta 187 = some (zxi187, 2, 11, 10, 187, 0, 0, 3, 0) := rfl
  obtain ⟨me1, hme1, hOK⟩ := zall hen
  rw [hme] at hme1
  cases hme1
  rw [een] at hen
  cases hen
  obtain ⟨hrow, hnum, hrk, hcn, hcls, hml40, hpl, g, hin, hg1, hgw⟩ := hOK
  intro B AsV hA
  obtain ⟨va, t, rfl, h1, hA⟩ := zySt_c hA
  obtain ⟨vb, t, rfl, h2, hA⟩ := zySt_c hA
  have eA := zySt_n hA
  subst eA
  obtain ⟨a, rfl, -⟩ := zyv_4 h1 (by decide)
  obtain ⟨b, rfl, -⟩ := zyv_4 h2 (by decide)
  refine zMet_ofW hpl ?_
  intro p e s mt args below meth c s₁ Bd hml hv
  obtain ⟨rfl, hK, hI, hPk⟩ := hv
  have hx := Bd.exec
  have hb := Bd.bytes
  have hdc : ∀ (pc : Nat) (i : Instr) (nx ax : Nat), zxi187 pc = (i, nx, ax) → ¬ i = .nop → decode me.2.1 pc = .ok (i, nx - pc) := by
    intro pc i nx ax hz hn
    have hr := hrow pc
    dsimp only at hr
    rw [hz] at hr
    rcases hr with q | q
    · exact absurd q hn
    · exact q.2.1
  have hret : me.2.2.1 = some .long := (zrk_1 (r := me.2.2.1)).2.2.2.1 hrk
  have hent := lv_entry [Value.long a, Value.long b] (n := 11) (show (4 : Nat) ≤ 11 by decide)
  rw [lg_entry_eq]
  generalize (lg_sl [Value.long a, Value.long b] ++ List.replicate (11 - (lg_sl [Value.long a, Value.long b]).length) Slot.unset).toArray = ls0 at hent ⊢
  have hent : lv_has ls0 11 [(0, .long a), (2, .long b)] := hent
  have hlocks := Bd.notSynchronized
  have fin : ∀ (ls : Array Slot) (x : Int64), W p l e { frames := 1, cells := 0, slots := 0, locals := 64 * 1 } s mt #[Value.long a, Value.long b] below meth c s.heap [] 0 0 (MQ below (zyQk mi B J ([147573952589676412932, 147573952589676412932], [], [147573952589676412932], 1, [], [])) #[Value.long a, Value.long b] s 0 0 (fun q => zbs B ≤ q)) (F0 mt 61 ls [.long x]) := by
    intro ls x
    refine W.lret hx hb (by rw [Bd.returns]; exact hret) (fun t ht hW => ?_) (fun q hq => by cases hq) (hdc 61 _ _ _ rfl (by decide)) hlocks
    exact ⟨some (.long x), rfl, zyv_anyL x, hK.warm hW, by rw [ht]; exact hI.moved hW.alike, (fun q hq => by cases hq), fun a k _ => by rw [ht], fun q _ => by rw [ht]⟩
  have tail : ∀ (ls : Array Slot) (h lo : Int64) (i : Int32), lv_has ls 11 [(8, .int i), (6, .long lo), (4, .long h), (0, .long a), (2, .long b)] → W p l e { frames := 1, cells := 0, slots := 0, locals := 64 * 1 } s mt #[Value.long a, Value.long b] below meth c s.heap [] 0 0 (MQ below (zyQk mi B J ([147573952589676412932, 147573952589676412932], [], [147573952589676412932], 1, [], [])) #[Value.long a, Value.long b] s 0 0 (fun q => zbs B ≤ q)) (F0 mt 44 ls []) := by
    intro ls h lo i hv
    refine lv_lload hx hb (hdc 44 _ _ _ rfl (by decide)) (lv_at hv 2 rfl) (lv_lconst hx hb (hdc 46 _ _ _ rfl (by decide)) rfl (W.lcmp hx hb (hdc 47 _ _ _ rfl (by decide)) (lv_if_ne hx hb (hdc 48 _ _ _ rfl (by decide)) (tgt := 55) rfl (fun hne => ?_) (fun _ => ?_))))
    · exact lv_lload_n hx hb (hdc 55 _ _ _ rfl (by decide)) rfl (lv_at hv 3 rfl) (lv_lload hx hb (hdc 56 _ _ _ rfl (by decide)) (lv_at hv 2 rfl) (lv_ldiv hx hb (hdc 58 _ _ _ rfl (by decide)) (zycmp0 hne) (lv_lload_n hx hb (hdc 59 _ _ _ rfl (by decide)) rfl (lv_at hv 4 rfl) (lv_lmul hx hb (hdc 60 _ _ _ rfl (by decide)) (fin ls _)))))
    · exact lv_lconst hx hb (hdc 51 _ _ _ rfl (by decide)) rfl (lv_goto hx hb (hdc 52 _ _ _ rfl (by decide)) (tgt := 61) rfl (fin ls _))
  have loop : ∀ (n : Nat) (ls : Array Slot) (h lo : Int64) (i : Int32), 100 - i.toInt ≤ (n : Int) → lv_has ls 11 [(8, .int i), (6, .long lo), (4, .long h), (0, .long a), (2, .long b)] → W p l e { frames := 1, cells := 0, slots := 0, locals := 64 * 1 } s mt #[Value.long a, Value.long b] below meth c s.heap [] 0 0 (MQ below (zyQk mi B J ([147573952589676412932, 147573952589676412932], [], [147573952589676412932], 1, [], [])) #[Value.long a, Value.long b] s 0 0 (fun q => zbs B ≤ q)) (F0 mt 9 ls []) := by
    intro n
    induction n with
    | zero =>
      intro ls h lo i hn hv
      refine lv_iload hx hb (hdc 9 _ _ _ rfl (by decide)) (lv_at hv 0 rfl) (lv_bipush hx hb (hdc 11 _ _ _ rfl (by decide)) (v := 100) rfl (lv_icmp_ge hx hb (hdc 13 _ _ _ rfl (by decide)) (tgt := 44) rfl (fun _ => tail ls h lo i hv) (fun hlt => ?_)))
      exfalso
      apply hlt
      rw [Int32.le_iff_toInt_le]
      have e1 : (100 : Int32).toInt = 100 := by decide
      omega
    | succ n ih =>
      intro ls h lo i hn hv
      refine lv_iload hx hb (hdc 9 _ _ _ rfl (by decide)) (lv_at hv 0 rfl) (lv_bipush hx hb (hdc 11 _ _ _ rfl (by decide)) (v := 100) rfl (lv_icmp_ge hx hb (hdc 13 _ _ _ rfl (by decide)) (tgt := 44) rfl (fun _ => tail ls h lo i hv) (fun hlt => ?_)))
      have hlt2 : i.toInt < 100 := by
        have e1 : (100 : Int32).toInt = 100 := by decide
        rw [Int32.le_iff_toInt_le] at hlt
        omega
      refine lv_lload hx hb (hdc 16 _ _ _ rfl (by decide)) (lv_at hv 1 rfl) (lv_lconst hx hb (hdc 18 _ _ _ rfl (by decide)) rfl (W.lcmp hx hb (hdc 19 _ _ _ rfl (by decide)) (lv_if_eq hx hb (hdc 20 _ _ _ rfl (by decide)) (tgt := 44) rfl (fun _ => tail ls h lo i hv) (fun hne => ?_))))
      refine lv_lload hx hb (hdc 23 _ _ _ rfl (by decide)) (lv_at hv 2 rfl) (lv_lload hx hb (hdc 25 _ _ _ rfl (by decide)) (lv_at hv 1 rfl) (lv_lrem hx hb (hdc 27 _ _ _ rfl (by decide)) (zycmp0 hne) ?_))
      refine lv_lstore hx hb (hdc 28 _ _ _ rfl (by decide)) hv (by decide) (lv' := [(9, .long (h - h / lo * lo)), (8, .int i), (6, .long lo), (4, .long h), (0, .long a), (2, .long b)]) rfl (fun ls1 hv1 => ?_)
      refine lv_lload hx hb (hdc 30 _ _ _ rfl (by decide)) (lv_at hv1 2 rfl) (lv_lstore hx hb (hdc 32 _ _ _ rfl (by decide)) hv1 (by decide) (lv' := [(4, .long lo), (9, .long (h - h / lo * lo)), (8, .int i), (6, .long lo), (0, .long a), (2, .long b)]) rfl (fun ls2 hv2 => ?_))
      refine lv_lload hx hb (hdc 34 _ _ _ rfl (by decide)) (lv_at hv2 1 rfl) (lv_lstore hx hb (hdc 36 _ _ _ rfl (by decide)) hv2 (by decide) (lv' := [(6, .long (h - h / lo * lo)), (4, .long lo), (9, .long (h - h / lo * lo)), (8, .int i), (0, .long a), (2, .long b)]) rfl (fun ls3 hv3 => ?_))
      refine lv_iinc hx hb (hdc 38 _ _ _ rfl (by decide)) hv3 (k := 3) rfl (v := i + Int32.ofInt 1) rfl (by decide) (lv' := [(8, .int (i + Int32.ofInt 1)), (6, .long (h - h / lo * lo)), (4, .long lo), (9, .long (h - h / lo * lo)), (0, .long a), (2, .long b)]) rfl (fun ls4 hv4 => ?_)
      refine lv_goto hx hb (hdc 41 _ _ _ rfl (by decide)) (tgt := 9) rfl (ih ls4 lo (h - h / lo * lo) (i + Int32.ofInt 1) ?_ ⟨hv4.1, hv4.2.1, fun q hq => hv4.2.2 q ?_⟩)
      · have e1 : (i + Int32.ofInt 1).toInt = i.toInt + 1 := by
          have l1 := Int32.le_toInt i
          have e2 : (Int32.ofInt 1).toInt = 1 := by decide
          rw [Int32.toInt_add, e2]
          apply Int.bmod_eq_of_le
          · omega
          · omega
        omega
      · simp only [List.mem_cons, List.not_mem_nil, or_false] at hq ⊢
        rcases hq with hq | hq | hq | hq | hq
        · exact Or.inl hq
        · exact Or.inr (Or.inl hq)
        · exact Or.inr (Or.inr (Or.inl hq))
        · exact Or.inr (Or.inr (Or.inr (Or.inr (Or.inl hq))))
        · exact Or.inr (Or.inr (Or.inr (Or.inr (Or.inr hq))))
  refine lv_lload_n hx hb (hdc 0 _ _ _ rfl (by decide)) rfl (lv_at hent 0 rfl) (lv_lstore hx hb (hdc 1 _ _ _ rfl (by decide)) hent (by decide) (lv' := [(4, .long a), (0, .long a), (2, .long b)]) rfl (fun ls1 hv1 => ?_))
  refine lv_lload_n hx hb (hdc 3 _ _ _ rfl (by decide)) rfl (lv_at hv1 2 rfl) (lv_lstore hx hb (hdc 4 _ _ _ rfl (by decide)) hv1 (by decide) (lv' := [(6, .long b), (4, .long a), (0, .long a), (2, .long b)]) rfl (fun ls2 hv2 => ?_))
  refine lv_iconst hx hb (hdc 6 _ _ _ rfl (by decide)) (v := 0) rfl (lv_istore hx hb (hdc 7 _ _ _ rfl (by decide)) hv2 (by decide) (lv' := [(8, .int 0), (6, .long b), (4, .long a), (0, .long a), (2, .long b)]) rfl (fun ls3 hv3 => ?_))
  exact loop 100 ls3 a b 0 (by decide) hv3
/-- two contracts that differ in what they ask of the arguments alone -/
theorem zyCon_or {l : Launch} {mi : zyB} {J : zyJt} {en : zEn} {me : zMe} {a a1 a2 : List Nat} {ct : zyR × List Nat × Nat × List (Nat × Nat) × List (Nat × Nat)} (h1 : zyCon l mi J en me (a1, ct)) (h2 : zyCon l mi J en me (a2, ct)) (ha : ∀ (B : zCx) (AsV : List Value), zySt (zyX0 B J) a AsV → zySt (zyX0 B J) a1 AsV ∨ zySt (zyX0 B J) a2 AsV) : zyCon l mi J en me (a, ct) := by
  intro B AsV hA
  rcases ha B AsV hA with h | h
  · exact h1 B AsV h
  · exact h2 B AsV h
theorem zyhalves {B : zCx} {J : zyJt} {AsV : List Value} (h : zySt (zyX0 B J) [34359738362] AsV) : zySt (zyX0 B J) [73786976329197944826] AsV ∨ zySt (zyX0 B J) [17179869178] AsV := by
  obtain ⟨v, t, rfl, h1, h2⟩ := zySt_c h
  obtain ⟨x, rfl⟩ := zyv_int h1 (by decide)
  have hl := zB_lt x
  by_cases hx : 2147483648 ≤ zB x
  · exact Or.inl ⟨zyv_bd (lo := 2147483648) (hi := 4294967295) hx (by omega) (by omega), h2⟩
  · exact Or.inr ⟨zyv_bd (lo := 0) (hi := 2147483647) (Nat.zero_le _) (by omega) (by omega), h2⟩
end
