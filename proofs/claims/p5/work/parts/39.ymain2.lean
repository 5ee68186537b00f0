/-! calls, returns -/
/-! relations of contracts -/
theorem zyFo_iff {F : zyR} : ∀ {l : zyR}, zyFo F l = true → ∀ a k, zyin l a k = true → zyin F a k = false := by
  intro l
  induction l with
  | nil => intro _ a k h; cases h
  | cons p t ih =>
    intro h a k hk
    have h : zand (zyapt F p.1 p.2.1 p.2.2) (zyFo F t) = true := h
    obtain ⟨g1, g2⟩ := zand_iff h
    obtain ⟨p2, q1, q2, q3, q4⟩ := zyin_iff.mp hk
    rcases List.mem_cons.mp q1 with q | q
    · subst q
      rw [← q2]
      exact zyapt_iff g1 k q3 q4
    · exact ih g2 a k (zyin_iff.mpr ⟨p2, q, q2, q3, q4⟩)
theorem zyff_iff {P : zyP} {id v a b : Nat} {l : List zyF} {f : zyF} (h : f ∈ zyff P id v a b l) : f ∈ l ∨ (f = (1000 + id, v, a, b) ∧ zyFo P.2.2.1 (zyFd id) = true ∧ a % 8 ≤ 2 ∧ b % 8 ≤ 2) := by
  unfold zyff at h
  cases hb : zand (zyFo P.2.2.1 (zyFd id)) (zand (Nat.ble (Nat.mod a 8) 2) (Nat.ble (Nat.mod b 8) 2)) with
  | false => rw [hb] at h; exact Or.inl h
  | true =>
    rw [hb] at h
    obtain ⟨g1, g2⟩ := zand_iff hb
    obtain ⟨g2, g3⟩ := zand_iff g2
    rcases List.mem_cons.mp h with q | q
    · exact Or.inr ⟨q, g1, zbleT g2, zbleT g3⟩
    · exact Or.inl q
theorem zyFm_mk {X : zyX} {id v a b : Nat} {x y z : Int32} (hv : zyV X v (.int z)) (ha : zyV X a (.int x)) (hb : zyV X b (.int y)) (h : (zyJ X).2 id (zyE X) x y z) : zyFm X (1000 + id, v, a, b) := by
  unfold zyFm
  dsimp only
  rw [if_neg (by omega), if_neg (by omega), if_neg (by omega), show 1000 + id - 1000 = id by omega]
  exact ⟨x, y, z, hv, ha, hb, h⟩
theorem zyFm_rel {X : zyX} {id v a b : Nat} (h : zyFm X (1000 + id, v, a, b)) : ∃ x y z : Int32, zyV X v (.int z) ∧ zyV X a (.int x) ∧ zyV X b (.int y) ∧ (zyJ X).2 id (zyE X) x y z := by
  unfold zyFm at h
  dsimp only at h
  rw [if_neg (by omega), if_neg (by omega), if_neg (by omega), show 1000 + id - 1000 = id by omega] at h
  exact h
theorem zyag_c {as : List Nat} {a i : Nat} : zyag (a :: as) (i + 1) = zyag as i := rfl
theorem zyag_iff {X : zyX} : ∀ {as : List Nat} {AsV : List Value} {i : Nat}, zySt X as AsV → (zyag as i) % 8 ≤ 2 → zyV X (zyag as i) (.int (zyAi AsV.toArray i)) := by
  intro as
  induction as with
  | nil =>
    intro AsV i h _
    have e := zySt_n h
    subst e
    have e : zyAi (([] : List Value).toArray) i = 0 := by simp [zyAi]
    rw [e]
    exact zyv_zero
  | cons a t ih =>
    intro AsV i h hk
    obtain ⟨b, u, rfl, h1, h2⟩ := zySt_c h
    cases i with
    | zero =>
      have hk : a % 8 ≤ 2 := hk
      obtain ⟨x, rfl⟩ := zyv_int h1 hk
      have e : zyAi ((Value.int x :: u).toArray) 0 = x := by simp [zyAi]
      rw [e]
      exact h1
    | succ i =>
      rw [zyag_c] at hk ⊢
      have e : zyAi ((b :: u).toArray) (i + 1) = zyAi u.toArray i := by simp [zyAi]
      rw [e]
      exact ih h2 hk
theorem zyag_no {X : zyX} : ∀ {as : List Nat} {AsV : List Value} {i : Nat}, zySt X as AsV → ¬ (zyag as i) % 8 ≤ 2 → zyAi AsV.toArray i = 0 := by
  intro as
  induction as with
  | nil => intro AsV i h hk; exact absurd (show (zyag [] i) % 8 ≤ 2 from Nat.zero_le _) hk
  | cons a t ih =>
    intro AsV i h hk
    obtain ⟨b, u, rfl, h1, h2⟩ := zySt_c h
    cases i with
    | zero =>
      have hk : ¬ a % 8 ≤ 2 := hk
      have e : zyAi ((b :: u).toArray) 0 = match b with
        | .int x => x
        | _ => 0 := by
        unfold zyAi
        simp
        cases b <;> rfl
      rw [e]
      cases b with
      | int x => exact absurd (zyv_ik h1) hk
      | _ => rfl
    | succ i =>
      rw [zyag_c] at hk
      have e : zyAi ((b :: u).toArray) (i + 1) = zyAi u.toArray i := by simp [zyAi]
      rw [e]
      exact ih h2 hk
theorem zyai_iff {X : zyX} {as : List Nat} {AsV : List Value} {i : Nat} (h : zySt X as AsV) : zyV X (zyai as i) (.int (zyAi AsV.toArray i)) := by
  unfold zyai
  cases hb : Nat.ble (Nat.mod (zyag as i) 8) 2 with
  | true => exact zyag_iff h (zbleT hb)
  | false =>
    rw [zyag_no h (zbleF hb)]
    exact zyv_zero
theorem zyEl_is {B : zyB} {Y : zCx} {H : Heap} {a k : Nat} {x : Value} (h : zyEl B Y H a k = some x) : ∃ c, zG B a = some c ∧ k < zyLen c := by
  unfold zyEl at h
  cases hg : zG B a with
  | none => rw [hg] at h; cases h
  | some cc =>
    rw [hg] at h
    dsimp only at h
    by_cases hl : k < zyLen cc
    · exact ⟨cc, rfl, hl⟩
    · rw [if_neg hl] at h
      cases h
theorem zyexp_len {X : zyX} : ∀ {as : List Nat} {vs : List Value}, zySt X as vs → (lg_sl vs).length = (zexp as).length := by
  intro as
  induction as with
  | nil => intro vs h; rw [zySt_n h]; rfl
  | cons a t ih =>
    intro vs h
    obtain ⟨b, u, rfl, h1, h2⟩ := zySt_c h
    have e1 : zexp (a :: t) = zif (Nat.beq (Nat.mod a 8) 4) (a :: 13 :: zexp t) (a :: zexp t) := rfl
    have e2 : lg_sl (b :: u) = (if b.category = 2 then [.val b, .second] else [.val b]) ++ lg_sl u := rfl
    rw [e1, e2, zyv_cat h1]
    cases hb : Nat.beq (Nat.mod a 8) 4 with
    | true =>
      have this : a % 8 = 4 := zbeqT hb
      rw [if_pos this, if_pos rfl]
      show ([Slot.val b, Slot.second] ++ lg_sl u).length = (a :: 13 :: zexp t).length
      simp [ih h2]
    | false =>
      have this : ¬ a % 8 = 4 := zbeqF hb
      rw [if_neg this, if_neg (by decide)]
      show ([Slot.val b] ++ lg_sl u).length = (a :: zexp t).length
      simp [ih h2]
theorem zyexp_args {X : zyX} : ∀ {as : List Nat} {vs : List Value} {o : Nat}, zySt X as vs → ∀ i c, (zexp as)[i]? = some c → ¬ c = 13 → ∃ v, (o + i, v) ∈ lv_args o vs ∧ zyV X c v := by
  intro as
  induction as with
  | nil => intro vs o h i c hc; simp [zexp] at hc
  | cons a t ih =>
    intro vs o h i c hc hn
    obtain ⟨b, u, rfl, h1, h2⟩ := zySt_c h
    have e1 : zexp (a :: t) = zif (Nat.beq (Nat.mod a 8) 4) (a :: 13 :: zexp t) (a :: zexp t) := rfl
    have e2 : lv_args o (b :: u) = (o, b) :: lv_args (if b.category = 2 then o + 2 else o + 1) u := rfl
    rw [e1] at hc
    rw [e2, zyv_cat h1]
    cases hb : Nat.beq (Nat.mod a 8) 4 with
    | true =>
      have this : a % 8 = 4 := zbeqT hb
      rw [if_pos this, if_pos rfl]
      rw [hb] at hc
      have hc : (a :: 13 :: zexp t)[i]? = some c := hc
      match i, hc with
      | 0, hc => rw [List.getElem?_cons_zero] at hc; cases hc; exact ⟨b, List.mem_cons_self, h1⟩
      | 1, hc => rw [List.getElem?_cons_succ, List.getElem?_cons_zero] at hc; cases hc; exact absurd rfl hn
      | i + 2, hc =>
        rw [List.getElem?_cons_succ, List.getElem?_cons_succ] at hc
        obtain ⟨v, q1, q2⟩ := ih (o := o + 2) h2 i c hc hn
        exact ⟨v, List.mem_cons_of_mem _ (by rw [show o + (i + 2) = o + 2 + i by omega]; exact q1), q2⟩
    | false =>
      have this : ¬ a % 8 = 4 := zbeqF hb
      rw [if_neg this, if_neg (by decide)]
      rw [hb] at hc
      have hc : (a :: zexp t)[i]? = some c := hc
      match i, hc with
      | 0, hc => rw [List.getElem?_cons_zero] at hc; cases hc; exact ⟨b, List.mem_cons_self, h1⟩
      | i + 1, hc =>
        rw [List.getElem?_cons_succ] at hc
        obtain ⟨v, q1, q2⟩ := ih (o := o + 1) h2 i c hc hn
        exact ⟨v, List.mem_cons_of_mem _ (by rw [show o + (i + 1) = o + 1 + i by omega]; exact q1), q2⟩
theorem zySt_split {X : zyX} : ∀ {s1 s2 : List Nat} {q : List Value}, zySt X (s1 ++ s2) q → ∃ q1 q2, q = q1 ++ q2 ∧ zySt X s1 q1 ∧ zySt X s2 q2 := by
  intro s1
  induction s1 with
  | nil => intro s2 q h; exact ⟨[], q, rfl, trivial, h⟩
  | cons a t ih =>
    intro s2 q h
    obtain ⟨b, u, rfl, h1, h2⟩ := zySt_c h
    obtain ⟨q1, q2, rfl, h3, h4⟩ := ih h2
    exact ⟨b :: q1, q2, rfl, ⟨h1, h3⟩, h4⟩
theorem zySt_rev {X : zyX} : ∀ {s1 : List Nat} {q1 : List Value}, zySt X s1 q1 → zySt X s1.reverse q1.reverse := by
  intro s1
  induction s1 with
  | nil => intro q1 h; rw [zySt_n h]; exact trivial
  | cons a t ih =>
    intro q1 h
    obtain ⟨b, u, rfl, h1, h2⟩ := zySt_c h
    rw [List.reverse_cons, List.reverse_cons]
    exact zySt_app (ih h2) ⟨h1, trivial⟩
/-- a callee's contract out of its run -/
theorem zymet {l : Launch} {bt : zW → List Nat → zyM → Bool} {P : zyP} {stop : zyK} {n : Nat} (hM : zyMain l bt P stop n) (hst : ∀ w cf y pc ls st q f fs m, stop w cf y pc ls st q (f :: fs) m = false) {X : zyX} (hCon : zyCons l P (zyJ X)) (hJd : zyJp P.2.2.2.1 (zyJ X)) {y0 : Nat} {en : zEn} {me : zMe} (hOK : zOK y0 en me)
    {w : zW} {l2 : List Nat} {d : Nat} {fr : zFr} {fs : List zFr} {m : zyM} {as : List Nat} {AsV : List Value} (h : zyok bt P stop n w en.1 en.2.2.2.2 0 l2 [] (d, 0, 0) (fr :: fs) m = true) (hE : zEnv (zyρ X) w.2) (hN : w.1 = zyN X) (hf : ∀ f ∈ m.2, zyFm X f) (hA : zySt X as AsV) (hl : l2.length = en.2.2.1) (hle : (zexp as).length ≤ en.2.2.1) (hl2 : ∀ i c : Nat, l2[i]? = some c → (zexp as)[i]? = some c ∨ c = 13) :
    Met l me.1 [Cond.code me.1 me.2.1 en.2.2.1 me.2.2.1] { frames := d, cells := en.2.2.2.2.2.1, slots := en.2.2.2.2.2.2.1, locals := 64 * d } (va_Pc AsV (fun U => zKn (zyb X) U ∧ zyMem P X U m.1 U.heap)) (zyQi P X (fun w2 v m2 => ∃ n', n' < n ∧ zyback bt v (zyok bt P stop n') w2 (fr :: fs) m2 = true)) en.2.2.2.2.2.1 en.2.2.2.2.2.2.1 (fun q => zbs (zyb X) ≤ q) := by
  obtain ⟨hrow, hnum, hrk, hcn, hcls, hml40, hpl, g, hin, hg1, hgw⟩ := hOK
  refine zMet_ofW hpl ?_
  intro p e s mt args below meth c s₁ B hml hv
  obtain ⟨rfl, hK, hMem⟩ := hv
  have hown : s.vm.findClass me.2.2.2 = some mt.cls := by rw [← hcls]; exact findClass_of_methodNamed B.named
  have hlen := zyexp_len hA
  have hent := lv_entry AsV (n := en.2.2.1) (by rw [hlen]; exact hle)
  rw [lg_entry_eq]
  generalize (lg_sl AsV ++ List.replicate (en.2.2.1 - (lg_sl AsV).length) Slot.unset).toArray = lsA at hent ⊢
  have hlocks := B.notSynchronized
  refine hM (X.1, X.2.1, X.2.2.1, X.2.1, X.2.2.1, X.2.2.2.2.2) y0 en me hCon ⟨hrow, hnum, hrk, hcn, hcls, hml40, hpl, g, hin, hg1, hgw⟩ w 0 l2 [] (d, 0, 0) (fr :: fs) m h p e _ s mt _ below meth c _ s.heap [] lsA [] ⟨B.exec, B.bytes, hml, hown, ⟨hK, hJd⟩, Nat.le_refl _, Nat.le_refl _, Nat.le_refl _, Nat.le_refl _⟩ ⟨⟨hE, hN, ⟨Nat.le_refl _, fun _ _ => rfl⟩, hf⟩, hMem, (fun x hx => by cases hx), ⟨hl, hent.1, hent.2.1, ?_⟩, trivial, rfl, Nat.zero_le _, Nat.zero_le _⟩ ?_ ?_
  · intro i cc hc hn
    rcases hl2 i cc hc with h1 | h1
    · obtain ⟨v, h2, h3⟩ := zyexp_args (o := 0) hA i cc h1 hn
      rw [Nat.zero_add] at h2
      exact ⟨v, hent.2.2 _ h2, h3⟩
    · exact absurd h1 hn
  · intro n' ρ2 w2 v m2 H locs lsB pc vo cells slots hn' hbk hX hM2 hlo hc hs hvo hri
    have hq : ∀ t : State, t.heap = H → s.WarmedH t.vm → zyQi P X (fun w2 v m2 => ∃ n', n' < n ∧ zyback bt v (zyok bt P stop n') w2 (fr :: fs) m2 = true) AsV.toArray s (.returned vo) t := fun t ht hW => ⟨ρ2, w2, v, m2, vo, rfl, hX.2.1.1, hX.2.1.2, hX.1, hX.2.2, hvo, by rw [ht]; exact hM2.moved hW.alike, n', hn', hbk⟩
    refine W.widen hc hs ?_
    rcases hri with ⟨hd, x, ty, rfl, hty, hnar⟩ | ⟨hd, x, rfl, hty⟩ | ⟨hd, rfl, hty⟩
    · exact W.zret B.exec B.bytes (by rw [B.returns]; exact hty) hnar hq hlo hd hlocks
    · exact W.lret B.exec B.bytes (by rw [B.returns]; exact hty) hq hlo hd hlocks
    · exact W.vret B.exec B.bytes (by rw [B.returns]; exact hty) hq hlo hd hlocks
  · intro ρ2 N2 w2 pc ls st q m2 H locs lsB stA hs
    rw [hst] at hs
    cases hs
section ZYC
variable {p : Program} {l : Launch} {e : Env} {R : Room} {s : State} {mt : MethodId} {args : Array Value} {below : List Frame} {meth : Method} {c : Code} {Q : State → Prop} {P : zyP} {X : zyX} {cf : Nat → zT} {y : zY} {fs : List zFr} {nL : Nat} {d : Nat × Nat × Nat}
variable {w : zW} {pc nx ax : Nat} {ls st : List Nat} {q : zQ} {m : zyM} {H : Heap} {locs : List Loc} {lsA : Array Slot} {stA : List Value} {own : String} {cc : ByteArray} {idx pp : Nat}
variable {bt : zW → List Nat → zyM → Bool} {stop : zyK} {n : Nat}
theorem zyrcv_iff {cI : Nat} {as : List Nat} {b : Bool} {AsV : List Value} (hK : zKn (zyb X) s) (hM : zyMem P X s m.1 H) (hA : zySt X as AsV) (h : zyrcv P.1 (cI + 1) as b = true) : b = true ∧ ∃ (a : Addr) (As : List Value), AsV = .ref a :: As ∧ ∃ cellB : Cell, H[a]? = some cellB ∧ cellB.vm.isStatics = false ∧ s.vm.findClass (zcn cI) = some cellB.cls := by
  unfold zyrcv at h
  simp only [zn_m, zn_d, zn_c, zn_s] at h
  rcases zif_iff h with ⟨h1, h9⟩ | ⟨-, h9⟩
  · exact absurd (zbeqT h1) (by omega)
  clear h
  have h := h9
  clear h9
  obtain ⟨a, t, es, h'⟩ := zpop_iff h
  clear h
  have h := h'
  clear h'
  subst es
  obtain ⟨x, u, rfl, hx, hA2⟩ := zySt_c hA
  rcases zif_iff h with ⟨h1, h⟩ | ⟨-, h⟩
  rotate_left
  · cases h
  have ex := zyv_3 hx (zbeqT h1)
  subst ex
  have hlow := zylowH hM
  rcases zif_iff h with ⟨h2, h⟩ | ⟨h2, h⟩
  · have h2 := zbleT h2
    rcases zif_iff h with ⟨h3, h⟩ | ⟨-, h⟩
    rotate_left
    · cases h
    obtain ⟨h3, h4⟩ := zand_iff h3
    have h3 := zbeqT h3
    have h4 : a / 8 - 100000 + 1 ≤ 30 := zbleT h4
    obtain ⟨i, hi⟩ : ∃ i, a / 8 = 100000 + i := ⟨a / 8 - 100000, by omega⟩
    obtain ⟨-, hO, -⟩ := hK.2.2.2.1 i (by omega)
    obtain ⟨cell, g1, g2, g3, -⟩ := hO.kept hlow
    refine ⟨h, _, u, rfl, cell, ?_, g2, ?_⟩
    · rw [hi, zhigh (by omega)]
      exact g1
    · have : cI = 13 := by omega
      rw [this]
      exact g3
  · obtain ⟨⟨tg, ln, ct⟩, hg, h⟩ := zget_iff h
    dsimp only at h
    rcases zif_iff h with ⟨h3, h⟩ | ⟨-, h⟩
    rotate_left
    · cases h
    obtain ⟨h3, h5⟩ := zand_iff h3
    have h3 := zbeqT h3
    have h5 := zbleT h5
    have htg : tg = cI := by omega
    have hfin := h
    subst htg
    rcases (hM.1 _ _ hg).2 with ⟨q1, cell, q2, q3, q4⟩ | ⟨ty, cA, f, q1, -⟩
    · have q1 : tg < 12 := q1
      refine ⟨hfin, _, u, rfl, cell, q2, by rw [q4]; rfl, ?_⟩
      rw [q3]
      exact (hK.2.1 tg _ (zvw _ q1)).2.1
    · have := zty_kd (show zty tg = some ty from q1)
      omega
theorem zyw_call {y2 kd : Nat} (hIH : ∀ k, k < n + 1 → zyMain l bt P stop k) (hst : ∀ w cf y pc ls st q f fs m, stop w cf y pc ls st q (f :: fs) m = false) (hCon : zyCons l P (zyJ X)) (hK : zyKn P X s) (hfr : d.1 ≤ R.frames) (hlo : 64 * d.1 ≤ R.locals) (hmc : d.2.1 ≤ R.cells) (hms : d.2.2 ≤ R.slots) (hd1 : d.2.1 = y.2.1) (hd2 : d.2.2 = y.2.2.1) (hnx : nx = pc + 3)
    (hKS : ∀ k, k ≤ n → zyKS p l e R s mt args below meth c Q P X cf y fs nL d (zyok bt P stop k)) (h : zycall P y2 kd nx ax (zyok bt P stop n) w cf y pc ls st q fs m = true) (hR : zyRl P X s nL d w ls st q m H locs lsA stA)
    (row : ∀ (en2 : zEn) (me2 : zMe) (AsV rest : List Value) (rm : Room) (Pc : Array Value → State → Prop) (Qc : Array Value → State → Outcome → State → Prop), zG zMeth y2 = some me2 → zOK y2 en2 me2 → zKi kd en2 me2 → stA = AsV.reverse ++ rest → AsV.length = en2.2.1 → (rest.map fun v => v.category).sum ≤ 8 →
      Met l me2.1 [Cond.code me2.1 me2.2.1 en2.2.2.1 me2.2.2.1] rm Pc Qc en2.2.2.2.2.2.1 en2.2.2.2.2.2.2.1 (fun q => zbs (zyb X) ≤ q) → rm.cells = en2.2.2.2.2.2.1 → rm.slots = en2.2.2.2.2.2.2.1 → rm.frames + 1 ≤ R.frames → 8 + (en2.2.2.1 + 11) + rm.locals ≤ R.locals → FrameBlind Pc → (∀ U : State, U.heap = H → s.WarmedH U.vm → Pc AsV.toArray U) →
      (¬ kd = 2 → ∃ (a : Addr) (As : List Value), AsV = .ref a :: As ∧ ∃ cellB : Cell, H[a]? = some cellB ∧ cellB.vm.isStatics = false ∧ s.vm.findClass me2.2.2.2 = some cellB.cls) → (q.2.1 + en2.2.2.2.2.2.1 ≤ R.cells ∧ q.2.2 + en2.2.2.2.2.2.2.1 ≤ R.slots) →
      va_Run p l e R s mt args below meth c H locs q.2.1 q.2.2 en2.2.2.2.2.2.1 en2.2.2.2.2.2.2.1 (F0 mt pc lsA stA) rest (Qc AsV.toArray) (fun q => zbs (zyb X) ≤ q)) : W p l e R s mt args below meth c H locs q.2.1 q.2.2 Q (F0 mt pc lsA stA) := by
  subst hnx
  unfold zycall at h
  obtain ⟨gk, hgk, h⟩ := zget_iff h
  rcases zif_iff h with ⟨h0, h⟩ | ⟨-, h⟩
  rotate_left
  · cases h
  have h0 := zbeqT h0
  subst h0
  obtain ⟨en2, hen2, h⟩ := zget_iff h
  obtain ⟨me2, hme2, hOK⟩ := zall hen2
  have hKi : zKi gk en2 me2 := by
    obtain ⟨me3, hm3, hk3⟩ := zallk hen2 hgk
    rw [hme2] at hm3
    cases hm3
    exact hk3
  obtain ⟨cf2, na, ml, ow, yt⟩ := en2
  dsimp only at h
  obtain ⟨asr, r, rfl, hlen, h⟩ := zargs_iff h
  rw [List.append_nil] at h
  obtain ⟨d0, nc, ns⟩ := q
  dsimp only at h
  simp only [zfr_eq, zn_a, zn_c, zn_p] at h
  obtain ⟨qA, rest, rfl, hSa, hSr⟩ := zySt_split hR.2.2.2.2.1
  rcases zif_iff h with ⟨h1, h⟩ | ⟨-, h⟩
  rotate_left
  · cases h
  obtain ⟨h1, h2⟩ := zand_iff h1
  obtain ⟨h2, h3⟩ := zand_iff h2
  obtain ⟨h3, h4⟩ := zand_iff h3
  have h1 := zbleT h1
  have h2 := zbleT h2
  have h3 := zbleT h3
  have h4 := zbleT h4
  have hd0 : d0 = d.1 := hR.2.2.2.2.2.1
  have hA := zySt_rev hSa
  have hrcv : ∀ {b : Bool}, zyrcv P.1 (zif (Nat.beq gk 2) 0 (ow + 1)) asr.reverse b = true → b = true ∧ (¬ gk = 2 → ∃ (a : Addr) (As : List Value), qA.reverse = .ref a :: As ∧ ∃ cellB : Cell, H[a]? = some cellB ∧ cellB.vm.isStatics = false ∧ s.vm.findClass me2.2.2.2 = some cellB.cls) := by
    intro b h
    by_cases hk : gk = 2
    · subst hk
      exact ⟨h, fun q => absurd rfl q⟩
    · have e0 : Nat.beq gk 2 = false := by
        cases hq : Nat.beq gk 2 with
        | false => rfl
        | true => exact absurd (zbeqT hq) hk
      rw [e0] at h
      have h' : zyrcv P.1 (ow + 1) asr.reverse b = true := h
      obtain ⟨g1, g2⟩ := zyrcv_iff hK.1 hR.2.1 hA h'
      refine ⟨g1, fun _ => ?_⟩
      have e1 : zcn ow = me2.2.2.2 := hOK.2.2.2.1
      rw [← e1]
      exact g2
  obtain ⟨hgo, hrec⟩ := hrcv h
  clear h
  have hml40 : ml ≤ 40 := hOK.2.2.2.2.2.1
  rcases zyfind_iff hgo with hpd | ⟨ct, hct, hsub, hpre, hct2⟩
  · obtain ⟨l2, hl2, hle, hl3, h⟩ := zpad_iff hpd
    have hMet := zymet (hIH n (Nat.lt_succ_self n)) hst hCon hK.2 hOK (w := w) (l2 := l2) (d := d0 - 1) (as := asr.reverse) (AsV := qA.reverse) h hR.1.1 hR.1.2.1 hR.1.2.2.2 hA hl2 hle hl3
    have hrun := row (cf2, na, ml, ow, yt) me2 qA.reverse rest _ _ _ hme2 hOK hKi (by rw [List.reverse_reverse]) (by rw [List.length_reverse, zySt_len hSa]; exact hlen) (by rw [zySt_words hSr]; exact h1) hMet rfl rfl (by dsimp only; omega) (by dsimp only; omega)
      (fun a U g mk hp => ⟨hp.1, zKn.same (s := U) rfl hp.2.1, (hp.2.2).moved (u := U) (Vm.Alike.refl U.vm)⟩) (fun U hU hW => ⟨rfl, hK.1.warm hW, by rw [hU]; exact hR.2.1.moved hW.alike⟩) hrec (by dsimp only; omega)
    refine zycont hrun hR.2.2.1 (fun st₀ t vo locs2 hh0 hQ hal hlo2 => ?_)
    obtain ⟨ρ2, w2, v, m2, vo2, ho, hN, hr, hE2, hf2, hvo, hMem2, n', hn', hb⟩ := hQ
    cases ho
    rw [zyback_c] at hb
    refine hKS n' (by omega) ρ2 w2.1 w2 (pc + 3) ls _ (d0, nc + yt.2.1, ns + yt.2.2.1) m2 t.heap locs2 lsA _ hb ⟨⟨hE2, rfl, hR.1.2.2.1.up hN hr, hf2⟩, hMem2.moved hal, hlo2, hR.2.2.2.1.up hN hr, ?_, hR.2.2.2.2.2.1, by dsimp only; omega, by dsimp only; omega⟩
    match v, vo, hvo with
    | [], none, _ => exact hSr.up hN hr
    | [a], some x, hz => exact ⟨hz, hSr.up hN hr⟩
  · rcases zif_iff hct2 with ⟨h5, h⟩ | ⟨-, h⟩
    rotate_left
    · cases h
    have h5 := zbleT h5
    unfold zycon at h
    rcases zif_iff h with ⟨h6, h⟩ | ⟨-, h⟩
    rotate_left
    · cases h
    obtain ⟨h6, h7⟩ := zand_iff h6
    rw [zykeep_eq] at h
    have hI := hR.2.1.base hR.1.1 h6
    have hPk := zypre_iff hR.2.1 hR.1.1 hpre
    have hMet := hCon y2 ct _ me2 hct hen2 hme2 (zyb X) qA.reverse (zysubL_iff hR.1.1 hsub hA)
    have hrun := row (cf2, na, ml, ow, yt) me2 qA.reverse rest _ _ _ hme2 hOK hKi (by rw [List.reverse_reverse]) (by rw [List.length_reverse, zySt_len hSa]; exact hlen) (by rw [zySt_words hSr]; exact h1) hMet rfl rfl (by dsimp only; omega) (by dsimp only; omega)
      (fun a U g mk hp => ⟨hp.1, zKn.same (s := U) rfl hp.2.1, (hp.2.2.1).moved (u := U) (Vm.Alike.refl U.vm), hp.2.2.2⟩) (fun U hU hW => ⟨rfl, hK.1.warm hW, by rw [hU]; exact hI.moved hW.alike, by rw [hU]; exact hPk⟩) hrec (by dsimp only; omega)
    refine zycont hrun hR.2.2.1 (fun st₀ t vo locs2 hh0 hQ hal hlo2 => ?_)
    obtain ⟨vo2, ho, hvo, -, hI2, hPk2, hfr2, hout2⟩ := hQ
    cases ho
    rw [hh0] at hfr2 hout2
    have hM1 := hR.2.1.after (hI2.moved hal) (zysubF_iff h7) hfr2 hout2
    obtain ⟨u, h, hM2⟩ := zyputs_iff h hM1 hPk2
    have hdd : nc + yt.2.1 ≤ d.2.1 ∧ ns + yt.2.2.1 ≤ d.2.2 := ⟨by omega, by omega⟩
    have old1 : ∀ (cd : Nat) (x : Value) (F : Nat → List zyF), zyvo (zyX0 (zyb X) (zyJ X)) [cd] (some x) → zynew cd w (fun w2 v => zyok bt P stop n w2 cf y (pc + 3) ls (v :: r) (d0, nc + yt.2.1, ns + yt.2.2.1) fs (u, F v)) = true → (∀ (ρ2 : Nat → Int32) (w2 : zW) (v : Nat), zyN X ≤ w2.1 → (∀ k, k < zyN X → ρ2 k = zyρ X k) → zyV (zyre X ρ2 w2.1) v x → ∀ f ∈ F v, zyFm (zyre X ρ2 w2.1) f) → W p l e R s mt args below meth c t.heap locs2 (nc + yt.2.1) (ns + yt.2.2.1) Q (F0 mt (pc + 3) lsA ((some x).toList ++ rest)) := by
      intro cd x F hz h hF
      have hz1 : ¬ cd % 8 = 1 := by
        intro q
        rcases hz with ⟨-, g, -⟩ | ⟨g, -⟩ | ⟨g, -⟩
        · exact absurd (g q) (Nat.not_lt_zero _)
        · omega
        · omega
      have hz2 : zyV X cd x := zyv_cl hz1 hz
      obtain ⟨ρ2, w2, v2, hN, hr, hE2, hv2, h⟩ := zynew_iff h hR.1.1 hR.1.2.1 hz2
      exact hKS n (Nat.le_refl n) ρ2 w2.1 w2 (pc + 3) ls _ (d0, nc + yt.2.1, ns + yt.2.2.1) _ t.heap locs2 lsA _ h ⟨⟨hE2, rfl, hR.1.2.2.1.up hN hr, hF ρ2 w2 v2 hN hr hv2⟩, hM2.up hN hr, hlo2, hR.2.2.2.1.up hN hr, ⟨hv2, hSr.up hN hr⟩, hR.2.2.2.2.2.1, hdd.1, hdd.2⟩
    have hEq : ∀ id, zyFo P.2.2.1 (zyFd id) = true → ∀ x1 x2 z : Int32, (zyJ X).2 id (zyEl P.1 (zyb X) H) x1 x2 z → (zyJ X).2 id (zyE X) x1 x2 z := by
      intro id ho x1 x2 z hj
      exact hK.2.2.2.1 id _ _ _ _ _ (fun a k hk => hR.2.1.2.2.1 a k (zyFo_iff ho a k hk)) hj
    cases hres : ct.2.2.1 with
    | nil =>
      rw [hres] at h hvo
      cases vo with
      | some x => exact hvo.elim
      | none =>
        exact hKS n (Nat.le_refl n) (zyρ X) (zyN X) w (pc + 3) ls _ (d0, nc + yt.2.1, ns + yt.2.2.1) _ t.heap locs2 lsA _ h ⟨hR.1, hM2, hlo2, hR.2.2.2.1, hSr, hR.2.2.2.2.2.1, hdd.1, hdd.2⟩
    | cons cd t1 =>
      rw [hres] at h hvo
      cases t1 with
      | nil =>
        cases vo with
        | none => exact hvo.elim
        | some x => exact old1 cd x (fun _ => m.2) hvo h (fun ρ2 w2 v hN hr _ f hf => (hR.1.2.2.2 f hf).up hN hr)
      | cons id t2 =>
        cases t2 with
        | nil =>
          obtain ⟨z, e1, hz, hrel⟩ := hvo
          subst e1
          rw [hh0] at hrel
          refine old1 cd (.int z) (fun v => zyff P id v (zyai asr.reverse 1) (zyai asr.reverse 2) m.2) hz h (fun ρ2 w2 v hN hr hv f hf => ?_)
          rcases zyff_iff hf with q1 | ⟨q1, q2, q3, q4⟩
          · exact (hR.1.2.2.2 f q1).up hN hr
          · rw [q1]
            exact zyFm_mk hv (zyv_up (zyai_iff (X := X) hA) hr hN) (zyv_up (zyai_iff (X := X) hA) hr hN) (hEq id q2 _ _ _ hrel)
        | cons key t3 =>
          cases t3 with
          | cons _ _ =>
            exact False.elim (by
              cases vo <;> exact hvo)
          | nil =>
            obtain ⟨e1, z0, z, hz0, hz1, hz, hrel⟩ := hvo
            subst e1
            rw [hh0] at hrel hz0
            have h : zylk false (fun old => zif (Nat.ble 300 id) (zbd w old (fun lo hi => zfr false (Nat.add hi (Nat.sub id 300)) (fun h2 => zif (Nat.ble h2 4294967295) (zyfresh w lo h2 (fun w2 v => zydel key u (fun u2 => zyok bt P stop n w2 cf y (pc + 3) ls r (d0, nc + yt.2.1, ns + yt.2.2.1) fs ((key, v) :: u2, zyff P id v old (zyai asr.reverse 1) m.2)))) false)))
              (zynew cd w (fun w2 v => zydel key u (fun u2 => zyok bt P stop n w2 cf y (pc + 3) ls r (d0, nc + yt.2.1, ns + yt.2.2.1) fs ((key, v) :: u2, zyff P id v old (zyai asr.reverse 1) m.2))))) key m.1 = true := h
            rw [zylk_eq] at h
            cases hq : zyl m.1 key with
            | none => rw [hq] at h; cases h
            | some old =>
              rw [hq] at h
              dsimp only at h
              have hcd : ¬ cd % 8 = 1 := by
                intro q
                rcases hz with ⟨-, g, -⟩ | ⟨g, -⟩ | ⟨g, -⟩
                · exact absurd (g q) (Nat.not_lt_zero _)
                · omega
                · omega
              obtain ⟨c0, g1, g2⟩ := zyEl_is hz0
              obtain ⟨x0, g3, g4⟩ := hR.2.1.2.1 _ c0 _ g1 g2
              rw [hz0] at g3
              cases g3
              unfold zyEt at g4
              rw [show key / 16384 * 16384 + key % 16384 = key by omega, hq] at g4
              have hnew : ∃ (ρ2 : Nat → Int32) (w2 : zW) (v2 : Nat), zyN X ≤ w2.1 ∧ (∀ k, k < zyN X → ρ2 k = zyρ X k) ∧ zEnv ρ2 w2.2 ∧ zyv ρ2 w2.1 (zad (zyb X)) v2 (.int z) ∧ zydel key u (fun u2 => zyok bt P stop n w2 cf y (pc + 3) ls r (d0, nc + yt.2.1, ns + yt.2.2.1) fs ((key, v2) :: u2, zyff P id v2 old (zyai asr.reverse 1) m.2)) = true := by
                rcases zif_iff h with ⟨h8, h⟩ | ⟨-, h⟩
                · have h8 := zbleT h8
                  obtain ⟨x5, lo, hi, ex, b1, b2, h⟩ := zybd_iff h hR.1.1 g4
                  have ex := Value.int.inj ex
                  subst ex
                  rw [zfr_eq] at h
                  rcases zif_iff h with ⟨h9, h⟩ | ⟨-, h⟩
                  · obtain ⟨q5, q6⟩ := hK.2.2.2.2 id _ _ _ _ h8 hrel
                    obtain ⟨E2, g⟩ := zyfresh_iff h hR.1.1 hR.1.2.1 (x := z) (by omega) (by show zB z ≤ hi + (id - 300); omega)
                    exact ⟨_, (zyN X + 1, _), _, Nat.le_succ _, fun k hk => zyρ2_lt hk, E2, zyv_new z, g⟩
                  · cases h
                · exact zynew_iff h hR.1.1 hR.1.2.1 (show zyV X cd (.int z) from zyv_cl hcd hz)
              clear h
              obtain ⟨ρ2, w2, v2, hN, hr, hE2, hv2, h⟩ := hnew
              rw [zydel_eq] at h
              have hM3 := (hM2.up hN hr).know g1 g2 hz1 hv2
              rw [show key / 16384 * 16384 + key % 16384 = key by omega] at hM3
              refine hKS n (Nat.le_refl n) ρ2 w2.1 w2 (pc + 3) ls _ (d0, nc + yt.2.1, ns + yt.2.2.1) _ t.heap locs2 lsA _ h ⟨⟨hE2, rfl, hR.1.2.2.1.up hN hr, fun f hf => ?_⟩, hM3, hlo2, hR.2.2.2.1.up hN hr, hSr.up hN hr, hR.2.2.2.2.2.1, hdd.1, hdd.2⟩
              rcases zyff_iff hf with q1 | ⟨q1, q2, q3, q4⟩
              · exact (hR.1.2.2.2 f q1).up hN hr
              · rw [q1]
                exact zyFm_mk hv2 (zyv_up g4 hr hN) (zyv_up (zyai_iff (X := X) hA) hr hN) (hEq id q2 _ _ _ hrel)
theorem zyans_iff {g v : Nat} {x : Value} {r : Option FieldType} (h : zyans w g v = true) (hE : zEnv (zyρ X) w.2) (hv : zyV X v x) (hr : zrk r = g) (hg : ¬ g = 3) : ∃ (n : Int32) (ty : FieldType), x = .int n ∧ r = some ty ∧ narrow ty (.int n) = .int n := by
  obtain ⟨-, r1, r2, -, r4, r5⟩ := zrk_1 (r := r)
  unfold zyans at h
  simp only [zn_m, zn_d] at h
  rcases zif_iff h with ⟨h1, h⟩ | ⟨h1, h⟩
  · have e1 := zbeqT h1
    obtain ⟨n, rfl⟩ := zyv_int hv (zbleT h)
    exact ⟨n, .int, rfl, r1 (hr.trans e1), rfl⟩
  rcases zif_iff h with ⟨h2, h⟩ | ⟨h2, h⟩
  · have e1 := zbeqT h2
    obtain ⟨n, lo, hi, rfl, b1, b2, h⟩ := zybd_iff h hE hv
    obtain ⟨g1, g2⟩ := zand_iff h
    have g1 := zbleT g1
    have g2 := zbleT g2
    rcases zybool (x := n) (by omega) (by omega) with rfl | rfl
    · exact ⟨0, .boolean, rfl, r2 (hr.trans e1), by decide⟩
    · exact ⟨1, .boolean, rfl, r2 (hr.trans e1), by decide⟩
  rcases zif_iff h with ⟨h3, h⟩ | ⟨h3, h⟩
  · exact absurd (zbeqT h3) hg
  obtain ⟨h4, h5⟩ := zand_iff h
  obtain ⟨n, lo, hi, rfl, b1, b2, h5⟩ := zybd_iff h5 hE hv
  obtain ⟨g1, g2⟩ := zand_iff h5
  have g1 := zbleT g1
  have g2 := zbleT g2
  obtain ⟨en, l1, e2⟩ := zyp (x := n) (by omega)
  rcases zif_iff h4 with ⟨h7, -⟩ | ⟨-, h7⟩
  · refine ⟨_, .byte, rfl, r4 (hr.trans (zbeqT h7)), ?_⟩
    rw [en]
    exact znb _ (by omega)
  · refine ⟨_, .char, rfl, r5 (hr.trans (zbeqT h7)), ?_⟩
    rw [en]
    exact (pk_charN (q := n.toBitVec.toNat) (by omega)).1
theorem zyw_ret {lg : Bool} {en : zEn} {me : zMe} (hrk : zrk me.2.2.1 = en.2.2.2.2.2.2.2.1) (hdg : decode me.2.1 pc = .ok (if lg then .lreturn else .ireturn, 1)) (hHr : zyHr bt P stop (n + 1) X en me fs p l e R s mt args below meth c Q) (hd1 : d.2.1 = en.2.2.2.2.2.1) (hd2 : d.2.2 = en.2.2.2.2.2.2.1)
    (h : zyo_ret bt lg nx ax (zyok bt P stop n) w cf en.2.2.2.2 pc ls st q fs m = true) (hR : zyRl P X s nL d w ls st q m H locs lsA stA) : W p l e R s mt args below meth c H locs q.2.1 q.2.2 Q (F0 mt pc lsA stA) := by
  unfold zyo_ret at h
  obtain ⟨v, r, es, h'⟩ := zpop_iff h
  clear h
  have h := h'
  clear h'
  subst es
  cases r with
  | cons a t => cases h
  | nil =>
    have h : zif (zand (zif lg (Nat.beq en.2.2.2.2.2.2.2.1 3) (zif (Nat.beq en.2.2.2.2.2.2.2.1 3) false true)) (zyans w en.2.2.2.2.2.2.2.1 v)) (zyback bt [v] (zyok bt P stop n) w fs m) false = true := h
    obtain ⟨x, stB, rfl, hv, hS2⟩ := zySt_c hR.2.2.2.2.1
    have e1 := zySt_n hS2
    subst e1
    rcases zif_iff h with ⟨h1, h⟩ | ⟨-, h⟩
    rotate_left
    · cases h
    obtain ⟨h1, h2⟩ := zand_iff h1
    have hN : zyN X ≤ w.1 := Nat.le_of_eq hR.1.2.1.symm
    refine hHr n (zyρ X) w [v] m H locs lsA pc (some x) q.2.1 q.2.2 (Nat.lt_succ_self n) h ⟨hR.1.1, hR.1.2.2.1.up hN (fun _ _ => rfl), fun f hf => (hR.1.2.2.2 f hf).up hN (fun _ _ => rfl)⟩ (hR.2.1.up hN (fun _ _ => rfl)) hR.2.2.1 (by rw [← hd1]; exact hR.2.2.2.2.2.2.1) (by rw [← hd2]; exact hR.2.2.2.2.2.2.2) (zyv_up hv (fun _ _ => rfl) hN) ?_
    cases lg with
    | false =>
      have h3 : ¬ en.2.2.2.2.2.2.2.1 = 3 := by
        rcases zif_iff (c := Nat.beq en.2.2.2.2.2.2.2.1 3) (t := false) (e := true) h1 with ⟨-, h3⟩ | ⟨h3, -⟩
        · cases h3
        · exact zbeqF h3
      obtain ⟨k, ty, e1, e2, e3⟩ := zyans_iff h2 hR.1.1 hv hrk h3
      exact Or.inl ⟨hdg, k, ty, by rw [e1], e2, e3⟩
    | true =>
      have h3 : en.2.2.2.2.2.2.2.1 = 3 := zbeqT h1
      obtain ⟨-, -, -, r3, -⟩ := zrk_1 (r := me.2.2.1)
      rw [h3] at h2
      obtain ⟨z, e4, -⟩ := zyv_4 hv (zbeqT h2)
      exact Or.inr (Or.inl ⟨hdg, z, by rw [e4], r3 (hrk.trans h3)⟩)
theorem zyw_retv {en : zEn} {me : zMe} (hrk : zrk me.2.2.1 = en.2.2.2.2.2.2.2.1) (hdg : decode me.2.1 pc = .ok (.return_, 1)) (hHr : zyHr bt P stop (n + 1) X en me fs p l e R s mt args below meth c Q) (hd1 : d.2.1 = en.2.2.2.2.2.1) (hd2 : d.2.2 = en.2.2.2.2.2.2.1)
    (h : zyo_retv bt nx ax (zyok bt P stop n) w cf en.2.2.2.2 pc ls st q fs m = true) (hR : zyRl P X s nL d w ls st q m H locs lsA stA) : W p l e R s mt args below meth c H locs q.2.1 q.2.2 Q (F0 mt pc lsA stA) := by
  unfold zyo_retv at h
  cases st with
  | cons a t => cases h
  | nil =>
    have h : zif (Nat.beq en.2.2.2.2.2.2.2.1 0) (zyback bt [] (zyok bt P stop n) w fs m) false = true := h
    have e1 := zySt_n hR.2.2.2.2.1
    subst e1
    rcases zif_iff h with ⟨h1, h⟩ | ⟨-, h⟩
    rotate_left
    · cases h
    have hN : zyN X ≤ w.1 := Nat.le_of_eq hR.1.2.1.symm
    exact hHr n (zyρ X) w [] m H locs lsA pc none q.2.1 q.2.2 (Nat.lt_succ_self n) h ⟨hR.1.1, hR.1.2.2.1.up hN (fun _ _ => rfl), fun f hf => (hR.1.2.2.2 f hf).up hN (fun _ _ => rfl)⟩ (hR.2.1.up hN (fun _ _ => rfl)) hR.2.2.1 (by rw [← hd1]; exact hR.2.2.2.2.2.2.1) (by rw [← hd2]; exact hR.2.2.2.2.2.2.2) trivial (Or.inr (Or.inr ⟨hdg, rfl, zrk_1.1 (hrk.trans (zbeqT h1))⟩))
end ZYC
