/-! IN THE LAW'S LOOP: two contracts of one call; what both sides keep besides -/
section ZLX2
variable {p : Program} {l : Launch} {e : Env} {s : State} {mt : MethodId} {below : List Frame} {meth : Method} {c : Code} {b : Nat} {X : zCx}
theorem zMet_2 {y : MethodName} {ws : List Cond} {r1 r2 : Room} {As : List Value} {F1 F2 : State → Prop} {Q1 Q2 : Array Value → State → Outcome → State → Prop} {mc ms : Nat} {free : Addr → Prop} (rm : Room) (h1 : Met l y ws r1 (va_Pc As F1) Q1 mc ms free) (h2 : Met l y ws r2 (va_Pc As F2) Q2 mc ms free) (l1 : r1.frames ≤ rm.frames ∧ r1.cells ≤ rm.cells ∧ r1.slots ≤ rm.slots ∧ r1.locals ≤ rm.locals) (l2 : r2.frames ≤ rm.frames ∧ r2.cells ≤ rm.cells ∧ r2.slots ≤ rm.slots ∧ r2.locals ≤ rm.locals) (hr1 : ∀ a s o t, Q1 a s o t → ∃ v, o = .returned v) (hr2 : ∀ a s o t, Q2 a s o t → ∃ v, o = .returned v) : Met l y ws rm (va_Pc As (fun U => F1 U ∧ F2 U)) (fun a s o t => Q1 a s o t ∧ Q2 a s o t) mc ms free := by
  refine zyMet_pt (fun a s hp => ?_)
  obtain ⟨rfl, hp1, hp2⟩ := hp
  exact ⟨_, _, zMet_and (zMet_room h1 l1.1 l1.2.1 l1.2.2.1 l1.2.2.2) (zMet_room h2 l2.1 l2.2.1 l2.2.2.1 l2.2.2.2) hr1 hr2, ⟨⟨rfl, hp1⟩, ⟨rfl, hp2⟩⟩, fun o t q => q⟩
/-- the class's call: by the table's contract and by what it does -/
theorem zl_callC2 (hC : zLc X p s mt meth c) {pc ix ax : Nat} {en2 : zEn} {me2 : zMe} {ct : zyCt} {cd : Nat} {rs : List Value} {H : Heap} {locs : List Loc} {ls : Array Slot} {as : List Int32} {dep2 na : Nat} {fp2 : zyR} {Φ2 : (Nat → Int) → zyEm → Prop} {Ψ2 : (Nat → Int) → zyEm → zyEm → Int → Prop} (hrow : zxi0 pc = (.invokevirtual ix, pc + 3, ax)) (hkd : zG zKd (ax / 16) = some 0) (hen2 : zG zxMeta (ax / 16) = some en2) (hme2 : zG zMeth (ax / 16) = some me2) (how : en2.2.2.2.1 = 10) (hna : en2.2.1 = as.length + 1) (hc2 : en2.2.2.2.2.2.1 = 0) (hs2 : en2.2.2.2.2.2.2.1 = 0) (hdep : ct.2.2.2.1 ≤ 100) (hrs : (rs.map fun v => v.category).sum ≤ 8)
    (hcon : zyCon l zymc zyJc en2 me2 ct) (hres : ct.2.2.1 = [cd]) (hst : zySt (zyX0 X zyJc) ct.1 (.ref (zad X 0) :: as.map Value.int)) (hF : xFcB l zymc X en2 me2 dep2 [0] na fp2 true Φ2 Ψ2) (hd2 : dep2 ≤ 100) (has : as.length = na) (hΦ2 : Φ2 (xfv (as.map xI)) (zyEl zymc X H)) (hI : zyMI zymc X zyJc s H) (hpk : zyPk zymc X ct.2.2.2.2.1 H) (hsz : ls.size = 4) (hlo : ∀ x ∈ locs, zbs X ≤ x.base)
    (kk : ∀ (H3 : Heap) (z : Int32) (locs2 : List Loc), zyMI zymc X zyJc s H3 → zyOut zymc X H H3 → zyPk zymc X ct.2.2.2.2.2 H3 → (∀ a k, zyin ct.2.1 a k = false → zyEl zymc X H3 a k = zyEl zymc X H a k) → xFr fp2 (zyEl zymc X H) (zyEl zymc X H3) → Ψ2 (xfv (as.map xI)) (zyEl zymc X H) (zyEl zymc X H3) (xI z) → (∀ x ∈ locs2, zbs X ≤ x.base) → zWL p l e s mt below meth c b H3 locs2 (pc + 3) ls (.int z :: rs)) : zWL p l e s mt below meth c b H locs pc ls ((.ref (zad X 0) :: as.map Value.int).reverse ++ rs) := by
  have hK := hC.2.2.2.2.2.2.1
  obtain ⟨me3, hme3, hO2⟩ := zall hen2
  rw [hme2] at hme3
  cases hme3
  have hcn : zcn en2.2.2.2.1 = me2.2.2.2 := hO2.2.2.2.1
  obtain ⟨c0, hg0, he0⟩ : ∃ c0, zG zymc 0 = some c0 ∧ c0.1 = 10 := ⟨_, rfl, rfl⟩
  obtain ⟨cellB, h1, h2, h3⟩ := zl_recv hK hI hg0 he0 (by decide) me2.2.2.2 (by rw [← how]; exact hcn)
  have hM := zMet_2 { frames := 100, cells := en2.2.2.2.2.2.1, slots := en2.2.2.2.2.2.2.1, locals := 64 * 100 } (hcon X _ hst) (hF as has) ⟨hdep, Nat.le_refl _, Nat.le_refl _, Nat.mul_le_mul_left 64 hdep⟩ ⟨hd2, Nat.le_refl _, Nat.le_refl _, Nat.mul_le_mul_left 64 hd2⟩ (fun _ _ _ _ ⟨vo, ho, _⟩ => ⟨vo, ho⟩) (fun _ _ _ _ ⟨vo, ho, _⟩ => ⟨vo, ho⟩)
  refine zl_call hC hrow hkd hen2 hme2 (by show (as.map Value.int).length + 1 = _; rw [List.length_map, hna]) hc2 hs2 (dep := 100) (by decide) hrs hM (fun a U g mk hp => ⟨hp.1, ⟨zKn.same (s := U) rfl hp.2.1.1, (hp.2.1.2.1).moved (u := U) (Vm.Alike.refl U.vm), hp.2.1.2.2⟩, zKn.same (s := U) rfl hp.2.2.1, (hp.2.2.2.1).moved (u := U) (Vm.Alike.refl U.vm), hp.2.2.2.2⟩) (fun U hU hW => ⟨⟨hK.warm hW, by rw [hU]; exact hI.moved hW.alike, by rw [hU]; exact hpk⟩, hK.warm hW, by rw [hU]; exact (show zyMI zymc X zyJ0 s H from ⟨hI.1, hI.2.1, trivial, hI.2.2.2⟩).moved hW.alike, by rw [hU]; exact hΦ2⟩) ⟨zad X 0, _, rfl, cellB, h1, h2, h3⟩ hsz hlo (fun st₀ t vo locs2 hh0 hQ hal hlo2 => ?_)
  obtain ⟨⟨vo2, ho, hv, -, hI2, hpo, hfr, hout⟩, vo3, ho3, -, -, ⟨hf, z, hz, hΨ⟩, -⟩ := hQ
  cases ho
  cases ho3
  rw [hh0] at hfr hout hf hΨ
  rw [if_pos rfl] at hz
  subst hz
  exact kk t.heap z locs2 (hI2.moved hal) hout hpo hfr hf hΨ hlo2
/-- the reference's -/
theorem zl_callR2 (hC : zLc X p s mt meth c) {pc ix ax dep na : Nat} {en2 : zEn} {me2 : zMe} {rs : List Value} {H : Heap} {locs : List Loc} {ls : Array Slot} {x : zyCl} {Φ : List Int32 → zyEm → Prop} {Ψ : List Int32 → zyEm → zyEm → Option Value → Prop} {as : List Int32} {dep2 : Nat} {fp2 : zyR} {Φ2 : (Nat → Int) → zyEm → Prop} {Ψ2 : (Nat → Int) → zyEm → zyEm → Int → Prop} (hrow : zxi0 pc = (.invokevirtual ix, pc + 3, ax)) (hkd : zG zKd (ax / 16) = some 0) (hen2 : zG zxMeta (ax / 16) = some en2) (hme2 : zG zMeth (ax / 16) = some me2) (how : en2.2.2.2.1 = 11) (hna : en2.2.1 = na + 1) (hc2 : en2.2.2.2.2.2.1 = 0) (hs2 : en2.2.2.2.2.2.2.1 = 0) (hdep : dep ≤ 100) (hrs : (rs.map fun v => v.category).sum ≤ 8)
    (hHc : zyHc l (zymrX x) en2 me2 dep na Φ Ψ) (hF : xFcB l zymx X en2 me2 dep2 [74] na fp2 true Φ2 Ψ2) (hd2 : dep2 ≤ 100) (has : as.length = na) (hI : zyMI (zymrX x) X zyJ0 s H) (hIx : zyMI zymx X zyJ0 s H) (hΦ : Φ as (zyEl (zymrX x) X H)) (hΦ2 : Φ2 (xfv (as.map xI)) (zyEl zymx X H)) (hsz : ls.size = 4) (hlo : ∀ x ∈ locs, zbs X ≤ x.base)
    (kk : ∀ (H3 : Heap) (z : Int32) (locs2 : List Loc), zyMI (zymrX x) X zyJ0 s H3 → zyOut (zymrX x) X H H3 → Ψ as (zyEl (zymrX x) X H) (zyEl (zymrX x) X H3) (some (.int z)) → xFr fp2 (zyEl zymx X H) (zyEl zymx X H3) → Ψ2 (xfv (as.map xI)) (zyEl zymx X H) (zyEl zymx X H3) (xI z) → (∀ x ∈ locs2, zbs X ≤ x.base) → zWL p l e s mt below meth c b H3 locs2 (pc + 3) ls (.int z :: rs)) : zWL p l e s mt below meth c b H locs pc ls ((zyAr X as).reverse ++ rs) := by
  have hK := hC.2.2.2.2.2.2.1
  obtain ⟨me3, hme3, hO2⟩ := zall hen2
  rw [hme2] at hme3
  cases hme3
  have hcn : zcn en2.2.2.2.1 = me2.2.2.2 := hO2.2.2.2.1
  obtain ⟨cellB, h1, h2, h3⟩ := zl_recv hK hI (show zG (zymrX x) 74 = some zymr74 from rfl) (k := 11) rfl (by decide) me2.2.2.2 (by rw [← how]; exact hcn)
  have hM := zMet_2 { frames := 100, cells := en2.2.2.2.2.2.1, slots := en2.2.2.2.2.2.2.1, locals := 64 * 100 } (hHc X as has) (hF as has) ⟨hdep, Nat.le_refl _, Nat.le_refl _, Nat.mul_le_mul_left 64 hdep⟩ ⟨hd2, Nat.le_refl _, Nat.le_refl _, Nat.mul_le_mul_left 64 hd2⟩ (fun _ _ _ _ ⟨vo, ho, _⟩ => ⟨vo, ho⟩) (fun _ _ _ _ ⟨vo, ho, _⟩ => ⟨vo, ho⟩)
  refine zl_call hC hrow hkd hen2 hme2 (by show (as.map Value.int).length + 1 = _; rw [List.length_map, has, hna]) hc2 hs2 (dep := 100) (by decide) hrs hM (fun a U g mk hp => ⟨hp.1, ⟨zKn.same (s := U) rfl hp.2.1.1, (hp.2.1.2.1).moved (u := U) (Vm.Alike.refl U.vm), hp.2.1.2.2⟩, zKn.same (s := U) rfl hp.2.2.1, (hp.2.2.2.1).moved (u := U) (Vm.Alike.refl U.vm), hp.2.2.2.2⟩) (fun U hU hW => ⟨⟨hK.warm hW, by rw [hU]; exact hI.moved hW.alike, by rw [hU]; exact hΦ⟩, hK.warm hW, by rw [hU]; exact hIx.moved hW.alike, by rw [hU]; exact hΦ2⟩) ⟨zad X 74, _, rfl, cellB, h1, h2, h3⟩ hsz hlo (fun st₀ t vo locs2 hh0 hQ hal hlo2 => ?_)
  obtain ⟨⟨vo2, ho, -, hI2, hΨ, hout⟩, vo3, ho3, -, -, ⟨hf, z, hz, hΨ2⟩, -⟩ := hQ
  cases ho
  cases ho3
  rw [hh0] at hΨ hout hf hΨ2
  rw [if_pos rfl] at hz
  subst hz
  exact kk t.heap z locs2 (hI2.moved hal) hout hΨ hf hΨ2 hlo2
/-- which plan stands where -/
def zOr (X : zCx) (H : Heap) : Prop := (zyEl zymc X H 0 1 = some (.ref (zad X 1)) ∧ zyEl zymc X H 0 2 = some (.ref (zad X 18))) ∨ (zyEl zymc X H 0 1 = some (.ref (zad X 18)) ∧ zyEl zymc X H 0 2 = some (.ref (zad X 1)))
/-- both tapes hold the same bytes -/
def zTp (X : zCx) (q : Nat) (H : Heap) : Prop := ∀ k : Int, 0 ≤ k → k < (q : Int) → xE (zyEl zymc X H) 36 k = xE (zyEl zymx X H) 84 k
/-- the fault told, its place -/
def zFl (X : zCx) (H : Heap) : Prop := xE (zyEl zymc X H) 35 2 = xE (zyEl zymx X H) 74 34 ∧ xE (zyEl zymc X H) 35 3 = xE (zyEl zymx X H) 74 35
/-- both sides: bytes on the tapes, T at most N -/
def zLI (X : zCx) (s : State) (N q : Nat) (H : Heap) : Prop := (zyCS X q s H ∧ zyRS X N q s H) ∧ zOr X H ∧ xWs (zyEl zymx X H) ∧ zTp X q H ∧ zFl X H
theorem zFl_k {H H2 : Heap} (h : zFl X H) (h1 : zyEl zymc X H2 35 2 = zyEl zymc X H 35 2) (h2 : zyEl zymc X H2 35 3 = zyEl zymc X H 35 3) (h3 : zyEl zymx X H2 74 34 = zyEl zymx X H 74 34) (h4 : zyEl zymx X H2 74 35 = zyEl zymx X H 74 35) : zFl X H2 := by
  obtain ⟨a, b⟩ := h
  unfold zFl
  unfold xE at a b ⊢
  rw [show (2 : Int).toNat = 2 from rfl, show (34 : Int).toNat = 34 from rfl] at a
  rw [show (3 : Int).toNat = 3 from rfl, show (35 : Int).toNat = 35 from rfl] at b
  rw [show (2 : Int).toNat = 2 from rfl, show (34 : Int).toNat = 34 from rfl, show (3 : Int).toNat = 3 from rfl, show (35 : Int).toNat = 35 from rfl, h1, h2, h3, h4]
  exact ⟨a, b⟩
theorem zLI_h {N q : Nat} {H : Heap} (h : zLI X s N q H) : zLh X H := h.1.1.1.2.2.2
theorem zyR_el {J2 : zyJt} {N q : Nat} {H H2 : Heap} (h : zyRS X N q s H) (h2 : zyMI zymc X J2 s H2) (ho : zyOut zymc X H H2) : ∀ a k, 74 ≤ a → zyEl zymx X H2 a k = zyEl zymx X H a k := by
  obtain ⟨r, c, hp, hI, -⟩ := h
  obtain ⟨e, -⟩ := zyMI_keep hI h2 ho (fun a c1 c2 h1 h2 => (zyshared (x := zymr75 r c) h2 h1).symm)
  intro a k ha
  rw [← zyElx r c X H2, ← zyElx r c X H]
  exact e a k (zymc_no ha)
theorem zyC_el {x : zyCl} {J2 : zyJt} {q : Nat} {H H2 : Heap} (h : zyCS X q s H) (h2 : zyMI (zymrX x) X J2 s H2) (ho : zyOut (zymrX x) X H H2) : ∀ a k, a < 72 → zyEl zymc X H2 a k = zyEl zymc X H a k := by
  obtain ⟨e, -⟩ := zyMI_keep h.1 h2 ho (fun a c c2 => zyshared)
  exact fun a k ha => e a k (zymrX_no ha)
theorem zTp_k {q : Nat} {H H2 : Heap} (h : zTp X q H) (h1 : ∀ k, zyEl zymc X H2 36 k = zyEl zymc X H 36 k) (h2 : ∀ k, zyEl zymx X H2 84 k = zyEl zymx X H 84 k) : zTp X q H2 := by
  intro k k0 k1
  have e := h k k0 k1
  unfold xE at e ⊢
  rw [h1, h2]
  exact e
theorem zOr_k {H H2 : Heap} (h : zOr X H) (h1 : zyEl zymc X H2 0 1 = zyEl zymc X H 0 1) (h2 : zyEl zymc X H2 0 2 = zyEl zymc X H 0 2) : zOr X H2 := by
  unfold zOr
  rw [h1, h2]
  exact h
theorem zLI_C {N q : Nat} {H H3 : Heap} (h : zLI X s N q H) (hI3 : zyMI zymc X zyJc s H3) (ho : zyOut zymc X H H3) (hq : zyEl zymc X H3 35 1 = zyEl zymc X H 35 1) (h1 : zyEl zymc X H3 0 1 = zyEl zymc X H 0 1) (h2 : zyEl zymc X H3 0 2 = zyEl zymc X H 0 2) (h36 : ∀ k, zyEl zymc X H3 36 k = zyEl zymc X H 36 k) (hf2 : zyEl zymc X H3 35 2 = zyEl zymc X H 35 2) (hf3 : zyEl zymc X H3 35 3 = zyEl zymc X H 35 3) : zLI X s N q H3 := by
  obtain ⟨⟨hCS, hRS⟩, hOr, hW, hT, hFl⟩ := h
  have el := zyR_el hRS hI3 ho
  exact ⟨⟨⟨hI3, hq.trans hCS.2⟩, zyRS_keep hRS hI3 ho⟩, zOr_k hOr h1 h2, fun k hk => (el 85 k (by decide)).trans (hW k hk), zTp_k hT h36 (fun k => el 84 k (by decide)), zFl_k hFl hf2 hf3 (el 74 34 (by decide)) (el 74 35 (by decide))⟩
theorem zLI_up {N M q : Nat} {H : Heap} (h : zLI X s N q H) (hm : N ≤ M) : zLI X s M q H := by
  obtain ⟨⟨h1, r, c0, hp, hI, hJ, ht, T, hT, hT2⟩, h2⟩ := h
  exact ⟨⟨h1, r, c0, hp, hI, hJ, ht, T, by omega, hT2⟩, h2⟩
/-- the class's method by contract: any ints, one int; the tape, its size, the plans' places stay -/
def zUC (l : Launch) (y n : Nat) (Φ : List Int32 → Prop) : Prop := ∃ (ct : zyCt) (cd : Nat), (∀ en me, zG zxMeta y = some en → zG zMeth y = some me → zyCon l zymc zyJc en me ct) ∧ (∀ (B : zCx) (as : List Int32), as.length = n → Φ as → zySt (zyX0 B zyJc) ct.1 (.ref (zad B 0) :: as.map Value.int)) ∧ ct.2.2.1 = [cd] ∧ cd % 8 ≤ 2 ∧ ct.2.2.2.2.1 = [] ∧ ct.2.2.2.1 ≤ 100 ∧ (zyin ct.2.1 35 1 = false ∧ zyin ct.2.1 0 1 = false ∧ zyin ct.2.1 0 2 = false ∧ (∀ k, zyin ct.2.1 36 k = false) ∧ zyin ct.2.1 35 2 = false ∧ zyin ct.2.1 35 3 = false)
def zUR (l : Launch) (y n : Nat) (Φ : List Int32 → Prop) : Prop := ∃ dep : Nat, dep ≤ 100 ∧ ∀ r c, zyPr r c → ∀ en me, zG zxMeta y = some en → zG zMeth y = some me → zyHc l (zymr r c) en me dep n (fun xs E => Φ xs ∧ zyΦu xs E) zyΨv
theorem zUR_of {l : Launch} {y n dep : Nat} (hd : dep ≤ 100) (h : ∀ r c, 1 ≤ r → r ≤ 4 → 1 ≤ c → c ≤ 5 → ∀ en me, zG zxMeta y = some en → zG zMeth y = some me → zyHc l (zymr r c) en me dep n zyΦu zyΨv) : zUR l y n (fun _ => True) := ⟨dep, hd, fun r c hp en me he hm => zyHc_mono (h r c hp.1 hp.2.1 hp.2.2.1 hp.2.2.2 en me he hm) (fun _ _ _ _ q => q.2) (fun _ _ _ _ _ _ _ q => q)⟩
theorem zyFu0 {B : zCx} {J : zyJt} : ∀ {as : List Int32} {n : Nat}, as.length = n → zySt (zyX0 B J) (List.replicate n 34359738362) (as.map Value.int) := by
  intro as
  induction as with
  | nil => intro n h; subst h; trivial
  | cons a t ih =>
    intro n h
    subst h
    rw [List.length_cons, List.replicate_succ, List.map_cons]
    exact ⟨zyFx a, ih rfl⟩
theorem zyC0 {B : zCx} {J : zyJt} : zyV (zyX0 B J) 3 (.ref (zad B 0)) := Or.inl ⟨Or.inr (Or.inr (Or.inr (Or.inl ⟨rfl, rfl⟩))), fun q => absurd q (by decide), fun q => absurd q (by decide)⟩
theorem zUC_of {l : Launch} {y n i cd : Nat} (h : zyCo l zymc zyJc zyic i) (h1 : (zyIg zyic i).1 = y) (h2 : (zyIg zyic i).2.1.1 = 3 :: List.replicate n 34359738362) (h3 : (zyIg zyic i).2.1.2.2.1 = [cd]) (h4 : cd % 8 ≤ 2) (h5 : (zyIg zyic i).2.1.2.2.2.2.1 = []) (h6 : (zyIg zyic i).2.1.2.2.2.1 ≤ 100) (h7 : zyin (zyIg zyic i).2.1.2.1 35 1 = false) (h8 : zyin (zyIg zyic i).2.1.2.1 0 1 = false) (h9 : zyin (zyIg zyic i).2.1.2.1 0 2 = false) (h10 : ∀ k, zyin (zyIg zyic i).2.1.2.1 36 k = false) (h11 : zyin (zyIg zyic i).2.1.2.1 35 2 = false) (h12 : zyin (zyIg zyic i).2.1.2.1 35 3 = false) : zUC l y n (fun _ => True) := ⟨(zyIg zyic i).2.1, cd, fun en me he hm => h en me (by rw [h1]; exact he) (by rw [h1]; exact hm), fun B as ha _ => by rw [h2]; exact ⟨zyC0, zyFu0 ha⟩, h3, h4, h5, h6, h7, h8, h9, h10, h11, h12⟩
theorem zyAr_r {B : zCx} {as : List Int32} : (zyAr B as).reverse ++ ([] : List Value) = (as.map Value.int).reverse ++ [.ref (zad B 74)] := by
  show (Value.ref (zad B 74) :: as.map Value.int).reverse ++ [] = _
  rw [List.reverse_cons, List.append_nil]
/-- the class's call -/
theorem zl_UC (hC : zLc X p s mt meth c) {y n N q pc ix ax : Nat} {en2 : zEn} {Φ : List Int32 → Prop} (hc : zUC l y n Φ) {rs : List Value} {H : Heap} {locs : List Loc} {ls : Array Slot} {as : List Int32} (hrow : zxi0 pc = (.invokevirtual ix, pc + 3, ax)) (hy : ax / 16 = y) (hkd : zG zKd y = some 0) (hen2 : zG zxMeta y = some en2) (how : en2.2.2.2.1 = 10) (hna : en2.2.1 = n + 1) (hc2 : en2.2.2.2.2.2.1 = 0) (hs2 : en2.2.2.2.2.2.2.1 = 0) (hrs : (rs.map fun v => v.category).sum ≤ 8) (has : as.length = n) (hΦ : Φ as) (hI : zLI X s N q H) (hsz : ls.size = 4) (hlo : ∀ x ∈ locs, zbs X ≤ x.base)
    (kk : ∀ (H3 : Heap) (z : Int32) (locs2 : List Loc), zLI X s N q H3 → (∀ x ∈ locs2, zbs X ≤ x.base) → zWL p l e s mt below meth c b H3 locs2 (pc + 3) ls (.int z :: rs)) : zWL p l e s mt below meth c b H locs pc ls ((as.map Value.int).reverse ++ (.ref (zad X 0) :: rs)) := by
  obtain ⟨ct, cd, h1, h2, h3, h4, h5, h6, h7, h8, h9, h10, h11, h12⟩ := hc
  subst hy
  obtain ⟨me2, hme2, -⟩ := zall hen2
  have e : (as.map Value.int).reverse ++ (.ref (zad X 0) :: rs) = (Value.ref (zad X 0) :: as.map Value.int).reverse ++ rs := by
    rw [List.reverse_cons, List.append_assoc]
    rfl
  rw [e]
  refine zl_callC hC hrow hkd hen2 hme2 how (by rw [hna, has]) hc2 hs2 h6 hrs (h1 en2 me2 hen2 hme2) h3 (h2 X as has hΦ) hI.1.1.1 (by rw [h5]; intro q hq; cases hq) hsz hlo (fun H3 vo locs2 hI3 ho3 _ hfr hv hlo2 => ?_)
  obtain ⟨z, rfl⟩ := zyvo_z h4 hv
  exact kk H3 z locs2 (zLI_C hI hI3 ho3 (hfr 35 1 h7) (hfr 0 1 h8) (hfr 0 2 h9) (fun k => hfr 36 k (h10 k)) (hfr 35 2 h11) (hfr 35 3 h12)) hlo2
/-- the reference's call -/
theorem zl_UR (hC : zLc X p s mt meth c) {y n N q pc ix ax : Nat} {en2 : zEn} {Φ : List Int32 → Prop} (hr : zUR l y n Φ) {rs : List Value} {H : Heap} {locs : List Loc} {ls : Array Slot} {as : List Int32} (hrow : zxi0 pc = (.invokevirtual ix, pc + 3, ax)) (hy : ax / 16 = y) (hkd : zG zKd y = some 0) (hen2 : zG zxMeta y = some en2) (how : en2.2.2.2.1 = 11) (hna : en2.2.1 = n + 1) (hc2 : en2.2.2.2.2.2.1 = 0) (hs2 : en2.2.2.2.2.2.2.1 = 0) (hrs : (rs.map fun v => v.category).sum ≤ 8) (has : as.length = n) (hΦ : Φ as) (hI : zLI X s N q H) (hN : N ≤ 1000000) (hsz : ls.size = 4) (hlo : ∀ x ∈ locs, zbs X ≤ x.base)
    (kk : ∀ (H3 : Heap) (z : Int32) (locs2 : List Loc), zLI X s (N + 100) q H3 → (∀ x ∈ locs2, zbs X ≤ x.base) → zWL p l e s mt below meth c b H3 locs2 (pc + 3) ls (.int z :: rs)) : zWL p l e s mt below meth c b H locs pc ls ((as.map Value.int).reverse ++ (.ref (zad X 74) :: rs)) := by
  obtain ⟨dep, hd, hr⟩ := hr
  subst hy
  obtain ⟨me2, hme2, -⟩ := zall hen2
  obtain ⟨⟨hCS, r, c0, hp, hI1, hJ, ht, T, hT, hT2⟩, hOr, hW, hTp, hFl⟩ := hI
  have e : (as.map Value.int).reverse ++ (.ref (zad X 74) :: rs) = (zyAr X as).reverse ++ rs := by
    show _ = (Value.ref (zad X 74) :: as.map Value.int).reverse ++ rs
    rw [List.reverse_cons, List.append_assoc]
    rfl
  rw [e]
  refine zl_callR hC (x := zymr75 r c0) hrow hkd hen2 hme2 how hna hc2 hs2 hd hrs (hr r c0 hp en2 me2 hen2 hme2) has hI1 ?_ hsz hlo (fun H3 vo locs2 hI3 ho3 hΨ hlo2 => ?_)
  · show Φ as ∧ zyΦu as (zyEl (zymr r c0) X H)
    rw [zyElx r c0 X H]
    exact ⟨hΦ, hJ, T, by omega, hT2⟩
  · have hΨ : zyΨv as (zyEl (zymr r c0) X H) (zyEl (zymr r c0) X H3) vo := hΨ
    rw [zyElx r c0 X H, zyElx r c0 X H3] at hΨ
    obtain ⟨⟨⟨g1, g2, g3⟩, z, rfl⟩, v84, v85, v74⟩ := hΨ
    obtain ⟨T', hT', e'⟩ := g3 T (by omega) hT2
    have el := zyC_el hCS hI3 ho3
    exact kk H3 z locs2 ⟨⟨zyCS_keep hCS hI3 ho3, r, c0, hp, hI3, g1, g2.trans ht, T', by omega, e'⟩, zOr_k hOr (el 0 1 (by decide)) (el 0 2 (by decide)), fun k hk => (v85 k).trans (hW k hk), zTp_k hTp (fun k => el 36 k (by decide)) v84, zFl_k hFl (el 35 2 (by decide)) (el 35 3 (by decide)) (v74 34 (by decide) (by decide)) (v74 35 (by decide) (by decide))⟩ hlo2
/-- the rows of such a case -/
def zUr (pc : Nat) (ks : List Nat) (yc yr : Nat) : Prop := zxi0 pc = (.aload_n 1, pc + 1, 0) ∧ zAg (pc + 1) ks ∧ (∃ ix ax, zxi0 (pc + 1 + 5 * ks.length) = (.invokevirtual ix, pc + 1 + 5 * ks.length + 3, ax) ∧ ax / 16 = yc) ∧ zxi0 (pc + 1 + 5 * ks.length + 3) = (.pop, pc + 1 + 5 * ks.length + 3 + 1, 0) ∧ zxi0 (pc + 1 + 5 * ks.length + 4) = (.aload_n 2, pc + 1 + 5 * ks.length + 4 + 1, 0) ∧ zAg (pc + 1 + 5 * ks.length + 5) ks ∧ (∃ ix ax, zxi0 (pc + 1 + 5 * ks.length + 5 + 5 * ks.length) = (.invokevirtual ix, pc + 1 + 5 * ks.length + 5 + 5 * ks.length + 3, ax) ∧ ax / 16 = yr) ∧ zxi0 (pc + 1 + 5 * ks.length + 5 + 5 * ks.length + 3) = (.pop, pc + 1 + 5 * ks.length + 5 + 5 * ks.length + 3 + 1, 0) ∧ ∃ off ax, zxi0 (pc + 1 + 5 * ks.length + 5 + 5 * ks.length + 4) = (.goto off, pc + 1 + 5 * ks.length + 5 + 5 * ks.length + 4 + 3, ax) ∧ ((pc + 1 + 5 * ks.length + 5 + 5 * ks.length + 4 : Nat) : Int) + off = ((1479 : Nat) : Int)
def zUm (y n ow : Nat) : Prop := zG zKd y = some 0 ∧ ∃ en2 : zEn, zG zxMeta y = some en2 ∧ en2.2.2.2.1 = ow ∧ en2.2.1 = n + 1 ∧ en2.2.2.2.2.2.1 = 0 ∧ en2.2.2.2.2.2.2.1 = 0
theorem zl_uni (hC : zLc X p s mt meth c) {L i : Nat} {xs : Nat → Int32} (hS : zSc0 s X b L xs) {ls : Array Slot} (hl : zLl X b i ls) (hi : i + 5 < L) {yc yr N q pc : Nat} {ks : List Nat} (hc : zUC l yc ks.length (fun _ => True)) (hr : zUR l yr ks.length (fun _ => True)) (hrow : zUr pc ks yc yr) (hmc : zUm yc ks.length 10) (hmr : zUm yr ks.length 11) {H : Heap} {locs : List Loc} (hI : zLI X s N q H) (hN : N ≤ 1000000) (hlo : ∀ x ∈ locs, zbs X ≤ x.base)
    (kk : ∀ (H3 : Heap) (locs2 : List Loc), zLI X s (N + 100) q H3 → (∀ x ∈ locs2, zbs X ≤ x.base) → zWL p l e s mt below meth c b H3 locs2 1479 ls []) : zWL p l e s mt below meth c b H locs pc ls [] := by
  obtain ⟨r0, r1, ⟨ix, ax, r2, hy⟩, r3, r4, r5, ⟨ix2, ax2, r6, hy2⟩, r7, off, ax3, r8, htgt⟩ := hrow
  obtain ⟨kc, enc, m1, m2, m3, m4, m5⟩ := hmc
  obtain ⟨kr, enr, n1, n2, n3, n4, n5⟩ := hmr
  have hexec := hC.1
  have hb := hC.2.1
  have hm : ∀ ks : List Nat, (ks.map fun k => Value.int (xs (i + k))) = (ks.map fun k => xs (i + k)).map Value.int := fun ks => by rw [List.map_map]; rfl
  refine lv_aload_n hexec hb (zdL r0 (fun q => by cases q)) rfl (lv_at hl 2 rfl) ?_
  refine zl_args hC hS (zLI_h hI) hl hi r1 ?_
  rw [hm]
  refine zl_UC hC hc r2 hy kc m1 m2 m3 m4 m5 (by decide) (by rw [List.length_map]) trivial hI hl.1 hlo (fun H3 z locs2 hI3 hlo2 => ?_)
  refine lv_pop hexec hb (zdL r3 (fun q => by cases q)) rfl ?_
  refine lv_aload_n hexec hb (zdL r4 (fun q => by cases q)) rfl (lv_at hl 1 rfl) ?_
  refine zl_args hC hS (zLI_h hI3) hl hi r5 ?_
  rw [hm]
  refine zl_UR hC hr r6 hy2 kr n1 n2 n3 n4 n5 (by decide) (by rw [List.length_map]) trivial hI3 hN hl.1 hlo2 (fun H4 z2 locs3 hI4 hlo3 => ?_)
  refine lv_pop hexec hb (zdL r7 (fun q => by cases q)) rfl ?_
  exact lv_goto hexec hb (zdL r8 (fun q => by cases q)) htgt (kk H4 locs3 hI4 hlo3)
end ZLX2
