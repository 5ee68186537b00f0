/-! IN THE LAW'S LOOP: two contracts of one call; what both sides keep besides -/
section ZLX2
variable {p : Program} {l : Launch} {e : Env} {s : State} {mt : MethodId} {below : List Frame} {meth : Method} {c : Code} {b : Nat} {X : zCx}
theorem zMet_2 {y : MethodName} {ws : List Cond} {r1 r2 : Room} {As : List Value} {F1 F2 : State → Prop} {Q1 Q2 : Array Value → State → Outcome → State → Prop} {mc ms : Nat} {free : Addr → Prop} (rm : Room) (h1 : Met l y ws r1 (va_Pc As F1) Q1 mc ms free) (h2 : Met l y ws r2 (va_Pc As F2) Q2 mc ms free) (l1 : r1.frames ≤ rm.frames ∧ r1.cells ≤ rm.cells ∧ r1.slots ≤ rm.slots ∧ r1.locals ≤ rm.locals) (l2 : r2.frames ≤ rm.frames ∧ r2.cells ≤ rm.cells ∧ r2.slots ≤ rm.slots ∧ r2.locals ≤ rm.locals) (hr1 : ∀ a s o t, Q1 a s o t → ∃ v, o = .returned v) (hr2 : ∀ a s o t, Q2 a s o t → ∃ v, o = .returned v) : Met l y ws rm (va_Pc As (fun U => F1 U ∧ F2 U)) (fun a s o t => Q1 a s o t ∧ Q2 a s o t) mc ms free := by
  refine zyMet_pt (fun a s hp => ?_)
  obtain ⟨rfl, hp1, hp2⟩ := hp
  exact ⟨_, _, zMet_and (zMet_room h1 l1.1 l1.2.1 l1.2.2.1 l1.2.2.2) (zMet_room h2 l2.1 l2.2.1 l2.2.2.1 l2.2.2.2) hr1 hr2, ⟨⟨rfl, hp1⟩, ⟨rfl, hp2⟩⟩, fun o t q => q⟩
/-- the class's call: by the table's contract and by what it does -/
theorem zl_callC2 (hC : zLc X p s mt meth c) {pc ix ax : Nat} {en2 : zEn} {me2 : zMe} {ct : zyCt} {cd : Nat} {rs : List Value} {H : Heap} {locs : List Loc} {ls : Array Slot} {as : List Int32} {dep2 na : Nat} {fp2 : zyR} {Φ2 : (Nat → Int) → zyEm → Prop} {Ψ2 : (Nat → Int) → zyEm → zyEm → Int → Prop} (hrow : zxi0 pc = (.invokevirtual ix, pc + 3, ax)) (hkd : zG zKd (ax / 16) = some 0) (hen2 : zG zxMeta (ax / 16) = some en2) (hme2 : zG zMeth (ax / 16) = some me2) (how : en2.2.2.2.1 = 10) (hna : en2.2.1 = as.length + 1) (hc2 : en2.2.2.2.2.2.1 = 0) (hs2 : en2.2.2.2.2.2.2.1 = 0) (hdep : ct.2.2.2.1 ≤ 100) (hrs : (rs.map fun v => v.category).sum ≤ 8)
    (hcon : zyCon l zymc zyJc en2 me2 ct) (hres : ct.2.2.1 = [cd]) (hst : zySt (zyX0 X zyJc) ct.1 (.ref (zad X 0) :: as.map Value.int)) (hF : xFcB l zymc X en2 me2 dep2 [0] na fp2 true Φ2 Ψ2) (hd2 : dep2 ≤ 100) (has : as.length = na) (hΦ2 : Φ2 (xfv (as.map xI)) (zyEl zymc X H)) (hI : zyMI zymc X zyJc s H) (hpk : zyPk zymc X ct.2.2.2.2.1 H) (hsz : ls.size = 4) (hlo : ∀ x ∈ locs, zbs X ≤ x.base)
    (kk : ∀ (H3 : Heap) (z : Int32) (locs2 : List Loc), zyMI zymc X zyJc s H3 → zyOut zymc X H H3 → zyPk zymc X ct.2.2.2.2.2 H3 → (∀ a k, zyin ct.2.1 a k = false → zyEl zymc X H3 a k = zyEl zymc X H a k) → xFr fp2 (zyEl zymc X H) (zyEl zymc X H3) → Ψ2 (xfv (as.map xI)) (zyEl zymc X H) (zyEl zymc X H3) (xI z) → (∀ x ∈ locs2, zbs X ≤ x.base) → zWL p l e s mt below meth c b H3 locs2 (pc + 3) ls (.int z :: rs)) : zWL p l e s mt below meth c b H locs pc ls ((.ref (zad X 0) :: as.map Value.int).reverse ++ rs) := by
  have hK := hC.2.2.2.2.2.2.1
  obtain ⟨me3, hme3, hO2⟩ := zall hen2
  rw [hme2] at hme3
  cases hme3
  have hcn : zcn en2.2.2.2.1 = me2.2.2.2 := hO2.2.2.2.1
  obtain ⟨c0, hg0, he0⟩ : ∃ c0, zG zymc 0 = some c0 ∧ c0.1 = 10 := ⟨_, rfl, rfl⟩
  obtain ⟨cellB, h1, h2, h3⟩ := zl_recv hK hI hg0 he0 (by decide) me2.2.2.2 (by rw [← how]; exact hcn)
  have hM := zMet_2 { frames := 100, cells := en2.2.2.2.2.2.1, slots := en2.2.2.2.2.2.2.1, locals := 64 * 100 } (hcon X _ hst) (hF as has) ⟨hdep, Nat.le_refl _, Nat.le_refl _, Nat.mul_le_mul_left 64 hdep⟩ ⟨hd2, Nat.le_refl _, Nat.le_refl _, Nat.mul_le_mul_left 64 hd2⟩ (fun _ _ _ _ ⟨vo, ho, _⟩ => ⟨vo, ho⟩) (fun _ _ _ _ ⟨vo, ho, _⟩ => ⟨vo, ho⟩)
  refine zl_call hC hrow hkd hen2 hme2 (by show (as.map Value.int).length + 1 = _; rw [List.length_map, hna]) hc2 hs2 (dep := 100) (by decide) hrs hM (fun a U g mk hp => ⟨hp.1, ⟨zKn.same (s := U) rfl hp.2.1.1, (hp.2.1.2.1).moved (u := U) (Vm.Alike.refl U.vm), hp.2.1.2.2⟩, zKn.same (s := U) rfl hp.2.2.1, (hp.2.2.2.1).moved (u := U) (Vm.Alike.refl U.vm), hp.2.2.2.2⟩) (fun U hU hW => ⟨⟨hK.warm hW, by rw [hU]; exact hI.moved hW.alike, by rw [hU]; exact hpk⟩, hK.warm hW, by rw [hU]; exact (show zyMI zymc X zyJ0 s H from ⟨hI.1, hI.2.1, trivial, hI.2.2.2⟩).moved hW.alike, by rw [hU]; exact hΦ2⟩) ⟨zad X 0, _, rfl, cellB, h1, h2, h3⟩ hsz hlo (fun st₀ t vo locs2 hh0 hQ hal hlo2 => ?_)
  obtain ⟨⟨vo2, ho, hv, -, hI2, hpo, hfr, hout⟩, vo3, ho3, -, -, ⟨hf, z, hz, hΨ⟩, -⟩ := hQ
  cases ho
  cases ho3
  rw [hh0] at hfr hout hf hΨ
  rw [if_pos rfl] at hz
  subst hz
  exact kk t.heap z locs2 (hI2.moved hal) hout hpo hfr hf hΨ hlo2
/-- the reference's -/
theorem zl_callR2 (hC : zLc X p s mt meth c) {pc ix ax dep na : Nat} {en2 : zEn} {me2 : zMe} {rs : List Value} {H : Heap} {locs : List Loc} {ls : Array Slot} {x : zyCl} {Φ : List Int32 → zyEm → Prop} {Ψ : List Int32 → zyEm → zyEm → Option Value → Prop} {as : List Int32} {dep2 : Nat} {fp2 : zyR} {Φ2 : (Nat → Int) → zyEm → Prop} {Ψ2 : (Nat → Int) → zyEm → zyEm → Int → Prop} (hrow : zxi0 pc = (.invokevirtual ix, pc + 3, ax)) (hkd : zG zKd (ax / 16) = some 0) (hen2 : zG zxMeta (ax / 16) = some en2) (hme2 : zG zMeth (ax / 16) = some me2) (how : en2.2.2.2.1 = 11) (hna : en2.2.1 = na + 1) (hc2 : en2.2.2.2.2.2.1 = 0) (hs2 : en2.2.2.2.2.2.2.1 = 0) (hdep : dep ≤ 100) (hrs : (rs.map fun v => v.category).sum ≤ 8)
    (hHc : zyHc l (zymrX x) en2 me2 dep na Φ Ψ) (hF : xFcB l zymx X en2 me2 dep2 [74] na fp2 true Φ2 Ψ2) (hd2 : dep2 ≤ 100) (has : as.length = na) (hI : zyMI (zymrX x) X zyJ0 s H) (hIx : zyMI zymx X zyJ0 s H) (hΦ : Φ as (zyEl (zymrX x) X H)) (hΦ2 : Φ2 (xfv (as.map xI)) (zyEl zymx X H)) (hsz : ls.size = 4) (hlo : ∀ x ∈ locs, zbs X ≤ x.base)
    (kk : ∀ (H3 : Heap) (z : Int32) (locs2 : List Loc), zyMI (zymrX x) X zyJ0 s H3 → zyOut (zymrX x) X H H3 → Ψ as (zyEl (zymrX x) X H) (zyEl (zymrX x) X H3) (some (.int z)) → xFr fp2 (zyEl zymx X H) (zyEl zymx X H3) → Ψ2 (xfv (as.map xI)) (zyEl zymx X H) (zyEl zymx X H3) (xI z) → (∀ x ∈ locs2, zbs X ≤ x.base) → zWL p l e s mt below meth c b H3 locs2 (pc + 3) ls (.int z :: rs)) : zWL p l e s mt below meth c b H locs pc ls ((zyAr X as).reverse ++ rs) := by
  have hK := hC.2.2.2.2.2.2.1
  obtain ⟨me3, hme3, hO2⟩ := zall hen2
  rw [hme2] at hme3
  cases hme3
  have hcn : zcn en2.2.2.2.1 = me2.2.2.2 := hO2.2.2.2.1
  obtain ⟨cellB, h1, h2, h3⟩ := zl_recv hK hI (show zG (zymrX x) 74 = some zymr74 from rfl) (k := 11) rfl (by decide) me2.2.2.2 (by rw [← how]; exact hcn)
  have hM := zMet_2 { frames := 100, cells := en2.2.2.2.2.2.1, slots := en2.2.2.2.2.2.2.1, locals := 64 * 100 } (hHc X as has) (hF as has) ⟨hdep, Nat.le_refl _, Nat.le_refl _, Nat.mul_le_mul_left 64 hdep⟩ ⟨hd2, Nat.le_refl _, Nat.le_refl _, Nat.mul_le_mul_left 64 hd2⟩ (fun _ _ _ _ ⟨vo, ho, _⟩ => ⟨vo, ho⟩) (fun _ _ _ _ ⟨vo, ho, _⟩ => ⟨vo, ho⟩)
  refine zl_call hC hrow hkd hen2 hme2 (by show (as.map Value.int).length + 1 = _; rw [List.length_map, has, hna]) hc2 hs2 (dep := 100) (by decide) hrs hM (fun a U g mk hp => ⟨hp.1, ⟨zKn.same (s := U) rfl hp.2.1.1, (hp.2.1.2.1).moved (u := U) (Vm.Alike.refl U.vm), hp.2.1.2.2⟩, zKn.same (s := U) rfl hp.2.2.1, (hp.2.2.2.1).moved (u := U) (Vm.Alike.refl U.vm), hp.2.2.2.2⟩) (fun U hU hW => ⟨⟨hK.warm hW, by rw [hU]; exact hI.moved hW.alike, by rw [hU]; exact hΦ⟩, hK.warm hW, by rw [hU]; exact hIx.moved hW.alike, by rw [hU]; exact hΦ2⟩) ⟨zad X 74, _, rfl, cellB, h1, h2, h3⟩ hsz hlo (fun st₀ t vo locs2 hh0 hQ hal hlo2 => ?_)
  obtain ⟨⟨vo2, ho, -, hI2, hΨ, hout⟩, vo3, ho3, -, -, ⟨hf, z, hz, hΨ2⟩, -⟩ := hQ
  cases ho
  cases ho3
  rw [hh0] at hΨ hout hf hΨ2
  rw [if_pos rfl] at hz
  subst hz
  exact kk t.heap z locs2 (hI2.moved hal) hout hΨ hf hΨ2 hlo2
/-- which plan stands where -/
def zOr (X : zCx) (H : Heap) : Prop := (zyEl zymc X H 0 1 = some (.ref (zad X 1)) ∧ zyEl zymc X H 0 2 = some (.ref (zad X 18))) ∨ (zyEl zymc X H 0 1 = some (.ref (zad X 18)) ∧ zyEl zymc X H 0 2 = some (.ref (zad X 1)))
/-- both tapes hold the same bytes -/
def zTp (X : zCx) (q : Nat) (H : Heap) : Prop := ∀ k : Int, 0 ≤ k → k < (q : Int) → xE (zyEl zymc X H) 36 k = xE (zyEl zymx X H) 84 k
theorem zpl_lt' : ∀ a ∈ [2, 4, 10, 11, 12, 13, 19, 21, 27, 28, 29, 30], a < 72 := by decide
/-- places of both plans -/
def zpl : List Nat := [2, 4, 10, 11, 12, 13, 19, 21, 27, 28, 29, 30]
theorem zpl_lt {a : Nat} (h : a ∈ zpl) : a < 72 := zpl_lt' a h
def zpck (fp : zyR) : Bool := fp.all fun p => !(zpl.contains p.1)
theorem zpl_in {fp : zyR} (h : zpck fp = true) {a : Nat} (ha : a ∈ zpl) (k : Nat) : zyin fp a k = false := by
  cases hq : zyin fp a k with
  | false => rfl
  | true =>
    exfalso
    obtain ⟨p, hp, g1, g2, g3⟩ := zyin_iff.mp hq
    have h2 := List.all_eq_true.mp h p hp
    rw [g1, Bool.not_eq_true', List.contains_iff_mem.mpr ha] at h2
    cases h2
/-- both sides' plans are alike -/
def zPl (X : zCx) (H : Heap) : Prop := (zyEl zymc X H 0 1 = some (.ref (zad X 1)) ∧ zyEl zymc X H 0 2 = some (.ref (zad X 18)) ∧ xPb0 (zyEl zymc X H) (xE (zyEl zymx X H) 75)) ∨ (zyEl zymc X H 0 1 = some (.ref (zad X 18)) ∧ zyEl zymc X H 0 2 = some (.ref (zad X 1)) ∧ xPb17 (zyEl zymc X H) (xE (zyEl zymx X H) 75))
theorem zPl_k {H H2 : Heap} (h : zPl X H) (h1 : zyEl zymc X H2 0 1 = zyEl zymc X H 0 1) (h2 : zyEl zymc X H2 0 2 = zyEl zymc X H 0 2) (hE : ∀ a ∈ zpl, ∀ k, zyEl zymc X H2 a k = zyEl zymc X H a k) (hS : ∀ k : Int, (k = 0 ∨ k = 1 ∨ (8 ≤ k ∧ k ≤ 135)) → xE (zyEl zymx X H2) 75 k = xE (zyEl zymx X H) 75 k) : zPl X H2 := by
  have hE2 : ∀ a ∈ zpl, ∀ k : Int, xE (zyEl zymc X H2) a k = xE (zyEl zymc X H) a k := fun a ha k => by unfold xE; rw [hE a ha]
  rcases h with ⟨o1, o2, h⟩ | ⟨o1, o2, h⟩
  · exact Or.inl ⟨h1.trans o1, h2.trans o2, xPb0_k h (fun a ha k _ => hE2 a (by rcases ha with rfl | rfl | rfl | rfl | rfl | rfl <;> decide) k) hS⟩
  · exact Or.inr ⟨h1.trans o1, h2.trans o2, xPb17_k h (fun a ha k _ => hE2 a (by rcases ha with rfl | rfl | rfl | rfl | rfl | rfl <;> decide) k) hS⟩
theorem zxE_k {mi : zyB} {H H2 : Heap} {a : Nat} (h : ∀ k, zyEl mi X H2 a k = zyEl mi X H a k) : xE (zyEl mi X H2) a = xE (zyEl mi X H) a := funext fun k => by unfold xE; rw [h]
theorem zKw_xE {E E2 : zyEm} (h : zyKw E E2) : ∀ k : Int, (k = 0 ∨ k = 1 ∨ (8 ≤ k ∧ k ≤ 135)) → xE E2 75 k = xE E 75 k := fun k hk => by
  unfold xE
  rw [h k.toNat (by omega)]
/-- both sides: bytes on the tapes, T at most N -/
def zL0 (X : zCx) (s : State) (N q : Nat) (H : Heap) : Prop := (zyCS X q s H ∧ zyRS X N q s H) ∧ zOr X H ∧ xWs (zyEl zymx X H) ∧ zTp X q H
def zLI (X : zCx) (s : State) (N q : Nat) (H : Heap) : Prop := (zyCS X q s H ∧ zyRS X N q s H) ∧ zOr X H ∧ xWs (zyEl zymx X H) ∧ zTp X q H ∧ zPl X H
theorem zL0_h {N q : Nat} {H : Heap} (h : zL0 X s N q H) : zLh X H := h.1.1.1.2.2.2
theorem zLI_h {N q : Nat} {H : Heap} (h : zLI X s N q H) : zLh X H := h.1.1.1.2.2.2
theorem zyR_el {J2 : zyJt} {N q : Nat} {H H2 : Heap} (h : zyRS X N q s H) (h2 : zyMI zymc X J2 s H2) (ho : zyOut zymc X H H2) : ∀ a k, 74 ≤ a → zyEl zymx X H2 a k = zyEl zymx X H a k := by
  obtain ⟨r, c, hp, hI, -⟩ := h
  obtain ⟨e, -⟩ := zyMI_keep hI h2 ho (fun a c1 c2 h1 h2 => (zyshared (x := zymr75 r c) h2 h1).symm)
  intro a k ha
  rw [← zyElx r c X H2, ← zyElx r c X H]
  exact e a k (zymc_no ha)
theorem zyC_el {x : zyCl} {J2 : zyJt} {q : Nat} {H H2 : Heap} (h : zyCS X q s H) (h2 : zyMI (zymrX x) X J2 s H2) (ho : zyOut (zymrX x) X H H2) : ∀ a k, a < 72 → zyEl zymc X H2 a k = zyEl zymc X H a k := by
  obtain ⟨e, -⟩ := zyMI_keep h.1 h2 ho (fun a c c2 => zyshared)
  exact fun a k ha => e a k (zymrX_no ha)
theorem zTp_k {q : Nat} {H H2 : Heap} (h : zTp X q H) (h1 : ∀ k, zyEl zymc X H2 36 k = zyEl zymc X H 36 k) (h2 : ∀ k, zyEl zymx X H2 84 k = zyEl zymx X H 84 k) : zTp X q H2 := by
  intro k k0 k1
  have e := h k k0 k1
  unfold xE at e ⊢
  rw [h1, h2]
  exact e
theorem zOr_k {H H2 : Heap} (h : zOr X H) (h1 : zyEl zymc X H2 0 1 = zyEl zymc X H 0 1) (h2 : zyEl zymc X H2 0 2 = zyEl zymc X H 0 2) : zOr X H2 := by
  unfold zOr
  rw [h1, h2]
  exact h
theorem zLI_C {N q : Nat} {H H3 : Heap} (h : zLI X s N q H) (hI3 : zyMI zymc X zyJc s H3) (ho : zyOut zymc X H H3) (hq : zyEl zymc X H3 35 1 = zyEl zymc X H 35 1) (h1 : zyEl zymc X H3 0 1 = zyEl zymc X H 0 1) (h2 : zyEl zymc X H3 0 2 = zyEl zymc X H 0 2) (h36 : ∀ k, zyEl zymc X H3 36 k = zyEl zymc X H 36 k) (hpl : ∀ a ∈ zpl, ∀ k, zyEl zymc X H3 a k = zyEl zymc X H a k) : zLI X s N q H3 := by
  obtain ⟨⟨hCS, hRS⟩, hOr, hW, hT, hPl⟩ := h
  have el := zyR_el hRS hI3 ho
  exact ⟨⟨⟨hI3, hq.trans hCS.2⟩, zyRS_keep hRS hI3 ho⟩, zOr_k hOr h1 h2, fun k hk => (el 85 k (by decide)).trans (hW k hk), zTp_k hT h36 (fun k => el 84 k (by decide)), zPl_k hPl h1 h2 hpl (fun k _ => by rw [zxE_k (fun k => el 75 k (by decide))])⟩
theorem zL0_C {N q : Nat} {H H3 : Heap} (h : zL0 X s N q H) (hI3 : zyMI zymc X zyJc s H3) (ho : zyOut zymc X H H3) (hq : zyEl zymc X H3 35 1 = zyEl zymc X H 35 1) (h1 : zyEl zymc X H3 0 1 = zyEl zymc X H 0 1) (h2 : zyEl zymc X H3 0 2 = zyEl zymc X H 0 2) (h36 : ∀ k, zyEl zymc X H3 36 k = zyEl zymc X H 36 k) : zL0 X s N q H3 := by
  obtain ⟨⟨hCS, hRS⟩, hOr, hW, hT⟩ := h
  have el := zyR_el hRS hI3 ho
  exact ⟨⟨⟨hI3, hq.trans hCS.2⟩, zyRS_keep hRS hI3 ho⟩, zOr_k hOr h1 h2, fun k hk => (el 85 k (by decide)).trans (hW k hk), zTp_k hT h36 (fun k => el 84 k (by decide))⟩
theorem zLI_up {N M q : Nat} {H : Heap} (h : zLI X s N q H) (hm : N ≤ M) : zLI X s M q H := by
  obtain ⟨⟨h1, r, c0, hp, hI, hJ, ht, T, hT, hT2⟩, h2⟩ := h
  exact ⟨⟨h1, r, c0, hp, hI, hJ, ht, T, by omega, hT2⟩, h2⟩
/-- the class's method by contract: any ints, one int; the tape, its size, the plans' places stay -/
def zUC (l : Launch) (y n : Nat) (Φ : List Int32 → Prop) : Prop := ∃ (ct : zyCt) (cd : Nat), (∀ en me, zG zxMeta y = some en → zG zMeth y = some me → zyCon l zymc zyJc en me ct) ∧ (∀ (B : zCx) (as : List Int32), as.length = n → Φ as → zySt (zyX0 B zyJc) ct.1 (.ref (zad B 0) :: as.map Value.int)) ∧ ct.2.2.1 = [cd] ∧ cd % 8 ≤ 2 ∧ ct.2.2.2.2.1 = [] ∧ ct.2.2.2.1 ≤ 100 ∧ (zyin ct.2.1 35 1 = false ∧ zyin ct.2.1 0 1 = false ∧ zyin ct.2.1 0 2 = false ∧ (∀ k, zyin ct.2.1 36 k = false) ∧ zpck ct.2.1 = true)
def zUR (l : Launch) (y n : Nat) (Φ : List Int32 → Prop) : Prop := ∃ dep : Nat, dep ≤ 100 ∧ ∀ r c, zyPr r c → ∀ en me, zG zxMeta y = some en → zG zMeth y = some me → zyHc l (zymr r c) en me dep n (fun xs E => Φ xs ∧ zyΦu xs E) zyΨw
/-- the same of those that change the plan -/
def zURv (l : Launch) (y n : Nat) (Φ : List Int32 → Prop) : Prop := ∃ dep : Nat, dep ≤ 100 ∧ ∀ r c, zyPr r c → ∀ en me, zG zxMeta y = some en → zG zMeth y = some me → zyHc l (zymr r c) en me dep n (fun xs E => Φ xs ∧ zyΦu xs E) zyΨv
theorem zURv_of {l : Launch} {y n dep : Nat} (hd : dep ≤ 100) (h : ∀ r c, 1 ≤ r → r ≤ 4 → 1 ≤ c → c ≤ 5 → ∀ en me, zG zxMeta y = some en → zG zMeth y = some me → zyHc l (zymr r c) en me dep n zyΦu zyΨv) : zURv l y n (fun _ => True) := ⟨dep, hd, fun r c hp en me he hm => zyHc_mono (h r c hp.1 hp.2.1 hp.2.2.1 hp.2.2.2 en me he hm) (fun _ _ _ _ q => q.2) (fun _ _ _ _ _ _ _ q => q)⟩
def zUCv (l : Launch) (y n : Nat) (Φ : List Int32 → Prop) : Prop := ∃ (ct : zyCt) (cd : Nat), (∀ en me, zG zxMeta y = some en → zG zMeth y = some me → zyCon l zymc zyJc en me ct) ∧ (∀ (B : zCx) (as : List Int32), as.length = n → Φ as → zySt (zyX0 B zyJc) ct.1 (.ref (zad B 0) :: as.map Value.int)) ∧ ct.2.2.1 = [cd] ∧ cd % 8 ≤ 2 ∧ ct.2.2.2.2.1 = [] ∧ ct.2.2.2.1 ≤ 100 ∧ (zyin ct.2.1 35 1 = false ∧ zyin ct.2.1 0 1 = false ∧ zyin ct.2.1 0 2 = false ∧ ∀ k, zyin ct.2.1 36 k = false)
theorem zUR_of {l : Launch} {y n dep : Nat} (hd : dep ≤ 100) (h : ∀ r c, 1 ≤ r → r ≤ 4 → 1 ≤ c → c ≤ 5 → ∀ en me, zG zxMeta y = some en → zG zMeth y = some me → zyHc l (zymr r c) en me dep n zyΦu zyΨw) : zUR l y n (fun _ => True) := ⟨dep, hd, fun r c hp en me he hm => zyHc_mono (h r c hp.1 hp.2.1 hp.2.2.1 hp.2.2.2 en me he hm) (fun _ _ _ _ q => q.2) (fun _ _ _ _ _ _ _ q => q)⟩
theorem zyFu0 {B : zCx} {J : zyJt} : ∀ {as : List Int32} {n : Nat}, as.length = n → zySt (zyX0 B J) (List.replicate n 34359738362) (as.map Value.int) := by
  intro as
  induction as with
  | nil => intro n h; subst h; trivial
  | cons a t ih =>
    intro n h
    subst h
    rw [List.length_cons, List.replicate_succ, List.map_cons]
    exact ⟨zyFx a, ih rfl⟩
theorem zyC0 {B : zCx} {J : zyJt} : zyV (zyX0 B J) 3 (.ref (zad B 0)) := Or.inl ⟨Or.inr (Or.inr (Or.inr (Or.inl ⟨rfl, rfl⟩))), fun q => absurd q (by decide), fun q => absurd q (by decide)⟩
theorem zUC_of {l : Launch} {y n i cd : Nat} (h : zyCo l zymc zyJc zyic i) (h1 : (zyIg zyic i).1 = y) (h2 : (zyIg zyic i).2.1.1 = 3 :: List.replicate n 34359738362) (h3 : (zyIg zyic i).2.1.2.2.1 = [cd]) (h4 : cd % 8 ≤ 2) (h5 : (zyIg zyic i).2.1.2.2.2.2.1 = []) (h6 : (zyIg zyic i).2.1.2.2.2.1 ≤ 100) (h7 : zyin (zyIg zyic i).2.1.2.1 35 1 = false) (h8 : zyin (zyIg zyic i).2.1.2.1 0 1 = false) (h9 : zyin (zyIg zyic i).2.1.2.1 0 2 = false) (h10 : ∀ k, zyin (zyIg zyic i).2.1.2.1 36 k = false) (h11 : zpck (zyIg zyic i).2.1.2.1 = true) : zUC l y n (fun _ => True) := ⟨(zyIg zyic i).2.1, cd, fun en me he hm => h en me (by rw [h1]; exact he) (by rw [h1]; exact hm), fun B as ha _ => by rw [h2]; exact ⟨zyC0, zyFu0 ha⟩, h3, h4, h5, h6, h7, h8, h9, h10, h11⟩
theorem zUCv_of {l : Launch} {y n i cd : Nat} (h : zyCo l zymc zyJc zyic i) (h1 : (zyIg zyic i).1 = y) (h2 : (zyIg zyic i).2.1.1 = 3 :: List.replicate n 34359738362) (h3 : (zyIg zyic i).2.1.2.2.1 = [cd]) (h4 : cd % 8 ≤ 2) (h5 : (zyIg zyic i).2.1.2.2.2.2.1 = []) (h6 : (zyIg zyic i).2.1.2.2.2.1 ≤ 100) (h7 : zyin (zyIg zyic i).2.1.2.1 35 1 = false) (h8 : zyin (zyIg zyic i).2.1.2.1 0 1 = false) (h9 : zyin (zyIg zyic i).2.1.2.1 0 2 = false) (h10 : ∀ k, zyin (zyIg zyic i).2.1.2.1 36 k = false) : zUCv l y n (fun _ => True) := ⟨(zyIg zyic i).2.1, cd, fun en me he hm => h en me (by rw [h1]; exact he) (by rw [h1]; exact hm), fun B as ha _ => by rw [h2]; exact ⟨zyC0, zyFu0 ha⟩, h3, h4, h5, h6, h7, h8, h9, h10⟩
theorem zyAr_r {B : zCx} {as : List Int32} : (zyAr B as).reverse ++ ([] : List Value) = (as.map Value.int).reverse ++ [.ref (zad B 74)] := by
  show (Value.ref (zad B 74) :: as.map Value.int).reverse ++ [] = _
  rw [List.reverse_cons, List.append_nil]
/-- the class's call -/
theorem zl_UC (hC : zLc X p s mt meth c) {y n N q pc ix ax : Nat} {en2 : zEn} {Φ : List Int32 → Prop} (hc : zUC l y n Φ) {rs : List Value} {H : Heap} {locs : List Loc} {ls : Array Slot} {as : List Int32} (hrow : zxi0 pc = (.invokevirtual ix, pc + 3, ax)) (hy : ax / 16 = y) (hkd : zG zKd y = some 0) (hen2 : zG zxMeta y = some en2) (how : en2.2.2.2.1 = 10) (hna : en2.2.1 = n + 1) (hc2 : en2.2.2.2.2.2.1 = 0) (hs2 : en2.2.2.2.2.2.2.1 = 0) (hrs : (rs.map fun v => v.category).sum ≤ 8) (has : as.length = n) (hΦ : Φ as) (hI : zLI X s N q H) (hsz : ls.size = 4) (hlo : ∀ x ∈ locs, zbs X ≤ x.base)
    (kk : ∀ (H3 : Heap) (z : Int32) (locs2 : List Loc), zLI X s N q H3 → (∀ x ∈ locs2, zbs X ≤ x.base) → zWL p l e s mt below meth c b H3 locs2 (pc + 3) ls (.int z :: rs)) : zWL p l e s mt below meth c b H locs pc ls ((as.map Value.int).reverse ++ (.ref (zad X 0) :: rs)) := by
  obtain ⟨ct, cd, h1, h2, h3, h4, h5, h6, h7, h8, h9, h10, h11⟩ := hc
  subst hy
  obtain ⟨me2, hme2, -⟩ := zall hen2
  have e : (as.map Value.int).reverse ++ (.ref (zad X 0) :: rs) = (Value.ref (zad X 0) :: as.map Value.int).reverse ++ rs := by
    rw [List.reverse_cons, List.append_assoc]
    rfl
  rw [e]
  refine zl_callC hC hrow hkd hen2 hme2 how (by rw [hna, has]) hc2 hs2 h6 hrs (h1 en2 me2 hen2 hme2) h3 (h2 X as has hΦ) hI.1.1.1 (by rw [h5]; intro q hq; cases hq) hsz hlo (fun H3 vo locs2 hI3 ho3 _ hfr hv hlo2 => ?_)
  obtain ⟨z, rfl⟩ := zyvo_z h4 hv
  exact kk H3 z locs2 (zLI_C hI hI3 ho3 (hfr 35 1 h7) (hfr 0 1 h8) (hfr 0 2 h9) (fun k => hfr 36 k (h10 k)) (fun a ha k => hfr a k (zpl_in h11 ha k))) hlo2
/-- the reference's call -/
theorem zl_UR (hC : zLc X p s mt meth c) {y n N q pc ix ax : Nat} {en2 : zEn} {Φ : List Int32 → Prop} (hr : zUR l y n Φ) {rs : List Value} {H : Heap} {locs : List Loc} {ls : Array Slot} {as : List Int32} (hrow : zxi0 pc = (.invokevirtual ix, pc + 3, ax)) (hy : ax / 16 = y) (hkd : zG zKd y = some 0) (hen2 : zG zxMeta y = some en2) (how : en2.2.2.2.1 = 11) (hna : en2.2.1 = n + 1) (hc2 : en2.2.2.2.2.2.1 = 0) (hs2 : en2.2.2.2.2.2.2.1 = 0) (hrs : (rs.map fun v => v.category).sum ≤ 8) (has : as.length = n) (hΦ : Φ as) (hI : zLI X s N q H) (hN : N ≤ 1000000) (hsz : ls.size = 4) (hlo : ∀ x ∈ locs, zbs X ≤ x.base)
    (kk : ∀ (H3 : Heap) (z : Int32) (locs2 : List Loc), zLI X s (N + 100) q H3 → (∀ x ∈ locs2, zbs X ≤ x.base) → zWL p l e s mt below meth c b H3 locs2 (pc + 3) ls (.int z :: rs)) : zWL p l e s mt below meth c b H locs pc ls ((as.map Value.int).reverse ++ (.ref (zad X 74) :: rs)) := by
  obtain ⟨dep, hd, hr⟩ := hr
  subst hy
  obtain ⟨me2, hme2, -⟩ := zall hen2
  obtain ⟨⟨hCS, r, c0, hp, hI1, hJ, ht, T, hT, hT2⟩, hOr, hW, hTp, hPl⟩ := hI
  have e : (as.map Value.int).reverse ++ (.ref (zad X 74) :: rs) = (zyAr X as).reverse ++ rs := by
    show _ = (Value.ref (zad X 74) :: as.map Value.int).reverse ++ rs
    rw [List.reverse_cons, List.append_assoc]
    rfl
  rw [e]
  refine zl_callR hC (x := zymr75 r c0) hrow hkd hen2 hme2 how hna hc2 hs2 hd hrs (hr r c0 hp en2 me2 hen2 hme2) has hI1 ?_ hsz hlo (fun H3 vo locs2 hI3 ho3 hΨ hlo2 => ?_)
  · show Φ as ∧ zyΦu as (zyEl (zymr r c0) X H)
    rw [zyElx r c0 X H]
    exact ⟨hΦ, hJ, T, by omega, hT2⟩
  · have hΨ : zyΨw as (zyEl (zymr r c0) X H) (zyEl (zymr r c0) X H3) vo := hΨ
    rw [zyElx r c0 X H, zyElx r c0 X H3] at hΨ
    obtain ⟨⟨⟨⟨g1, g2, g3⟩, z, rfl⟩, v84, v85, v74⟩, kw⟩ := hΨ
    obtain ⟨T', hT', e'⟩ := g3 T (by omega) hT2
    have el := zyC_el hCS hI3 ho3
    exact kk H3 z locs2 ⟨⟨zyCS_keep hCS hI3 ho3, r, c0, hp, hI3, g1, g2.trans ht, T', by omega, e'⟩, zOr_k hOr (el 0 1 (by decide)) (el 0 2 (by decide)), fun k hk => (v85 k).trans (hW k hk), zTp_k hTp (fun k => el 36 k (by decide)) v84, zPl_k hPl (el 0 1 (by decide)) (el 0 2 (by decide)) (fun a ha k => el a k (zpl_lt ha)) (zKw_xE kw)⟩ hlo2
/-- half-way: what the reference will answer, and that the plans will be alike -/
def zMid (X : zCx) (H : Heap) (fpr : zyR) (Ψr : (Nat → Int) → zyEm → zyEm → Int → Prop) (x : Nat → Int) (z : Int) : Prop := (zyEl zymc X H 0 1 = some (.ref (zad X 1)) ∧ zyEl zymc X H 0 2 = some (.ref (zad X 18)) ∧ sRC (xE (zyEl zymx X H) 75) ∧ ∀ R2 r2, xFr fpr (zyEl zymx X H) R2 → Ψr x (zyEl zymx X H) R2 r2 → r2 = z ∧ xPb0 (zyEl zymc X H) (xE R2 75)) ∨ (zyEl zymc X H 0 1 = some (.ref (zad X 18)) ∧ zyEl zymc X H 0 2 = some (.ref (zad X 1)) ∧ sRC (xE (zyEl zymx X H) 75) ∧ ∀ R2 r2, xFr fpr (zyEl zymx X H) R2 → Ψr x (zyEl zymx X H) R2 r2 → r2 = z ∧ xPb17 (zyEl zymc X H) (xE R2 75))
/-- how one answer and the plans' likeness follow -/
def zStp (fp fpr : zyR) (Pb : zyEm → (Int → Int) → Prop) (Φa : List Int32 → Prop) (Ψc Ψr : (Nat → Int) → zyEm → zyEm → Int → Prop) : Prop := ∀ (as : List Int32) (E E2 R R2 : zyEm) (r r2 : Int), Φa as → zyTy zymc E → Pb E (xE R 75) → xFr fp E E2 → Ψc (xfv (as.map xI)) E E2 r → xFr fpr R R2 → Ψr (xfv (as.map xI)) R R2 r2 → r2 = r ∧ Pb E2 (xE R2 75)
/-- the class's call that changes or tells -/
theorem zl_FC (hC : zLc X p s mt meth c) {y n N q pc ix ax d1 d18 : Nat} {en2 : zEn} {Φ : List Int32 → Prop} (hc : zUCv l y n Φ) {fp1 fp18 fpr : zyR} {Φ1 Φ18 : zCx → (Nat → Int) → zyEm → Prop} {Ψ1 Ψ18 Ψr : (Nat → Int) → zyEm → zyEm → Int → Prop} (hd1 : d1 ≤ 100) (hd18 : d18 ≤ 100) {rs : List Value} {H : Heap} {locs : List Loc} {ls : Array Slot} {as : List Int32} (hrow : zxi0 pc = (.invokevirtual ix, pc + 3, ax)) (hy : ax / 16 = y) (hkd : zG zKd y = some 0) (hen2 : zG zxMeta y = some en2) (how : en2.2.2.2.1 = 10) (hna : en2.2.1 = n + 1) (hc2 : en2.2.2.2.2.2.1 = 0) (hs2 : en2.2.2.2.2.2.2.1 = 0) (hF1 : ∀ me, zG zMeth y = some me → xFcB l zymc X en2 me d1 [0] n fp1 true (Φ1 X) Ψ1) (hF18 : ∀ me, zG zMeth y = some me → xFcB l zymc X en2 me d18 [0] n fp18 true (Φ18 X) Ψ18) (hp1 : ∀ E, E 0 1 = some (.ref (zad X 1)) → Φ as → Φ1 X (xfv (as.map xI)) E) (hp18 : ∀ E, E 0 1 = some (.ref (zad X 18)) → Φ as → Φ18 X (xfv (as.map xI)) E) (hs1 : zStp fp1 fpr xPb0 Φ Ψ1 Ψr) (hs18 : zStp fp18 fpr xPb17 Φ Ψ18 Ψr) (hrs : (rs.map fun v => v.category).sum ≤ 8) (has : as.length = n) (hΦ : Φ as) (hI : zLI X s N q H) (hsz : ls.size = 4) (hlo : ∀ x ∈ locs, zbs X ≤ x.base)
    (kk : ∀ (H3 : Heap) (z : Int32) (locs2 : List Loc), zL0 X s N q H3 → zMid X H3 fpr Ψr (xfv (as.map xI)) (xI z) → (∀ x ∈ locs2, zbs X ≤ x.base) → zWL p l e s mt below meth c b H3 locs2 (pc + 3) ls (.int z :: rs)) : zWL p l e s mt below meth c b H locs pc ls ((as.map Value.int).reverse ++ (.ref (zad X 0) :: rs)) := by
  obtain ⟨ct, cd, h1, h2, h3, h4, h5, h6, h7, h8, h9, h10⟩ := hc
  subst hy
  obtain ⟨me2, hme2, -⟩ := zall hen2
  have e : (as.map Value.int).reverse ++ (.ref (zad X 0) :: rs) = (Value.ref (zad X 0) :: as.map Value.int).reverse ++ rs := by
    rw [List.reverse_cons, List.append_assoc]
    rfl
  rw [e]
  obtain ⟨hCR, hOr, hW, hTp, hPl⟩ := hI
  have hI0 : zL0 X s N q H := ⟨hCR, hOr, hW, hTp⟩
  have hT0 := zyTy_of hCR.1.1
  rcases hPl with ⟨o1, o2, hb⟩ | ⟨o1, o2, hb⟩
  · refine zl_callC2 hC hrow hkd hen2 hme2 how (by rw [hna, has]) hc2 hs2 h6 hrs (h1 en2 me2 hen2 hme2) h3 (h2 X as has hΦ) (hF1 me2 hme2) hd1 has (hp1 _ o1 hΦ) hCR.1.1 (by rw [h5]; intro q hq; cases hq) hsz hlo (fun H3 z locs2 hI3 ho3 _ hfr hf hΨ hlo2 => ?_)
    have el := zyR_el hCR.2 hI3 ho3
    have e75 : xE (zyEl zymx X H3) 75 = xE (zyEl zymx X H) 75 := zxE_k fun k => el 75 k (by decide)
    exact kk H3 z locs2 (zL0_C hI0 hI3 ho3 (hfr 35 1 h7) (hfr 0 1 h8) (hfr 0 2 h9) (fun k => hfr 36 k (h10 k))) (Or.inl ⟨(hfr 0 1 h8).trans o1, (hfr 0 2 h9).trans o2, by rw [e75]; exact hb.1, fun R2 r2 hfr2 hR => hs1 as _ _ (zyEl zymx X H3) R2 _ r2 hΦ hT0 (by rw [e75]; exact hb) hf hΨ hfr2 hR⟩) hlo2
  · refine zl_callC2 hC hrow hkd hen2 hme2 how (by rw [hna, has]) hc2 hs2 h6 hrs (h1 en2 me2 hen2 hme2) h3 (h2 X as has hΦ) (hF18 me2 hme2) hd18 has (hp18 _ o1 hΦ) hCR.1.1 (by rw [h5]; intro q hq; cases hq) hsz hlo (fun H3 z locs2 hI3 ho3 _ hfr hf hΨ hlo2 => ?_)
    have el := zyR_el hCR.2 hI3 ho3
    have e75 : xE (zyEl zymx X H3) 75 = xE (zyEl zymx X H) 75 := zxE_k fun k => el 75 k (by decide)
    exact kk H3 z locs2 (zL0_C hI0 hI3 ho3 (hfr 35 1 h7) (hfr 0 1 h8) (hfr 0 2 h9) (fun k => hfr 36 k (h10 k))) (Or.inr ⟨(hfr 0 1 h8).trans o1, (hfr 0 2 h9).trans o2, by rw [e75]; exact hb.1, fun R2 r2 hfr2 hR => hs18 as _ _ (zyEl zymx X H3) R2 _ r2 hΦ hT0 (by rw [e75]; exact hb) hf hΨ hfr2 hR⟩) hlo2
/-- the reference's, behind it -/
theorem zl_FR (hC : zLc X p s mt meth c) {y n N q pc ix ax d2 : Nat} {en2 : zEn} {Φ : List Int32 → Prop} (hr : zURv l y n Φ) {fp2 : zyR} {Φ2 : (Nat → Int) → zyEm → Prop} {Ψr : (Nat → Int) → zyEm → zyEm → Int → Prop} (hd2 : d2 ≤ 100) {rs : List Value} {H : Heap} {locs : List Loc} {ls : Array Slot} {as : List Int32} {z : Int} (hrow : zxi0 pc = (.invokevirtual ix, pc + 3, ax)) (hy : ax / 16 = y) (hkd : zG zKd y = some 0) (hen2 : zG zxMeta y = some en2) (how : en2.2.2.2.1 = 11) (hna : en2.2.1 = n + 1) (hc2 : en2.2.2.2.2.2.1 = 0) (hs2 : en2.2.2.2.2.2.2.1 = 0) (hF : ∀ me, zG zMeth y = some me → xFcB l zymx X en2 me d2 [74] n fp2 true Φ2 Ψr) (hp2 : ∀ E, sRC (xE E 75) → Φ as → Φ2 (xfv (as.map xI)) E) (hrs : (rs.map fun v => v.category).sum ≤ 8) (has : as.length = n) (hΦ : Φ as) (hI : zL0 X s N q H) (hm : zMid X H fp2 Ψr (xfv (as.map xI)) z) (hN : N ≤ 1000000) (hsz : ls.size = 4) (hlo : ∀ x ∈ locs, zbs X ≤ x.base)
    (kk : ∀ (H3 : Heap) (z2 : Int32) (locs2 : List Loc), zLI X s (N + 100) q H3 → xI z2 = z → (∀ x ∈ locs2, zbs X ≤ x.base) → zWL p l e s mt below meth c b H3 locs2 (pc + 3) ls (.int z2 :: rs)) : zWL p l e s mt below meth c b H locs pc ls ((as.map Value.int).reverse ++ (.ref (zad X 74) :: rs)) := by
  obtain ⟨dep, hd, hr⟩ := hr
  subst hy
  obtain ⟨me2, hme2, -⟩ := zall hen2
  obtain ⟨⟨hCS, r, c0, hp, hI1, hJ, ht, T, hT, hT2⟩, hOr, hW, hTp⟩ := hI
  have e : (as.map Value.int).reverse ++ (.ref (zad X 74) :: rs) = (zyAr X as).reverse ++ rs := by
    show _ = (Value.ref (zad X 74) :: as.map Value.int).reverse ++ rs
    rw [List.reverse_cons, List.append_assoc]
    rfl
  rw [e]
  have hrc : sRC (xE (zyEl zymx X H) 75) := by
    rcases hm with ⟨-, -, h, -⟩ | ⟨-, -, h, -⟩ <;> exact h
  refine zl_callR2 hC (x := zymr75 r c0) hrow hkd hen2 hme2 how hna hc2 hs2 hd hrs (hr r c0 hp en2 me2 hen2 hme2) (hF me2 hme2) hd2 has hI1 (zyMI_x hp hI1) ?_ (hp2 _ hrc hΦ) hsz hlo (fun H3 z2 locs2 hI3 ho3 hΨ hf2 hΨ2 hlo2 => ?_)
  · show Φ as ∧ zyΦu as (zyEl (zymr r c0) X H)
    rw [zyElx r c0 X H]
    exact ⟨hΦ, hJ, T, by omega, hT2⟩
  · have hΨ : zyΨv as (zyEl (zymr r c0) X H) (zyEl (zymr r c0) X H3) (some (.int z2)) := hΨ
    rw [zyElx r c0 X H, zyElx r c0 X H3] at hΨ
    obtain ⟨⟨⟨g1, g2, g3⟩, -⟩, v84, v85, v74⟩ := hΨ
    obtain ⟨T', hT', e'⟩ := g3 T (by omega) hT2
    have el := zyC_el hCS hI3 ho3
    have hE2 : ∀ a ∈ zpl, ∀ k : Int, xE (zyEl zymc X H3) a k = xE (zyEl zymc X H) a k := fun a ha k => by unfold xE; rw [el a _ (zpl_lt ha)]
    have hzp : xI z2 = z ∧ zPl X H3 := by
      rcases hm with ⟨o1, o2, -, h⟩ | ⟨o1, o2, -, h⟩
      · obtain ⟨h1, h2⟩ := h _ _ hf2 hΨ2
        exact ⟨h1, Or.inl ⟨(el 0 1 (by decide)).trans o1, (el 0 2 (by decide)).trans o2, xPb0_k h2 (fun a ha k _ => hE2 a (by rcases ha with rfl | rfl | rfl | rfl | rfl | rfl <;> decide) k) (fun _ _ => rfl)⟩⟩
      · obtain ⟨h1, h2⟩ := h _ _ hf2 hΨ2
        exact ⟨h1, Or.inr ⟨(el 0 1 (by decide)).trans o1, (el 0 2 (by decide)).trans o2, xPb17_k h2 (fun a ha k _ => hE2 a (by rcases ha with rfl | rfl | rfl | rfl | rfl | rfl <;> decide) k) (fun _ _ => rfl)⟩⟩
    exact kk H3 z2 locs2 ⟨⟨zyCS_keep hCS hI3 ho3, r, c0, hp, hI3, g1, g2.trans ht, T', by omega, e'⟩, zOr_k hOr (el 0 1 (by decide)) (el 0 2 (by decide)), fun k hk => (v85 k).trans (hW k hk), zTp_k hTp (fun k => el 36 k (by decide)) v84, hzp.2⟩ hzp.1 hlo2
/-- the rows of such a case -/
def zUr (pc : Nat) (ks : List Nat) (yc yr : Nat) : Prop := zxi0 pc = (.aload_n 1, pc + 1, 0) ∧ zAg (pc + 1) ks ∧ (∃ ix ax, zxi0 (pc + 1 + 5 * ks.length) = (.invokevirtual ix, pc + 1 + 5 * ks.length + 3, ax) ∧ ax / 16 = yc) ∧ zxi0 (pc + 1 + 5 * ks.length + 3) = (.pop, pc + 1 + 5 * ks.length + 3 + 1, 0) ∧ zxi0 (pc + 1 + 5 * ks.length + 4) = (.aload_n 2, pc + 1 + 5 * ks.length + 4 + 1, 0) ∧ zAg (pc + 1 + 5 * ks.length + 5) ks ∧ (∃ ix ax, zxi0 (pc + 1 + 5 * ks.length + 5 + 5 * ks.length) = (.invokevirtual ix, pc + 1 + 5 * ks.length + 5 + 5 * ks.length + 3, ax) ∧ ax / 16 = yr) ∧ zxi0 (pc + 1 + 5 * ks.length + 5 + 5 * ks.length + 3) = (.pop, pc + 1 + 5 * ks.length + 5 + 5 * ks.length + 3 + 1, 0) ∧ ∃ off ax, zxi0 (pc + 1 + 5 * ks.length + 5 + 5 * ks.length + 4) = (.goto off, pc + 1 + 5 * ks.length + 5 + 5 * ks.length + 4 + 3, ax) ∧ ((pc + 1 + 5 * ks.length + 5 + 5 * ks.length + 4 : Nat) : Int) + off = ((1479 : Nat) : Int)
def zUm (y n ow : Nat) : Prop := zG zKd y = some 0 ∧ ∃ en2 : zEn, zG zxMeta y = some en2 ∧ en2.2.2.2.1 = ow ∧ en2.2.1 = n + 1 ∧ en2.2.2.2.2.2.1 = 0 ∧ en2.2.2.2.2.2.2.1 = 0
theorem zl_uni (hC : zLc X p s mt meth c) {L i : Nat} {xs : Nat → Int32} (hS : zSc0 s X b L xs) {ls : Array Slot} (hl : zLl X b i ls) (hi : i + 5 < L) {yc yr N q pc : Nat} {ks : List Nat} (hc : zUC l yc ks.length (fun _ => True)) (hr : zUR l yr ks.length (fun _ => True)) (hrow : zUr pc ks yc yr) (hmc : zUm yc ks.length 10) (hmr : zUm yr ks.length 11) {H : Heap} {locs : List Loc} (hI : zLI X s N q H) (hN : N ≤ 1000000) (hlo : ∀ x ∈ locs, zbs X ≤ x.base)
    (kk : ∀ (H3 : Heap) (locs2 : List Loc), zLI X s (N + 100) q H3 → (∀ x ∈ locs2, zbs X ≤ x.base) → zWL p l e s mt below meth c b H3 locs2 1479 ls []) : zWL p l e s mt below meth c b H locs pc ls [] := by
  obtain ⟨r0, r1, ⟨ix, ax, r2, hy⟩, r3, r4, r5, ⟨ix2, ax2, r6, hy2⟩, r7, off, ax3, r8, htgt⟩ := hrow
  obtain ⟨kc, enc, m1, m2, m3, m4, m5⟩ := hmc
  obtain ⟨kr, enr, n1, n2, n3, n4, n5⟩ := hmr
  have hexec := hC.1
  have hb := hC.2.1
  have hm : ∀ ks : List Nat, (ks.map fun k => Value.int (xs (i + k))) = (ks.map fun k => xs (i + k)).map Value.int := fun ks => by rw [List.map_map]; rfl
  refine lv_aload_n hexec hb (zdL r0 (fun q => by cases q)) rfl (lv_at hl 2 rfl) ?_
  refine zl_args hC hS (zLI_h hI) hl hi r1 ?_
  rw [hm]
  refine zl_UC hC hc r2 hy kc m1 m2 m3 m4 m5 (by decide) (by rw [List.length_map]) trivial hI hl.1 hlo (fun H3 z locs2 hI3 hlo2 => ?_)
  refine lv_pop hexec hb (zdL r3 (fun q => by cases q)) rfl ?_
  refine lv_aload_n hexec hb (zdL r4 (fun q => by cases q)) rfl (lv_at hl 1 rfl) ?_
  refine zl_args hC hS (zLI_h hI3) hl hi r5 ?_
  rw [hm]
  refine zl_UR hC hr r6 hy2 kr n1 n2 n3 n4 n5 (by decide) (by rw [List.length_map]) trivial hI3 hN hl.1 hlo2 (fun H4 z2 locs3 hI4 hlo3 => ?_)
  refine lv_pop hexec hb (zdL r7 (fun q => by cases q)) rfl ?_
  exact lv_goto hexec hb (zdL r8 (fun q => by cases q)) htgt (kk H4 locs3 hI4 hlo3)
/-- a call that changes the plan, not compared -/
theorem zl_trP (hC : zLc X p s mt meth c) {L i : Nat} {xs : Nat → Int32} (hS : zSc0 s X b L xs) {ls : Array Slot} (hl : zLl X b i ls) (hi : i + 5 < L) {yc yr N q pc d1 d18 d2 : Nat} {ks : List Nat} (hc : zUCv l yc ks.length (fun _ => True)) (hr : zURv l yr ks.length (fun _ => True)) {fp1 fp18 fp2 : zyR} {Φ1 Φ18 : zCx → (Nat → Int) → zyEm → Prop} {Φ2 : (Nat → Int) → zyEm → Prop} {Ψ1 Ψ18 Ψr : (Nat → Int) → zyEm → zyEm → Int → Prop} (hd1 : d1 ≤ 100) (hd18 : d18 ≤ 100) (hd2 : d2 ≤ 100) {enc enr : zEn} (hrow : zUr pc ks yc yr) (hmc : zG zKd yc = some 0 ∧ zG zxMeta yc = some enc ∧ enc.2.2.2.1 = 10 ∧ enc.2.1 = ks.length + 1 ∧ enc.2.2.2.2.2.1 = 0 ∧ enc.2.2.2.2.2.2.1 = 0) (hmr : zG zKd yr = some 0 ∧ zG zxMeta yr = some enr ∧ enr.2.2.2.1 = 11 ∧ enr.2.1 = ks.length + 1 ∧ enr.2.2.2.2.2.1 = 0 ∧ enr.2.2.2.2.2.2.1 = 0) (hF1 : ∀ me, zG zMeth yc = some me → xFcB l zymc X enc me d1 [0] ks.length fp1 true (Φ1 X) Ψ1) (hF18 : ∀ me, zG zMeth yc = some me → xFcB l zymc X enc me d18 [0] ks.length fp18 true (Φ18 X) Ψ18) (hF : ∀ me, zG zMeth yr = some me → xFcB l zymx X enr me d2 [74] ks.length fp2 true Φ2 Ψr) (hp1 : ∀ x E, E 0 1 = some (.ref (zad X 1)) → Φ1 X x E) (hp18 : ∀ x E, E 0 1 = some (.ref (zad X 18)) → Φ18 X x E) (hp2 : ∀ x E, sRC (xE E 75) → Φ2 x E) (hs1 : zStp fp1 fp2 xPb0 (fun _ => True) Ψ1 Ψr) (hs18 : zStp fp18 fp2 xPb17 (fun _ => True) Ψ18 Ψr) {H : Heap} {locs : List Loc} (hI : zLI X s N q H) (hN : N ≤ 1000000) (hlo : ∀ x ∈ locs, zbs X ≤ x.base)
    (kk : ∀ (H3 : Heap) (locs2 : List Loc), zLI X s (N + 100) q H3 → (∀ x ∈ locs2, zbs X ≤ x.base) → zWL p l e s mt below meth c b H3 locs2 1479 ls []) : zWL p l e s mt below meth c b H locs pc ls [] := by
  obtain ⟨r0, r1, ⟨ix, ax, r2, hy⟩, r3, r4, r5, ⟨ix2, ax2, r6, hy2⟩, r7, off, ax3, r8, htgt⟩ := hrow
  obtain ⟨kc, m1, m2, m3, m4, m5⟩ := hmc
  obtain ⟨kr, n1, n2, n3, n4, n5⟩ := hmr
  have hexec := hC.1
  have hb := hC.2.1
  have hm : ∀ ks : List Nat, (ks.map fun k => Value.int (xs (i + k))) = (ks.map fun k => xs (i + k)).map Value.int := fun ks => by rw [List.map_map]; rfl
  refine lv_aload_n hexec hb (zdL r0 (fun q => by cases q)) rfl (lv_at hl 2 rfl) ?_
  refine zl_args hC hS (zLI_h hI) hl hi r1 ?_
  rw [hm]
  refine zl_FC hC hc (Ψr := Ψr) hd1 hd18 r2 hy kc m1 m2 m3 m4 m5 hF1 hF18 (fun E h _ => hp1 _ E h) (fun E h _ => hp18 _ E h) hs1 hs18 (by decide) (by rw [List.length_map]) trivial hI hl.1 hlo (fun H3 z locs2 hI3 hmid hlo2 => ?_)
  refine lv_pop hexec hb (zdL r3 (fun q => by cases q)) rfl ?_
  refine lv_aload_n hexec hb (zdL r4 (fun q => by cases q)) rfl (lv_at hl 1 rfl) ?_
  refine zl_args hC hS (zL0_h hI3) hl hi r5 ?_
  rw [hm]
  refine zl_FR hC hr hd2 r6 hy2 kr n1 n2 n3 n4 n5 hF (fun E h _ => hp2 _ E h) (by decide) (by rw [List.length_map]) trivial hI3 hmid hN hl.1 hlo2 (fun H4 z2 locs3 hI4 _ hlo3 => ?_)
  refine lv_pop hexec hb (zdL r7 (fun q => by cases q)) rfl ?_
  exact lv_goto hexec hb (zdL r8 (fun q => by cases q)) htgt (kk H4 locs3 hI4 hlo3)
/-- the rows of the compared case -/
def zUk (pc : Nat) (ks : List Nat) (yc yr : Nat) : Prop := zxi0 pc = (.aload_n 1, pc + 1, 0) ∧ zAg (pc + 1) ks ∧ (∃ ix ax, zxi0 (pc + 1 + 5 * ks.length) = (.invokevirtual ix, pc + 1 + 5 * ks.length + 3, ax) ∧ ax / 16 = yc) ∧ zxi0 (pc + 1 + 5 * ks.length + 3) = (.aload_n 2, pc + 1 + 5 * ks.length + 3 + 1, 0) ∧ zAg (pc + 1 + 5 * ks.length + 4) ks ∧ (∃ ix ax, zxi0 (pc + 1 + 5 * ks.length + 4 + 5 * ks.length) = (.invokevirtual ix, pc + 1 + 5 * ks.length + 4 + 5 * ks.length + 3, ax) ∧ ax / 16 = yr) ∧ ∃ off, zxi0 (pc + 1 + 5 * ks.length + 4 + 5 * ks.length + 3) = (.if_icmp .eq off, pc + 1 + 5 * ks.length + 4 + 5 * ks.length + 3 + 3, 1479) ∧ ((pc + 1 + 5 * ks.length + 4 + 5 * ks.length + 3 : Nat) : Int) + off = ((1479 : Nat) : Int)
/-- a call that is compared -/
theorem zl_trC (hC : zLc X p s mt meth c) {L i : Nat} {xs : Nat → Int32} (hS : zSc0 s X b L xs) {ls : Array Slot} (hl : zLl X b i ls) (hi : i + 5 < L) {yc yr N q pc d1 d18 d2 : Nat} {ks : List Nat} (hc : zUCv l yc ks.length (fun _ => True)) (hr : zURv l yr ks.length (fun _ => True)) {fp1 fp18 fp2 : zyR} {Φ1 Φ18 : zCx → (Nat → Int) → zyEm → Prop} {Φ2 : (Nat → Int) → zyEm → Prop} {Ψ1 Ψ18 Ψr : (Nat → Int) → zyEm → zyEm → Int → Prop} (hd1 : d1 ≤ 100) (hd18 : d18 ≤ 100) (hd2 : d2 ≤ 100) {enc enr : zEn} (hrow : zUk pc ks yc yr) (hmc : zG zKd yc = some 0 ∧ zG zxMeta yc = some enc ∧ enc.2.2.2.1 = 10 ∧ enc.2.1 = ks.length + 1 ∧ enc.2.2.2.2.2.1 = 0 ∧ enc.2.2.2.2.2.2.1 = 0) (hmr : zG zKd yr = some 0 ∧ zG zxMeta yr = some enr ∧ enr.2.2.2.1 = 11 ∧ enr.2.1 = ks.length + 1 ∧ enr.2.2.2.2.2.1 = 0 ∧ enr.2.2.2.2.2.2.1 = 0) (hF1 : ∀ me, zG zMeth yc = some me → xFcB l zymc X enc me d1 [0] ks.length fp1 true (Φ1 X) Ψ1) (hF18 : ∀ me, zG zMeth yc = some me → xFcB l zymc X enc me d18 [0] ks.length fp18 true (Φ18 X) Ψ18) (hF : ∀ me, zG zMeth yr = some me → xFcB l zymx X enr me d2 [74] ks.length fp2 true Φ2 Ψr) (hp1 : ∀ x E, E 0 1 = some (.ref (zad X 1)) → Φ1 X x E) (hp18 : ∀ x E, E 0 1 = some (.ref (zad X 18)) → Φ18 X x E) (hp2 : ∀ x E, sRC (xE E 75) → Φ2 x E) (hs1 : zStp fp1 fp2 xPb0 (fun _ => True) Ψ1 Ψr) (hs18 : zStp fp18 fp2 xPb17 (fun _ => True) Ψ18 Ψr) {H : Heap} {locs : List Loc} (hI : zLI X s N q H) (hN : N ≤ 1000000) (hlo : ∀ x ∈ locs, zbs X ≤ x.base)
    (kk : ∀ (H3 : Heap) (locs2 : List Loc), zLI X s (N + 100) q H3 → (∀ x ∈ locs2, zbs X ≤ x.base) → zWL p l e s mt below meth c b H3 locs2 1479 ls []) : zWL p l e s mt below meth c b H locs pc ls [] := by
  obtain ⟨r0, r1, ⟨ix, ax, r2, hy⟩, r4, r5, ⟨ix2, ax2, r6, hy2⟩, off, r8, htgt⟩ := hrow
  obtain ⟨kc, m1, m2, m3, m4, m5⟩ := hmc
  obtain ⟨kr, n1, n2, n3, n4, n5⟩ := hmr
  have hexec := hC.1
  have hb := hC.2.1
  have hm : ∀ ks : List Nat, (ks.map fun k => Value.int (xs (i + k))) = (ks.map fun k => xs (i + k)).map Value.int := fun ks => by rw [List.map_map]; rfl
  refine lv_aload_n hexec hb (zdL r0 (fun q => by cases q)) rfl (lv_at hl 2 rfl) ?_
  refine zl_args hC hS (zLI_h hI) hl hi r1 ?_
  rw [hm]
  refine zl_FC hC hc (Ψr := Ψr) hd1 hd18 r2 hy kc m1 m2 m3 m4 m5 hF1 hF18 (fun E h _ => hp1 _ E h) (fun E h _ => hp18 _ E h) hs1 hs18 (by decide) (by rw [List.length_map]) trivial hI hl.1 hlo (fun H3 z locs2 hI3 hmid hlo2 => ?_)
  refine lv_aload_n hexec hb (zdL r4 (fun q => by cases q)) rfl (lv_at hl 1 rfl) ?_
  refine zl_args hC hS (zL0_h hI3) hl hi r5 ?_
  rw [hm]
  refine zl_FR hC hr hd2 (rs := [.int z]) r6 hy2 kr n1 n2 n3 n4 n5 hF (fun E h _ => hp2 _ E h) (by show 1 ≤ 8; decide) (by rw [List.length_map]) trivial hI3 hmid hN hl.1 hlo2 (fun H4 z2 locs3 hI4 hz hlo3 => ?_)
  have hz := xI_inj hz
  subst hz
  exact lv_icmp_eq hexec hb (zdL r8 (fun q => by cases q)) htgt (fun _ => kk H4 locs3 hI4 hlo3) (fun q => absurd rfl q)
end ZLX2
