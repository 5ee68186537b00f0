/-! IN THE LAW'S LOOP: a case whose two answers are dropped; feed; load -/
section ZLX
variable {p : Program} {l : Launch} {e : Env} {s : State} {mt : MethodId} {below : List Frame} {meth : Method} {c : Code} {b : Nat} {X : zCx}
/-- both sides: bytes on the class's tape, on the reference's, T at most N -/
def zLI (X : zCx) (s : State) (N qc qr : Nat) (H : Heap) : Prop := zyCS X qc s H ∧ zyRS X N qr s H
theorem zLI_h {N qc qr : Nat} {H : Heap} (h : zLI X s N qc qr H) : zLh X H := h.1.1.2.2.2
/-- the class's method by contract: any ints, one int, the bytes on the tape stay -/
def zUC (l : Launch) (y n : Nat) (Φ : List Int32 → Prop) : Prop := ∃ (ct : zyCt) (cd : Nat), (∀ en me, zG zxMeta y = some en → zG zMeth y = some me → zyCon l zymc zyJc en me ct) ∧ (∀ (B : zCx) (as : List Int32), as.length = n → Φ as → zySt (zyX0 B zyJc) ct.1 (.ref (zad B 0) :: as.map Value.int)) ∧ ct.2.2.1 = [cd] ∧ cd % 8 ≤ 2 ∧ ct.2.2.2.2.1 = [] ∧ ct.2.2.2.1 ≤ 100 ∧ zyin ct.2.1 35 1 = false
def zUR (l : Launch) (y n : Nat) (Φ : List Int32 → Prop) : Prop := ∃ dep : Nat, dep ≤ 100 ∧ ∀ r c, zyPr r c → ∀ en me, zG zxMeta y = some en → zG zMeth y = some me → zyHc l (zymr r c) en me dep n (fun xs E => Φ xs ∧ zyΦu xs E) zyΨu
theorem zUR_of {l : Launch} {y n dep : Nat} (hd : dep ≤ 100) (h : ∀ r c, 1 ≤ r → r ≤ 4 → 1 ≤ c → c ≤ 5 → ∀ en me, zG zxMeta y = some en → zG zMeth y = some me → zyHc l (zymr r c) en me dep n zyΦu zyΨu) : zUR l y n (fun _ => True) := ⟨dep, hd, fun r c hp en me he hm => zyHc_mono (h r c hp.1 hp.2.1 hp.2.2.1 hp.2.2.2 en me he hm) (fun _ _ _ _ q => q.2) (fun _ _ _ _ _ _ _ q => q)⟩
theorem zyFu0 {B : zCx} {J : zyJt} : ∀ {as : List Int32} {n : Nat}, as.length = n → zySt (zyX0 B J) (List.replicate n 34359738362) (as.map Value.int) := by
  intro as
  induction as with
  | nil => intro n h; subst h; trivial
  | cons a t ih =>
    intro n h
    subst h
    rw [List.length_cons, List.replicate_succ, List.map_cons]
    exact ⟨zyFx a, ih rfl⟩
theorem zyC0 {B : zCx} {J : zyJt} : zyV (zyX0 B J) 3 (.ref (zad B 0)) := Or.inl ⟨Or.inr (Or.inr (Or.inr (Or.inl ⟨rfl, rfl⟩))), fun q => absurd q (by decide), fun q => absurd q (by decide)⟩
theorem zUC_of {l : Launch} {y n i cd : Nat} (h : zyCo l zymc zyJc zyic i) (h1 : (zyIg zyic i).1 = y) (h2 : (zyIg zyic i).2.1.1 = 3 :: List.replicate n 34359738362) (h3 : (zyIg zyic i).2.1.2.2.1 = [cd]) (h4 : cd % 8 ≤ 2) (h5 : (zyIg zyic i).2.1.2.2.2.2.1 = []) (h6 : (zyIg zyic i).2.1.2.2.2.1 ≤ 100) (h7 : zyin (zyIg zyic i).2.1.2.1 35 1 = false) : zUC l y n (fun _ => True) := ⟨(zyIg zyic i).2.1, cd, fun en me he hm => h en me (by rw [h1]; exact he) (by rw [h1]; exact hm), fun B as ha _ => by rw [h2]; exact ⟨zyC0, zyFu0 ha⟩, h3, h4, h5, h6, h7⟩
theorem zyAr_r {B : zCx} {as : List Int32} : (zyAr B as).reverse ++ ([] : List Value) = (as.map Value.int).reverse ++ [.ref (zad B 74)] := by
  show (Value.ref (zad B 74) :: as.map Value.int).reverse ++ [] = _
  rw [List.reverse_cons, List.append_nil]
/-- the class's call -/
theorem zl_UC (hC : zLc X p s mt meth c) {y n N qc qr pc ix ax : Nat} {en2 : zEn} {Φ : List Int32 → Prop} (hc : zUC l y n Φ) {rs : List Value} {H : Heap} {locs : List Loc} {ls : Array Slot} {as : List Int32} (hrow : zxi0 pc = (.invokevirtual ix, pc + 3, ax)) (hy : ax / 16 = y) (hkd : zG zKd y = some 0) (hen2 : zG zxMeta y = some en2) (how : en2.2.2.2.1 = 10) (hna : en2.2.1 = n + 1) (hc2 : en2.2.2.2.2.2.1 = 0) (hs2 : en2.2.2.2.2.2.2.1 = 0) (hrs : (rs.map fun v => v.category).sum ≤ 8) (has : as.length = n) (hΦ : Φ as) (hI : zLI X s N qc qr H) (hsz : ls.size = 4) (hlo : ∀ x ∈ locs, zbs X ≤ x.base)
    (kk : ∀ (H3 : Heap) (z : Int32) (locs2 : List Loc), zLI X s N qc qr H3 → (∀ x ∈ locs2, zbs X ≤ x.base) → zWL p l e s mt below meth c b H3 locs2 (pc + 3) ls (.int z :: rs)) : zWL p l e s mt below meth c b H locs pc ls ((as.map Value.int).reverse ++ (.ref (zad X 0) :: rs)) := by
  obtain ⟨ct, cd, h1, h2, h3, h4, h5, h6, h7⟩ := hc
  subst hy
  obtain ⟨me2, hme2, -⟩ := zall hen2
  have e : (as.map Value.int).reverse ++ (.ref (zad X 0) :: rs) = (Value.ref (zad X 0) :: as.map Value.int).reverse ++ rs := by
    rw [List.reverse_cons, List.append_assoc]
    rfl
  rw [e]
  refine zl_callC hC hrow hkd hen2 hme2 how (by rw [hna, has]) hc2 hs2 h6 hrs (h1 en2 me2 hen2 hme2) h3 (h2 X as has hΦ) hI.1.1 (by rw [h5]; intro q hq; cases hq) hsz hlo (fun H3 vo locs2 hI3 ho3 _ hfr hv hlo2 => ?_)
  obtain ⟨z, rfl⟩ := zyvo_z h4 hv
  exact kk H3 z locs2 ⟨⟨hI3, (hfr 35 1 h7).trans hI.1.2⟩, zyRS_keep hI.2 hI3 ho3⟩ hlo2
/-- the reference's call -/
theorem zl_UR (hC : zLc X p s mt meth c) {y n N qc qr pc ix ax : Nat} {en2 : zEn} {Φ : List Int32 → Prop} (hr : zUR l y n Φ) {rs : List Value} {H : Heap} {locs : List Loc} {ls : Array Slot} {as : List Int32} (hrow : zxi0 pc = (.invokevirtual ix, pc + 3, ax)) (hy : ax / 16 = y) (hkd : zG zKd y = some 0) (hen2 : zG zxMeta y = some en2) (how : en2.2.2.2.1 = 11) (hna : en2.2.1 = n + 1) (hc2 : en2.2.2.2.2.2.1 = 0) (hs2 : en2.2.2.2.2.2.2.1 = 0) (hrs : (rs.map fun v => v.category).sum ≤ 8) (has : as.length = n) (hΦ : Φ as) (hI : zLI X s N qc qr H) (hN : N ≤ 1000000) (hsz : ls.size = 4) (hlo : ∀ x ∈ locs, zbs X ≤ x.base)
    (kk : ∀ (H3 : Heap) (z : Int32) (locs2 : List Loc), zLI X s (N + 100) qc qr H3 → (∀ x ∈ locs2, zbs X ≤ x.base) → zWL p l e s mt below meth c b H3 locs2 (pc + 3) ls (.int z :: rs)) : zWL p l e s mt below meth c b H locs pc ls ((as.map Value.int).reverse ++ (.ref (zad X 74) :: rs)) := by
  obtain ⟨dep, hd, hr⟩ := hr
  subst hy
  obtain ⟨me2, hme2, -⟩ := zall hen2
  obtain ⟨hCS, r, c0, hp, hI1, hJ, ht, T, hT, hT2⟩ := hI
  have e : (as.map Value.int).reverse ++ (.ref (zad X 74) :: rs) = (zyAr X as).reverse ++ rs := by
    show _ = (Value.ref (zad X 74) :: as.map Value.int).reverse ++ rs
    rw [List.reverse_cons, List.append_assoc]
    rfl
  rw [e]
  refine zl_callR hC (x := zymr75 r c0) hrow hkd hen2 hme2 how hna hc2 hs2 hd hrs (hr r c0 hp en2 me2 hen2 hme2) has hI1 ?_ hsz hlo (fun H3 vo locs2 hI3 ho3 hΨ hlo2 => ?_)
  · show Φ as ∧ zyΦu as (zyEl (zymr r c0) X H)
    rw [zyElx r c0 X H]
    exact ⟨hΦ, hJ, T, by omega, hT2⟩
  · have hΨ : zyΨu as (zyEl (zymr r c0) X H) (zyEl (zymr r c0) X H3) vo := hΨ
    rw [zyElx r c0 X H, zyElx r c0 X H3] at hΨ
    obtain ⟨⟨g1, g2, g3⟩, z, rfl⟩ := hΨ
    obtain ⟨T', hT', e'⟩ := g3 T (by omega) hT2
    exact kk H3 z locs2 ⟨zyCS_keep hCS hI3 ho3, r, c0, hp, hI3, g1, g2.trans ht, T', by omega, e'⟩ hlo2
/-- the rows of such a case -/
def zUr (pc : Nat) (ks : List Nat) (yc yr : Nat) : Prop := zxi0 pc = (.aload_n 1, pc + 1, 0) ∧ zAg (pc + 1) ks ∧ (∃ ix ax, zxi0 (pc + 1 + 5 * ks.length) = (.invokevirtual ix, pc + 1 + 5 * ks.length + 3, ax) ∧ ax / 16 = yc) ∧ zxi0 (pc + 1 + 5 * ks.length + 3) = (.pop, pc + 1 + 5 * ks.length + 3 + 1, 0) ∧ zxi0 (pc + 1 + 5 * ks.length + 4) = (.aload_n 2, pc + 1 + 5 * ks.length + 4 + 1, 0) ∧ zAg (pc + 1 + 5 * ks.length + 5) ks ∧ (∃ ix ax, zxi0 (pc + 1 + 5 * ks.length + 5 + 5 * ks.length) = (.invokevirtual ix, pc + 1 + 5 * ks.length + 5 + 5 * ks.length + 3, ax) ∧ ax / 16 = yr) ∧ zxi0 (pc + 1 + 5 * ks.length + 5 + 5 * ks.length + 3) = (.pop, pc + 1 + 5 * ks.length + 5 + 5 * ks.length + 3 + 1, 0) ∧ ∃ off ax, zxi0 (pc + 1 + 5 * ks.length + 5 + 5 * ks.length + 4) = (.goto off, pc + 1 + 5 * ks.length + 5 + 5 * ks.length + 4 + 3, ax) ∧ ((pc + 1 + 5 * ks.length + 5 + 5 * ks.length + 4 : Nat) : Int) + off = ((1479 : Nat) : Int)
def zUm (y n ow : Nat) : Prop := zG zKd y = some 0 ∧ ∃ en2 : zEn, zG zxMeta y = some en2 ∧ en2.2.2.2.1 = ow ∧ en2.2.1 = n + 1 ∧ en2.2.2.2.2.2.1 = 0 ∧ en2.2.2.2.2.2.2.1 = 0
theorem zl_uni (hC : zLc X p s mt meth c) {L i : Nat} {xs : Nat → Int32} (hS : zSc0 s X b L xs) {ls : Array Slot} (hl : zLl X b i ls) (hi : i + 5 < L) {yc yr N qc qr pc : Nat} {ks : List Nat} (hc : zUC l yc ks.length (fun _ => True)) (hr : zUR l yr ks.length (fun _ => True)) (hrow : zUr pc ks yc yr) (hmc : zUm yc ks.length 10) (hmr : zUm yr ks.length 11) {H : Heap} {locs : List Loc} (hI : zLI X s N qc qr H) (hN : N ≤ 1000000) (hlo : ∀ x ∈ locs, zbs X ≤ x.base)
    (kk : ∀ (H3 : Heap) (locs2 : List Loc), zLI X s (N + 100) qc qr H3 → (∀ x ∈ locs2, zbs X ≤ x.base) → zWL p l e s mt below meth c b H3 locs2 1479 ls []) : zWL p l e s mt below meth c b H locs pc ls [] := by
  obtain ⟨r0, r1, ⟨ix, ax, r2, hy⟩, r3, r4, r5, ⟨ix2, ax2, r6, hy2⟩, r7, off, ax3, r8, htgt⟩ := hrow
  obtain ⟨kc, enc, m1, m2, m3, m4, m5⟩ := hmc
  obtain ⟨kr, enr, n1, n2, n3, n4, n5⟩ := hmr
  have hexec := hC.1
  have hb := hC.2.1
  have hm : ∀ ks : List Nat, (ks.map fun k => Value.int (xs (i + k))) = (ks.map fun k => xs (i + k)).map Value.int := fun ks => by rw [List.map_map]; rfl
  refine lv_aload_n hexec hb (zdL r0 (fun q => by cases q)) rfl (lv_at hl 2 rfl) ?_
  refine zl_args hC hS (zLI_h hI) hl hi r1 ?_
  rw [hm]
  refine zl_UC hC hc r2 hy kc m1 m2 m3 m4 m5 (by decide) (by rw [List.length_map]) trivial hI hl.1 hlo (fun H3 z locs2 hI3 hlo2 => ?_)
  refine lv_pop hexec hb (zdL r3 (fun q => by cases q)) rfl ?_
  refine lv_aload_n hexec hb (zdL r4 (fun q => by cases q)) rfl (lv_at hl 1 rfl) ?_
  refine zl_args hC hS (zLI_h hI3) hl hi r5 ?_
  rw [hm]
  refine zl_UR hC hr r6 hy2 kr n1 n2 n3 n4 n5 (by decide) (by rw [List.length_map]) trivial hI3 hN hl.1 hlo2 (fun H4 z2 locs3 hI4 hlo3 => ?_)
  refine lv_pop hexec hb (zdL r7 (fun q => by cases q)) rfl ?_
  exact lv_goto hexec hb (zdL r8 (fun q => by cases q)) htgt (kk H4 locs3 hI4 hlo3)
end ZLX
