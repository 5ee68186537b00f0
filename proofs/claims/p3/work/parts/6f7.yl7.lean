/-! IN THE LAW'S LOOP: feed, load, free -/
section ZLY
variable {p : Program} {l : Launch} {e : Env} {s : State} {mt : MethodId} {below : List Frame} {meth : Method} {c : Code} {b : Nat} {X : zCx}
theorem zyvo_n {B : zCx} {J : zyJt} {n : Nat} {vo : Option Value} (h : zyvo (zyX0 B J) [8 * n] vo) : vo = some (.int (Int32.ofNat n)) := by
  cases vo with
  | none => exact h.elim
  | some x =>
    have h : zyV (zyX0 B J) (8 * n) x := h
    rw [zyv_0 h (by omega), show 8 * n / 8 = n by omega]
theorem zyPk_1 {B : zCx} {H : Heap} {q cd : Nat} (h : zyEl zymc B H 35 1 = some (.int (Int32.ofNat q))) (hc : cd = 8 * q) : zyPk zymc B [(573441, cd)] H := by
  intro w hw
  rw [List.mem_singleton.mp hw]
  subst hc
  obtain ⟨c35, hg, hk⟩ : ∃ c35, zG zymc 35 = some c35 ∧ 1 < zyLen c35 := ⟨_, rfl, by decide⟩
  have d1 : (573441 : Nat) / 16384 = 35 := by decide
  have d2 : (573441 : Nat) % 16384 = 1 := by decide
  refine ⟨c35, .int (Int32.ofNat q), ?_, ?_, ?_, by show ¬ 8 * q % 8 = 1; omega, zyv_mk rfl⟩
  · show zG zymc (573441 / 16384) = some c35
    rw [d1]
    exact hg
  · show 573441 % 16384 < zyLen c35
    rw [d2]
    exact hk
  · show zyEl zymc B H (573441 / 16384) (573441 % 16384) = _
    rw [d1, d2]
    exact h
theorem zyPk_1r {B : zCx} {H : Heap} {q cd : Nat} (h : zyPk zymc B [(573441, cd)] H) (hc : cd = 8 * q) : zyEl zymc B H 35 1 = some (.int (Int32.ofNat q)) := by
  subst hc
  obtain ⟨c35, x, -, -, hx, -, hv⟩ := h (573441, 8 * q) (List.mem_singleton.mpr rfl)
  have d1 : (573441 : Nat) / 16384 = 35 := by decide
  have d2 : (573441 : Nat) % 16384 = 1 := by decide
  have hx : zyEl zymc B H (573441 / 16384) (573441 % 16384) = some x := hx
  rw [d1, d2] at hx
  have hv : zyv (fun _ => 0) 0 (zad B) (8 * q) x := hv
  have e := zyv_0 hv (by omega)
  rw [hx, e, show 8 * q / 8 = q by omega]
theorem zl_stk {B : zCx} {a : Nat} {as : List Int32} {rs : List Value} : (as.map Value.int).reverse ++ (.ref (zad B a) :: rs) = (Value.ref (zad B a) :: as.map Value.int).reverse ++ rs := by
  rw [List.reverse_cons, List.append_assoc]
  rfl
theorem zl_feed (hC : zLc X p s mt meth c) {L i : Nat} {xs : Nat → Int32} (hS : zSc0 s X b L xs) {ls : Array Slot} (hl : zLl X b i ls) (hi : i + 5 < L) (hcl : ∀ i, i < 163 → zyCo l zymc zyJc zylwt i) {N j : Nat} (hj : j ≤ 45) {H : Heap} {locs : List Loc} (hI : zLI X s N (20 * j) (20 * j) H) (hlo : ∀ x ∈ locs, zbs X ≤ x.base)
    (kk : ∀ (H3 : Heap) (locs2 : List Loc) (j' : Nat), j' ≤ 45 → zLI X s N (20 * j') (20 * j') H3 → (∀ x ∈ locs2, zbs X ≤ x.base) → zWL p l e s mt below meth c b H3 locs2 1479 ls []) : zWL p l e s mt below meth c b H locs 241 ls [] := by
  have hexec := hC.1
  have hb := hC.2.1
  have hm : ∀ ks : List Nat, (ks.map fun k => Value.int (xs (i + k))) = (ks.map fun k => xs (i + k)).map Value.int := fun ks => by rw [List.map_map]; rfl
  refine lv_aload_n hexec hb (zdL (pc := 241) (k := 1) (ax := 0) rfl (fun q => by cases q)) rfl (lv_at hl 2 rfl) ?_
  refine zl_args (ks := [1, 2, 3, 4, 5]) hC hS (zLI_h hI) hl hi ⟨⟨rfl, rfl, rfl, rfl, rfl, by decide⟩, ⟨rfl, rfl, rfl, rfl, rfl, by decide⟩, ⟨rfl, rfl, rfl, rfl, rfl, by decide⟩, ⟨rfl, rfl, rfl, rfl, rfl, by decide⟩, ⟨rfl, rfl, rfl, rfl, rfl, by decide⟩, trivial⟩ ?_
  rw [hm, zl_stk]
  have hen1 : zG zxMeta 120 = some (zxi120, 6, 6, 10, 120, 0, 0, 1, 0) := rfl
  obtain ⟨me1, hme1, -⟩ := zall hen1
  have hcn := hcl (24 + j) (by omega)
  unfold zyCo at hcn
  rw [zylwt_F (by omega)] at hcn
  have hcn := hcn _ _ hen1 hme1
  obtain ⟨j', n, hj', ea, eb, hn⟩ : ∃ j' n : Nat, j' ≤ 45 ∧ zylwa j = 8 * n ∧ zylwb j = 8 * (20 * j') ∧ ((j ≤ 44 ∧ j' = j + 1 ∧ n = 20 * j + 20) ∨ (j = 45 ∧ j' = 45 ∧ n = 4294967295)) := by
    by_cases h : j ≤ 44
    · have hb := Nat.ble_eq_true_of_le h
      refine ⟨j + 1, 20 * j + 20, by omega, ?_, ?_, Or.inl ⟨h, rfl, rfl⟩⟩
      · unfold zylwa
        rw [hb]
        show 160 * (j + 1) = _
        omega
      · unfold zylwb
        rw [hb]
        show 160 * (j + 1) = _
        omega
    · have e : j = 45 := by omega
      subst e
      exact ⟨45, 4294967295, by decide, rfl, rfl, Or.inr ⟨rfl, rfl, rfl⟩⟩
  refine zl_callC hC (pc := 267) (ct := (zylwF j).2.1) (cd := zylwa j) rfl rfl hen1 hme1 rfl rfl rfl rfl (by show 3 ≤ 100; decide) (by decide) hcn rfl ?_ hI.1.1 (zyPk_1 hI.1.2 (show 160 * j = 8 * (20 * j) by omega)) hl.1 hlo (fun H3 vo locs2 hI3 ho3 hpo _ hv hlo2 => ?_)
  · show zySt _ (3 :: List.replicate 5 34359738362) _
    exact ⟨zyC0, zyFu0 rfl⟩
  have hpo : zyPk zymc X [(573441, zylwb j)] H3 := hpo
  have hCS : zyCS X (20 * j') s H3 := ⟨hI3, zyPk_1r hpo eb⟩
  have hRS := zyRS_keep hI.2 hI3 ho3
  rw [ea] at hv
  rw [zyvo_n hv]
  refine lv_aload_n hexec hb (zdL (pc := 270) (k := 1) (ax := 0) rfl (fun q => by cases q)) rfl (lv_at hl 1 rfl) ?_
  refine zl_args (ks := [1, 2, 3, 4, 5]) hC hS hI3.2.2.2 hl hi ⟨⟨rfl, rfl, rfl, rfl, rfl, by decide⟩, ⟨rfl, rfl, rfl, rfl, rfl, by decide⟩, ⟨rfl, rfl, rfl, rfl, rfl, by decide⟩, ⟨rfl, rfl, rfl, rfl, rfl, by decide⟩, ⟨rfl, rfl, rfl, rfl, rfl, by decide⟩, trivial⟩ ?_
  rw [hm, zl_stk]
  have hen2 : zG zxMeta 312 = some (zxi312, 6, 6, 11, 312, 0, 0, 1, 0) := rfl
  obtain ⟨me2, hme2, -⟩ := zall hen2
  obtain ⟨r, c0, hp, hI1, hJ, ht, T, hT, hT2⟩ := hRS
  refine zl_callR hC (pc := 296) (x := zymr75 r c0) (as := [1, 2, 3, 4, 5].map fun k => xs (i + k)) rfl rfl hen2 hme2 rfl rfl rfl rfl (by decide) (by show 1 ≤ 8; decide) (zyfeed_H hp.1 hp.2.1 hp.2.2.1 hp.2.2.2 hen2 hme2) rfl hI1 trivial hl.1 hlo2 (fun H4 vo2 locs3 hI4 ho4 hΨ hlo3 => ?_)
  have hΨ : zyΨfe _ (zyEl (zymr r c0) X H3) (zyEl (zymr r c0) X H4) vo2 := hΨ
  rw [zyElx r c0 X H3, zyElx r c0 X H4] at hΨ
  obtain ⟨h75, q, hq, e33, hcase⟩ := hΨ
  rw [ht] at e33
  have eq := zyOi (by omega) (by omega) (Value.int.inj (Option.some.inj e33))
  have hfin : vo2 = some (.int (Int32.ofNat n)) ∧ zyEl zymx X H4 74 33 = some (.int (Int32.ofNat (20 * j'))) := by
    rcases hcase with ⟨g1, g2, g3⟩ | ⟨g1, g2, g3⟩
    · rcases hn with ⟨n1, n2, n3⟩ | ⟨n1, n2, n3⟩
      · rw [n2, n3, g2, g3, ← eq]
        exact ⟨rfl, by rw [show 20 * (j + 1) = 20 * j + 20 by omega]⟩
      · omega
    · rcases hn with ⟨n1, n2, n3⟩ | ⟨n1, n2, n3⟩
      · omega
      · rw [n2, n3, g2, g3, ← eq, n1]
        exact ⟨rfl, rfl⟩
  obtain ⟨ev, e33'⟩ := hfin
  rw [ev]
  refine lv_icmp_eq hexec hb (zdL (pc := 299) (k := 3) (ax := 1479) rfl (fun q => by cases q)) (tgt := 1479) rfl (fun _ => ?_) (fun q => absurd rfl q)
  exact kk H4 locs3 j' hj' ⟨zyCS_keep hCS hI4 ho4, r, c0, hp, hI4, zJ1_fr (fun k _ => h75 k) hJ, e33', T, hT, (h75 3).trans hT2⟩ hlo3
theorem zylwi_v {B : zCx} {J : zyJt} {lo hi : Nat} {x : Int32} (h1 : lo ≤ zB x) (h2 : zB x ≤ hi) (h3 : hi < 4294967296) : zyV (zyX0 B J) (zylwi lo hi) (.int x) := by
  rw [show zylwi lo hi = 8 * (lo * 4294967296 + hi) + 2 by show 8 * (4294967296 * lo + hi) + 2 = _; omega]
  exact zyv_bd h1 h2 h3
theorem zl_loadC (hC : zLc X p s mt meth c) (hcl : ∀ i, i < 163 → zyCo l zymc zyJc zylwt i) {N j : Nat} (hj : j ≤ 45) {x : Int32} {H : Heap} {locs : List Loc} {ls : Array Slot} (hsz : ls.size = 4) (hI : zLI X s N (20 * j) (20 * j) H) (hlo : ∀ x ∈ locs, zbs X ≤ x.base)
    (kk : ∀ (H3 : Heap) (locs2 : List Loc) (z : Int32) (q : Nat), zLI X s N q (20 * j) H3 → (((zB x < 2147483648 ∨ 2147483648 + 20 * j < zB x) ∧ q = 20 * j) ∨ (2147483648 ≤ zB x ∧ zB x ≤ 2147483648 + 20 * j ∧ q = 0)) → (∀ x ∈ locs2, zbs X ≤ x.base) → zWL p l e s mt below meth c b H3 locs2 313 ls [.int z]) : zWL p l e s mt below meth c b H locs 310 ls ((Value.ref (zad X 0) :: [x].map Value.int).reverse ++ []) := by
  have hen1 : zG zxMeta 121 = some (zxi121, 2, 3, 10, 121, 0, 0, 1, 0) := rfl
  obtain ⟨me1, hme1, -⟩ := zall hen1
  by_cases h1 : zB x < 2147483648
  · have hcn := hcl 162 (by decide)
    unfold zyCo at hcn
    rw [zylwt_B] at hcn
    refine zl_callC hC (pc := 310) (ct := zylwB.2.1) rfl rfl hen1 hme1 rfl rfl rfl rfl (by decide) (by decide) (hcn _ _ hen1 hme1) rfl ⟨zyC0, zylwi_v (Nat.zero_le _) (by omega) (by decide), trivial⟩ hI.1.1 (by intro q hq; cases hq) hsz hlo (fun H3 vo locs2 hI3 ho3 _ hfr hv hlo2 => ?_)
    obtain ⟨z, rfl⟩ := zyvo_z (by decide) hv
    exact kk H3 locs2 z (20 * j) ⟨⟨hI3, (hfr 35 1 rfl).trans hI.1.2⟩, zyRS_keep hI.2 hI3 ho3⟩ (Or.inl ⟨Or.inl h1, rfl⟩) hlo2
  by_cases h2 : zB x ≤ 2147483648 + 20 * j
  · have hcn := hcl (70 + j) (by omega)
    unfold zyCo at hcn
    rw [zylwt_A (by omega)] at hcn
    refine zl_callC hC (pc := 310) (ct := (zylwA j).2.1) rfl rfl hen1 hme1 rfl rfl rfl rfl (by show 11 ≤ 100; decide) (by decide) (hcn _ _ hen1 hme1) rfl ⟨zyC0, zylwi_v (by omega) (show zB x ≤ 2147483648 + 20 * j from h2) (show 2147483648 + 20 * j < 4294967296 by omega), trivial⟩ hI.1.1 (zyPk_1 hI.1.2 (show 160 * j = 8 * (20 * j) by omega)) hsz hlo (fun H3 vo locs2 hI3 ho3 hpo hfr hv hlo2 => ?_)
    obtain ⟨z, rfl⟩ := zyvo_z (by decide) hv
    exact kk H3 locs2 z 0 ⟨⟨hI3, zyPk_1r (q := 0) hpo rfl⟩, zyRS_keep hI.2 hI3 ho3⟩ (Or.inr ⟨by omega, h2, rfl⟩) hlo2
  · have hcn := hcl (116 + j) (by omega)
    unfold zyCo at hcn
    rw [zylwt_C (by omega)] at hcn
    have := zB_lt x
    refine zl_callC hC (pc := 310) (ct := (zylwC j).2.1) rfl rfl hen1 hme1 rfl rfl rfl rfl (by show 11 ≤ 100; decide) (by decide) (hcn _ _ hen1 hme1) rfl ⟨zyC0, zylwi_v (show 2147483648 + 20 * j + 1 ≤ zB x by omega) (by omega) (by decide), trivial⟩ hI.1.1 (zyPk_1 hI.1.2 (show 160 * j = 8 * (20 * j) by omega)) hsz hlo (fun H3 vo locs2 hI3 ho3 _ hfr hv hlo2 => ?_)
    obtain ⟨z, rfl⟩ := zyvo_z (by decide) hv
    exact kk H3 locs2 z (20 * j) ⟨⟨hI3, (hfr 35 1 rfl).trans hI.1.2⟩, zyRS_keep hI.2 hI3 ho3⟩ (Or.inl ⟨Or.inr (by omega), rfl⟩) hlo2
theorem zl_load (hC : zLc X p s mt meth c) {L i : Nat} {xs : Nat → Int32} (hS : zSc0 s X b L xs) {ls : Array Slot} (hl : zLl X b i ls) (hi : i + 5 < L) (hcl : ∀ i, i < 163 → zyCo l zymc zyJc zylwt i) {N j : Nat} (hj : j ≤ 45) {H : Heap} {locs : List Loc} (hI : zLI X s N (20 * j) (20 * j) H) (hlo : ∀ x ∈ locs, zbs X ≤ x.base)
    (kk : ∀ (H3 : Heap) (locs2 : List Loc) (j' : Nat), j' ≤ 45 → zLI X s N (20 * j') (20 * j') H3 → (∀ x ∈ locs2, zbs X ≤ x.base) → zWL p l e s mt below meth c b H3 locs2 1479 ls []) : zWL p l e s mt below meth c b H locs 304 ls [] := by
  have hexec := hC.1
  have hb := hC.2.1
  refine lv_aload_n hexec hb (zdL (pc := 304) (k := 1) (ax := 0) rfl (fun q => by cases q)) rfl (lv_at hl 2 rfl) ?_
  refine zl_arg (k := 1) hC hS (zLI_h hI) hl (by omega) rfl rfl rfl rfl rfl (by decide) ?_
  refine zl_loadC hC hcl hj (x := xs (i + 1)) hl.1 hI hlo (fun H3 locs2 z q hI3 hq hlo2 => ?_)
  refine lv_pop hexec hb (zdL (pc := 313) (k := 1) (ax := 0) rfl (fun q => by cases q)) rfl ?_
  refine lv_aload_n hexec hb (zdL (pc := 314) (k := 1) (ax := 0) rfl (fun q => by cases q)) rfl (lv_at hl 1 rfl) ?_
  refine zl_arg (k := 1) hC hS (zLI_h hI3) hl (by omega) rfl rfl rfl rfl rfl (by decide) ?_
  have hen2 : zG zxMeta 329 = some (zxi329, 2, 3, 11, 329, 0, 0, 1, 0) := rfl
  obtain ⟨me2, hme2, -⟩ := zall hen2
  obtain ⟨hCS, r, c0, hp, hI1, hJ, ht, T, hT, hT2⟩ := hI3
  have hIx : zyMI (zymrX zymx75) X zyJ0 s H3 := zyMI_x hp hI1
  refine zl_callR hC (pc := 320) (x := zymx75) (as := [xs (i + 1)]) (rs := []) rfl rfl hen2 hme2 rfl rfl rfl rfl (by decide) (by decide) (zyload hen2 hme2) rfl hIx trivial hl.1 hlo2 (fun H4 vo2 locs3 hI4 ho4 hΨ hlo3 => ?_)
  have hΨ : zyΨld [xs (i + 1)] (zyEl zymx X H3) (zyEl zymx X H4) vo2 := hΨ
  obtain ⟨⟨z2, rfl⟩, x0, q0, has, hq0, e33, hcase⟩ := hΨ
  have ex := (List.cons.inj has).1
  subst ex
  rw [ht] at e33
  have eq := zyOi (by omega) (by omega) (Value.int.inj (Option.some.inj e33))
  subst eq
  have hCS4 : zyCS X q s H4 := zyCS_keep hCS hI4 ho4
  have b0 : ∀ {n : Nat}, n < 2147483648 → zB (Int32.ofNat n) = n + 2147483648 := fun h => zyBn h
  have hc0 : xs (i + 1) < Int32.ofNat 0 ↔ zB (xs (i + 1)) < 2147483648 := by
    rw [zB_slt, b0 (by decide)]
  have hcq : Int32.ofNat (20 * j) < xs (i + 1) ↔ 2147483648 + 20 * j < zB (xs (i + 1)) := by
    rw [zB_slt, b0 (by omega), Nat.add_comm]
  have hsame : (∀ k, k < 556 → zyEl zymx X H4 75 k = zyEl zymx X H3 75 k) → ∀ q2, zyEl zymx X H4 74 33 = some (.int (Int32.ofNat q2)) → zyRS X N q2 s H4 := fun h75 q2 h33 =>
    ⟨r, c0, hp, zyMI_r hp hI4 (fun k hk b hb b1 b2 => by rw [h75 k hk]; exact zyT75_of hI1 k hk b hb b1 b2), zJ1_fr (fun k hk => h75 k (by omega)) hJ, h33, T, hT, (h75 3 (by decide)).trans hT2⟩
  refine lv_pop hexec hb (zdL (pc := 323) (k := 1) (ax := 0) rfl (fun q => by cases q)) rfl ?_
  refine lv_goto hexec hb (zdL (pc := 324) (k := 3) (ax := 1479) rfl (fun q => by cases q)) (tgt := 1479) rfl ?_
  rcases hcase with ⟨g1, g2, g3⟩ | ⟨g1, g1', g2, g3⟩
  · rw [hc0, hcq] at g1
    have eq : q = 20 * j := by omega
    subst eq
    exact kk H4 locs3 j hj ⟨hCS4, hsame g3 _ g2⟩ hlo3
  · rw [hc0] at g1
    rw [hcq] at g1'
    have eq : q = 0 := by omega
    subst eq
    refine kk H4 locs3 0 (by decide) ⟨hCS4, ?_⟩ hlo3
    rcases g3 with g3 | ⟨r2, c2, hp2, k1, k2⟩
    · exact hsame g3 _ g2
    · exact ⟨r2, c2, hp2, zyMI_r hp2 hI4 k1, zJl_J1 k2, g2, 0, Nat.zero_le _, k2.1⟩
/-- free's second argument -/
theorem zl_free (hC : zLc X p s mt meth c) {L i : Nat} {xs : Nat → Int32} (hS : zSc0 s X b L xs) {ls : Array Slot} (hl : zLl X b i ls) (hi : i + 5 < L) {N qc qr : Nat} (hc : zUC l 131 2 zyBo) (hr : zUR l 272 2 zyBo) {H : Heap} {locs : List Loc} (hI : zLI X s N qc qr H) (hN : N ≤ 1000000) (hlo : ∀ x ∈ locs, zbs X ≤ x.base)
    (kk : ∀ (H3 : Heap) (locs2 : List Loc), zLI X s (N + 100) qc qr H3 → (∀ x ∈ locs2, zbs X ≤ x.base) → zWL p l e s mt below meth c b H3 locs2 1479 ls []) : zWL p l e s mt below meth c b H locs 594 ls [] := by
  have hexec := hC.1
  have hb := hC.2.1
  have two : ∀ (H3 : Heap) (z : Int32) (locs2 : List Loc), zLI X s N qc qr H3 → (∀ x ∈ locs2, zbs X ≤ x.base) → zWL p l e s mt below meth c b H3 locs2 616 ls [.int z] := by
    intro H3 z locs2 hI3 hlo2
    have last : ∀ y : Int32, (y = 0 ∨ y = 1) → zWL p l e s mt below meth c b H3 locs2 636 ls ((([xs (i + 1), y] : List Int32).map Value.int).reverse ++ [.ref (zad X 74)]) := by
      intro y hy
      refine zl_UR hC hr (pc := 636) rfl rfl rfl (show zG zxMeta 272 = some (zxi272, 3, 3, 11, 272, 0, 0, 1, 0) from rfl) rfl rfl rfl rfl (by decide) rfl ⟨_, _, rfl, hy⟩ hI3 hN hl.1 hlo2 (fun H4 z2 locs3 hI4 hlo3 => ?_)
      refine lv_pop hexec hb (zdL (pc := 639) (k := 1) (ax := 0) rfl (fun q => by cases q)) rfl ?_
      exact lv_goto hexec hb (zdL (pc := 640) (k := 3) (ax := 1479) rfl (fun q => by cases q)) (tgt := 1479) rfl (kk H4 locs3 hI4 hlo3)
    refine lv_pop hexec hb (zdL (pc := 616) (k := 1) (ax := 0) rfl (fun q => by cases q)) rfl ?_
    refine lv_aload_n hexec hb (zdL (pc := 617) (k := 1) (ax := 0) rfl (fun q => by cases q)) rfl (lv_at hl 1 rfl) ?_
    refine zl_arg (k := 1) hC hS (zLI_h hI3) hl (by omega) rfl rfl rfl rfl rfl (by decide) ?_
    refine zl_arg (k := 2) hC hS (zLI_h hI3) hl (by omega) rfl rfl rfl rfl rfl (by decide) ?_
    refine lv_if_eq hexec hb (zdL (pc := 628) (k := 3) (ax := 635) rfl (fun q => by cases q)) (tgt := 635) rfl (fun _ => ?_) (fun _ => ?_)
    · exact lv_iconst hexec hb (zdL (pc := 635) (k := 1) (ax := 0) rfl (fun q => by cases q)) (v := 0) rfl (last 0 (Or.inl rfl))
    · refine lv_iconst hexec hb (zdL (pc := 631) (k := 1) (ax := 0) rfl (fun q => by cases q)) (v := 1) rfl ?_
      exact lv_goto hexec hb (zdL (pc := 632) (k := 3) (ax := 636) rfl (fun q => by cases q)) (tgt := 636) rfl (last 1 (Or.inr rfl))
  have last : ∀ y : Int32, (y = 0 ∨ y = 1) → zWL p l e s mt below meth c b H locs 613 ls ((([xs (i + 1), y] : List Int32).map Value.int).reverse ++ [.ref (zad X 0)]) := by
    intro y hy
    exact zl_UC hC hc (pc := 613) rfl rfl rfl (show zG zxMeta 131 = some (zxi131, 3, 3, 10, 131, 0, 0, 1, 0) from rfl) rfl rfl rfl rfl (by decide) rfl ⟨_, _, rfl, hy⟩ hI hl.1 hlo two
  refine lv_aload_n hexec hb (zdL (pc := 594) (k := 1) (ax := 0) rfl (fun q => by cases q)) rfl (lv_at hl 2 rfl) ?_
  refine zl_arg (k := 1) hC hS (zLI_h hI) hl (by omega) rfl rfl rfl rfl rfl (by decide) ?_
  refine zl_arg (k := 2) hC hS (zLI_h hI) hl (by omega) rfl rfl rfl rfl rfl (by decide) ?_
  refine lv_if_eq hexec hb (zdL (pc := 605) (k := 3) (ax := 612) rfl (fun q => by cases q)) (tgt := 612) rfl (fun _ => ?_) (fun _ => ?_)
  · exact lv_iconst hexec hb (zdL (pc := 612) (k := 1) (ax := 0) rfl (fun q => by cases q)) (v := 0) rfl (last 0 (Or.inl rfl))
  · refine lv_iconst hexec hb (zdL (pc := 608) (k := 1) (ax := 0) rfl (fun q => by cases q)) (v := 1) rfl ?_
    exact lv_goto hexec hb (zdL (pc := 609) (k := 3) (ax := 613) rfl (fun q => by cases q)) (tgt := 613) rfl (last 1 (Or.inr rfl))
end ZLY
