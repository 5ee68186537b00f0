/-! IN THE LAW'S LOOP: feed, load, free -/
section ZLY
variable {p : Program} {l : Launch} {e : Env} {s : State} {mt : MethodId} {below : List Frame} {meth : Method} {c : Code} {b : Nat} {X : zCx}
theorem zyvo_n {B : zCx} {J : zyJt} {n : Nat} {vo : Option Value} (h : zyvo (zyX0 B J) [8 * n] vo) : vo = some (.int (Int32.ofNat n)) := by
  cases vo with
  | none => exact h.elim
  | some x =>
    have h : zyV (zyX0 B J) (8 * n) x := h
    rw [zyv_0 h (by omega), show 8 * n / 8 = n by omega]
theorem zyPk_1 {B : zCx} {H : Heap} {q cd : Nat} (h : zyEl zymc B H 35 1 = some (.int (Int32.ofNat q))) (hc : cd = 8 * q) : zyPk zymc B [(573441, cd)] H := by
  intro w hw
  rw [List.mem_singleton.mp hw]
  subst hc
  obtain ⟨c35, hg, hk⟩ : ∃ c35, zG zymc 35 = some c35 ∧ 1 < zyLen c35 := ⟨_, rfl, by decide⟩
  have d1 : (573441 : Nat) / 16384 = 35 := by decide
  have d2 : (573441 : Nat) % 16384 = 1 := by decide
  refine ⟨c35, .int (Int32.ofNat q), ?_, ?_, ?_, by show ¬ 8 * q % 8 = 1; omega, zyv_mk rfl⟩
  · show zG zymc (573441 / 16384) = some c35
    rw [d1]
    exact hg
  · show 573441 % 16384 < zyLen c35
    rw [d2]
    exact hk
  · show zyEl zymc B H (573441 / 16384) (573441 % 16384) = _
    rw [d1, d2]
    exact h
theorem zyPk_1r {B : zCx} {H : Heap} {q cd : Nat} (h : zyPk zymc B [(573441, cd)] H) (hc : cd = 8 * q) : zyEl zymc B H 35 1 = some (.int (Int32.ofNat q)) := by
  subst hc
  obtain ⟨c35, x, -, -, hx, -, hv⟩ := h (573441, 8 * q) (List.mem_singleton.mpr rfl)
  have d1 : (573441 : Nat) / 16384 = 35 := by decide
  have d2 : (573441 : Nat) % 16384 = 1 := by decide
  have hx : zyEl zymc B H (573441 / 16384) (573441 % 16384) = some x := hx
  rw [d1, d2] at hx
  have hv : zyv (fun _ => 0) 0 (zad B) (8 * q) x := hv
  have e := zyv_0 hv (by omega)
  rw [hx, e, show 8 * q / 8 = q by omega]
theorem zl_stk {B : zCx} {a : Nat} {as : List Int32} {rs : List Value} : (as.map Value.int).reverse ++ (.ref (zad B a) :: rs) = (Value.ref (zad B a) :: as.map Value.int).reverse ++ rs := by
  rw [List.reverse_cons, List.append_assoc]
  rfl
theorem xE_q {mi : zyB} {H : Heap} {a k q : Nat} (h : zyEl mi X H a k = some (.int (Int32.ofNat q))) (hq : q ≤ 900) : xE (zyEl mi X H) a (k : Int) = (q : Int) := by
  rw [xE_s h (Int.toNat_natCast k), xI_nat (by omega)]
  exact if_pos (by omega)
theorem xfv_b (as : List Int32) (k : Nat) : -2147483648 ≤ xfv (as.map xI) k ∧ xfv (as.map xI) k < 2147483648 := by rw [xfv_map]; exact xI_r _
theorem xTy_k {E : zyEm} (hT : zyTy zymc E) {a n q : Nat} {c : zyCl} {r : Nat × Nat × Nat} (hg : zG zymc a = some c) (hn : zyLen c = n) (hr : c.2.2[q]? = some r) (h1 : r.1 = 0) (h2 : n ≤ r.2.1 + 1) (h3 : r.2.2 % 8 = 2) {lo hi : Nat} (hlo : r.2.2 / 34359738368 = lo) (hhi : r.2.2 / 8 % 4294967296 = hi) {k : Int} (k0 : 0 ≤ k) (k1 : k < n) : (lo : Int) ≤ xE E a k + 2147483648 ∧ xE E a k + 2147483648 ≤ (hi : Int) := by
  have h := xTyF hT a k.toNat q hg (Nat.ble_eq_true_of_le (by omega)) hr (Nat.ble_eq_true_of_le (by omega)) (Nat.ble_eq_true_of_le (by omega)) (by show Nat.beq (r.2.2 % 8) 2 = true; rw [h3]; rfl)
  rw [Int.toNat_of_nonneg k0, hlo, hhi] at h
  exact h
theorem sbt1 : zStp [(0, 0, 0)] [(74, 2, 3)] xPb0 (fun _ => True) xΨcbt1 xΨbt := by
  intro as E E2 R R2 r r2 _ hT h hf hc hfr hr
  exact ⟨rbt1 h E2 hc hr, xPb0_k h (fun a ha k _ => by rcases ha with rfl | rfl | rfl | rfl | rfl | rfl <;> exact xFr_E hf rfl) (fun k hk => xFr_E hfr rfl)⟩
theorem sfs1 : zStp [(0, 0, 0)] [(74, 2, 3)] xPb0 (fun _ => True) xΨcfs1 xΨfs := by
  intro as E E2 R R2 r r2 _ hT h hf hc hfr hr
  have hs : sN (xE R 75 0) (xE R 75 1) ≤ 80 := by
    have h1 := h.1
    have := sN_r h1.1 h1.2
    omega
  exact ⟨rfs1 h (fun k k0 k1 => by have := xTy_k hT (a := 4) (q := 0) (n := 80) (lo := 2147483647) (hi := 2147483727) rfl rfl rfl rfl (by decide) rfl rfl rfl k0 (by omega); omega) E2 hc hr, xPb0_k h (fun a ha k _ => by rcases ha with rfl | rfl | rfl | rfl | rfl | rfl <;> exact xFr_E hf rfl) (fun k hk => xFr_E hfr rfl)⟩
theorem spg1 : zStp [(0, 0, 0), (10, 0, 30), (11, 0, 30)] [(74, 2, 3), (75, 8, 70)] xPb0 (fun _ => True) xΨcpg1 xΨpg := by
  intro as E E2 R R2 r r2 _ hT h hf hc hfr hr
  exact rpg1 (xfv_b as 1).2 h (fun a ha k _ => by rcases ha with rfl | rfl | rfl | rfl <;> exact xFr_E hf rfl) hc hr
theorem sst1 : zStp [(0, 0, 0), (12, 0, 30)] [(74, 2, 3), (75, 72, 103)] xPb0 (fun _ => True) xΨcst1 xΨsk2 := by
  intro as E E2 R R2 r r2 _ hT h hf hc hfr hr
  exact rst1 h (fun a ha k _ => by rcases ha with rfl | rfl | rfl | rfl | rfl <;> exact xFr_E hf rfl) hc hr
theorem sfr1 : zStp [(0, 0, 0), (13, 0, 30)] [(74, 2, 3), (75, 104, 135)] xPb0 zyBo xΨcfr1 xΨfr2 := by
  intro as E E2 R R2 r r2 hB hT h hf hc hfr hr
  obtain ⟨x, y, rfl, hy⟩ := hB
  have hx : 0 ≤ xfv ([x, y].map xI) 1 ∧ xfv ([x, y].map xI) 1 ≤ 1 := by
    show 0 ≤ xI y ∧ xI y ≤ 1
    rcases hy with rfl | rfl <;> decide
  exact rfr1 h (fun g g0 g1 => by have := xTy_k hT (a := 13) (q := 0) (n := 31) (lo := 2147483648) (hi := 2147483649) rfl rfl rfl rfl (by decide) rfl rfl rfl g0 (by omega); omega) hx (fun a ha k _ => by rcases ha with rfl | rfl | rfl | rfl | rfl <;> exact xFr_E hf rfl) hc hr
theorem sbt18 : zStp [(0, 0, 0)] [(74, 2, 3)] xPb17 (fun _ => True) xΨcbt18 xΨbt := by
  intro as E E2 R R2 r r2 _ hT h hf hc hfr hr
  exact ⟨rbt18 h E2 hc hr, xPb17_k h (fun a ha k _ => by rcases ha with rfl | rfl | rfl | rfl | rfl | rfl <;> exact xFr_E hf rfl) (fun k hk => xFr_E hfr rfl)⟩
theorem sfs18 : zStp [(0, 0, 0)] [(74, 2, 3)] xPb17 (fun _ => True) xΨcfs18 xΨfs := by
  intro as E E2 R R2 r r2 _ hT h hf hc hfr hr
  have hs : sN (xE R 75 0) (xE R 75 1) ≤ 80 := by
    have h1 := h.1
    have := sN_r h1.1 h1.2
    omega
  exact ⟨rfs18 h (fun k k0 k1 => by have := xTy_k hT (a := 21) (q := 0) (n := 80) (lo := 2147483647) (hi := 2147483727) rfl rfl rfl rfl (by decide) rfl rfl rfl k0 (by omega); omega) E2 hc hr, xPb17_k h (fun a ha k _ => by rcases ha with rfl | rfl | rfl | rfl | rfl | rfl <;> exact xFr_E hf rfl) (fun k hk => xFr_E hfr rfl)⟩
theorem spg18 : zStp [(0, 0, 0), (27, 0, 30), (28, 0, 30)] [(74, 2, 3), (75, 8, 70)] xPb17 (fun _ => True) xΨcpg18 xΨpg := by
  intro as E E2 R R2 r r2 _ hT h hf hc hfr hr
  exact rpg18 (xfv_b as 1).2 h (fun a ha k _ => by rcases ha with rfl | rfl | rfl | rfl <;> exact xFr_E hf rfl) hc hr
theorem sst18 : zStp [(0, 0, 0), (29, 0, 30)] [(74, 2, 3), (75, 72, 103)] xPb17 (fun _ => True) xΨcst18 xΨsk2 := by
  intro as E E2 R R2 r r2 _ hT h hf hc hfr hr
  exact rst18 h (fun a ha k _ => by rcases ha with rfl | rfl | rfl | rfl | rfl <;> exact xFr_E hf rfl) hc hr
theorem sfr18 : zStp [(0, 0, 0), (30, 0, 30)] [(74, 2, 3), (75, 104, 135)] xPb17 zyBo xΨcfr18 xΨfr2 := by
  intro as E E2 R R2 r r2 hB hT h hf hc hfr hr
  obtain ⟨x, y, rfl, hy⟩ := hB
  have hx : 0 ≤ xfv ([x, y].map xI) 1 ∧ xfv ([x, y].map xI) 1 ≤ 1 := by
    show 0 ≤ xI y ∧ xI y ≤ 1
    rcases hy with rfl | rfl <;> decide
  exact rfr18 h (fun g g0 g1 => by have := xTy_k hT (a := 30) (q := 0) (n := 31) (lo := 2147483648) (hi := 2147483649) rfl rfl rfl rfl (by decide) rfl rfl rfl g0 (by omega); omega) hx (fun a ha k _ => by rcases ha with rfl | rfl | rfl | rfl | rfl <;> exact xFr_E hf rfl) hc hr
theorem zl_feed (hC : zLc X p s mt meth c) {L i : Nat} {xs : Nat → Int32} (hS : zSc0 s X b L xs) {ls : Array Slot} (hl : zLl X b i ls) (hi : i + 5 < L) (hcl : ∀ i, i < 163 → zyCo l zymc zyJc zylwt i) {N j : Nat} (hj : j ≤ 45) {H : Heap} {locs : List Loc} (hI : zLI X s N (20 * j) H) (hlo : ∀ x ∈ locs, zbs X ≤ x.base)
    (kk : ∀ (H3 : Heap) (locs2 : List Loc) (j' : Nat), j' ≤ 45 → zLI X s N (20 * j') H3 → (∀ x ∈ locs2, zbs X ≤ x.base) → zWL p l e s mt below meth c b H3 locs2 1479 ls []) : zWL p l e s mt below meth c b H locs 241 ls [] := by
  have hexec := hC.1
  have hb := hC.2.1
  have hm : ∀ ks : List Nat, (ks.map fun k => Value.int (xs (i + k))) = (ks.map fun k => xs (i + k)).map Value.int := fun ks => by rw [List.map_map]; rfl
  refine lv_aload_n hexec hb (zdL (pc := 241) (k := 1) (ax := 0) rfl (fun q => by cases q)) rfl (lv_at hl 2 rfl) ?_
  refine zl_args (ks := [1, 2, 3, 4, 5]) hC hS (zLI_h hI) hl hi ⟨⟨rfl, rfl, rfl, rfl, rfl, by decide⟩, ⟨rfl, rfl, rfl, rfl, rfl, by decide⟩, ⟨rfl, rfl, rfl, rfl, rfl, by decide⟩, ⟨rfl, rfl, rfl, rfl, rfl, by decide⟩, ⟨rfl, rfl, rfl, rfl, rfl, by decide⟩, trivial⟩ ?_
  rw [hm, zl_stk]
  have hen1 : zG zxMeta 120 = some (zxi120, 6, 6, 10, 120, 0, 0, 1, 0) := rfl
  obtain ⟨me1, hme1, -⟩ := zall hen1
  have hcn := hcl (24 + j) (by omega)
  unfold zyCo at hcn
  rw [zylwt_F (by omega)] at hcn
  have hcn := hcn _ _ hen1 hme1
  obtain ⟨j', hj', eb, hn⟩ : ∃ j' : Nat, j' ≤ 45 ∧ zylwb j = 8 * (20 * j') ∧ ((j ≤ 44 ∧ j' = j + 1) ∨ (j = 45 ∧ j' = 45)) := by
    by_cases h : j ≤ 44
    · have hb := Nat.ble_eq_true_of_le h
      refine ⟨j + 1, by omega, ?_, Or.inl ⟨h, rfl⟩⟩
      unfold zylwb
      rw [hb]
      show 160 * (j + 1) = _
      omega
    · have e : j = 45 := by omega
      subst e
      exact ⟨45, by decide, rfl, Or.inr ⟨rfl, rfl⟩⟩
  obtain ⟨⟨hCS0, hRS0⟩, hOr, hW, hTp, hPl⟩ := hI
  refine zl_callC2 hC (pc := 267) (as := [1, 2, 3, 4, 5].map fun k => xs (i + k)) (ct := (zylwF j).2.1) (cd := zylwa j) rfl rfl hen1 hme1 rfl rfl rfl rfl (by show 3 ≤ 100; decide) (by decide) hcn rfl ?_ (xFe hen1 hme1 X) (by decide) rfl trivial hCS0.1 (zyPk_1 hCS0.2 (show 160 * j = 8 * (20 * j) by omega)) hl.1 hlo (fun H3 z locs2 hI3 ho3 hpo _ hf hΨ hlo2 => ?_)
  · show zySt _ (3 :: List.replicate 5 34359738362) _
    exact ⟨zyC0, zyFu0 rfl⟩
  have hpo : zyPk zymc X [(573441, zylwb j)] H3 := hpo
  have hCS : zyCS X (20 * j') s H3 := ⟨hI3, zyPk_1r hpo eb⟩
  have hRS := zyRS_keep hRS0 hI3 ho3
  have elR := zyR_el hRS0 hI3 ho3
  have hOr3 : zOr X H3 := zOr_k hOr (hf 0 1 rfl) (hf 0 2 rfl)
  have q0 : xE (zyEl zymc X H) 35 1 = ((20 * j : Nat) : Int) := xE_q (k := 1) hCS0.2 (by omega)
  refine lv_pop hexec hb (zdL (pc := 270) (k := 1) (ax := 0) rfl (fun q => by cases q)) rfl ?_
  refine lv_aload_n hexec hb (zdL (pc := 271) (k := 1) (ax := 0) rfl (fun q => by cases q)) rfl (lv_at hl 1 rfl) ?_
  refine zl_args (ks := [1, 2, 3, 4, 5]) hC hS hI3.2.2.2 hl hi ⟨⟨rfl, rfl, rfl, rfl, rfl, by decide⟩, ⟨rfl, rfl, rfl, rfl, rfl, by decide⟩, ⟨rfl, rfl, rfl, rfl, rfl, by decide⟩, ⟨rfl, rfl, rfl, rfl, rfl, by decide⟩, ⟨rfl, rfl, rfl, rfl, rfl, by decide⟩, trivial⟩ ?_
  rw [hm, zl_stk]
  have hen2 : zG zxMeta 312 = some (zxi312, 6, 6, 11, 312, 0, 0, 1, 0) := rfl
  obtain ⟨me2, hme2, -⟩ := zall hen2
  obtain ⟨r, c0, hp, hI1, hJ, ht, T, hT, hT2⟩ := hRS
  have t0 : xE (zyEl zymx X H3) 74 33 = ((20 * j : Nat) : Int) := xE_q (k := 33) ht (by omega)
  refine zl_callR2 hC (pc := 297) (x := zymr75 r c0) (as := [1, 2, 3, 4, 5].map fun k => xs (i + k)) rfl rfl hen2 hme2 rfl rfl rfl rfl (by decide) (by decide) (zyfeed_H hp.1 hp.2.1 hp.2.2.1 hp.2.2.2 hen2 hme2) (xFx hen2 hme2 X) (by decide) rfl hI1 (zyMI_x hp hI1) trivial trivial hl.1 hlo2 (fun H4 z2 locs3 hI4 ho4 hΨ4 hf4 hΨ5 hlo3 => ?_)
  have hΨ4 : zyΨfe _ (zyEl (zymr r c0) X H3) (zyEl (zymr r c0) X H4) (some (.int z2)) := hΨ4
  rw [zyElx r c0 X H3, zyElx r c0 X H4] at hΨ4
  obtain ⟨h75, q, hq, e33, hcase⟩ := hΨ4
  rw [ht] at e33
  have eq := zyOi (by omega) (by omega) (Value.int.inj (Option.some.inj e33))
  have e33' : zyEl zymx X H4 74 33 = some (.int (Int32.ofNat (20 * j'))) := by
    rcases hcase with ⟨g1, g2, g3⟩ | ⟨g1, g2, g3⟩
    · rcases hn with ⟨n1, n2⟩ | ⟨n1, n2⟩
      · rw [n2, g3, ← eq, show 20 * (j + 1) = 20 * j + 20 by omega]
      · omega
    · rcases hn with ⟨n1, n2⟩ | ⟨n1, n2⟩
      · omega
      · rw [n2, g3, ← eq, n1]
  have elC := zyC_el hCS hI4 ho4
  have c36 : ∀ k, xE (zyEl zymc X H4) 36 k = xE (zyEl zymc X H3) 36 k := fun k => by unfold xE; rw [elC 36 _ (by decide)]
  have r84 : ∀ k, xE (zyEl zymx X H3) 84 k = xE (zyEl zymx X H) 84 k := fun k => by unfold xE; rw [elR 84 _ (by decide)]
  have hTp4 : zTp X (20 * j') H4 := by
    intro k k0 k1
    rw [c36]
    have hΨ : xΨffe _ (zyEl zymc X H) (zyEl zymc X H3) _ := hΨ
    have hΨ5 : xΨffx _ (zyEl zymx X H3) (zyEl zymx X H4) _ := hΨ5
    unfold xΨffe at hΨ
    unfold xΨffx at hΨ5
    rcases hn with ⟨n1, n2⟩ | ⟨n1, n2⟩
    · rw [if_neg (by omega)] at hΨ hΨ5
      obtain ⟨-, -, a1, a2⟩ := hΨ
      obtain ⟨-, -, b1, b2⟩ := hΨ5
      by_cases hk : k < ((20 * j : Nat) : Int)
      · rw [a2 k k0 (by omega), b2 k k0 (by omega), r84]
        exact hTp k k0 hk
      · have a3 := a1 (k - ((20 * j : Nat) : Int)) (by omega) (by omega)
        have b3 := b1 (k - ((20 * j : Nat) : Int)) (by omega) (by omega)
        rw [q0, show ((20 * j : Nat) : Int) + (k - ((20 * j : Nat) : Int)) = k by omega] at a3
        rw [t0, show ((20 * j : Nat) : Int) + (k - ((20 * j : Nat) : Int)) = k by omega] at b3
        rw [a3, b3]
    · rw [if_pos (by omega)] at hΨ hΨ5
      rw [hΨ.2.2, hΨ5.2.2, r84]
      exact hTp k k0 (by omega)
  refine lv_pop hexec hb (zdL (pc := 300) (k := 1) (ax := 0) rfl (fun q => by cases q)) rfl ?_
  refine lv_goto hexec hb (zdL (pc := 301) (k := 3) (ax := 1479) rfl (fun q => by cases q)) (tgt := 1479) rfl ?_
  exact kk H4 locs3 j' hj' ⟨⟨zyCS_keep hCS hI4 ho4, r, c0, hp, hI4, zJ1_fr (fun k _ => h75 k) hJ, e33', T, hT, (h75 3).trans hT2⟩, zOr_k hOr3 (elC 0 1 (by decide)) (elC 0 2 (by decide)), fun k hk => (hf4 85 k rfl).trans ((elR 85 k (by decide)).trans (hW k hk)), hTp4, zPl_k hPl ((elC 0 1 (by decide)).trans (hf 0 1 rfl)) ((elC 0 2 (by decide)).trans (hf 0 2 rfl)) (fun a ha k => (elC a k (zpl_lt ha)).trans (hf a k (zpl_in (by decide) ha k))) (fun k _ => by rw [zxE_k (H := H) (H2 := H4) (fun k => (h75 k).trans (elR 75 k (by decide)))])⟩ hlo3
theorem zylwi_v {B : zCx} {J : zyJt} {lo hi : Nat} {x : Int32} (h1 : lo ≤ zB x) (h2 : zB x ≤ hi) (h3 : hi < 4294967296) : zyV (zyX0 B J) (zylwi lo hi) (.int x) := by
  rw [show zylwi lo hi = 8 * (lo * 4294967296 + hi) + 2 by show 8 * (4294967296 * lo + hi) + 2 = _; omega]
  exact zyv_bd h1 h2 h3
theorem zl_loadC (hC : zLc X p s mt meth c) (hcl : ∀ i, i < 163 → zyCo l zymc zyJc zylwt i) {N j : Nat} (hj : j ≤ 45) {x : Int32} {H : Heap} {locs : List Loc} {ls : Array Slot} {fp2 : zyR} {Φ2 : (Nat → Int) → zyEm → Prop} {Ψ2 : (Nat → Int) → zyEm → zyEm → Int → Prop} (hsz : ls.size = 4) (hCS0 : zyCS X (20 * j) s H) (hRS0 : zyRS X N (20 * j) s H) (hF : ∀ me, zG zMeth 121 = some me → xFcB l zymc X (zxi121, 2, 3, 10, 121, 0, 0, 1, 0) me 12 [0] 1 fp2 true Φ2 Ψ2) (hΦ2 : Φ2 (xfv [xI x]) (zyEl zymc X H)) (hlo : ∀ x ∈ locs, zbs X ≤ x.base)
    (kk : ∀ (H3 : Heap) (locs2 : List Loc) (z : Int32) (q : Nat), zyCS X q s H3 → zyRS X N (20 * j) s H3 → zyMI zymc X zyJc s H3 → zyOut zymc X H H3 → xFr fp2 (zyEl zymc X H) (zyEl zymc X H3) → Ψ2 (xfv [xI x]) (zyEl zymc X H) (zyEl zymc X H3) (xI z) → (((zB x < 2147483648 ∨ 2147483648 + 20 * j < zB x) ∧ q = 20 * j) ∨ (2147483648 ≤ zB x ∧ zB x ≤ 2147483648 + 20 * j ∧ q = 0)) → (∀ x ∈ locs2, zbs X ≤ x.base) → zWL p l e s mt below meth c b H3 locs2 313 ls [.int z]) : zWL p l e s mt below meth c b H locs 310 ls ((Value.ref (zad X 0) :: [x].map Value.int).reverse ++ []) := by
  have hen1 : zG zxMeta 121 = some (zxi121, 2, 3, 10, 121, 0, 0, 1, 0) := rfl
  obtain ⟨me1, hme1, -⟩ := zall hen1
  by_cases h1 : zB x < 2147483648
  · have hcn := hcl 162 (by decide)
    unfold zyCo at hcn
    rw [zylwt_B] at hcn
    refine zl_callC2 hC (pc := 310) (ct := zylwB.2.1) rfl rfl hen1 hme1 rfl rfl rfl rfl (by decide) (by decide) (hcn _ _ hen1 hme1) rfl ⟨zyC0, zylwi_v (Nat.zero_le _) (by omega) (by decide), trivial⟩ (hF me1 hme1) (by decide) rfl hΦ2 hCS0.1 (by intro q hq; cases hq) hsz hlo (fun H3 z locs2 hI3 ho3 _ hfr hf hΨ hlo2 => ?_)
    exact kk H3 locs2 z (20 * j) ⟨hI3, (hfr 35 1 rfl).trans hCS0.2⟩ (zyRS_keep hRS0 hI3 ho3) hI3 ho3 hf hΨ (Or.inl ⟨Or.inl h1, rfl⟩) hlo2
  by_cases h2 : zB x ≤ 2147483648 + 20 * j
  · have hcn := hcl (70 + j) (by omega)
    unfold zyCo at hcn
    rw [zylwt_A (by omega)] at hcn
    refine zl_callC2 hC (pc := 310) (ct := (zylwA j).2.1) rfl rfl hen1 hme1 rfl rfl rfl rfl (by show 11 ≤ 100; decide) (by decide) (hcn _ _ hen1 hme1) rfl ⟨zyC0, zylwi_v (by omega) (show zB x ≤ 2147483648 + 20 * j from h2) (show 2147483648 + 20 * j < 4294967296 by omega), trivial⟩ (hF me1 hme1) (by decide) rfl hΦ2 hCS0.1 (zyPk_1 hCS0.2 (show 160 * j = 8 * (20 * j) by omega)) hsz hlo (fun H3 z locs2 hI3 ho3 hpo hfr hf hΨ hlo2 => ?_)
    exact kk H3 locs2 z 0 ⟨hI3, zyPk_1r (q := 0) hpo rfl⟩ (zyRS_keep hRS0 hI3 ho3) hI3 ho3 hf hΨ (Or.inr ⟨by omega, h2, rfl⟩) hlo2
  · have hcn := hcl (116 + j) (by omega)
    unfold zyCo at hcn
    rw [zylwt_C (by omega)] at hcn
    have := zB_lt x
    refine zl_callC2 hC (pc := 310) (ct := (zylwC j).2.1) rfl rfl hen1 hme1 rfl rfl rfl rfl (by show 11 ≤ 100; decide) (by decide) (hcn _ _ hen1 hme1) rfl ⟨zyC0, zylwi_v (show 2147483648 + 20 * j + 1 ≤ zB x by omega) (by omega) (by decide), trivial⟩ (hF me1 hme1) (by decide) rfl hΦ2 hCS0.1 (zyPk_1 hCS0.2 (show 160 * j = 8 * (20 * j) by omega)) hsz hlo (fun H3 z locs2 hI3 ho3 _ hfr hf hΨ hlo2 => ?_)
    exact kk H3 locs2 z (20 * j) ⟨hI3, (hfr 35 1 rfl).trans hCS0.2⟩ (zyRS_keep hRS0 hI3 ho3) hI3 ho3 hf hΨ (Or.inl ⟨Or.inr (by omega), rfl⟩) hlo2
def ldM (R : pR) (f : (Int → Int) → Prop) (g : Prop) : Prop := match R with
  | .ok (_, S) => f S
  | .error _ => g
/-- the class's plan is S -/
def zPa (X : zCx) (H : Heap) (S : Int → Int) : Prop := (zyEl zymc X H 0 1 = some (.ref (zad X 1)) ∧ zyEl zymc X H 0 2 = some (.ref (zad X 18)) ∧ xAb0 (zyEl zymc X H) S) ∨ (zyEl zymc X H 0 1 = some (.ref (zad X 18)) ∧ zyEl zymc X H 0 2 = some (.ref (zad X 1)) ∧ xAb17 (zyEl zymc X H) S)
def ldP (X : zCx) (x q0 : Int) (T : Int → Int) (H3 : Heap) : Prop := (0 ≤ x ∧ x ≤ q0 → ldM (pAll T x) (zPa X H3) (zPl X H3)) ∧ (¬ (0 ≤ x ∧ x ≤ q0) → zPl X H3)
theorem zPl_ab {H3 H4 : Heap} {S : Int → Int} (h : zPa X H3 S) (hF : sF S) (el : ∀ a k, a < 72 → zyEl zymc X H4 a k = zyEl zymc X H3 a k) (hS : ∀ k, 0 ≤ k → k < 520 → xE (zyEl zymx X H4) 75 k = S k) : zPl X H4 := by
  have hE2 : ∀ a ∈ zpl, ∀ k : Int, xE (zyEl zymc X H4) a k = xE (zyEl zymc X H3) a k := fun a ha k => by unfold xE; rw [el a _ (zpl_lt ha)]
  rcases h with ⟨o1, o2, h⟩ | ⟨o1, o2, h⟩
  · exact Or.inl ⟨(el 0 1 (by decide)).trans o1, (el 0 2 (by decide)).trans o2, xPb0_k (xPb0_ab h hF hS) (fun a ha k _ => hE2 a (by rcases ha with rfl | rfl | rfl | rfl | rfl | rfl <;> decide) k) (fun _ _ => rfl)⟩
  · exact Or.inr ⟨(el 0 1 (by decide)).trans o1, (el 0 2 (by decide)).trans o2, xPb17_k (xPb17_ab h hF hS) (fun a ha k _ => hE2 a (by rcases ha with rfl | rfl | rfl | rfl | rfl | rfl <;> decide) k) (fun _ _ => rfl)⟩
theorem ldP_18 {x : Int} {H H3 : Heap} {r : Int} {fp : zyR} (h : xΨld18 X (xfv [x]) (zyEl zymc X H) (zyEl zymc X H3) r) (hb : xPb0 (zyEl zymc X H) (xE (zyEl zymx X H) 75)) (hf : xFr fp (zyEl zymc X H) (zyEl zymc X H3)) (hfp : ∀ a, (a = 2 ∨ a = 4 ∨ a = 10 ∨ a = 11 ∨ a = 12 ∨ a = 13) → ∀ k, zyin fp a k = false) (hx : xE (zyEl zymx X H3) 75 = xE (zyEl zymx X H) 75) : zOr X H3 ∧ ldP X x (xE (zyEl zymc X H) 35 1) (xE (zyEl zymc X H) 36) H3 := by
  obtain ⟨h, -⟩ := h
  have h : (if 0 ≤ x ∧ x ≤ xE (zyEl zymc X H) 35 1 then _ else _) := h
  have hb3 : xPb0 (zyEl zymc X H3) (xE (zyEl zymx X H3) 75) := by
    rw [hx]
    exact xPb0_k hb (fun a ha k _ => xFr_E hf (hfp a ha _)) (fun _ _ => rfl)
  by_cases hc : 0 ≤ x ∧ x ≤ xE (zyEl zymc X H) 35 1
  · rw [if_pos hc] at h
    obtain ⟨h, -⟩ := h
    unfold ldP
    revert h
    show (match pAll (xE (zyEl zymc X H) 36) x with | .ok (_, S) => _ | .error (w, a) => _) → _
    cases pAll (xE (zyEl zymc X H) 36) x with
    | error e => exact fun h => ⟨Or.inl ⟨h.2.2.1, h.2.2.2.1⟩, fun _ => Or.inl ⟨h.2.2.1, h.2.2.2.1, hb3⟩, fun z => absurd hc z⟩
    | ok y => exact fun h => ⟨Or.inr ⟨h.2.2.1, h.2.2.2.1⟩, fun _ => Or.inr ⟨h.2.2.1, h.2.2.2.1, h.2.2.2.2.1⟩, fun z => absurd hc z⟩
  · rw [if_neg hc] at h
    exact ⟨Or.inl ⟨h.2.2.2.1, h.2.2.2.2⟩, fun z => absurd z hc, fun _ => Or.inl ⟨h.2.2.2.1, h.2.2.2.2, hb3⟩⟩
theorem ldP_1 {x : Int} {H H3 : Heap} {r : Int} {fp : zyR} (h : xΨld1 X (xfv [x]) (zyEl zymc X H) (zyEl zymc X H3) r) (hb : xPb17 (zyEl zymc X H) (xE (zyEl zymx X H) 75)) (hf : xFr fp (zyEl zymc X H) (zyEl zymc X H3)) (hfp : ∀ a, (a = 19 ∨ a = 21 ∨ a = 27 ∨ a = 28 ∨ a = 29 ∨ a = 30) → ∀ k, zyin fp a k = false) (hx : xE (zyEl zymx X H3) 75 = xE (zyEl zymx X H) 75) : zOr X H3 ∧ ldP X x (xE (zyEl zymc X H) 35 1) (xE (zyEl zymc X H) 36) H3 := by
  obtain ⟨h, -⟩ := h
  have h : (if 0 ≤ x ∧ x ≤ xE (zyEl zymc X H) 35 1 then _ else _) := h
  have hb3 : xPb17 (zyEl zymc X H3) (xE (zyEl zymx X H3) 75) := by
    rw [hx]
    exact xPb17_k hb (fun a ha k _ => xFr_E hf (hfp a ha _)) (fun _ _ => rfl)
  by_cases hc : 0 ≤ x ∧ x ≤ xE (zyEl zymc X H) 35 1
  · rw [if_pos hc] at h
    obtain ⟨h, -⟩ := h
    unfold ldP
    revert h
    show (match pAll (xE (zyEl zymc X H) 36) x with | .ok (_, S) => _ | .error (w, a) => _) → _
    cases pAll (xE (zyEl zymc X H) 36) x with
    | error e => exact fun h => ⟨Or.inr ⟨h.2.2.1, h.2.2.2.1⟩, fun _ => Or.inr ⟨h.2.2.1, h.2.2.2.1, hb3⟩, fun z => absurd hc z⟩
    | ok y => exact fun h => ⟨Or.inl ⟨h.2.2.1, h.2.2.2.1⟩, fun _ => Or.inl ⟨h.2.2.1, h.2.2.2.1, h.2.2.2.2.1⟩, fun z => absurd hc z⟩
  · rw [if_neg hc] at h
    exact ⟨Or.inr ⟨h.2.2.2.1, h.2.2.2.2⟩, fun z => absurd z hc, fun _ => Or.inr ⟨h.2.2.2.1, h.2.2.2.2, hb3⟩⟩
theorem ldR_p {x : Int} {E E2 : zyEm} {r : Int} (h : xΨlr (xfv [x]) E E2 r) : (0 ≤ x ∧ x ≤ xE E 74 33 → ldM (pAll (xE E 84) x) (fun S => ∀ k, 0 ≤ k → k < 520 → xE E2 75 k = S k) (∀ k, 0 ≤ k → k < 556 → xE E2 75 k = xE E 75 k)) ∧ (¬ (0 ≤ x ∧ x ≤ xE E 74 33) → ∀ k, 0 ≤ k → k < 556 → xE E2 75 k = xE E 75 k) := by
  have h : (if 0 ≤ x ∧ x ≤ xE E 74 33 then _ else _) := h
  by_cases hc : 0 ≤ x ∧ x ≤ xE E 74 33
  · rw [if_pos hc] at h
    obtain ⟨-, h⟩ := h
    refine ⟨fun _ => ?_, fun z => absurd hc z⟩
    revert h
    show (match pAll (xE E 84) x with | .ok (_, S) => _ | .error (w, a) => _) → _
    cases pAll (xE E 84) x with
    | error e => exact fun h => h.2.2.2.2.2
    | ok y => exact fun h => h.2.2.2.2.2
  · rw [if_neg hc] at h
    exact ⟨fun z => absurd z hc, fun _ => h.2.2.2.2.2⟩
theorem zl_load (hC : zLc X p s mt meth c) {L i : Nat} {xs : Nat → Int32} (hS : zSc0 s X b L xs) {ls : Array Slot} (hl : zLl X b i ls) (hi : i + 5 < L) (hcl : ∀ i, i < 163 → zyCo l zymc zyJc zylwt i) {N j : Nat} (hj : j ≤ 45) {H : Heap} {locs : List Loc} (hI : zLI X s N (20 * j) H) (hlo : ∀ x ∈ locs, zbs X ≤ x.base)
    (kk : ∀ (H3 : Heap) (locs2 : List Loc) (j' : Nat), j' ≤ 45 → zLI X s N (20 * j') H3 → (∀ x ∈ locs2, zbs X ≤ x.base) → zWL p l e s mt below meth c b H3 locs2 1479 ls []) : zWL p l e s mt below meth c b H locs 304 ls [] := by
  have hexec := hC.1
  have hb := hC.2.1
  refine lv_aload_n hexec hb (zdL (pc := 304) (k := 1) (ax := 0) rfl (fun q => by cases q)) rfl (lv_at hl 2 rfl) ?_
  refine zl_arg (k := 1) hC hS (zLI_h hI) hl (by omega) rfl rfl rfl rfl rfl (by decide) ?_
  obtain ⟨⟨hCS0, hRS0⟩, hOr, hW, hTp, hPl⟩ := hI
  have q0 : xE (zyEl zymc X H) 35 1 = ((20 * j : Nat) : Int) := xE_q (k := 1) hCS0.2 (by omega)
  have rest : ∀ (H3 : Heap) (locs2 : List Loc) (z : Int32) (q : Nat), zyCS X q s H3 → zyRS X N (20 * j) s H3 → zyMI zymc X zyJc s H3 → zyOut zymc X H H3 → (∀ k, zyEl zymc X H3 36 k = zyEl zymc X H 36 k) → zOr X H3 ∧ ldP X (xI (xs (i + 1))) (xE (zyEl zymc X H) 35 1) (xE (zyEl zymc X H) 36) H3 → (((zB (xs (i + 1)) < 2147483648 ∨ 2147483648 + 20 * j < zB (xs (i + 1))) ∧ q = 20 * j) ∨ (2147483648 ≤ zB (xs (i + 1)) ∧ zB (xs (i + 1)) ≤ 2147483648 + 20 * j ∧ q = 0)) → (∀ x ∈ locs2, zbs X ≤ x.base) → zWL p l e s mt below meth c b H3 locs2 313 ls [.int z] := by
    intro H3 locs2 z q hCS hRS3 hI3 ho3 h36 hld hq hlo2
    obtain ⟨hOr3, ld1, ld2⟩ := hld
    have elR := zyR_el hRS0 hI3 ho3
    refine lv_pop hexec hb (zdL (pc := 313) (k := 1) (ax := 0) rfl (fun q => by cases q)) rfl ?_
    refine lv_aload_n hexec hb (zdL (pc := 314) (k := 1) (ax := 0) rfl (fun q => by cases q)) rfl (lv_at hl 1 rfl) ?_
    refine zl_arg (k := 1) hC hS hI3.2.2.2 hl (by omega) rfl rfl rfl rfl rfl (by decide) ?_
    have hen2 : zG zxMeta 329 = some (zxi329, 2, 3, 11, 329, 0, 0, 1, 0) := rfl
    obtain ⟨me2, hme2, -⟩ := zall hen2
    obtain ⟨r, c0, hp, hI1, hJ, ht, T, hT, hT2⟩ := hRS3
    have hIx : zyMI (zymrX zymx75) X zyJ0 s H3 := zyMI_x hp hI1
    have t0 : xE (zyEl zymx X H3) 74 33 = ((20 * j : Nat) : Int) := xE_q (k := 33) ht (by omega)
    have hW3 : xWs (zyEl zymx X H3) := fun k hk => (elR 85 k (by decide)).trans (hW k hk)
    refine zl_callR2 hC (pc := 320) (x := zymx75) (as := [xs (i + 1)]) (rs := []) rfl rfl hen2 hme2 rfl rfl rfl rfl (by decide) (by decide) (zyload hen2 hme2) (xLr hen2 hme2 X) (by decide) rfl hIx hIx trivial hW3 hl.1 hlo2 (fun H4 z2 locs3 hI4 ho4 hΨ hf4 hΨ2 hlo3 => ?_)
    obtain ⟨lr1, lr2⟩ := ldR_p (show xΨlr (xfv [xI (xs (i + 1))]) (zyEl zymx X H3) (zyEl zymx X H4) (xI z2) from hΨ2)
    have elC := zyC_el hCS hI4 ho4
    have hPl4 : zPl X H4 := by
      rw [q0] at ld1 ld2
      rw [t0] at lr1 lr2
      have keep : zPl X H3 → (∀ k, 0 ≤ k → k < 556 → xE (zyEl zymx X H4) 75 k = xE (zyEl zymx X H3) 75 k) → zPl X H4 := fun h hk => zPl_k h (elC 0 1 (by decide)) (elC 0 2 (by decide)) (fun a ha k => elC a k (zpl_lt ha)) (fun k _ => hk k (by omega) (by omega))
      by_cases hc : 0 ≤ xI (xs (i + 1)) ∧ xI (xs (i + 1)) ≤ ((20 * j : Nat) : Int)
      · have e : pAll (xE (zyEl zymc X H) 36) (xI (xs (i + 1))) = pAll (xE (zyEl zymx X H3) 84) (xI (xs (i + 1))) := by
          refine pAll_t (fun k k0 k1 => ?_) hc.1
          have e := hTp k k0 (by omega)
          rw [e]
          unfold xE
          rw [elR 84 _ (by decide)]
        have a := ld1 hc
        have b := lr1 hc
        rw [e] at a
        cases hA : pAll (xE (zyEl zymx X H3) 84) (xI (xs (i + 1))) with
        | error w =>
          rw [hA] at a b
          exact keep a b
        | ok y =>
          rw [hA] at a b
          exact zPl_ab a (pAll_F (show pAll (xE (zyEl zymx X H3) 84) (xI (xs (i + 1))) = .ok (y.1, y.2) from hA)) elC b
      · exact keep (ld2 hc) (lr2 hc)
    clear hΨ2 lr1 lr2
    have hΨ : zyΨld [xs (i + 1)] (zyEl zymx X H3) (zyEl zymx X H4) (some (.int z2)) := hΨ
    obtain ⟨-, x0, q1, has, hq0, e33, hcase⟩ := hΨ
    have ex := (List.cons.inj has).1
    subst ex
    rw [ht] at e33
    have eq := zyOi (by omega) (by omega) (Value.int.inj (Option.some.inj e33))
    subst eq
    have hCS4 : zyCS X q s H4 := zyCS_keep hCS hI4 ho4
    have b0 : ∀ {n : Nat}, n < 2147483648 → zB (Int32.ofNat n) = n + 2147483648 := fun h => zyBn h
    have hc0 : xs (i + 1) < Int32.ofNat 0 ↔ zB (xs (i + 1)) < 2147483648 := by
      rw [zB_slt, b0 (by decide)]
    have hcq : Int32.ofNat (20 * j) < xs (i + 1) ↔ 2147483648 + 20 * j < zB (xs (i + 1)) := by
      rw [zB_slt, b0 (by omega), Nat.add_comm]
    have hsame : (∀ k, k < 556 → zyEl zymx X H4 75 k = zyEl zymx X H3 75 k) → ∀ q2, zyEl zymx X H4 74 33 = some (.int (Int32.ofNat q2)) → zyRS X N q2 s H4 := fun h75 q2 h33 =>
      ⟨r, c0, hp, zyMI_r hp hI4 (fun k hk b hb b1 b2 => by rw [h75 k hk]; exact zyT75_of hI1 k hk b hb b1 b2), zJ1_fr (fun k hk => h75 k (by omega)) hJ, h33, T, hT, (h75 3 (by decide)).trans hT2⟩
    refine lv_pop hexec hb (zdL (pc := 323) (k := 1) (ax := 0) rfl (fun q => by cases q)) rfl ?_
    refine lv_goto hexec hb (zdL (pc := 324) (k := 3) (ax := 1479) rfl (fun q => by cases q)) (tgt := 1479) rfl ?_
    have hOr4 : zOr X H4 := zOr_k hOr3 (elC 0 1 (by decide)) (elC 0 2 (by decide))
    have hW4 : xWs (zyEl zymx X H4) := fun k hk => (hf4 85 k rfl).trans (hW3 k hk)
    rcases hcase with ⟨g1, g2, g3⟩ | ⟨g1, g1', g2, g3⟩
    · rw [hc0, hcq] at g1
      have eq : q = 20 * j := by omega
      subst eq
      exact kk H4 locs3 j hj ⟨⟨hCS4, hsame g3 _ g2⟩, hOr4, hW4, zTp_k hTp (fun k => (elC 36 k (by decide)).trans (h36 k)) (fun k => (hf4 84 k rfl).trans (elR 84 k (by decide))), hPl4⟩ hlo3
    · rw [hc0] at g1
      rw [hcq] at g1'
      have eq : q = 0 := by omega
      subst eq
      refine kk H4 locs3 0 (by decide) ⟨⟨hCS4, ?_⟩, hOr4, hW4, (fun k k0 k1 => absurd k1 (by omega)), hPl4⟩ hlo3
      rcases g3 with g3 | ⟨r2, c2, hp2, k1, k2⟩
      · exact hsame g3 _ g2
      · exact ⟨r2, c2, hp2, zyMI_r hp2 hI4 k1, zJl_J1 k2, g2, 0, Nat.zero_le _, k2.1⟩
  have x75 : ∀ H3 : Heap, zyMI zymc X zyJc s H3 → zyOut zymc X H H3 → xE (zyEl zymx X H3) 75 = xE (zyEl zymx X H) 75 := fun H3 h1 h2 => zxE_k fun k => zyR_el hRS0 h1 h2 75 k (by decide)
  rcases hPl with ⟨o1, o2, hb0⟩ | ⟨o1, o2, hb0⟩
  · refine zl_loadC hC hcl hj (x := xs (i + 1)) hl.1 hCS0 hRS0 (fun me hme => xLd18 rfl hme X) ⟨o1, o2⟩ hlo (fun H3 locs2 z q hCS hRS3 hI3 ho3 hf hΨ hq hlo2 => ?_)
    exact rest H3 locs2 z q hCS hRS3 hI3 ho3 (fun k => hf 36 k rfl) (ldP_18 hΨ hb0 hf (fun a ha k => by rcases ha with rfl | rfl | rfl | rfl | rfl | rfl <;> rfl) (x75 H3 hI3 ho3)) hq hlo2
  · refine zl_loadC hC hcl hj (x := xs (i + 1)) hl.1 hCS0 hRS0 (fun me hme => xLd1 rfl hme X) ⟨o1, o2⟩ hlo (fun H3 locs2 z q hCS hRS3 hI3 ho3 hf hΨ hq hlo2 => ?_)
    exact rest H3 locs2 z q hCS hRS3 hI3 ho3 (fun k => hf 36 k rfl) (ldP_1 hΨ hb0 hf (fun a ha k => by rcases ha with rfl | rfl | rfl | rfl | rfl | rfl <;> rfl) (x75 H3 hI3 ho3)) hq hlo2
/-- free -/
theorem zl_free (hC : zLc X p s mt meth c) {L i : Nat} {xs : Nat → Int32} (hS : zSc0 s X b L xs) {ls : Array Slot} (hl : zLl X b i ls) (hi : i + 5 < L) {N q : Nat} (hc : zUCv l 131 2 zyBo) (hr : zURv l 272 2 zyBo) {H : Heap} {locs : List Loc} (hI : zLI X s N q H) (hN : N ≤ 1000000) (hlo : ∀ x ∈ locs, zbs X ≤ x.base)
    (kk : ∀ (H3 : Heap) (locs2 : List Loc), zLI X s (N + 100) q H3 → (∀ x ∈ locs2, zbs X ≤ x.base) → zWL p l e s mt below meth c b H3 locs2 1479 ls []) : zWL p l e s mt below meth c b H locs 594 ls [] := by
  have hexec := hC.1
  have hb := hC.2.1
  have hxb : ∀ {x y : Int32}, (y = 0 ∨ y = 1) → 0 ≤ xfv ([x, y].map xI) 1 ∧ xfv ([x, y].map xI) 1 ≤ 1 := fun {x y} hy => by
    show 0 ≤ xI y ∧ xI y ≤ 1
    rcases hy with rfl | rfl <;> decide
  have two : ∀ (y0 : Int32), (y0 = 0 ∨ y0 = 1) → (y0 = 0 ↔ xs (i + 2) = 0) → ∀ (H3 : Heap) (z : Int32) (locs2 : List Loc), zL0 X s N q H3 → zMid X H3 [(74, 2, 3), (75, 104, 135)] xΨfr2 (xfv (([xs (i + 1), y0] : List Int32).map xI)) (xI z) → (∀ x ∈ locs2, zbs X ≤ x.base) → zWL p l e s mt below meth c b H3 locs2 616 ls [.int z] := by
    intro y0 hy0 hxy H3 z locs2 hI3 hmid hlo2
    have last : zWL p l e s mt below meth c b H3 locs2 636 ls ((([xs (i + 1), y0] : List Int32).map Value.int).reverse ++ [.ref (zad X 74)]) := by
      refine zl_FR hC hr (d2 := 5) (by decide) (pc := 636) (rs := []) rfl rfl rfl (show zG zxMeta 272 = some (zxi272, 3, 3, 11, 272, 0, 0, 1, 0) from rfl) rfl rfl rfl rfl (fun me hme => xFr2 rfl hme X) (fun E hE _ => ⟨hE, hxb hy0⟩) (by decide) rfl ⟨_, _, rfl, hy0⟩ hI3 hmid hN hl.1 hlo2 (fun H4 z2 locs3 hI4 hz hlo3 => ?_)
      refine lv_pop hexec hb (zdL (pc := 639) (k := 1) (ax := 0) rfl (fun q => by cases q)) rfl ?_
      exact lv_goto hexec hb (zdL (pc := 640) (k := 3) (ax := 1479) rfl (fun q => by cases q)) (tgt := 1479) rfl (kk H4 locs3 hI4 hlo3)
    refine lv_pop hexec hb (zdL (pc := 616) (k := 1) (ax := 0) rfl (fun q => by cases q)) rfl ?_
    refine lv_aload_n hexec hb (zdL (pc := 617) (k := 1) (ax := 0) rfl (fun q => by cases q)) rfl (lv_at hl 1 rfl) ?_
    refine zl_arg (k := 1) hC hS (zL0_h hI3) hl (by omega) rfl rfl rfl rfl rfl (by decide) ?_
    refine zl_arg (k := 2) hC hS (zL0_h hI3) hl (by omega) rfl rfl rfl rfl rfl (by decide) ?_
    refine lv_if_eq hexec hb (zdL (pc := 628) (k := 3) (ax := 635) rfl (fun q => by cases q)) (tgt := 635) rfl (fun h => ?_) (fun h => ?_)
    · rw [hxy.mpr h] at last
      exact lv_iconst hexec hb (zdL (pc := 635) (k := 1) (ax := 0) rfl (fun q => by cases q)) (v := 0) rfl last
    · have e1 : y0 = 1 := hy0.resolve_left (fun e => h (hxy.mp e))
      rw [e1] at last
      refine lv_iconst hexec hb (zdL (pc := 631) (k := 1) (ax := 0) rfl (fun q => by cases q)) (v := 1) rfl ?_
      exact lv_goto hexec hb (zdL (pc := 632) (k := 3) (ax := 636) rfl (fun q => by cases q)) (tgt := 636) rfl last
  have last : ∀ y : Int32, (y = 0 ∨ y = 1) → (y = 0 ↔ xs (i + 2) = 0) → zWL p l e s mt below meth c b H locs 613 ls ((([xs (i + 1), y] : List Int32).map Value.int).reverse ++ [.ref (zad X 0)]) := by
    intro y hy hxy
    exact zl_FC hC hc (d1 := 4) (d18 := 4) (by decide) (by decide) (pc := 613) rfl rfl rfl (show zG zxMeta 131 = some (zxi131, 3, 3, 10, 131, 0, 0, 1, 0) from rfl) rfl rfl rfl rfl (fun me hme => xCfr1 rfl hme X) (fun me hme => xCfr18 rfl hme X) (fun E h _ => ⟨h, hxb hy⟩) (fun E h _ => ⟨h, hxb hy⟩) sfr1 sfr18 (by decide) rfl ⟨_, _, rfl, hy⟩ hI hl.1 hlo (two y hy hxy)
  refine lv_aload_n hexec hb (zdL (pc := 594) (k := 1) (ax := 0) rfl (fun q => by cases q)) rfl (lv_at hl 2 rfl) ?_
  refine zl_arg (k := 1) hC hS (zLI_h hI) hl (by omega) rfl rfl rfl rfl rfl (by decide) ?_
  refine zl_arg (k := 2) hC hS (zLI_h hI) hl (by omega) rfl rfl rfl rfl rfl (by decide) ?_
  refine lv_if_eq hexec hb (zdL (pc := 605) (k := 3) (ax := 612) rfl (fun q => by cases q)) (tgt := 612) rfl (fun h => ?_) (fun h => ?_)
  · exact lv_iconst hexec hb (zdL (pc := 612) (k := 1) (ax := 0) rfl (fun q => by cases q)) (v := 0) rfl (last 0 (Or.inl rfl) ⟨fun _ => h, fun _ => rfl⟩)
  · refine lv_iconst hexec hb (zdL (pc := 608) (k := 1) (ax := 0) rfl (fun q => by cases q)) (v := 1) rfl ?_
    exact lv_goto hexec hb (zdL (pc := 609) (k := 3) (ax := 613) rfl (fun q => by cases q)) (tgt := 613) rfl (last 1 (Or.inr rfl) ⟨fun e => absurd e (by decide), fun e => absurd e h⟩)
end ZLY
