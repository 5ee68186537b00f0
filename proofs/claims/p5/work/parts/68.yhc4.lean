/-! from a stop to the next phase -/
noncomputable def zygoL (cs : List Nat) (ls2 : List Nat) : Nat → List Nat → Bool := List.rec (motive := fun _ => Nat → List Nat → Bool) (fun _ _ => true) (fun c2 _ ih i ls1 => List.rec (motive := fun _ => Bool) false (fun c1 t _ => zand (zif (Nat.beq c2 13) true (zif (zand (Nat.beq c2 (zysym i)) (zand (Nat.beq (zyag cs i) c1) (zyk1b c1))) true (zand (Nat.beq c1 c2) (Nat.beq (Nat.mod c1 8) 3)))) (ih (Nat.succ i) t)) ls1) ls2
theorem zygoL_iff {cs : List Nat} : ∀ {ls2 : List Nat} {i : Nat} {ls1 : List Nat}, zygoL cs ls2 i ls1 = true → ∀ (j c2 : Nat), ls2[j]? = some c2 → ¬ c2 = 13 → ∃ c1, ls1[j]? = some c1 ∧ ((c2 = zysym (i + j) ∧ zyag cs (i + j) = c1 ∧ c1 % 8 ≤ 1) ∨ (c1 = c2 ∧ c1 % 8 = 3)) := by
  intro ls2
  induction ls2 with
  | nil => intro i ls1 _ j c2 h; simp at h
  | cons a t ih =>
    intro i ls1 h j c2 hc hn
    cases ls1 with
    | nil => cases h
    | cons c1 u =>
      have h : zand (zif (Nat.beq a 13) true (zif (zand (Nat.beq a (zysym i)) (zand (Nat.beq (zyag cs i) c1) (zyk1b c1))) true (zand (Nat.beq c1 a) (Nat.beq (Nat.mod c1 8) 3)))) (zygoL cs t (i + 1) u) = true := h
      obtain ⟨h1, h2⟩ := zand_iff h
      cases j with
      | zero =>
        have hc : some a = some c2 := hc
        cases hc
        refine ⟨c1, rfl, ?_⟩
        rcases zif_iff h1 with ⟨q, -⟩ | ⟨-, q⟩
        · exact absurd (zbeqT q) hn
        rcases zif_iff q with ⟨q, -⟩ | ⟨-, q⟩
        · obtain ⟨q1, q2⟩ := zand_iff q
          obtain ⟨q2, q3⟩ := zand_iff q2
          exact Or.inl ⟨zbeqT q1, zbeqT q2, zbleT q3⟩
        · obtain ⟨q1, q2⟩ := zand_iff q
          exact Or.inr ⟨zbeqT q1, zbeqT q2⟩
      | succ j =>
        rw [List.getElem?_cons_succ] at hc
        obtain ⟨c3, g1, g2⟩ := ih h2 j c2 hc hn
        rw [show i + 1 + j = i + (j + 1) by omega] at g2
        exact ⟨c3, by rw [List.getElem?_cons_succ]; exact g1, g2⟩
noncomputable def zygoB (nL : Nat) (ls1 : List Nat) (φ2 : zyPh) (cs : List Nat) : Bool := zand (zygoL cs φ2.2.1 0 ls1) (zand (Nat.beq (zyln φ2.2.1) nL) (Nat.ble nL (zyln φ2.2.2.1)))
theorem zyAss {mi : zyB} {B : zCx} {s : State} {nL : Nat} {x : zyXp} {ρ2 : Nat → Int32} {N : Nat} {H : Heap} {locs : List Loc} {lsB : Array Slot} {stA : List Value} (hAt : zyAt mi B s nL x ρ2 N H locs lsB stA) {φ2 : zyPh} {cs : List Nat} (hchk : zygoB nL x.2.1 φ2 cs = true) {ρ' : Nat → Int32} (hρ : ∀ i, i < nL → ρ' i = zyw ρ2 (zyag cs i)) (henv : zEnv ρ' φ2.2.2.1) {H' : Heap} {locs' : List Loc} {stB : List Value} (hlo : ∀ x ∈ locs', zbs B ≤ x.base) (hst : zySt (zyXn B ρ' φ2.2.2.1.length) φ2.2.2.2.2 stB)
    (hkc : ∀ p ∈ φ2.2.2.2.1, ∃ (c : zyCl) (w : Value), zG mi (p.1 / 16384) = some c ∧ p.1 % 16384 < zyLen c ∧ zyEl mi B H' (p.1 / 16384) (p.1 % 16384) = some w ∧ zyv ρ' φ2.2.2.1.length (zad B) p.2 w) : zySs mi B nL φ2 ρ' H' locs' lsB stB := by
  obtain ⟨h1, h2⟩ := zand_iff hchk
  obtain ⟨h2, h3⟩ := zand_iff h2
  have h2 := zbeqT h2
  have h3 := zbleT h3
  rw [zyln_eq] at h2 h3
  refine ⟨hlo, hAt.2.2.2.1, ⟨h2, fun i c hc hn => ?_⟩, henv, hst, hkc⟩
  have hi : i < nL := by
    rw [← h2]
    exact (List.getElem?_eq_some_iff.mp hc).1
  obtain ⟨c1, g1, g2⟩ := zygoL_iff h1 i c hc hn
  rw [Nat.zero_add] at g2
  rcases g2 with ⟨e1, e2, e3⟩ | ⟨e1, e2⟩
  · obtain ⟨w, q1, q2⟩ := hAt.2.2.2.2.1 i c1 g1 (fun q => by rw [q] at e3; exact absurd e3 (by decide))
    obtain ⟨z, rfl⟩ := zyv_int q2 (by omega)
    refine ⟨_, q1, ?_⟩
    rw [e1]
    refine zyv_sym (by omega) ?_
    rw [hρ i hi, e2]
    exact (zyw_of q2 e3).symm
  · obtain ⟨w, q1, q2⟩ := hAt.2.2.2.2.1 i c1 g1 (fun q => by rw [q] at e2; exact absurd e2 (by decide))
    rw [e1] at q2 e2
    exact ⟨w, q1, zyv_cl (by omega) q2⟩
section YGO
variable {l : Launch} {mi : zyB} {en : zEn} {dep : Nat} {B : zCx} {s : State} {ι : Type} {φ : ι → zyPh} {Inv : ι → (Nat → Int32) → zyEm → Prop} {Mu : ι → (Nat → Int32) → zyEm → Nat} {M : Nat} {Wg : zyWt} {x : zyXp} {ρ2 : Nat → Int32} {N : Nat} {H : Heap} {locs : List Loc} {lsB : Array Slot} {stA : List Value}
/-- with elements that are known -/
theorem zyGoK {nL : Nat} (hIH : zyIH mi nL B s φ Inv Mu M Wg) (hAt : zyAt mi B s nL x ρ2 N H locs lsB stA) (i2 : ι) (cs : List Nat) (hpc : x.1 = (φ i2).1) (hchk : zand (zygoB nL x.2.1 (φ i2) cs) (zand (zynil x.2.2.1) (zynil (φ i2).2.2.2.2)) = true) (henv : zEnv (fun k => zyw ρ2 (zyag cs k)) (φ i2).2.2.1)
    (hkc : ∀ p ∈ (φ i2).2.2.2.1, ∃ (c : zyCl) (k : Nat), zG mi (p.1 / 16384) = some c ∧ p.1 % 16384 < zyLen c ∧ p.2 = zysym k ∧ k < (φ i2).2.2.1.length ∧ zyEl mi B H (p.1 / 16384) (p.1 % 16384) = some (.int (zyw ρ2 (zyag cs k)))) (hInv : Inv i2 (fun k => zyw ρ2 (zyag cs k)) (zyEl mi B H)) (hMu : Mu i2 (fun k => zyw ρ2 (zyag cs k)) (zyEl mi B H) < M) : Wg H locs x.1 lsB stA := by
  obtain ⟨h1, h2⟩ := zand_iff hchk
  obtain ⟨h2, h3⟩ := zand_iff h2
  rw [hpc]
  refine hIH i2 _ H locs lsB stA hAt.1 hAt.2.1 hInv (zyAss hAt h1 (fun _ _ => rfl) henv hAt.2.2.1 ?_ ?_) hMu
  · have e1 : x.2.2.1 = [] := by
      cases hq : x.2.2.1 with
      | nil => rfl
      | cons a t => rw [hq] at h2; cases h2
    have e2 : (φ i2).2.2.2.2 = [] := by
      cases hq : (φ i2).2.2.2.2 with
      | nil => rfl
      | cons a t => rw [hq] at h3; cases h3
    have h5 := hAt.2.2.2.2.2
    rw [e1] at h5
    rw [e2, zySt_n h5]
    trivial
  · intro p hp
    obtain ⟨c, k, q1, q2, q3, q4, q5⟩ := hkc p hp
    exact ⟨c, _, q1, q2, q5, by rw [q3]; exact zyv_sym q4 rfl⟩
theorem zyGo {nL : Nat} (hIH : zyIH mi nL B s φ Inv Mu M Wg) (hAt : zyAt mi B s nL x ρ2 N H locs lsB stA) (i2 : ι) (cs : List Nat) (hpc : x.1 = (φ i2).1) (hchk : zand (zygoB nL x.2.1 (φ i2) cs) (zand (zynil x.2.2.1) (zynil (φ i2).2.2.2.2)) = true) (hkc : (φ i2).2.2.2.1 = []) (henv : zEnv (fun k => zyw ρ2 (zyag cs k)) (φ i2).2.2.1)
    (hInv : Inv i2 (fun k => zyw ρ2 (zyag cs k)) (zyEl mi B H)) (hMu : Mu i2 (fun k => zyw ρ2 (zyag cs k)) (zyEl mi B H) < M) : Wg H locs x.1 lsB stA := zyGoK hIH hAt i2 cs hpc hchk henv (fun p hp => by rw [hkc] at hp; cases hp) hInv hMu
theorem zySt_ints {ρ : Nat → Int32} : ∀ {cs : List Nat} {q : List Value}, (∀ c ∈ cs, c % 8 ≤ 1) → zySt (zyXn B ρ N) cs q → q = (cs.map (zyw ρ)).map Value.int := by
  intro cs
  induction cs with
  | nil => intro q _ h; exact zySt_n h
  | cons a t ih =>
    intro q hk h
    obtain ⟨b, u, rfl, h1, h2⟩ := zySt_c h
    have ha := hk a List.mem_cons_self
    obtain ⟨z, rfl⟩ := zyv_int h1 (by omega)
    rw [ih (fun c hc => hk c (List.mem_cons_of_mem _ hc)) h2, zyw_of h1 ha]
    rfl
/-- a call by hand: cs2 its arguments -/
theorem zyCa (hRu : zyRu l mi en dep B s Wg) (hIH : zyIH mi en.2.2.1 B s φ Inv Mu M Wg) (hAt : zyAt mi B s en.2.2.1 x ρ2 N H locs lsB stA) {ix ax : Nat} (hrow : en.1 x.1 = (.invokevirtual ix, x.1 + 3, ax)) {en2 : zEn} {me2 : zMe} {dep2 na2 : Nat} {Φ2 : List Int32 → zyEm → Prop} {Ψ2 : List Int32 → zyEm → zyEm → Option Value → Prop} (hkd : zG zKd (ax / 16) = some 0) (hen2 : zG zxMeta (ax / 16) = some en2) (hme2 : zG zMeth (ax / 16) = some me2) (hsh : en2.2.2.2.1 = 11 ∧ en2.2.1 = na2 + 1 ∧ en2.2.2.2.2.2.1 = 0 ∧ en2.2.2.2.2.2.2.1 = 0) (hHc : zyHc l mi en2 me2 dep2 na2 Φ2 Ψ2) (hdp : dep2 + 1 ≤ dep) (cs2 cr : List Nat) (hcs2 : x.2.2.1 = cs2.reverse ++ 595 :: cr) (hk : ∀ c ∈ cs2, c % 8 ≤ 1) (hkr : cr.length ≤ 8 ∧ ∀ c ∈ cr, c % 8 ≤ 1) (hlen : cs2.length = na2) (hΦ : Φ2 (cs2.map (zyw ρ2)) (zyEl mi B H))
    (kk : ∀ (H3 : Heap) (vo : Option Value), zyTy mi (zyEl mi B H3) → Ψ2 (cs2.map (zyw ρ2)) (zyEl mi B H) (zyEl mi B H3) vo → ∃ (i2 : ι) (ρ' : Nat → Int32) (cs : List Nat), (φ i2).1 = x.1 + 3 ∧ zygoB en.2.2.1 x.2.1 (φ i2) cs = true ∧ (∀ i, i < en.2.2.1 → ρ' i = zyw ρ2 (zyag cs i)) ∧ zEnv ρ' (φ i2).2.2.1 ∧ (φ i2).2.2.2.1 = [] ∧ zySt (zyXn B ρ' (φ i2).2.2.1.length) (φ i2).2.2.2.2 (vo.toList ++ (cr.map (zyw ρ2)).map Value.int) ∧ Inv i2 ρ' (zyEl mi B H3) ∧ Mu i2 ρ' (zyEl mi B H3) < M) : Wg H locs x.1 lsB stA := by
  have hst := hAt.2.2.2.2.2
  rw [hcs2] at hst
  obtain ⟨q1, q2, rfl, g1, g2⟩ := zySt_split hst
  have e1 := zySt_ints (fun c hc => hk c (List.mem_reverse.mp hc)) g1
  obtain ⟨b, u, rfl, g3, g4⟩ := zySt_c g2
  have e2 := zySt_ints hkr.2 g4
  have e3 : b = .ref (zad B 74) := zyv_3 (v := 595) g3 (by decide)
  have e4 : q1 ++ b :: u = (zyAr B (cs2.map (zyw ρ2))).reverse ++ (cr.map (zyw ρ2)).map Value.int := by
    rw [e1, e2, e3]
    unfold zyAr
    rw [List.reverse_cons, List.map_reverse, List.map_reverse, List.append_assoc]
    rfl
  rw [e4]
  refine hRu.1 x.1 ix ax en2 me2 dep2 na2 Φ2 Ψ2 _ _ H locs lsB (by rw [zyints_cat, List.length_map]; exact hkr.1) hrow hkd hen2 hme2 hsh.1 hsh.2.1 hsh.2.2.1 hsh.2.2.2 hHc hdp (by rw [List.length_map]; exact hlen) hAt.1 hAt.2.2.1 hAt.2.2.2.1.1 hΦ (fun H3 locs3 vo hI3 hO3 hlo3 hΨ => ?_)
  obtain ⟨i2, ρ', cs, k1, k2, k3, k4, k5, k6, k7, k8⟩ := kk H3 vo (zyTy_of hI3) hΨ
  rw [← k1]
  exact hIH i2 ρ' H3 locs3 lsB _ hI3 (fun q hq => (hO3 q hq).trans (hAt.2.1 q hq)) k7 (zyAss hAt k2 k3 k4 hlo3 k6 (fun p hp => by rw [k5] at hp; cases hp)) k8
/-- an element by hand -/
theorem zyAs (hRu : zyRu l mi en dep B s Wg) (hIH : zyIH mi en.2.2.1 B s φ Inv Mu M Wg) (hAt : zyAt mi B s en.2.2.1 x ρ2 N H locs lsB stA) {ax a n : Nat} {c : zyCl} (hrow : en.1 x.1 = (.iastore, x.1 + 1, ax)) (hg : zG mi a = some c) (h20 : c.1 = 20) (hn : n < c.2.1) {cv cj : Nat} (hst : x.2.2.1 = [cv, cj, 8 * a + 3]) (hkv : cv % 8 ≤ 1) (hkj : cj % 8 ≤ 1) (hj : zyw ρ2 cj = Int32.ofNat n) (hrows : ∀ r ∈ c.2.2, r.1 ≤ n → n ≤ r.2.1 → r.2.2 % 8 = 2 ∧ r.2.2 / 34359738368 ≤ zB (zyw ρ2 cv) ∧ zB (zyw ρ2 cv) ≤ r.2.2 / 8 % 4294967296)
    (kk : ∀ (H3 : Heap), zyTy mi (zyEl mi B H3) → zyEl mi B H3 a n = some (.int (zyw ρ2 cv)) → (∀ a2 k2, ¬ (a2 = a ∧ k2 = n) → zyEl mi B H3 a2 k2 = zyEl mi B H a2 k2) → ∃ (i2 : ι) (cs : List Nat), (φ i2).1 = x.1 + 1 ∧ zygoB en.2.2.1 x.2.1 (φ i2) cs = true ∧ zEnv (fun k => zyw ρ2 (zyag cs k)) (φ i2).2.2.1 ∧ (φ i2).2.2.2.1 = [] ∧ (φ i2).2.2.2.2 = [] ∧ Inv i2 (fun k => zyw ρ2 (zyag cs k)) (zyEl mi B H3) ∧ Mu i2 (fun k => zyw ρ2 (zyag cs k)) (zyEl mi B H3) < M) : Wg H locs x.1 lsB stA := by
  have hs := hAt.2.2.2.2.2
  rw [hst] at hs
  obtain ⟨v0, t0, rfl, a0, hs⟩ := zySt_c hs
  obtain ⟨v1, t1, rfl, a1, hs⟩ := zySt_c hs
  obtain ⟨v2, t2, rfl, a2, hs⟩ := zySt_c hs
  have e3 := zySt_n hs
  subst e3
  obtain ⟨z0, rfl⟩ := zyv_int a0 (by omega)
  obtain ⟨z1, rfl⟩ := zyv_int a1 (by omega)
  have e2 := zyv_3 a2 (by omega)
  rw [show (8 * a + 3) / 8 = a by omega] at e2
  have e0 : z0 = zyw ρ2 cv := zyw_of a0 hkv
  have e1 : z1 = zyw ρ2 cj := zyw_of a1 hkj
  have e2 : v2 = .ref (zad B a) := e2
  rw [e2, e0, e1, hj]
  refine hRu.2 x.1 ax a n c _ H locs lsB hrow hg h20 hn hrows hAt.1 hAt.2.2.1 (fun H3 locs3 hI3 hO3 hlo3 h1 h2 => ?_)
  obtain ⟨i2, cs, k1, k2, k4, k5, k6, k7, k8⟩ := kk H3 (zyTy_of hI3) h1 h2
  rw [← k1]
  refine hIH i2 _ H3 locs3 lsB [] hI3 (fun q hq => (hO3 q hq).trans (hAt.2.1 q hq)) k7 (zyAss hAt k2 (fun _ _ => rfl) k4 hlo3 ?_ (fun p hp => by rw [k5] at hp; cases hp)) k8
  rw [k6]
  trivial
end YGO
