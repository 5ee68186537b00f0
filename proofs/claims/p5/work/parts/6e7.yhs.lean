/-! TOKENS are read -/
section YGOA
variable {l : Launch} {mi : zyB} {en : zEn} {dep : Nat} {B : zCx} {s : State} {ι : Type} {φ : ι → zyPh} {Inv : ι → (Nat → Int32) → zyEm → Prop} {Mu : ι → (Nat → Int32) → zyEm → Nat} {M : Nat} {Wg : zyWt} {x : zyXp} {ρ2 : Nat → Int32} {N : Nat} {H : Heap} {locs : List Loc} {lsB : Array Slot} {stA : List Value}
/-- to a phase, symbols by hand -/
theorem zyGoAny {nL : Nat} (hIH : zyIH mi nL B s φ Inv Mu M Wg) (hAt : zyAt mi B s nL x ρ2 N H locs lsB stA) (i2 : ι) (cs : List Nat) (ρ' : Nat → Int32) (hpc : x.1 = (φ i2).1) (hchk : zygoB nL x.2.1 (φ i2) cs = true) (hρ : ∀ i, i < nL → ρ' i = zyw ρ2 (zyag cs i)) (henv : zEnv ρ' (φ i2).2.2.1) (hst : zySt (zyXn B ρ' (φ i2).2.2.1.length) (φ i2).2.2.2.2 stA)
    (hkc : ∀ p ∈ (φ i2).2.2.2.1, ∃ (c : zyCl) (w : Value), zG mi (p.1 / 16384) = some c ∧ p.1 % 16384 < zyLen c ∧ zyEl mi B H (p.1 / 16384) (p.1 % 16384) = some w ∧ zyv ρ' (φ i2).2.2.1.length (zad B) p.2 w) (hInv : Inv i2 ρ' (zyEl mi B H)) (hMu : Mu i2 ρ' (zyEl mi B H) < M) : Wg H locs x.1 lsB stA := by
  rw [hpc]
  exact hIH i2 ρ' H locs lsB stA hAt.1 hAt.2.1 hInv (zyAss hAt hchk hρ henv hAt.2.2.1 hst hkc) hMu
end YGOA
theorem zyOd2 {a b : Nat} (h : b ≤ a) (hb : b < 4294967296) : Int32.ofNat a + Int32.ofNat (4294967296 - b) = Int32.ofNat (a - b) := by
  rw [zyOa]
  apply zN_inj
  rw [zN_of, zN_of]
  omega
def zyρ2k (ρ : Nat → Int32) (a b : Int32) : Nat → Int32 := fun k => if k = 1 then a else if k = 2 then b else ρ k
def zyFrd (E E2 : zyEm) : Prop := ∀ a k, ¬ (a = 74 ∧ ((38 ≤ k ∧ k ≤ 41) ∨ k = 43)) → E2 a k = E a k
def zyΦrd (_ : List Int32) (E : zyEm) : Prop := ∃ q : Nat, q ≤ 900 ∧ E 74 39 = some (.int (Int32.ofNat q))
def zyΨrd (_ : List Int32) (E E2 : zyEm) (vo : Option Value) : Prop := vo = none ∧ zyFrd E E2 ∧ ∃ q n u : Nat, q ≤ 900 ∧ E 74 39 = some (.int (Int32.ofNat q)) ∧ q < n ∧ n ≤ 901 ∧ E2 74 39 = some (.int (Int32.ofNat n)) ∧ u ≤ 4 ∧ E2 74 40 = some (.int (Int32.ofNat u)) ∧ (u = 0 ∨ (n ≤ 900 ∧ ∃ p : Nat, p ≤ 899 ∧ E2 74 38 = some (.int (Int32.ofNat p))))
/-- a byte of the tape -/
def zybt84 (E : zyEm) (p lo hi : Nat) : Prop := ∃ (e : Int32) (v : Int32), E 74 42 = some (.int e) ∧ Int32.ofNat p < e ∧ E 84 p = some (.int v) ∧ lo ≤ zB v ∧ zB v ≤ hi
theorem zybt84_fr {E E2 : zyEm} {p lo hi : Nat} (h1 : E2 74 42 = E 74 42) (h2 : E2 84 p = E 84 p) (h : zybt84 E p lo hi) : zybt84 E2 p lo hi := by
  obtain ⟨e, v, a1, a2, a3, a4⟩ := h
  exact ⟨e, v, h1.trans a1, a2, h2.trans a3, a4⟩
def zylim (d : Nat) : Nat := if d = 0 then 0 else if d = 1 then 9 else if d = 2 then 99 else 999
def zyIrd (i q p n v : Nat) (E0 : zyEm) (ρ : Nat → Int32) (E : zyEm) : Prop := q ≤ 900 ∧ E0 74 39 = some (.int (Int32.ofNat q)) ∧ zyFrd E0 E ∧ (i ≤ 1 → E = E0) ∧ (i = 1 → ρ 1 = Int32.ofNat q) ∧ (2 ≤ i → E 74 38 = some (.int (Int32.ofNat p)) ∧ q ≤ p ∧ p ≤ 900) ∧ (i = 2 ∨ i = 3 → ρ 1 = Int32.ofNat p) ∧ (4 ≤ i → ρ 1 = Int32.ofNat n ∧ p ≤ n ∧ n ≤ 900) ∧ (i = 4 → n = p → zybt84 E p 2147483745 2147483770) ∧ (i = 5 → (n = p → zybt84 E p 2147483696 2147483705) ∧ ρ 2 = Int32.ofNat v ∧ v ≤ zylim (n - p)) ∧ (i = 6 → n ≤ 899 ∧ ρ 2 = Int32.ofNat v ∧ v ≤ zylim (n + 1 - p))
theorem zc74 {E : zyEm} (hT : zyTy zymx E) {k lo hi : Nat} (hk : k < 49) (hr : zymr74.2.2[k]? = some (k, k, 8 * (lo * 4294967296 + hi) + 2)) (h1 : 2147483648 ≤ lo) (h2 : hi < 4294967296) : ∃ v, v + 2147483648 ≤ hi ∧ E 74 k = some (.int (Int32.ofNat v)) := by
  obtain ⟨x, e, b1, b2⟩ := (hT 74 zymr74 k rfl (show k < 49 from hk) _ (List.mem_of_getElem? hr) (Nat.le_refl _) (Nat.le_refl _)).1 (by dsimp only; omega)
  dsimp only at b1 b2
  have b1 : 2147483648 ≤ zB x := by omega
  obtain ⟨o1, o2⟩ := zyOn b1
  exact ⟨zyN1 x, by omega, by rw [← o1]; exact e⟩
theorem zyrds_run : zyrS zymx zxi314 (314, 0, 0, 0, 0) 3 zprds (fun _ _ => []) zFrds zSrds zXrds zRrds 7 = true := by decide +kernel
theorem zyreads {l : Launch} {en : zEn} {me : zMe} (hen : zG zxMeta 314 = some en) (hme : zG zMeth 314 = some me) : zyHc l zymx en me 3 0 zyΦrd zyΨrd := by
  have een : zG zxMeta 314 = some (zxi314, 1, 1, 11, 314, 0, 0, 0, 0) := rfl
  obtain ⟨me1, hme1, hOK⟩ := zall hen
  rw [hme] at hme1
  cases hme1
  rw [een] at hen
  cases hen
  have hr := zyrds_run
  refine zycutS (mi := zymx) hOK rfl rfl ⟨_, rfl, rfl⟩ (ι := Fin 7) (fun i => zprds i.val) (fun _ _ => []) (fun i => zFrds i.val) (fun i => zSrds i.val) (fun i => zXrds i.val) (fun i => zRrds i.val) (fun i y2 ct en2 me2 h => by cases h) 200000 (fun i => zyAll_iff hr i.val i.isLt) ⟨0, by decide⟩ ⟨rfl, rfl, rfl, rfl⟩ ⟨by decide, by decide⟩
    (fun i as E0 ρ E => ∃ q p n v : Nat, zyIrd i.val q p n v E0 ρ E) (fun i as E0 ρ E => if i.val = 0 then 10000 else if i.val = 1 then 9999 else if i.val = 2 then 2000 + 2 * (901 - zyN1 (ρ 1)) else if i.val = 3 then 1999 else if i.val = 4 then 901 - zyN1 (ρ 1) else if i.val = 5 then 2 * (901 - zyN1 (ρ 1)) + 1 else 2 * (901 - zyN1 (ρ 1))) ?_ ?_ ?_
  · intro as E hlen hT hΦ
    obtain ⟨q, hq, e⟩ := hΦ
    exact ⟨zEnv_c (zyfull _) zEnv_nil, q, 0, 0, 0, hq, e, fun _ _ _ => rfl, fun _ => rfl, fun h => absurd (show 0 = 1 from h) (by decide), fun h => absurd (show 2 ≤ 0 from h) (by decide), fun h => absurd (show 0 = 2 ∨ 0 = 3 from h) (by decide), fun h => absurd (show 4 ≤ 0 from h) (by decide), fun h => absurd (show 0 = 4 from h) (by decide), fun h => absurd (show 0 = 5 from h) (by decide), fun h => absurd (show 0 = 6 from h) (by decide)⟩
  · intro as B s Wg hRu hT0 hΦ hlen i ρ H hT hInv hIH x hx ρ2 N2 H2 locs lsB stA hAt hXs hag hfr hT2
    rcases i with ⟨i, hi⟩
    have hi2 : i = 0 ∨ i = 1 ∨ i = 2 ∨ i = 3 ∨ i = 4 ∨ i = 5 ∨ i = 6 := by omega
    rcases hi2 with rfl | rfl | rfl | rfl | rfl | rfl | rfl
    · have hx : x ∈ [zxrds_zx0] := hx
      have hg : ∀ k, k < 1 → ρ2 k = ρ k := hag
      have hI := hInv
      have hI : ∃ q p n v : Nat, zyIrd 0 q p n v (zyEl zymx B s.heap) ρ (zyEl zymx B H) := hI
      obtain ⟨hF, hB, hM⟩ := hXs
      have hEE : (zyEl zymx B H2) = (zyEl zymx B H) := zyfr0 hfr
      have ex := List.mem_singleton.mp hx
      subst ex
      obtain ⟨q, p, n, v, hq, s1, i1, i2, i3, i4, i5, i6, i7, i8, i9⟩ := hI
      refine zyGoKi hIH hAt hB ⟨1, by decide⟩ [595] [(0, 4294967295)] 2147483648 2147484548 rfl (by decide) rfl rfl rfl (74 * 16384 + 39) zymr74 rfl rfl (show 39 < 49 by decide) (Int32.ofNat q) ?_ ?_ ⟨q, p, n, v, ⟨hq, s1, by rw [hEE]; exact i1, fun _ => hEE.trans (i2 (by decide)), fun _ => zyρi_e, fun h => absurd (show 2 ≤ 1 from h) (by decide), fun h => absurd (show 1 = 2 ∨ 1 = 3 from h) (by decide), fun h => absurd (show 4 ≤ 1 from h) (by decide), fun h => absurd (show 1 = 4 from h) (by decide), fun h => absurd (show 1 = 5 from h) (by decide), fun h => absurd (show 1 = 6 from h) (by decide)⟩⟩ (show 9999 < 10000 by decide)
      · show zyEl zymx B H2 74 39 = _
        rw [hEE, i2 (by decide)]
        exact s1
      · rw [zyBn (by omega)]
        omega
    · have hx : x ∈ [zxrds_ax0] := hx
      have hg : ∀ k, k < 2 → ρ2 k = ρ k := hag
      have hI := hInv
      have hI : ∃ q p n v : Nat, zyIrd 1 q p n v (zyEl zymx B s.heap) ρ (zyEl zymx B H) := hI
      obtain ⟨hF, hB, hM⟩ := hXs
      have hfr : ∀ a k, zyin [(74, 38, 38)] a k = false → (zyEl zymx B H2) a k = (zyEl zymx B H) a k := hfr
      have ex := List.mem_singleton.mp hx
      subst ex
      obtain ⟨q, p, n, v, hq, s1, i1, i2, i3, i4, i5, i6, i7, i8, i9⟩ := hI
      have hk : ∀ a k, ¬ (a = 74 ∧ 38 ≤ k ∧ k ≤ 38) → (zyEl zymx B H2) a k = (zyEl zymx B H) a k := by
        intro a k n0
        apply hfr
        cases hq : zyin [(74, 38, 38)] a k with
        | false => rfl
        | true =>
          obtain ⟨p0, g1, g2, g3, g4⟩ := zyin_iff.mp hq
          simp only [List.mem_cons, List.not_mem_nil, or_false] at g1
          rcases g1 with rfl
          · exact absurd ⟨g2.symm, g3, g4⟩ n0
      have kf : zyFrd (zyEl zymx B s.heap) (zyEl zymx B H2) := fun a k n1 => (hk a k (fun z => n1 ⟨z.1, by omega⟩)).trans (i1 a k n1)
      have m := zyXm hM 0 rfl
      have m : zyEl zymx B H2 74 38 = some (.int (ρ2 1)) := m
      rw [(hg 1 (by decide)).trans (i3 rfl)] at m
      refine zyGoKi hIH hAt hB ⟨2, by decide⟩ [595] [(0, 4294967295)] 2147483648 2147484548 rfl (by decide) rfl rfl rfl (74 * 16384 + 38) zymr74 rfl rfl (show 38 < 49 by decide) (Int32.ofNat q) ?_ ?_ ⟨q, q, n, v, ⟨hq, s1, kf, fun h => absurd (show 2 ≤ 1 from h) (by decide), fun h => absurd (show 2 = 1 from h) (by decide), fun _ => ⟨m, Nat.le_refl _, hq⟩, fun _ => zyρi_e, fun h => absurd (show 4 ≤ 2 from h) (by decide), fun h => absurd (show 2 = 4 from h) (by decide), fun h => absurd (show 2 = 5 from h) (by decide), fun h => absurd (show 2 = 6 from h) (by decide)⟩⟩ ?_
      · exact m
      · rw [zyBn (by omega)]
        omega
      · show 2000 + 2 * (901 - zyN1 (zyρi (fun k => zyw ρ2 (zyag [595] k)) 1 (Int32.ofNat q) 1)) < 9999
        omega
    · have hx : x ∈ [zxrds_bx0, zxrds_bx1, zxrds_bx2] := hx
      have hg : ∀ k, k < 2 → ρ2 k = ρ k := hag
      have hI := hInv
      have hI : ∃ q p n v : Nat, zyIrd 2 q p n v (zyEl zymx B s.heap) ρ (zyEl zymx B H) := hI
      obtain ⟨hF, hB, hM⟩ := hXs
      have hfr : ∀ a k, zyin [(74, 38, 38)] a k = false → (zyEl zymx B H2) a k = (zyEl zymx B H) a k := hfr
      rcases List.mem_cons.mp hx with ex | hx
      · subst ex
        obtain ⟨q, p, n, v, hq, s1, i1, i2, i3, i4, i5, i6, i7, i8, i9⟩ := hI
        have hk : ∀ a k, ¬ (a = 74 ∧ 38 ≤ k ∧ k ≤ 38) → (zyEl zymx B H2) a k = (zyEl zymx B H) a k := by
          intro a k n0
          apply hfr
          cases hq : zyin [(74, 38, 38)] a k with
          | false => rfl
          | true =>
            obtain ⟨p0, g1, g2, g3, g4⟩ := zyin_iff.mp hq
            simp only [List.mem_cons, List.not_mem_nil, or_false] at g1
            rcases g1 with rfl
            · exact absurd ⟨g2.symm, g3, g4⟩ n0
        have kf : zyFrd (zyEl zymx B s.heap) (zyEl zymx B H2) := fun a k n1 => (hk a k (fun z => n1 ⟨z.1, by omega⟩)).trans (i1 a k n1)
        obtain ⟨p1, p2, p3⟩ := i4 (by decide)
        have a1 : ρ2 1 = Int32.ofNat p := (hg 1 (by decide)).trans (i5 (Or.inl rfl))
        have m := zyXm hM 0 rfl
        have m : zyEl zymx B H2 74 38 = some (.int (ρ2 1)) := m
        rw [a1] at m
        refine zyGoKi hIH hAt hB ⟨3, by decide⟩ [595] [(0, 4294967295)] 2147483648 2147484548 rfl (by decide) rfl rfl rfl (74 * 16384 + 38) zymr74 rfl rfl (show 38 < 49 by decide) (Int32.ofNat p) ?_ ?_ ⟨q, p, n, v, ⟨hq, s1, kf, fun h => absurd (show 3 ≤ 1 from h) (by decide), fun h => absurd (show 3 = 1 from h) (by decide), fun _ => ⟨m, p2, p3⟩, fun _ => zyρi_e, fun h => absurd (show 4 ≤ 3 from h) (by decide), fun h => absurd (show 3 = 4 from h) (by decide), fun h => absurd (show 3 = 5 from h) (by decide), fun h => absurd (show 3 = 6 from h) (by decide)⟩⟩ ?_
        · exact m
        · rw [zyBn (by omega)]
          omega
        · show 1999 < 2000 + 2 * (901 - zyN1 (ρ 1))
          omega
      · skip
        rcases List.mem_cons.mp hx with ex | hx
        · subst ex
          obtain ⟨q, p, n, v, hq, s1, i1, i2, i3, i4, i5, i6, i7, i8, i9⟩ := hI
          have hk : ∀ a k, ¬ (a = 74 ∧ 38 ≤ k ∧ k ≤ 38) → (zyEl zymx B H2) a k = (zyEl zymx B H) a k := by
            intro a k n0
            apply hfr
            cases hq : zyin [(74, 38, 38)] a k with
            | false => rfl
            | true =>
              obtain ⟨p0, g1, g2, g3, g4⟩ := zyin_iff.mp hq
              simp only [List.mem_cons, List.not_mem_nil, or_false] at g1
              rcases g1 with rfl
              · exact absurd ⟨g2.symm, g3, g4⟩ n0
          have kf : zyFrd (zyEl zymx B s.heap) (zyEl zymx B H2) := fun a k n1 => (hk a k (fun z => n1 ⟨z.1, by omega⟩)).trans (i1 a k n1)
          obtain ⟨p1, p2, p3⟩ := i4 (by decide)
          have a1 : ρ2 1 = Int32.ofNat p := (hg 1 (by decide)).trans (i5 (Or.inl rfl))
          have m := zyXm hM 0 rfl
          have b1 := zyXb hB 0 rfl
          have b1 : 2147483648 ≤ zB (ρ2 1) ∧ zB (ρ2 1) ≤ 2147484547 := b1
          rw [a1, zyBn (by omega)] at b1
          have m : zyEl zymx B H2 74 38 = some (.int (ρ2 1 + Int32.ofNat 1)) := m
          rw [a1, zyOa] at m
          refine zyGoKi hIH hAt hB ⟨2, by decide⟩ [595] [(0, 4294967295)] 2147483648 2147484548 rfl (by decide) rfl rfl rfl (74 * 16384 + 38) zymr74 rfl rfl (show 38 < 49 by decide) (Int32.ofNat (p + 1)) ?_ ?_ ⟨q, p + 1, n, v, ⟨hq, s1, kf, fun h => absurd (show 2 ≤ 1 from h) (by decide), fun h => absurd (show 2 = 1 from h) (by decide), fun _ => ⟨m, by omega, by omega⟩, fun _ => zyρi_e, fun h => absurd (show 4 ≤ 2 from h) (by decide), fun h => absurd (show 2 = 4 from h) (by decide), fun h => absurd (show 2 = 5 from h) (by decide), fun h => absurd (show 2 = 6 from h) (by decide)⟩⟩ ?_
          · exact m
          · rw [zyBn (by omega)]
            omega
          · show 2000 + 2 * (901 - zyN1 (zyρi (fun k => zyw ρ2 (zyag [595] k)) 1 (Int32.ofNat (p + 1)) 1)) < 2000 + 2 * (901 - zyN1 (ρ 1))
            rw [zyρi_e, i5 (Or.inl rfl), zyN1_of (by omega), zyN1_of (by omega)]
            omega
        · skip
          have ex := List.mem_singleton.mp hx
          subst ex
          obtain ⟨q, p, n, v, hq, s1, i1, i2, i3, i4, i5, i6, i7, i8, i9⟩ := hI
          have hk : ∀ a k, ¬ (a = 74 ∧ 38 ≤ k ∧ k ≤ 38) → (zyEl zymx B H2) a k = (zyEl zymx B H) a k := by
            intro a k n0
            apply hfr
            cases hq : zyin [(74, 38, 38)] a k with
            | false => rfl
            | true =>
              obtain ⟨p0, g1, g2, g3, g4⟩ := zyin_iff.mp hq
              simp only [List.mem_cons, List.not_mem_nil, or_false] at g1
              rcases g1 with rfl
              · exact absurd ⟨g2.symm, g3, g4⟩ n0
          have kf : zyFrd (zyEl zymx B s.heap) (zyEl zymx B H2) := fun a k n1 => (hk a k (fun z => n1 ⟨z.1, by omega⟩)).trans (i1 a k n1)
          obtain ⟨p1, p2, p3⟩ := i4 (by decide)
          have a1 : ρ2 1 = Int32.ofNat p := (hg 1 (by decide)).trans (i5 (Or.inl rfl))
          have m := zyXm hM 0 rfl
          have m : zyEl zymx B H2 74 38 = some (.int (ρ2 1)) := m
          rw [a1] at m
          refine zyGoKi hIH hAt hB ⟨3, by decide⟩ [595] [(0, 4294967295)] 2147483648 2147484548 rfl (by decide) rfl rfl rfl (74 * 16384 + 38) zymr74 rfl rfl (show 38 < 49 by decide) (Int32.ofNat p) ?_ ?_ ⟨q, p, n, v, ⟨hq, s1, kf, fun h => absurd (show 3 ≤ 1 from h) (by decide), fun h => absurd (show 3 = 1 from h) (by decide), fun _ => ⟨m, p2, p3⟩, fun _ => zyρi_e, fun h => absurd (show 4 ≤ 3 from h) (by decide), fun h => absurd (show 3 = 4 from h) (by decide), fun h => absurd (show 3 = 5 from h) (by decide), fun h => absurd (show 3 = 6 from h) (by decide)⟩⟩ ?_
          · exact m
          · rw [zyBn (by omega)]
            omega
          · show 1999 < 2000 + 2 * (901 - zyN1 (ρ 1))
            omega
    · have hx : x ∈ [zxrds_cx0, zxrds_cx1, zxrds_cx2, zxrds_cx3, zxrds_cx4, zxrds_cx5, zxrds_cx6, zxrds_cx7, zxrds_cx8] := hx
      have hg : ∀ k, k < 2 → ρ2 k = ρ k := hag
      have hI := hInv
      have hI : ∃ q p n v : Nat, zyIrd 3 q p n v (zyEl zymx B s.heap) ρ (zyEl zymx B H) := hI
      obtain ⟨hF, hB, hM⟩ := hXs
      have hfr : ∀ a k, zyin [(74, 39, 41), (74, 43, 43)] a k = false → (zyEl zymx B H2) a k = (zyEl zymx B H) a k := hfr
      rcases List.mem_cons.mp hx with ex | hx
      · subst ex
        obtain ⟨q, p, n, v, hq, s1, i1, i2, i3, i4, i5, i6, i7, i8, i9⟩ := hI
        have hk : ∀ a k, ¬ (a = 74 ∧ 39 ≤ k ∧ k ≤ 41) → ¬ (a = 74 ∧ 43 ≤ k ∧ k ≤ 43) → (zyEl zymx B H2) a k = (zyEl zymx B H) a k := by
          intro a k n0 n1
          apply hfr
          cases hq : zyin [(74, 39, 41), (74, 43, 43)] a k with
          | false => rfl
          | true =>
            obtain ⟨p0, g1, g2, g3, g4⟩ := zyin_iff.mp hq
            simp only [List.mem_cons, List.not_mem_nil, or_false] at g1
            rcases g1 with rfl | rfl
            · exact absurd ⟨g2.symm, g3, g4⟩ n0
            · exact absurd ⟨g2.symm, g3, g4⟩ n1
        have kf : zyFrd (zyEl zymx B s.heap) (zyEl zymx B H2) := fun a k n1 => (hk a k (fun z => n1 ⟨z.1, by omega⟩) (fun z => n1 ⟨z.1, by omega⟩)).trans (i1 a k n1)
        obtain ⟨p1, p2, p3⟩ := i4 (by decide)
        have a1 : ρ2 1 = Int32.ofNat p := (hg 1 (by decide)).trans (i5 (Or.inr rfl))
        have pk : zyEl zymx B H2 74 38 = some (.int (Int32.ofNat p)) := (hk 74 38 (by omega) (by omega)).trans p1
        obtain ⟨n9, w1, w2, w3⟩ := zyXe hF 0 rfl
        have w1 : Int32.ofNat 42 = Int32.ofNat n9 := w1
        have w3 : zyEl zymx B H 74 n9 = some (.int (ρ2 2)) := w3
        have e9 := zyOi (by omega) (by omega) w1
        subst e9
        have lt := zyX20 hF 1 rfl
        have lt : ρ2 1 < ρ2 2 := lt
        rw [a1] at lt
        obtain ⟨n8, u1, u2, u3⟩ := zyXe hF 4 rfl
        have u1 : ρ2 1 = Int32.ofNat n8 := u1
        have u3 : zyEl zymx B H 84 n8 = some (.int (ρ2 6)) := u3
        rw [a1] at u1
        have e8 := zyOi (by omega) (by omega) u1
        subst e8
        have bb := zyXb hB 2 rfl
        have bb : 2147483696 ≤ zB (ρ2 6) ∧ zB (ρ2 6) ≤ 2147483705 := bb
        have q1 := zyXb hB 0 rfl
        have q1 : 2147483648 ≤ zB (ρ2 1) ∧ zB (ρ2 1) ≤ 2147484547 := q1
        rw [a1, zyBn (by omega)] at q1
        have m := zyXm hM 0 rfl
        have m : zyEl zymx B H2 74 39 = some (.int (ρ2 1)) := m
        rw [a1] at m
        have hbt : zybt84 (zyEl zymx B H2) p 2147483696 2147483705 := zybt84_fr (hk 74 42 (by omega) (by omega)) (hk 84 p (by omega) (by omega)) ⟨_, _, w3, lt, u3, bb.1, bb.2⟩
        have m5 := zyXm hM 1 rfl
        have m5 : zyEl zymx B H2 74 41 = some (.int (Int32.ofNat 0)) := m5
        refine zyGoAny hIH hAt ⟨5, by decide⟩ [595] (zyρ2k (fun k => zyw ρ2 (zyag [595] k)) (Int32.ofNat p) (Int32.ofNat 0)) rfl rfl (fun i hi => by have hi : i < 1 := hi; rw [show i = 0 by omega]; rfl) (zEnv_c (zyfull _) (zEnv_c ⟨?_, ?_⟩ (zEnv_c ⟨show 2147483648 ≤ zB (Int32.ofNat 0) by decide, show zB (Int32.ofNat 0) ≤ 2147484647 by decide⟩ zEnv_nil))) ?_ ?_ ⟨q, p, p, 0, ⟨hq, s1, kf, fun h => absurd (show 5 ≤ 1 from h) (by decide), fun h => absurd (show 5 = 1 from h) (by decide), fun _ => ⟨pk, p2, p3⟩, fun h => absurd (show 5 = 2 ∨ 5 = 3 from h) (by decide), fun _ => ⟨rfl, Nat.le_refl _, by omega⟩, fun h => absurd (show 5 = 4 from h) (by decide), fun _ => ⟨fun _ => hbt, rfl, Nat.zero_le _⟩, fun h => absurd (show 5 = 6 from h) (by decide)⟩⟩ ?_
        · show 2147483648 ≤ zB (Int32.ofNat p)
          rw [zyBn (by omega)]
          omega
        · show zB (Int32.ofNat p) ≤ 2147484548
          rw [zyBn (by omega)]
          omega
        · rw [zySt_n (show zySt (zyXn B ρ2 N2) [] stA from hAt.2.2.2.2.2)]
          trivial
        · intro z hz
          have hz : z ∈ [(1212455, 34359738369), (1212457, 68719476737)] := hz
          simp only [List.mem_cons, List.not_mem_nil, or_false] at hz
          rcases hz with rfl | rfl
          · exact ⟨zymr74, _, rfl, show 39 < 49 by decide, m, zyv_sym (i := 1) (show 1 < 3 by decide) rfl⟩
          · exact ⟨zymr74, _, rfl, show 41 < 49 by decide, m5, zyv_sym (i := 2) (show 2 < 3 by decide) rfl⟩
        · show 2 * (901 - zyN1 (Int32.ofNat p)) + 1 < 1999
          omega
      · skip
        rcases List.mem_cons.mp hx with ex | hx
        · subst ex
          obtain ⟨q, p, n, v, hq, s1, i1, i2, i3, i4, i5, i6, i7, i8, i9⟩ := hI
          have hk : ∀ a k, ¬ (a = 74 ∧ 39 ≤ k ∧ k ≤ 41) → ¬ (a = 74 ∧ 43 ≤ k ∧ k ≤ 43) → (zyEl zymx B H2) a k = (zyEl zymx B H) a k := by
            intro a k n0 n1
            apply hfr
            cases hq : zyin [(74, 39, 41), (74, 43, 43)] a k with
            | false => rfl
            | true =>
              obtain ⟨p0, g1, g2, g3, g4⟩ := zyin_iff.mp hq
              simp only [List.mem_cons, List.not_mem_nil, or_false] at g1
              rcases g1 with rfl | rfl
              · exact absurd ⟨g2.symm, g3, g4⟩ n0
              · exact absurd ⟨g2.symm, g3, g4⟩ n1
          have kf : zyFrd (zyEl zymx B s.heap) (zyEl zymx B H2) := fun a k n1 => (hk a k (fun z => n1 ⟨z.1, by omega⟩) (fun z => n1 ⟨z.1, by omega⟩)).trans (i1 a k n1)
          obtain ⟨p1, p2, p3⟩ := i4 (by decide)
          have a1 : ρ2 1 = Int32.ofNat p := (hg 1 (by decide)).trans (i5 (Or.inr rfl))
          have pk : zyEl zymx B H2 74 38 = some (.int (Int32.ofNat p)) := (hk 74 38 (by omega) (by omega)).trans p1
          obtain ⟨n9, w1, w2, w3⟩ := zyXe hF 0 rfl
          have w1 : Int32.ofNat 42 = Int32.ofNat n9 := w1
          have w3 : zyEl zymx B H 74 n9 = some (.int (ρ2 2)) := w3
          have e9 := zyOi (by omega) (by omega) w1
          subst e9
          have lt := zyX20 hF 1 rfl
          have lt : ρ2 1 < ρ2 2 := lt
          rw [a1] at lt
          obtain ⟨n8, u1, u2, u3⟩ := zyXe hF 3 rfl
          have u1 : ρ2 1 = Int32.ofNat n8 := u1
          have u3 : zyEl zymx B H 84 n8 = some (.int (ρ2 5)) := u3
          rw [a1] at u1
          have e8 := zyOi (by omega) (by omega) u1
          subst e8
          have bb := zyXb hB 2 rfl
          have bb : 2147483745 ≤ zB (ρ2 5) ∧ zB (ρ2 5) ≤ 2147483770 := bb
          have q1 := zyXb hB 0 rfl
          have q1 : 2147483648 ≤ zB (ρ2 1) ∧ zB (ρ2 1) ≤ 2147484547 := q1
          rw [a1, zyBn (by omega)] at q1
          have m := zyXm hM 0 rfl
          have m : zyEl zymx B H2 74 39 = some (.int (ρ2 1)) := m
          rw [a1] at m
          have hbt : zybt84 (zyEl zymx B H2) p 2147483745 2147483770 := zybt84_fr (hk 74 42 (by omega) (by omega)) (hk 84 p (by omega) (by omega)) ⟨_, _, w3, lt, u3, bb.1, bb.2⟩
          refine zyGoKi hIH hAt hB ⟨4, by decide⟩ [595] [(0, 4294967295)] 2147483648 2147484548 rfl (by decide) rfl rfl rfl (74 * 16384 + 39) zymr74 rfl rfl (show 39 < 49 by decide) (Int32.ofNat p) ?_ ?_ ⟨q, p, p, v, ⟨hq, s1, kf, fun h => absurd (show 4 ≤ 1 from h) (by decide), fun h => absurd (show 4 = 1 from h) (by decide), fun _ => ⟨pk, p2, p3⟩, fun h => absurd (show 4 = 2 ∨ 4 = 3 from h) (by decide), fun _ => ⟨zyρi_e, Nat.le_refl _, by omega⟩, fun _ => fun _ => hbt, fun h => absurd (show 4 = 5 from h) (by decide), fun h => absurd (show 4 = 6 from h) (by decide)⟩⟩ ?_
          · exact m
          · rw [zyBn (by omega)]
            omega
          · show 901 - zyN1 (zyρi (fun k => zyw ρ2 (zyag [595] k)) 1 (Int32.ofNat p) 1) < 1999
            omega
        · skip
          rcases List.mem_cons.mp hx with ex | hx
          · subst ex
            obtain ⟨q, p, n, v, hq, s1, i1, i2, i3, i4, i5, i6, i7, i8, i9⟩ := hI
            have hk : ∀ a k, ¬ (a = 74 ∧ 39 ≤ k ∧ k ≤ 41) → ¬ (a = 74 ∧ 43 ≤ k ∧ k ≤ 43) → (zyEl zymx B H2) a k = (zyEl zymx B H) a k := by
              intro a k n0 n1
              apply hfr
              cases hq : zyin [(74, 39, 41), (74, 43, 43)] a k with
              | false => rfl
              | true =>
                obtain ⟨p0, g1, g2, g3, g4⟩ := zyin_iff.mp hq
                simp only [List.mem_cons, List.not_mem_nil, or_false] at g1
                rcases g1 with rfl | rfl
                · exact absurd ⟨g2.symm, g3, g4⟩ n0
                · exact absurd ⟨g2.symm, g3, g4⟩ n1
            have kf : zyFrd (zyEl zymx B s.heap) (zyEl zymx B H2) := fun a k n1 => (hk a k (fun z => n1 ⟨z.1, by omega⟩) (fun z => n1 ⟨z.1, by omega⟩)).trans (i1 a k n1)
            obtain ⟨p1, p2, p3⟩ := i4 (by decide)
            have a1 : ρ2 1 = Int32.ofNat p := (hg 1 (by decide)).trans (i5 (Or.inr rfl))
            have pk : zyEl zymx B H2 74 38 = some (.int (Int32.ofNat p)) := (hk 74 38 (by omega) (by omega)).trans p1
            obtain ⟨n9, w1, w2, w3⟩ := zyXe hF 0 rfl
            have w1 : Int32.ofNat 42 = Int32.ofNat n9 := w1
            have w3 : zyEl zymx B H 74 n9 = some (.int (ρ2 2)) := w3
            have e9 := zyOi (by omega) (by omega) w1
            subst e9
            have lt := zyX20 hF 1 rfl
            have lt : ρ2 1 < ρ2 2 := lt
            rw [a1] at lt
            obtain ⟨n8, u1, u2, u3⟩ := zyXe hF 3 rfl
            have u1 : ρ2 1 = Int32.ofNat n8 := u1
            have u3 : zyEl zymx B H 84 n8 = some (.int (ρ2 5)) := u3
            rw [a1] at u1
            have e8 := zyOi (by omega) (by omega) u1
            subst e8
            have bb := zyXb hB 2 rfl
            have bb : 2147483696 ≤ zB (ρ2 5) ∧ zB (ρ2 5) ≤ 2147483705 := bb
            have q1 := zyXb hB 0 rfl
            have q1 : 2147483649 ≤ zB (ρ2 1) ∧ zB (ρ2 1) ≤ 2147484546 := q1
            rw [a1, zyBn (by omega)] at q1
            have m := zyXm hM 0 rfl
            have m : zyEl zymx B H2 74 39 = some (.int (ρ2 1)) := m
            rw [a1] at m
            have hbt : zybt84 (zyEl zymx B H2) p 2147483696 2147483705 := zybt84_fr (hk 74 42 (by omega) (by omega)) (hk 84 p (by omega) (by omega)) ⟨_, _, w3, lt, u3, bb.1, bb.2⟩
            have m5 := zyXm hM 1 rfl
            have m5 : zyEl zymx B H2 74 41 = some (.int (Int32.ofNat 0)) := m5
            refine zyGoAny hIH hAt ⟨5, by decide⟩ [595] (zyρ2k (fun k => zyw ρ2 (zyag [595] k)) (Int32.ofNat p) (Int32.ofNat 0)) rfl rfl (fun i hi => by have hi : i < 1 := hi; rw [show i = 0 by omega]; rfl) (zEnv_c (zyfull _) (zEnv_c ⟨?_, ?_⟩ (zEnv_c ⟨show 2147483648 ≤ zB (Int32.ofNat 0) by decide, show zB (Int32.ofNat 0) ≤ 2147484647 by decide⟩ zEnv_nil))) ?_ ?_ ⟨q, p, p, 0, ⟨hq, s1, kf, fun h => absurd (show 5 ≤ 1 from h) (by decide), fun h => absurd (show 5 = 1 from h) (by decide), fun _ => ⟨pk, p2, p3⟩, fun h => absurd (show 5 = 2 ∨ 5 = 3 from h) (by decide), fun _ => ⟨rfl, Nat.le_refl _, by omega⟩, fun h => absurd (show 5 = 4 from h) (by decide), fun _ => ⟨fun _ => hbt, rfl, Nat.zero_le _⟩, fun h => absurd (show 5 = 6 from h) (by decide)⟩⟩ ?_
            · show 2147483648 ≤ zB (Int32.ofNat p)
              rw [zyBn (by omega)]
              omega
            · show zB (Int32.ofNat p) ≤ 2147484548
              rw [zyBn (by omega)]
              omega
            · rw [zySt_n (show zySt (zyXn B ρ2 N2) [] stA from hAt.2.2.2.2.2)]
              trivial
            · intro z hz
              have hz : z ∈ [(1212455, 34359738369), (1212457, 68719476737)] := hz
              simp only [List.mem_cons, List.not_mem_nil, or_false] at hz
              rcases hz with rfl | rfl
              · exact ⟨zymr74, _, rfl, show 39 < 49 by decide, m, zyv_sym (i := 1) (show 1 < 3 by decide) rfl⟩
              · exact ⟨zymr74, _, rfl, show 41 < 49 by decide, m5, zyv_sym (i := 2) (show 2 < 3 by decide) rfl⟩
            · show 2 * (901 - zyN1 (Int32.ofNat p)) + 1 < 1999
              omega
          · skip
            rcases List.mem_cons.mp hx with ex | hx
            · subst ex
              obtain ⟨q, p, n, v, hq, s1, i1, i2, i3, i4, i5, i6, i7, i8, i9⟩ := hI
              have hk : ∀ a k, ¬ (a = 74 ∧ 39 ≤ k ∧ k ≤ 41) → ¬ (a = 74 ∧ 43 ≤ k ∧ k ≤ 43) → (zyEl zymx B H2) a k = (zyEl zymx B H) a k := by
                intro a k n0 n1
                apply hfr
                cases hq : zyin [(74, 39, 41), (74, 43, 43)] a k with
                | false => rfl
                | true =>
                  obtain ⟨p0, g1, g2, g3, g4⟩ := zyin_iff.mp hq
                  simp only [List.mem_cons, List.not_mem_nil, or_false] at g1
                  rcases g1 with rfl | rfl
                  · exact absurd ⟨g2.symm, g3, g4⟩ n0
                  · exact absurd ⟨g2.symm, g3, g4⟩ n1
              have kf : zyFrd (zyEl zymx B s.heap) (zyEl zymx B H2) := fun a k n1 => (hk a k (fun z => n1 ⟨z.1, by omega⟩) (fun z => n1 ⟨z.1, by omega⟩)).trans (i1 a k n1)
              obtain ⟨p1, p2, p3⟩ := i4 (by decide)
              have a1 : ρ2 1 = Int32.ofNat p := (hg 1 (by decide)).trans (i5 (Or.inr rfl))
              have pk : zyEl zymx B H2 74 38 = some (.int (Int32.ofNat p)) := (hk 74 38 (by omega) (by omega)).trans p1
              obtain ⟨n9, w1, w2, w3⟩ := zyXe hF 0 rfl
              have w1 : Int32.ofNat 42 = Int32.ofNat n9 := w1
              have w3 : zyEl zymx B H 74 n9 = some (.int (ρ2 2)) := w3
              have e9 := zyOi (by omega) (by omega) w1
              subst e9
              have lt := zyX20 hF 1 rfl
              have lt : ρ2 1 < ρ2 2 := lt
              rw [a1] at lt
              obtain ⟨n8, u1, u2, u3⟩ := zyXe hF 4 rfl
              have u1 : ρ2 1 = Int32.ofNat n8 := u1
              have u3 : zyEl zymx B H 84 n8 = some (.int (ρ2 5)) := u3
              rw [a1] at u1
              have e8 := zyOi (by omega) (by omega) u1
              subst e8
              have bb := zyXb hB 2 rfl
              have bb : 2147483696 ≤ zB (ρ2 5) ∧ zB (ρ2 5) ≤ 2147483705 := bb
              have q1 := zyXb hB 0 rfl
              have q1 : 2147483648 ≤ zB (ρ2 1) ∧ zB (ρ2 1) ≤ 2147484547 := q1
              rw [a1, zyBn (by omega)] at q1
              have m := zyXm hM 0 rfl
              have m : zyEl zymx B H2 74 39 = some (.int (ρ2 1)) := m
              rw [a1] at m
              have hbt : zybt84 (zyEl zymx B H2) p 2147483696 2147483705 := zybt84_fr (hk 74 42 (by omega) (by omega)) (hk 84 p (by omega) (by omega)) ⟨_, _, w3, lt, u3, bb.1, bb.2⟩
              have m5 := zyXm hM 1 rfl
              have m5 : zyEl zymx B H2 74 41 = some (.int (Int32.ofNat 0)) := m5
              refine zyGoAny hIH hAt ⟨5, by decide⟩ [595] (zyρ2k (fun k => zyw ρ2 (zyag [595] k)) (Int32.ofNat p) (Int32.ofNat 0)) rfl rfl (fun i hi => by have hi : i < 1 := hi; rw [show i = 0 by omega]; rfl) (zEnv_c (zyfull _) (zEnv_c ⟨?_, ?_⟩ (zEnv_c ⟨show 2147483648 ≤ zB (Int32.ofNat 0) by decide, show zB (Int32.ofNat 0) ≤ 2147484647 by decide⟩ zEnv_nil))) ?_ ?_ ⟨q, p, p, 0, ⟨hq, s1, kf, fun h => absurd (show 5 ≤ 1 from h) (by decide), fun h => absurd (show 5 = 1 from h) (by decide), fun _ => ⟨pk, p2, p3⟩, fun h => absurd (show 5 = 2 ∨ 5 = 3 from h) (by decide), fun _ => ⟨rfl, Nat.le_refl _, by omega⟩, fun h => absurd (show 5 = 4 from h) (by decide), fun _ => ⟨fun _ => hbt, rfl, Nat.zero_le _⟩, fun h => absurd (show 5 = 6 from h) (by decide)⟩⟩ ?_
              · show 2147483648 ≤ zB (Int32.ofNat p)
                rw [zyBn (by omega)]
                omega
              · show zB (Int32.ofNat p) ≤ 2147484548
                rw [zyBn (by omega)]
                omega
              · rw [zySt_n (show zySt (zyXn B ρ2 N2) [] stA from hAt.2.2.2.2.2)]
                trivial
              · intro z hz
                have hz : z ∈ [(1212455, 34359738369), (1212457, 68719476737)] := hz
                simp only [List.mem_cons, List.not_mem_nil, or_false] at hz
                rcases hz with rfl | rfl
                · exact ⟨zymr74, _, rfl, show 39 < 49 by decide, m, zyv_sym (i := 1) (show 1 < 3 by decide) rfl⟩
                · exact ⟨zymr74, _, rfl, show 41 < 49 by decide, m5, zyv_sym (i := 2) (show 2 < 3 by decide) rfl⟩
              · show 2 * (901 - zyN1 (Int32.ofNat p)) + 1 < 1999
                omega
            · skip
              rcases List.mem_cons.mp hx with ex | hx
              · subst ex
                obtain ⟨q, p, n, v, hq, s1, i1, i2, i3, i4, i5, i6, i7, i8, i9⟩ := hI
                have hk : ∀ a k, ¬ (a = 74 ∧ 39 ≤ k ∧ k ≤ 41) → ¬ (a = 74 ∧ 43 ≤ k ∧ k ≤ 43) → (zyEl zymx B H2) a k = (zyEl zymx B H) a k := by
                  intro a k n0 n1
                  apply hfr
                  cases hq : zyin [(74, 39, 41), (74, 43, 43)] a k with
                  | false => rfl
                  | true =>
                    obtain ⟨p0, g1, g2, g3, g4⟩ := zyin_iff.mp hq
                    simp only [List.mem_cons, List.not_mem_nil, or_false] at g1
                    rcases g1 with rfl | rfl
                    · exact absurd ⟨g2.symm, g3, g4⟩ n0
                    · exact absurd ⟨g2.symm, g3, g4⟩ n1
                have kf : zyFrd (zyEl zymx B s.heap) (zyEl zymx B H2) := fun a k n1 => (hk a k (fun z => n1 ⟨z.1, by omega⟩) (fun z => n1 ⟨z.1, by omega⟩)).trans (i1 a k n1)
                obtain ⟨p1, p2, p3⟩ := i4 (by decide)
                have a1 : ρ2 1 = Int32.ofNat p := (hg 1 (by decide)).trans (i5 (Or.inr rfl))
                have pk : zyEl zymx B H2 74 38 = some (.int (Int32.ofNat p)) := (hk 74 38 (by omega) (by omega)).trans p1
                obtain ⟨n9, w1, w2, w3⟩ := zyXe hF 0 rfl
                have w1 : Int32.ofNat 42 = Int32.ofNat n9 := w1
                have w3 : zyEl zymx B H 74 n9 = some (.int (ρ2 2)) := w3
                have e9 := zyOi (by omega) (by omega) w1
                subst e9
                have lt := zyX20 hF 1 rfl
                have lt : ρ2 1 < ρ2 2 := lt
                rw [a1] at lt
                obtain ⟨n8, u1, u2, u3⟩ := zyXe hF 3 rfl
                have u1 : ρ2 1 = Int32.ofNat n8 := u1
                have u3 : zyEl zymx B H 84 n8 = some (.int (ρ2 4)) := u3
                rw [a1] at u1
                have e8 := zyOi (by omega) (by omega) u1
                subst e8
                have bb := zyXb hB 2 rfl
                have bb : 2147483745 ≤ zB (ρ2 4) ∧ zB (ρ2 4) ≤ 2147483770 := bb
                have q1 := zyXb hB 0 rfl
                have q1 : 2147483648 ≤ zB (ρ2 1) ∧ zB (ρ2 1) ≤ 2147484547 := q1
                rw [a1, zyBn (by omega)] at q1
                have m := zyXm hM 0 rfl
                have m : zyEl zymx B H2 74 39 = some (.int (ρ2 1)) := m
                rw [a1] at m
                have hbt : zybt84 (zyEl zymx B H2) p 2147483745 2147483770 := zybt84_fr (hk 74 42 (by omega) (by omega)) (hk 84 p (by omega) (by omega)) ⟨_, _, w3, lt, u3, bb.1, bb.2⟩
                refine zyGoKi hIH hAt hB ⟨4, by decide⟩ [595] [(0, 4294967295)] 2147483648 2147484548 rfl (by decide) rfl rfl rfl (74 * 16384 + 39) zymr74 rfl rfl (show 39 < 49 by decide) (Int32.ofNat p) ?_ ?_ ⟨q, p, p, v, ⟨hq, s1, kf, fun h => absurd (show 4 ≤ 1 from h) (by decide), fun h => absurd (show 4 = 1 from h) (by decide), fun _ => ⟨pk, p2, p3⟩, fun h => absurd (show 4 = 2 ∨ 4 = 3 from h) (by decide), fun _ => ⟨zyρi_e, Nat.le_refl _, by omega⟩, fun _ => fun _ => hbt, fun h => absurd (show 4 = 5 from h) (by decide), fun h => absurd (show 4 = 6 from h) (by decide)⟩⟩ ?_
                · exact m
                · rw [zyBn (by omega)]
                  omega
                · show 901 - zyN1 (zyρi (fun k => zyw ρ2 (zyag [595] k)) 1 (Int32.ofNat p) 1) < 1999
                  omega
              · skip
                rcases List.mem_cons.mp hx with ex | hx
                · subst ex
                  obtain ⟨q, p, n, v, hq, s1, i1, i2, i3, i4, i5, i6, i7, i8, i9⟩ := hI
                  have hk : ∀ a k, ¬ (a = 74 ∧ 39 ≤ k ∧ k ≤ 41) → ¬ (a = 74 ∧ 43 ≤ k ∧ k ≤ 43) → (zyEl zymx B H2) a k = (zyEl zymx B H) a k := by
                    intro a k n0 n1
                    apply hfr
                    cases hq : zyin [(74, 39, 41), (74, 43, 43)] a k with
                    | false => rfl
                    | true =>
                      obtain ⟨p0, g1, g2, g3, g4⟩ := zyin_iff.mp hq
                      simp only [List.mem_cons, List.not_mem_nil, or_false] at g1
                      rcases g1 with rfl | rfl
                      · exact absurd ⟨g2.symm, g3, g4⟩ n0
                      · exact absurd ⟨g2.symm, g3, g4⟩ n1
                  have kf : zyFrd (zyEl zymx B s.heap) (zyEl zymx B H2) := fun a k n1 => (hk a k (fun z => n1 ⟨z.1, by omega⟩) (fun z => n1 ⟨z.1, by omega⟩)).trans (i1 a k n1)
                  obtain ⟨p1, p2, p3⟩ := i4 (by decide)
                  have a1 : ρ2 1 = Int32.ofNat p := (hg 1 (by decide)).trans (i5 (Or.inr rfl))
                  have pk : zyEl zymx B H2 74 38 = some (.int (Int32.ofNat p)) := (hk 74 38 (by omega) (by omega)).trans p1
                  obtain ⟨n9, w1, w2, w3⟩ := zyXe hF 0 rfl
                  have w1 : Int32.ofNat 42 = Int32.ofNat n9 := w1
                  have w3 : zyEl zymx B H 74 n9 = some (.int (ρ2 2)) := w3
                  have e9 := zyOi (by omega) (by omega) w1
                  subst e9
                  have lt := zyX20 hF 1 rfl
                  have lt : ρ2 1 < ρ2 2 := lt
                  rw [a1] at lt
                  obtain ⟨n8, u1, u2, u3⟩ := zyXe hF 3 rfl
                  have u1 : ρ2 1 = Int32.ofNat n8 := u1
                  have u3 : zyEl zymx B H 84 n8 = some (.int (ρ2 4)) := u3
                  rw [a1] at u1
                  have e8 := zyOi (by omega) (by omega) u1
                  subst e8
                  have bb := zyXb hB 2 rfl
                  have bb : 2147483696 ≤ zB (ρ2 4) ∧ zB (ρ2 4) ≤ 2147483705 := bb
                  have q1 := zyXb hB 0 rfl
                  have q1 : 2147483649 ≤ zB (ρ2 1) ∧ zB (ρ2 1) ≤ 2147484546 := q1
                  rw [a1, zyBn (by omega)] at q1
                  have m := zyXm hM 0 rfl
                  have m : zyEl zymx B H2 74 39 = some (.int (ρ2 1)) := m
                  rw [a1] at m
                  have hbt : zybt84 (zyEl zymx B H2) p 2147483696 2147483705 := zybt84_fr (hk 74 42 (by omega) (by omega)) (hk 84 p (by omega) (by omega)) ⟨_, _, w3, lt, u3, bb.1, bb.2⟩
                  have m5 := zyXm hM 1 rfl
                  have m5 : zyEl zymx B H2 74 41 = some (.int (Int32.ofNat 0)) := m5
                  refine zyGoAny hIH hAt ⟨5, by decide⟩ [595] (zyρ2k (fun k => zyw ρ2 (zyag [595] k)) (Int32.ofNat p) (Int32.ofNat 0)) rfl rfl (fun i hi => by have hi : i < 1 := hi; rw [show i = 0 by omega]; rfl) (zEnv_c (zyfull _) (zEnv_c ⟨?_, ?_⟩ (zEnv_c ⟨show 2147483648 ≤ zB (Int32.ofNat 0) by decide, show zB (Int32.ofNat 0) ≤ 2147484647 by decide⟩ zEnv_nil))) ?_ ?_ ⟨q, p, p, 0, ⟨hq, s1, kf, fun h => absurd (show 5 ≤ 1 from h) (by decide), fun h => absurd (show 5 = 1 from h) (by decide), fun _ => ⟨pk, p2, p3⟩, fun h => absurd (show 5 = 2 ∨ 5 = 3 from h) (by decide), fun _ => ⟨rfl, Nat.le_refl _, by omega⟩, fun h => absurd (show 5 = 4 from h) (by decide), fun _ => ⟨fun _ => hbt, rfl, Nat.zero_le _⟩, fun h => absurd (show 5 = 6 from h) (by decide)⟩⟩ ?_
                  · show 2147483648 ≤ zB (Int32.ofNat p)
                    rw [zyBn (by omega)]
                    omega
                  · show zB (Int32.ofNat p) ≤ 2147484548
                    rw [zyBn (by omega)]
                    omega
                  · rw [zySt_n (show zySt (zyXn B ρ2 N2) [] stA from hAt.2.2.2.2.2)]
                    trivial
                  · intro z hz
                    have hz : z ∈ [(1212455, 34359738369), (1212457, 68719476737)] := hz
                    simp only [List.mem_cons, List.not_mem_nil, or_false] at hz
                    rcases hz with rfl | rfl
                    · exact ⟨zymr74, _, rfl, show 39 < 49 by decide, m, zyv_sym (i := 1) (show 1 < 3 by decide) rfl⟩
                    · exact ⟨zymr74, _, rfl, show 41 < 49 by decide, m5, zyv_sym (i := 2) (show 2 < 3 by decide) rfl⟩
                  · show 2 * (901 - zyN1 (Int32.ofNat p)) + 1 < 1999
                    omega
                · skip
                  rcases List.mem_cons.mp hx with ex | hx
                  · subst ex
                    obtain ⟨q, p, n, v, hq, s1, i1, i2, i3, i4, i5, i6, i7, i8, i9⟩ := hI
                    have hk : ∀ a k, ¬ (a = 74 ∧ 39 ≤ k ∧ k ≤ 41) → ¬ (a = 74 ∧ 43 ≤ k ∧ k ≤ 43) → (zyEl zymx B H2) a k = (zyEl zymx B H) a k := by
                      intro a k n0 n1
                      apply hfr
                      cases hq : zyin [(74, 39, 41), (74, 43, 43)] a k with
                      | false => rfl
                      | true =>
                        obtain ⟨p0, g1, g2, g3, g4⟩ := zyin_iff.mp hq
                        simp only [List.mem_cons, List.not_mem_nil, or_false] at g1
                        rcases g1 with rfl | rfl
                        · exact absurd ⟨g2.symm, g3, g4⟩ n0
                        · exact absurd ⟨g2.symm, g3, g4⟩ n1
                    have kf : zyFrd (zyEl zymx B s.heap) (zyEl zymx B H2) := fun a k n1 => (hk a k (fun z => n1 ⟨z.1, by omega⟩) (fun z => n1 ⟨z.1, by omega⟩)).trans (i1 a k n1)
                    obtain ⟨p1, p2, p3⟩ := i4 (by decide)
                    have a1 : ρ2 1 = Int32.ofNat p := (hg 1 (by decide)).trans (i5 (Or.inr rfl))
                    have pk : zyEl zymx B H2 74 38 = some (.int (Int32.ofNat p)) := (hk 74 38 (by omega) (by omega)).trans p1
                    obtain ⟨n9, w1, w2, w3⟩ := zyXe hF 0 rfl
                    have w1 : Int32.ofNat 42 = Int32.ofNat n9 := w1
                    have w3 : zyEl zymx B H 74 n9 = some (.int (ρ2 2)) := w3
                    have e9 := zyOi (by omega) (by omega) w1
                    subst e9
                    have lt := zyX20 hF 1 rfl
                    have lt : ρ2 1 < ρ2 2 := lt
                    rw [a1] at lt
                    obtain ⟨n8, u1, u2, u3⟩ := zyXe hF 3 rfl
                    have u1 : ρ2 1 = Int32.ofNat n8 := u1
                    have u3 : zyEl zymx B H 84 n8 = some (.int (ρ2 4)) := u3
                    rw [a1] at u1
                    have e8 := zyOi (by omega) (by omega) u1
                    subst e8
                    have bb := zyXb hB 2 rfl
                    have bb : 2147483696 ≤ zB (ρ2 4) ∧ zB (ρ2 4) ≤ 2147483705 := bb
                    have q1 := zyXb hB 0 rfl
                    have q1 : 2147483648 ≤ zB (ρ2 1) ∧ zB (ρ2 1) ≤ 2147484547 := q1
                    rw [a1, zyBn (by omega)] at q1
                    have m := zyXm hM 0 rfl
                    have m : zyEl zymx B H2 74 39 = some (.int (ρ2 1)) := m
                    rw [a1] at m
                    have hbt : zybt84 (zyEl zymx B H2) p 2147483696 2147483705 := zybt84_fr (hk 74 42 (by omega) (by omega)) (hk 84 p (by omega) (by omega)) ⟨_, _, w3, lt, u3, bb.1, bb.2⟩
                    have m5 := zyXm hM 1 rfl
                    have m5 : zyEl zymx B H2 74 41 = some (.int (Int32.ofNat 0)) := m5
                    refine zyGoAny hIH hAt ⟨5, by decide⟩ [595] (zyρ2k (fun k => zyw ρ2 (zyag [595] k)) (Int32.ofNat p) (Int32.ofNat 0)) rfl rfl (fun i hi => by have hi : i < 1 := hi; rw [show i = 0 by omega]; rfl) (zEnv_c (zyfull _) (zEnv_c ⟨?_, ?_⟩ (zEnv_c ⟨show 2147483648 ≤ zB (Int32.ofNat 0) by decide, show zB (Int32.ofNat 0) ≤ 2147484647 by decide⟩ zEnv_nil))) ?_ ?_ ⟨q, p, p, 0, ⟨hq, s1, kf, fun h => absurd (show 5 ≤ 1 from h) (by decide), fun h => absurd (show 5 = 1 from h) (by decide), fun _ => ⟨pk, p2, p3⟩, fun h => absurd (show 5 = 2 ∨ 5 = 3 from h) (by decide), fun _ => ⟨rfl, Nat.le_refl _, by omega⟩, fun h => absurd (show 5 = 4 from h) (by decide), fun _ => ⟨fun _ => hbt, rfl, Nat.zero_le _⟩, fun h => absurd (show 5 = 6 from h) (by decide)⟩⟩ ?_
                    · show 2147483648 ≤ zB (Int32.ofNat p)
                      rw [zyBn (by omega)]
                      omega
                    · show zB (Int32.ofNat p) ≤ 2147484548
                      rw [zyBn (by omega)]
                      omega
                    · rw [zySt_n (show zySt (zyXn B ρ2 N2) [] stA from hAt.2.2.2.2.2)]
                      trivial
                    · intro z hz
                      have hz : z ∈ [(1212455, 34359738369), (1212457, 68719476737)] := hz
                      simp only [List.mem_cons, List.not_mem_nil, or_false] at hz
                      rcases hz with rfl | rfl
                      · exact ⟨zymr74, _, rfl, show 39 < 49 by decide, m, zyv_sym (i := 1) (show 1 < 3 by decide) rfl⟩
                      · exact ⟨zymr74, _, rfl, show 41 < 49 by decide, m5, zyv_sym (i := 2) (show 2 < 3 by decide) rfl⟩
                    · show 2 * (901 - zyN1 (Int32.ofNat p)) + 1 < 1999
                      omega
                  · skip
                    rcases List.mem_cons.mp hx with ex | hx
                    · subst ex
                      obtain ⟨q, p, n, v, hq, s1, i1, i2, i3, i4, i5, i6, i7, i8, i9⟩ := hI
                      have hk : ∀ a k, ¬ (a = 74 ∧ 39 ≤ k ∧ k ≤ 41) → ¬ (a = 74 ∧ 43 ≤ k ∧ k ≤ 43) → (zyEl zymx B H2) a k = (zyEl zymx B H) a k := by
                        intro a k n0 n1
                        apply hfr
                        cases hq : zyin [(74, 39, 41), (74, 43, 43)] a k with
                        | false => rfl
                        | true =>
                          obtain ⟨p0, g1, g2, g3, g4⟩ := zyin_iff.mp hq
                          simp only [List.mem_cons, List.not_mem_nil, or_false] at g1
                          rcases g1 with rfl | rfl
                          · exact absurd ⟨g2.symm, g3, g4⟩ n0
                          · exact absurd ⟨g2.symm, g3, g4⟩ n1
                      have kf : zyFrd (zyEl zymx B s.heap) (zyEl zymx B H2) := fun a k n1 => (hk a k (fun z => n1 ⟨z.1, by omega⟩) (fun z => n1 ⟨z.1, by omega⟩)).trans (i1 a k n1)
                      obtain ⟨p1, p2, p3⟩ := i4 (by decide)
                      have a1 : ρ2 1 = Int32.ofNat p := (hg 1 (by decide)).trans (i5 (Or.inr rfl))
                      have pk : zyEl zymx B H2 74 38 = some (.int (Int32.ofNat p)) := (hk 74 38 (by omega) (by omega)).trans p1
                      obtain ⟨n9, w1, w2, w3⟩ := zyXe hF 0 rfl
                      have w1 : Int32.ofNat 42 = Int32.ofNat n9 := w1
                      have w3 : zyEl zymx B H 74 n9 = some (.int (ρ2 2)) := w3
                      have e9 := zyOi (by omega) (by omega) w1
                      subst e9
                      have lt := zyX20 hF 1 rfl
                      have lt : ρ2 1 < ρ2 2 := lt
                      rw [a1] at lt
                      obtain ⟨n8, u1, u2, u3⟩ := zyXe hF 2 rfl
                      have u1 : ρ2 1 = Int32.ofNat n8 := u1
                      have u3 : zyEl zymx B H 84 n8 = some (.int (ρ2 3)) := u3
                      rw [a1] at u1
                      have e8 := zyOi (by omega) (by omega) u1
                      subst e8
                      have bb := zyXb hB 2 rfl
                      have bb : 2147483745 ≤ zB (ρ2 3) ∧ zB (ρ2 3) ≤ 2147483770 := bb
                      have q1 := zyXb hB 0 rfl
                      have q1 : 2147483648 ≤ zB (ρ2 1) ∧ zB (ρ2 1) ≤ 2147484547 := q1
                      rw [a1, zyBn (by omega)] at q1
                      have m := zyXm hM 0 rfl
                      have m : zyEl zymx B H2 74 39 = some (.int (ρ2 1)) := m
                      rw [a1] at m
                      have hbt : zybt84 (zyEl zymx B H2) p 2147483745 2147483770 := zybt84_fr (hk 74 42 (by omega) (by omega)) (hk 84 p (by omega) (by omega)) ⟨_, _, w3, lt, u3, bb.1, bb.2⟩
                      refine zyGoKi hIH hAt hB ⟨4, by decide⟩ [595] [(0, 4294967295)] 2147483648 2147484548 rfl (by decide) rfl rfl rfl (74 * 16384 + 39) zymr74 rfl rfl (show 39 < 49 by decide) (Int32.ofNat p) ?_ ?_ ⟨q, p, p, v, ⟨hq, s1, kf, fun h => absurd (show 4 ≤ 1 from h) (by decide), fun h => absurd (show 4 = 1 from h) (by decide), fun _ => ⟨pk, p2, p3⟩, fun h => absurd (show 4 = 2 ∨ 4 = 3 from h) (by decide), fun _ => ⟨zyρi_e, Nat.le_refl _, by omega⟩, fun _ => fun _ => hbt, fun h => absurd (show 4 = 5 from h) (by decide), fun h => absurd (show 4 = 6 from h) (by decide)⟩⟩ ?_
                      · exact m
                      · rw [zyBn (by omega)]
                        omega
                      · show 901 - zyN1 (zyρi (fun k => zyw ρ2 (zyag [595] k)) 1 (Int32.ofNat p) 1) < 1999
                        omega
                    · skip
                      have ex := List.mem_singleton.mp hx
                      subst ex
                      obtain ⟨q, p, n, v, hq, s1, i1, i2, i3, i4, i5, i6, i7, i8, i9⟩ := hI
                      have hk : ∀ a k, ¬ (a = 74 ∧ 39 ≤ k ∧ k ≤ 41) → ¬ (a = 74 ∧ 43 ≤ k ∧ k ≤ 43) → (zyEl zymx B H2) a k = (zyEl zymx B H) a k := by
                        intro a k n0 n1
                        apply hfr
                        cases hq : zyin [(74, 39, 41), (74, 43, 43)] a k with
                        | false => rfl
                        | true =>
                          obtain ⟨p0, g1, g2, g3, g4⟩ := zyin_iff.mp hq
                          simp only [List.mem_cons, List.not_mem_nil, or_false] at g1
                          rcases g1 with rfl | rfl
                          · exact absurd ⟨g2.symm, g3, g4⟩ n0
                          · exact absurd ⟨g2.symm, g3, g4⟩ n1
                      have kf : zyFrd (zyEl zymx B s.heap) (zyEl zymx B H2) := fun a k n1 => (hk a k (fun z => n1 ⟨z.1, by omega⟩) (fun z => n1 ⟨z.1, by omega⟩)).trans (i1 a k n1)
                      obtain ⟨p1, p2, p3⟩ := i4 (by decide)
                      have a1 : ρ2 1 = Int32.ofNat p := (hg 1 (by decide)).trans (i5 (Or.inr rfl))
                      have pk : zyEl zymx B H2 74 38 = some (.int (Int32.ofNat p)) := (hk 74 38 (by omega) (by omega)).trans p1
                      obtain ⟨n9, w1, w2, w3⟩ := zyXe hF 0 rfl
                      have w1 : Int32.ofNat 42 = Int32.ofNat n9 := w1
                      have w3 : zyEl zymx B H 74 n9 = some (.int (ρ2 2)) := w3
                      have e9 := zyOi (by omega) (by omega) w1
                      subst e9
                      have lt := zyX20 hF 1 rfl
                      have lt : ρ2 1 < ρ2 2 := lt
                      rw [a1] at lt
                      obtain ⟨n8, u1, u2, u3⟩ := zyXe hF 2 rfl
                      have u1 : ρ2 1 = Int32.ofNat n8 := u1
                      have u3 : zyEl zymx B H 84 n8 = some (.int (ρ2 3)) := u3
                      rw [a1] at u1
                      have e8 := zyOi (by omega) (by omega) u1
                      subst e8
                      have bb := zyXb hB 2 rfl
                      have bb : 2147483696 ≤ zB (ρ2 3) ∧ zB (ρ2 3) ≤ 2147483705 := bb
                      have q1 := zyXb hB 0 rfl
                      have q1 : 2147483648 ≤ zB (ρ2 1) ∧ zB (ρ2 1) ≤ 2147484547 := q1
                      rw [a1, zyBn (by omega)] at q1
                      have m := zyXm hM 0 rfl
                      have m : zyEl zymx B H2 74 39 = some (.int (ρ2 1)) := m
                      rw [a1] at m
                      have hbt : zybt84 (zyEl zymx B H2) p 2147483696 2147483705 := zybt84_fr (hk 74 42 (by omega) (by omega)) (hk 84 p (by omega) (by omega)) ⟨_, _, w3, lt, u3, bb.1, bb.2⟩
                      have m5 := zyXm hM 1 rfl
                      have m5 : zyEl zymx B H2 74 41 = some (.int (Int32.ofNat 0)) := m5
                      refine zyGoAny hIH hAt ⟨5, by decide⟩ [595] (zyρ2k (fun k => zyw ρ2 (zyag [595] k)) (Int32.ofNat p) (Int32.ofNat 0)) rfl rfl (fun i hi => by have hi : i < 1 := hi; rw [show i = 0 by omega]; rfl) (zEnv_c (zyfull _) (zEnv_c ⟨?_, ?_⟩ (zEnv_c ⟨show 2147483648 ≤ zB (Int32.ofNat 0) by decide, show zB (Int32.ofNat 0) ≤ 2147484647 by decide⟩ zEnv_nil))) ?_ ?_ ⟨q, p, p, 0, ⟨hq, s1, kf, fun h => absurd (show 5 ≤ 1 from h) (by decide), fun h => absurd (show 5 = 1 from h) (by decide), fun _ => ⟨pk, p2, p3⟩, fun h => absurd (show 5 = 2 ∨ 5 = 3 from h) (by decide), fun _ => ⟨rfl, Nat.le_refl _, by omega⟩, fun h => absurd (show 5 = 4 from h) (by decide), fun _ => ⟨fun _ => hbt, rfl, Nat.zero_le _⟩, fun h => absurd (show 5 = 6 from h) (by decide)⟩⟩ ?_
                      · show 2147483648 ≤ zB (Int32.ofNat p)
                        rw [zyBn (by omega)]
                        omega
                      · show zB (Int32.ofNat p) ≤ 2147484548
                        rw [zyBn (by omega)]
                        omega
                      · rw [zySt_n (show zySt (zyXn B ρ2 N2) [] stA from hAt.2.2.2.2.2)]
                        trivial
                      · intro z hz
                        have hz : z ∈ [(1212455, 34359738369), (1212457, 68719476737)] := hz
                        simp only [List.mem_cons, List.not_mem_nil, or_false] at hz
                        rcases hz with rfl | rfl
                        · exact ⟨zymr74, _, rfl, show 39 < 49 by decide, m, zyv_sym (i := 1) (show 1 < 3 by decide) rfl⟩
                        · exact ⟨zymr74, _, rfl, show 41 < 49 by decide, m5, zyv_sym (i := 2) (show 2 < 3 by decide) rfl⟩
                      · show 2 * (901 - zyN1 (Int32.ofNat p)) + 1 < 1999
                        omega
    · have hx : x ∈ [zxrds_dx0] := hx
      have hg : ∀ k, k < 2 → ρ2 k = ρ k := hag
      have hI := hInv
      have hI : ∃ q p n v : Nat, zyIrd 4 q p n v (zyEl zymx B s.heap) ρ (zyEl zymx B H) := hI
      obtain ⟨hF, hB, hM⟩ := hXs
      have hfr : ∀ a k, zyin [(74, 39, 39), (74, 43, 43)] a k = false → (zyEl zymx B H2) a k = (zyEl zymx B H) a k := hfr
      have ex := List.mem_singleton.mp hx
      subst ex
      obtain ⟨q, p, n, v, hq, s1, i1, i2, i3, i4, i5, i6, i7, i8, i9⟩ := hI
      have hk : ∀ a k, ¬ (a = 74 ∧ 39 ≤ k ∧ k ≤ 39) → ¬ (a = 74 ∧ 43 ≤ k ∧ k ≤ 43) → (zyEl zymx B H2) a k = (zyEl zymx B H) a k := by
        intro a k n0 n1
        apply hfr
        cases hq : zyin [(74, 39, 39), (74, 43, 43)] a k with
        | false => rfl
        | true =>
          obtain ⟨p0, g1, g2, g3, g4⟩ := zyin_iff.mp hq
          simp only [List.mem_cons, List.not_mem_nil, or_false] at g1
          rcases g1 with rfl | rfl
          · exact absurd ⟨g2.symm, g3, g4⟩ n0
          · exact absurd ⟨g2.symm, g3, g4⟩ n1
      have kf : zyFrd (zyEl zymx B s.heap) (zyEl zymx B H2) := fun a k n1 => (hk a k (fun z => n1 ⟨z.1, by omega⟩) (fun z => n1 ⟨z.1, by omega⟩)).trans (i1 a k n1)
      obtain ⟨p1, p2, p3⟩ := i4 (by decide)
      obtain ⟨r1, r2, r3⟩ := i6 (by decide)
      have a1 : ρ2 1 = Int32.ofNat n := (hg 1 (by decide)).trans r1
      have b1 := zyXb hB 0 rfl
      have b1 : 2147483648 ≤ zB (ρ2 1) ∧ zB (ρ2 1) ≤ 2147484547 := b1
      rw [a1, zyBn (by omega)] at b1
      have m := zyXm hM 0 rfl
      have m : zyEl zymx B H2 74 39 = some (.int (ρ2 1 + Int32.ofNat 1)) := m
      rw [a1, zyOa] at m
      have pk : zyEl zymx B H2 74 38 = some (.int (Int32.ofNat p)) := (hk 74 38 (by omega) (by omega)).trans p1
      refine zyGoKi hIH hAt hB ⟨4, by decide⟩ [595] [(0, 4294967295)] 2147483648 2147484548 rfl (by decide) rfl rfl rfl (74 * 16384 + 39) zymr74 rfl rfl (show 39 < 49 by decide) (Int32.ofNat (n + 1)) ?_ ?_ ⟨q, p, n + 1, v, ⟨hq, s1, kf, fun h => absurd (show 4 ≤ 1 from h) (by decide), fun h => absurd (show 4 = 1 from h) (by decide), fun _ => ⟨pk, p2, p3⟩, fun h => absurd (show 4 = 2 ∨ 4 = 3 from h) (by decide), fun _ => ⟨zyρi_e, by omega, by omega⟩, fun _ => fun h => absurd h (by omega), fun h => absurd (show 4 = 5 from h) (by decide), fun h => absurd (show 4 = 6 from h) (by decide)⟩⟩ ?_
      · exact m
      · rw [zyBn (by omega)]
        omega
      · show 901 - zyN1 (zyρi (fun k => zyw ρ2 (zyag [595] k)) 1 (Int32.ofNat (n + 1)) 1) < 901 - zyN1 (ρ 1)
        rw [zyρi_e, r1, zyN1_of (by omega), zyN1_of (by omega)]
        omega
    · have hx : x ∈ [zxrds_ex0, zxrds_ex1] := hx
      have hg : ∀ k, k < 3 → ρ2 k = ρ k := hag
      have hI := hInv
      have hI : ∃ q p n v : Nat, zyIrd 5 q p n v (zyEl zymx B s.heap) ρ (zyEl zymx B H) := hI
      obtain ⟨hF, hB, hM⟩ := hXs
      have hfr : ∀ a k, zyin [(74, 39, 41)] a k = false → (zyEl zymx B H2) a k = (zyEl zymx B H) a k := hfr
      rcases List.mem_cons.mp hx with ex | hx
      · subst ex
        obtain ⟨q, p, n, v, hq, s1, i1, i2, i3, i4, i5, i6, i7, i8, i9⟩ := hI
        have hk : ∀ a k, ¬ (a = 74 ∧ 39 ≤ k ∧ k ≤ 41) → (zyEl zymx B H2) a k = (zyEl zymx B H) a k := by
          intro a k n0
          apply hfr
          cases hq : zyin [(74, 39, 41)] a k with
          | false => rfl
          | true =>
            obtain ⟨p0, g1, g2, g3, g4⟩ := zyin_iff.mp hq
            simp only [List.mem_cons, List.not_mem_nil, or_false] at g1
            rcases g1 with rfl
            · exact absurd ⟨g2.symm, g3, g4⟩ n0
        have kf : zyFrd (zyEl zymx B s.heap) (zyEl zymx B H2) := fun a k n1 => (hk a k (fun z => n1 ⟨z.1, by omega⟩)).trans (i1 a k n1)
        obtain ⟨p1, p2, p3⟩ := i4 (by decide)
        obtain ⟨r1, r2, r3⟩ := i6 (by decide)
        have a1 : ρ2 1 = Int32.ofNat n := (hg 1 (by decide)).trans r1
        have b1 := zyXb hB 0 rfl
        have b1 : 2147483648 ≤ zB (ρ2 1) ∧ zB (ρ2 1) ≤ 2147484547 := b1
        rw [a1, zyBn (by omega)] at b1
        obtain ⟨-, v1, v2⟩ := i8 rfl
        have a2 : ρ2 2 = Int32.ofNat v := (hg 2 (by decide)).trans v1
        obtain ⟨n8, u1, u2, u3⟩ := zyXe hF 7 rfl
        have u1 : Int32.ofNat 38 = Int32.ofNat n8 := u1
        have u3 : zyEl zymx B H 74 n8 = some (.int (ρ2 5)) := u3
        have ep := zyEk u1 (by omega) u2 u3 p1
        have fs := zyXop hF 8 rfl (by decide)
        have fs : ρ2 6 = ρ2 1 - ρ2 5 := fs
        rw [a1, ep, zyOs r2] at fs
        have lt := zyX20 hF 9 rfl
        have lt : ρ2 6 < Int32.ofNat 3 := lt
        rw [fs, zyOl (by omega) (by omega)] at lt
        obtain ⟨n7, y1, y2, y3⟩ := zyXe hF 2 rfl
        have y1 : ρ2 1 = Int32.ofNat n7 := y1
        have y3 : zyEl zymx B H 84 n7 = some (.int (ρ2 4)) := y3
        rw [a1] at y1
        have e7 := zyOi (by omega) (by omega) y1
        subst e7
        obtain ⟨n6, x1, x2, x3⟩ := zyXe hF 11 rfl
        have x1 : ρ2 1 = Int32.ofNat n6 := x1
        have x3 : zyEl zymx B H 84 n6 = some (.int (ρ2 8)) := x3
        rw [a1] at x1
        have e6 := zyEk x1 (by omega) x2 x3 y3
        have bb := zyXb hB 3 rfl
        have bb : 2147483696 ≤ zB (ρ2 4) ∧ zB (ρ2 4) ≤ 2147483705 := bb
        obtain ⟨d1, d2⟩ := zyOn (show 2147483648 ≤ zB (ρ2 4) by omega)
        have f3 := zyXop hF 10 rfl (by decide)
        have f3 : ρ2 7 = Int32.ofNat 10 * ρ2 2 := f3
        rw [a2, zyOm] at f3
        have f4 := zyXop hF 12 rfl (by decide)
        have f4 : ρ2 9 = ρ2 7 + ρ2 8 := f4
        rw [f3, e6, d1, zyOa] at f4
        obtain ⟨vv, evv⟩ : ∃ vv, vv = 10 * v + zyN1 (ρ2 4) - 48 := ⟨_, rfl⟩
        have hval : zyw ρ2 343597383297 = Int32.ofNat vv := by
          show ρ2 9 + Int32.ofNat (4294967296 - 48) = _
          rw [f4, zyOd2 (by omega) (by decide), evv]
        have hvv : vv ≤ zylim (n + 1 - p) := by
          unfold zylim at v2 ⊢
          have hc : n - p = 0 ∨ n - p = 1 ∨ n - p = 2 := by omega
          rcases hc with hc | hc | hc
          · rw [if_pos hc] at v2
            rw [if_neg (by omega), if_pos (by omega)]
            omega
          · rw [if_neg (by omega), if_pos hc] at v2
            rw [if_neg (by omega), if_neg (by omega), if_pos (by omega)]
            omega
          · rw [if_neg (by omega), if_neg (by omega), if_pos hc] at v2
            rw [if_neg (by omega), if_neg (by omega), if_neg (by omega)]
            omega
        have hst := hAt.2.2.2.2.2
        have hst : zySt (zyXn B ρ2 N2) [343597383297, 595] stA := hst
        obtain ⟨g1, t1, rfl, k1, hst⟩ := zySt_c hst
        obtain ⟨g2, t2, rfl, k2, hst⟩ := zySt_c hst
        have et := zySt_n hst
        subst et
        obtain ⟨z1, rfl⟩ := zyv_int k1 (by decide)
        have ez : z1 = zyw ρ2 343597383297 := zyw_of k1 (by decide)
        have eg : g2 = .ref (zad B 74) := zyv_3 (v := 595) k2 (by decide)
        rw [eg, ez, hval]
        have m := zyXm hM 0 rfl
        have m : zyEl zymx B H2 74 39 = some (.int (ρ2 1)) := m
        rw [a1] at m
        have pk : zyEl zymx B H2 74 38 = some (.int (Int32.ofNat p)) := (hk 74 38 (by omega)).trans p1
        rw [hval] at ez
        subst ez
        rw [eg] at hAt
        have hlv : zylim (n + 1 - p) ≤ 999 := by
          unfold zylim
          split
          · decide
          · split
            · decide
            · split <;> decide
        refine zyGoAny hIH hAt ⟨6, by decide⟩ [595] (zyρ2k (fun k => zyw ρ2 (zyag [595] k)) (Int32.ofNat n) (Int32.ofNat vv)) rfl rfl (fun i hi => by have hi : i < 1 := hi; rw [show i = 0 by omega]; rfl) (zEnv_c (zyfull _) (zEnv_c ⟨?_, ?_⟩ (zEnv_c ⟨?_, ?_⟩ zEnv_nil))) ?_ ?_ ⟨q, p, n, vv, ⟨hq, s1, kf, fun h => absurd (show 6 ≤ 1 from h) (by decide), fun h => absurd (show 6 = 1 from h) (by decide), fun _ => ⟨pk, p2, p3⟩, fun h => absurd (show 6 = 2 ∨ 6 = 3 from h) (by decide), fun _ => ⟨rfl, r2, r3⟩, fun h => absurd (show 6 = 4 from h) (by decide), fun h => absurd (show 6 = 5 from h) (by decide), fun _ => ⟨by omega, rfl, hvv⟩⟩⟩ ?_
        · show 2147483648 ≤ zB (Int32.ofNat n)
          rw [zyBn (by omega)]
          omega
        · show zB (Int32.ofNat n) ≤ 2147484547
          rw [zyBn (by omega)]
          omega
        · show 2147483648 ≤ zB (Int32.ofNat vv)
          rw [zyBn (by omega)]
          omega
        · show zB (Int32.ofNat vv) ≤ 2147484647
          rw [zyBn (by omega)]
          omega
        · exact ⟨zyv_sym (i := 2) (show 2 < 3 by decide) rfl, Or.inl ⟨Or.inr (Or.inr (Or.inr (Or.inl ⟨rfl, rfl⟩))), fun q => absurd q (by decide), fun q => absurd q (by decide)⟩, trivial⟩
        · intro z hz
          have hz : z ∈ [(1212455, 34359738369)] := hz
          rw [List.mem_singleton.mp hz]
          exact ⟨zymr74, _, rfl, show 39 < 49 by decide, m, zyv_sym (i := 1) (show 1 < 3 by decide) rfl⟩
        · show 2 * (901 - zyN1 (Int32.ofNat n)) < 2 * (901 - zyN1 (ρ 1)) + 1
          rw [r1]
          omega
      · skip
        have ex := List.mem_singleton.mp hx
        subst ex
        obtain ⟨q, p, n, v, hq, s1, i1, i2, i3, i4, i5, i6, i7, i8, i9⟩ := hI
        have hk : ∀ a k, ¬ (a = 74 ∧ 39 ≤ k ∧ k ≤ 41) → (zyEl zymx B H2) a k = (zyEl zymx B H) a k := by
          intro a k n0
          apply hfr
          cases hq : zyin [(74, 39, 41)] a k with
          | false => rfl
          | true =>
            obtain ⟨p0, g1, g2, g3, g4⟩ := zyin_iff.mp hq
            simp only [List.mem_cons, List.not_mem_nil, or_false] at g1
            rcases g1 with rfl
            · exact absurd ⟨g2.symm, g3, g4⟩ n0
        have kf : zyFrd (zyEl zymx B s.heap) (zyEl zymx B H2) := fun a k n1 => (hk a k (fun z => n1 ⟨z.1, by omega⟩)).trans (i1 a k n1)
        obtain ⟨p1, p2, p3⟩ := i4 (by decide)
        obtain ⟨r1, r2, r3⟩ := i6 (by decide)
        have a1 : ρ2 1 = Int32.ofNat n := (hg 1 (by decide)).trans r1
        have b1 := zyXb hB 0 rfl
        have b1 : 2147483648 ≤ zB (ρ2 1) ∧ zB (ρ2 1) ≤ 2147484547 := b1
        rw [a1, zyBn (by omega)] at b1
        obtain ⟨-, v1, v2⟩ := i8 rfl
        have a2 : ρ2 2 = Int32.ofNat v := (hg 2 (by decide)).trans v1
        obtain ⟨n8, u1, u2, u3⟩ := zyXe hF 7 rfl
        have u1 : Int32.ofNat 38 = Int32.ofNat n8 := u1
        have u3 : zyEl zymx B H 74 n8 = some (.int (ρ2 5)) := u3
        have ep := zyEk u1 (by omega) u2 u3 p1
        have fs := zyXop hF 8 rfl (by decide)
        have fs : ρ2 6 = ρ2 1 - ρ2 5 := fs
        rw [a1, ep, zyOs r2] at fs
        have lt := zyX21 hF 9 rfl
        have lt : ¬ ρ2 6 < Int32.ofNat 3 := lt
        rw [fs, zyOl (by omega) (by omega)] at lt
        obtain ⟨vv, evv⟩ : ∃ vv, vv = v := ⟨_, rfl⟩
        have hval : zyw ρ2 68719476737 = Int32.ofNat vv := by rw [evv]; exact a2
        have hvv : vv ≤ zylim (n + 1 - p) := by
          unfold zylim at v2 ⊢
          rw [if_neg (by omega), if_neg (by omega), if_neg (by omega)] at v2 ⊢
          omega
        have hst := hAt.2.2.2.2.2
        have hst : zySt (zyXn B ρ2 N2) [68719476737, 595] stA := hst
        obtain ⟨g1, t1, rfl, k1, hst⟩ := zySt_c hst
        obtain ⟨g2, t2, rfl, k2, hst⟩ := zySt_c hst
        have et := zySt_n hst
        subst et
        obtain ⟨z1, rfl⟩ := zyv_int k1 (by decide)
        have ez : z1 = zyw ρ2 68719476737 := zyw_of k1 (by decide)
        have eg : g2 = .ref (zad B 74) := zyv_3 (v := 595) k2 (by decide)
        rw [eg, ez, hval]
        have m := zyXm hM 0 rfl
        have m : zyEl zymx B H2 74 39 = some (.int (ρ2 1)) := m
        rw [a1] at m
        have pk : zyEl zymx B H2 74 38 = some (.int (Int32.ofNat p)) := (hk 74 38 (by omega)).trans p1
        rw [hval] at ez
        subst ez
        rw [eg] at hAt
        have hlv : zylim (n + 1 - p) ≤ 999 := by
          unfold zylim
          split
          · decide
          · split
            · decide
            · split <;> decide
        refine zyGoAny hIH hAt ⟨6, by decide⟩ [595] (zyρ2k (fun k => zyw ρ2 (zyag [595] k)) (Int32.ofNat n) (Int32.ofNat vv)) rfl rfl (fun i hi => by have hi : i < 1 := hi; rw [show i = 0 by omega]; rfl) (zEnv_c (zyfull _) (zEnv_c ⟨?_, ?_⟩ (zEnv_c ⟨?_, ?_⟩ zEnv_nil))) ?_ ?_ ⟨q, p, n, vv, ⟨hq, s1, kf, fun h => absurd (show 6 ≤ 1 from h) (by decide), fun h => absurd (show 6 = 1 from h) (by decide), fun _ => ⟨pk, p2, p3⟩, fun h => absurd (show 6 = 2 ∨ 6 = 3 from h) (by decide), fun _ => ⟨rfl, r2, r3⟩, fun h => absurd (show 6 = 4 from h) (by decide), fun h => absurd (show 6 = 5 from h) (by decide), fun _ => ⟨by omega, rfl, hvv⟩⟩⟩ ?_
        · show 2147483648 ≤ zB (Int32.ofNat n)
          rw [zyBn (by omega)]
          omega
        · show zB (Int32.ofNat n) ≤ 2147484547
          rw [zyBn (by omega)]
          omega
        · show 2147483648 ≤ zB (Int32.ofNat vv)
          rw [zyBn (by omega)]
          omega
        · show zB (Int32.ofNat vv) ≤ 2147484647
          rw [zyBn (by omega)]
          omega
        · exact ⟨zyv_sym (i := 2) (show 2 < 3 by decide) rfl, Or.inl ⟨Or.inr (Or.inr (Or.inr (Or.inl ⟨rfl, rfl⟩))), fun q => absurd q (by decide), fun q => absurd q (by decide)⟩, trivial⟩
        · intro z hz
          have hz : z ∈ [(1212455, 34359738369)] := hz
          rw [List.mem_singleton.mp hz]
          exact ⟨zymr74, _, rfl, show 39 < 49 by decide, m, zyv_sym (i := 1) (show 1 < 3 by decide) rfl⟩
        · show 2 * (901 - zyN1 (Int32.ofNat n)) < 2 * (901 - zyN1 (ρ 1)) + 1
          rw [r1]
          omega
    · have hx : x ∈ [zxrds_fx0] := hx
      have hg : ∀ k, k < 3 → ρ2 k = ρ k := hag
      have hI := hInv
      have hI : ∃ q p n v : Nat, zyIrd 6 q p n v (zyEl zymx B s.heap) ρ (zyEl zymx B H) := hI
      obtain ⟨hF, hB, hM⟩ := hXs
      have hfr : ∀ a k, zyin [(74, 39, 39), (74, 41, 41)] a k = false → (zyEl zymx B H2) a k = (zyEl zymx B H) a k := hfr
      have ex := List.mem_singleton.mp hx
      subst ex
      obtain ⟨q, p, n, v, hq, s1, i1, i2, i3, i4, i5, i6, i7, i8, i9⟩ := hI
      have hk : ∀ a k, ¬ (a = 74 ∧ 39 ≤ k ∧ k ≤ 39) → ¬ (a = 74 ∧ 41 ≤ k ∧ k ≤ 41) → (zyEl zymx B H2) a k = (zyEl zymx B H) a k := by
        intro a k n0 n1
        apply hfr
        cases hq : zyin [(74, 39, 39), (74, 41, 41)] a k with
        | false => rfl
        | true =>
          obtain ⟨p0, g1, g2, g3, g4⟩ := zyin_iff.mp hq
          simp only [List.mem_cons, List.not_mem_nil, or_false] at g1
          rcases g1 with rfl | rfl
          · exact absurd ⟨g2.symm, g3, g4⟩ n0
          · exact absurd ⟨g2.symm, g3, g4⟩ n1
      have kf : zyFrd (zyEl zymx B s.heap) (zyEl zymx B H2) := fun a k n1 => (hk a k (fun z => n1 ⟨z.1, by omega⟩) (fun z => n1 ⟨z.1, by omega⟩)).trans (i1 a k n1)
      obtain ⟨p1, p2, p3⟩ := i4 (by decide)
      obtain ⟨r1, r2, r3⟩ := i6 (by decide)
      have a1 : ρ2 1 = Int32.ofNat n := (hg 1 (by decide)).trans r1
      obtain ⟨v0, v1, v2⟩ := i9 rfl
      have a2 : ρ2 2 = Int32.ofNat v := (hg 2 (by decide)).trans v1
      have hlv : zylim (n + 1 - p) ≤ 999 := by
        unfold zylim
        split
        · decide
        · split
          · decide
          · split <;> decide
      have m := zyXm hM 0 rfl
      have m : zyEl zymx B H2 74 39 = some (.int (ρ2 1 + Int32.ofNat 1)) := m
      rw [a1, zyOa] at m
      have m5 := zyXm hM 1 rfl
      have m5 : zyEl zymx B H2 74 41 = some (.int (ρ2 2)) := m5
      rw [a2] at m5
      have pk : zyEl zymx B H2 74 38 = some (.int (Int32.ofNat p)) := (hk 74 38 (by omega) (by omega)).trans p1
      refine zyGoAny hIH hAt ⟨5, by decide⟩ [595] (zyρ2k (fun k => zyw ρ2 (zyag [595] k)) (Int32.ofNat (n + 1)) (Int32.ofNat v)) rfl rfl (fun i hi => by have hi : i < 1 := hi; rw [show i = 0 by omega]; rfl) (zEnv_c (zyfull _) (zEnv_c ⟨?_, ?_⟩ (zEnv_c ⟨?_, ?_⟩ zEnv_nil))) ?_ ?_ ⟨q, p, n + 1, v, ⟨hq, s1, kf, fun h => absurd (show 5 ≤ 1 from h) (by decide), fun h => absurd (show 5 = 1 from h) (by decide), fun _ => ⟨pk, p2, p3⟩, fun h => absurd (show 5 = 2 ∨ 5 = 3 from h) (by decide), fun _ => ⟨rfl, by omega, by omega⟩, fun h => absurd (show 5 = 4 from h) (by decide), fun _ => ⟨fun h => absurd h (by omega), rfl, v2⟩, fun h => absurd (show 5 = 6 from h) (by decide)⟩⟩ ?_
      · show 2147483648 ≤ zB (Int32.ofNat (n + 1))
        rw [zyBn (by omega)]
        omega
      · show zB (Int32.ofNat (n + 1)) ≤ 2147484548
        rw [zyBn (by omega)]
        omega
      · show 2147483648 ≤ zB (Int32.ofNat v)
        rw [zyBn (by omega)]
        omega
      · show zB (Int32.ofNat v) ≤ 2147484647
        rw [zyBn (by omega)]
        omega
      · rw [zySt_n (show zySt (zyXn B ρ2 N2) [] stA from hAt.2.2.2.2.2)]
        trivial
      · intro z hz
        have hz : z ∈ [(1212455, 34359738369), (1212457, 68719476737)] := hz
        simp only [List.mem_cons, List.not_mem_nil, or_false] at hz
        rcases hz with rfl | rfl
        · exact ⟨zymr74, _, rfl, show 39 < 49 by decide, m, zyv_sym (i := 1) (show 1 < 3 by decide) rfl⟩
        · exact ⟨zymr74, _, rfl, show 41 < 49 by decide, m5, zyv_sym (i := 2) (show 2 < 3 by decide) rfl⟩
      · show 2 * (901 - zyN1 (Int32.ofNat (n + 1))) + 1 < 2 * (901 - zyN1 (ρ 1))
        rw [r1, zyN1_of (by omega), zyN1_of (by omega)]
        omega
  · intro as E0 E E2 hT0 hΦ hlen i ρ hT hInv x hx ρ2 N2 B vo hXs hag hfr hT2 hvo
    rcases i with ⟨i, hi⟩
    have hi2 : i = 0 ∨ i = 1 ∨ i = 2 ∨ i = 3 ∨ i = 4 ∨ i = 5 ∨ i = 6 := by omega
    rcases hi2 with rfl | rfl | rfl | rfl | rfl | rfl | rfl
    · cases hx
    · cases hx
    · cases hx
    · have hx : x ∈ [zxrds_cr0, zxrds_cr1, zxrds_cr2, zxrds_cr3, zxrds_cr4, zxrds_cr5, zxrds_cr6, zxrds_cr7, zxrds_cr8] := hx
      have hg : ∀ k, k < 2 → ρ2 k = ρ k := hag
      have hI := hInv
      have hI : ∃ q p n v : Nat, zyIrd 3 q p n v E0 ρ E := hI
      obtain ⟨hF, hB, hM⟩ := hXs
      have hfr : ∀ a k, zyin [(74, 39, 41), (74, 43, 43)] a k = false → E2 a k = E a k := hfr
      rcases List.mem_cons.mp hx with ex | hx
      · subst ex
        obtain ⟨q, p, n, v, hq, s1, i1, i2, i3, i4, i5, i6, i7, i8, i9⟩ := hI
        have hk : ∀ a k, ¬ (a = 74 ∧ 39 ≤ k ∧ k ≤ 41) → ¬ (a = 74 ∧ 43 ≤ k ∧ k ≤ 43) → E2 a k = E a k := by
          intro a k n0 n1
          apply hfr
          cases hq : zyin [(74, 39, 41), (74, 43, 43)] a k with
          | false => rfl
          | true =>
            obtain ⟨p0, g1, g2, g3, g4⟩ := zyin_iff.mp hq
            simp only [List.mem_cons, List.not_mem_nil, or_false] at g1
            rcases g1 with rfl | rfl
            · exact absurd ⟨g2.symm, g3, g4⟩ n0
            · exact absurd ⟨g2.symm, g3, g4⟩ n1
        have kf : zyFrd E0 E2 := fun a k n1 => (hk a k (fun z => n1 ⟨z.1, by omega⟩) (fun z => n1 ⟨z.1, by omega⟩)).trans (i1 a k n1)
        obtain ⟨p1, p2, p3⟩ := i4 (by decide)
        have a1 : ρ2 1 = Int32.ofNat p := (hg 1 (by decide)).trans (i5 (Or.inr rfl))
        have q1 := zyXb hB 0 rfl
        have q1 : 2147483648 ≤ zB (ρ2 1) ∧ zB (ρ2 1) ≤ 2147484547 := q1
        rw [a1, zyBn (by omega)] at q1
        have m := zyXm hM 0 rfl
        have m : E2 74 39 = some (.int (ρ2 1 + Int32.ofNat 1)) := m
        rw [a1, zyOa] at m
        have m1 := zyXm hM 1 rfl
        have m1 : E2 74 40 = some (.int (Int32.ofNat 4)) := m1
        exact ⟨zyvo_0 (show zyvo _ [] vo from hvo), kf, q, p + 1, 4, hq, s1, by omega, by omega, m, by decide, m1, Or.inr ⟨by omega, p, by omega, (hk 74 38 (by omega) (by omega)).trans p1⟩⟩
      · skip
        rcases List.mem_cons.mp hx with ex | hx
        · subst ex
          obtain ⟨q, p, n, v, hq, s1, i1, i2, i3, i4, i5, i6, i7, i8, i9⟩ := hI
          have hk : ∀ a k, ¬ (a = 74 ∧ 39 ≤ k ∧ k ≤ 41) → ¬ (a = 74 ∧ 43 ≤ k ∧ k ≤ 43) → E2 a k = E a k := by
            intro a k n0 n1
            apply hfr
            cases hq : zyin [(74, 39, 41), (74, 43, 43)] a k with
            | false => rfl
            | true =>
              obtain ⟨p0, g1, g2, g3, g4⟩ := zyin_iff.mp hq
              simp only [List.mem_cons, List.not_mem_nil, or_false] at g1
              rcases g1 with rfl | rfl
              · exact absurd ⟨g2.symm, g3, g4⟩ n0
              · exact absurd ⟨g2.symm, g3, g4⟩ n1
          have kf : zyFrd E0 E2 := fun a k n1 => (hk a k (fun z => n1 ⟨z.1, by omega⟩) (fun z => n1 ⟨z.1, by omega⟩)).trans (i1 a k n1)
          obtain ⟨p1, p2, p3⟩ := i4 (by decide)
          have a1 : ρ2 1 = Int32.ofNat p := (hg 1 (by decide)).trans (i5 (Or.inr rfl))
          have q1 := zyXb hB 0 rfl
          have q1 : 2147483649 ≤ zB (ρ2 1) ∧ zB (ρ2 1) ≤ 2147484547 := q1
          rw [a1, zyBn (by omega)] at q1
          have m := zyXm hM 0 rfl
          have m : E2 74 39 = some (.int (ρ2 1 + Int32.ofNat 1)) := m
          rw [a1, zyOa] at m
          have m1 := zyXm hM 1 rfl
          have m1 : E2 74 40 = some (.int (Int32.ofNat 4)) := m1
          exact ⟨zyvo_0 (show zyvo _ [] vo from hvo), kf, q, p + 1, 4, hq, s1, by omega, by omega, m, by decide, m1, Or.inr ⟨by omega, p, by omega, (hk 74 38 (by omega) (by omega)).trans p1⟩⟩
        · skip
          rcases List.mem_cons.mp hx with ex | hx
          · subst ex
            obtain ⟨q, p, n, v, hq, s1, i1, i2, i3, i4, i5, i6, i7, i8, i9⟩ := hI
            have hk : ∀ a k, ¬ (a = 74 ∧ 39 ≤ k ∧ k ≤ 41) → ¬ (a = 74 ∧ 43 ≤ k ∧ k ≤ 43) → E2 a k = E a k := by
              intro a k n0 n1
              apply hfr
              cases hq : zyin [(74, 39, 41), (74, 43, 43)] a k with
              | false => rfl
              | true =>
                obtain ⟨p0, g1, g2, g3, g4⟩ := zyin_iff.mp hq
                simp only [List.mem_cons, List.not_mem_nil, or_false] at g1
                rcases g1 with rfl | rfl
                · exact absurd ⟨g2.symm, g3, g4⟩ n0
                · exact absurd ⟨g2.symm, g3, g4⟩ n1
            have kf : zyFrd E0 E2 := fun a k n1 => (hk a k (fun z => n1 ⟨z.1, by omega⟩) (fun z => n1 ⟨z.1, by omega⟩)).trans (i1 a k n1)
            obtain ⟨p1, p2, p3⟩ := i4 (by decide)
            have a1 : ρ2 1 = Int32.ofNat p := (hg 1 (by decide)).trans (i5 (Or.inr rfl))
            have q1 := zyXb hB 0 rfl
            have q1 : 2147483649 ≤ zB (ρ2 1) ∧ zB (ρ2 1) ≤ 2147484546 := q1
            rw [a1, zyBn (by omega)] at q1
            have m := zyXm hM 0 rfl
            have m : E2 74 39 = some (.int (ρ2 1 + Int32.ofNat 1)) := m
            rw [a1, zyOa] at m
            have m1 := zyXm hM 1 rfl
            have m1 : E2 74 40 = some (.int (Int32.ofNat 4)) := m1
            exact ⟨zyvo_0 (show zyvo _ [] vo from hvo), kf, q, p + 1, 4, hq, s1, by omega, by omega, m, by decide, m1, Or.inr ⟨by omega, p, by omega, (hk 74 38 (by omega) (by omega)).trans p1⟩⟩
          · skip
            rcases List.mem_cons.mp hx with ex | hx
            · subst ex
              obtain ⟨q, p, n, v, hq, s1, i1, i2, i3, i4, i5, i6, i7, i8, i9⟩ := hI
              have hk : ∀ a k, ¬ (a = 74 ∧ 39 ≤ k ∧ k ≤ 41) → ¬ (a = 74 ∧ 43 ≤ k ∧ k ≤ 43) → E2 a k = E a k := by
                intro a k n0 n1
                apply hfr
                cases hq : zyin [(74, 39, 41), (74, 43, 43)] a k with
                | false => rfl
                | true =>
                  obtain ⟨p0, g1, g2, g3, g4⟩ := zyin_iff.mp hq
                  simp only [List.mem_cons, List.not_mem_nil, or_false] at g1
                  rcases g1 with rfl | rfl
                  · exact absurd ⟨g2.symm, g3, g4⟩ n0
                  · exact absurd ⟨g2.symm, g3, g4⟩ n1
              have kf : zyFrd E0 E2 := fun a k n1 => (hk a k (fun z => n1 ⟨z.1, by omega⟩) (fun z => n1 ⟨z.1, by omega⟩)).trans (i1 a k n1)
              obtain ⟨p1, p2, p3⟩ := i4 (by decide)
              have a1 : ρ2 1 = Int32.ofNat p := (hg 1 (by decide)).trans (i5 (Or.inr rfl))
              have q1 := zyXb hB 0 rfl
              have q1 : 2147483648 ≤ zB (ρ2 1) ∧ zB (ρ2 1) ≤ 2147484547 := q1
              rw [a1, zyBn (by omega)] at q1
              have m := zyXm hM 0 rfl
              have m : E2 74 39 = some (.int (ρ2 1 + Int32.ofNat 1)) := m
              rw [a1, zyOa] at m
              have m1 := zyXm hM 1 rfl
              have m1 : E2 74 40 = some (.int (Int32.ofNat 3)) := m1
              exact ⟨zyvo_0 (show zyvo _ [] vo from hvo), kf, q, p + 1, 3, hq, s1, by omega, by omega, m, by decide, m1, Or.inr ⟨by omega, p, by omega, (hk 74 38 (by omega) (by omega)).trans p1⟩⟩
            · skip
              rcases List.mem_cons.mp hx with ex | hx
              · subst ex
                obtain ⟨q, p, n, v, hq, s1, i1, i2, i3, i4, i5, i6, i7, i8, i9⟩ := hI
                have hk : ∀ a k, ¬ (a = 74 ∧ 39 ≤ k ∧ k ≤ 41) → ¬ (a = 74 ∧ 43 ≤ k ∧ k ≤ 43) → E2 a k = E a k := by
                  intro a k n0 n1
                  apply hfr
                  cases hq : zyin [(74, 39, 41), (74, 43, 43)] a k with
                  | false => rfl
                  | true =>
                    obtain ⟨p0, g1, g2, g3, g4⟩ := zyin_iff.mp hq
                    simp only [List.mem_cons, List.not_mem_nil, or_false] at g1
                    rcases g1 with rfl | rfl
                    · exact absurd ⟨g2.symm, g3, g4⟩ n0
                    · exact absurd ⟨g2.symm, g3, g4⟩ n1
                have kf : zyFrd E0 E2 := fun a k n1 => (hk a k (fun z => n1 ⟨z.1, by omega⟩) (fun z => n1 ⟨z.1, by omega⟩)).trans (i1 a k n1)
                obtain ⟨p1, p2, p3⟩ := i4 (by decide)
                have a1 : ρ2 1 = Int32.ofNat p := (hg 1 (by decide)).trans (i5 (Or.inr rfl))
                have q1 := zyXb hB 0 rfl
                have q1 : 2147483649 ≤ zB (ρ2 1) ∧ zB (ρ2 1) ≤ 2147484547 := q1
                rw [a1, zyBn (by omega)] at q1
                have m := zyXm hM 0 rfl
                have m : E2 74 39 = some (.int (ρ2 1 + Int32.ofNat 1)) := m
                rw [a1, zyOa] at m
                have m1 := zyXm hM 1 rfl
                have m1 : E2 74 40 = some (.int (Int32.ofNat 3)) := m1
                exact ⟨zyvo_0 (show zyvo _ [] vo from hvo), kf, q, p + 1, 3, hq, s1, by omega, by omega, m, by decide, m1, Or.inr ⟨by omega, p, by omega, (hk 74 38 (by omega) (by omega)).trans p1⟩⟩
              · skip
                rcases List.mem_cons.mp hx with ex | hx
                · subst ex
                  obtain ⟨q, p, n, v, hq, s1, i1, i2, i3, i4, i5, i6, i7, i8, i9⟩ := hI
                  have hk : ∀ a k, ¬ (a = 74 ∧ 39 ≤ k ∧ k ≤ 41) → ¬ (a = 74 ∧ 43 ≤ k ∧ k ≤ 43) → E2 a k = E a k := by
                    intro a k n0 n1
                    apply hfr
                    cases hq : zyin [(74, 39, 41), (74, 43, 43)] a k with
                    | false => rfl
                    | true =>
                      obtain ⟨p0, g1, g2, g3, g4⟩ := zyin_iff.mp hq
                      simp only [List.mem_cons, List.not_mem_nil, or_false] at g1
                      rcases g1 with rfl | rfl
                      · exact absurd ⟨g2.symm, g3, g4⟩ n0
                      · exact absurd ⟨g2.symm, g3, g4⟩ n1
                  have kf : zyFrd E0 E2 := fun a k n1 => (hk a k (fun z => n1 ⟨z.1, by omega⟩) (fun z => n1 ⟨z.1, by omega⟩)).trans (i1 a k n1)
                  obtain ⟨p1, p2, p3⟩ := i4 (by decide)
                  have a1 : ρ2 1 = Int32.ofNat p := (hg 1 (by decide)).trans (i5 (Or.inr rfl))
                  have q1 := zyXb hB 0 rfl
                  have q1 : 2147483649 ≤ zB (ρ2 1) ∧ zB (ρ2 1) ≤ 2147484546 := q1
                  rw [a1, zyBn (by omega)] at q1
                  have m := zyXm hM 0 rfl
                  have m : E2 74 39 = some (.int (ρ2 1 + Int32.ofNat 1)) := m
                  rw [a1, zyOa] at m
                  have m1 := zyXm hM 1 rfl
                  have m1 : E2 74 40 = some (.int (Int32.ofNat 3)) := m1
                  exact ⟨zyvo_0 (show zyvo _ [] vo from hvo), kf, q, p + 1, 3, hq, s1, by omega, by omega, m, by decide, m1, Or.inr ⟨by omega, p, by omega, (hk 74 38 (by omega) (by omega)).trans p1⟩⟩
                · skip
                  rcases List.mem_cons.mp hx with ex | hx
                  · subst ex
                    obtain ⟨q, p, n, v, hq, s1, i1, i2, i3, i4, i5, i6, i7, i8, i9⟩ := hI
                    have hk : ∀ a k, ¬ (a = 74 ∧ 39 ≤ k ∧ k ≤ 41) → ¬ (a = 74 ∧ 43 ≤ k ∧ k ≤ 43) → E2 a k = E a k := by
                      intro a k n0 n1
                      apply hfr
                      cases hq : zyin [(74, 39, 41), (74, 43, 43)] a k with
                      | false => rfl
                      | true =>
                        obtain ⟨p0, g1, g2, g3, g4⟩ := zyin_iff.mp hq
                        simp only [List.mem_cons, List.not_mem_nil, or_false] at g1
                        rcases g1 with rfl | rfl
                        · exact absurd ⟨g2.symm, g3, g4⟩ n0
                        · exact absurd ⟨g2.symm, g3, g4⟩ n1
                    have kf : zyFrd E0 E2 := fun a k n1 => (hk a k (fun z => n1 ⟨z.1, by omega⟩) (fun z => n1 ⟨z.1, by omega⟩)).trans (i1 a k n1)
                    obtain ⟨p1, p2, p3⟩ := i4 (by decide)
                    have a1 : ρ2 1 = Int32.ofNat p := (hg 1 (by decide)).trans (i5 (Or.inr rfl))
                    have q1 := zyXb hB 0 rfl
                    have q1 : 2147483648 ≤ zB (ρ2 1) ∧ zB (ρ2 1) ≤ 2147484547 := q1
                    rw [a1, zyBn (by omega)] at q1
                    have m := zyXm hM 0 rfl
                    have m : E2 74 39 = some (.int (ρ2 1 + Int32.ofNat 1)) := m
                    rw [a1, zyOa] at m
                    have m1 := zyXm hM 1 rfl
                    have m1 : E2 74 40 = some (.int (Int32.ofNat 0)) := m1
                    exact ⟨zyvo_0 (show zyvo _ [] vo from hvo), kf, q, p + 1, 0, hq, s1, by omega, by omega, m, by decide, m1, Or.inl rfl⟩
                  · skip
                    rcases List.mem_cons.mp hx with ex | hx
                    · subst ex
                      obtain ⟨q, p, n, v, hq, s1, i1, i2, i3, i4, i5, i6, i7, i8, i9⟩ := hI
                      have hk : ∀ a k, ¬ (a = 74 ∧ 39 ≤ k ∧ k ≤ 41) → ¬ (a = 74 ∧ 43 ≤ k ∧ k ≤ 43) → E2 a k = E a k := by
                        intro a k n0 n1
                        apply hfr
                        cases hq : zyin [(74, 39, 41), (74, 43, 43)] a k with
                        | false => rfl
                        | true =>
                          obtain ⟨p0, g1, g2, g3, g4⟩ := zyin_iff.mp hq
                          simp only [List.mem_cons, List.not_mem_nil, or_false] at g1
                          rcases g1 with rfl | rfl
                          · exact absurd ⟨g2.symm, g3, g4⟩ n0
                          · exact absurd ⟨g2.symm, g3, g4⟩ n1
                      have kf : zyFrd E0 E2 := fun a k n1 => (hk a k (fun z => n1 ⟨z.1, by omega⟩) (fun z => n1 ⟨z.1, by omega⟩)).trans (i1 a k n1)
                      obtain ⟨p1, p2, p3⟩ := i4 (by decide)
                      have a1 : ρ2 1 = Int32.ofNat p := (hg 1 (by decide)).trans (i5 (Or.inr rfl))
                      have q1 := zyXb hB 0 rfl
                      have q1 : 2147483649 ≤ zB (ρ2 1) ∧ zB (ρ2 1) ≤ 2147484547 := q1
                      rw [a1, zyBn (by omega)] at q1
                      have m := zyXm hM 0 rfl
                      have m : E2 74 39 = some (.int (ρ2 1 + Int32.ofNat 1)) := m
                      rw [a1, zyOa] at m
                      have m1 := zyXm hM 1 rfl
                      have m1 : E2 74 40 = some (.int (Int32.ofNat 0)) := m1
                      exact ⟨zyvo_0 (show zyvo _ [] vo from hvo), kf, q, p + 1, 0, hq, s1, by omega, by omega, m, by decide, m1, Or.inl rfl⟩
                    · skip
                      have ex := List.mem_singleton.mp hx
                      subst ex
                      obtain ⟨q, p, n, v, hq, s1, i1, i2, i3, i4, i5, i6, i7, i8, i9⟩ := hI
                      have hk : ∀ a k, ¬ (a = 74 ∧ 39 ≤ k ∧ k ≤ 41) → ¬ (a = 74 ∧ 43 ≤ k ∧ k ≤ 43) → E2 a k = E a k := by
                        intro a k n0 n1
                        apply hfr
                        cases hq : zyin [(74, 39, 41), (74, 43, 43)] a k with
                        | false => rfl
                        | true =>
                          obtain ⟨p0, g1, g2, g3, g4⟩ := zyin_iff.mp hq
                          simp only [List.mem_cons, List.not_mem_nil, or_false] at g1
                          rcases g1 with rfl | rfl
                          · exact absurd ⟨g2.symm, g3, g4⟩ n0
                          · exact absurd ⟨g2.symm, g3, g4⟩ n1
                      have kf : zyFrd E0 E2 := fun a k n1 => (hk a k (fun z => n1 ⟨z.1, by omega⟩) (fun z => n1 ⟨z.1, by omega⟩)).trans (i1 a k n1)
                      obtain ⟨p1, p2, p3⟩ := i4 (by decide)
                      have a1 : ρ2 1 = Int32.ofNat p := (hg 1 (by decide)).trans (i5 (Or.inr rfl))
                      have q1 := zyXb hB 0 rfl
                      have q1 : 2147483648 ≤ zB (ρ2 1) ∧ zB (ρ2 1) ≤ 2147484548 := q1
                      rw [a1, zyBn (by omega)] at q1
                      have m := zyXm hM 0 rfl
                      have m : E2 74 39 = some (.int (ρ2 1 + Int32.ofNat 1)) := m
                      rw [a1, zyOa] at m
                      have m1 := zyXm hM 1 rfl
                      have m1 : E2 74 40 = some (.int (Int32.ofNat 0)) := m1
                      exact ⟨zyvo_0 (show zyvo _ [] vo from hvo), kf, q, p + 1, 0, hq, s1, by omega, by omega, m, by decide, m1, Or.inl rfl⟩
    · have hx : x ∈ [zxrds_dr0, zxrds_dr1, zxrds_dr2] := hx
      have hg : ∀ k, k < 2 → ρ2 k = ρ k := hag
      have hI := hInv
      have hI : ∃ q p n v : Nat, zyIrd 4 q p n v E0 ρ E := hI
      obtain ⟨hF, hB, hM⟩ := hXs
      have hfr : ∀ a k, zyin [(74, 39, 39), (74, 43, 43)] a k = false → E2 a k = E a k := hfr
      rcases List.mem_cons.mp hx with ex | hx
      · subst ex
        obtain ⟨q, p, n, v, hq, s1, i1, i2, i3, i4, i5, i6, i7, i8, i9⟩ := hI
        have hk : ∀ a k, ¬ (a = 74 ∧ 39 ≤ k ∧ k ≤ 39) → ¬ (a = 74 ∧ 43 ≤ k ∧ k ≤ 43) → E2 a k = E a k := by
          intro a k n0 n1
          apply hfr
          cases hq : zyin [(74, 39, 39), (74, 43, 43)] a k with
          | false => rfl
          | true =>
            obtain ⟨p0, g1, g2, g3, g4⟩ := zyin_iff.mp hq
            simp only [List.mem_cons, List.not_mem_nil, or_false] at g1
            rcases g1 with rfl | rfl
            · exact absurd ⟨g2.symm, g3, g4⟩ n0
            · exact absurd ⟨g2.symm, g3, g4⟩ n1
        have kf : zyFrd E0 E2 := fun a k n1 => (hk a k (fun z => n1 ⟨z.1, by omega⟩) (fun z => n1 ⟨z.1, by omega⟩)).trans (i1 a k n1)
        obtain ⟨p1, p2, p3⟩ := i4 (by decide)
        obtain ⟨r1, r2, r3⟩ := i6 (by decide)
        have a1 : ρ2 1 = Int32.ofNat n := (hg 1 (by decide)).trans r1
        have hne : ¬ n = p := by
          intro hnp
          obtain ⟨e, vv, c1, c2, c3, c4, c5⟩ := (i7 rfl) hnp
          obtain ⟨n8, u1, u2, u3⟩ := zyXe hF 2 rfl
          have u1 : ρ2 1 = Int32.ofNat n8 := u1
          have u3 : E 84 n8 = some (.int (ρ2 3)) := u3
          rw [a1] at u1
          have e8 := zyOi (by omega) (by omega) u1
          rw [← e8, hnp, c3] at u3
          have u3 := Value.int.inj (Option.some.inj u3)
          have bb := zyXb hB 2 rfl
          have bb : 2147483520 ≤ zB (ρ2 3) ∧ zB (ρ2 3) ≤ 2147483744 := bb
          rw [← u3] at bb
          omega
        have m := zyXm hM 0 rfl
        have m : E2 74 39 = some (.int (ρ2 1)) := m
        rw [a1] at m
        obtain ⟨u, hu, eu⟩ := zc74 hT2 (k := 40) (lo := 2147483648) (hi := 2147483652) (by decide) rfl (by decide) (by decide)
        exact ⟨zyvo_0 (show zyvo _ [] vo from hvo), kf, q, n, u, hq, s1, by omega, by omega, m, by omega, eu, Or.inr ⟨r3, p, by omega, (hk 74 38 (by omega) (by omega)).trans p1⟩⟩
      · skip
        rcases List.mem_cons.mp hx with ex | hx
        · subst ex
          obtain ⟨q, p, n, v, hq, s1, i1, i2, i3, i4, i5, i6, i7, i8, i9⟩ := hI
          have hk : ∀ a k, ¬ (a = 74 ∧ 39 ≤ k ∧ k ≤ 39) → ¬ (a = 74 ∧ 43 ≤ k ∧ k ≤ 43) → E2 a k = E a k := by
            intro a k n0 n1
            apply hfr
            cases hq : zyin [(74, 39, 39), (74, 43, 43)] a k with
            | false => rfl
            | true =>
              obtain ⟨p0, g1, g2, g3, g4⟩ := zyin_iff.mp hq
              simp only [List.mem_cons, List.not_mem_nil, or_false] at g1
              rcases g1 with rfl | rfl
              · exact absurd ⟨g2.symm, g3, g4⟩ n0
              · exact absurd ⟨g2.symm, g3, g4⟩ n1
          have kf : zyFrd E0 E2 := fun a k n1 => (hk a k (fun z => n1 ⟨z.1, by omega⟩) (fun z => n1 ⟨z.1, by omega⟩)).trans (i1 a k n1)
          obtain ⟨p1, p2, p3⟩ := i4 (by decide)
          obtain ⟨r1, r2, r3⟩ := i6 (by decide)
          have a1 : ρ2 1 = Int32.ofNat n := (hg 1 (by decide)).trans r1
          have hne : ¬ n = p := by
            intro hnp
            obtain ⟨e, vv, c1, c2, c3, c4, c5⟩ := (i7 rfl) hnp
            obtain ⟨n8, u1, u2, u3⟩ := zyXe hF 2 rfl
            have u1 : ρ2 1 = Int32.ofNat n8 := u1
            have u3 : E 84 n8 = some (.int (ρ2 3)) := u3
            rw [a1] at u1
            have e8 := zyOi (by omega) (by omega) u1
            rw [← e8, hnp, c3] at u3
            have u3 := Value.int.inj (Option.some.inj u3)
            have bb := zyXb hB 2 rfl
            have bb : 2147483771 ≤ zB (ρ2 3) ∧ zB (ρ2 3) ≤ 2147483775 := bb
            rw [← u3] at bb
            omega
          have m := zyXm hM 0 rfl
          have m : E2 74 39 = some (.int (ρ2 1)) := m
          rw [a1] at m
          obtain ⟨u, hu, eu⟩ := zc74 hT2 (k := 40) (lo := 2147483648) (hi := 2147483652) (by decide) rfl (by decide) (by decide)
          exact ⟨zyvo_0 (show zyvo _ [] vo from hvo), kf, q, n, u, hq, s1, by omega, by omega, m, by omega, eu, Or.inr ⟨r3, p, by omega, (hk 74 38 (by omega) (by omega)).trans p1⟩⟩
        · skip
          have ex := List.mem_singleton.mp hx
          subst ex
          obtain ⟨q, p, n, v, hq, s1, i1, i2, i3, i4, i5, i6, i7, i8, i9⟩ := hI
          have hk : ∀ a k, ¬ (a = 74 ∧ 39 ≤ k ∧ k ≤ 39) → ¬ (a = 74 ∧ 43 ≤ k ∧ k ≤ 43) → E2 a k = E a k := by
            intro a k n0 n1
            apply hfr
            cases hq : zyin [(74, 39, 39), (74, 43, 43)] a k with
            | false => rfl
            | true =>
              obtain ⟨p0, g1, g2, g3, g4⟩ := zyin_iff.mp hq
              simp only [List.mem_cons, List.not_mem_nil, or_false] at g1
              rcases g1 with rfl | rfl
              · exact absurd ⟨g2.symm, g3, g4⟩ n0
              · exact absurd ⟨g2.symm, g3, g4⟩ n1
          have kf : zyFrd E0 E2 := fun a k n1 => (hk a k (fun z => n1 ⟨z.1, by omega⟩) (fun z => n1 ⟨z.1, by omega⟩)).trans (i1 a k n1)
          obtain ⟨p1, p2, p3⟩ := i4 (by decide)
          obtain ⟨r1, r2, r3⟩ := i6 (by decide)
          have a1 : ρ2 1 = Int32.ofNat n := (hg 1 (by decide)).trans r1
          have hne : ¬ n = p := by
            intro hnp
            obtain ⟨e, vv, c1, c2, c3, c4, c5⟩ := (i7 rfl) hnp
            obtain ⟨n9, w1, w2, w3⟩ := zyXe hF 0 rfl
            have w1 : Int32.ofNat 42 = Int32.ofNat n9 := w1
            have w3 : E 74 n9 = some (.int (ρ2 2)) := w3
            have e9 := zyOi (by omega) (by omega) w1
            subst e9
            rw [c1] at w3
            have w3 := Value.int.inj (Option.some.inj w3)
            have lt := zyX21 hF 1 rfl
            have lt : ¬ ρ2 1 < ρ2 2 := lt
            rw [a1, ← w3, hnp] at lt
            exact lt c2
          have m := zyXm hM 0 rfl
          have m : E2 74 39 = some (.int (ρ2 1)) := m
          rw [a1] at m
          obtain ⟨u, hu, eu⟩ := zc74 hT2 (k := 40) (lo := 2147483648) (hi := 2147483652) (by decide) rfl (by decide) (by decide)
          exact ⟨zyvo_0 (show zyvo _ [] vo from hvo), kf, q, n, u, hq, s1, by omega, by omega, m, by omega, eu, Or.inr ⟨r3, p, by omega, (hk 74 38 (by omega) (by omega)).trans p1⟩⟩
    · have hx : x ∈ [zxrds_er0, zxrds_er1, zxrds_er2, zxrds_er3, zxrds_er4, zxrds_er5] := hx
      have hg : ∀ k, k < 3 → ρ2 k = ρ k := hag
      have hI := hInv
      have hI : ∃ q p n v : Nat, zyIrd 5 q p n v E0 ρ E := hI
      obtain ⟨hF, hB, hM⟩ := hXs
      have hfr : ∀ a k, zyin [(74, 39, 41)] a k = false → E2 a k = E a k := hfr
      rcases List.mem_cons.mp hx with ex | hx
      · subst ex
        obtain ⟨q, p, n, v, hq, s1, i1, i2, i3, i4, i5, i6, i7, i8, i9⟩ := hI
        have hk : ∀ a k, ¬ (a = 74 ∧ 39 ≤ k ∧ k ≤ 41) → E2 a k = E a k := by
          intro a k n0
          apply hfr
          cases hq : zyin [(74, 39, 41)] a k with
          | false => rfl
          | true =>
            obtain ⟨p0, g1, g2, g3, g4⟩ := zyin_iff.mp hq
            simp only [List.mem_cons, List.not_mem_nil, or_false] at g1
            rcases g1 with rfl
            · exact absurd ⟨g2.symm, g3, g4⟩ n0
        have kf : zyFrd E0 E2 := fun a k n1 => (hk a k (fun z => n1 ⟨z.1, by omega⟩)).trans (i1 a k n1)
        obtain ⟨p1, p2, p3⟩ := i4 (by decide)
        obtain ⟨r1, r2, r3⟩ := i6 (by decide)
        have a1 : ρ2 1 = Int32.ofNat n := (hg 1 (by decide)).trans r1
        have hne : ¬ n = p := by
          intro hnp
          obtain ⟨e, vv, c1, c2, c3, c4, c5⟩ := (i8 rfl).1 hnp
          obtain ⟨n8, u1, u2, u3⟩ := zyXe hF 2 rfl
          have u1 : ρ2 1 = Int32.ofNat n8 := u1
          have u3 : E 84 n8 = some (.int (ρ2 4)) := u3
          rw [a1] at u1
          have e8 := zyOi (by omega) (by omega) u1
          rw [← e8, hnp, c3] at u3
          have u3 := Value.int.inj (Option.some.inj u3)
          have bb := zyXb hB 2 rfl
          have bb : 2147483520 ≤ zB (ρ2 4) ∧ zB (ρ2 4) ≤ 2147483695 := bb
          rw [← u3] at bb
          omega
        have m := zyXm hM 0 rfl
        have m : E2 74 39 = some (.int (ρ2 1)) := m
        rw [a1] at m
        obtain ⟨u, hu, eu⟩ := zc74 hT2 (k := 40) (lo := 2147483648) (hi := 2147483652) (by decide) rfl (by decide) (by decide)
        exact ⟨zyvo_0 (show zyvo _ [] vo from hvo), kf, q, n, u, hq, s1, by omega, by omega, m, by omega, eu, Or.inr ⟨r3, p, by omega, (hk 74 38 (by omega)).trans p1⟩⟩
      · skip
        rcases List.mem_cons.mp hx with ex | hx
        · subst ex
          obtain ⟨q, p, n, v, hq, s1, i1, i2, i3, i4, i5, i6, i7, i8, i9⟩ := hI
          have hk : ∀ a k, ¬ (a = 74 ∧ 39 ≤ k ∧ k ≤ 41) → E2 a k = E a k := by
            intro a k n0
            apply hfr
            cases hq : zyin [(74, 39, 41)] a k with
            | false => rfl
            | true =>
              obtain ⟨p0, g1, g2, g3, g4⟩ := zyin_iff.mp hq
              simp only [List.mem_cons, List.not_mem_nil, or_false] at g1
              rcases g1 with rfl
              · exact absurd ⟨g2.symm, g3, g4⟩ n0
          have kf : zyFrd E0 E2 := fun a k n1 => (hk a k (fun z => n1 ⟨z.1, by omega⟩)).trans (i1 a k n1)
          obtain ⟨p1, p2, p3⟩ := i4 (by decide)
          obtain ⟨r1, r2, r3⟩ := i6 (by decide)
          have a1 : ρ2 1 = Int32.ofNat n := (hg 1 (by decide)).trans r1
          have hne : ¬ n = p := by
            intro hnp
            obtain ⟨e, vv, c1, c2, c3, c4, c5⟩ := (i8 rfl).1 hnp
            obtain ⟨n8, u1, u2, u3⟩ := zyXe hF 2 rfl
            have u1 : ρ2 1 = Int32.ofNat n8 := u1
            have u3 : E 84 n8 = some (.int (ρ2 4)) := u3
            rw [a1] at u1
            have e8 := zyOi (by omega) (by omega) u1
            rw [← e8, hnp, c3] at u3
            have u3 := Value.int.inj (Option.some.inj u3)
            have bb := zyXb hB 2 rfl
            have bb : 2147483520 ≤ zB (ρ2 4) ∧ zB (ρ2 4) ≤ 2147483695 := bb
            rw [← u3] at bb
            omega
          have m := zyXm hM 0 rfl
          have m : E2 74 39 = some (.int (ρ2 1)) := m
          rw [a1] at m
          obtain ⟨u, hu, eu⟩ := zc74 hT2 (k := 40) (lo := 2147483648) (hi := 2147483652) (by decide) rfl (by decide) (by decide)
          exact ⟨zyvo_0 (show zyvo _ [] vo from hvo), kf, q, n, u, hq, s1, by omega, by omega, m, by omega, eu, Or.inr ⟨r3, p, by omega, (hk 74 38 (by omega)).trans p1⟩⟩
        · skip
          rcases List.mem_cons.mp hx with ex | hx
          · subst ex
            obtain ⟨q, p, n, v, hq, s1, i1, i2, i3, i4, i5, i6, i7, i8, i9⟩ := hI
            have hk : ∀ a k, ¬ (a = 74 ∧ 39 ≤ k ∧ k ≤ 41) → E2 a k = E a k := by
              intro a k n0
              apply hfr
              cases hq : zyin [(74, 39, 41)] a k with
              | false => rfl
              | true =>
                obtain ⟨p0, g1, g2, g3, g4⟩ := zyin_iff.mp hq
                simp only [List.mem_cons, List.not_mem_nil, or_false] at g1
                rcases g1 with rfl
                · exact absurd ⟨g2.symm, g3, g4⟩ n0
            have kf : zyFrd E0 E2 := fun a k n1 => (hk a k (fun z => n1 ⟨z.1, by omega⟩)).trans (i1 a k n1)
            obtain ⟨p1, p2, p3⟩ := i4 (by decide)
            obtain ⟨r1, r2, r3⟩ := i6 (by decide)
            have a1 : ρ2 1 = Int32.ofNat n := (hg 1 (by decide)).trans r1
            have hne : ¬ n = p := by
              intro hnp
              obtain ⟨e, vv, c1, c2, c3, c4, c5⟩ := (i8 rfl).1 hnp
              obtain ⟨n8, u1, u2, u3⟩ := zyXe hF 2 rfl
              have u1 : ρ2 1 = Int32.ofNat n8 := u1
              have u3 : E 84 n8 = some (.int (ρ2 4)) := u3
              rw [a1] at u1
              have e8 := zyOi (by omega) (by omega) u1
              rw [← e8, hnp, c3] at u3
              have u3 := Value.int.inj (Option.some.inj u3)
              have bb := zyXb hB 2 rfl
              have bb : 2147483706 ≤ zB (ρ2 4) ∧ zB (ρ2 4) ≤ 2147483775 := bb
              rw [← u3] at bb
              omega
            have m := zyXm hM 0 rfl
            have m : E2 74 39 = some (.int (ρ2 1)) := m
            rw [a1] at m
            obtain ⟨u, hu, eu⟩ := zc74 hT2 (k := 40) (lo := 2147483648) (hi := 2147483652) (by decide) rfl (by decide) (by decide)
            exact ⟨zyvo_0 (show zyvo _ [] vo from hvo), kf, q, n, u, hq, s1, by omega, by omega, m, by omega, eu, Or.inr ⟨r3, p, by omega, (hk 74 38 (by omega)).trans p1⟩⟩
          · skip
            rcases List.mem_cons.mp hx with ex | hx
            · subst ex
              obtain ⟨q, p, n, v, hq, s1, i1, i2, i3, i4, i5, i6, i7, i8, i9⟩ := hI
              have hk : ∀ a k, ¬ (a = 74 ∧ 39 ≤ k ∧ k ≤ 41) → E2 a k = E a k := by
                intro a k n0
                apply hfr
                cases hq : zyin [(74, 39, 41)] a k with
                | false => rfl
                | true =>
                  obtain ⟨p0, g1, g2, g3, g4⟩ := zyin_iff.mp hq
                  simp only [List.mem_cons, List.not_mem_nil, or_false] at g1
                  rcases g1 with rfl
                  · exact absurd ⟨g2.symm, g3, g4⟩ n0
              have kf : zyFrd E0 E2 := fun a k n1 => (hk a k (fun z => n1 ⟨z.1, by omega⟩)).trans (i1 a k n1)
              obtain ⟨p1, p2, p3⟩ := i4 (by decide)
              obtain ⟨r1, r2, r3⟩ := i6 (by decide)
              have a1 : ρ2 1 = Int32.ofNat n := (hg 1 (by decide)).trans r1
              have hne : ¬ n = p := by
                intro hnp
                obtain ⟨e, vv, c1, c2, c3, c4, c5⟩ := (i8 rfl).1 hnp
                obtain ⟨n8, u1, u2, u3⟩ := zyXe hF 2 rfl
                have u1 : ρ2 1 = Int32.ofNat n8 := u1
                have u3 : E 84 n8 = some (.int (ρ2 4)) := u3
                rw [a1] at u1
                have e8 := zyOi (by omega) (by omega) u1
                rw [← e8, hnp, c3] at u3
                have u3 := Value.int.inj (Option.some.inj u3)
                have bb := zyXb hB 2 rfl
                have bb : 2147483706 ≤ zB (ρ2 4) ∧ zB (ρ2 4) ≤ 2147483775 := bb
                rw [← u3] at bb
                omega
              have m := zyXm hM 0 rfl
              have m : E2 74 39 = some (.int (ρ2 1)) := m
              rw [a1] at m
              obtain ⟨u, hu, eu⟩ := zc74 hT2 (k := 40) (lo := 2147483648) (hi := 2147483652) (by decide) rfl (by decide) (by decide)
              exact ⟨zyvo_0 (show zyvo _ [] vo from hvo), kf, q, n, u, hq, s1, by omega, by omega, m, by omega, eu, Or.inr ⟨r3, p, by omega, (hk 74 38 (by omega)).trans p1⟩⟩
            · skip
              rcases List.mem_cons.mp hx with ex | hx
              · subst ex
                obtain ⟨q, p, n, v, hq, s1, i1, i2, i3, i4, i5, i6, i7, i8, i9⟩ := hI
                have hk : ∀ a k, ¬ (a = 74 ∧ 39 ≤ k ∧ k ≤ 41) → E2 a k = E a k := by
                  intro a k n0
                  apply hfr
                  cases hq : zyin [(74, 39, 41)] a k with
                  | false => rfl
                  | true =>
                    obtain ⟨p0, g1, g2, g3, g4⟩ := zyin_iff.mp hq
                    simp only [List.mem_cons, List.not_mem_nil, or_false] at g1
                    rcases g1 with rfl
                    · exact absurd ⟨g2.symm, g3, g4⟩ n0
                have kf : zyFrd E0 E2 := fun a k n1 => (hk a k (fun z => n1 ⟨z.1, by omega⟩)).trans (i1 a k n1)
                obtain ⟨p1, p2, p3⟩ := i4 (by decide)
                obtain ⟨r1, r2, r3⟩ := i6 (by decide)
                have a1 : ρ2 1 = Int32.ofNat n := (hg 1 (by decide)).trans r1
                have hne : ¬ n = p := by
                  intro hnp
                  obtain ⟨e, vv, c1, c2, c3, c4, c5⟩ := (i8 rfl).1 hnp
                  obtain ⟨n9, w1, w2, w3⟩ := zyXe hF 0 rfl
                  have w1 : Int32.ofNat 42 = Int32.ofNat n9 := w1
                  have w3 : E 74 n9 = some (.int (ρ2 3)) := w3
                  have e9 := zyOi (by omega) (by omega) w1
                  subst e9
                  rw [c1] at w3
                  have w3 := Value.int.inj (Option.some.inj w3)
                  have lt := zyX21 hF 1 rfl
                  have lt : ¬ ρ2 1 < ρ2 3 := lt
                  rw [a1, ← w3, hnp] at lt
                  exact lt c2
                have m := zyXm hM 0 rfl
                have m : E2 74 39 = some (.int (ρ2 1)) := m
                rw [a1] at m
                obtain ⟨u, hu, eu⟩ := zc74 hT2 (k := 40) (lo := 2147483648) (hi := 2147483652) (by decide) rfl (by decide) (by decide)
                exact ⟨zyvo_0 (show zyvo _ [] vo from hvo), kf, q, n, u, hq, s1, by omega, by omega, m, by omega, eu, Or.inr ⟨r3, p, by omega, (hk 74 38 (by omega)).trans p1⟩⟩
              · skip
                have ex := List.mem_singleton.mp hx
                subst ex
                obtain ⟨q, p, n, v, hq, s1, i1, i2, i3, i4, i5, i6, i7, i8, i9⟩ := hI
                have hk : ∀ a k, ¬ (a = 74 ∧ 39 ≤ k ∧ k ≤ 41) → E2 a k = E a k := by
                  intro a k n0
                  apply hfr
                  cases hq : zyin [(74, 39, 41)] a k with
                  | false => rfl
                  | true =>
                    obtain ⟨p0, g1, g2, g3, g4⟩ := zyin_iff.mp hq
                    simp only [List.mem_cons, List.not_mem_nil, or_false] at g1
                    rcases g1 with rfl
                    · exact absurd ⟨g2.symm, g3, g4⟩ n0
                have kf : zyFrd E0 E2 := fun a k n1 => (hk a k (fun z => n1 ⟨z.1, by omega⟩)).trans (i1 a k n1)
                obtain ⟨p1, p2, p3⟩ := i4 (by decide)
                obtain ⟨r1, r2, r3⟩ := i6 (by decide)
                have a1 : ρ2 1 = Int32.ofNat n := (hg 1 (by decide)).trans r1
                have hne : ¬ n = p := by
                  intro hnp
                  obtain ⟨e, vv, c1, c2, c3, c4, c5⟩ := (i8 rfl).1 hnp
                  obtain ⟨n9, w1, w2, w3⟩ := zyXe hF 0 rfl
                  have w1 : Int32.ofNat 42 = Int32.ofNat n9 := w1
                  have w3 : E 74 n9 = some (.int (ρ2 3)) := w3
                  have e9 := zyOi (by omega) (by omega) w1
                  subst e9
                  rw [c1] at w3
                  have w3 := Value.int.inj (Option.some.inj w3)
                  have lt := zyX21 hF 1 rfl
                  have lt : ¬ ρ2 1 < ρ2 3 := lt
                  rw [a1, ← w3, hnp] at lt
                  exact lt c2
                have m := zyXm hM 0 rfl
                have m : E2 74 39 = some (.int (ρ2 1)) := m
                rw [a1] at m
                obtain ⟨u, hu, eu⟩ := zc74 hT2 (k := 40) (lo := 2147483648) (hi := 2147483652) (by decide) rfl (by decide) (by decide)
                exact ⟨zyvo_0 (show zyvo _ [] vo from hvo), kf, q, n, u, hq, s1, by omega, by omega, m, by omega, eu, Or.inr ⟨r3, p, by omega, (hk 74 38 (by omega)).trans p1⟩⟩
    · cases hx
