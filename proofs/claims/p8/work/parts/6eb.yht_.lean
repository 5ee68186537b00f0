section
/-! isSign, takes, takesNumber -/
def zPn (E : zyEm) : Prop := ∀ u : Nat, u ≤ 4 → E 74 40 = some (.int (Int32.ofNat u)) → u = 0 ∨ ((∃ n : Nat, n ≤ 900 ∧ E 74 39 = some (.int (Int32.ofNat n))) ∧ ∃ p : Nat, p ≤ 899 ∧ E 74 38 = some (.int (Int32.ofNat p)))
theorem zPn_fr {E E2 : zyEm} (h : ∀ k, 38 ≤ k → k ≤ 40 → E2 74 k = E 74 k) (hP : zPn E) : zPn E2 := by
  intro u hu e
  rw [h 40 (by omega) (by omega)] at e
  rcases hP u hu e with q | ⟨⟨n, q1, q2⟩, p, q3, q4⟩
  · exact Or.inl q
  · exact Or.inr ⟨⟨n, q1, (h 39 (by omega) (by omega)).trans q2⟩, p, q3, (h 38 (by omega) (by omega)).trans q4⟩
theorem zPn_rd {E E2 : zyEm} {vo : Option Value} {as : List Int32} (h : zyΨrd as E E2 vo) : zPn E2 := by
  obtain ⟨-, -, q, n, u, h1, h2, h3, h4, h5, h6, h7, h8⟩ := h
  intro u' hu' e
  rw [h7] at e
  have e := zyOi (by omega) (by omega) (Value.int.inj (Option.some.inj e))
  subst e
  rcases h8 with q | ⟨q1, p, q2, q3⟩
  · exact Or.inl q
  · exact Or.inr ⟨⟨n, q1, h5⟩, p, q2, q3⟩
def zyΦsg (as : List Int32) (E : zyEm) : Prop := zPn E ∧ ∃ x : Int32, as = [x]
def zyΨsg (_ : List Int32) (E E2 : zyEm) (vo : Option Value) : Prop := E2 = E ∧ ∃ z : Int32, vo = some (.int z) ∧ (z = 0 ∨ z = 1) ∧ (z = 1 → E 74 36 = some (.int (Int32.ofNat 0)) ∧ E 74 40 = some (.int (Int32.ofNat 3)))
theorem zyisg_run : zyrS zymx zxi317 (317, 0, 0, 2, 0) 2 zpisg (fun _ _ => []) zFisg zSisg zXisg zRisg 2 = true := by decide +kernel
theorem zyisSign {l : Launch} {en : zEn} {me : zMe} (hen : zG zxMeta 317 = some en) (hme : zG zMeth 317 = some me) : zyHc l zymx en me 2 1 zyΦsg zyΨsg := by
  have een : zG zxMeta 317 = some (zxi317, 2, 2, 11, 317, 0, 0, 2, 0) := rfl
  obtain ⟨me1, hme1, hOK⟩ := zall hen
  rw [hme] at hme1
  cases hme1
  rw [een] at hen
  cases hen
  have hr := zyisg_run
  refine zycutS (mi := zymx) hOK rfl rfl ⟨_, rfl, rfl⟩ (ι := Fin 2) (fun i => zpisg i.val) (fun _ _ => []) (fun i => zFisg i.val) (fun i => zSisg i.val) (fun i => zXisg i.val) (fun i => zRisg i.val) (fun i y2 ct en2 me2 h => by cases h) 200000 (fun i => zyAll_iff hr i.val i.isLt) ⟨0, by decide⟩ ⟨rfl, rfl, rfl, rfl⟩ ⟨by decide, by decide⟩
    (fun i as E0 ρ E => zPn E0 ∧ E = E0 ∧ (i.val = 1 → E0 74 36 = some (.int (Int32.ofNat 0)) ∧ E0 74 40 = some (.int (Int32.ofNat 3)) ∧ ∃ p : Nat, p ≤ 899 ∧ ρ 2 = Int32.ofNat p)) (fun i as E0 ρ E => 1 - i.val) ?_ ?_ ?_
  · intro as E hlen hT hΦ
    obtain ⟨hP, x, rfl⟩ := hΦ
    exact ⟨zEnv_c (zyfull _) (zEnv_c (zyfull _) zEnv_nil), hP, rfl, fun h => absurd (show 0 = 1 from h) (by decide)⟩
  · intro as B s Wg hRu hT0 hΦ hlen i ρ H hT hInv hIH x hx ρ2 N2 H2 locs lsB stA hAt hXs hag hfr hT2
    rcases i with ⟨i, hi⟩
    have hi2 : i = 0 ∨ i = 1 := by omega
    rcases hi2 with rfl | rfl
    · have hx : x ∈ [zxisg_ax0] := hx
      have hg : ∀ k, k < 2 → ρ2 k = ρ k := hag
      have hI := hInv
      have hI : zPn (zyEl zymx B s.heap) ∧ (zyEl zymx B H) = (zyEl zymx B s.heap) ∧ (0 = 1 → (zyEl zymx B s.heap) 74 36 = some (.int (Int32.ofNat 0)) ∧ (zyEl zymx B s.heap) 74 40 = some (.int (Int32.ofNat 3)) ∧ ∃ p : Nat, p ≤ 899 ∧ ρ 2 = Int32.ofNat p) := hI
      obtain ⟨hF, hB, hM⟩ := hXs
      have hEE : (zyEl zymx B H2) = (zyEl zymx B H) := zyfr0 hfr
      have ex := List.mem_singleton.mp hx
      subst ex
      obtain ⟨hP, i1, -⟩ := hI
      obtain ⟨na, ua1, ua2, ua3⟩ := zyXe hF 0 rfl
      have ua1 : Int32.ofNat 36 = Int32.ofNat na := ua1
      have ua3 : (zyEl zymx B H) 74 na = some (.int (ρ2 2)) := ua3
      have ea := zyOi (by omega) (by omega) ua1
      subst ea
      obtain ⟨nb, ub1, ub2, ub3⟩ := zyXe hF 2 rfl
      have ub1 : Int32.ofNat 40 = Int32.ofNat nb := ub1
      have ub3 : (zyEl zymx B H) 74 nb = some (.int (ρ2 3)) := ub3
      have eb := zyOi (by omega) (by omega) ub1
      subst eb
      have f1 := zyX22 hF 1 rfl
      have f1 : ρ2 2 = Int32.ofNat 0 := f1
      have f3 := zyX22 hF 3 rfl
      have f3 : ρ2 3 = Int32.ofNat 3 := f3
      rw [f1, i1] at ua3
      rw [f3, i1] at ub3
      rcases hP 3 (by decide) ub3 with q | ⟨-, p, hp, ep⟩
      · cases q
      refine zyGoKi hIH hAt hB ⟨1, by decide⟩ [595, 34359738369] [(0, 4294967295), (0, 4294967295)] 2147483648 2147484547 rfl (by decide) rfl rfl rfl (74 * 16384 + 38) zymr74 rfl rfl (show 38 < 49 by decide) (Int32.ofNat p) ?_ ?_ ⟨hP, hEE.trans i1, fun _ => ⟨ua3, ub3, p, hp, zyρi_e⟩⟩ (show 1 - 1 < 1 - 0 by decide)
      · show zyEl zymx B H2 74 38 = _
        rw [hEE, i1]
        exact ep
      · rw [zyBn (by omega)]
        omega
    · cases hx
  · intro as E0 E E2 hT0 hΦ hlen i ρ hT hInv x hx ρ2 N2 B vo hXs hag hfr hT2 hvo
    rcases i with ⟨i, hi⟩
    have hi2 : i = 0 ∨ i = 1 := by omega
    rcases hi2 with rfl | rfl
    · have hx : x ∈ [zxisg_ar0] := hx
      have hg : ∀ k, k < 2 → ρ2 k = ρ k := hag
      have hI := hInv
      have hI : zPn E0 ∧ E = E0 ∧ (0 = 1 → E0 74 36 = some (.int (Int32.ofNat 0)) ∧ E0 74 40 = some (.int (Int32.ofNat 3)) ∧ ∃ p : Nat, p ≤ 899 ∧ ρ 2 = Int32.ofNat p) := hI
      obtain ⟨hF, hB, hM⟩ := hXs
      have hEE : E2 = E := zyfr0 hfr
      have ex := List.mem_singleton.mp hx
      subst ex
      obtain ⟨hP, i1, -⟩ := hI
      exact ⟨hEE.trans i1, Int32.ofNat 0, zyvo_1 (c := 0) (by decide) (show zyvo (zyXn B ρ2 N2) [0] vo from hvo), Or.inl rfl, fun h => absurd (show Int32.ofNat 0 = 1 from h) (by decide)⟩
    · have hx : x ∈ [zxisg_br0, zxisg_br1] := hx
      have hg : ∀ k, k < 3 → ρ2 k = ρ k := hag
      have hI := hInv
      have hI : zPn E0 ∧ E = E0 ∧ (1 = 1 → E0 74 36 = some (.int (Int32.ofNat 0)) ∧ E0 74 40 = some (.int (Int32.ofNat 3)) ∧ ∃ p : Nat, p ≤ 899 ∧ ρ 2 = Int32.ofNat p) := hI
      obtain ⟨hF, hB, hM⟩ := hXs
      have hEE : E2 = E := zyfr0 hfr
      rcases List.mem_cons.mp hx with ex | hx
      · subst ex
        obtain ⟨hP, i1, i2⟩ := hI
        exact ⟨hEE.trans i1, Int32.ofNat 0, zyvo_1 (c := 0) (by decide) (show zyvo (zyXn B ρ2 N2) [0] vo from hvo), Or.inl rfl, fun h => absurd (show Int32.ofNat 0 = 1 from h) (by decide)⟩
      · skip
        have ex := List.mem_singleton.mp hx
        subst ex
        obtain ⟨hP, i1, i2⟩ := hI
        obtain ⟨a1, a2, -⟩ := i2 rfl
        exact ⟨hEE.trans i1, Int32.ofNat 1, zyvo_1 (c := 8) (by decide) (show zyvo (zyXn B ρ2 N2) [8] vo from hvo), Or.inr rfl, fun _ => ⟨a1, a2⟩⟩
def zyFtk (E E2 : zyEm) : Prop := ∀ a k, ¬ (a = 74 ∧ ((36 ≤ k ∧ k ≤ 41) ∨ k = 43)) → E2 a k = E a k
def zyΦtk (as : List Int32) (E : zyEm) : Prop := zPn E ∧ ∃ g w : Nat, as = [Int32.ofNat g] ∧ g ≤ 1 ∧ w ≤ 9 ∧ E 74 36 = some (.int (Int32.ofNat w)) ∧ (g = 1 → w = 0 → ¬ E 74 40 = some (.int (Int32.ofNat 0)))
def zyΨtk (as : List Int32) (E E2 : zyEm) (vo : Option Value) : Prop := vo = none ∧ zyFtk E E2 ∧ zPn E2 ∧ ∃ n n' w w' g : Nat, as = [Int32.ofNat g] ∧ E 74 39 = some (.int (Int32.ofNat n)) ∧ E2 74 39 = some (.int (Int32.ofNat n')) ∧ n ≤ n' ∧ n' ≤ 901 ∧ E 74 36 = some (.int (Int32.ofNat w)) ∧ E2 74 36 = some (.int (Int32.ofNat w')) ∧ w' ≤ 9 ∧ (w' = 0 → n < n' ∧ g = 1 ∧ w = 0)
theorem zyFtk_rd {E E1 E2 : zyEm} (h1 : zyFtk E E1) (h2 : zyFrd E1 E2) : zyFtk E E2 := fun a k n => (h2 a k (fun z => n ⟨z.1, by omega⟩)).trans (h1 a k n)
theorem zytks_run : zyrS zymx zxi318 (318, 0, 0, 0, 0) 4 zptks (fun _ _ => []) zFtks zStks zXtks zRtks 3 = true := by decide +kernel
theorem zytakes {l : Launch} {en : zEn} {me : zMe} (hen : zG zxMeta 318 = some en) (hme : zG zMeth 318 = some me) : zyHc l zymx en me 4 1 zyΦtk zyΨtk := by
  have een : zG zxMeta 318 = some (zxi318, 2, 2, 11, 318, 0, 0, 0, 0) := rfl
  obtain ⟨me1, hme1, hOK⟩ := zall hen
  rw [hme] at hme1
  cases hme1
  rw [een] at hen
  cases hen
  have hr := zytks_run
  obtain ⟨merd, hmerd, -⟩ := zall (show zG zxMeta 314 = some (zxi314, 1, 1, 11, 314, 0, 0, 0, 0) from rfl)
  have hrd := zyreads (l := l) (show zG zxMeta 314 = some (zxi314, 1, 1, 11, 314, 0, 0, 0, 0) from rfl) hmerd
  refine zycutS (mi := zymx) hOK rfl rfl ⟨_, rfl, rfl⟩ (ι := Fin 3) (fun i => zptks i.val) (fun _ _ => []) (fun i => zFtks i.val) (fun i => zStks i.val) (fun i => zXtks i.val) (fun i => zRtks i.val) (fun i y2 ct en2 me2 h => by cases h) 200000 (fun i => zyAll_iff hr i.val i.isLt) ⟨0, by decide⟩ ⟨rfl, rfl, rfl, rfl⟩ ⟨by decide, by decide⟩
    (fun i as E0 ρ E => ∃ g w n : Nat, as = [Int32.ofNat g] ∧ g ≤ 1 ∧ w ≤ 9 ∧ E0 74 36 = some (.int (Int32.ofNat w)) ∧ E0 74 39 = some (.int (Int32.ofNat n)) ∧ n ≤ 901 ∧ zPn E0 ∧ (g = 1 → w = 0 → ¬ E0 74 40 = some (.int (Int32.ofNat 0))) ∧ (i.val ≤ 1 → E = E0) ∧ (i.val ≤ 1 → ρ 1 = Int32.ofNat g) ∧ (i.val = 1 → ρ 2 = Int32.ofNat w) ∧ (i.val = 2 → zyFtk E0 E ∧ zPn E ∧ g = 1 ∧ w = 0 ∧ E 74 36 = some (.int (Int32.ofNat 0)) ∧ ∃ n' : Nat, n < n' ∧ n' ≤ 901 ∧ E 74 39 = some (.int (Int32.ofNat n')))) (fun i as E0 ρ E => 2 - i.val) ?_ ?_ ?_
  · intro as E hlen hT hΦ
    obtain ⟨hP, g, w, rfl, hg1, hw, s1, hq⟩ := hΦ
    obtain ⟨n, hn, s2⟩ := zc74 hT (k := 39) (lo := 2147483648) (hi := 2147484549) (by decide) rfl (by decide) (by decide)
    exact ⟨zEnv_c (zyfull _) (zEnv_c ⟨show 2147483648 ≤ zB (Int32.ofNat g) by rw [zyBn (by omega)]; omega, show zB (Int32.ofNat g) ≤ 2147483649 by rw [zyBn (by omega)]; omega⟩ zEnv_nil), g, w, n, rfl, hg1, hw, s1, s2, by omega, hP, hq, fun _ => rfl, fun _ => rfl, fun h => absurd (show 0 = 1 from h) (by decide), fun h => absurd (show 0 = 2 from h) (by decide)⟩
  · intro as B s Wg hRu hT0 hΦ hlen i ρ H hT hInv hIH x hx ρ2 N2 H2 locs lsB stA hAt hXs hag hfr hT2
    rcases i with ⟨i, hi⟩
    have hi2 : i = 0 ∨ i = 1 ∨ i = 2 := by omega
    rcases hi2 with rfl | rfl | rfl
    · have hx : x ∈ [zxtks_zx0] := hx
      have hg : ∀ k, k < 2 → ρ2 k = ρ k := hag
      have hI := hInv
      have hI : ∃ g w n : Nat, as = [Int32.ofNat g] ∧ g ≤ 1 ∧ w ≤ 9 ∧ (zyEl zymx B s.heap) 74 36 = some (.int (Int32.ofNat w)) ∧ (zyEl zymx B s.heap) 74 39 = some (.int (Int32.ofNat n)) ∧ n ≤ 901 ∧ zPn (zyEl zymx B s.heap) ∧ (g = 1 → w = 0 → ¬ (zyEl zymx B s.heap) 74 40 = some (.int (Int32.ofNat 0))) ∧ (0 ≤ 1 → (zyEl zymx B H) = (zyEl zymx B s.heap)) ∧ (0 ≤ 1 → ρ 1 = Int32.ofNat g) ∧ (0 = 1 → ρ 2 = Int32.ofNat w) ∧ (0 = 2 → zyFtk (zyEl zymx B s.heap) (zyEl zymx B H) ∧ zPn (zyEl zymx B H) ∧ g = 1 ∧ w = 0 ∧ (zyEl zymx B H) 74 36 = some (.int (Int32.ofNat 0)) ∧ ∃ n' : Nat, n < n' ∧ n' ≤ 901 ∧ (zyEl zymx B H) 74 39 = some (.int (Int32.ofNat n'))) := hI
      obtain ⟨hF, hB, hM⟩ := hXs
      have hEE : (zyEl zymx B H2) = (zyEl zymx B H) := zyfr0 hfr
      have ex := List.mem_singleton.mp hx
      subst ex
      obtain ⟨g, w, n, has, hg1, hw, s1, s2, hn, hP, hq, i1, ir, i2, i3⟩ := hI
      have ea := i1 (by decide)
      refine zyGoKi hIH hAt hB ⟨1, by decide⟩ [595, 34359738369] [(0, 4294967295), (2147483648, 2147483649)] 2147483648 2147483657 rfl (by decide) rfl rfl rfl (74 * 16384 + 36) zymr74 rfl rfl (show 36 < 49 by decide) (Int32.ofNat w) ?_ ?_ ⟨g, w, n, has, hg1, hw, s1, s2, hn, hP, hq, fun _ => hEE.trans ea, fun _ => (zyρi_n (by decide)).trans ((hg 1 (by decide)).trans (ir (by decide))), fun _ => zyρi_e, fun h => absurd (show 1 = 2 from h) (by decide)⟩ (show 2 - 1 < 2 - 0 by decide)
      · show zyEl zymx B H2 74 36 = _
        rw [hEE, ea]
        exact s1
      · rw [zyBn (by omega)]
        omega
    · have hx : x ∈ [zxtks_ax0] := hx
      have hg : ∀ k, k < 3 → ρ2 k = ρ k := hag
      have hI := hInv
      have hI : ∃ g w n : Nat, as = [Int32.ofNat g] ∧ g ≤ 1 ∧ w ≤ 9 ∧ (zyEl zymx B s.heap) 74 36 = some (.int (Int32.ofNat w)) ∧ (zyEl zymx B s.heap) 74 39 = some (.int (Int32.ofNat n)) ∧ n ≤ 901 ∧ zPn (zyEl zymx B s.heap) ∧ (g = 1 → w = 0 → ¬ (zyEl zymx B s.heap) 74 40 = some (.int (Int32.ofNat 0))) ∧ (1 ≤ 1 → (zyEl zymx B H) = (zyEl zymx B s.heap)) ∧ (1 ≤ 1 → ρ 1 = Int32.ofNat g) ∧ (1 = 1 → ρ 2 = Int32.ofNat w) ∧ (1 = 2 → zyFtk (zyEl zymx B s.heap) (zyEl zymx B H) ∧ zPn (zyEl zymx B H) ∧ g = 1 ∧ w = 0 ∧ (zyEl zymx B H) 74 36 = some (.int (Int32.ofNat 0)) ∧ ∃ n' : Nat, n < n' ∧ n' ≤ 901 ∧ (zyEl zymx B H) 74 39 = some (.int (Int32.ofNat n'))) := hI
      obtain ⟨hF, hB, hM⟩ := hXs
      have hfr : ∀ a k, zyin [(74, 36, 37)] a k = false → (zyEl zymx B H2) a k = (zyEl zymx B H) a k := hfr
      have ex := List.mem_singleton.mp hx
      subst ex
      obtain ⟨g, w, n, has, hg1, hw, s1, s2, hn, hP, hq, i1, ir, i2, i3⟩ := hI
      have ea := i1 (by decide)
      have a1 : ρ2 1 = Int32.ofNat g := (hg 1 (by decide)).trans (ir (by decide))
      have a2 : ρ2 2 = Int32.ofNat w := (hg 2 (by decide)).trans (i2 rfl)
      have hk : ∀ a k, ¬ (a = 74 ∧ 36 ≤ k ∧ k ≤ 37) → (zyEl zymx B H2) a k = (zyEl zymx B H) a k := by
        intro a k n0
        apply hfr
        cases hq : zyin [(74, 36, 37)] a k with
        | false => rfl
        | true =>
          obtain ⟨p0, g1, g2, g3, g4⟩ := zyin_iff.mp hq
          simp only [List.mem_cons, List.not_mem_nil, or_false] at g1
          rcases g1 with rfl
          · exact absurd ⟨g2.symm, g3, g4⟩ n0
      have f0 := zyX23 hF 0 rfl
      have f0 : ¬ ρ2 1 = Int32.ofNat 0 := f0
      have gg : g = 1 := by
        have : ¬ g = 0 := fun q => f0 (by rw [a1, q])
        omega
      have b2 := zyXb hB 1 rfl
      have b2 : 2147483648 ≤ zB (ρ2 2) ∧ zB (ρ2 2) ≤ 2147483648 := b2
      rw [a2, zyBn (by omega)] at b2
      have w0 : w = 0 := by omega
      have m := zyXm hM 0 rfl
      have m : zyEl zymx B H2 74 36 = some (.int (ρ2 2)) := m
      rw [a2, w0] at m
      have kP : zPn (zyEl zymx B H2) := zPn_fr (fun k k1 k2 => (hk 74 k (by omega)).trans (by rw [ea])) hP
      obtain ⟨u, hu, eu⟩ := zc74 hT2 (k := 40) (lo := 2147483648) (hi := 2147483652) (by decide) rfl (by decide) (by decide)
      have un : ¬ u = 0 := fun q => hq gg w0 (by rw [← ea, ← hk 74 40 (by omega), eu, q])
      rcases kP u (by omega) eu with q | ⟨⟨n9, hn9, en9⟩, -⟩
      · exact absurd q un
      have e39 : zyEl zymx B H2 74 39 = some (.int (Int32.ofNat n)) := (hk 74 39 (by omega)).trans (by rw [ea]; exact s2)
      rw [e39] at en9
      have enn := zyOi (by omega) (by omega) (Value.int.inj (Option.some.inj en9))
      refine zyCa0 hRu hIH hAt hB hrd (ix := 450) (ax := 5024) rfl rfl rfl hmerd ⟨rfl, rfl, rfl, rfl⟩ (by decide) [] rfl (by decide) rfl ⟨2, by decide⟩ [595, 0] rfl rfl rfl rfl ?_ ?_
      · show zyΦrd [] _
        exact ⟨n, by omega, e39⟩
      · intro E3 vo hT3 hΨ
        have hΨ : zyΨrd [] _ E3 vo := hΨ
        have hPn := zPn_rd hΨ
        obtain ⟨ev, p1, q0, n2, u2, p2, p3, p4, p5, p6, -⟩ := hΨ
        rw [e39] at p3
        have eq0 := zyOi (by omega) (by omega) (Value.int.inj (Option.some.inj p3))
        exact ⟨ev, ⟨g, w, n, has, hg1, hw, s1, s2, hn, hP, hq, fun h => absurd (show 2 ≤ 1 from h) (by decide), fun h => absurd (show 2 ≤ 1 from h) (by decide), fun h => absurd (show 2 = 1 from h) (by decide), fun _ => ⟨fun a k nn => (p1 a k (fun z => nn ⟨z.1, by omega⟩)).trans ((hk a k (fun z => nn ⟨z.1, by omega⟩)).trans (by rw [ea])), hPn, gg, w0, (p1 74 36 (by omega)).trans m, n2, by omega, p5, p6⟩⟩, (show 2 - 2 < 2 - 1 by decide)⟩
    · cases hx
  · intro as E0 E E2 hT0 hΦ hlen i ρ hT hInv x hx ρ2 N2 B vo hXs hag hfr hT2 hvo
    rcases i with ⟨i, hi⟩
    have hi2 : i = 0 ∨ i = 1 ∨ i = 2 := by omega
    rcases hi2 with rfl | rfl | rfl
    · cases hx
    · have hx : x ∈ [zxtks_ar0, zxtks_ar1, zxtks_ar2] := hx
      have hg : ∀ k, k < 3 → ρ2 k = ρ k := hag
      have hI := hInv
      have hI : ∃ g w n : Nat, as = [Int32.ofNat g] ∧ g ≤ 1 ∧ w ≤ 9 ∧ E0 74 36 = some (.int (Int32.ofNat w)) ∧ E0 74 39 = some (.int (Int32.ofNat n)) ∧ n ≤ 901 ∧ zPn E0 ∧ (g = 1 → w = 0 → ¬ E0 74 40 = some (.int (Int32.ofNat 0))) ∧ (1 ≤ 1 → E = E0) ∧ (1 ≤ 1 → ρ 1 = Int32.ofNat g) ∧ (1 = 1 → ρ 2 = Int32.ofNat w) ∧ (1 = 2 → zyFtk E0 E ∧ zPn E ∧ g = 1 ∧ w = 0 ∧ E 74 36 = some (.int (Int32.ofNat 0)) ∧ ∃ n' : Nat, n < n' ∧ n' ≤ 901 ∧ E 74 39 = some (.int (Int32.ofNat n'))) := hI
      obtain ⟨hF, hB, hM⟩ := hXs
      have hfr : ∀ a k, zyin [(74, 36, 37)] a k = false → E2 a k = E a k := hfr
      rcases List.mem_cons.mp hx with ex | hx
      · subst ex
        obtain ⟨g, w, n, has, hg1, hw, s1, s2, hn, hP, hq, i1, ir, i2, i3⟩ := hI
        have ea := i1 (by decide)
        have a1 : ρ2 1 = Int32.ofNat g := (hg 1 (by decide)).trans (ir (by decide))
        have a2 : ρ2 2 = Int32.ofNat w := (hg 2 (by decide)).trans (i2 rfl)
        have hk : ∀ a k, ¬ (a = 74 ∧ 36 ≤ k ∧ k ≤ 37) → E2 a k = E a k := by
          intro a k n0
          apply hfr
          cases hq : zyin [(74, 36, 37)] a k with
          | false => rfl
          | true =>
            obtain ⟨p0, g1, g2, g3, g4⟩ := zyin_iff.mp hq
            simp only [List.mem_cons, List.not_mem_nil, or_false] at g1
            rcases g1 with rfl
            · exact absurd ⟨g2.symm, g3, g4⟩ n0
        have kP : zPn E2 := zPn_fr (fun k k1 k2 => (hk 74 k (by omega)).trans (by rw [ea])) hP
        have e39 : E2 74 39 = some (.int (Int32.ofNat n)) := (hk 74 39 (by omega)).trans (by rw [ea]; exact s2)
        have m := zyXm hM 0 rfl
        have m : E2 74 36 = some (.int (ρ2 2)) := m
        have b2 := zyXb hB 0 rfl
        have b2 : 2147483649 ≤ zB (ρ2 2) ∧ zB (ρ2 2) ≤ 2147483657 := b2
        rw [a2, zyBn (by omega)] at b2
        rw [a2] at m
        exact ⟨zyvo_0 (show zyvo _ [] vo from hvo), fun a k nn => (hk a k (fun z => nn ⟨z.1, by omega⟩)).trans (by rw [ea]), kP, n, n, w, w, g, has, s2, e39, Nat.le_refl _, hn, s1, m, by omega, fun h => absurd h (by omega)⟩
      · skip
        rcases List.mem_cons.mp hx with ex | hx
        · subst ex
          obtain ⟨g, w, n, has, hg1, hw, s1, s2, hn, hP, hq, i1, ir, i2, i3⟩ := hI
          have ea := i1 (by decide)
          have a1 : ρ2 1 = Int32.ofNat g := (hg 1 (by decide)).trans (ir (by decide))
          have a2 : ρ2 2 = Int32.ofNat w := (hg 2 (by decide)).trans (i2 rfl)
          have hk : ∀ a k, ¬ (a = 74 ∧ 36 ≤ k ∧ k ≤ 37) → E2 a k = E a k := by
            intro a k n0
            apply hfr
            cases hq : zyin [(74, 36, 37)] a k with
            | false => rfl
            | true =>
              obtain ⟨p0, g1, g2, g3, g4⟩ := zyin_iff.mp hq
              simp only [List.mem_cons, List.not_mem_nil, or_false] at g1
              rcases g1 with rfl
              · exact absurd ⟨g2.symm, g3, g4⟩ n0
          have kP : zPn E2 := zPn_fr (fun k k1 k2 => (hk 74 k (by omega)).trans (by rw [ea])) hP
          have e39 : E2 74 39 = some (.int (Int32.ofNat n)) := (hk 74 39 (by omega)).trans (by rw [ea]; exact s2)
          have m := zyXm hM 0 rfl
          have m : E2 74 36 = some (.int (Int32.ofNat 2)) := m
          exact ⟨zyvo_0 (show zyvo _ [] vo from hvo), fun a k nn => (hk a k (fun z => nn ⟨z.1, by omega⟩)).trans (by rw [ea]), kP, n, n, w, 2, g, has, s2, e39, Nat.le_refl _, hn, s1, m, by omega, fun h => absurd h (by omega)⟩
        · skip
          have ex := List.mem_singleton.mp hx
          subst ex
          obtain ⟨g, w, n, has, hg1, hw, s1, s2, hn, hP, hq, i1, ir, i2, i3⟩ := hI
          have ea := i1 (by decide)
          have a1 : ρ2 1 = Int32.ofNat g := (hg 1 (by decide)).trans (ir (by decide))
          have a2 : ρ2 2 = Int32.ofNat w := (hg 2 (by decide)).trans (i2 rfl)
          have hk : ∀ a k, ¬ (a = 74 ∧ 36 ≤ k ∧ k ≤ 37) → E2 a k = E a k := by
            intro a k n0
            apply hfr
            cases hq : zyin [(74, 36, 37)] a k with
            | false => rfl
            | true =>
              obtain ⟨p0, g1, g2, g3, g4⟩ := zyin_iff.mp hq
              simp only [List.mem_cons, List.not_mem_nil, or_false] at g1
              rcases g1 with rfl
              · exact absurd ⟨g2.symm, g3, g4⟩ n0
          have kP : zPn E2 := zPn_fr (fun k k1 k2 => (hk 74 k (by omega)).trans (by rw [ea])) hP
          have e39 : E2 74 39 = some (.int (Int32.ofNat n)) := (hk 74 39 (by omega)).trans (by rw [ea]; exact s2)
          have m := zyXm hM 0 rfl
          have m : E2 74 36 = some (.int (Int32.ofNat 1)) := m
          exact ⟨zyvo_0 (show zyvo _ [] vo from hvo), fun a k nn => (hk a k (fun z => nn ⟨z.1, by omega⟩)).trans (by rw [ea]), kP, n, n, w, 1, g, has, s2, e39, Nat.le_refl _, hn, s1, m, by omega, fun h => absurd h (by omega)⟩
    · have hx : x ∈ [zxtks_br0] := hx
      have hg : ∀ k, k < 2 → ρ2 k = ρ k := hag
      have hI := hInv
      have hI : ∃ g w n : Nat, as = [Int32.ofNat g] ∧ g ≤ 1 ∧ w ≤ 9 ∧ E0 74 36 = some (.int (Int32.ofNat w)) ∧ E0 74 39 = some (.int (Int32.ofNat n)) ∧ n ≤ 901 ∧ zPn E0 ∧ (g = 1 → w = 0 → ¬ E0 74 40 = some (.int (Int32.ofNat 0))) ∧ (2 ≤ 1 → E = E0) ∧ (2 ≤ 1 → ρ 1 = Int32.ofNat g) ∧ (2 = 1 → ρ 2 = Int32.ofNat w) ∧ (2 = 2 → zyFtk E0 E ∧ zPn E ∧ g = 1 ∧ w = 0 ∧ E 74 36 = some (.int (Int32.ofNat 0)) ∧ ∃ n' : Nat, n < n' ∧ n' ≤ 901 ∧ E 74 39 = some (.int (Int32.ofNat n'))) := hI
      obtain ⟨hF, hB, hM⟩ := hXs
      have hEE : E2 = E := zyfr0 hfr
      have ex := List.mem_singleton.mp hx
      subst ex
      obtain ⟨g, w, n, has, hg1, hw, s1, s2, hn, hP, hq, i1, ir, i2, i3⟩ := hI
      obtain ⟨f1, f2, f3, f4, f5, n2, f6, f7, f8⟩ := i3 rfl
      exact ⟨zyvo_0 (show zyvo _ [] vo from hvo), by rw [hEE]; exact f1, by rw [hEE]; exact f2, n, n2, w, 0, g, has, s2, by rw [hEE]; exact f8, by omega, f7, s1, by rw [hEE]; exact f5, by omega, fun _ => ⟨f6, f3, f4⟩⟩
def zyΦtn (as : List Int32) (E : zyEm) : Prop := zPn E ∧ ∃ h : Nat, as = [Int32.ofNat 1, Int32.ofNat h] ∧ 4 ≤ h ∧ h ≤ 5
def zyΨtn (as : List Int32) (E E2 : zyEm) (vo : Option Value) : Prop := zyFtk E E2 ∧ zPn E2 ∧ ∃ (n n' w w' h : Nat) (z : Int32), as = [Int32.ofNat 1, Int32.ofNat h] ∧ 4 ≤ h ∧ h ≤ 5 ∧ vo = some (.int z) ∧ E 74 39 = some (.int (Int32.ofNat n)) ∧ E2 74 39 = some (.int (Int32.ofNat n')) ∧ n ≤ n' ∧ n' ≤ 901 ∧ E 74 36 = some (.int (Int32.ofNat w)) ∧ E2 74 36 = some (.int (Int32.ofNat w')) ∧ w' ≤ 9 ∧ (w' = 0 → n < n' ∧ w = 0 ∧ 2147483649 ≤ zB z ∧ zB z ≤ 2147483648 + h)
theorem zytkn_run : zyrS zymx zxi320 (320, 0, 0, 1, 0) 5 zptkn (fun _ _ => []) zFtkn zStkn zXtkn zRtkn 3 = true := by decide +kernel
theorem zytakesNumber {l : Launch} {en : zEn} {me : zMe} (hen : zG zxMeta 320 = some en) (hme : zG zMeth 320 = some me) : zyHc l zymx en me 5 2 zyΦtn zyΨtn := by
  have een : zG zxMeta 320 = some (zxi320, 3, 4, 11, 320, 0, 0, 1, 0) := rfl
  obtain ⟨me1, hme1, hOK⟩ := zall hen
  rw [hme] at hme1
  cases hme1
  rw [een] at hen
  cases hen
  have hr := zytkn_run
  obtain ⟨merd, hmerd, -⟩ := zall (show zG zxMeta 314 = some (zxi314, 1, 1, 11, 314, 0, 0, 0, 0) from rfl)
  have hrd := zyreads (l := l) (show zG zxMeta 314 = some (zxi314, 1, 1, 11, 314, 0, 0, 0, 0) from rfl) hmerd
  refine zycutS (mi := zymx) hOK rfl rfl ⟨_, rfl, rfl⟩ (ι := Fin 3) (fun i => zptkn i.val) (fun _ _ => []) (fun i => zFtkn i.val) (fun i => zStkn i.val) (fun i => zXtkn i.val) (fun i => zRtkn i.val) (fun i y2 ct en2 me2 h => by cases h) 200000 (fun i => zyAll_iff hr i.val i.isLt) ⟨0, by decide⟩ ⟨rfl, rfl, rfl, rfl⟩ ⟨by decide, by decide⟩
    (fun i as E0 ρ E => ∃ h w n : Nat, as = [Int32.ofNat 1, Int32.ofNat h] ∧ 4 ≤ h ∧ h ≤ 5 ∧ w ≤ 9 ∧ E0 74 36 = some (.int (Int32.ofNat w)) ∧ E0 74 39 = some (.int (Int32.ofNat n)) ∧ n ≤ 901 ∧ zPn E0 ∧ (i.val ≤ 1 → E = E0) ∧ (i.val ≤ 1 → ρ 1 = Int32.ofNat 1 ∧ ρ 2 = Int32.ofNat h) ∧ (i.val = 1 → ρ 4 = Int32.ofNat w) ∧ (i.val = 2 → zyFtk E0 E ∧ zPn E ∧ w = 0 ∧ E 74 36 = some (.int (Int32.ofNat 0)) ∧ (2147483649 ≤ zB (ρ 3) ∧ zB (ρ 3) ≤ 2147483648 + h) ∧ ∃ n' : Nat, n < n' ∧ n' ≤ 901 ∧ E 74 39 = some (.int (Int32.ofNat n')))) (fun i as E0 ρ E => 2 - i.val) ?_ ?_ ?_
  · intro as E hlen hT hΦ
    obtain ⟨hP, h, rfl, hh1, hh2⟩ := hΦ
    obtain ⟨n, hn, s2⟩ := zc74 hT (k := 39) (lo := 2147483648) (hi := 2147484549) (by decide) rfl (by decide) (by decide)
    obtain ⟨w, hw, s1⟩ := zc74 hT (k := 36) (lo := 2147483648) (hi := 2147483657) (by decide) rfl (by decide) (by decide)
    exact ⟨zEnv_c (zyfull _) (zEnv_c (zyfull _) (zEnv_c (zyfull _) (zEnv_c (zyfull _) zEnv_nil))), h, w, n, rfl, hh1, hh2, by omega, s1, s2, by omega, hP, fun _ => rfl, fun _ => ⟨rfl, rfl⟩, fun h => absurd (show 0 = 1 from h) (by decide), fun h => absurd (show 0 = 2 from h) (by decide)⟩
  · intro as B s Wg hRu hT0 hΦ hlen i ρ H hT hInv hIH x hx ρ2 N2 H2 locs lsB stA hAt hXs hag hfr hT2
    rcases i with ⟨i, hi⟩
    have hi2 : i = 0 ∨ i = 1 ∨ i = 2 := by omega
    rcases hi2 with rfl | rfl | rfl
    · have hx : x ∈ [zxtkn_zx0] := hx
      have hg : ∀ k, k < 4 → ρ2 k = ρ k := hag
      have hI := hInv
      have hI : ∃ h w n : Nat, as = [Int32.ofNat 1, Int32.ofNat h] ∧ 4 ≤ h ∧ h ≤ 5 ∧ w ≤ 9 ∧ (zyEl zymx B s.heap) 74 36 = some (.int (Int32.ofNat w)) ∧ (zyEl zymx B s.heap) 74 39 = some (.int (Int32.ofNat n)) ∧ n ≤ 901 ∧ zPn (zyEl zymx B s.heap) ∧ (0 ≤ 1 → (zyEl zymx B H) = (zyEl zymx B s.heap)) ∧ (0 ≤ 1 → ρ 1 = Int32.ofNat 1 ∧ ρ 2 = Int32.ofNat h) ∧ (0 = 1 → ρ 4 = Int32.ofNat w) ∧ (0 = 2 → zyFtk (zyEl zymx B s.heap) (zyEl zymx B H) ∧ zPn (zyEl zymx B H) ∧ w = 0 ∧ (zyEl zymx B H) 74 36 = some (.int (Int32.ofNat 0)) ∧ (2147483649 ≤ zB (ρ 3) ∧ zB (ρ 3) ≤ 2147483648 + h) ∧ ∃ n' : Nat, n < n' ∧ n' ≤ 901 ∧ (zyEl zymx B H) 74 39 = some (.int (Int32.ofNat n'))) := hI
      obtain ⟨hF, hB, hM⟩ := hXs
      have hEE : (zyEl zymx B H2) = (zyEl zymx B H) := zyfr0 hfr
      have ex := List.mem_singleton.mp hx
      subst ex
      obtain ⟨h, w, n, has, hh1, hh2, hw, s1, s2, hn, hP, i1, ir, i2, i3⟩ := hI
      have ea := i1 (by decide)
      obtain ⟨ir1, ir2⟩ := ir (by decide)
      refine zyGoAny hIH hAt ⟨1, by decide⟩ [595, 34359738369, 68719476737, 0] (fun k => if k = 4 then Int32.ofNat w else zyw ρ2 (zyag [595, 34359738369, 68719476737, 0] k)) rfl rfl (fun i hi => by have hi : i < 4 := hi; rw [if_neg (by omega)]) (zEnv_c (zyfull _) (zEnv_c ⟨?_, ?_⟩ (zEnv_c ⟨?_, ?_⟩ (zEnv_c (zyfull _) (zEnv_c ⟨?_, ?_⟩ zEnv_nil))))) ?_ ?_ ⟨h, w, n, has, hh1, hh2, hw, s1, s2, hn, hP, fun _ => hEE.trans ea, fun _ => ⟨(hg 1 (by decide)).trans ir1, (hg 2 (by decide)).trans ir2⟩, fun _ => rfl, fun h => absurd (show 1 = 2 from h) (by decide)⟩ (show 2 - 1 < 2 - 0 by decide)
      · show 2147483649 ≤ zB (ρ2 1)
        rw [hg 1 (by decide), ir1]
        decide
      · show zB (ρ2 1) ≤ 2147483649
        rw [hg 1 (by decide), ir1]
        decide
      · show 2147483652 ≤ zB (ρ2 2)
        rw [hg 2 (by decide), ir2, zyBn (by omega)]
        omega
      · show zB (ρ2 2) ≤ 2147483653
        rw [hg 2 (by decide), ir2, zyBn (by omega)]
        omega
      · show 2147483648 ≤ zB (Int32.ofNat w)
        rw [zyBn (by omega)]
        omega
      · show zB (Int32.ofNat w) ≤ 2147483657
        rw [zyBn (by omega)]
        omega
      · rw [zySt_n (show zySt (zyXn B ρ2 N2) [] stA from hAt.2.2.2.2.2)]
        trivial
      · intro z hz
        have hz : z ∈ [(1212452, 137438953473)] := hz
        rw [List.mem_singleton.mp hz]
        exact ⟨zymr74, _, rfl, show 36 < 49 by decide, show zyEl zymx B H2 74 36 = _ by rw [hEE, ea]; exact s1, zyv_sym (i := 4) (show 4 < 5 by decide) rfl⟩
    · have hx : x ∈ [zxtkn_ax0] := hx
      have hg : ∀ k, k < 5 → ρ2 k = ρ k := hag
      have hI := hInv
      have hI : ∃ h w n : Nat, as = [Int32.ofNat 1, Int32.ofNat h] ∧ 4 ≤ h ∧ h ≤ 5 ∧ w ≤ 9 ∧ (zyEl zymx B s.heap) 74 36 = some (.int (Int32.ofNat w)) ∧ (zyEl zymx B s.heap) 74 39 = some (.int (Int32.ofNat n)) ∧ n ≤ 901 ∧ zPn (zyEl zymx B s.heap) ∧ (1 ≤ 1 → (zyEl zymx B H) = (zyEl zymx B s.heap)) ∧ (1 ≤ 1 → ρ 1 = Int32.ofNat 1 ∧ ρ 2 = Int32.ofNat h) ∧ (1 = 1 → ρ 4 = Int32.ofNat w) ∧ (1 = 2 → zyFtk (zyEl zymx B s.heap) (zyEl zymx B H) ∧ zPn (zyEl zymx B H) ∧ w = 0 ∧ (zyEl zymx B H) 74 36 = some (.int (Int32.ofNat 0)) ∧ (2147483649 ≤ zB (ρ 3) ∧ zB (ρ 3) ≤ 2147483648 + h) ∧ ∃ n' : Nat, n < n' ∧ n' ≤ 901 ∧ (zyEl zymx B H) 74 39 = some (.int (Int32.ofNat n'))) := hI
      obtain ⟨hF, hB, hM⟩ := hXs
      have hfr : ∀ a k, zyin [(74, 36, 37)] a k = false → (zyEl zymx B H2) a k = (zyEl zymx B H) a k := hfr
      have ex := List.mem_singleton.mp hx
      subst ex
      obtain ⟨h, w, n, has, hh1, hh2, hw, s1, s2, hn, hP, i1, ir, i2, i3⟩ := hI
      have ea := i1 (by decide)
      obtain ⟨ir1, ir2⟩ := ir (by decide)
      have a2 : ρ2 2 = Int32.ofNat h := (hg 2 (by decide)).trans ir2
      have a4 : ρ2 4 = Int32.ofNat w := (hg 4 (by decide)).trans (i2 rfl)
      have hk : ∀ a k, ¬ (a = 74 ∧ 36 ≤ k ∧ k ≤ 37) → (zyEl zymx B H2) a k = (zyEl zymx B H) a k := by
        intro a k n0
        apply hfr
        cases hq : zyin [(74, 36, 37)] a k with
        | false => rfl
        | true =>
          obtain ⟨p0, g1, g2, g3, g4⟩ := zyin_iff.mp hq
          simp only [List.mem_cons, List.not_mem_nil, or_false] at g1
          rcases g1 with rfl
          · exact absurd ⟨g2.symm, g3, g4⟩ n0
      obtain ⟨nb, ub1, ub2, ub3⟩ := zyXe hF 0 rfl
      have ub1 : Int32.ofNat 40 = Int32.ofNat nb := ub1
      have ub3 : (zyEl zymx B H) 74 nb = some (.int (ρ2 5)) := ub3
      have eb := zyOi (by omega) (by omega) ub1
      subst eb
      have bs := zyXb hB 2 rfl
      have bs : 2147483650 ≤ zB (ρ2 5) ∧ zB (ρ2 5) ≤ 2147483650 := bs
      obtain ⟨os, os2⟩ := zyOn (show 2147483648 ≤ zB (ρ2 5) by omega)
      rw [os, show zyN1 (ρ2 5) = 2 by omega, ea] at ub3
      have b4 := zyXb hB 1 rfl
      have b4 : 2147483648 ≤ zB (ρ2 4) ∧ zB (ρ2 4) ≤ 2147483648 := b4
      rw [a4, zyBn (by omega)] at b4
      have w0 : w = 0 := by omega
      have b6 := zyXb hB 3 rfl
      have b6 : 2147483649 ≤ zB (ρ2 6) ∧ zB (ρ2 6) ≤ 2147483653 := b6
      have fh := zyX21 hF 2 rfl
      have fh : ¬ ρ2 2 < ρ2 6 := fh
      rw [zB_slt, a2, zyBn (by omega)] at fh
      have m := zyXm hM 0 rfl
      have m : zyEl zymx B H2 74 36 = some (.int (ρ2 4)) := m
      rw [a4, w0] at m
      rcases hP 2 (by decide) ub3 with q | ⟨⟨n9, hn9, en9⟩, -⟩
      · cases q
      rw [s2] at en9
      have enn := zyOi (by omega) (by omega) (Value.int.inj (Option.some.inj en9))
      have e39 : zyEl zymx B H2 74 39 = some (.int (Int32.ofNat n)) := (hk 74 39 (by omega)).trans (by rw [ea]; exact s2)
      refine zyCa0 hRu hIH hAt hB hrd (ix := 450) (ax := 5024) rfl rfl rfl hmerd ⟨rfl, rfl, rfl, rfl⟩ (by decide) [] rfl (by decide) rfl ⟨2, by decide⟩ [595, 0, 0, 206158430209] rfl rfl rfl rfl ?_ ?_
      · show zyΦrd [] _
        exact ⟨n, by omega, e39⟩
      · intro E3 vo hT3 hΨ
        have hΨ : zyΨrd [] _ E3 vo := hΨ
        have hPn := zPn_rd hΨ
        obtain ⟨ev, p1, q0, n2, u2, p2, p3, p4, p5, p6, -⟩ := hΨ
        rw [e39] at p3
        have eq0 := zyOi (by omega) (by omega) (Value.int.inj (Option.some.inj p3))
        exact ⟨ev, ⟨h, w, n, has, hh1, hh2, hw, s1, s2, hn, hP, fun h => absurd (show 2 ≤ 1 from h) (by decide), fun h => absurd (show 2 ≤ 1 from h) (by decide), fun h => absurd (show 2 = 1 from h) (by decide), fun _ => ⟨fun a k nn => (p1 a k (fun z => nn ⟨z.1, by omega⟩)).trans ((hk a k (fun z => nn ⟨z.1, by omega⟩)).trans (by rw [ea])), hPn, w0, (p1 74 36 (by omega)).trans m, ⟨b6.1, show zB (ρ2 6) ≤ 2147483648 + h by omega⟩, n2, by omega, p5, p6⟩⟩, (show 2 - 2 < 2 - 1 by decide)⟩
    · cases hx
  · intro as E0 E E2 hT0 hΦ hlen i ρ hT hInv x hx ρ2 N2 B vo hXs hag hfr hT2 hvo
    rcases i with ⟨i, hi⟩
    have hi2 : i = 0 ∨ i = 1 ∨ i = 2 := by omega
    rcases hi2 with rfl | rfl | rfl
    · cases hx
    · have hx : x ∈ [zxtkn_ar0, zxtkn_ar1, zxtkn_ar2, zxtkn_ar3, zxtkn_ar4, zxtkn_ar5, zxtkn_ar6, zxtkn_ar7, zxtkn_ar8, zxtkn_ar9, zxtkn_ar10] := hx
      have hg : ∀ k, k < 5 → ρ2 k = ρ k := hag
      have hI := hInv
      have hI : ∃ h w n : Nat, as = [Int32.ofNat 1, Int32.ofNat h] ∧ 4 ≤ h ∧ h ≤ 5 ∧ w ≤ 9 ∧ E0 74 36 = some (.int (Int32.ofNat w)) ∧ E0 74 39 = some (.int (Int32.ofNat n)) ∧ n ≤ 901 ∧ zPn E0 ∧ (1 ≤ 1 → E = E0) ∧ (1 ≤ 1 → ρ 1 = Int32.ofNat 1 ∧ ρ 2 = Int32.ofNat h) ∧ (1 = 1 → ρ 4 = Int32.ofNat w) ∧ (1 = 2 → zyFtk E0 E ∧ zPn E ∧ w = 0 ∧ E 74 36 = some (.int (Int32.ofNat 0)) ∧ (2147483649 ≤ zB (ρ 3) ∧ zB (ρ 3) ≤ 2147483648 + h) ∧ ∃ n' : Nat, n < n' ∧ n' ≤ 901 ∧ E 74 39 = some (.int (Int32.ofNat n'))) := hI
      obtain ⟨hF, hB, hM⟩ := hXs
      have hfr : ∀ a k, zyin [(74, 36, 37)] a k = false → E2 a k = E a k := hfr
      rcases List.mem_cons.mp hx with ex | hx
      · subst ex
        obtain ⟨h, w, n, has, hh1, hh2, hw, s1, s2, hn, hP, i1, ir, i2, i3⟩ := hI
        have ea := i1 (by decide)
        obtain ⟨ir1, ir2⟩ := ir (by decide)
        have a2 : ρ2 2 = Int32.ofNat h := (hg 2 (by decide)).trans ir2
        have a4 : ρ2 4 = Int32.ofNat w := (hg 4 (by decide)).trans (i2 rfl)
        have hk : ∀ a k, ¬ (a = 74 ∧ 36 ≤ k ∧ k ≤ 37) → E2 a k = E a k := by
          intro a k n0
          apply hfr
          cases hq : zyin [(74, 36, 37)] a k with
          | false => rfl
          | true =>
            obtain ⟨p0, g1, g2, g3, g4⟩ := zyin_iff.mp hq
            simp only [List.mem_cons, List.not_mem_nil, or_false] at g1
            rcases g1 with rfl
            · exact absurd ⟨g2.symm, g3, g4⟩ n0
        have kP : zPn E2 := zPn_fr (fun k k1 k2 => (hk 74 k (by omega)).trans (by rw [ea])) hP
        have e39 : E2 74 39 = some (.int (Int32.ofNat n)) := (hk 74 39 (by omega)).trans (by rw [ea]; exact s2)
        have m := zyXm hM 0 rfl
        have m : E2 74 36 = some (.int (ρ2 4)) := m
        have b4 := zyXb hB 0 rfl
        have b4 : 2147483649 ≤ zB (ρ2 4) ∧ zB (ρ2 4) ≤ 2147483657 := b4
        rw [a4, zyBn (by omega)] at b4
        rw [a4] at m
        exact ⟨fun a k nn => (hk a k (fun z => nn ⟨z.1, by omega⟩)).trans (by rw [ea]), kP, n, n, w, w, h, _, has, hh1, hh2, zyvo_1 (c := 206158430209) (by decide) (show zyvo (zyXn B ρ2 N2) [206158430209] vo from hvo), s2, e39, Nat.le_refl _, hn, s1, m, by omega, fun h => absurd h (by omega)⟩
      · skip
        rcases List.mem_cons.mp hx with ex | hx
        · subst ex
          obtain ⟨h, w, n, has, hh1, hh2, hw, s1, s2, hn, hP, i1, ir, i2, i3⟩ := hI
          have ea := i1 (by decide)
          obtain ⟨ir1, ir2⟩ := ir (by decide)
          have a2 : ρ2 2 = Int32.ofNat h := (hg 2 (by decide)).trans ir2
          have a4 : ρ2 4 = Int32.ofNat w := (hg 4 (by decide)).trans (i2 rfl)
          have hk : ∀ a k, ¬ (a = 74 ∧ 36 ≤ k ∧ k ≤ 37) → E2 a k = E a k := by
            intro a k n0
            apply hfr
            cases hq : zyin [(74, 36, 37)] a k with
            | false => rfl
            | true =>
              obtain ⟨p0, g1, g2, g3, g4⟩ := zyin_iff.mp hq
              simp only [List.mem_cons, List.not_mem_nil, or_false] at g1
              rcases g1 with rfl
              · exact absurd ⟨g2.symm, g3, g4⟩ n0
          have kP : zPn E2 := zPn_fr (fun k k1 k2 => (hk 74 k (by omega)).trans (by rw [ea])) hP
          have e39 : E2 74 39 = some (.int (Int32.ofNat n)) := (hk 74 39 (by omega)).trans (by rw [ea]; exact s2)
          have m := zyXm hM 0 rfl
          have m : E2 74 36 = some (.int (ρ2 4)) := m
          have b4 := zyXb hB 0 rfl
          have b4 : 2147483649 ≤ zB (ρ2 4) ∧ zB (ρ2 4) ≤ 2147483657 := b4
          rw [a4, zyBn (by omega)] at b4
          rw [a4] at m
          exact ⟨fun a k nn => (hk a k (fun z => nn ⟨z.1, by omega⟩)).trans (by rw [ea]), kP, n, n, w, w, h, _, has, hh1, hh2, zyvo_1 (c := 206158430209) (by decide) (show zyvo (zyXn B ρ2 N2) [206158430209] vo from hvo), s2, e39, Nat.le_refl _, hn, s1, m, by omega, fun h => absurd h (by omega)⟩
        · skip
          rcases List.mem_cons.mp hx with ex | hx
          · subst ex
            obtain ⟨h, w, n, has, hh1, hh2, hw, s1, s2, hn, hP, i1, ir, i2, i3⟩ := hI
            have ea := i1 (by decide)
            obtain ⟨ir1, ir2⟩ := ir (by decide)
            have a2 : ρ2 2 = Int32.ofNat h := (hg 2 (by decide)).trans ir2
            have a4 : ρ2 4 = Int32.ofNat w := (hg 4 (by decide)).trans (i2 rfl)
            have hk : ∀ a k, ¬ (a = 74 ∧ 36 ≤ k ∧ k ≤ 37) → E2 a k = E a k := by
              intro a k n0
              apply hfr
              cases hq : zyin [(74, 36, 37)] a k with
              | false => rfl
              | true =>
                obtain ⟨p0, g1, g2, g3, g4⟩ := zyin_iff.mp hq
                simp only [List.mem_cons, List.not_mem_nil, or_false] at g1
                rcases g1 with rfl
                · exact absurd ⟨g2.symm, g3, g4⟩ n0
            have kP : zPn E2 := zPn_fr (fun k k1 k2 => (hk 74 k (by omega)).trans (by rw [ea])) hP
            have e39 : E2 74 39 = some (.int (Int32.ofNat n)) := (hk 74 39 (by omega)).trans (by rw [ea]; exact s2)
            have m := zyXm hM 0 rfl
            have m : E2 74 36 = some (.int (ρ2 4)) := m
            have b4 := zyXb hB 0 rfl
            have b4 : 2147483649 ≤ zB (ρ2 4) ∧ zB (ρ2 4) ≤ 2147483657 := b4
            rw [a4, zyBn (by omega)] at b4
            rw [a4] at m
            exact ⟨fun a k nn => (hk a k (fun z => nn ⟨z.1, by omega⟩)).trans (by rw [ea]), kP, n, n, w, w, h, _, has, hh1, hh2, zyvo_1 (c := 206158430209) (by decide) (show zyvo (zyXn B ρ2 N2) [206158430209] vo from hvo), s2, e39, Nat.le_refl _, hn, s1, m, by omega, fun h => absurd h (by omega)⟩
          · skip
            rcases List.mem_cons.mp hx with ex | hx
            · subst ex
              obtain ⟨h, w, n, has, hh1, hh2, hw, s1, s2, hn, hP, i1, ir, i2, i3⟩ := hI
              have ea := i1 (by decide)
              obtain ⟨ir1, ir2⟩ := ir (by decide)
              have a2 : ρ2 2 = Int32.ofNat h := (hg 2 (by decide)).trans ir2
              have a4 : ρ2 4 = Int32.ofNat w := (hg 4 (by decide)).trans (i2 rfl)
              have hk : ∀ a k, ¬ (a = 74 ∧ 36 ≤ k ∧ k ≤ 37) → E2 a k = E a k := by
                intro a k n0
                apply hfr
                cases hq : zyin [(74, 36, 37)] a k with
                | false => rfl
                | true =>
                  obtain ⟨p0, g1, g2, g3, g4⟩ := zyin_iff.mp hq
                  simp only [List.mem_cons, List.not_mem_nil, or_false] at g1
                  rcases g1 with rfl
                  · exact absurd ⟨g2.symm, g3, g4⟩ n0
              have kP : zPn E2 := zPn_fr (fun k k1 k2 => (hk 74 k (by omega)).trans (by rw [ea])) hP
              have e39 : E2 74 39 = some (.int (Int32.ofNat n)) := (hk 74 39 (by omega)).trans (by rw [ea]; exact s2)
              have m := zyXm hM 0 rfl
              have m : E2 74 36 = some (.int (Int32.ofNat 2)) := m
              exact ⟨fun a k nn => (hk a k (fun z => nn ⟨z.1, by omega⟩)).trans (by rw [ea]), kP, n, n, w, 2, h, _, has, hh1, hh2, zyvo_1 (c := 240518168577) (by decide) (show zyvo (zyXn B ρ2 N2) [240518168577] vo from hvo), s2, e39, Nat.le_refl _, hn, s1, m, by omega, fun h => absurd h (by omega)⟩
            · skip
              rcases List.mem_cons.mp hx with ex | hx
              · subst ex
                obtain ⟨h, w, n, has, hh1, hh2, hw, s1, s2, hn, hP, i1, ir, i2, i3⟩ := hI
                have ea := i1 (by decide)
                obtain ⟨ir1, ir2⟩ := ir (by decide)
                have a2 : ρ2 2 = Int32.ofNat h := (hg 2 (by decide)).trans ir2
                have a4 : ρ2 4 = Int32.ofNat w := (hg 4 (by decide)).trans (i2 rfl)
                have hk : ∀ a k, ¬ (a = 74 ∧ 36 ≤ k ∧ k ≤ 37) → E2 a k = E a k := by
                  intro a k n0
                  apply hfr
                  cases hq : zyin [(74, 36, 37)] a k with
                  | false => rfl
                  | true =>
                    obtain ⟨p0, g1, g2, g3, g4⟩ := zyin_iff.mp hq
                    simp only [List.mem_cons, List.not_mem_nil, or_false] at g1
                    rcases g1 with rfl
                    · exact absurd ⟨g2.symm, g3, g4⟩ n0
                have kP : zPn E2 := zPn_fr (fun k k1 k2 => (hk 74 k (by omega)).trans (by rw [ea])) hP
                have e39 : E2 74 39 = some (.int (Int32.ofNat n)) := (hk 74 39 (by omega)).trans (by rw [ea]; exact s2)
                have m := zyXm hM 0 rfl
                have m : E2 74 36 = some (.int (Int32.ofNat 2)) := m
                exact ⟨fun a k nn => (hk a k (fun z => nn ⟨z.1, by omega⟩)).trans (by rw [ea]), kP, n, n, w, 2, h, _, has, hh1, hh2, zyvo_1 (c := 240518168577) (by decide) (show zyvo (zyXn B ρ2 N2) [240518168577] vo from hvo), s2, e39, Nat.le_refl _, hn, s1, m, by omega, fun h => absurd h (by omega)⟩
              · skip
                rcases List.mem_cons.mp hx with ex | hx
                · subst ex
                  obtain ⟨h, w, n, has, hh1, hh2, hw, s1, s2, hn, hP, i1, ir, i2, i3⟩ := hI
                  have ea := i1 (by decide)
                  obtain ⟨ir1, ir2⟩ := ir (by decide)
                  have a2 : ρ2 2 = Int32.ofNat h := (hg 2 (by decide)).trans ir2
                  have a4 : ρ2 4 = Int32.ofNat w := (hg 4 (by decide)).trans (i2 rfl)
                  have hk : ∀ a k, ¬ (a = 74 ∧ 36 ≤ k ∧ k ≤ 37) → E2 a k = E a k := by
                    intro a k n0
                    apply hfr
                    cases hq : zyin [(74, 36, 37)] a k with
                    | false => rfl
                    | true =>
                      obtain ⟨p0, g1, g2, g3, g4⟩ := zyin_iff.mp hq
                      simp only [List.mem_cons, List.not_mem_nil, or_false] at g1
                      rcases g1 with rfl
                      · exact absurd ⟨g2.symm, g3, g4⟩ n0
                  have kP : zPn E2 := zPn_fr (fun k k1 k2 => (hk 74 k (by omega)).trans (by rw [ea])) hP
                  have e39 : E2 74 39 = some (.int (Int32.ofNat n)) := (hk 74 39 (by omega)).trans (by rw [ea]; exact s2)
                  have m := zyXm hM 0 rfl
                  have m : E2 74 36 = some (.int (Int32.ofNat 2)) := m
                  exact ⟨fun a k nn => (hk a k (fun z => nn ⟨z.1, by omega⟩)).trans (by rw [ea]), kP, n, n, w, 2, h, _, has, hh1, hh2, zyvo_1 (c := 240518168577) (by decide) (show zyvo (zyXn B ρ2 N2) [240518168577] vo from hvo), s2, e39, Nat.le_refl _, hn, s1, m, by omega, fun h => absurd h (by omega)⟩
                · skip
                  rcases List.mem_cons.mp hx with ex | hx
                  · subst ex
                    obtain ⟨h, w, n, has, hh1, hh2, hw, s1, s2, hn, hP, i1, ir, i2, i3⟩ := hI
                    have ea := i1 (by decide)
                    obtain ⟨ir1, ir2⟩ := ir (by decide)
                    have a2 : ρ2 2 = Int32.ofNat h := (hg 2 (by decide)).trans ir2
                    have a4 : ρ2 4 = Int32.ofNat w := (hg 4 (by decide)).trans (i2 rfl)
                    have hk : ∀ a k, ¬ (a = 74 ∧ 36 ≤ k ∧ k ≤ 37) → E2 a k = E a k := by
                      intro a k n0
                      apply hfr
                      cases hq : zyin [(74, 36, 37)] a k with
                      | false => rfl
                      | true =>
                        obtain ⟨p0, g1, g2, g3, g4⟩ := zyin_iff.mp hq
                        simp only [List.mem_cons, List.not_mem_nil, or_false] at g1
                        rcases g1 with rfl
                        · exact absurd ⟨g2.symm, g3, g4⟩ n0
                    have kP : zPn E2 := zPn_fr (fun k k1 k2 => (hk 74 k (by omega)).trans (by rw [ea])) hP
                    have e39 : E2 74 39 = some (.int (Int32.ofNat n)) := (hk 74 39 (by omega)).trans (by rw [ea]; exact s2)
                    have m := zyXm hM 0 rfl
                    have m : E2 74 36 = some (.int (Int32.ofNat 1)) := m
                    exact ⟨fun a k nn => (hk a k (fun z => nn ⟨z.1, by omega⟩)).trans (by rw [ea]), kP, n, n, w, 1, h, _, has, hh1, hh2, zyvo_1 (c := 240518168577) (by decide) (show zyvo (zyXn B ρ2 N2) [240518168577] vo from hvo), s2, e39, Nat.le_refl _, hn, s1, m, by omega, fun h => absurd h (by omega)⟩
                  · skip
                    rcases List.mem_cons.mp hx with ex | hx
                    · subst ex
                      obtain ⟨h, w, n, has, hh1, hh2, hw, s1, s2, hn, hP, i1, ir, i2, i3⟩ := hI
                      have ea := i1 (by decide)
                      obtain ⟨ir1, ir2⟩ := ir (by decide)
                      have a2 : ρ2 2 = Int32.ofNat h := (hg 2 (by decide)).trans ir2
                      have a4 : ρ2 4 = Int32.ofNat w := (hg 4 (by decide)).trans (i2 rfl)
                      have hk : ∀ a k, ¬ (a = 74 ∧ 36 ≤ k ∧ k ≤ 37) → E2 a k = E a k := by
                        intro a k n0
                        apply hfr
                        cases hq : zyin [(74, 36, 37)] a k with
                        | false => rfl
                        | true =>
                          obtain ⟨p0, g1, g2, g3, g4⟩ := zyin_iff.mp hq
                          simp only [List.mem_cons, List.not_mem_nil, or_false] at g1
                          rcases g1 with rfl
                          · exact absurd ⟨g2.symm, g3, g4⟩ n0
                      have kP : zPn E2 := zPn_fr (fun k k1 k2 => (hk 74 k (by omega)).trans (by rw [ea])) hP
                      have e39 : E2 74 39 = some (.int (Int32.ofNat n)) := (hk 74 39 (by omega)).trans (by rw [ea]; exact s2)
                      have m := zyXm hM 0 rfl
                      have m : E2 74 36 = some (.int (Int32.ofNat 1)) := m
                      exact ⟨fun a k nn => (hk a k (fun z => nn ⟨z.1, by omega⟩)).trans (by rw [ea]), kP, n, n, w, 1, h, _, has, hh1, hh2, zyvo_1 (c := 240518168577) (by decide) (show zyvo (zyXn B ρ2 N2) [240518168577] vo from hvo), s2, e39, Nat.le_refl _, hn, s1, m, by omega, fun h => absurd h (by omega)⟩
                    · skip
                      rcases List.mem_cons.mp hx with ex | hx
                      · subst ex
                        obtain ⟨h, w, n, has, hh1, hh2, hw, s1, s2, hn, hP, i1, ir, i2, i3⟩ := hI
                        have ea := i1 (by decide)
                        obtain ⟨ir1, ir2⟩ := ir (by decide)
                        have a2 : ρ2 2 = Int32.ofNat h := (hg 2 (by decide)).trans ir2
                        have a4 : ρ2 4 = Int32.ofNat w := (hg 4 (by decide)).trans (i2 rfl)
                        have hk : ∀ a k, ¬ (a = 74 ∧ 36 ≤ k ∧ k ≤ 37) → E2 a k = E a k := by
                          intro a k n0
                          apply hfr
                          cases hq : zyin [(74, 36, 37)] a k with
                          | false => rfl
                          | true =>
                            obtain ⟨p0, g1, g2, g3, g4⟩ := zyin_iff.mp hq
                            simp only [List.mem_cons, List.not_mem_nil, or_false] at g1
                            rcases g1 with rfl
                            · exact absurd ⟨g2.symm, g3, g4⟩ n0
                        have kP : zPn E2 := zPn_fr (fun k k1 k2 => (hk 74 k (by omega)).trans (by rw [ea])) hP
                        have e39 : E2 74 39 = some (.int (Int32.ofNat n)) := (hk 74 39 (by omega)).trans (by rw [ea]; exact s2)
                        have m := zyXm hM 0 rfl
                        have m : E2 74 36 = some (.int (Int32.ofNat 1)) := m
                        exact ⟨fun a k nn => (hk a k (fun z => nn ⟨z.1, by omega⟩)).trans (by rw [ea]), kP, n, n, w, 1, h, _, has, hh1, hh2, zyvo_1 (c := 240518168577) (by decide) (show zyvo (zyXn B ρ2 N2) [240518168577] vo from hvo), s2, e39, Nat.le_refl _, hn, s1, m, by omega, fun h => absurd h (by omega)⟩
                      · skip
                        rcases List.mem_cons.mp hx with ex | hx
                        · subst ex
                          obtain ⟨h, w, n, has, hh1, hh2, hw, s1, s2, hn, hP, i1, ir, i2, i3⟩ := hI
                          have ea := i1 (by decide)
                          obtain ⟨ir1, ir2⟩ := ir (by decide)
                          have a2 : ρ2 2 = Int32.ofNat h := (hg 2 (by decide)).trans ir2
                          have a4 : ρ2 4 = Int32.ofNat w := (hg 4 (by decide)).trans (i2 rfl)
                          have hk : ∀ a k, ¬ (a = 74 ∧ 36 ≤ k ∧ k ≤ 37) → E2 a k = E a k := by
                            intro a k n0
                            apply hfr
                            cases hq : zyin [(74, 36, 37)] a k with
                            | false => rfl
                            | true =>
                              obtain ⟨p0, g1, g2, g3, g4⟩ := zyin_iff.mp hq
                              simp only [List.mem_cons, List.not_mem_nil, or_false] at g1
                              rcases g1 with rfl
                              · exact absurd ⟨g2.symm, g3, g4⟩ n0
                          have kP : zPn E2 := zPn_fr (fun k k1 k2 => (hk 74 k (by omega)).trans (by rw [ea])) hP
                          have e39 : E2 74 39 = some (.int (Int32.ofNat n)) := (hk 74 39 (by omega)).trans (by rw [ea]; exact s2)
                          have m := zyXm hM 0 rfl
                          have m : E2 74 36 = some (.int (Int32.ofNat 3)) := m
                          exact ⟨fun a k nn => (hk a k (fun z => nn ⟨z.1, by omega⟩)).trans (by rw [ea]), kP, n, n, w, 3, h, _, has, hh1, hh2, zyvo_1 (c := 206158430209) (by decide) (show zyvo (zyXn B ρ2 N2) [206158430209] vo from hvo), s2, e39, Nat.le_refl _, hn, s1, m, by omega, fun h => absurd h (by omega)⟩
                        · skip
                          have ex := List.mem_singleton.mp hx
                          subst ex
                          obtain ⟨h, w, n, has, hh1, hh2, hw, s1, s2, hn, hP, i1, ir, i2, i3⟩ := hI
                          have ea := i1 (by decide)
                          obtain ⟨ir1, ir2⟩ := ir (by decide)
                          have a2 : ρ2 2 = Int32.ofNat h := (hg 2 (by decide)).trans ir2
                          have a4 : ρ2 4 = Int32.ofNat w := (hg 4 (by decide)).trans (i2 rfl)
                          have hk : ∀ a k, ¬ (a = 74 ∧ 36 ≤ k ∧ k ≤ 37) → E2 a k = E a k := by
                            intro a k n0
                            apply hfr
                            cases hq : zyin [(74, 36, 37)] a k with
                            | false => rfl
                            | true =>
                              obtain ⟨p0, g1, g2, g3, g4⟩ := zyin_iff.mp hq
                              simp only [List.mem_cons, List.not_mem_nil, or_false] at g1
                              rcases g1 with rfl
                              · exact absurd ⟨g2.symm, g3, g4⟩ n0
                          have kP : zPn E2 := zPn_fr (fun k k1 k2 => (hk 74 k (by omega)).trans (by rw [ea])) hP
                          have e39 : E2 74 39 = some (.int (Int32.ofNat n)) := (hk 74 39 (by omega)).trans (by rw [ea]; exact s2)
                          have m := zyXm hM 0 rfl
                          have m : E2 74 36 = some (.int (Int32.ofNat 3)) := m
                          exact ⟨fun a k nn => (hk a k (fun z => nn ⟨z.1, by omega⟩)).trans (by rw [ea]), kP, n, n, w, 3, h, _, has, hh1, hh2, zyvo_1 (c := 206158430209) (by decide) (show zyvo (zyXn B ρ2 N2) [206158430209] vo from hvo), s2, e39, Nat.le_refl _, hn, s1, m, by omega, fun h => absurd h (by omega)⟩
    · have hx : x ∈ [zxtkn_br0] := hx
      have hg : ∀ k, k < 4 → ρ2 k = ρ k := hag
      have hI := hInv
      have hI : ∃ h w n : Nat, as = [Int32.ofNat 1, Int32.ofNat h] ∧ 4 ≤ h ∧ h ≤ 5 ∧ w ≤ 9 ∧ E0 74 36 = some (.int (Int32.ofNat w)) ∧ E0 74 39 = some (.int (Int32.ofNat n)) ∧ n ≤ 901 ∧ zPn E0 ∧ (2 ≤ 1 → E = E0) ∧ (2 ≤ 1 → ρ 1 = Int32.ofNat 1 ∧ ρ 2 = Int32.ofNat h) ∧ (2 = 1 → ρ 4 = Int32.ofNat w) ∧ (2 = 2 → zyFtk E0 E ∧ zPn E ∧ w = 0 ∧ E 74 36 = some (.int (Int32.ofNat 0)) ∧ (2147483649 ≤ zB (ρ 3) ∧ zB (ρ 3) ≤ 2147483648 + h) ∧ ∃ n' : Nat, n < n' ∧ n' ≤ 901 ∧ E 74 39 = some (.int (Int32.ofNat n'))) := hI
      obtain ⟨hF, hB, hM⟩ := hXs
      have hEE : E2 = E := zyfr0 hfr
      have ex := List.mem_singleton.mp hx
      subst ex
      obtain ⟨h, w, n, has, hh1, hh2, hw, s1, s2, hn, hP, i1, ir, i2, i3⟩ := hI
      obtain ⟨f1, f2, f4, f5, fb, n2, f6, f7, f8⟩ := i3 rfl
      exact ⟨by rw [hEE]; exact f1, by rw [hEE]; exact f2, n, n2, w, 0, h, _, has, hh1, hh2, zyvo_1 (c := 103079215105) (by decide) (show zyvo (zyXn B ρ2 N2) [103079215105] vo from hvo), s2, by rw [hEE]; exact f8, by omega, f7, s1, by rw [hEE]; exact f5, by omega, fun _ => ⟨f6, f4, by show 2147483649 ≤ zB (ρ2 3); rw [hg 3 (by decide)]; exact fb.1, by show zB (ρ2 3) ≤ _; rw [hg 3 (by decide)]; exact fb.2⟩⟩
end
section
/-! READERS: what is kept while a text is read; the table's readers -/
def zJl (E : zyEm) : Prop := E 75 3 = some (.int (Int32.ofNat 0)) ∧ E 75 4 = some (.int (Int32.ofNat 0)) ∧ zWv E
theorem zJl_J1 {E : zyEm} (h : zJl E) : zJ1 E := fun m hm hms => ⟨zLv_0 (zyI_s h.2.1), h.2.2, fun _ => zyI_s h.2.1⟩
theorem zJl_fr {E E2 : zyEm} (h : ∀ k, (3 ≤ k ∧ k ≤ 5) ∨ (460 ≤ k ∧ k ≤ 519) → E2 75 k = E 75 k) (hJ : zJl E) : zJl E2 := ⟨(h 3 (by omega)).trans hJ.1, (h 4 (by omega)).trans hJ.2.1, zWv_fr (h 5 (by omega)) (fun k _ => h _ (by omega)) hJ.2.2⟩
def zJn (N : Nat) (E : zyEm) : Prop := zJl E ∧ zPn E ∧ ∃ n : Nat, N ≤ n ∧ n ≤ 901 ∧ E 74 39 = some (.int (Int32.ofNat n))
def zyJl (N : Nat) : zyJt := (zJn N, zyRr)
theorem zydl_in {a k : Nat} (h : (a = 75 ∧ 3 ≤ k ∧ k ≤ 5) ∨ (a = 75 ∧ 460 ≤ k ∧ k ≤ 519) ∨ (a = 74 ∧ 38 ≤ k ∧ k ≤ 40)) : zyin zydl a k = true := by
  rw [show zydl = [(75, 3, 5), (75, 460, 519), (74, 38, 40)] from rfl, zyin_iff]
  rcases h with ⟨rfl, a1, a2⟩ | ⟨rfl, a1, a2⟩ | ⟨rfl, a1, a2⟩
  · exact ⟨(75, 3, 5), by simp, rfl, a1, a2⟩
  · exact ⟨(75, 460, 519), by simp, rfl, a1, a2⟩
  · exact ⟨(74, 38, 40), by simp, rfl, a1, a2⟩
theorem zJn_fr {N : Nat} {E E2 : zyEm} (h : ∀ a k, zyin zydl a k = true → E2 a k = E a k) (hJ : zJn N E) : zJn N E2 := by
  obtain ⟨j1, j2, n, j3, j4, j5⟩ := hJ
  exact ⟨zJl_fr (fun k hk => h 75 k (zydl_in (by omega))) j1, zPn_fr (fun k k1 k2 => h 74 k (zydl_in (by omega))) j2, n, j3, j4, (h 74 39 (zydl_in (by omega))).trans j5⟩
theorem zyJl_p (N : Nat) : zyJp zydl (zyJl N) := by
  refine ⟨fun E E2 h hJ => zJn_fr (fun a k hk => (h a k hk).symm) hJ, fun _ _ p hp h0 => ?_, fun _ _ _ _ _ _ h hr => zyRr_congr h hr, fun _ _ _ _ _ h hr => zyRr_grow h hr⟩
  exfalso
  have hp : p ∈ [(75, 3, 5), (75, 460, 519), (74, 38, 40)] := hp
  simp only [List.mem_cons, List.not_mem_nil, or_false] at hp
  rcases hp with rfl | rfl | rfl <;> exact absurd h0 (by decide)
/-- a contract that writes nothing holds with any J -/
theorem zyCon_J {l : Launch} {mi : zyB} {J : zyJt} {en : zEn} {me : zMe} {ct : zyCt} (h : zyCon l mi zyJ0 en me ct) (hfp : ct.2.1 = []) (hJ2 : J.2 = zyRr) {cd : Nat} (hres : ct.2.2.1 = [cd]) : zyCon l mi J en me ct := by
  intro B AsV hA
  have hA0 : zySt (zyX0 B zyJ0) ct.1 AsV := zySt_map (X := zyX0 B J) (X2 := zyX0 B zyJ0) (fun v w h => h) hA
  refine zyMet_pt (fun a s hp => ?_)
  obtain ⟨rfl, hK, hI, hPk⟩ := hp
  refine ⟨_, _, h B AsV hA0, ⟨rfl, hK, ⟨hI.1, hI.2.1, trivial, hI.2.2.2⟩, hPk⟩, fun o t hq => ?_⟩
  obtain ⟨vo, e1, hv, k1, k2, k3, k4, k5⟩ := hq
  have hE : zyEl mi B t.heap = zyEl mi B s.heap := by
    funext a k
    exact k4 a k (by rw [hfp]; rfl)
  refine ⟨vo, e1, ?_, k1, ⟨k2.1, k2.2.1, by rw [hE]; exact hI.2.2.1, k2.2.2.2⟩, k3, k4, k5⟩
  rw [hres] at hv ⊢
  exact hv
theorem zyreadsR {l : Launch} {r c : Nat} (hp : zyPr r c) {en : zEn} {me : zMe} (hen : zG zxMeta 314 = some en) (hme : zG zMeth 314 = some me) : zyHc l (zymr r c) en me 3 0 zyΦrd zyΨrd := zyHc_r (zyreads hen hme) (fun as E E2 vo h k hk => h.2.1 75 k (by omega)) hp
theorem zyreads_L {l : Launch} {r c : Nat} (hp : zyPr r c) (N : Nat) {en : zEn} {me : zMe} (hen : zG zxMeta 314 = some en) (hme : zG zMeth 314 = some me) : zyCon l (zymr r c) (zyJl N) en me ([595], [(74, 38, 41), (74, 43, 43)], [], 3, [(1212456, 73786976346377814050)], []) := by
  refine zyCon_b2 (zyreadsR hp hen hme) rfl rfl (fun B AsV hA => ?_) (fun B xs E E2 vo _ hJ _ hφ hΨ => ?_)
  · obtain ⟨v0, t0, rfl, a0, hA⟩ := zySt_c hA
    have e := zySt_n hA
    subst e
    have e0 : v0 = .ref (zad B 74) := zyv_3 (v := 595) a0 (by decide)
    refine ⟨[], by rw [e0]; rfl, rfl, fun U H hI hP => ?_⟩
    obtain ⟨c0, w, q1, q2, q3, q4, q5⟩ := hP _ List.mem_cons_self
    obtain ⟨z, rfl, b1, b2⟩ := zv_2 (zyv_zv q5 (by decide) (by decide)) (by decide)
    have b1 : 2147483649 ≤ zB z := b1
    have b2 : zB z ≤ 2147483652 := b2
    obtain ⟨o1, o2⟩ := zyOn (show 2147483648 ≤ zB z by omega)
    have q3 : zyEl (zymr r c) B H 74 40 = some (.int z) := q3
    rw [o1] at q3
    obtain ⟨j1, j2, n, j3, j4, j5⟩ := hI.2.2.1
    rcases j2 _ (by omega) q3 with q | ⟨⟨n9, h1, h2⟩, -⟩
    · omega
    · exact ⟨n9, h1, h2⟩
  · have hPn := zPn_rd hΨ
    obtain ⟨ev, p1, q0, n2, u2, p2, p3, p4, p5, p6, -⟩ := hΨ
    obtain ⟨j1, j2, n, j3, j4, j5⟩ := hJ
    rw [j5] at p3
    have e := zyOi (by omega) (by omega) (Value.int.inj (Option.some.inj p3))
    refine ⟨⟨zJl_fr (fun k _ => p1 75 k (by omega)) j1, hPn, n2, by omega, p5, p6⟩, fun a cl k hg hk hz => p1 a k (fun z => ?_), by rw [ev]; trivial⟩
    have hh : zyin [(74, 38, 41), (74, 43, 43)] a k = true := zyin_iff.mpr (by
      obtain ⟨rfl, z⟩ := z
      rcases z with z | z
      · exact ⟨(74, 38, 41), by simp, rfl, z.1, z.2⟩
      · exact ⟨(74, 43, 43), by simp, rfl, by dsimp only; omega, by dsimp only; omega⟩)
    have hz : zyin [(74, 38, 41), (74, 43, 43)] a k = false := hz
    rw [hh] at hz
    cases hz
theorem zyrefL {l : Launch} {r c : Nat} (hp : zyPr r c) (N : Nat) : ∀ i, i < 8 → zyCo l (zymr r c) (zyJl N) (zyil r c) i := by
  obtain ⟨h1, h2, h3, h4⟩ := hp
  intro i
  induction i using Nat.strongRecOn with
  | ind i IH =>
    intro hi
    have IH' : ∀ d, d < i → zyCo l (zymr r c) (zyJl N) (zyil r c) d := fun d hd => IH d hd (by omega)
    by_cases e0 : i = 0
    · subst e0
      exact fun en me he hm => zyCon_J (zyrefA zyJ0_r h1 h2 h3 h4 13 (by decide) en me he hm) rfl rfl rfl
    by_cases e1 : i = 1
    · subst e1
      exact fun en me he hm => zyCon_J (zyrefA zyJ0_r h1 h2 h3 h4 16 (by decide) en me he hm) rfl rfl rfl
    by_cases e2 : i = 2
    · subst e2
      exact fun en me he hm => zyreads_L ⟨h1, h2, h3, h4⟩ N he hm
    by_cases b3 : 3 ≤ i ∧ i < 8
    · exact zychk_ok (zychks_iff (zyAllP_iff zyll3 h1 h2 h3 h4) i (by omega) (by omega)) (zyJl_p N) IH'
    omega
/-- what readers keep -/
def zyΦl (_ : List Int32) (E : zyEm) : Prop := zJl E ∧ zPn E ∧ E 74 36 = some (.int (Int32.ofNat 0)) ∧ E 74 40 = some (.int (Int32.ofNat 1))
def zyKl (E E2 : zyEm) : Prop := zJl E2 ∧ zPn E2 ∧ E2 74 33 = E 74 33 ∧ (∀ k, E2 76 k = E 76 k) ∧ ∃ n n' : Nat, E 74 39 = some (.int (Int32.ofNat n)) ∧ E2 74 39 = some (.int (Int32.ofNat n')) ∧ n ≤ n' ∧ n' ≤ 901
def zyΨl (_ : List Int32) (E E2 : zyEm) (vo : Option Value) : Prop := vo = none ∧ zyKl E E2
theorem zyHc_l {l : Launch} {r c : Nat} {en : zEn} {me : zMe} {ct : zyCt} (h : ∀ N, zyCon l (zymr r c) (zyJl N) en me ct) {dep : Nat} (hd : ct.2.2.2.1 = dep) (ha : ct.1 = [595]) (hpre : ct.2.2.2.2.1 = [(1212452, 0), (1212456, 8)]) (hres : ct.2.2.1 = []) (hf : ∀ a k, zyin ct.2.1 a k = true → a = 75 ∨ (a = 74 ∧ 36 ≤ k)) : zyHc l (zymr r c) en me dep 0 zyΦl zyΨl := by
  intro B xs hl
  cases xs with
  | cons x t => cases hl
  | nil =>
    refine zyMet_pt (fun a s hp => ?_)
    obtain ⟨rfl, hK, hI, j1, j2, j3, j4⟩ := hp
    obtain ⟨x, ex, b1, b2⟩ := (zyTy_of hI 74 zymr74 39 rfl (show 39 < 49 by decide) (39, 39, 73786976312018082858) (List.mem_of_getElem? (i := 39) rfl) (Nat.le_refl _) (Nat.le_refl _)).1 rfl
    have b1 : 2147483648 ≤ zB x := b1
    have b2 : zB x ≤ 2147484549 := b2
    obtain ⟨o1, o2⟩ := zyOn b1
    have hA : zySt (zyX0 B (zyJl (zyN1 x))) ct.1 (zyAr B []) := by rw [ha]; exact ⟨zy595, trivial⟩
    have hm := h (zyN1 x) B (zyAr B []) hA
    rw [hd] at hm
    have hpk : zyPk (zymr r c) B ct.2.2.2.2.1 s.heap := by
      rw [hpre]
      intro p hp
      simp only [List.mem_cons, List.not_mem_nil, or_false] at hp
      rcases hp with rfl | rfl
      · exact ⟨zymr74, _, rfl, show 36 < 49 by decide, j3, by decide, show zyv (fun _ => 0) 0 (zad B) (8 * 0) (.int (Int32.ofNat 0)) from zyv_mk rfl⟩
      · exact ⟨zymr74, _, rfl, show 40 < 49 by decide, j4, by decide, show zyv (fun _ => 0) 0 (zad B) (8 * 1) (.int (Int32.ofNat 1)) from zyv_mk rfl⟩
    refine ⟨_, _, hm, ⟨rfl, hK, ⟨hI.1, hI.2.1, ⟨j1, j2, zyN1 x, Nat.le_refl _, by omega, by rw [← o1]; exact ex⟩, hI.2.2.2⟩, hpk⟩, fun o t hq => ?_⟩
    obtain ⟨vo, e1, hv, k1, k2, k3, k4, k5⟩ := hq
    rw [hres] at hv
    have ev : vo = none := by
      cases vo with
      | none => rfl
      | some z => exact hv.elim
    obtain ⟨g1, g2, n', g3, g4, g5⟩ := k2.2.2.1
    have nf : ∀ a k, ¬ (a = 75 ∨ (a = 74 ∧ 36 ≤ k)) → zyEl (zymr r c) B t.heap a k = zyEl (zymr r c) B s.heap a k := by
      intro a k n
      apply k4
      cases hq : zyin ct.2.1 a k with
      | false => rfl
      | true => exact absurd (hf a k hq) n
    exact ⟨vo, e1, k1, ⟨k2.1, k2.2.1, trivial, k2.2.2.2⟩, ⟨ev, g1, g2, nf 74 33 (by omega), fun k => nf 76 k (by omega), zyN1 x, n', by rw [← o1]; exact ex, g5, g3, g4⟩, k5⟩
section YHXL
variable {l : Launch} {r c : Nat} {en : zEn} {me : zMe}
theorem zyreadsSwitch_L (hp : zyPr r c) (hen : zG zxMeta 321 = some en) (hme : zG zMeth 321 = some me) : zyHc l (zymr r c) en me 6 0 zyΦl zyΨl := by
  refine zyHc_l (fun N => zyrefL hp N 3 (by decide) en me hen hme) rfl rfl rfl rfl (fun a k h => ?_)
  obtain ⟨p0, g1, g2, g3, g4⟩ := zyin_iff.mp h
  have g1 : p0 ∈ [(74, 36, 41), (74, 43, 43), (75, 8, 38), (75, 40, 70)] := g1
  simp only [List.mem_cons, List.not_mem_nil, or_false] at g1
  rcases g1 with rfl | rfl | rfl | rfl <;> dsimp only at g2 g3 g4 <;> omega
theorem zyreadsBobbin_L (hp : zyPr r c) (hen : zG zxMeta 322 = some en) (hme : zG zMeth 322 = some me) : zyHc l (zymr r c) en me 9 0 zyΦl zyΨl := by
  refine zyHc_l (fun N => zyrefL hp N 4 (by decide) en me hen hme) rfl rfl rfl rfl (fun a k h => ?_)
  obtain ⟨p0, g1, g2, g3, g4⟩ := zyin_iff.mp h
  have g1 : p0 ∈ [(74, 36, 41), (74, 43, 43), (75, 2, 2), (75, 136, 159)] := g1
  simp only [List.mem_cons, List.not_mem_nil, or_false] at g1
  rcases g1 with rfl | rfl | rfl | rfl <;> dsimp only at g2 g3 g4 <;> omega
theorem zyreadsStuck_L (hp : zyPr r c) (hen : zG zxMeta 323 = some en) (hme : zG zMeth 323 = some me) : zyHc l (zymr r c) en me 6 0 zyΦl zyΨl := by
  refine zyHc_l (fun N => zyrefL hp N 5 (by decide) en me hen hme) rfl rfl rfl rfl (fun a k h => ?_)
  obtain ⟨p0, g1, g2, g3, g4⟩ := zyin_iff.mp h
  have g1 : p0 ∈ [(74, 36, 41), (74, 43, 43), (75, 72, 102)] := g1
  simp only [List.mem_cons, List.not_mem_nil, or_false] at g1
  rcases g1 with rfl | rfl | rfl <;> dsimp only at g2 g3 g4 <;> omega
theorem zyreadsFree_L (hp : zyPr r c) (hen : zG zxMeta 324 = some en) (hme : zG zMeth 324 = some me) : zyHc l (zymr r c) en me 6 0 zyΦl zyΨl := by
  refine zyHc_l (fun N => zyrefL hp N 6 (by decide) en me hen hme) rfl rfl rfl rfl (fun a k h => ?_)
  obtain ⟨p0, g1, g2, g3, g4⟩ := zyin_iff.mp h
  have g1 : p0 ∈ [(74, 36, 41), (74, 43, 43), (75, 104, 134)] := g1
  simp only [List.mem_cons, List.not_mem_nil, or_false] at g1
  rcases g1 with rfl | rfl | rfl <;> dsimp only at g2 g3 g4 <;> omega
theorem zyreadsPlace_L (hp : zyPr r c) (hen : zG zxMeta 325 = some en) (hme : zG zMeth 325 = some me) : zyHc l (zymr r c) en me 6 0 zyΦl zyΨl := by
  refine zyHc_l (fun N => zyrefL hp N 7 (by decide) en me hen hme) rfl rfl rfl rfl (fun a k h => ?_)
  obtain ⟨p0, g1, g2, g3, g4⟩ := zyin_iff.mp h
  have g1 : p0 ∈ [(74, 36, 41), (74, 43, 43), (75, 152, 159)] := g1
  simp only [List.mem_cons, List.not_mem_nil, or_false] at g1
  rcases g1 with rfl | rfl | rfl <;> dsimp only at g2 g3 g4 <;> omega
end YHXL
end
section
/-! phases: readsWord (printed by yexn.py) -/
noncomputable def zxrwd_ax0 : zyXp := (1, [595, 13], [595], [], [], [])
noncomputable def zprwd_a : zyPh := (0, [595, 13], [(0, 4294967295), (0, 4294967295)], [], [])
noncomputable def zxrwd_bx0 : zyXp := (11, [595, 13], [], [], [], [(1228805, 0)])
noncomputable def zprwd_b : zyPh := (4, [595, 13], [(0, 4294967295), (0, 4294967295)], [], [])
noncomputable def zxrwd_cx0 : zyXp := (29, [595, 13], [360, 595], [(24, 68719476737, 74, 288), (24, 103079215105, 74, 320)], [(68719476737, 2147483648, 2147483648), (103079215105, 2147483651, 2147483652)], [])
noncomputable def zxrwd_cx1 : zyXp := (29, [595, 13], [360, 595], [(24, 68719476737, 74, 288), (24, 103079215105, 74, 320)], [(68719476737, 2147483648, 2147483648), (103079215105, 2147483648, 2147483649)], [])
noncomputable def zxrwd_cx2 : zyXp := (38, [595, 13], [360, 595], [(24, 68719476737, 74, 288), (24, 103079215105, 74, 320)], [(68719476737, 2147483648, 2147483648), (103079215105, 2147483650, 2147483650)], [])
noncomputable def zxrwd_cr0 : zyXp := (0, [], [], [], [], [])
noncomputable def zprwd_c : zyPh := (11, [595, 13], [(0, 4294967295), (0, 4294967295)], [], [])
noncomputable def zxrwd_dx0 : zyXp := (38, [595, 13], [360, 595], [(23, 0, 68719476737, 0)], [(68719476737, 2147483649, 2147483649)], [])
noncomputable def zxrwd_dr0 : zyXp := (0, [], [], [], [], [])
noncomputable def zprwd_d : zyPh := (32, [595, 13], [(0, 4294967295), (0, 4294967295), (2147483648, 2147483649)], [], [68719476737])
noncomputable def zxrwd_ex0 : zyXp := (47, [595, 68719476737], [595], [], [(68719476737, 2147483649, 2147483649)], [])
noncomputable def zxrwd_ex1 : zyXp := (50, [595, 68719476737], [], [], [(68719476737, 2147483648, 2147483648)], [])
noncomputable def zprwd_e : zyPh := (41, [595, 13], [(0, 4294967295), (0, 4294967295), (2147483648, 2147483649)], [], [68719476737])
noncomputable def zxrwd_fx0 : zyXp := (118, [595, 13], [206158430209, 171798695521, 603], [(24, 103079215105, 74, 320), (24, 137438953473, 74, 328), (24, 171798691841, 75, 40), (2, 206158430209, 0, 137438953473)], [(103079215105, 2147483650, 2147483650), (137438953473, 2147483649, 2147483655), (171798691841, 2147483647, 2147483707), (206158430209, 2147483641, 2147483647), (171798695521, 2147484107, 2147484167)], [(1212452, 68719476737)])
noncomputable def zxrwd_fx1 : zyXp := (118, [595, 13], [137438953473, 171798695521, 603], [(24, 103079215105, 74, 320), (24, 137438953473, 74, 328), (24, 171798691841, 75, 40)], [(103079215105, 2147483650, 2147483650), (137438953473, 2147483649, 2147483655), (171798691841, 2147483647, 2147483707), (171798695521, 2147484107, 2147484167)], [(1212452, 68719476737)])
noncomputable def zxrwd_fr0 : zyXp := (0, [], [], [], [], [(1212452, 16)])
noncomputable def zxrwd_fr1 : zyXp := (0, [], [], [], [], [(1212452, 8)])
noncomputable def zxrwd_fr2 : zyXp := (0, [], [], [], [], [(1212452, 24)])
noncomputable def zxrwd_fr3 : zyXp := (0, [], [], [], [], [(1212452, 48)])
noncomputable def zprwd_f : zyPh := (50, [595, 34359738369], [(0, 4294967295), (2147483648, 2147483649), (2147483648, 2147483648)], [(1212452, 68719476737)], [])
noncomputable def zxrwd_gx0 : zyXp := (130, [595, 13], [595], [], [], [(1228805, 68719476745)])
noncomputable def zprwd_g : zyPh := (119, [595, 13], [(0, 4294967295), (0, 4294967295), (2147483648, 2147483707)], [(1228805, 68719476737)], [])
noncomputable def zxrwd_hx0 : zyXp := (11, [595, 13], [], [], [], [])
noncomputable def zprwd_h : zyPh := (133, [595, 13], [(0, 4294967295), (0, 4294967295)], [], [])
noncomputable def zxrwd_kx0 : zyXp := (50, [595, 34359738369], [], [], [(34359738369, 2147483648, 2147483649)], [])
noncomputable def zprwd_k : zyPh := (50, [595, 34359738369], [(0, 4294967295), (2147483648, 2147483649)], [], [])
noncomputable def zxrwd_mx0 : zyXp := (119, [595, 13], [], [], [], [])
noncomputable def zprwd_m : zyPh := (119, [595, 13], [(0, 4294967295), (0, 4294967295)], [], [])
noncomputable def zprwd (i : Nat) : zyPh := zif (Nat.beq i 0) (zprwd_a) (zif (Nat.beq i 1) (zprwd_b) (zif (Nat.beq i 2) (zprwd_c) (zif (Nat.beq i 3) (zprwd_d) (zif (Nat.beq i 4) (zprwd_e) (zif (Nat.beq i 5) (zprwd_f) (zif (Nat.beq i 6) (zprwd_g) (zif (Nat.beq i 7) (zprwd_h) (zif (Nat.beq i 8) (zprwd_k) (zprwd_m)))))))))
noncomputable def zXrwd (i : Nat) : List zyXp := zif (Nat.beq i 0) ([zxrwd_ax0]) (zif (Nat.beq i 1) ([zxrwd_bx0]) (zif (Nat.beq i 2) ([zxrwd_cx0, zxrwd_cx1, zxrwd_cx2]) (zif (Nat.beq i 3) ([zxrwd_dx0]) (zif (Nat.beq i 4) ([zxrwd_ex0, zxrwd_ex1]) (zif (Nat.beq i 5) ([zxrwd_fx0, zxrwd_fx1]) (zif (Nat.beq i 6) ([zxrwd_gx0]) (zif (Nat.beq i 7) ([zxrwd_hx0]) (zif (Nat.beq i 8) ([zxrwd_kx0]) ([zxrwd_mx0])))))))))
noncomputable def zRrwd (i : Nat) : List zyXp := zif (Nat.beq i 0) ([]) (zif (Nat.beq i 1) ([]) (zif (Nat.beq i 2) ([zxrwd_cr0]) (zif (Nat.beq i 3) ([zxrwd_dr0]) (zif (Nat.beq i 4) ([]) (zif (Nat.beq i 5) ([zxrwd_fr0, zxrwd_fr1, zxrwd_fr2, zxrwd_fr3]) (zif (Nat.beq i 6) ([]) (zif (Nat.beq i 7) ([]) (zif (Nat.beq i 8) ([]) ([])))))))))
noncomputable def zFrwd (i : Nat) : zyR := zif (Nat.beq i 0) ([]) (zif (Nat.beq i 1) ([(75, 5, 5)]) (zif (Nat.beq i 2) ([]) (zif (Nat.beq i 3) ([]) (zif (Nat.beq i 4) ([]) (zif (Nat.beq i 5) ([(74, 36, 37)]) (zif (Nat.beq i 6) ([(75, 5, 5)]) (zif (Nat.beq i 7) ([]) (zif (Nat.beq i 8) ([]) ([])))))))))
noncomputable def zSrwd (i : Nat) : Nat := zif (Nat.beq i 0) (0) (zif (Nat.beq i 1) (0) (zif (Nat.beq i 2) (0) (zif (Nat.beq i 3) (0) (zif (Nat.beq i 4) (0) (zif (Nat.beq i 5) (0) (zif (Nat.beq i 6) (0) (zif (Nat.beq i 7) (0) (zif (Nat.beq i 8) (0) (0)))))))))
end
section
/-! THE WISHED WORD is read -/
theorem zcr_wis : zyAllP (fun r c => zyall (zyrok 2147483641 2147483655) 460 519 (zymr75 r c).2.2) = true := by decide +kernel
theorem zyisSignR {l : Launch} {r c : Nat} (hp : zyPr r c) {en : zEn} {me : zMe} (hen : zG zxMeta 317 = some en) (hme : zG zMeth 317 = some me) : zyHc l (zymr r c) en me 2 1 zyΦsg zyΨsg := zyHc_r (zyisSign hen hme) (fun as E E2 vo h k hk => by rw [h.1]) hp
theorem zc74r {r c : Nat} {E : zyEm} (hT : zyTy (zymr r c) E) {k lo hi : Nat} (hk : k < 49) (hr : zymr74.2.2[k]? = some (k, k, 8 * (lo * 4294967296 + hi) + 2)) (h1 : 2147483648 ≤ lo) (h2 : hi < 4294967296) : ∃ v, v + 2147483648 ≤ hi ∧ E 74 k = some (.int (Int32.ofNat v)) := by
  obtain ⟨x, e, b1, b2⟩ := (hT 74 zymr74 k rfl (show k < 49 from hk) _ (List.mem_of_getElem? hr) (Nat.le_refl _) (Nat.le_refl _)).1 (by dsimp only; omega)
  dsimp only at b1 b2
  have b1 : 2147483648 ≤ zB x := by omega
  obtain ⟨o1, o2⟩ := zyOn b1
  exact ⟨zyN1 x, by omega, by rw [← o1]; exact e⟩
/-- letters wished up to one -/
def zWk (E : zyEm) (W : Nat) : Prop := ∀ k, k < W → ¬ zyI E 75 (460 + k) = Int32.ofNat 0
theorem zWk_v {E : zyEm} {W : Nat} (hW : W ≤ 60) (h5 : E 75 5 = some (.int (Int32.ofNat W))) (h : zWk E W) : zWv E := fun k hk hl => by
  rw [zyI_s h5, zyOl (by omega) (by omega)] at hl
  exact h k hl
theorem zWk_fr {E E2 : zyEm} {W : Nat} (hW : W ≤ 60) (h : ∀ k, 460 ≤ k → k < 520 → E2 75 k = E 75 k) (hk : zWk E W) : zWk E2 W := fun k hlt => by
  rw [zyI_eq (h (460 + k) (by omega) (by omega))]
  exact hk k hlt
def zyIrw (i W n0 n : Nat) (E0 : zyEm) (ρ : Nat → Int32) (E : zyEm) : Prop := (E 75 3 = some (.int (Int32.ofNat 0)) ∧ E 75 4 = some (.int (Int32.ofNat 0))) ∧ zPn E ∧ E 74 33 = E0 74 33 ∧ (∀ k, E 76 k = E0 76 k) ∧ (E0 74 39 = some (.int (Int32.ofNat n0)) ∧ E 74 39 = some (.int (Int32.ofNat n)) ∧ n0 ≤ n ∧ n ≤ 901) ∧ (i = 0 → E 74 40 = some (.int (Int32.ofNat 1))) ∧ (i = 0 ∨ i = 1 ∨ i = 3 ∨ i = 4 ∨ i = 5 ∨ i = 6 ∨ i = 8 ∨ i = 9 → E 74 36 = some (.int (Int32.ofNat 0))) ∧ (2 ≤ i → W ≤ 60 ∧ E 75 5 = some (.int (Int32.ofNat W)) ∧ zWk E W) ∧ (i = 3 → ρ 2 = 1 → E 74 40 = some (.int (Int32.ofNat 3))) ∧ (i = 4 → ρ 2 = 1 → E 74 40 = some (.int (Int32.ofNat 3))) ∧ (i = 6 ∨ i = 9 → W ≤ 59 ∧ E 74 40 = some (.int (Int32.ofNat 2)) ∧ ¬ zyI E 75 (460 + W) = Int32.ofNat 0) ∧ (i = 6 → ρ 2 = Int32.ofNat W) ∧ (i = 5 → ρ 2 = Int32.ofNat 0)
theorem zyrwd_run : zyAllP (fun r c => zyrS (zymr r c) zxi326 (326, 0, 0, 0, 0) 5 zprwd (fun _ _ => []) zFrwd zSrwd zXrwd zRrwd 10) = true := by decide +kernel
theorem zyreadsWord {l : Launch} {r c : Nat} (h1 : 1 ≤ r) (h2 : r ≤ 4) (h3 : 1 ≤ c) (h4 : c ≤ 5) {en : zEn} {me : zMe} (hen : zG zxMeta 326 = some en) (hme : zG zMeth 326 = some me) : zyHc l (zymr r c) en me 5 0 zyΦl zyΨl := by
  have een : zG zxMeta 326 = some (zxi326, 1, 2, 11, 326, 0, 0, 0, 0) := rfl
  obtain ⟨me1, hme1, hOK⟩ := zall hen
  rw [hme] at hme1
  cases hme1
  rw [een] at hen
  cases hen
  have hr := zyAllP_iff zyrwd_run h1 h2 h3 h4
  obtain ⟨merd, hmerd, -⟩ := zall (show zG zxMeta 314 = some (zxi314, 1, 1, 11, 314, 0, 0, 0, 0) from rfl)
  have hrd := zyreadsR (l := l) (r := r) (c := c) ⟨h1, h2, h3, h4⟩ (show zG zxMeta 314 = some (zxi314, 1, 1, 11, 314, 0, 0, 0, 0) from rfl) hmerd
  obtain ⟨mesg, hmesg, -⟩ := zall (show zG zxMeta 317 = some (zxi317, 2, 2, 11, 317, 0, 0, 2, 0) from rfl)
  have hsg := zyisSignR (l := l) (r := r) (c := c) ⟨h1, h2, h3, h4⟩ (show zG zxMeta 317 = some (zxi317, 2, 2, 11, 317, 0, 0, 2, 0) from rfl) hmesg
  refine zycutS (mi := zymr r c) hOK rfl rfl ⟨_, rfl, rfl⟩ (ι := Fin 10) (fun i => zprwd i.val) (fun _ _ => []) (fun i => zFrwd i.val) (fun i => zSrwd i.val) (fun i => zXrwd i.val) (fun i => zRrwd i.val) (fun i y2 ct en2 me2 h => by cases h) 200000 (fun i => zyAll_iff hr i.val i.isLt) ⟨0, by decide⟩ ⟨rfl, rfl, rfl, rfl⟩ ⟨by decide, by decide⟩
    (fun i as E0 ρ E => ∃ W n0 n : Nat, zyIrw i.val W n0 n E0 ρ E) (fun i as E0 ρ E => if i.val = 0 then 100000 else if i.val = 1 then 90000 else 20 * (902 - zyN1 (zyI E 74 39)) + (if i.val = 2 then 18 else if i.val = 3 then 17 else if i.val = 4 then 16 else if i.val = 8 then 15 else if i.val = 5 then 14 else if i.val = 9 then 13 else if i.val = 6 then 12 else 19)) ?_ ?_ ?_
  · intro as E hlen hT hΦ
    obtain ⟨⟨j1, j2, j3⟩, hP, w0, so⟩ := hΦ
    obtain ⟨n, hn, s1⟩ := zc74r hT (k := 39) (lo := 2147483648) (hi := 2147484549) (by decide) rfl (by decide) (by decide)
    exact ⟨zEnv_c (zyfull _) (zEnv_c (zyfull _) zEnv_nil), 0, n, n, ⟨j1, j2⟩, hP, rfl, fun _ => rfl, ⟨s1, s1, Nat.le_refl _, by omega⟩, fun _ => so, fun _ => w0, fun h => absurd (show 2 ≤ 0 from h) (by decide), fun h => absurd (show 0 = 3 from h) (by decide), fun h => absurd (show 0 = 4 from h) (by decide), fun h => absurd (show 0 = 6 ∨ 0 = 9 from h) (by decide), fun h => absurd (show 0 = 6 from h) (by decide), fun h => absurd (show 0 = 5 from h) (by decide)⟩
  · intro as B s Wg hRu hT0 hΦ hlen i ρ H hT hInv hIH x hx ρ2 N2 H2 locs lsB stA hAt hXs hag hfr hT2
    rcases i with ⟨i, hi⟩
    have hi2 : i = 0 ∨ i = 1 ∨ i = 2 ∨ i = 3 ∨ i = 4 ∨ i = 5 ∨ i = 6 ∨ i = 7 ∨ i = 8 ∨ i = 9 := by omega
    rcases hi2 with rfl | rfl | rfl | rfl | rfl | rfl | rfl | rfl | rfl | rfl
    · have hx : x ∈ [zxrwd_ax0] := hx
      have hg : ∀ k, k < 2 → ρ2 k = ρ k := hag
      have hI := hInv
      have hI : ∃ W n0 n : Nat, zyIrw 0 W n0 n (zyEl (zymr r c) B s.heap) ρ (zyEl (zymr r c) B H) := hI
      obtain ⟨hF, hB, hM⟩ := hXs
      have hEE : (zyEl (zymr r c) B H2) = (zyEl (zymr r c) B H) := zyfr0 hfr
      have ex := List.mem_singleton.mp hx
      subst ex
      obtain ⟨W, n0, n, ⟨jT, jL⟩, hP, t33, t76, ⟨s0, s1, hn0, hn⟩, i0, iw, iW, i3, i4, i69, i6, i5⟩ := hI
      have so := i0 rfl
      have w0 := iw (Or.inl rfl)
      rw [← hEE] at jT jL hP t33 s1 so w0
      have t76 : ∀ k, (zyEl (zymr r c) B H2) 76 k = (zyEl (zymr r c) B s.heap) 76 k := fun k => by rw [hEE]; exact t76 k
      rcases hP 1 (by decide) so with q | ⟨⟨n9, hn9, en9⟩, -⟩
      · cases q
      have e39 : (zyEl (zymr r c) B H2) 74 39 = some (.int (Int32.ofNat n)) := s1
      rw [e39] at en9
      have enn := zyOi (by omega) (by omega) (Value.int.inj (Option.some.inj en9))
      refine zyCa0 hRu hIH hAt hB hrd (ix := 450) (ax := 5024) rfl rfl rfl hmerd ⟨rfl, rfl, rfl, rfl⟩ (by decide) [] rfl (by decide) rfl ⟨1, by decide⟩ [595, 0] rfl rfl rfl rfl ?_ ?_
      · show zyΦrd [] _
        exact ⟨n, by omega, e39⟩
      · intro E3 vo hT3 hΨ
        have hΨ : zyΨrd [] _ E3 vo := hΨ
        have hPn := zPn_rd hΨ
        obtain ⟨ev, p1, q0, n2, u2, p2, p3, p4, p5, p6, -⟩ := hΨ
        rw [e39] at p3
        have eq0 := zyOi (by omega) (by omega) (Value.int.inj (Option.some.inj p3))
        refine ⟨ev, ⟨0, n0, n2, ⟨(p1 75 3 (by omega)).trans jT, (p1 75 4 (by omega)).trans jL⟩, hPn, (p1 74 33 (by omega)).trans t33, fun k => (p1 76 k (by omega)).trans (t76 k), ⟨s0, p6, by omega, p5⟩, fun h => absurd (show 1 = 0 from h) (by decide), fun _ => (p1 74 36 (by omega)).trans w0, fun h => absurd (show 2 ≤ 1 from h) (by decide), fun h => absurd (show 1 = 3 from h) (by decide), fun h => absurd (show 1 = 4 from h) (by decide), fun h => absurd (show 1 = 6 ∨ 1 = 9 from h) (by decide), fun h => absurd (show 1 = 6 from h) (by decide), fun h => absurd (show 1 = 5 from h) (by decide)⟩, ?_⟩
        show 90000 < 100000
        decide
    · have hx : x ∈ [zxrwd_bx0] := hx
      have hg : ∀ k, k < 2 → ρ2 k = ρ k := hag
      have hI := hInv
      have hI : ∃ W n0 n : Nat, zyIrw 1 W n0 n (zyEl (zymr r c) B s.heap) ρ (zyEl (zymr r c) B H) := hI
      obtain ⟨hF, hB, hM⟩ := hXs
      have hfr : ∀ a k, zyin [(75, 5, 5)] a k = false → (zyEl (zymr r c) B H2) a k = (zyEl (zymr r c) B H) a k := hfr
      have ex := List.mem_singleton.mp hx
      subst ex
      obtain ⟨W, n0, n, ⟨jT, jL⟩, hP, t33, t76, ⟨s0, s1, hn0, hn⟩, i0, iw, iW, i3, i4, i69, i6, i5⟩ := hI
      have hk : ∀ a k, ¬ (a = 75 ∧ 5 ≤ k ∧ k ≤ 5) → (zyEl (zymr r c) B H2) a k = (zyEl (zymr r c) B H) a k := by
        intro a k n0
        apply hfr
        cases hq : zyin [(75, 5, 5)] a k with
        | false => rfl
        | true =>
          obtain ⟨p0, g1, g2, g3, g4⟩ := zyin_iff.mp hq
          simp only [List.mem_cons, List.not_mem_nil, or_false] at g1
          rcases g1 with rfl
          · exact absurd ⟨g2.symm, g3, g4⟩ n0
      have m := zyXm hM 0 rfl
      have m : zyEl (zymr r c) B H2 75 5 = some (.int (Int32.ofNat 0)) := m
      have s2 := (hk 74 39 (by omega)).trans s1
      refine zyGoB hIH hAt hB ⟨2, by decide⟩ [595, 0] rfl rfl rfl rfl ⟨0, n0, n, ⟨(hk 75 3 (by omega)).trans jT, (hk 75 4 (by omega)).trans jL⟩, zPn_fr (fun k _ _ => hk 74 k (by omega)) hP, (hk 74 33 (by omega)).trans t33, fun k => (hk 76 k (by omega)).trans (t76 k), ⟨s0, s2, hn0, hn⟩, fun h => absurd (show 2 = 0 from h) (by decide), fun h => absurd (show 2 = 0 ∨ 2 = 1 ∨ 2 = 3 ∨ 2 = 4 ∨ 2 = 5 ∨ 2 = 6 ∨ 2 = 8 ∨ 2 = 9 from h) (by decide), fun _ => ⟨Nat.zero_le _, m, fun k hk0 => absurd hk0 (Nat.not_lt_zero k)⟩, fun h => absurd (show 2 = 3 from h) (by decide), fun h => absurd (show 2 = 4 from h) (by decide), fun h => absurd (show 2 = 6 ∨ 2 = 9 from h) (by decide), fun h => absurd (show 2 = 6 from h) (by decide), fun h => absurd (show 2 = 5 from h) (by decide)⟩ ?_
      show 20 * (902 - zyN1 (zyI (zyEl (zymr r c) B H2) 74 39)) + 18 < 90000
      omega
    · have hx : x ∈ [zxrwd_cx0, zxrwd_cx1, zxrwd_cx2] := hx
      have hg : ∀ k, k < 2 → ρ2 k = ρ k := hag
      have hI := hInv
      have hI : ∃ W n0 n : Nat, zyIrw 2 W n0 n (zyEl (zymr r c) B s.heap) ρ (zyEl (zymr r c) B H) := hI
      obtain ⟨hF, hB, hM⟩ := hXs
      have hEE : (zyEl (zymr r c) B H2) = (zyEl (zymr r c) B H) := zyfr0 hfr
      rcases List.mem_cons.mp hx with ex | hx
      · subst ex
        obtain ⟨W, n0, n, ⟨jT, jL⟩, hP, t33, t76, ⟨s0, s1, hn0, hn⟩, i0, iw, iW, i3, i4, i69, i6, i5⟩ := hI
        obtain ⟨hW, w5, wk⟩ := iW (by decide)
        obtain ⟨na, ua1, ua2, ua3⟩ := zyXe hF 0 rfl
        have ua1 : Int32.ofNat 36 = Int32.ofNat na := ua1
        have ua3 : (zyEl (zymr r c) B H) 74 na = some (.int (ρ2 2)) := ua3
        have ea := zyOi (by omega) (by omega) ua1
        subst ea
        obtain ⟨nb, ub1, ub2, ub3⟩ := zyXe hF 1 rfl
        have ub1 : Int32.ofNat 40 = Int32.ofNat nb := ub1
        have ub3 : (zyEl (zymr r c) B H) 74 nb = some (.int (ρ2 3)) := ub3
        have eb := zyOi (by omega) (by omega) ub1
        subst eb
        have bw := zyXb hB 0 rfl
        have bw : 2147483648 ≤ zB (ρ2 2) ∧ zB (ρ2 2) ≤ 2147483648 := bw
        obtain ⟨ow, ow2⟩ := zyOn bw.1
        rw [ow, show zyN1 (ρ2 2) = 0 by omega] at ua3
        refine zyCa1 hRu hIH hAt hB hsg (ix := 466) (ax := 5072) rfl rfl rfl hmesg ⟨rfl, rfl, rfl, rfl⟩ (by decide) [360] rfl (by decide) rfl ⟨3, by decide⟩ [595, 0] [(0, 4294967295), (0, 4294967295)] 2147483648 2147483649 rfl (by decide) rfl rfl rfl rfl rfl ?_ ?_
        · show zyΦsg _ _
          rw [hEE]
          exact ⟨hP, _, rfl⟩
        · intro E3 vo hT3 hΨ
          obtain ⟨e3, z, ez, hz, hz1⟩ := (show zyΨsg _ _ E3 vo from hΨ)
          rw [hEE] at e3 hz1
          subst e3
          refine ⟨z, ez, ?_, ?_, ⟨W, n0, n, ⟨jT, jL⟩, hP, t33, t76, ⟨s0, s1, hn0, hn⟩, fun h => absurd (show 3 = 0 from h) (by decide), fun _ => ua3, fun _ => ⟨hW, w5, wk⟩, fun q => fun q2 => (hz1 (zyρi_e.symm.trans q2)).2, fun h => absurd (show 3 = 4 from h) (by decide), fun h => absurd (show 3 = 6 ∨ 3 = 9 from h) (by decide), fun h => absurd (show 3 = 6 from h) (by decide), fun h => absurd (show 3 = 5 from h) (by decide)⟩, ?_⟩
          · rcases hz with rfl | rfl <;> decide
          · rcases hz with rfl | rfl <;> decide
          · show 20 * (902 - zyN1 (zyI (zyEl (zymr r c) B H) 74 39)) + 17 < 20 * (902 - zyN1 (zyI (zyEl (zymr r c) B H) 74 39)) + 18
            rw [zyI_s s1]
            omega
      · skip
        rcases List.mem_cons.mp hx with ex | hx
        · subst ex
          obtain ⟨W, n0, n, ⟨jT, jL⟩, hP, t33, t76, ⟨s0, s1, hn0, hn⟩, i0, iw, iW, i3, i4, i69, i6, i5⟩ := hI
          obtain ⟨hW, w5, wk⟩ := iW (by decide)
          obtain ⟨na, ua1, ua2, ua3⟩ := zyXe hF 0 rfl
          have ua1 : Int32.ofNat 36 = Int32.ofNat na := ua1
          have ua3 : (zyEl (zymr r c) B H) 74 na = some (.int (ρ2 2)) := ua3
          have ea := zyOi (by omega) (by omega) ua1
          subst ea
          obtain ⟨nb, ub1, ub2, ub3⟩ := zyXe hF 1 rfl
          have ub1 : Int32.ofNat 40 = Int32.ofNat nb := ub1
          have ub3 : (zyEl (zymr r c) B H) 74 nb = some (.int (ρ2 3)) := ub3
          have eb := zyOi (by omega) (by omega) ub1
          subst eb
          have bw := zyXb hB 0 rfl
          have bw : 2147483648 ≤ zB (ρ2 2) ∧ zB (ρ2 2) ≤ 2147483648 := bw
          obtain ⟨ow, ow2⟩ := zyOn bw.1
          rw [ow, show zyN1 (ρ2 2) = 0 by omega] at ua3
          refine zyCa1 hRu hIH hAt hB hsg (ix := 466) (ax := 5072) rfl rfl rfl hmesg ⟨rfl, rfl, rfl, rfl⟩ (by decide) [360] rfl (by decide) rfl ⟨3, by decide⟩ [595, 0] [(0, 4294967295), (0, 4294967295)] 2147483648 2147483649 rfl (by decide) rfl rfl rfl rfl rfl ?_ ?_
          · show zyΦsg _ _
            rw [hEE]
            exact ⟨hP, _, rfl⟩
          · intro E3 vo hT3 hΨ
            obtain ⟨e3, z, ez, hz, hz1⟩ := (show zyΨsg _ _ E3 vo from hΨ)
            rw [hEE] at e3 hz1
            subst e3
            refine ⟨z, ez, ?_, ?_, ⟨W, n0, n, ⟨jT, jL⟩, hP, t33, t76, ⟨s0, s1, hn0, hn⟩, fun h => absurd (show 3 = 0 from h) (by decide), fun _ => ua3, fun _ => ⟨hW, w5, wk⟩, fun q => fun q2 => (hz1 (zyρi_e.symm.trans q2)).2, fun h => absurd (show 3 = 4 from h) (by decide), fun h => absurd (show 3 = 6 ∨ 3 = 9 from h) (by decide), fun h => absurd (show 3 = 6 from h) (by decide), fun h => absurd (show 3 = 5 from h) (by decide)⟩, ?_⟩
            · rcases hz with rfl | rfl <;> decide
            · rcases hz with rfl | rfl <;> decide
            · show 20 * (902 - zyN1 (zyI (zyEl (zymr r c) B H) 74 39)) + 17 < 20 * (902 - zyN1 (zyI (zyEl (zymr r c) B H) 74 39)) + 18
              rw [zyI_s s1]
              omega
        · skip
          have ex := List.mem_singleton.mp hx
          subst ex
          obtain ⟨W, n0, n, ⟨jT, jL⟩, hP, t33, t76, ⟨s0, s1, hn0, hn⟩, i0, iw, iW, i3, i4, i69, i6, i5⟩ := hI
          obtain ⟨hW, w5, wk⟩ := iW (by decide)
          obtain ⟨na, ua1, ua2, ua3⟩ := zyXe hF 0 rfl
          have ua1 : Int32.ofNat 36 = Int32.ofNat na := ua1
          have ua3 : (zyEl (zymr r c) B H) 74 na = some (.int (ρ2 2)) := ua3
          have ea := zyOi (by omega) (by omega) ua1
          subst ea
          obtain ⟨nb, ub1, ub2, ub3⟩ := zyXe hF 1 rfl
          have ub1 : Int32.ofNat 40 = Int32.ofNat nb := ub1
          have ub3 : (zyEl (zymr r c) B H) 74 nb = some (.int (ρ2 3)) := ub3
          have eb := zyOi (by omega) (by omega) ub1
          subst eb
          have bw := zyXb hB 0 rfl
          have bw : 2147483648 ≤ zB (ρ2 2) ∧ zB (ρ2 2) ≤ 2147483648 := bw
          obtain ⟨ow, ow2⟩ := zyOn bw.1
          rw [ow, show zyN1 (ρ2 2) = 0 by omega] at ua3
          have bs := zyXb hB 1 rfl
          have bs : 2147483650 ≤ zB (ρ2 3) ∧ zB (ρ2 3) ≤ 2147483650 := bs
          obtain ⟨os, os2⟩ := zyOn (show 2147483648 ≤ zB (ρ2 3) by omega)
          rw [os, show zyN1 (ρ2 3) = 2 by omega] at ub3
          refine zyCa1 hRu hIH hAt hB hsg (ix := 466) (ax := 5072) rfl rfl rfl hmesg ⟨rfl, rfl, rfl, rfl⟩ (by decide) [360] rfl (by decide) rfl ⟨4, by decide⟩ [595, 0] [(0, 4294967295), (0, 4294967295)] 2147483648 2147483649 rfl (by decide) rfl rfl rfl rfl rfl ?_ ?_
          · show zyΦsg _ _
            rw [hEE]
            exact ⟨hP, _, rfl⟩
          · intro E3 vo hT3 hΨ
            obtain ⟨e3, z, ez, hz, hz1⟩ := (show zyΨsg _ _ E3 vo from hΨ)
            rw [hEE] at e3 hz1
            subst e3
            refine ⟨z, ez, ?_, ?_, ⟨W, n0, n, ⟨jT, jL⟩, hP, t33, t76, ⟨s0, s1, hn0, hn⟩, fun h => absurd (show 4 = 0 from h) (by decide), fun _ => ua3, fun _ => ⟨hW, w5, wk⟩, fun h => absurd (show 4 = 3 from h) (by decide), fun q => fun q2 => (hz1 (zyρi_e.symm.trans q2)).2, fun h => absurd (show 4 = 6 ∨ 4 = 9 from h) (by decide), fun h => absurd (show 4 = 6 from h) (by decide), fun h => absurd (show 4 = 5 from h) (by decide)⟩, ?_⟩
            · rcases hz with rfl | rfl <;> decide
            · rcases hz with rfl | rfl <;> decide
            · show 20 * (902 - zyN1 (zyI (zyEl (zymr r c) B H) 74 39)) + 16 < 20 * (902 - zyN1 (zyI (zyEl (zymr r c) B H) 74 39)) + 18
              rw [zyI_s s1]
              omega
    · have hx : x ∈ [zxrwd_dx0] := hx
      have hg : ∀ k, k < 3 → ρ2 k = ρ k := hag
      have hI := hInv
      have hI : ∃ W n0 n : Nat, zyIrw 3 W n0 n (zyEl (zymr r c) B s.heap) ρ (zyEl (zymr r c) B H) := hI
      obtain ⟨hF, hB, hM⟩ := hXs
      have hEE : (zyEl (zymr r c) B H2) = (zyEl (zymr r c) B H) := zyfr0 hfr
      have ex := List.mem_singleton.mp hx
      subst ex
      obtain ⟨W, n0, n, ⟨jT, jL⟩, hP, t33, t76, ⟨s0, s1, hn0, hn⟩, i0, iw, iW, i3, i4, i69, i6, i5⟩ := hI
      obtain ⟨hW, w5, wk⟩ := iW (by decide)
      have w0 := iw (Or.inr (Or.inr (Or.inl rfl)))
      refine zyCa1 hRu hIH hAt hB hsg (ix := 466) (ax := 5072) rfl rfl rfl hmesg ⟨rfl, rfl, rfl, rfl⟩ (by decide) [360] rfl (by decide) rfl ⟨4, by decide⟩ [595, 0] [(0, 4294967295), (0, 4294967295)] 2147483648 2147483649 rfl (by decide) rfl rfl rfl rfl rfl ?_ ?_
      · show zyΦsg _ _
        rw [hEE]
        exact ⟨hP, _, rfl⟩
      · intro E3 vo hT3 hΨ
        obtain ⟨e3, z, ez, hz, hz1⟩ := (show zyΨsg _ _ E3 vo from hΨ)
        rw [hEE] at e3 hz1
        subst e3
        refine ⟨z, ez, ?_, ?_, ⟨W, n0, n, ⟨jT, jL⟩, hP, t33, t76, ⟨s0, s1, hn0, hn⟩, fun h => absurd (show 4 = 0 from h) (by decide), fun _ => w0, fun _ => ⟨hW, w5, wk⟩, fun h => absurd (show 4 = 3 from h) (by decide), fun q => fun q2 => (hz1 (zyρi_e.symm.trans q2)).2, fun h => absurd (show 4 = 6 ∨ 4 = 9 from h) (by decide), fun h => absurd (show 4 = 6 from h) (by decide), fun h => absurd (show 4 = 5 from h) (by decide)⟩, ?_⟩
        · rcases hz with rfl | rfl <;> decide
        · rcases hz with rfl | rfl <;> decide
        · show 20 * (902 - zyN1 (zyI (zyEl (zymr r c) B H) 74 39)) + 16 < 20 * (902 - zyN1 (zyI (zyEl (zymr r c) B H) 74 39)) + 17
          rw [zyI_s s1]
          omega
    · have hx : x ∈ [zxrwd_ex0, zxrwd_ex1] := hx
      have hg : ∀ k, k < 3 → ρ2 k = ρ k := hag
      have hI := hInv
      have hI : ∃ W n0 n : Nat, zyIrw 4 W n0 n (zyEl (zymr r c) B s.heap) ρ (zyEl (zymr r c) B H) := hI
      obtain ⟨hF, hB, hM⟩ := hXs
      have hEE : (zyEl (zymr r c) B H2) = (zyEl (zymr r c) B H) := zyfr0 hfr
      rcases List.mem_cons.mp hx with ex | hx
      · subst ex
        obtain ⟨W, n0, n, ⟨jT, jL⟩, hP, t33, t76, ⟨s0, s1, hn0, hn⟩, i0, iw, iW, i3, i4, i69, i6, i5⟩ := hI
        obtain ⟨hW, w5, wk⟩ := iW (by decide)
        have w0 := iw (Or.inr (Or.inr (Or.inr (Or.inl rfl))))
        have b2 := zyXb hB 0 rfl
        have b2 : 2147483649 ≤ zB (ρ2 2) ∧ zB (ρ2 2) ≤ 2147483649 := b2
        have z2 : ρ2 2 = 1 := by
          rcases zybool (x := ρ2 2) (by omega) (by omega) with e | e
          · rw [e] at b2
            exact absurd b2.1 (by decide)
          · exact e
        have so := i4 rfl ((hg 2 (by decide)).symm.trans z2)
        rw [← hEE] at jT jL hP t33 so w0 w5 wk
        have t76 : ∀ k, (zyEl (zymr r c) B H2) 76 k = (zyEl (zymr r c) B s.heap) 76 k := fun k => by rw [hEE]; exact t76 k
        rcases hP 3 (by decide) so with q | ⟨⟨n9, hn9, en9⟩, -⟩
        · cases q
        have e39 : (zyEl (zymr r c) B H2) 74 39 = some (.int (Int32.ofNat n)) := by rw [hEE]; exact s1
        rw [e39] at en9
        have enn := zyOi (by omega) (by omega) (Value.int.inj (Option.some.inj en9))
        refine zyCa0 hRu hIH hAt hB hrd (ix := 450) (ax := 5024) rfl rfl rfl hmerd ⟨rfl, rfl, rfl, rfl⟩ (by decide) [] rfl (by decide) rfl ⟨8, by decide⟩ [595, 68719476737] rfl rfl rfl rfl ?_ ?_
        · show zyΦrd [] _
          exact ⟨n, by omega, e39⟩
        · intro E3 vo hT3 hΨ
          have hΨ : zyΨrd [] _ E3 vo := hΨ
          have hPn := zPn_rd hΨ
          obtain ⟨ev, p1, q0, n2, u2, p2, p3, p4, p5, p6, -⟩ := hΨ
          rw [e39] at p3
          have eq0 := zyOi (by omega) (by omega) (Value.int.inj (Option.some.inj p3))
          refine ⟨ev, ⟨W, n0, n2, ⟨(p1 75 3 (by omega)).trans jT, (p1 75 4 (by omega)).trans jL⟩, hPn, (p1 74 33 (by omega)).trans t33, fun k => (p1 76 k (by omega)).trans (t76 k), ⟨s0, p6, by omega, p5⟩, fun h => absurd (show 8 = 0 from h) (by decide), fun _ => (p1 74 36 (by omega)).trans w0, fun _ => ⟨hW, (p1 75 5 (by omega)).trans w5, zWk_fr hW (fun k _ _ => p1 75 k (by omega)) wk⟩, fun h => absurd (show 8 = 3 from h) (by decide), fun h => absurd (show 8 = 4 from h) (by decide), fun h => absurd (show 8 = 6 ∨ 8 = 9 from h) (by decide), fun h => absurd (show 8 = 6 from h) (by decide), fun h => absurd (show 8 = 5 from h) (by decide)⟩, ?_⟩
          show 20 * (902 - zyN1 (zyI E3 74 39)) + 15 < 20 * (902 - zyN1 (zyI (zyEl (zymr r c) B H) 74 39)) + 16
          rw [zyI_s p6, zyI_s s1, zyN1_of (by omega), zyN1_of (by omega)]
          omega
      · skip
        have ex := List.mem_singleton.mp hx
        subst ex
        obtain ⟨W, n0, n, ⟨jT, jL⟩, hP, t33, t76, ⟨s0, s1, hn0, hn⟩, i0, iw, iW, i3, i4, i69, i6, i5⟩ := hI
        obtain ⟨hW, w5, wk⟩ := iW (by decide)
        have w0 := iw (Or.inr (Or.inr (Or.inr (Or.inl rfl))))
        rw [← hEE] at jT jL hP t33 w0 w5 wk
        have t76 : ∀ k, (zyEl (zymr r c) B H2) 76 k = (zyEl (zymr r c) B s.heap) 76 k := fun k => by rw [hEE]; exact t76 k
        have s2 : (zyEl (zymr r c) B H2) 74 39 = some (.int (Int32.ofNat n)) := by rw [hEE]; exact s1
        refine zyGoB hIH hAt hB ⟨8, by decide⟩ [595, 68719476737] rfl rfl rfl rfl ⟨W, n0, n, ⟨jT, jL⟩, hP, t33, t76, ⟨s0, s2, hn0, hn⟩, fun h => absurd (show 8 = 0 from h) (by decide), fun _ => w0, fun _ => ⟨hW, w5, wk⟩, fun h => absurd (show 8 = 3 from h) (by decide), fun h => absurd (show 8 = 4 from h) (by decide), fun h => absurd (show 8 = 6 ∨ 8 = 9 from h) (by decide), fun h => absurd (show 8 = 6 from h) (by decide), fun h => absurd (show 8 = 5 from h) (by decide)⟩ ?_
        show 20 * (902 - zyN1 (zyI (zyEl (zymr r c) B H2) 74 39)) + 15 < 20 * (902 - zyN1 (zyI (zyEl (zymr r c) B H) 74 39)) + 16
        rw [zyI_s s2, zyI_s s1]
        omega
    · have hx : x ∈ [zxrwd_fx0, zxrwd_fx1] := hx
      have hg : ∀ k, k < 3 → ρ2 k = ρ k := hag
      have hI := hInv
      have hI : ∃ W n0 n : Nat, zyIrw 5 W n0 n (zyEl (zymr r c) B s.heap) ρ (zyEl (zymr r c) B H) := hI
      obtain ⟨hF, hB, hM⟩ := hXs
      have hfr : ∀ a k, zyin [(74, 36, 37)] a k = false → (zyEl (zymr r c) B H2) a k = (zyEl (zymr r c) B H) a k := hfr
      rcases List.mem_cons.mp hx with ex | hx
      · subst ex
        obtain ⟨W, n0, n, ⟨jT, jL⟩, hP, t33, t76, ⟨s0, s1, hn0, hn⟩, i0, iw, iW, i3, i4, i69, i6, i5⟩ := hI
        have hk : ∀ a k, ¬ (a = 74 ∧ 36 ≤ k ∧ k ≤ 37) → (zyEl (zymr r c) B H2) a k = (zyEl (zymr r c) B H) a k := by
          intro a k n0
          apply hfr
          cases hq : zyin [(74, 36, 37)] a k with
          | false => rfl
          | true =>
            obtain ⟨p0, g1, g2, g3, g4⟩ := zyin_iff.mp hq
            simp only [List.mem_cons, List.not_mem_nil, or_false] at g1
            rcases g1 with rfl
            · exact absurd ⟨g2.symm, g3, g4⟩ n0
        obtain ⟨hW, w5, wk⟩ := iW (by decide)
        obtain ⟨nb, ub1, ub2, ub3⟩ := zyXe hF 0 rfl
        have ub1 : Int32.ofNat 40 = Int32.ofNat nb := ub1
        have ub3 : (zyEl (zymr r c) B H) 74 nb = some (.int (ρ2 3)) := ub3
        have eb := zyOi (by omega) (by omega) ub1
        subst eb
        have bs := zyXb hB 0 rfl
        have bs : 2147483650 ≤ zB (ρ2 3) ∧ zB (ρ2 3) ≤ 2147483650 := bs
        obtain ⟨os, os2⟩ := zyOn (show 2147483648 ≤ zB (ρ2 3) by omega)
        rw [os, show zyN1 (ρ2 3) = 2 by omega] at ub3
        obtain ⟨n5, x1, x2, x3⟩ := zyXe hF 2 rfl
        have x1 : Int32.ofNat 5 = Int32.ofNat n5 := x1
        have x3 : zyEl (zymr r c) B H 75 n5 = some (.int (ρ2 5)) := x3
        have e5 := zyEk x1 (by omega) x2 x3 w5
        have b5 := zyXb hB 2 rfl
        have b5 : 2147483647 ≤ zB (ρ2 5) ∧ zB (ρ2 5) ≤ 2147483707 := b5
        rw [e5, zyBn (by omega)] at b5
        have bN := zyXb hB 1 rfl
        have bN : 2147483649 ≤ zB (ρ2 4) ∧ zB (ρ2 4) ≤ 2147483655 := bN
        obtain ⟨oN, oN2⟩ := zyOn (show 2147483648 ≤ zB (ρ2 4) by omega)
        have ej : ρ2 5 + Int32.ofNat 460 = Int32.ofNat (W + 460) := by rw [e5, zyOa]
        have m := zyXm hM 0 rfl
        have m : zyEl (zymr r c) B H2 74 36 = some (.int (ρ2 2)) := m
        have bv := zyXb hB 3 rfl
        have bv : 2147483641 ≤ zB (ρ2 6) ∧ zB (ρ2 6) ≤ 2147483647 := bv
        have hv0 : ¬ ρ2 6 = Int32.ofNat 0 := by
          intro q
          rw [q] at bv
          exact absurd bv (by decide)
        have r2 : ρ2 2 = Int32.ofNat 0 := (hg 2 (by decide)).trans (i5 rfl)
        rw [r2] at m
        refine zyAsB hRu hIH hAt hB 75 (W + 460) (zymr75 r c) rfl rfl rfl (cv := 206158430209) (cj := 171798695521) rfl (by decide) (by decide) ⟨9, by decide⟩ [595, 0] rfl rfl rfl rfl (show W + 460 < 556 by omega) ej ?_ ?_
        · intro r0 hr0 g1 g2
          refine zyrok_iff (zyall_iff (zyAllP_iff zcr_wis h1 h2 h3 h4) r0 hr0 (W + 460) (by omega) (by omega) g1 g2) ?_ ?_
          · show 2147483641 ≤ zB (ρ2 6)
            omega
          · show zB (ρ2 6) ≤ 2147483655
            omega
        · intro E3 hT3 p1 p2
          have p1 : E3 75 (W + 460) = some (.int (ρ2 6)) := p1
          have k3 : ∀ a k, ¬ (a = 75 ∧ k = W + 460) → ¬ (a = 74 ∧ 36 ≤ k ∧ k ≤ 37) → E3 a k = zyEl (zymr r c) B H a k := fun a k n1 n2 => (p2 a k n1).trans (hk a k n2)
          have s3 := (k3 74 39 (by omega) (by omega)).trans s1
          refine ⟨⟨W, n0, n, ⟨(k3 75 3 (by omega) (by omega)).trans jT, (k3 75 4 (by omega) (by omega)).trans jL⟩, zPn_fr (fun k _ _ => k3 74 k (by omega) (by omega)) hP, (k3 74 33 (by omega) (by omega)).trans t33, fun k => (k3 76 k (by omega) (by omega)).trans (t76 k), ⟨s0, s3, hn0, hn⟩, fun h => absurd (show 9 = 0 from h) (by decide), fun _ => (p2 74 36 (by omega)).trans m, fun _ => ⟨hW, (k3 75 5 (by omega) (by omega)).trans w5, fun j hj => by rw [zyI_eq (k3 75 (460 + j) (by omega) (by omega))]; exact wk j hj⟩, fun h => absurd (show 9 = 3 from h) (by decide), fun h => absurd (show 9 = 4 from h) (by decide), fun _ => ⟨by omega, (k3 74 40 (by omega) (by omega)).trans ub3, by rw [show 460 + W = W + 460 by omega, zyI_s p1]; exact hv0⟩, fun h => absurd (show 9 = 6 from h) (by decide), fun h => absurd (show 9 = 5 from h) (by decide)⟩, ?_⟩
          show 20 * (902 - zyN1 (zyI E3 74 39)) + 13 < 20 * (902 - zyN1 (zyI (zyEl (zymr r c) B H) 74 39)) + 14
          rw [zyI_s s3, zyI_s s1]
          omega
      · skip
        have ex := List.mem_singleton.mp hx
        subst ex
        obtain ⟨W, n0, n, ⟨jT, jL⟩, hP, t33, t76, ⟨s0, s1, hn0, hn⟩, i0, iw, iW, i3, i4, i69, i6, i5⟩ := hI
        have hk : ∀ a k, ¬ (a = 74 ∧ 36 ≤ k ∧ k ≤ 37) → (zyEl (zymr r c) B H2) a k = (zyEl (zymr r c) B H) a k := by
          intro a k n0
          apply hfr
          cases hq : zyin [(74, 36, 37)] a k with
          | false => rfl
          | true =>
            obtain ⟨p0, g1, g2, g3, g4⟩ := zyin_iff.mp hq
            simp only [List.mem_cons, List.not_mem_nil, or_false] at g1
            rcases g1 with rfl
            · exact absurd ⟨g2.symm, g3, g4⟩ n0
        obtain ⟨hW, w5, wk⟩ := iW (by decide)
        obtain ⟨nb, ub1, ub2, ub3⟩ := zyXe hF 0 rfl
        have ub1 : Int32.ofNat 40 = Int32.ofNat nb := ub1
        have ub3 : (zyEl (zymr r c) B H) 74 nb = some (.int (ρ2 3)) := ub3
        have eb := zyOi (by omega) (by omega) ub1
        subst eb
        have bs := zyXb hB 0 rfl
        have bs : 2147483650 ≤ zB (ρ2 3) ∧ zB (ρ2 3) ≤ 2147483650 := bs
        obtain ⟨os, os2⟩ := zyOn (show 2147483648 ≤ zB (ρ2 3) by omega)
        rw [os, show zyN1 (ρ2 3) = 2 by omega] at ub3
        obtain ⟨n5, x1, x2, x3⟩ := zyXe hF 2 rfl
        have x1 : Int32.ofNat 5 = Int32.ofNat n5 := x1
        have x3 : zyEl (zymr r c) B H 75 n5 = some (.int (ρ2 5)) := x3
        have e5 := zyEk x1 (by omega) x2 x3 w5
        have b5 := zyXb hB 2 rfl
        have b5 : 2147483647 ≤ zB (ρ2 5) ∧ zB (ρ2 5) ≤ 2147483707 := b5
        rw [e5, zyBn (by omega)] at b5
        have bN := zyXb hB 1 rfl
        have bN : 2147483649 ≤ zB (ρ2 4) ∧ zB (ρ2 4) ≤ 2147483655 := bN
        obtain ⟨oN, oN2⟩ := zyOn (show 2147483648 ≤ zB (ρ2 4) by omega)
        have ej : ρ2 5 + Int32.ofNat 460 = Int32.ofNat (W + 460) := by rw [e5, zyOa]
        have m := zyXm hM 0 rfl
        have m : zyEl (zymr r c) B H2 74 36 = some (.int (ρ2 2)) := m
        have bv := zyXb hB 1 rfl
        have bv : 2147483649 ≤ zB (ρ2 4) ∧ zB (ρ2 4) ≤ 2147483655 := bv
        have hv0 : ¬ ρ2 4 = Int32.ofNat 0 := by
          intro q
          rw [q] at bv
          exact absurd bv (by decide)
        have r2 : ρ2 2 = Int32.ofNat 0 := (hg 2 (by decide)).trans (i5 rfl)
        rw [r2] at m
        refine zyAsB hRu hIH hAt hB 75 (W + 460) (zymr75 r c) rfl rfl rfl (cv := 137438953473) (cj := 171798695521) rfl (by decide) (by decide) ⟨9, by decide⟩ [595, 0] rfl rfl rfl rfl (show W + 460 < 556 by omega) ej ?_ ?_
        · intro r0 hr0 g1 g2
          refine zyrok_iff (zyall_iff (zyAllP_iff zcr_wis h1 h2 h3 h4) r0 hr0 (W + 460) (by omega) (by omega) g1 g2) ?_ ?_
          · show 2147483641 ≤ zB (ρ2 4)
            omega
          · show zB (ρ2 4) ≤ 2147483655
            omega
        · intro E3 hT3 p1 p2
          have p1 : E3 75 (W + 460) = some (.int (ρ2 4)) := p1
          have k3 : ∀ a k, ¬ (a = 75 ∧ k = W + 460) → ¬ (a = 74 ∧ 36 ≤ k ∧ k ≤ 37) → E3 a k = zyEl (zymr r c) B H a k := fun a k n1 n2 => (p2 a k n1).trans (hk a k n2)
          have s3 := (k3 74 39 (by omega) (by omega)).trans s1
          refine ⟨⟨W, n0, n, ⟨(k3 75 3 (by omega) (by omega)).trans jT, (k3 75 4 (by omega) (by omega)).trans jL⟩, zPn_fr (fun k _ _ => k3 74 k (by omega) (by omega)) hP, (k3 74 33 (by omega) (by omega)).trans t33, fun k => (k3 76 k (by omega) (by omega)).trans (t76 k), ⟨s0, s3, hn0, hn⟩, fun h => absurd (show 9 = 0 from h) (by decide), fun _ => (p2 74 36 (by omega)).trans m, fun _ => ⟨hW, (k3 75 5 (by omega) (by omega)).trans w5, fun j hj => by rw [zyI_eq (k3 75 (460 + j) (by omega) (by omega))]; exact wk j hj⟩, fun h => absurd (show 9 = 3 from h) (by decide), fun h => absurd (show 9 = 4 from h) (by decide), fun _ => ⟨by omega, (k3 74 40 (by omega) (by omega)).trans ub3, by rw [show 460 + W = W + 460 by omega, zyI_s p1]; exact hv0⟩, fun h => absurd (show 9 = 6 from h) (by decide), fun h => absurd (show 9 = 5 from h) (by decide)⟩, ?_⟩
          show 20 * (902 - zyN1 (zyI E3 74 39)) + 13 < 20 * (902 - zyN1 (zyI (zyEl (zymr r c) B H) 74 39)) + 14
          rw [zyI_s s3, zyI_s s1]
          omega
    · have hx : x ∈ [zxrwd_gx0] := hx
      have hg : ∀ k, k < 3 → ρ2 k = ρ k := hag
      have hI := hInv
      have hI : ∃ W n0 n : Nat, zyIrw 6 W n0 n (zyEl (zymr r c) B s.heap) ρ (zyEl (zymr r c) B H) := hI
      obtain ⟨hF, hB, hM⟩ := hXs
      have hfr : ∀ a k, zyin [(75, 5, 5)] a k = false → (zyEl (zymr r c) B H2) a k = (zyEl (zymr r c) B H) a k := hfr
      have ex := List.mem_singleton.mp hx
      subst ex
      obtain ⟨W, n0, n, ⟨jT, jL⟩, hP, t33, t76, ⟨s0, s1, hn0, hn⟩, i0, iw, iW, i3, i4, i69, i6, i5⟩ := hI
      have hk : ∀ a k, ¬ (a = 75 ∧ 5 ≤ k ∧ k ≤ 5) → (zyEl (zymr r c) B H2) a k = (zyEl (zymr r c) B H) a k := by
        intro a k n0
        apply hfr
        cases hq : zyin [(75, 5, 5)] a k with
        | false => rfl
        | true =>
          obtain ⟨p0, g1, g2, g3, g4⟩ := zyin_iff.mp hq
          simp only [List.mem_cons, List.not_mem_nil, or_false] at g1
          rcases g1 with rfl
          · exact absurd ⟨g2.symm, g3, g4⟩ n0
      obtain ⟨hW, w5, wk⟩ := iW (by decide)
      have w0 := iw (Or.inr (Or.inr (Or.inr (Or.inr (Or.inr (Or.inl rfl))))))
      obtain ⟨w59, so, wn⟩ := i69 (Or.inl rfl)
      have a2 : ρ2 2 = Int32.ofNat W := (hg 2 (by decide)).trans (i6 rfl)
      have m := zyXm hM 0 rfl
      have m : zyEl (zymr r c) B H2 75 5 = some (.int (ρ2 2 + Int32.ofNat 1)) := m
      rw [a2, zyOa] at m
      have s2 := (hk 74 39 (by omega)).trans s1
      have hP2 : zPn (zyEl (zymr r c) B H2) := zPn_fr (fun k _ _ => hk 74 k (by omega)) hP
      rcases hP2 2 (by decide) ((hk 74 40 (by omega)).trans so) with q | ⟨⟨n9, hn9, en9⟩, -⟩
      · cases q
      have e39 : (zyEl (zymr r c) B H2) 74 39 = some (.int (Int32.ofNat n)) := s2
      rw [e39] at en9
      have enn := zyOi (by omega) (by omega) (Value.int.inj (Option.some.inj en9))
      refine zyCa0 hRu hIH hAt hB hrd (ix := 450) (ax := 5024) rfl rfl rfl hmerd ⟨rfl, rfl, rfl, rfl⟩ (by decide) [] rfl (by decide) rfl ⟨7, by decide⟩ [595, 0] rfl rfl rfl rfl ?_ ?_
      · show zyΦrd [] _
        exact ⟨n, by omega, e39⟩
      · intro E3 vo hT3 hΨ
        have hΨ : zyΨrd [] _ E3 vo := hΨ
        have hPn := zPn_rd hΨ
        obtain ⟨ev, p1, q0, n2, u2, p2, p3, p4, p5, p6, -⟩ := hΨ
        rw [e39] at p3
        have eq0 := zyOi (by omega) (by omega) (Value.int.inj (Option.some.inj p3))
        refine ⟨ev, ⟨(W + 1), n0, n2, ⟨(p1 75 3 (by omega)).trans ((hk 75 3 (by omega)).trans jT), (p1 75 4 (by omega)).trans ((hk 75 4 (by omega)).trans jL)⟩, hPn, (p1 74 33 (by omega)).trans ((hk 74 33 (by omega)).trans t33), fun k => (p1 76 k (by omega)).trans ((hk 76 k (by omega)).trans (t76 k)), ⟨s0, p6, by omega, p5⟩, fun h => absurd (show 7 = 0 from h) (by decide), fun h => absurd (show 7 = 0 ∨ 7 = 1 ∨ 7 = 3 ∨ 7 = 4 ∨ 7 = 5 ∨ 7 = 6 ∨ 7 = 8 ∨ 7 = 9 from h) (by decide), fun _ => ⟨by omega, (p1 75 5 (by omega)).trans m, fun j hj => by
          rw [zyI_eq (p1 75 (460 + j) (by omega)), zyI_eq (hk 75 (460 + j) (by omega))]
          by_cases ej : j = W
          · rw [ej]
            exact wn
          · exact wk j (by omega)⟩, fun h => absurd (show 7 = 3 from h) (by decide), fun h => absurd (show 7 = 4 from h) (by decide), fun h => absurd (show 7 = 6 ∨ 7 = 9 from h) (by decide), fun h => absurd (show 7 = 6 from h) (by decide), fun h => absurd (show 7 = 5 from h) (by decide)⟩, ?_⟩
        show 20 * (902 - zyN1 (zyI E3 74 39)) + 19 < 20 * (902 - zyN1 (zyI (zyEl (zymr r c) B H) 74 39)) + 12
        rw [zyI_s p6, zyI_s s1, zyN1_of (by omega), zyN1_of (by omega)]
        omega
    · have hx : x ∈ [zxrwd_hx0] := hx
      have hg : ∀ k, k < 2 → ρ2 k = ρ k := hag
      have hI := hInv
      have hI : ∃ W n0 n : Nat, zyIrw 7 W n0 n (zyEl (zymr r c) B s.heap) ρ (zyEl (zymr r c) B H) := hI
      obtain ⟨hF, hB, hM⟩ := hXs
      have hEE : (zyEl (zymr r c) B H2) = (zyEl (zymr r c) B H) := zyfr0 hfr
      have ex := List.mem_singleton.mp hx
      subst ex
      obtain ⟨W, n0, n, ⟨jT, jL⟩, hP, t33, t76, ⟨s0, s1, hn0, hn⟩, i0, iw, iW, i3, i4, i69, i6, i5⟩ := hI
      obtain ⟨hW, w5, wk⟩ := iW (by decide)
      rw [← hEE] at jT jL hP t33 w5 wk
      have t76 : ∀ k, (zyEl (zymr r c) B H2) 76 k = (zyEl (zymr r c) B s.heap) 76 k := fun k => by rw [hEE]; exact t76 k
      have s2 : (zyEl (zymr r c) B H2) 74 39 = some (.int (Int32.ofNat n)) := by rw [hEE]; exact s1
      refine zyGoB hIH hAt hB ⟨2, by decide⟩ [595, 0] rfl rfl rfl rfl ⟨W, n0, n, ⟨jT, jL⟩, hP, t33, t76, ⟨s0, s2, hn0, hn⟩, fun h => absurd (show 2 = 0 from h) (by decide), fun h => absurd (show 2 = 0 ∨ 2 = 1 ∨ 2 = 3 ∨ 2 = 4 ∨ 2 = 5 ∨ 2 = 6 ∨ 2 = 8 ∨ 2 = 9 from h) (by decide), fun _ => ⟨hW, w5, wk⟩, fun h => absurd (show 2 = 3 from h) (by decide), fun h => absurd (show 2 = 4 from h) (by decide), fun h => absurd (show 2 = 6 ∨ 2 = 9 from h) (by decide), fun h => absurd (show 2 = 6 from h) (by decide), fun h => absurd (show 2 = 5 from h) (by decide)⟩ ?_
      show 20 * (902 - zyN1 (zyI (zyEl (zymr r c) B H2) 74 39)) + 18 < 20 * (902 - zyN1 (zyI (zyEl (zymr r c) B H) 74 39)) + 19
      rw [zyI_s s2, zyI_s s1]
      omega
    · have hx : x ∈ [zxrwd_kx0] := hx
      have hg : ∀ k, k < 2 → ρ2 k = ρ k := hag
      have hI := hInv
      have hI : ∃ W n0 n : Nat, zyIrw 8 W n0 n (zyEl (zymr r c) B s.heap) ρ (zyEl (zymr r c) B H) := hI
      obtain ⟨hF, hB, hM⟩ := hXs
      have hEE : (zyEl (zymr r c) B H2) = (zyEl (zymr r c) B H) := zyfr0 hfr
      have ex := List.mem_singleton.mp hx
      subst ex
      obtain ⟨W, n0, n, ⟨jT, jL⟩, hP, t33, t76, ⟨s0, s1, hn0, hn⟩, i0, iw, iW, i3, i4, i69, i6, i5⟩ := hI
      obtain ⟨hW, w5, wk⟩ := iW (by decide)
      have w0 := iw (Or.inr (Or.inr (Or.inr (Or.inr (Or.inr (Or.inr (Or.inl rfl)))))))
      rw [← hEE] at jT jL hP t33 w0 w5 wk
      have t76 : ∀ k, (zyEl (zymr r c) B H2) 76 k = (zyEl (zymr r c) B s.heap) 76 k := fun k => by rw [hEE]; exact t76 k
      have s2 : (zyEl (zymr r c) B H2) 74 39 = some (.int (Int32.ofNat n)) := by rw [hEE]; exact s1
      refine zyGoKi hIH hAt hB ⟨5, by decide⟩ [595, 34359738369] [(0, 4294967295), (2147483648, 2147483649)] 2147483648 2147483648 rfl (by decide) rfl rfl rfl (74 * 16384 + 36) zymr74 rfl rfl (show 36 < 49 by decide) (Int32.ofNat 0) w0 (by decide) ⟨W, n0, n, ⟨jT, jL⟩, hP, t33, t76, ⟨s0, s2, hn0, hn⟩, fun h => absurd (show 5 = 0 from h) (by decide), fun _ => w0, fun _ => ⟨hW, w5, wk⟩, fun h => absurd (show 5 = 3 from h) (by decide), fun h => absurd (show 5 = 4 from h) (by decide), fun h => absurd (show 5 = 6 ∨ 5 = 9 from h) (by decide), fun h => absurd (show 5 = 6 from h) (by decide), fun _ => zyρi_e⟩ ?_
      show 20 * (902 - zyN1 (zyI (zyEl (zymr r c) B H2) 74 39)) + 14 < 20 * (902 - zyN1 (zyI (zyEl (zymr r c) B H) 74 39)) + 15
      rw [zyI_s s2, zyI_s s1]
      omega
    · have hx : x ∈ [zxrwd_mx0] := hx
      have hg : ∀ k, k < 2 → ρ2 k = ρ k := hag
      have hI := hInv
      have hI : ∃ W n0 n : Nat, zyIrw 9 W n0 n (zyEl (zymr r c) B s.heap) ρ (zyEl (zymr r c) B H) := hI
      obtain ⟨hF, hB, hM⟩ := hXs
      have hEE : (zyEl (zymr r c) B H2) = (zyEl (zymr r c) B H) := zyfr0 hfr
      have ex := List.mem_singleton.mp hx
      subst ex
      obtain ⟨W, n0, n, ⟨jT, jL⟩, hP, t33, t76, ⟨s0, s1, hn0, hn⟩, i0, iw, iW, i3, i4, i69, i6, i5⟩ := hI
      obtain ⟨hW, w5, wk⟩ := iW (by decide)
      have w0 := iw (Or.inr (Or.inr (Or.inr (Or.inr (Or.inr (Or.inr (Or.inr (rfl))))))))
      rw [← hEE] at jT jL hP t33 w0 w5 wk
      have t76 : ∀ k, (zyEl (zymr r c) B H2) 76 k = (zyEl (zymr r c) B s.heap) 76 k := fun k => by rw [hEE]; exact t76 k
      have s2 : (zyEl (zymr r c) B H2) 74 39 = some (.int (Int32.ofNat n)) := by rw [hEE]; exact s1
      obtain ⟨w59, so, wn⟩ := i69 (Or.inr rfl)
      rw [← hEE] at so wn
      refine zyGoKi hIH hAt hB ⟨6, by decide⟩ [595, 0] [(0, 4294967295), (0, 4294967295)] 2147483648 2147483707 rfl (by decide) rfl rfl rfl (75 * 16384 + 5) (zymr75 r c) rfl rfl (by show 5 < zyLen (zymr75 r c); rw [zyL75]; decide) (Int32.ofNat W) w5 (by rw [zyBn (by omega)]; omega) ⟨W, n0, n, ⟨jT, jL⟩, hP, t33, t76, ⟨s0, s2, hn0, hn⟩, fun h => absurd (show 6 = 0 from h) (by decide), fun _ => w0, fun _ => ⟨hW, w5, wk⟩, fun h => absurd (show 6 = 3 from h) (by decide), fun h => absurd (show 6 = 4 from h) (by decide), fun _ => ⟨w59, so, wn⟩, fun _ => zyρi_e, fun h => absurd (show 6 = 5 from h) (by decide)⟩ ?_
      show 20 * (902 - zyN1 (zyI (zyEl (zymr r c) B H2) 74 39)) + 12 < 20 * (902 - zyN1 (zyI (zyEl (zymr r c) B H) 74 39)) + 13
      rw [zyI_s s2, zyI_s s1]
      omega
  · intro as E0 E E2 hT0 hΦ hlen i ρ hT hInv x hx ρ2 N2 B vo hXs hag hfr hT2 hvo
    rcases i with ⟨i, hi⟩
    have hi2 : i = 0 ∨ i = 1 ∨ i = 2 ∨ i = 3 ∨ i = 4 ∨ i = 5 ∨ i = 6 ∨ i = 7 ∨ i = 8 ∨ i = 9 := by omega
    rcases hi2 with rfl | rfl | rfl | rfl | rfl | rfl | rfl | rfl | rfl | rfl
    · cases hx
    · cases hx
    · have hx : x ∈ [zxrwd_cr0] := hx
      have hg : ∀ k, k < 2 → ρ2 k = ρ k := hag
      have hI := hInv
      have hI : ∃ W n0 n : Nat, zyIrw 2 W n0 n E0 ρ E := hI
      obtain ⟨hF, hB, hM⟩ := hXs
      have hEE : E2 = E := zyfr0 hfr
      have ex := List.mem_singleton.mp hx
      subst ex
      obtain ⟨W, n0, n, ⟨jT, jL⟩, hP, t33, t76, ⟨s0, s1, hn0, hn⟩, i0, iw, iW, i3, i4, i69, i6, i5⟩ := hI
      obtain ⟨hW, w5, wk⟩ := iW (by decide)
      rw [← hEE] at jT jL hP t33 w5 wk s1
      have t76 : ∀ k, E2 76 k = E0 76 k := fun k => by rw [hEE]; exact t76 k
      exact ⟨zyvo_0 (show zyvo _ [] vo from hvo), ⟨jT, jL, zWk_v hW w5 wk⟩, hP, t33, t76, n0, n, s0, s1, hn0, hn⟩
    · have hx : x ∈ [zxrwd_dr0] := hx
      have hg : ∀ k, k < 3 → ρ2 k = ρ k := hag
      have hI := hInv
      have hI : ∃ W n0 n : Nat, zyIrw 3 W n0 n E0 ρ E := hI
      obtain ⟨hF, hB, hM⟩ := hXs
      have hEE : E2 = E := zyfr0 hfr
      have ex := List.mem_singleton.mp hx
      subst ex
      obtain ⟨W, n0, n, ⟨jT, jL⟩, hP, t33, t76, ⟨s0, s1, hn0, hn⟩, i0, iw, iW, i3, i4, i69, i6, i5⟩ := hI
      obtain ⟨hW, w5, wk⟩ := iW (by decide)
      rw [← hEE] at jT jL hP t33 w5 wk s1
      have t76 : ∀ k, E2 76 k = E0 76 k := fun k => by rw [hEE]; exact t76 k
      exact ⟨zyvo_0 (show zyvo _ [] vo from hvo), ⟨jT, jL, zWk_v hW w5 wk⟩, hP, t33, t76, n0, n, s0, s1, hn0, hn⟩
    · cases hx
    · have hx : x ∈ [zxrwd_fr0, zxrwd_fr1, zxrwd_fr2, zxrwd_fr3] := hx
      have hg : ∀ k, k < 3 → ρ2 k = ρ k := hag
      have hI := hInv
      have hI : ∃ W n0 n : Nat, zyIrw 5 W n0 n E0 ρ E := hI
      obtain ⟨hF, hB, hM⟩ := hXs
      have hfr : ∀ a k, zyin [(74, 36, 37)] a k = false → E2 a k = E a k := hfr
      rcases List.mem_cons.mp hx with ex | hx
      · subst ex
        obtain ⟨W, n0, n, ⟨jT, jL⟩, hP, t33, t76, ⟨s0, s1, hn0, hn⟩, i0, iw, iW, i3, i4, i69, i6, i5⟩ := hI
        obtain ⟨hW, w5, wk⟩ := iW (by decide)
        have hk : ∀ a k, ¬ (a = 74 ∧ 36 ≤ k ∧ k ≤ 37) → E2 a k = E a k := by
          intro a k n0
          apply hfr
          cases hq : zyin [(74, 36, 37)] a k with
          | false => rfl
          | true =>
            obtain ⟨p0, g1, g2, g3, g4⟩ := zyin_iff.mp hq
            simp only [List.mem_cons, List.not_mem_nil, or_false] at g1
            rcases g1 with rfl
            · exact absurd ⟨g2.symm, g3, g4⟩ n0
        exact ⟨zyvo_0 (show zyvo _ [] vo from hvo), ⟨(hk 75 3 (by omega)).trans jT, (hk 75 4 (by omega)).trans jL, zWk_v hW ((hk 75 5 (by omega)).trans w5) (zWk_fr hW (fun k _ _ => hk 75 k (by omega)) wk)⟩, zPn_fr (fun k _ _ => hk 74 k (by omega)) hP, (hk 74 33 (by omega)).trans t33, fun k => (hk 76 k (by omega)).trans (t76 k), n0, n, s0, (hk 74 39 (by omega)).trans s1, hn0, hn⟩
      · skip
        rcases List.mem_cons.mp hx with ex | hx
        · subst ex
          obtain ⟨W, n0, n, ⟨jT, jL⟩, hP, t33, t76, ⟨s0, s1, hn0, hn⟩, i0, iw, iW, i3, i4, i69, i6, i5⟩ := hI
          obtain ⟨hW, w5, wk⟩ := iW (by decide)
          have hk : ∀ a k, ¬ (a = 74 ∧ 36 ≤ k ∧ k ≤ 37) → E2 a k = E a k := by
            intro a k n0
            apply hfr
            cases hq : zyin [(74, 36, 37)] a k with
            | false => rfl
            | true =>
              obtain ⟨p0, g1, g2, g3, g4⟩ := zyin_iff.mp hq
              simp only [List.mem_cons, List.not_mem_nil, or_false] at g1
              rcases g1 with rfl
              · exact absurd ⟨g2.symm, g3, g4⟩ n0
          exact ⟨zyvo_0 (show zyvo _ [] vo from hvo), ⟨(hk 75 3 (by omega)).trans jT, (hk 75 4 (by omega)).trans jL, zWk_v hW ((hk 75 5 (by omega)).trans w5) (zWk_fr hW (fun k _ _ => hk 75 k (by omega)) wk)⟩, zPn_fr (fun k _ _ => hk 74 k (by omega)) hP, (hk 74 33 (by omega)).trans t33, fun k => (hk 76 k (by omega)).trans (t76 k), n0, n, s0, (hk 74 39 (by omega)).trans s1, hn0, hn⟩
        · skip
          rcases List.mem_cons.mp hx with ex | hx
          · subst ex
            obtain ⟨W, n0, n, ⟨jT, jL⟩, hP, t33, t76, ⟨s0, s1, hn0, hn⟩, i0, iw, iW, i3, i4, i69, i6, i5⟩ := hI
            obtain ⟨hW, w5, wk⟩ := iW (by decide)
            have hk : ∀ a k, ¬ (a = 74 ∧ 36 ≤ k ∧ k ≤ 37) → E2 a k = E a k := by
              intro a k n0
              apply hfr
              cases hq : zyin [(74, 36, 37)] a k with
              | false => rfl
              | true =>
                obtain ⟨p0, g1, g2, g3, g4⟩ := zyin_iff.mp hq
                simp only [List.mem_cons, List.not_mem_nil, or_false] at g1
                rcases g1 with rfl
                · exact absurd ⟨g2.symm, g3, g4⟩ n0
            exact ⟨zyvo_0 (show zyvo _ [] vo from hvo), ⟨(hk 75 3 (by omega)).trans jT, (hk 75 4 (by omega)).trans jL, zWk_v hW ((hk 75 5 (by omega)).trans w5) (zWk_fr hW (fun k _ _ => hk 75 k (by omega)) wk)⟩, zPn_fr (fun k _ _ => hk 74 k (by omega)) hP, (hk 74 33 (by omega)).trans t33, fun k => (hk 76 k (by omega)).trans (t76 k), n0, n, s0, (hk 74 39 (by omega)).trans s1, hn0, hn⟩
          · skip
            have ex := List.mem_singleton.mp hx
            subst ex
            obtain ⟨W, n0, n, ⟨jT, jL⟩, hP, t33, t76, ⟨s0, s1, hn0, hn⟩, i0, iw, iW, i3, i4, i69, i6, i5⟩ := hI
            obtain ⟨hW, w5, wk⟩ := iW (by decide)
            have hk : ∀ a k, ¬ (a = 74 ∧ 36 ≤ k ∧ k ≤ 37) → E2 a k = E a k := by
              intro a k n0
              apply hfr
              cases hq : zyin [(74, 36, 37)] a k with
              | false => rfl
              | true =>
                obtain ⟨p0, g1, g2, g3, g4⟩ := zyin_iff.mp hq
                simp only [List.mem_cons, List.not_mem_nil, or_false] at g1
                rcases g1 with rfl
                · exact absurd ⟨g2.symm, g3, g4⟩ n0
            exact ⟨zyvo_0 (show zyvo _ [] vo from hvo), ⟨(hk 75 3 (by omega)).trans jT, (hk 75 4 (by omega)).trans jL, zWk_v hW ((hk 75 5 (by omega)).trans w5) (zWk_fr hW (fun k _ _ => hk 75 k (by omega)) wk)⟩, zPn_fr (fun k _ _ => hk 74 k (by omega)) hP, (hk 74 33 (by omega)).trans t33, fun k => (hk 76 k (by omega)).trans (t76 k), n0, n, s0, (hk 74 39 (by omega)).trans s1, hn0, hn⟩
    · cases hx
    · cases hx
    · cases hx
    · cases hx
end
section
/-! phases: line, readsAll (printed by yexo.py) -/
noncomputable def zxlin_zx0 : zyXp := (0, [595], [], [], [], [])
noncomputable def zplin_z : zyPh := (0, [595], [(0, 4294967295)], [], [])
noncomputable def zxlin_ax0 : zyXp := (103, [595], [472, 595, 595], [], [(68719476737, 2147483650, 2147483651)], [(1212452, 16), (1212456, 68719476737)])
noncomputable def zxlin_ax1 : zyXp := (103, [595], [472, 595, 595], [], [(68719476737, 2147483652, 2147483652)], [(1212452, 8), (1212456, 68719476737)])
noncomputable def zxlin_ax2 : zyXp := (103, [595], [472, 595, 595], [], [(68719476737, 2147483649, 2147483649)], [(1212452, 16), (1212456, 68719476737)])
noncomputable def zxlin_ax3 : zyXp := (87, [595], [595], [], [(34359738369, 2147483648, 2147483648), (68719476737, 2147483649, 2147483649)], [(1212452, 34359738369), (1212456, 68719476737)])
noncomputable def zxlin_ax4 : zyXp := (71, [595], [595], [], [(34359738369, 2147483648, 2147483648), (68719476737, 2147483649, 2147483649)], [(1212452, 34359738369), (1212456, 68719476737)])
noncomputable def zxlin_ax5 : zyXp := (55, [595], [595], [], [(34359738369, 2147483648, 2147483648), (68719476737, 2147483649, 2147483649)], [(1212452, 34359738369), (1212456, 68719476737)])
noncomputable def zxlin_ax6 : zyXp := (39, [595], [595], [], [(34359738369, 2147483648, 2147483648), (68719476737, 2147483649, 2147483649)], [(1212452, 34359738369), (1212456, 68719476737)])
noncomputable def zxlin_ax7 : zyXp := (24, [595], [595], [], [(34359738369, 2147483648, 2147483648), (68719476737, 2147483649, 2147483649)], [(1212452, 34359738369), (1212456, 68719476737)])
noncomputable def zxlin_ax8 : zyXp := (9, [595], [595], [], [(34359738369, 2147483648, 2147483648), (68719476737, 2147483649, 2147483649)], [(1212452, 34359738369), (1212456, 68719476737)])
noncomputable def zplin_a : zyPh := (0, [595], [(0, 4294967295), (2147483648, 2147483648), (2147483649, 2147483652)], [(1212452, 34359738369), (1212456, 68719476737)], [])
noncomputable def zxlin_bx0 : zyXp := (103, [595], [472, 595, 595], [], [], [])
noncomputable def zplin_b : zyPh := (12, [595], [(0, 4294967295)], [], [])
noncomputable def zxlin_cx0 : zyXp := (103, [595], [472, 595, 595], [], [], [])
noncomputable def zplin_c : zyPh := (27, [595], [(0, 4294967295)], [], [])
noncomputable def zxlin_dx0 : zyXp := (103, [595], [472, 595, 595], [], [], [])
noncomputable def zplin_d : zyPh := (42, [595], [(0, 4294967295)], [], [])
noncomputable def zxlin_ex0 : zyXp := (103, [595], [472, 595, 595], [], [], [])
noncomputable def zplin_e : zyPh := (58, [595], [(0, 4294967295)], [], [])
noncomputable def zxlin_fx0 : zyXp := (103, [595], [472, 595, 595], [], [], [])
noncomputable def zplin_f : zyPh := (74, [595], [(0, 4294967295)], [], [])
noncomputable def zxlin_gx0 : zyXp := (103, [595], [472, 595, 595], [], [], [])
noncomputable def zplin_g : zyPh := (90, [595], [(0, 4294967295)], [], [])
noncomputable def zxlin_hx0 : zyXp := (106, [595], [34359738369, 595], [], [(34359738369, 2147483648, 2147483649)], [])
noncomputable def zplin_h : zyPh := (106, [595], [(0, 4294967295), (2147483648, 2147483649)], [], [34359738369, 595])
noncomputable def zxlin_jr0 : zyXp := (0, [], [], [], [], [])
noncomputable def zplin_j : zyPh := (109, [595], [(0, 4294967295)], [], [])
noncomputable def zplin (i : Nat) : zyPh := zif (Nat.beq i 0) (zplin_z) (zif (Nat.beq i 1) (zplin_a) (zif (Nat.beq i 2) (zplin_b) (zif (Nat.beq i 3) (zplin_c) (zif (Nat.beq i 4) (zplin_d) (zif (Nat.beq i 5) (zplin_e) (zif (Nat.beq i 6) (zplin_f) (zif (Nat.beq i 7) (zplin_g) (zif (Nat.beq i 8) (zplin_h) (zplin_j)))))))))
noncomputable def zXlin (i : Nat) : List zyXp := zif (Nat.beq i 0) ([zxlin_zx0]) (zif (Nat.beq i 1) ([zxlin_ax0, zxlin_ax1, zxlin_ax2, zxlin_ax3, zxlin_ax4, zxlin_ax5, zxlin_ax6, zxlin_ax7, zxlin_ax8]) (zif (Nat.beq i 2) ([zxlin_bx0]) (zif (Nat.beq i 3) ([zxlin_cx0]) (zif (Nat.beq i 4) ([zxlin_dx0]) (zif (Nat.beq i 5) ([zxlin_ex0]) (zif (Nat.beq i 6) ([zxlin_fx0]) (zif (Nat.beq i 7) ([zxlin_gx0]) (zif (Nat.beq i 8) ([zxlin_hx0]) ([])))))))))
noncomputable def zRlin (i : Nat) : List zyXp := zif (Nat.beq i 0) ([]) (zif (Nat.beq i 1) ([]) (zif (Nat.beq i 2) ([]) (zif (Nat.beq i 3) ([]) (zif (Nat.beq i 4) ([]) (zif (Nat.beq i 5) ([]) (zif (Nat.beq i 6) ([]) (zif (Nat.beq i 7) ([]) (zif (Nat.beq i 8) ([]) ([zxlin_jr0])))))))))
noncomputable def zFlin (i : Nat) : zyR := zif (Nat.beq i 0) ([]) (zif (Nat.beq i 1) ([(74, 36, 37)]) (zif (Nat.beq i 2) ([]) (zif (Nat.beq i 3) ([]) (zif (Nat.beq i 4) ([]) (zif (Nat.beq i 5) ([]) (zif (Nat.beq i 6) ([]) (zif (Nat.beq i 7) ([]) (zif (Nat.beq i 8) ([]) ([])))))))))
noncomputable def zSlin (i : Nat) : Nat := zif (Nat.beq i 0) (0) (zif (Nat.beq i 1) (0) (zif (Nat.beq i 2) (0) (zif (Nat.beq i 3) (0) (zif (Nat.beq i 4) (0) (zif (Nat.beq i 5) (0) (zif (Nat.beq i 6) (0) (zif (Nat.beq i 7) (0) (zif (Nat.beq i 8) (0) (0)))))))))
noncomputable def zxral_ax0 : zyXp := (6, [595, 13, 13], [0, 595], [(24, 103079215105, 74, 288)], [(103079215105, 2147483649, 2147483657)], [])
noncomputable def zxral_ax1 : zyXp := (6, [595, 13, 13], [0, 595], [(24, 103079215105, 74, 288), (24, 137438953473, 74, 320)], [(103079215105, 2147483648, 2147483648), (137438953473, 2147483650, 2147483652)], [])
noncomputable def zxral_ax2 : zyXp := (6, [595, 13, 13], [0, 595], [(24, 103079215105, 74, 288), (24, 137438953473, 74, 320)], [(103079215105, 2147483648, 2147483648), (137438953473, 2147483648, 2147483648)], [])
noncomputable def zxral_ax3 : zyXp := (6, [595, 13, 13], [0, 595], [(24, 103079215105, 74, 288), (24, 137438953473, 74, 320)], [(103079215105, 2147483648, 2147483648), (137438953473, 2147483649, 2147483649)], [])
noncomputable def zxral_ax4 : zyXp := (6, [595, 13, 13], [8, 595], [(24, 103079215105, 74, 288), (24, 137438953473, 74, 320)], [(103079215105, 2147483648, 2147483648), (137438953473, 2147483649, 2147483649)], [])
noncomputable def zpral_a : zyPh := (0, [595, 13, 13], [(0, 4294967295), (0, 4294967295), (0, 4294967295)], [], [])
noncomputable def zxral_bx0 : zyXp := (12, [595, 13, 13], [32, 8, 595], [], [], [])
noncomputable def zpral_b : zyPh := (9, [595, 13, 13], [(0, 4294967295), (0, 4294967295), (0, 4294967295)], [], [])
noncomputable def zxral_cx0 : zyXp := (19, [595, 103079215105, 13], [40, 8, 595], [], [], [])
noncomputable def zpral_c : zyPh := (15, [595, 13, 13], [(0, 4294967295), (0, 4294967295), (0, 4294967295), (0, 4294967295)], [], [103079215105])
noncomputable def zxral_dx0 : zyXp := (27, [595, 34359738369, 103079215105], [472, 595, 595], [], [], [])
noncomputable def zpral_d : zyPh := (22, [595, 34359738369, 13], [(0, 4294967295), (0, 4294967295), (0, 4294967295), (0, 4294967295)], [], [103079215105])
noncomputable def zxral_ex0 : zyXp := (30, [595, 34359738369, 68719476737], [103079215105, 595], [], [(103079215105, 2147483648, 2147483649)], [])
noncomputable def zpral_e : zyPh := (30, [595, 34359738369, 68719476737], [(0, 4294967295), (0, 4294967295), (0, 4294967295), (2147483648, 2147483649)], [], [103079215105, 595])
noncomputable def zxral_fx0 : zyXp := (44, [595, 13, 13], [68719476737, 34359738369, 595], [(24, 103079215105, 74, 288)], [(103079215105, 2147483648, 2147483648)], [])
noncomputable def zxral_fr0 : zyXp := (0, [], [], [(24, 103079215105, 74, 288)], [(103079215105, 2147483649, 2147483657)], [])
noncomputable def zpral_f : zyPh := (33, [595, 34359738369, 68719476737], [(0, 4294967295), (0, 4294967295), (0, 4294967295)], [], [])
noncomputable def zxral_gx0 : zyXp := (62, [595, 13, 13], [595], [(24, 103079215105, 74, 288), (24, 137438953473, 74, 320)], [(103079215105, 2147483648, 2147483648), (137438953473, 2147483649, 2147483652)], [])
noncomputable def zxral_gr0 : zyXp := (0, [], [], [], [], [])
noncomputable def zpral_g : zyPh := (47, [595, 13, 13], [(0, 4294967295), (0, 4294967295), (0, 4294967295)], [], [])
noncomputable def zxral_hx0 : zyXp := (47, [595, 13, 13], [], [], [], [])
noncomputable def zpral_h : zyPh := (65, [595, 13, 13], [(0, 4294967295), (0, 4294967295), (0, 4294967295)], [], [])
noncomputable def zpral (i : Nat) : zyPh := zif (Nat.beq i 0) (zpral_a) (zif (Nat.beq i 1) (zpral_b) (zif (Nat.beq i 2) (zpral_c) (zif (Nat.beq i 3) (zpral_d) (zif (Nat.beq i 4) (zpral_e) (zif (Nat.beq i 5) (zpral_f) (zif (Nat.beq i 6) (zpral_g) (zpral_h)))))))
noncomputable def zXral (i : Nat) : List zyXp := zif (Nat.beq i 0) ([zxral_ax0, zxral_ax1, zxral_ax2, zxral_ax3, zxral_ax4]) (zif (Nat.beq i 1) ([zxral_bx0]) (zif (Nat.beq i 2) ([zxral_cx0]) (zif (Nat.beq i 3) ([zxral_dx0]) (zif (Nat.beq i 4) ([zxral_ex0]) (zif (Nat.beq i 5) ([zxral_fx0]) (zif (Nat.beq i 6) ([zxral_gx0]) ([zxral_hx0])))))))
noncomputable def zRral (i : Nat) : List zyXp := zif (Nat.beq i 0) ([]) (zif (Nat.beq i 1) ([]) (zif (Nat.beq i 2) ([]) (zif (Nat.beq i 3) ([]) (zif (Nat.beq i 4) ([]) (zif (Nat.beq i 5) ([zxral_fr0]) (zif (Nat.beq i 6) ([zxral_gr0]) ([])))))))
noncomputable def zFral (i : Nat) : zyR := zif (Nat.beq i 0) ([]) (zif (Nat.beq i 1) ([]) (zif (Nat.beq i 2) ([]) (zif (Nat.beq i 3) ([]) (zif (Nat.beq i 4) ([]) (zif (Nat.beq i 5) ([]) (zif (Nat.beq i 6) ([]) ([])))))))
noncomputable def zSral (i : Nat) : Nat := zif (Nat.beq i 0) (0) (zif (Nat.beq i 1) (0) (zif (Nat.beq i 2) (0) (zif (Nat.beq i 3) (0) (zif (Nat.beq i 4) (0) (zif (Nat.beq i 5) (0) (zif (Nat.beq i 6) (0) (0)))))))
end
section
/-! A LINE is read -/
theorem zytakesR {l : Launch} {r c : Nat} (hp : zyPr r c) {en : zEn} {me : zMe} (hen : zG zxMeta 318 = some en) (hme : zG zMeth 318 = some me) : zyHc l (zymr r c) en me 4 1 zyΦtk zyΨtk := zyHc_r (zytakes hen hme) (fun as E E2 vo h k hk => h.2.1 75 k (by omega)) hp
def zyΦli (_ : List Int32) (E : zyEm) : Prop := zJl E ∧ zPn E ∧ E 74 36 = some (.int (Int32.ofNat 0)) ∧ ∃ s : Nat, 1 ≤ s ∧ s ≤ 4 ∧ E 74 40 = some (.int (Int32.ofNat s))
def zyΨli (_ : List Int32) (E E2 : zyEm) (vo : Option Value) : Prop := vo = none ∧ zyKl E E2 ∧ ∃ w n n' : Nat, w ≤ 9 ∧ E2 74 36 = some (.int (Int32.ofNat w)) ∧ E 74 39 = some (.int (Int32.ofNat n)) ∧ E2 74 39 = some (.int (Int32.ofNat n')) ∧ n' ≤ 901 ∧ (w = 0 → n < n')
theorem zyKl_tr {E E1 E2 : zyEm} (h1 : zyKl E E1) (h2 : zyKl E1 E2) : zyKl E E2 := by
  obtain ⟨a1, a2, a3, a4, n, n1, a5, a6, a7, a8⟩ := h1
  obtain ⟨b1, b2, b3, b4, m, m1, b5, b6, b7, b8⟩ := h2
  rw [a6] at b5
  have e := zyOi (by omega) (by omega) (Value.int.inj (Option.some.inj b5))
  exact ⟨b1, b2, b3.trans a3, fun k => (b4 k).trans (a4 k), n, m1, a5, b6, by omega, b8⟩
theorem zyKl_re {E E1 E2 : zyEm} (h1 : zyKl E E1) (h : ∀ a k, ¬ (a = 74 ∧ 36 ≤ k ∧ k ≤ 37) → E2 a k = E1 a k) : zyKl E E2 := by
  obtain ⟨a1, a2, a3, a4, n, n1, a5, a6, a7, a8⟩ := h1
  exact ⟨zJl_fr (fun k _ => h 75 k (by omega)) a1, zPn_fr (fun k _ _ => h 74 k (by omega)) a2, (h 74 33 (by omega)).trans a3, fun k => (h 76 k (by omega)).trans (a4 k), n, n1, a5, (h 74 39 (by omega)).trans a6, a7, a8⟩
theorem zyKl_tk {E E2 : zyEm} {vo : Option Value} {as : List Int32} (hJ : zJl E) (h : zyΨtk as E E2 vo) : zyKl E E2 := by
  obtain ⟨-, p1, p2, n, n', w, w', g, q1, q2, q3, q4, q5, -⟩ := h
  exact ⟨zJl_fr (fun k _ => p1 75 k (by omega)) hJ, p2, p1 74 33 (by omega), fun k => p1 76 k (by omega), n, n', q2, q3, q4, q5⟩
theorem zylin_run : zyAllP (fun r c => zyrS (zymr r c) zxi327 (327, 0, 0, 0, 0) 10 zplin (fun _ _ => []) zFlin zSlin zXlin zRlin 10) = true := by decide +kernel
theorem zyline {l : Launch} {r c : Nat} (h1 : 1 ≤ r) (h2 : r ≤ 4) (h3 : 1 ≤ c) (h4 : c ≤ 5) {en : zEn} {me : zMe} (hen : zG zxMeta 327 = some en) (hme : zG zMeth 327 = some me) : zyHc l (zymr r c) en me 10 0 zyΦli zyΨli := by
  have een : zG zxMeta 327 = some (zxi327, 1, 1, 11, 327, 0, 0, 0, 0) := rfl
  obtain ⟨me1, hme1, hOK⟩ := zall hen
  rw [hme] at hme1
  cases hme1
  rw [een] at hen
  cases hen
  have hr := zyAllP_iff zylin_run h1 h2 h3 h4
  obtain ⟨mer1, hmer1, -⟩ := zall (show zG zxMeta 321 = some (zxi321, 1, 5, 11, 321, 0, 0, 0, 0) from rfl)
  have hr1 := zyreadsSwitch_L (l := l) (r := r) (c := c) ⟨h1, h2, h3, h4⟩ (show zG zxMeta 321 = some (zxi321, 1, 5, 11, 321, 0, 0, 0, 0) from rfl) hmer1
  obtain ⟨mer2, hmer2, -⟩ := zall (show zG zxMeta 322 = some (zxi322, 1, 2, 11, 322, 0, 0, 0, 0) from rfl)
  have hr2 := zyreadsBobbin_L (l := l) (r := r) (c := c) ⟨h1, h2, h3, h4⟩ (show zG zxMeta 322 = some (zxi322, 1, 2, 11, 322, 0, 0, 0, 0) from rfl) hmer2
  obtain ⟨mer3, hmer3, -⟩ := zall (show zG zxMeta 323 = some (zxi323, 1, 3, 11, 323, 0, 0, 0, 0) from rfl)
  have hr3 := zyreadsStuck_L (l := l) (r := r) (c := c) ⟨h1, h2, h3, h4⟩ (show zG zxMeta 323 = some (zxi323, 1, 3, 11, 323, 0, 0, 0, 0) from rfl) hmer3
  obtain ⟨mer4, hmer4, -⟩ := zall (show zG zxMeta 324 = some (zxi324, 1, 2, 11, 324, 0, 0, 0, 0) from rfl)
  have hr4 := zyreadsFree_L (l := l) (r := r) (c := c) ⟨h1, h2, h3, h4⟩ (show zG zxMeta 324 = some (zxi324, 1, 2, 11, 324, 0, 0, 0, 0) from rfl) hmer4
  obtain ⟨mer5, hmer5, -⟩ := zall (show zG zxMeta 325 = some (zxi325, 1, 3, 11, 325, 0, 0, 0, 0) from rfl)
  have hr5 := zyreadsPlace_L (l := l) (r := r) (c := c) ⟨h1, h2, h3, h4⟩ (show zG zxMeta 325 = some (zxi325, 1, 3, 11, 325, 0, 0, 0, 0) from rfl) hmer5
  obtain ⟨mer6, hmer6, -⟩ := zall (show zG zxMeta 326 = some (zxi326, 1, 2, 11, 326, 0, 0, 0, 0) from rfl)
  have hr6 := zyreadsWord (l := l) h1 h2 h3 h4 (show zG zxMeta 326 = some (zxi326, 1, 2, 11, 326, 0, 0, 0, 0) from rfl) hmer6
  obtain ⟨mesg, hmesg, -⟩ := zall (show zG zxMeta 317 = some (zxi317, 2, 2, 11, 317, 0, 0, 2, 0) from rfl)
  have hsg := zyisSignR (l := l) (r := r) (c := c) ⟨h1, h2, h3, h4⟩ (show zG zxMeta 317 = some (zxi317, 2, 2, 11, 317, 0, 0, 2, 0) from rfl) hmesg
  obtain ⟨metk, hmetk, -⟩ := zall (show zG zxMeta 318 = some (zxi318, 2, 2, 11, 318, 0, 0, 0, 0) from rfl)
  have htk := zytakesR (l := l) (r := r) (c := c) ⟨h1, h2, h3, h4⟩ (show zG zxMeta 318 = some (zxi318, 2, 2, 11, 318, 0, 0, 0, 0) from rfl) hmetk
  refine zycutS (mi := zymr r c) hOK rfl rfl ⟨_, rfl, rfl⟩ (ι := Fin 10) (fun i => zplin i.val) (fun _ _ => []) (fun i => zFlin i.val) (fun i => zSlin i.val) (fun i => zXlin i.val) (fun i => zRlin i.val) (fun i y2 ct en2 me2 h => by cases h) 200000 (fun i => zyAll_iff hr i.val i.isLt) ⟨0, by decide⟩ ⟨rfl, rfl, rfl, rfl⟩ ⟨by decide, by decide⟩
    (fun i as E0 ρ E => (i.val ≤ 1 → E = E0 ∧ zyΦli as E0) ∧ (2 ≤ i.val → zyKl E0 E) ∧ (i.val = 1 → ∃ u : Nat, E0 74 40 = some (.int (Int32.ofNat u)) ∧ ρ 2 = Int32.ofNat u) ∧ (i.val = 8 → ρ 1 = 1 → E 74 36 = some (.int (Int32.ofNat 0)) ∧ E 74 40 = some (.int (Int32.ofNat 3))) ∧ (i.val = 9 → ∃ w n n' : Nat, w ≤ 9 ∧ E 74 36 = some (.int (Int32.ofNat w)) ∧ E0 74 39 = some (.int (Int32.ofNat n)) ∧ E 74 39 = some (.int (Int32.ofNat n')) ∧ n' ≤ 901 ∧ (w = 0 → n < n'))) (fun i as E0 ρ E => 10 - i.val) ?_ ?_ ?_
  · intro as E hlen hT hΦ
    exact ⟨zEnv_c (zyfull _) zEnv_nil, fun _ => ⟨rfl, hΦ⟩, fun h => absurd (show 2 ≤ 0 from h) (by decide), fun h => absurd (show 0 = 1 from h) (by decide), fun h => absurd (show 0 = 8 from h) (by decide), fun h => absurd (show 0 = 9 from h) (by decide)⟩
  · intro as B s Wg hRu hT0 hΦ hlen i ρ H hT hInv hIH x hx ρ2 N2 H2 locs lsB stA hAt hXs hag hfr hT2
    rcases i with ⟨i, hi⟩
    have hi2 : i = 0 ∨ i = 1 ∨ i = 2 ∨ i = 3 ∨ i = 4 ∨ i = 5 ∨ i = 6 ∨ i = 7 ∨ i = 8 ∨ i = 9 := by omega
    rcases hi2 with rfl | rfl | rfl | rfl | rfl | rfl | rfl | rfl | rfl | rfl
    · have hx : x ∈ [zxlin_zx0] := hx
      have hg : ∀ k, k < 1 → ρ2 k = ρ k := hag
      have hI := hInv
      have hI : (0 ≤ 1 → (zyEl (zymr r c) B H) = (zyEl (zymr r c) B s.heap) ∧ zyΦli as (zyEl (zymr r c) B s.heap)) ∧ (2 ≤ 0 → zyKl (zyEl (zymr r c) B s.heap) (zyEl (zymr r c) B H)) ∧ (0 = 1 → ∃ u : Nat, (zyEl (zymr r c) B s.heap) 74 40 = some (.int (Int32.ofNat u)) ∧ ρ 2 = Int32.ofNat u) ∧ (0 = 8 → ρ 1 = 1 → (zyEl (zymr r c) B H) 74 36 = some (.int (Int32.ofNat 0)) ∧ (zyEl (zymr r c) B H) 74 40 = some (.int (Int32.ofNat 3))) ∧ (0 = 9 → ∃ w n n' : Nat, w ≤ 9 ∧ (zyEl (zymr r c) B H) 74 36 = some (.int (Int32.ofNat w)) ∧ (zyEl (zymr r c) B s.heap) 74 39 = some (.int (Int32.ofNat n)) ∧ (zyEl (zymr r c) B H) 74 39 = some (.int (Int32.ofNat n')) ∧ n' ≤ 901 ∧ (w = 0 → n < n')) := hI
      obtain ⟨hF, hB, hM⟩ := hXs
      have hEE : (zyEl (zymr r c) B H2) = (zyEl (zymr r c) B H) := zyfr0 hfr
      have ex := List.mem_singleton.mp hx
      subst ex
      obtain ⟨i0, i2, i1, i8, i9⟩ := hI
      obtain ⟨ea, hΦ1⟩ := i0 (by decide)
      obtain ⟨j1, j2, w0, s, hs1, hs2, so⟩ := hΦ
      refine zyGoAny hIH hAt ⟨1, by decide⟩ [595] (zyρ2k (fun k => zyw ρ2 (zyag [595] k)) (Int32.ofNat 0) (Int32.ofNat s)) rfl rfl (fun i hi => by have hi : i < 1 := hi; rw [show i = 0 by omega]; rfl) (zEnv_c (zyfull _) (zEnv_c ⟨show 2147483648 ≤ zB (Int32.ofNat 0) by decide, show zB (Int32.ofNat 0) ≤ 2147483648 by decide⟩ (zEnv_c ⟨?_, ?_⟩ zEnv_nil))) ?_ ?_ ⟨fun _ => ⟨hEE.trans ea, hΦ1⟩, fun h => absurd (show 2 ≤ 1 from h) (by decide), fun _ => ⟨s, so, rfl⟩, fun h => absurd (show 1 = 8 from h) (by decide), fun h => absurd (show 1 = 9 from h) (by decide)⟩ (show 10 - 1 < 10 - 0 by decide)
      · show 2147483649 ≤ zB (Int32.ofNat s)
        rw [zyBn (by omega)]
        omega
      · show zB (Int32.ofNat s) ≤ 2147483652
        rw [zyBn (by omega)]
        omega
      · rw [zySt_n (show zySt (zyXn B ρ2 N2) [] stA from hAt.2.2.2.2.2)]
        trivial
      · intro z hz
        have hz : z ∈ [(1212452, 34359738369), (1212456, 68719476737)] := hz
        simp only [List.mem_cons, List.not_mem_nil, or_false] at hz
        rcases hz with rfl | rfl
        · exact ⟨zymr74, _, rfl, show 36 < 49 by decide, show zyEl (zymr r c) B H2 74 36 = _ by rw [hEE, ea]; exact w0, zyv_sym (i := 1) (show 1 < 3 by decide) rfl⟩
        · exact ⟨zymr74, _, rfl, show 40 < 49 by decide, show zyEl (zymr r c) B H2 74 40 = _ by rw [hEE, ea]; exact so, zyv_sym (i := 2) (show 2 < 3 by decide) rfl⟩
    · have hx : x ∈ [zxlin_ax0, zxlin_ax1, zxlin_ax2, zxlin_ax3, zxlin_ax4, zxlin_ax5, zxlin_ax6, zxlin_ax7, zxlin_ax8] := hx
      have hg : ∀ k, k < 3 → ρ2 k = ρ k := hag
      have hI := hInv
      have hI : (1 ≤ 1 → (zyEl (zymr r c) B H) = (zyEl (zymr r c) B s.heap) ∧ zyΦli as (zyEl (zymr r c) B s.heap)) ∧ (2 ≤ 1 → zyKl (zyEl (zymr r c) B s.heap) (zyEl (zymr r c) B H)) ∧ (1 = 1 → ∃ u : Nat, (zyEl (zymr r c) B s.heap) 74 40 = some (.int (Int32.ofNat u)) ∧ ρ 2 = Int32.ofNat u) ∧ (1 = 8 → ρ 1 = 1 → (zyEl (zymr r c) B H) 74 36 = some (.int (Int32.ofNat 0)) ∧ (zyEl (zymr r c) B H) 74 40 = some (.int (Int32.ofNat 3))) ∧ (1 = 9 → ∃ w n n' : Nat, w ≤ 9 ∧ (zyEl (zymr r c) B H) 74 36 = some (.int (Int32.ofNat w)) ∧ (zyEl (zymr r c) B s.heap) 74 39 = some (.int (Int32.ofNat n)) ∧ (zyEl (zymr r c) B H) 74 39 = some (.int (Int32.ofNat n')) ∧ n' ≤ 901 ∧ (w = 0 → n < n')) := hI
      obtain ⟨hF, hB, hM⟩ := hXs
      have hfr : ∀ a k, zyin [(74, 36, 37)] a k = false → (zyEl (zymr r c) B H2) a k = (zyEl (zymr r c) B H) a k := hfr
      rcases List.mem_cons.mp hx with ex | hx
      · subst ex
        obtain ⟨i0, i2, i1, i8, i9⟩ := hI
        obtain ⟨ea, -⟩ := i0 (by decide)
        obtain ⟨j1, j2, w0, s9, hs1, hs2, so9⟩ := hΦ
        obtain ⟨n, hn, s1⟩ := zc74r hT0 (k := 39) (lo := 2147483648) (hi := 2147484549) (by decide) rfl (by decide) (by decide)
        have hk : ∀ a k, ¬ (a = 74 ∧ 36 ≤ k ∧ k ≤ 37) → (zyEl (zymr r c) B H2) a k = (zyEl (zymr r c) B H) a k := by
          intro a k n0
          apply hfr
          cases hq : zyin [(74, 36, 37)] a k with
          | false => rfl
          | true =>
            obtain ⟨p0, g1, g2, g3, g4⟩ := zyin_iff.mp hq
            simp only [List.mem_cons, List.not_mem_nil, or_false] at g1
            rcases g1 with rfl
            · exact absurd ⟨g2.symm, g3, g4⟩ n0
        have hk0 : ∀ a k, ¬ (a = 74 ∧ 36 ≤ k ∧ k ≤ 37) → (zyEl (zymr r c) B H2) a k = (zyEl (zymr r c) B s.heap) a k := fun a k n1 => (hk a k n1).trans (by rw [ea])
        have kl : zyKl (zyEl (zymr r c) B s.heap) (zyEl (zymr r c) B H2) := ⟨zJl_fr (fun k _ => hk0 75 k (by omega)) j1, zPn_fr (fun k _ _ => hk0 74 k (by omega)) j2, hk0 74 33 (by omega), fun k => hk0 76 k (by omega), n, n, s1, (hk0 74 39 (by omega)).trans s1, Nat.le_refl _, by omega⟩
        refine zyCaV hRu hIH hAt hB hsg (ix := 466) (ax := 5072) rfl rfl rfl hmesg ⟨rfl, rfl, rfl, rfl⟩ (by decide) [472] [595] rfl (by decide) (by decide) rfl ⟨8, by decide⟩ [595] [(0, 4294967295)] 2147483648 2147483649 rfl (by decide) rfl rfl rfl rfl [595] rfl rfl ?_ ?_
        · show zyΦsg _ _
          exact ⟨kl.2.1, _, rfl⟩
        · intro E3 vo hT3 hΨ
          obtain ⟨e3, z, ez, hz, hz1⟩ := (show zyΨsg _ _ E3 vo from hΨ)
          subst e3
          refine ⟨z, ez, ?_, ?_, ⟨fun h => absurd (show 8 ≤ 1 from h) (by decide), fun _ => kl, fun h => absurd (show 8 = 1 from h) (by decide), fun _ q2 => hz1 (zyρi_e.symm.trans q2), fun h => absurd (show 8 = 9 from h) (by decide)⟩, ?_⟩
          · rcases hz with rfl | rfl <;> decide
          · rcases hz with rfl | rfl <;> decide
          · show 10 - 8 < 10 - 1
            decide
      · skip
        rcases List.mem_cons.mp hx with ex | hx
        · subst ex
          obtain ⟨i0, i2, i1, i8, i9⟩ := hI
          obtain ⟨ea, -⟩ := i0 (by decide)
          obtain ⟨j1, j2, w0, s9, hs1, hs2, so9⟩ := hΦ
          obtain ⟨n, hn, s1⟩ := zc74r hT0 (k := 39) (lo := 2147483648) (hi := 2147484549) (by decide) rfl (by decide) (by decide)
          have hk : ∀ a k, ¬ (a = 74 ∧ 36 ≤ k ∧ k ≤ 37) → (zyEl (zymr r c) B H2) a k = (zyEl (zymr r c) B H) a k := by
            intro a k n0
            apply hfr
            cases hq : zyin [(74, 36, 37)] a k with
            | false => rfl
            | true =>
              obtain ⟨p0, g1, g2, g3, g4⟩ := zyin_iff.mp hq
              simp only [List.mem_cons, List.not_mem_nil, or_false] at g1
              rcases g1 with rfl
              · exact absurd ⟨g2.symm, g3, g4⟩ n0
          have hk0 : ∀ a k, ¬ (a = 74 ∧ 36 ≤ k ∧ k ≤ 37) → (zyEl (zymr r c) B H2) a k = (zyEl (zymr r c) B s.heap) a k := fun a k n1 => (hk a k n1).trans (by rw [ea])
          have kl : zyKl (zyEl (zymr r c) B s.heap) (zyEl (zymr r c) B H2) := ⟨zJl_fr (fun k _ => hk0 75 k (by omega)) j1, zPn_fr (fun k _ _ => hk0 74 k (by omega)) j2, hk0 74 33 (by omega), fun k => hk0 76 k (by omega), n, n, s1, (hk0 74 39 (by omega)).trans s1, Nat.le_refl _, by omega⟩
          refine zyCaV hRu hIH hAt hB hsg (ix := 466) (ax := 5072) rfl rfl rfl hmesg ⟨rfl, rfl, rfl, rfl⟩ (by decide) [472] [595] rfl (by decide) (by decide) rfl ⟨8, by decide⟩ [595] [(0, 4294967295)] 2147483648 2147483649 rfl (by decide) rfl rfl rfl rfl [595] rfl rfl ?_ ?_
          · show zyΦsg _ _
            exact ⟨kl.2.1, _, rfl⟩
          · intro E3 vo hT3 hΨ
            obtain ⟨e3, z, ez, hz, hz1⟩ := (show zyΨsg _ _ E3 vo from hΨ)
            subst e3
            refine ⟨z, ez, ?_, ?_, ⟨fun h => absurd (show 8 ≤ 1 from h) (by decide), fun _ => kl, fun h => absurd (show 8 = 1 from h) (by decide), fun _ q2 => hz1 (zyρi_e.symm.trans q2), fun h => absurd (show 8 = 9 from h) (by decide)⟩, ?_⟩
            · rcases hz with rfl | rfl <;> decide
            · rcases hz with rfl | rfl <;> decide
            · show 10 - 8 < 10 - 1
              decide
        · skip
          rcases List.mem_cons.mp hx with ex | hx
          · subst ex
            obtain ⟨i0, i2, i1, i8, i9⟩ := hI
            obtain ⟨ea, -⟩ := i0 (by decide)
            obtain ⟨j1, j2, w0, s9, hs1, hs2, so9⟩ := hΦ
            obtain ⟨n, hn, s1⟩ := zc74r hT0 (k := 39) (lo := 2147483648) (hi := 2147484549) (by decide) rfl (by decide) (by decide)
            have hk : ∀ a k, ¬ (a = 74 ∧ 36 ≤ k ∧ k ≤ 37) → (zyEl (zymr r c) B H2) a k = (zyEl (zymr r c) B H) a k := by
              intro a k n0
              apply hfr
              cases hq : zyin [(74, 36, 37)] a k with
              | false => rfl
              | true =>
                obtain ⟨p0, g1, g2, g3, g4⟩ := zyin_iff.mp hq
                simp only [List.mem_cons, List.not_mem_nil, or_false] at g1
                rcases g1 with rfl
                · exact absurd ⟨g2.symm, g3, g4⟩ n0
            have hk0 : ∀ a k, ¬ (a = 74 ∧ 36 ≤ k ∧ k ≤ 37) → (zyEl (zymr r c) B H2) a k = (zyEl (zymr r c) B s.heap) a k := fun a k n1 => (hk a k n1).trans (by rw [ea])
            have kl : zyKl (zyEl (zymr r c) B s.heap) (zyEl (zymr r c) B H2) := ⟨zJl_fr (fun k _ => hk0 75 k (by omega)) j1, zPn_fr (fun k _ _ => hk0 74 k (by omega)) j2, hk0 74 33 (by omega), fun k => hk0 76 k (by omega), n, n, s1, (hk0 74 39 (by omega)).trans s1, Nat.le_refl _, by omega⟩
            refine zyCaV hRu hIH hAt hB hsg (ix := 466) (ax := 5072) rfl rfl rfl hmesg ⟨rfl, rfl, rfl, rfl⟩ (by decide) [472] [595] rfl (by decide) (by decide) rfl ⟨8, by decide⟩ [595] [(0, 4294967295)] 2147483648 2147483649 rfl (by decide) rfl rfl rfl rfl [595] rfl rfl ?_ ?_
            · show zyΦsg _ _
              exact ⟨kl.2.1, _, rfl⟩
            · intro E3 vo hT3 hΨ
              obtain ⟨e3, z, ez, hz, hz1⟩ := (show zyΨsg _ _ E3 vo from hΨ)
              subst e3
              refine ⟨z, ez, ?_, ?_, ⟨fun h => absurd (show 8 ≤ 1 from h) (by decide), fun _ => kl, fun h => absurd (show 8 = 1 from h) (by decide), fun _ q2 => hz1 (zyρi_e.symm.trans q2), fun h => absurd (show 8 = 9 from h) (by decide)⟩, ?_⟩
              · rcases hz with rfl | rfl <;> decide
              · rcases hz with rfl | rfl <;> decide
              · show 10 - 8 < 10 - 1
                decide
          · skip
            rcases List.mem_cons.mp hx with ex | hx
            · subst ex
              obtain ⟨i0, i2, i1, i8, i9⟩ := hI
              obtain ⟨ea, -⟩ := i0 (by decide)
              obtain ⟨j1, j2, w0, s9, hs1, hs2, so9⟩ := hΦ
              obtain ⟨n, hn, s1⟩ := zc74r hT0 (k := 39) (lo := 2147483648) (hi := 2147484549) (by decide) rfl (by decide) (by decide)
              have hk : ∀ a k, ¬ (a = 74 ∧ 36 ≤ k ∧ k ≤ 37) → (zyEl (zymr r c) B H2) a k = (zyEl (zymr r c) B H) a k := by
                intro a k n0
                apply hfr
                cases hq : zyin [(74, 36, 37)] a k with
                | false => rfl
                | true =>
                  obtain ⟨p0, g1, g2, g3, g4⟩ := zyin_iff.mp hq
                  simp only [List.mem_cons, List.not_mem_nil, or_false] at g1
                  rcases g1 with rfl
                  · exact absurd ⟨g2.symm, g3, g4⟩ n0
              have hk0 : ∀ a k, ¬ (a = 74 ∧ 36 ≤ k ∧ k ≤ 37) → (zyEl (zymr r c) B H2) a k = (zyEl (zymr r c) B s.heap) a k := fun a k n1 => (hk a k n1).trans (by rw [ea])
              have kl : zyKl (zyEl (zymr r c) B s.heap) (zyEl (zymr r c) B H2) := ⟨zJl_fr (fun k _ => hk0 75 k (by omega)) j1, zPn_fr (fun k _ _ => hk0 74 k (by omega)) j2, hk0 74 33 (by omega), fun k => hk0 76 k (by omega), n, n, s1, (hk0 74 39 (by omega)).trans s1, Nat.le_refl _, by omega⟩
              have m0 := zyXm hM 0 rfl
              have m0 : zyEl (zymr r c) B H2 74 36 = some (.int (ρ2 1)) := m0
              have m1 := zyXm hM 1 rfl
              have m1 : zyEl (zymr r c) B H2 74 40 = some (.int (ρ2 2)) := m1
              have b1 := zyXb hB 0 rfl
              have b1 : 2147483648 ≤ zB (ρ2 1) ∧ zB (ρ2 1) ≤ 2147483648 := b1
              have b2 := zyXb hB 1 rfl
              have b2 : 2147483649 ≤ zB (ρ2 2) ∧ zB (ρ2 2) ≤ 2147483649 := b2
              obtain ⟨o1, o2⟩ := zyOn b1.1
              obtain ⟨o3, o4⟩ := zyOn (show 2147483648 ≤ zB (ρ2 2) by omega)
              rw [o1, show zyN1 (ρ2 1) = 0 by omega] at m0
              rw [o3, show zyN1 (ρ2 2) = 1 by omega] at m1
              refine zyCa0 hRu hIH hAt hB hr6 (ix := 485) (ax := 5216) rfl rfl rfl hmer6 ⟨rfl, rfl, rfl, rfl⟩ (by decide) [] rfl (by decide) rfl ⟨7, by decide⟩ [595] rfl rfl rfl rfl ⟨kl.1, kl.2.1, m0, m1⟩ ?_
              intro E3 vo hT3 hΨ
              obtain ⟨ev, p1⟩ := (show zyΨl _ _ E3 vo from hΨ)
              exact ⟨ev, ⟨fun h => absurd (show 7 ≤ 1 from h) (by decide), fun _ => zyKl_tr kl p1, fun h => absurd (show 7 = 1 from h) (by decide), fun h => absurd (show 7 = 8 from h) (by decide), fun h => absurd (show 7 = 9 from h) (by decide)⟩, (show 10 - 7 < 10 - 1 by decide)⟩
            · skip
              rcases List.mem_cons.mp hx with ex | hx
              · subst ex
                obtain ⟨i0, i2, i1, i8, i9⟩ := hI
                obtain ⟨ea, -⟩ := i0 (by decide)
                obtain ⟨j1, j2, w0, s9, hs1, hs2, so9⟩ := hΦ
                obtain ⟨n, hn, s1⟩ := zc74r hT0 (k := 39) (lo := 2147483648) (hi := 2147484549) (by decide) rfl (by decide) (by decide)
                have hk : ∀ a k, ¬ (a = 74 ∧ 36 ≤ k ∧ k ≤ 37) → (zyEl (zymr r c) B H2) a k = (zyEl (zymr r c) B H) a k := by
                  intro a k n0
                  apply hfr
                  cases hq : zyin [(74, 36, 37)] a k with
                  | false => rfl
                  | true =>
                    obtain ⟨p0, g1, g2, g3, g4⟩ := zyin_iff.mp hq
                    simp only [List.mem_cons, List.not_mem_nil, or_false] at g1
                    rcases g1 with rfl
                    · exact absurd ⟨g2.symm, g3, g4⟩ n0
                have hk0 : ∀ a k, ¬ (a = 74 ∧ 36 ≤ k ∧ k ≤ 37) → (zyEl (zymr r c) B H2) a k = (zyEl (zymr r c) B s.heap) a k := fun a k n1 => (hk a k n1).trans (by rw [ea])
                have kl : zyKl (zyEl (zymr r c) B s.heap) (zyEl (zymr r c) B H2) := ⟨zJl_fr (fun k _ => hk0 75 k (by omega)) j1, zPn_fr (fun k _ _ => hk0 74 k (by omega)) j2, hk0 74 33 (by omega), fun k => hk0 76 k (by omega), n, n, s1, (hk0 74 39 (by omega)).trans s1, Nat.le_refl _, by omega⟩
                have m0 := zyXm hM 0 rfl
                have m0 : zyEl (zymr r c) B H2 74 36 = some (.int (ρ2 1)) := m0
                have m1 := zyXm hM 1 rfl
                have m1 : zyEl (zymr r c) B H2 74 40 = some (.int (ρ2 2)) := m1
                have b1 := zyXb hB 0 rfl
                have b1 : 2147483648 ≤ zB (ρ2 1) ∧ zB (ρ2 1) ≤ 2147483648 := b1
                have b2 := zyXb hB 1 rfl
                have b2 : 2147483649 ≤ zB (ρ2 2) ∧ zB (ρ2 2) ≤ 2147483649 := b2
                obtain ⟨o1, o2⟩ := zyOn b1.1
                obtain ⟨o3, o4⟩ := zyOn (show 2147483648 ≤ zB (ρ2 2) by omega)
                rw [o1, show zyN1 (ρ2 1) = 0 by omega] at m0
                rw [o3, show zyN1 (ρ2 2) = 1 by omega] at m1
                refine zyCa0 hRu hIH hAt hB hr5 (ix := 482) (ax := 5200) rfl rfl rfl hmer5 ⟨rfl, rfl, rfl, rfl⟩ (by decide) [] rfl (by decide) rfl ⟨6, by decide⟩ [595] rfl rfl rfl rfl ⟨kl.1, kl.2.1, m0, m1⟩ ?_
                intro E3 vo hT3 hΨ
                obtain ⟨ev, p1⟩ := (show zyΨl _ _ E3 vo from hΨ)
                exact ⟨ev, ⟨fun h => absurd (show 6 ≤ 1 from h) (by decide), fun _ => zyKl_tr kl p1, fun h => absurd (show 6 = 1 from h) (by decide), fun h => absurd (show 6 = 8 from h) (by decide), fun h => absurd (show 6 = 9 from h) (by decide)⟩, (show 10 - 6 < 10 - 1 by decide)⟩
              · skip
                rcases List.mem_cons.mp hx with ex | hx
                · subst ex
                  obtain ⟨i0, i2, i1, i8, i9⟩ := hI
                  obtain ⟨ea, -⟩ := i0 (by decide)
                  obtain ⟨j1, j2, w0, s9, hs1, hs2, so9⟩ := hΦ
                  obtain ⟨n, hn, s1⟩ := zc74r hT0 (k := 39) (lo := 2147483648) (hi := 2147484549) (by decide) rfl (by decide) (by decide)
                  have hk : ∀ a k, ¬ (a = 74 ∧ 36 ≤ k ∧ k ≤ 37) → (zyEl (zymr r c) B H2) a k = (zyEl (zymr r c) B H) a k := by
                    intro a k n0
                    apply hfr
                    cases hq : zyin [(74, 36, 37)] a k with
                    | false => rfl
                    | true =>
                      obtain ⟨p0, g1, g2, g3, g4⟩ := zyin_iff.mp hq
                      simp only [List.mem_cons, List.not_mem_nil, or_false] at g1
                      rcases g1 with rfl
                      · exact absurd ⟨g2.symm, g3, g4⟩ n0
                  have hk0 : ∀ a k, ¬ (a = 74 ∧ 36 ≤ k ∧ k ≤ 37) → (zyEl (zymr r c) B H2) a k = (zyEl (zymr r c) B s.heap) a k := fun a k n1 => (hk a k n1).trans (by rw [ea])
                  have kl : zyKl (zyEl (zymr r c) B s.heap) (zyEl (zymr r c) B H2) := ⟨zJl_fr (fun k _ => hk0 75 k (by omega)) j1, zPn_fr (fun k _ _ => hk0 74 k (by omega)) j2, hk0 74 33 (by omega), fun k => hk0 76 k (by omega), n, n, s1, (hk0 74 39 (by omega)).trans s1, Nat.le_refl _, by omega⟩
                  have m0 := zyXm hM 0 rfl
                  have m0 : zyEl (zymr r c) B H2 74 36 = some (.int (ρ2 1)) := m0
                  have m1 := zyXm hM 1 rfl
                  have m1 : zyEl (zymr r c) B H2 74 40 = some (.int (ρ2 2)) := m1
                  have b1 := zyXb hB 0 rfl
                  have b1 : 2147483648 ≤ zB (ρ2 1) ∧ zB (ρ2 1) ≤ 2147483648 := b1
                  have b2 := zyXb hB 1 rfl
                  have b2 : 2147483649 ≤ zB (ρ2 2) ∧ zB (ρ2 2) ≤ 2147483649 := b2
                  obtain ⟨o1, o2⟩ := zyOn b1.1
                  obtain ⟨o3, o4⟩ := zyOn (show 2147483648 ≤ zB (ρ2 2) by omega)
                  rw [o1, show zyN1 (ρ2 1) = 0 by omega] at m0
                  rw [o3, show zyN1 (ρ2 2) = 1 by omega] at m1
                  refine zyCa0 hRu hIH hAt hB hr4 (ix := 479) (ax := 5184) rfl rfl rfl hmer4 ⟨rfl, rfl, rfl, rfl⟩ (by decide) [] rfl (by decide) rfl ⟨5, by decide⟩ [595] rfl rfl rfl rfl ⟨kl.1, kl.2.1, m0, m1⟩ ?_
                  intro E3 vo hT3 hΨ
                  obtain ⟨ev, p1⟩ := (show zyΨl _ _ E3 vo from hΨ)
                  exact ⟨ev, ⟨fun h => absurd (show 5 ≤ 1 from h) (by decide), fun _ => zyKl_tr kl p1, fun h => absurd (show 5 = 1 from h) (by decide), fun h => absurd (show 5 = 8 from h) (by decide), fun h => absurd (show 5 = 9 from h) (by decide)⟩, (show 10 - 5 < 10 - 1 by decide)⟩
                · skip
                  rcases List.mem_cons.mp hx with ex | hx
                  · subst ex
                    obtain ⟨i0, i2, i1, i8, i9⟩ := hI
                    obtain ⟨ea, -⟩ := i0 (by decide)
                    obtain ⟨j1, j2, w0, s9, hs1, hs2, so9⟩ := hΦ
                    obtain ⟨n, hn, s1⟩ := zc74r hT0 (k := 39) (lo := 2147483648) (hi := 2147484549) (by decide) rfl (by decide) (by decide)
                    have hk : ∀ a k, ¬ (a = 74 ∧ 36 ≤ k ∧ k ≤ 37) → (zyEl (zymr r c) B H2) a k = (zyEl (zymr r c) B H) a k := by
                      intro a k n0
                      apply hfr
                      cases hq : zyin [(74, 36, 37)] a k with
                      | false => rfl
                      | true =>
                        obtain ⟨p0, g1, g2, g3, g4⟩ := zyin_iff.mp hq
                        simp only [List.mem_cons, List.not_mem_nil, or_false] at g1
                        rcases g1 with rfl
                        · exact absurd ⟨g2.symm, g3, g4⟩ n0
                    have hk0 : ∀ a k, ¬ (a = 74 ∧ 36 ≤ k ∧ k ≤ 37) → (zyEl (zymr r c) B H2) a k = (zyEl (zymr r c) B s.heap) a k := fun a k n1 => (hk a k n1).trans (by rw [ea])
                    have kl : zyKl (zyEl (zymr r c) B s.heap) (zyEl (zymr r c) B H2) := ⟨zJl_fr (fun k _ => hk0 75 k (by omega)) j1, zPn_fr (fun k _ _ => hk0 74 k (by omega)) j2, hk0 74 33 (by omega), fun k => hk0 76 k (by omega), n, n, s1, (hk0 74 39 (by omega)).trans s1, Nat.le_refl _, by omega⟩
                    have m0 := zyXm hM 0 rfl
                    have m0 : zyEl (zymr r c) B H2 74 36 = some (.int (ρ2 1)) := m0
                    have m1 := zyXm hM 1 rfl
                    have m1 : zyEl (zymr r c) B H2 74 40 = some (.int (ρ2 2)) := m1
                    have b1 := zyXb hB 0 rfl
                    have b1 : 2147483648 ≤ zB (ρ2 1) ∧ zB (ρ2 1) ≤ 2147483648 := b1
                    have b2 := zyXb hB 1 rfl
                    have b2 : 2147483649 ≤ zB (ρ2 2) ∧ zB (ρ2 2) ≤ 2147483649 := b2
                    obtain ⟨o1, o2⟩ := zyOn b1.1
                    obtain ⟨o3, o4⟩ := zyOn (show 2147483648 ≤ zB (ρ2 2) by omega)
                    rw [o1, show zyN1 (ρ2 1) = 0 by omega] at m0
                    rw [o3, show zyN1 (ρ2 2) = 1 by omega] at m1
                    refine zyCa0 hRu hIH hAt hB hr3 (ix := 476) (ax := 5168) rfl rfl rfl hmer3 ⟨rfl, rfl, rfl, rfl⟩ (by decide) [] rfl (by decide) rfl ⟨4, by decide⟩ [595] rfl rfl rfl rfl ⟨kl.1, kl.2.1, m0, m1⟩ ?_
                    intro E3 vo hT3 hΨ
                    obtain ⟨ev, p1⟩ := (show zyΨl _ _ E3 vo from hΨ)
                    exact ⟨ev, ⟨fun h => absurd (show 4 ≤ 1 from h) (by decide), fun _ => zyKl_tr kl p1, fun h => absurd (show 4 = 1 from h) (by decide), fun h => absurd (show 4 = 8 from h) (by decide), fun h => absurd (show 4 = 9 from h) (by decide)⟩, (show 10 - 4 < 10 - 1 by decide)⟩
                  · skip
                    rcases List.mem_cons.mp hx with ex | hx
                    · subst ex
                      obtain ⟨i0, i2, i1, i8, i9⟩ := hI
                      obtain ⟨ea, -⟩ := i0 (by decide)
                      obtain ⟨j1, j2, w0, s9, hs1, hs2, so9⟩ := hΦ
                      obtain ⟨n, hn, s1⟩ := zc74r hT0 (k := 39) (lo := 2147483648) (hi := 2147484549) (by decide) rfl (by decide) (by decide)
                      have hk : ∀ a k, ¬ (a = 74 ∧ 36 ≤ k ∧ k ≤ 37) → (zyEl (zymr r c) B H2) a k = (zyEl (zymr r c) B H) a k := by
                        intro a k n0
                        apply hfr
                        cases hq : zyin [(74, 36, 37)] a k with
                        | false => rfl
                        | true =>
                          obtain ⟨p0, g1, g2, g3, g4⟩ := zyin_iff.mp hq
                          simp only [List.mem_cons, List.not_mem_nil, or_false] at g1
                          rcases g1 with rfl
                          · exact absurd ⟨g2.symm, g3, g4⟩ n0
                      have hk0 : ∀ a k, ¬ (a = 74 ∧ 36 ≤ k ∧ k ≤ 37) → (zyEl (zymr r c) B H2) a k = (zyEl (zymr r c) B s.heap) a k := fun a k n1 => (hk a k n1).trans (by rw [ea])
                      have kl : zyKl (zyEl (zymr r c) B s.heap) (zyEl (zymr r c) B H2) := ⟨zJl_fr (fun k _ => hk0 75 k (by omega)) j1, zPn_fr (fun k _ _ => hk0 74 k (by omega)) j2, hk0 74 33 (by omega), fun k => hk0 76 k (by omega), n, n, s1, (hk0 74 39 (by omega)).trans s1, Nat.le_refl _, by omega⟩
                      have m0 := zyXm hM 0 rfl
                      have m0 : zyEl (zymr r c) B H2 74 36 = some (.int (ρ2 1)) := m0
                      have m1 := zyXm hM 1 rfl
                      have m1 : zyEl (zymr r c) B H2 74 40 = some (.int (ρ2 2)) := m1
                      have b1 := zyXb hB 0 rfl
                      have b1 : 2147483648 ≤ zB (ρ2 1) ∧ zB (ρ2 1) ≤ 2147483648 := b1
                      have b2 := zyXb hB 1 rfl
                      have b2 : 2147483649 ≤ zB (ρ2 2) ∧ zB (ρ2 2) ≤ 2147483649 := b2
                      obtain ⟨o1, o2⟩ := zyOn b1.1
                      obtain ⟨o3, o4⟩ := zyOn (show 2147483648 ≤ zB (ρ2 2) by omega)
                      rw [o1, show zyN1 (ρ2 1) = 0 by omega] at m0
                      rw [o3, show zyN1 (ρ2 2) = 1 by omega] at m1
                      refine zyCa0 hRu hIH hAt hB hr2 (ix := 473) (ax := 5152) rfl rfl rfl hmer2 ⟨rfl, rfl, rfl, rfl⟩ (by decide) [] rfl (by decide) rfl ⟨3, by decide⟩ [595] rfl rfl rfl rfl ⟨kl.1, kl.2.1, m0, m1⟩ ?_
                      intro E3 vo hT3 hΨ
                      obtain ⟨ev, p1⟩ := (show zyΨl _ _ E3 vo from hΨ)
                      exact ⟨ev, ⟨fun h => absurd (show 3 ≤ 1 from h) (by decide), fun _ => zyKl_tr kl p1, fun h => absurd (show 3 = 1 from h) (by decide), fun h => absurd (show 3 = 8 from h) (by decide), fun h => absurd (show 3 = 9 from h) (by decide)⟩, (show 10 - 3 < 10 - 1 by decide)⟩
                    · skip
                      have ex := List.mem_singleton.mp hx
                      subst ex
                      obtain ⟨i0, i2, i1, i8, i9⟩ := hI
                      obtain ⟨ea, -⟩ := i0 (by decide)
                      obtain ⟨j1, j2, w0, s9, hs1, hs2, so9⟩ := hΦ
                      obtain ⟨n, hn, s1⟩ := zc74r hT0 (k := 39) (lo := 2147483648) (hi := 2147484549) (by decide) rfl (by decide) (by decide)
                      have hk : ∀ a k, ¬ (a = 74 ∧ 36 ≤ k ∧ k ≤ 37) → (zyEl (zymr r c) B H2) a k = (zyEl (zymr r c) B H) a k := by
                        intro a k n0
                        apply hfr
                        cases hq : zyin [(74, 36, 37)] a k with
                        | false => rfl
                        | true =>
                          obtain ⟨p0, g1, g2, g3, g4⟩ := zyin_iff.mp hq
                          simp only [List.mem_cons, List.not_mem_nil, or_false] at g1
                          rcases g1 with rfl
                          · exact absurd ⟨g2.symm, g3, g4⟩ n0
                      have hk0 : ∀ a k, ¬ (a = 74 ∧ 36 ≤ k ∧ k ≤ 37) → (zyEl (zymr r c) B H2) a k = (zyEl (zymr r c) B s.heap) a k := fun a k n1 => (hk a k n1).trans (by rw [ea])
                      have kl : zyKl (zyEl (zymr r c) B s.heap) (zyEl (zymr r c) B H2) := ⟨zJl_fr (fun k _ => hk0 75 k (by omega)) j1, zPn_fr (fun k _ _ => hk0 74 k (by omega)) j2, hk0 74 33 (by omega), fun k => hk0 76 k (by omega), n, n, s1, (hk0 74 39 (by omega)).trans s1, Nat.le_refl _, by omega⟩
                      have m0 := zyXm hM 0 rfl
                      have m0 : zyEl (zymr r c) B H2 74 36 = some (.int (ρ2 1)) := m0
                      have m1 := zyXm hM 1 rfl
                      have m1 : zyEl (zymr r c) B H2 74 40 = some (.int (ρ2 2)) := m1
                      have b1 := zyXb hB 0 rfl
                      have b1 : 2147483648 ≤ zB (ρ2 1) ∧ zB (ρ2 1) ≤ 2147483648 := b1
                      have b2 := zyXb hB 1 rfl
                      have b2 : 2147483649 ≤ zB (ρ2 2) ∧ zB (ρ2 2) ≤ 2147483649 := b2
                      obtain ⟨o1, o2⟩ := zyOn b1.1
                      obtain ⟨o3, o4⟩ := zyOn (show 2147483648 ≤ zB (ρ2 2) by omega)
                      rw [o1, show zyN1 (ρ2 1) = 0 by omega] at m0
                      rw [o3, show zyN1 (ρ2 2) = 1 by omega] at m1
                      refine zyCa0 hRu hIH hAt hB hr1 (ix := 470) (ax := 5136) rfl rfl rfl hmer1 ⟨rfl, rfl, rfl, rfl⟩ (by decide) [] rfl (by decide) rfl ⟨2, by decide⟩ [595] rfl rfl rfl rfl ⟨kl.1, kl.2.1, m0, m1⟩ ?_
                      intro E3 vo hT3 hΨ
                      obtain ⟨ev, p1⟩ := (show zyΨl _ _ E3 vo from hΨ)
                      exact ⟨ev, ⟨fun h => absurd (show 2 ≤ 1 from h) (by decide), fun _ => zyKl_tr kl p1, fun h => absurd (show 2 = 1 from h) (by decide), fun h => absurd (show 2 = 8 from h) (by decide), fun h => absurd (show 2 = 9 from h) (by decide)⟩, (show 10 - 2 < 10 - 1 by decide)⟩
    · have hx : x ∈ [zxlin_bx0] := hx
      have hg : ∀ k, k < 1 → ρ2 k = ρ k := hag
      have hI := hInv
      have hI : (2 ≤ 1 → (zyEl (zymr r c) B H) = (zyEl (zymr r c) B s.heap) ∧ zyΦli as (zyEl (zymr r c) B s.heap)) ∧ (2 ≤ 2 → zyKl (zyEl (zymr r c) B s.heap) (zyEl (zymr r c) B H)) ∧ (2 = 1 → ∃ u : Nat, (zyEl (zymr r c) B s.heap) 74 40 = some (.int (Int32.ofNat u)) ∧ ρ 2 = Int32.ofNat u) ∧ (2 = 8 → ρ 1 = 1 → (zyEl (zymr r c) B H) 74 36 = some (.int (Int32.ofNat 0)) ∧ (zyEl (zymr r c) B H) 74 40 = some (.int (Int32.ofNat 3))) ∧ (2 = 9 → ∃ w n n' : Nat, w ≤ 9 ∧ (zyEl (zymr r c) B H) 74 36 = some (.int (Int32.ofNat w)) ∧ (zyEl (zymr r c) B s.heap) 74 39 = some (.int (Int32.ofNat n)) ∧ (zyEl (zymr r c) B H) 74 39 = some (.int (Int32.ofNat n')) ∧ n' ≤ 901 ∧ (w = 0 → n < n')) := hI
      obtain ⟨hF, hB, hM⟩ := hXs
      have hEE : (zyEl (zymr r c) B H2) = (zyEl (zymr r c) B H) := zyfr0 hfr
      have ex := List.mem_singleton.mp hx
      subst ex
      obtain ⟨i0, i2, i1, i8, i9⟩ := hI
      have kl := i2 (by decide)
      rw [← hEE] at kl
      refine zyCaV hRu hIH hAt hB hsg (ix := 466) (ax := 5072) rfl rfl rfl hmesg ⟨rfl, rfl, rfl, rfl⟩ (by decide) [472] [595] rfl (by decide) (by decide) rfl ⟨8, by decide⟩ [595] [(0, 4294967295)] 2147483648 2147483649 rfl (by decide) rfl rfl rfl rfl [595] rfl rfl ?_ ?_
      · show zyΦsg _ _
        exact ⟨kl.2.1, _, rfl⟩
      · intro E3 vo hT3 hΨ
        obtain ⟨e3, z, ez, hz, hz1⟩ := (show zyΨsg _ _ E3 vo from hΨ)
        subst e3
        refine ⟨z, ez, ?_, ?_, ⟨fun h => absurd (show 8 ≤ 1 from h) (by decide), fun _ => kl, fun h => absurd (show 8 = 1 from h) (by decide), fun _ q2 => hz1 (zyρi_e.symm.trans q2), fun h => absurd (show 8 = 9 from h) (by decide)⟩, ?_⟩
        · rcases hz with rfl | rfl <;> decide
        · rcases hz with rfl | rfl <;> decide
        · show 10 - 8 < 10 - 2
          decide
    · have hx : x ∈ [zxlin_cx0] := hx
      have hg : ∀ k, k < 1 → ρ2 k = ρ k := hag
      have hI := hInv
      have hI : (3 ≤ 1 → (zyEl (zymr r c) B H) = (zyEl (zymr r c) B s.heap) ∧ zyΦli as (zyEl (zymr r c) B s.heap)) ∧ (2 ≤ 3 → zyKl (zyEl (zymr r c) B s.heap) (zyEl (zymr r c) B H)) ∧ (3 = 1 → ∃ u : Nat, (zyEl (zymr r c) B s.heap) 74 40 = some (.int (Int32.ofNat u)) ∧ ρ 2 = Int32.ofNat u) ∧ (3 = 8 → ρ 1 = 1 → (zyEl (zymr r c) B H) 74 36 = some (.int (Int32.ofNat 0)) ∧ (zyEl (zymr r c) B H) 74 40 = some (.int (Int32.ofNat 3))) ∧ (3 = 9 → ∃ w n n' : Nat, w ≤ 9 ∧ (zyEl (zymr r c) B H) 74 36 = some (.int (Int32.ofNat w)) ∧ (zyEl (zymr r c) B s.heap) 74 39 = some (.int (Int32.ofNat n)) ∧ (zyEl (zymr r c) B H) 74 39 = some (.int (Int32.ofNat n')) ∧ n' ≤ 901 ∧ (w = 0 → n < n')) := hI
      obtain ⟨hF, hB, hM⟩ := hXs
      have hEE : (zyEl (zymr r c) B H2) = (zyEl (zymr r c) B H) := zyfr0 hfr
      have ex := List.mem_singleton.mp hx
      subst ex
      obtain ⟨i0, i2, i1, i8, i9⟩ := hI
      have kl := i2 (by decide)
      rw [← hEE] at kl
      refine zyCaV hRu hIH hAt hB hsg (ix := 466) (ax := 5072) rfl rfl rfl hmesg ⟨rfl, rfl, rfl, rfl⟩ (by decide) [472] [595] rfl (by decide) (by decide) rfl ⟨8, by decide⟩ [595] [(0, 4294967295)] 2147483648 2147483649 rfl (by decide) rfl rfl rfl rfl [595] rfl rfl ?_ ?_
      · show zyΦsg _ _
        exact ⟨kl.2.1, _, rfl⟩
      · intro E3 vo hT3 hΨ
        obtain ⟨e3, z, ez, hz, hz1⟩ := (show zyΨsg _ _ E3 vo from hΨ)
        subst e3
        refine ⟨z, ez, ?_, ?_, ⟨fun h => absurd (show 8 ≤ 1 from h) (by decide), fun _ => kl, fun h => absurd (show 8 = 1 from h) (by decide), fun _ q2 => hz1 (zyρi_e.symm.trans q2), fun h => absurd (show 8 = 9 from h) (by decide)⟩, ?_⟩
        · rcases hz with rfl | rfl <;> decide
        · rcases hz with rfl | rfl <;> decide
        · show 10 - 8 < 10 - 3
          decide
    · have hx : x ∈ [zxlin_dx0] := hx
      have hg : ∀ k, k < 1 → ρ2 k = ρ k := hag
      have hI := hInv
      have hI : (4 ≤ 1 → (zyEl (zymr r c) B H) = (zyEl (zymr r c) B s.heap) ∧ zyΦli as (zyEl (zymr r c) B s.heap)) ∧ (2 ≤ 4 → zyKl (zyEl (zymr r c) B s.heap) (zyEl (zymr r c) B H)) ∧ (4 = 1 → ∃ u : Nat, (zyEl (zymr r c) B s.heap) 74 40 = some (.int (Int32.ofNat u)) ∧ ρ 2 = Int32.ofNat u) ∧ (4 = 8 → ρ 1 = 1 → (zyEl (zymr r c) B H) 74 36 = some (.int (Int32.ofNat 0)) ∧ (zyEl (zymr r c) B H) 74 40 = some (.int (Int32.ofNat 3))) ∧ (4 = 9 → ∃ w n n' : Nat, w ≤ 9 ∧ (zyEl (zymr r c) B H) 74 36 = some (.int (Int32.ofNat w)) ∧ (zyEl (zymr r c) B s.heap) 74 39 = some (.int (Int32.ofNat n)) ∧ (zyEl (zymr r c) B H) 74 39 = some (.int (Int32.ofNat n')) ∧ n' ≤ 901 ∧ (w = 0 → n < n')) := hI
      obtain ⟨hF, hB, hM⟩ := hXs
      have hEE : (zyEl (zymr r c) B H2) = (zyEl (zymr r c) B H) := zyfr0 hfr
      have ex := List.mem_singleton.mp hx
      subst ex
      obtain ⟨i0, i2, i1, i8, i9⟩ := hI
      have kl := i2 (by decide)
      rw [← hEE] at kl
      refine zyCaV hRu hIH hAt hB hsg (ix := 466) (ax := 5072) rfl rfl rfl hmesg ⟨rfl, rfl, rfl, rfl⟩ (by decide) [472] [595] rfl (by decide) (by decide) rfl ⟨8, by decide⟩ [595] [(0, 4294967295)] 2147483648 2147483649 rfl (by decide) rfl rfl rfl rfl [595] rfl rfl ?_ ?_
      · show zyΦsg _ _
        exact ⟨kl.2.1, _, rfl⟩
      · intro E3 vo hT3 hΨ
        obtain ⟨e3, z, ez, hz, hz1⟩ := (show zyΨsg _ _ E3 vo from hΨ)
        subst e3
        refine ⟨z, ez, ?_, ?_, ⟨fun h => absurd (show 8 ≤ 1 from h) (by decide), fun _ => kl, fun h => absurd (show 8 = 1 from h) (by decide), fun _ q2 => hz1 (zyρi_e.symm.trans q2), fun h => absurd (show 8 = 9 from h) (by decide)⟩, ?_⟩
        · rcases hz with rfl | rfl <;> decide
        · rcases hz with rfl | rfl <;> decide
        · show 10 - 8 < 10 - 4
          decide
    · have hx : x ∈ [zxlin_ex0] := hx
      have hg : ∀ k, k < 1 → ρ2 k = ρ k := hag
      have hI := hInv
      have hI : (5 ≤ 1 → (zyEl (zymr r c) B H) = (zyEl (zymr r c) B s.heap) ∧ zyΦli as (zyEl (zymr r c) B s.heap)) ∧ (2 ≤ 5 → zyKl (zyEl (zymr r c) B s.heap) (zyEl (zymr r c) B H)) ∧ (5 = 1 → ∃ u : Nat, (zyEl (zymr r c) B s.heap) 74 40 = some (.int (Int32.ofNat u)) ∧ ρ 2 = Int32.ofNat u) ∧ (5 = 8 → ρ 1 = 1 → (zyEl (zymr r c) B H) 74 36 = some (.int (Int32.ofNat 0)) ∧ (zyEl (zymr r c) B H) 74 40 = some (.int (Int32.ofNat 3))) ∧ (5 = 9 → ∃ w n n' : Nat, w ≤ 9 ∧ (zyEl (zymr r c) B H) 74 36 = some (.int (Int32.ofNat w)) ∧ (zyEl (zymr r c) B s.heap) 74 39 = some (.int (Int32.ofNat n)) ∧ (zyEl (zymr r c) B H) 74 39 = some (.int (Int32.ofNat n')) ∧ n' ≤ 901 ∧ (w = 0 → n < n')) := hI
      obtain ⟨hF, hB, hM⟩ := hXs
      have hEE : (zyEl (zymr r c) B H2) = (zyEl (zymr r c) B H) := zyfr0 hfr
      have ex := List.mem_singleton.mp hx
      subst ex
      obtain ⟨i0, i2, i1, i8, i9⟩ := hI
      have kl := i2 (by decide)
      rw [← hEE] at kl
      refine zyCaV hRu hIH hAt hB hsg (ix := 466) (ax := 5072) rfl rfl rfl hmesg ⟨rfl, rfl, rfl, rfl⟩ (by decide) [472] [595] rfl (by decide) (by decide) rfl ⟨8, by decide⟩ [595] [(0, 4294967295)] 2147483648 2147483649 rfl (by decide) rfl rfl rfl rfl [595] rfl rfl ?_ ?_
      · show zyΦsg _ _
        exact ⟨kl.2.1, _, rfl⟩
      · intro E3 vo hT3 hΨ
        obtain ⟨e3, z, ez, hz, hz1⟩ := (show zyΨsg _ _ E3 vo from hΨ)
        subst e3
        refine ⟨z, ez, ?_, ?_, ⟨fun h => absurd (show 8 ≤ 1 from h) (by decide), fun _ => kl, fun h => absurd (show 8 = 1 from h) (by decide), fun _ q2 => hz1 (zyρi_e.symm.trans q2), fun h => absurd (show 8 = 9 from h) (by decide)⟩, ?_⟩
        · rcases hz with rfl | rfl <;> decide
        · rcases hz with rfl | rfl <;> decide
        · show 10 - 8 < 10 - 5
          decide
    · have hx : x ∈ [zxlin_fx0] := hx
      have hg : ∀ k, k < 1 → ρ2 k = ρ k := hag
      have hI := hInv
      have hI : (6 ≤ 1 → (zyEl (zymr r c) B H) = (zyEl (zymr r c) B s.heap) ∧ zyΦli as (zyEl (zymr r c) B s.heap)) ∧ (2 ≤ 6 → zyKl (zyEl (zymr r c) B s.heap) (zyEl (zymr r c) B H)) ∧ (6 = 1 → ∃ u : Nat, (zyEl (zymr r c) B s.heap) 74 40 = some (.int (Int32.ofNat u)) ∧ ρ 2 = Int32.ofNat u) ∧ (6 = 8 → ρ 1 = 1 → (zyEl (zymr r c) B H) 74 36 = some (.int (Int32.ofNat 0)) ∧ (zyEl (zymr r c) B H) 74 40 = some (.int (Int32.ofNat 3))) ∧ (6 = 9 → ∃ w n n' : Nat, w ≤ 9 ∧ (zyEl (zymr r c) B H) 74 36 = some (.int (Int32.ofNat w)) ∧ (zyEl (zymr r c) B s.heap) 74 39 = some (.int (Int32.ofNat n)) ∧ (zyEl (zymr r c) B H) 74 39 = some (.int (Int32.ofNat n')) ∧ n' ≤ 901 ∧ (w = 0 → n < n')) := hI
      obtain ⟨hF, hB, hM⟩ := hXs
      have hEE : (zyEl (zymr r c) B H2) = (zyEl (zymr r c) B H) := zyfr0 hfr
      have ex := List.mem_singleton.mp hx
      subst ex
      obtain ⟨i0, i2, i1, i8, i9⟩ := hI
      have kl := i2 (by decide)
      rw [← hEE] at kl
      refine zyCaV hRu hIH hAt hB hsg (ix := 466) (ax := 5072) rfl rfl rfl hmesg ⟨rfl, rfl, rfl, rfl⟩ (by decide) [472] [595] rfl (by decide) (by decide) rfl ⟨8, by decide⟩ [595] [(0, 4294967295)] 2147483648 2147483649 rfl (by decide) rfl rfl rfl rfl [595] rfl rfl ?_ ?_
      · show zyΦsg _ _
        exact ⟨kl.2.1, _, rfl⟩
      · intro E3 vo hT3 hΨ
        obtain ⟨e3, z, ez, hz, hz1⟩ := (show zyΨsg _ _ E3 vo from hΨ)
        subst e3
        refine ⟨z, ez, ?_, ?_, ⟨fun h => absurd (show 8 ≤ 1 from h) (by decide), fun _ => kl, fun h => absurd (show 8 = 1 from h) (by decide), fun _ q2 => hz1 (zyρi_e.symm.trans q2), fun h => absurd (show 8 = 9 from h) (by decide)⟩, ?_⟩
        · rcases hz with rfl | rfl <;> decide
        · rcases hz with rfl | rfl <;> decide
        · show 10 - 8 < 10 - 6
          decide
    · have hx : x ∈ [zxlin_gx0] := hx
      have hg : ∀ k, k < 1 → ρ2 k = ρ k := hag
      have hI := hInv
      have hI : (7 ≤ 1 → (zyEl (zymr r c) B H) = (zyEl (zymr r c) B s.heap) ∧ zyΦli as (zyEl (zymr r c) B s.heap)) ∧ (2 ≤ 7 → zyKl (zyEl (zymr r c) B s.heap) (zyEl (zymr r c) B H)) ∧ (7 = 1 → ∃ u : Nat, (zyEl (zymr r c) B s.heap) 74 40 = some (.int (Int32.ofNat u)) ∧ ρ 2 = Int32.ofNat u) ∧ (7 = 8 → ρ 1 = 1 → (zyEl (zymr r c) B H) 74 36 = some (.int (Int32.ofNat 0)) ∧ (zyEl (zymr r c) B H) 74 40 = some (.int (Int32.ofNat 3))) ∧ (7 = 9 → ∃ w n n' : Nat, w ≤ 9 ∧ (zyEl (zymr r c) B H) 74 36 = some (.int (Int32.ofNat w)) ∧ (zyEl (zymr r c) B s.heap) 74 39 = some (.int (Int32.ofNat n)) ∧ (zyEl (zymr r c) B H) 74 39 = some (.int (Int32.ofNat n')) ∧ n' ≤ 901 ∧ (w = 0 → n < n')) := hI
      obtain ⟨hF, hB, hM⟩ := hXs
      have hEE : (zyEl (zymr r c) B H2) = (zyEl (zymr r c) B H) := zyfr0 hfr
      have ex := List.mem_singleton.mp hx
      subst ex
      obtain ⟨i0, i2, i1, i8, i9⟩ := hI
      have kl := i2 (by decide)
      rw [← hEE] at kl
      refine zyCaV hRu hIH hAt hB hsg (ix := 466) (ax := 5072) rfl rfl rfl hmesg ⟨rfl, rfl, rfl, rfl⟩ (by decide) [472] [595] rfl (by decide) (by decide) rfl ⟨8, by decide⟩ [595] [(0, 4294967295)] 2147483648 2147483649 rfl (by decide) rfl rfl rfl rfl [595] rfl rfl ?_ ?_
      · show zyΦsg _ _
        exact ⟨kl.2.1, _, rfl⟩
      · intro E3 vo hT3 hΨ
        obtain ⟨e3, z, ez, hz, hz1⟩ := (show zyΨsg _ _ E3 vo from hΨ)
        subst e3
        refine ⟨z, ez, ?_, ?_, ⟨fun h => absurd (show 8 ≤ 1 from h) (by decide), fun _ => kl, fun h => absurd (show 8 = 1 from h) (by decide), fun _ q2 => hz1 (zyρi_e.symm.trans q2), fun h => absurd (show 8 = 9 from h) (by decide)⟩, ?_⟩
        · rcases hz with rfl | rfl <;> decide
        · rcases hz with rfl | rfl <;> decide
        · show 10 - 8 < 10 - 7
          decide
    · have hx : x ∈ [zxlin_hx0] := hx
      have hg : ∀ k, k < 2 → ρ2 k = ρ k := hag
      have hI := hInv
      have hI : (8 ≤ 1 → (zyEl (zymr r c) B H) = (zyEl (zymr r c) B s.heap) ∧ zyΦli as (zyEl (zymr r c) B s.heap)) ∧ (2 ≤ 8 → zyKl (zyEl (zymr r c) B s.heap) (zyEl (zymr r c) B H)) ∧ (8 = 1 → ∃ u : Nat, (zyEl (zymr r c) B s.heap) 74 40 = some (.int (Int32.ofNat u)) ∧ ρ 2 = Int32.ofNat u) ∧ (8 = 8 → ρ 1 = 1 → (zyEl (zymr r c) B H) 74 36 = some (.int (Int32.ofNat 0)) ∧ (zyEl (zymr r c) B H) 74 40 = some (.int (Int32.ofNat 3))) ∧ (8 = 9 → ∃ w n n' : Nat, w ≤ 9 ∧ (zyEl (zymr r c) B H) 74 36 = some (.int (Int32.ofNat w)) ∧ (zyEl (zymr r c) B s.heap) 74 39 = some (.int (Int32.ofNat n)) ∧ (zyEl (zymr r c) B H) 74 39 = some (.int (Int32.ofNat n')) ∧ n' ≤ 901 ∧ (w = 0 → n < n')) := hI
      obtain ⟨hF, hB, hM⟩ := hXs
      have hEE : (zyEl (zymr r c) B H2) = (zyEl (zymr r c) B H) := zyfr0 hfr
      have ex := List.mem_singleton.mp hx
      subst ex
      obtain ⟨i0, i2, i1, i8, i9⟩ := hI
      have kl := i2 (by decide)
      have g8 := i8 rfl
      rw [← hEE] at kl g8
      obtain ⟨w, hw, ew⟩ := zc74r hT2 (k := 36) (lo := 2147483648) (hi := 2147483657) (by decide) rfl (by decide) (by decide)
      have b1 := zyXb hB 0 rfl
      have b1 : 2147483648 ≤ zB (ρ2 1) ∧ zB (ρ2 1) ≤ 2147483649 := b1
      obtain ⟨o1, o2⟩ := zyOn b1.1
      refine zyCa0 hRu hIH hAt hB htk (ix := 462) (ax := 5088) rfl rfl rfl hmetk ⟨rfl, rfl, rfl, rfl⟩ (by decide) [34359738369] rfl (by decide) rfl ⟨9, by decide⟩ [595] rfl rfl rfl rfl ?_ ?_
      · show zyΦtk [ρ2 1] _
        refine ⟨kl.2.1, zyN1 (ρ2 1), w, by rw [← o1], by omega, by omega, ew, fun q1 _ q3 => ?_⟩
        have z1 : ρ 1 = 1 := by
          rw [← hg 1 (by decide), o1, q1]
          rfl
        rw [(g8 z1).2] at q3
        have := zyOi (by omega) (by omega) (Value.int.inj (Option.some.inj q3))
        omega
      · intro E3 vo hT3 hΨ
        have hΨ : zyΨtk [ρ2 1] _ E3 vo := hΨ
        have k2 := zyKl_tr kl (zyKl_tk kl.1 hΨ)
        obtain ⟨ev, -, -, n1, n2, w1, w2, g, q1, q2, q3, q4, q5, q6, q7, q8, q9⟩ := hΨ
        obtain ⟨-, -, -, -, n0, n1', r1, r2, r3, r4⟩ := kl
        rw [q2] at r2
        have e := zyOi (by omega) (by omega) (Value.int.inj (Option.some.inj r2))
        exact ⟨ev, ⟨fun h => absurd (show 9 ≤ 1 from h) (by decide), fun _ => k2, fun h => absurd (show 9 = 1 from h) (by decide), fun h => absurd (show 9 = 8 from h) (by decide), fun _ => ⟨w2, n0, n2, q8, q7, r1, q3, q5, fun h => by have := (q9 h).1; omega⟩⟩, (show 10 - 9 < 10 - 8 by decide)⟩
    · cases hx
  · intro as E0 E E2 hT0 hΦ hlen i ρ hT hInv x hx ρ2 N2 B vo hXs hag hfr hT2 hvo
    rcases i with ⟨i, hi⟩
    have hi2 : i = 0 ∨ i = 1 ∨ i = 2 ∨ i = 3 ∨ i = 4 ∨ i = 5 ∨ i = 6 ∨ i = 7 ∨ i = 8 ∨ i = 9 := by omega
    rcases hi2 with rfl | rfl | rfl | rfl | rfl | rfl | rfl | rfl | rfl | rfl
    · cases hx
    · cases hx
    · cases hx
    · cases hx
    · cases hx
    · cases hx
    · cases hx
    · cases hx
    · cases hx
    · have hx : x ∈ [zxlin_jr0] := hx
      have hg : ∀ k, k < 1 → ρ2 k = ρ k := hag
      have hI := hInv
      have hI : (9 ≤ 1 → E = E0 ∧ zyΦli as E0) ∧ (2 ≤ 9 → zyKl E0 E) ∧ (9 = 1 → ∃ u : Nat, E0 74 40 = some (.int (Int32.ofNat u)) ∧ ρ 2 = Int32.ofNat u) ∧ (9 = 8 → ρ 1 = 1 → E 74 36 = some (.int (Int32.ofNat 0)) ∧ E 74 40 = some (.int (Int32.ofNat 3))) ∧ (9 = 9 → ∃ w n n' : Nat, w ≤ 9 ∧ E 74 36 = some (.int (Int32.ofNat w)) ∧ E0 74 39 = some (.int (Int32.ofNat n)) ∧ E 74 39 = some (.int (Int32.ofNat n')) ∧ n' ≤ 901 ∧ (w = 0 → n < n')) := hI
      obtain ⟨hF, hB, hM⟩ := hXs
      have hEE : E2 = E := zyfr0 hfr
      have ex := List.mem_singleton.mp hx
      subst ex
      obtain ⟨i0, i2, i1, i8, i9⟩ := hI
      have kl := i2 (by decide)
      have f9 := i9 rfl
      rw [← hEE] at kl f9
      exact ⟨zyvo_0 (show zyvo _ [] vo from hvo), kl, f9⟩
end
section
/-! phases: clears, load (printed by yexq.py) -/
noncomputable def zxcls_ax0 : zyXp := (2, [595, 34359738369, 68719476737, 0], [], [], [(34359738369, 2147483649, 2147483652), (68719476737, 2147483649, 2147483653)], [])
noncomputable def zpcls_a : zyPh := (0, [595, 34359738369, 68719476737, 13], [(0, 4294967295), (2147483649, 2147483652), (2147483649, 2147483653), (0, 4294967295)], [], [])
noncomputable def zxcls_bx0 : zyXp := (15, [595, 34359738369, 68719476737, 103079215105], [0, 103079215105, 603], [(20, 0, 103079215105, 4448)], [(34359738369, 2147483649, 2147483652), (68719476737, 2147483649, 2147483653), (103079215105, 2147483648, 2147484203)], [])
noncomputable def zxcls_bx1 : zyXp := (22, [595, 34359738369, 68719476737, 103079215105], [], [(21, 0, 103079215105, 4448)], [(34359738369, 2147483649, 2147483652), (68719476737, 2147483649, 2147483653), (103079215105, 2147484204, 2147484204)], [])
noncomputable def zpcls_b : zyPh := (2, [595, 34359738369, 68719476737, 103079215105], [(0, 4294967295), (2147483649, 2147483652), (2147483649, 2147483653), (2147483648, 2147484204)], [], [])
noncomputable def zxcls_cx0 : zyXp := (2, [595, 34359738369, 68719476737, 103079215113], [], [], [(34359738369, 2147483649, 2147483652), (68719476737, 2147483649, 2147483653), (103079215105, 2147483648, 2147484203), (103079215113, 2147483649, 2147484204)], [])
noncomputable def zpcls_c : zyPh := (16, [595, 34359738369, 68719476737, 103079215105], [(0, 4294967295), (2147483649, 2147483652), (2147483649, 2147483653), (2147483648, 2147484203)], [], [])
noncomputable def zxcls_fx0 : zyXp := (45, [595, 34359738369, 68719476737, 0], [], [], [(34359738369, 2147483649, 2147483652), (68719476737, 2147483649, 2147483653)], [(1228800, 34359738369), (1228801, 68719476737), (1228805, 34359738360)])
noncomputable def zpcls_f : zyPh := (22, [595, 34359738369, 68719476737, 13], [(0, 4294967295), (2147483649, 2147483652), (2147483649, 2147483653), (0, 4294967295)], [], [])
noncomputable def zxcls_dx0 : zyXp := (60, [595, 34359738369, 68719476737, 103079215105], [8, 103079215425, 603], [(20, 0, 103079215105, 248)], [(34359738369, 2147483649, 2147483652), (68719476737, 2147483649, 2147483653), (103079215105, 2147483648, 2147483678), (103079215425, 2147483688, 2147483718)], [])
noncomputable def zxcls_dr0 : zyXp := (0, [], [], [(21, 0, 103079215105, 248)], [(103079215105, 2147483679, 2147483679)], [])
noncomputable def zpcls_d : zyPh := (45, [595, 34359738369, 68719476737, 103079215105], [(0, 4294967295), (2147483649, 2147483652), (2147483649, 2147483653), (2147483648, 2147483679)], [], [])
noncomputable def zxcls_ex0 : zyXp := (45, [595, 34359738369, 68719476737, 103079215113], [], [], [(34359738369, 2147483649, 2147483652), (68719476737, 2147483649, 2147483653), (103079215105, 2147483648, 2147483678), (103079215113, 2147483649, 2147483679)], [])
noncomputable def zpcls_e : zyPh := (61, [595, 34359738369, 68719476737, 103079215105], [(0, 4294967295), (2147483649, 2147483652), (2147483649, 2147483653), (2147483648, 2147483678)], [], [])
noncomputable def zpcls (i : Nat) : zyPh := zif (Nat.beq i 0) (zpcls_a) (zif (Nat.beq i 1) (zpcls_b) (zif (Nat.beq i 2) (zpcls_c) (zif (Nat.beq i 3) (zpcls_f) (zif (Nat.beq i 4) (zpcls_d) (zpcls_e)))))
noncomputable def zXcls (i : Nat) : List zyXp := zif (Nat.beq i 0) ([zxcls_ax0]) (zif (Nat.beq i 1) ([zxcls_bx0, zxcls_bx1]) (zif (Nat.beq i 2) ([zxcls_cx0]) (zif (Nat.beq i 3) ([zxcls_fx0]) (zif (Nat.beq i 4) ([zxcls_dx0]) ([zxcls_ex0])))))
noncomputable def zRcls (i : Nat) : List zyXp := zif (Nat.beq i 0) ([]) (zif (Nat.beq i 1) ([]) (zif (Nat.beq i 2) ([]) (zif (Nat.beq i 3) ([]) (zif (Nat.beq i 4) ([zxcls_dr0]) ([])))))
noncomputable def zFcls (i : Nat) : zyR := zif (Nat.beq i 0) ([]) (zif (Nat.beq i 1) ([]) (zif (Nat.beq i 2) ([]) (zif (Nat.beq i 3) ([(75, 0, 1), (75, 5, 5)]) (zif (Nat.beq i 4) ([]) ([])))))
noncomputable def zScls (i : Nat) : Nat := zif (Nat.beq i 0) (0) (zif (Nat.beq i 1) (0) (zif (Nat.beq i 2) (0) (zif (Nat.beq i 3) (0) (zif (Nat.beq i 4) (0) (0)))))
noncomputable def zxlda_zx0 : zyXp := (0, [595, 34359738369, 13], [], [], [], [])
noncomputable def zplda_z : zyPh := (0, [595, 34359738369, 13], [(0, 4294967295), (0, 4294967295), (0, 4294967295)], [], [])
noncomputable def zxlda_ax0 : zyXp := (28, [595, 34359738369, 0], [], [(21, 0, 34359738369, 0), (21, 0, 103079215105, 34359738369)], [(34359738369, 2147483648, 2147484548), (103079215105, 2147483648, 2147484548)], [(1212449, 103079215105)])
noncomputable def zxlda_ar0 : zyXp := (0, [], [34359738360], [(20, 0, 34359738369, 0), (22, 0, 0, 0), (23, 0, 8, 0), (22, 0, 0, 0)], [(34359738369, 0, 2147483647), (103079215105, 2147483648, 2147484548)], [(1212449, 103079215105)])
noncomputable def zxlda_ar1 : zyXp := (0, [], [34359738360], [(21, 0, 34359738369, 0), (20, 0, 103079215105, 34359738369), (22, 0, 0, 0), (23, 0, 8, 0), (22, 0, 0, 0)], [(34359738369, 2147483649, 4294967295), (103079215105, 2147483648, 2147484548)], [(1212449, 103079215105)])
noncomputable def zplda_a : zyPh := (0, [595, 34359738369, 13], [(0, 4294967295), (0, 4294967295), (0, 4294967295), (2147483648, 2147484548)], [(1212449, 103079215105)], [])
noncomputable def zxlda_bx0 : zyXp := (46, [595, 34359738369, 68719476737], [103079215105, 68719476737, 611], [(24, 103079215105, 75, 68719476737)], [(34359738369, 2147483648, 2147484548), (68719476737, 2147483648, 2147484203)], [])
noncomputable def zxlda_bx1 : zyXp := (69, [595, 13, 13], [595], [(21, 0, 68719476737, 4448)], [(68719476737, 2147484204, 2147484204)], [(1212455, 0), (1212452, 0)])
noncomputable def zplda_b : zyPh := (28, [595, 34359738369, 68719476737], [(0, 4294967295), (2147483648, 2147484548), (2147483648, 2147484204)], [], [])
noncomputable def zxlda_cx0 : zyXp := (28, [595, 34359738369, 68719476745], [], [], [(34359738369, 2147483648, 2147484548), (68719476737, 2147483648, 2147484203), (68719476745, 2147483649, 2147484204)], [])
noncomputable def zplda_c : zyPh := (47, [595, 34359738369, 68719476737], [(0, 4294967295), (2147483648, 2147484548), (2147483648, 2147484203)], [], [])
noncomputable def zxlda_dx0 : zyXp := (73, [595, 13, 13], [595], [], [], [])
noncomputable def zplda_d : zyPh := (72, [595, 13, 13], [(0, 4294967295), (0, 4294967295), (0, 4294967295)], [], [])
noncomputable def zxlda_ex0 : zyXp := (139, [595, 13, 0], [], [(24, 103079215105, 74, 288)], [(103079215105, 2147483649, 2147483657)], [(1212449, 0)])
noncomputable def zxlda_er0 : zyXp := (0, [], [240518168577], [(24, 103079215105, 74, 288)], [(103079215105, 2147483648, 2147483648)], [(1212449, 0)])
noncomputable def zplda_e : zyPh := (76, [595, 13, 13], [(0, 4294967295), (0, 4294967295), (0, 4294967295)], [], [])
noncomputable def zxlda_fx0 : zyXp := (157, [595, 13, 68719476737], [103079215105, 68719476737, 603], [(24, 103079215105, 76, 68719476737)], [(68719476737, 2147483648, 2147484203)], [])
noncomputable def zxlda_fr0 : zyXp := (0, [], [34359738360], [(21, 0, 68719476737, 4448)], [(68719476737, 2147484204, 2147484204)], [])
noncomputable def zplda_f : zyPh := (139, [595, 13, 68719476737], [(0, 4294967295), (0, 4294967295), (2147483648, 2147484204)], [], [])
noncomputable def zxlda_gx0 : zyXp := (139, [595, 13, 68719476745], [], [], [(68719476737, 2147483648, 2147484203), (68719476745, 2147483649, 2147484204)], [])
noncomputable def zplda_g : zyPh := (158, [595, 13, 68719476737], [(0, 4294967295), (0, 4294967295), (2147483648, 2147484203)], [], [])
noncomputable def zplda (i : Nat) : zyPh := zif (Nat.beq i 0) (zplda_z) (zif (Nat.beq i 1) (zplda_a) (zif (Nat.beq i 2) (zplda_b) (zif (Nat.beq i 3) (zplda_c) (zif (Nat.beq i 4) (zplda_d) (zif (Nat.beq i 5) (zplda_e) (zif (Nat.beq i 6) (zplda_f) (zplda_g)))))))
noncomputable def zXlda (i : Nat) : List zyXp := zif (Nat.beq i 0) ([zxlda_zx0]) (zif (Nat.beq i 1) ([zxlda_ax0]) (zif (Nat.beq i 2) ([zxlda_bx0, zxlda_bx1]) (zif (Nat.beq i 3) ([zxlda_cx0]) (zif (Nat.beq i 4) ([zxlda_dx0]) (zif (Nat.beq i 5) ([zxlda_ex0]) (zif (Nat.beq i 6) ([zxlda_fx0]) ([zxlda_gx0])))))))
noncomputable def zRlda (i : Nat) : List zyXp := zif (Nat.beq i 0) ([]) (zif (Nat.beq i 1) ([zxlda_ar0, zxlda_ar1]) (zif (Nat.beq i 2) ([]) (zif (Nat.beq i 3) ([]) (zif (Nat.beq i 4) ([]) (zif (Nat.beq i 5) ([zxlda_er0]) (zif (Nat.beq i 6) ([zxlda_fr0]) ([])))))))
noncomputable def zFlda (i : Nat) : zyR := zif (Nat.beq i 0) ([]) (zif (Nat.beq i 1) ([(74, 2, 3)]) (zif (Nat.beq i 2) ([(74, 36, 36), (74, 39, 39), (74, 42, 42)]) (zif (Nat.beq i 3) ([]) (zif (Nat.beq i 4) ([]) (zif (Nat.beq i 5) ([(74, 2, 2), (74, 33, 35)]) (zif (Nat.beq i 6) ([]) ([])))))))
noncomputable def zSlda (i : Nat) : Nat := zif (Nat.beq i 0) (0) (zif (Nat.beq i 1) (0) (zif (Nat.beq i 2) (0) (zif (Nat.beq i 3) (0) (zif (Nat.beq i 4) (0) (zif (Nat.beq i 5) (0) (zif (Nat.beq i 6) (0) (0)))))))
end
section
/-! c is cleared; all is read; a text is loaded -/
noncomputable def zcl (R C K j : Nat) : Nat := if j = 0 then R else if j = 1 then C else if j = 5 then 4294967295 else if 40 ≤ j ∧ j < 40 + K then 1 else 0
noncomputable def zyckv (code v : Nat) : Bool := zif (Nat.beq (Nat.mod code 8) 0) (Nat.beq (Nat.div code 8) v) (zand (Nat.beq (Nat.mod code 8) 2) (zand (Nat.ble (Nat.div code 34359738368) (Nat.mod (Nat.add v 2147483648) 4294967296)) (Nat.ble (Nat.mod (Nat.add v 2147483648) 4294967296) (Nat.mod (Nat.div code 8) 4294967296))))
noncomputable def zyckr (f : Nat → Nat) (l : List (Nat × Nat × Nat)) : Bool := List.rec (motive := fun _ => Bool) true (fun b _ ih => zand (zyAll (fun i => zyckv b.2.2 (f (Nat.add b.1 i))) (Nat.succ (Nat.sub b.2.1 b.1))) ih) l
theorem zyckr_iff {f : Nat → Nat} : ∀ {l : List (Nat × Nat × Nat)}, zyckr f l = true → ∀ b ∈ l, ∀ k, b.1 ≤ k → k ≤ b.2.1 → zyckv b.2.2 (f k) = true := by
  intro l
  induction l with
  | nil => intro _ b hb; cases hb
  | cons a t ih =>
    intro h b hb k k1 k2
    have h : zand (zyAll (fun i => zyckv a.2.2 (f (a.1 + i))) (a.2.1 - a.1 + 1)) (zyckr f t) = true := h
    obtain ⟨g1, g2⟩ := zand_iff h
    rcases List.mem_cons.mp hb with e | e
    · subst e
      have := zyAll_iff g1 (k - b.1) (by omega)
      rwa [show b.1 + (k - b.1) = k by omega] at this
    · exact ih g2 b e k k1 k2
theorem zcl_all : zyAllP (fun r c => zyckr (zcl r c 31) (zymr75 r c).2.2) = true := by decide +kernel
theorem zcl_T75 {r c : Nat} (hp : zyPr r c) {E : zyEm} (h : ∀ j, j < 556 → E 75 j = some (.int (Int32.ofNat (zcl r c 31 j)))) : zyT75 r c E ∧ zJl E := by
  refine ⟨fun k hk b hb b1 b2 => ?_, h 3 (by decide), h 4 (by decide), fun k hk hl => ?_⟩
  · have hc := zyckr_iff (zyAllP_iff zcl_all hp.1 hp.2.1 hp.2.2.1 hp.2.2.2) b hb k b1 b2
    refine ⟨fun q => ⟨_, h k hk, ?_⟩, fun q => ?_⟩
    · rcases zif_iff hc with ⟨h1, -⟩ | ⟨-, h1⟩
      · have h1 : b.2.2 % 8 = 0 := zbeqT h1
        omega
      · obtain ⟨-, h2⟩ := zand_iff h1
        obtain ⟨h2, h3⟩ := zand_iff h2
        have h2 : b.2.2 / 34359738368 ≤ (zcl r c 31 k + 2147483648) % 4294967296 := zbleT h2
        have h3 : (zcl r c 31 k + 2147483648) % 4294967296 ≤ b.2.2 / 8 % 4294967296 := zbleT h3
        rw [zB_of, zb_def]
        exact ⟨by omega, by omega⟩
    · rcases zif_iff hc with ⟨-, h1⟩ | ⟨h1, h2⟩
      · have h1 : b.2.2 / 8 = zcl r c 31 k := zbeqT h1
        rw [h k hk, h1]
      · have h1 : ¬ b.2.2 % 8 = 0 := zbeqF h1
        exact absurd q h1
  · exfalso
    rw [zyI_s (h 5 (by decide)), show zcl r c 31 5 = 4294967295 from rfl, zB_slt, zyBn (by omega), zB_none] at hl
    omega
def zyΦcl (as : List Int32) (_ : zyEm) : Prop := ∃ R C : Nat, zyPr R C ∧ as = [Int32.ofNat R, Int32.ofNat C]
def zyΨcl (as : List Int32) (E E2 : zyEm) (vo : Option Value) : Prop := vo = none ∧ (∀ a k, ¬ a = 75 → E2 a k = E a k) ∧ ∃ R C : Nat, zyPr R C ∧ as = [Int32.ofNat R, Int32.ofNat C] ∧ ∀ j, j < 556 → E2 75 j = some (.int (Int32.ofNat (zcl R C 31 j)))
theorem zycls_run : zyrS zymx zxi193 (193, 0, 0, 0, 0) 2 zpcls (fun _ _ => []) zFcls zScls zXcls zRcls 6 = true := by decide +kernel
theorem zyclears {l : Launch} {en : zEn} {me : zMe} (hen : zG zxMeta 193 = some en) (hme : zG zMeth 193 = some me) : zyHc l zymx en me 2 2 zyΦcl zyΨcl := by
  have een : zG zxMeta 193 = some (zxi193, 3, 4, 11, 193, 0, 0, 0, 0) := rfl
  obtain ⟨me1, hme1, hOK⟩ := zall hen
  rw [hme] at hme1
  cases hme1
  rw [een] at hen
  cases hen
  have hr := zycls_run
  refine zycutS (mi := zymx) hOK rfl rfl ⟨_, rfl, rfl⟩ (ι := Fin 6) (fun i => zpcls i.val) (fun _ _ => []) (fun i => zFcls i.val) (fun i => zScls i.val) (fun i => zXcls i.val) (fun i => zRcls i.val) (fun i y2 ct en2 me2 h => by cases h) 200000 (fun i => zyAll_iff hr i.val i.isLt) ⟨0, by decide⟩ ⟨rfl, rfl, rfl, rfl⟩ ⟨by decide, by decide⟩
    (fun i as E0 ρ E => ∃ R C K : Nat, zyPr R C ∧ as = [Int32.ofNat R, Int32.ofNat C] ∧ (∀ a k, ¬ a = 75 → E a k = E0 a k) ∧ ρ 1 = Int32.ofNat R ∧ ρ 2 = Int32.ofNat C ∧ (i.val = 1 ∨ i.val = 2 ∨ i.val = 4 ∨ i.val = 5 → ρ 3 = Int32.ofNat K) ∧ (i.val = 1 → K ≤ 556 ∧ ∀ j, j < K → E 75 j = some (.int (Int32.ofNat 0))) ∧ (i.val = 2 → K ≤ 555 ∧ ∀ j, j ≤ K → E 75 j = some (.int (Int32.ofNat 0))) ∧ (i.val = 3 → ∀ j, j < 556 → E 75 j = some (.int (Int32.ofNat 0))) ∧ (i.val = 4 → K ≤ 31 ∧ ∀ j, j < 556 → E 75 j = some (.int (Int32.ofNat (zcl R C K j)))) ∧ (i.val = 5 → K ≤ 30 ∧ ∀ j, j < 556 → E 75 j = some (.int (Int32.ofNat (zcl R C (K + 1) j))))) (fun i as E0 ρ E => if i.val = 0 then 10000 else if i.val = 1 then 1001 + 2 * (556 - zyN1 (ρ 3)) else if i.val = 2 then 1000 + 2 * (556 - zyN1 (ρ 3)) else if i.val = 3 then 999 else if i.val = 4 then 1 + 2 * (31 - zyN1 (ρ 3)) else 2 * (31 - zyN1 (ρ 3))) ?_ ?_ ?_
  · intro as E hlen hT hΦ
    obtain ⟨R, C, hp, rfl⟩ := hΦ
    obtain ⟨p1, p2, p3, p4⟩ := hp
    exact ⟨zEnv_c (zyfull _) (zEnv_c ⟨show 2147483649 ≤ zB (Int32.ofNat R) by rw [zyBn (by omega)]; omega, show zB (Int32.ofNat R) ≤ 2147483652 by rw [zyBn (by omega)]; omega⟩ (zEnv_c ⟨show 2147483649 ≤ zB (Int32.ofNat C) by rw [zyBn (by omega)]; omega, show zB (Int32.ofNat C) ≤ 2147483653 by rw [zyBn (by omega)]; omega⟩ (zEnv_c (zyfull _) zEnv_nil))), R, C, 0, ⟨p1, p2, p3, p4⟩, rfl, fun _ _ _ => rfl, rfl, rfl, fun h => absurd (show 0 = 1 ∨ 0 = 2 ∨ 0 = 4 ∨ 0 = 5 from h) (by decide), fun h => absurd (show 0 = 1 from h) (by decide), fun h => absurd (show 0 = 2 from h) (by decide), fun h => absurd (show 0 = 3 from h) (by decide), fun h => absurd (show 0 = 4 from h) (by decide), fun h => absurd (show 0 = 5 from h) (by decide)⟩
  · intro as B s Wg hRu hT0 hΦ hlen i ρ H hT hInv hIH x hx ρ2 N2 H2 locs lsB stA hAt hXs hag hfr hT2
    rcases i with ⟨i, hi⟩
    have hi2 : i = 0 ∨ i = 1 ∨ i = 2 ∨ i = 3 ∨ i = 4 ∨ i = 5 := by omega
    rcases hi2 with rfl | rfl | rfl | rfl | rfl | rfl
    · have hx : x ∈ [zxcls_ax0] := hx
      have hg : ∀ k, k < 4 → ρ2 k = ρ k := hag
      have hI := hInv
      have hI : ∃ R C K : Nat, zyPr R C ∧ as = [Int32.ofNat R, Int32.ofNat C] ∧ (∀ a k, ¬ a = 75 → (zyEl zymx B H) a k = (zyEl zymx B s.heap) a k) ∧ ρ 1 = Int32.ofNat R ∧ ρ 2 = Int32.ofNat C ∧ (0 = 1 ∨ 0 = 2 ∨ 0 = 4 ∨ 0 = 5 → ρ 3 = Int32.ofNat K) ∧ (0 = 1 → K ≤ 556 ∧ ∀ j, j < K → (zyEl zymx B H) 75 j = some (.int (Int32.ofNat 0))) ∧ (0 = 2 → K ≤ 555 ∧ ∀ j, j ≤ K → (zyEl zymx B H) 75 j = some (.int (Int32.ofNat 0))) ∧ (0 = 3 → ∀ j, j < 556 → (zyEl zymx B H) 75 j = some (.int (Int32.ofNat 0))) ∧ (0 = 4 → K ≤ 31 ∧ ∀ j, j < 556 → (zyEl zymx B H) 75 j = some (.int (Int32.ofNat (zcl R C K j)))) ∧ (0 = 5 → K ≤ 30 ∧ ∀ j, j < 556 → (zyEl zymx B H) 75 j = some (.int (Int32.ofNat (zcl R C (K + 1) j)))) := hI
      obtain ⟨hF, hB, hM⟩ := hXs
      have hEE : (zyEl zymx B H2) = (zyEl zymx B H) := zyfr0 hfr
      have ex := List.mem_singleton.mp hx
      subst ex
      obtain ⟨R, C, K, hp, has, i1, r1, r2, r3, c1, c2, c3, c4, c5⟩ := hI
      have a1 : ρ2 1 = Int32.ofNat R := (hg 1 (by decide)).trans r1
      have a2 : ρ2 2 = Int32.ofNat C := (hg 2 (by decide)).trans r2
      refine zyGoB hIH hAt hB ⟨1, by decide⟩ [595, 34359738369, 68719476737, 0] rfl rfl rfl rfl ⟨R, C, 0, hp, has, by rw [hEE]; exact i1, a1, a2, fun _ => rfl, fun _ => ⟨by omega, fun j hj => absurd hj (Nat.not_lt_zero j)⟩, fun h => absurd (show 1 = 2 from h) (by decide), fun h => absurd (show 1 = 3 from h) (by decide), fun h => absurd (show 1 = 4 from h) (by decide), fun h => absurd (show 1 = 5 from h) (by decide)⟩ ?_
      show 1001 + 2 * (556 - zyN1 (Int32.ofNat 0)) < 10000
      omega
    · have hx : x ∈ [zxcls_bx0, zxcls_bx1] := hx
      have hg : ∀ k, k < 4 → ρ2 k = ρ k := hag
      have hI := hInv
      have hI : ∃ R C K : Nat, zyPr R C ∧ as = [Int32.ofNat R, Int32.ofNat C] ∧ (∀ a k, ¬ a = 75 → (zyEl zymx B H) a k = (zyEl zymx B s.heap) a k) ∧ ρ 1 = Int32.ofNat R ∧ ρ 2 = Int32.ofNat C ∧ (1 = 1 ∨ 1 = 2 ∨ 1 = 4 ∨ 1 = 5 → ρ 3 = Int32.ofNat K) ∧ (1 = 1 → K ≤ 556 ∧ ∀ j, j < K → (zyEl zymx B H) 75 j = some (.int (Int32.ofNat 0))) ∧ (1 = 2 → K ≤ 555 ∧ ∀ j, j ≤ K → (zyEl zymx B H) 75 j = some (.int (Int32.ofNat 0))) ∧ (1 = 3 → ∀ j, j < 556 → (zyEl zymx B H) 75 j = some (.int (Int32.ofNat 0))) ∧ (1 = 4 → K ≤ 31 ∧ ∀ j, j < 556 → (zyEl zymx B H) 75 j = some (.int (Int32.ofNat (zcl R C K j)))) ∧ (1 = 5 → K ≤ 30 ∧ ∀ j, j < 556 → (zyEl zymx B H) 75 j = some (.int (Int32.ofNat (zcl R C (K + 1) j)))) := hI
      obtain ⟨hF, hB, hM⟩ := hXs
      have hEE : (zyEl zymx B H2) = (zyEl zymx B H) := zyfr0 hfr
      rcases List.mem_cons.mp hx with ex | hx
      · subst ex
        obtain ⟨R, C, K, hp, has, i1, r1, r2, r3, c1, c2, c3, c4, c5⟩ := hI
        have a1 : ρ2 1 = Int32.ofNat R := (hg 1 (by decide)).trans r1
        have a2 : ρ2 2 = Int32.ofNat C := (hg 2 (by decide)).trans r2
        have a3 : ρ2 3 = Int32.ofNat K := (hg 3 (by decide)).trans (r3 (Or.inl rfl))
        have b3 := zyXb hB 2 rfl
        have b3 : 2147483648 ≤ zB (ρ2 3) ∧ zB (ρ2 3) ≤ 2147484203 := b3
        rw [a3, zyBn (by have := (c1 rfl).1; omega)] at b3
        obtain ⟨d1, d2⟩ := c1 rfl
        refine zyAsB hRu hIH hAt hB 75 K (20, 556, [(0, 555, 34359738362)]) rfl rfl rfl (cv := 0) (cj := 103079215105) rfl (by decide) (by decide) ⟨2, by decide⟩ [595, 34359738369, 68719476737, 103079215105] rfl rfl rfl rfl (show K < 556 by omega) a3 ?_ ?_
        · intro r0 hr0 _ _
          rw [List.mem_singleton.mp hr0]
          exact ⟨rfl, zyfull _⟩
        · intro E3 hT3 p1 p2
          have p1 : E3 75 K = some (.int (Int32.ofNat 0)) := p1
          rw [hEE] at p2
          refine ⟨⟨R, C, K, hp, has, fun a k n => (p2 a k (fun z => n z.1)).trans (i1 a k n), a1, a2, fun _ => a3, fun h => absurd (show 2 = 1 from h) (by decide), fun _ => ⟨by omega, fun j hj => by
            by_cases ej : j = K
            · rw [ej]; exact p1
            · exact (p2 75 j (fun z => ej z.2)).trans (d2 j (by omega))⟩, fun h => absurd (show 2 = 3 from h) (by decide), fun h => absurd (show 2 = 4 from h) (by decide), fun h => absurd (show 2 = 5 from h) (by decide)⟩, ?_⟩
          show 1000 + 2 * (556 - zyN1 (ρ2 3)) < 1001 + 2 * (556 - zyN1 (ρ 3))
          rw [hg 3 (by decide)]
          omega
      · skip
        have ex := List.mem_singleton.mp hx
        subst ex
        obtain ⟨R, C, K, hp, has, i1, r1, r2, r3, c1, c2, c3, c4, c5⟩ := hI
        have a1 : ρ2 1 = Int32.ofNat R := (hg 1 (by decide)).trans r1
        have a2 : ρ2 2 = Int32.ofNat C := (hg 2 (by decide)).trans r2
        have a3 : ρ2 3 = Int32.ofNat K := (hg 3 (by decide)).trans (r3 (Or.inl rfl))
        obtain ⟨d1, d2⟩ := c1 rfl
        have f := zyX21 hF 0 rfl
        have f : ¬ ρ2 3 < Int32.ofNat 556 := f
        rw [a3, zyOl (by omega) (by omega)] at f
        refine zyGoB hIH hAt hB ⟨3, by decide⟩ [595, 34359738369, 68719476737, 0] rfl rfl rfl rfl ⟨R, C, K, hp, has, by rw [hEE]; exact i1, a1, a2, fun h => absurd (show 3 = 1 ∨ 3 = 2 ∨ 3 = 4 ∨ 3 = 5 from h) (by decide), fun h => absurd (show 3 = 1 from h) (by decide), fun h => absurd (show 3 = 2 from h) (by decide), fun _ => fun j hj => by rw [hEE]; exact d2 j (by omega), fun h => absurd (show 3 = 4 from h) (by decide), fun h => absurd (show 3 = 5 from h) (by decide)⟩ ?_
        show 999 < 1001 + 2 * (556 - zyN1 (ρ 3))
        omega
    · have hx : x ∈ [zxcls_cx0] := hx
      have hg : ∀ k, k < 4 → ρ2 k = ρ k := hag
      have hI := hInv
      have hI : ∃ R C K : Nat, zyPr R C ∧ as = [Int32.ofNat R, Int32.ofNat C] ∧ (∀ a k, ¬ a = 75 → (zyEl zymx B H) a k = (zyEl zymx B s.heap) a k) ∧ ρ 1 = Int32.ofNat R ∧ ρ 2 = Int32.ofNat C ∧ (2 = 1 ∨ 2 = 2 ∨ 2 = 4 ∨ 2 = 5 → ρ 3 = Int32.ofNat K) ∧ (2 = 1 → K ≤ 556 ∧ ∀ j, j < K → (zyEl zymx B H) 75 j = some (.int (Int32.ofNat 0))) ∧ (2 = 2 → K ≤ 555 ∧ ∀ j, j ≤ K → (zyEl zymx B H) 75 j = some (.int (Int32.ofNat 0))) ∧ (2 = 3 → ∀ j, j < 556 → (zyEl zymx B H) 75 j = some (.int (Int32.ofNat 0))) ∧ (2 = 4 → K ≤ 31 ∧ ∀ j, j < 556 → (zyEl zymx B H) 75 j = some (.int (Int32.ofNat (zcl R C K j)))) ∧ (2 = 5 → K ≤ 30 ∧ ∀ j, j < 556 → (zyEl zymx B H) 75 j = some (.int (Int32.ofNat (zcl R C (K + 1) j)))) := hI
      obtain ⟨hF, hB, hM⟩ := hXs
      have hEE : (zyEl zymx B H2) = (zyEl zymx B H) := zyfr0 hfr
      have ex := List.mem_singleton.mp hx
      subst ex
      obtain ⟨R, C, K, hp, has, i1, r1, r2, r3, c1, c2, c3, c4, c5⟩ := hI
      have a1 : ρ2 1 = Int32.ofNat R := (hg 1 (by decide)).trans r1
      have a2 : ρ2 2 = Int32.ofNat C := (hg 2 (by decide)).trans r2
      have a3 : ρ2 3 = Int32.ofNat K := (hg 3 (by decide)).trans (r3 (Or.inr (Or.inl rfl)))
      obtain ⟨d1, d2⟩ := c2 rfl
      have a3' : ρ2 3 + Int32.ofNat 1 = Int32.ofNat (K + 1) := by rw [a3, zyOa]
      refine zyGoB hIH hAt hB ⟨1, by decide⟩ [595, 34359738369, 68719476737, 103079215113] rfl rfl rfl rfl ⟨R, C, (K + 1), hp, has, by rw [hEE]; exact i1, a1, a2, fun _ => a3', fun _ => ⟨by omega, fun j hj => by rw [hEE]; exact d2 j (by omega)⟩, fun h => absurd (show 1 = 2 from h) (by decide), fun h => absurd (show 1 = 3 from h) (by decide), fun h => absurd (show 1 = 4 from h) (by decide), fun h => absurd (show 1 = 5 from h) (by decide)⟩ ?_
      show 1001 + 2 * (556 - zyN1 (ρ2 3 + Int32.ofNat 1)) < 1000 + 2 * (556 - zyN1 (ρ 3))
      rw [a3', r3 (Or.inr (Or.inl rfl)), zyN1_of (by omega), zyN1_of (by omega)]
      omega
    · have hx : x ∈ [zxcls_fx0] := hx
      have hg : ∀ k, k < 4 → ρ2 k = ρ k := hag
      have hI := hInv
      have hI : ∃ R C K : Nat, zyPr R C ∧ as = [Int32.ofNat R, Int32.ofNat C] ∧ (∀ a k, ¬ a = 75 → (zyEl zymx B H) a k = (zyEl zymx B s.heap) a k) ∧ ρ 1 = Int32.ofNat R ∧ ρ 2 = Int32.ofNat C ∧ (3 = 1 ∨ 3 = 2 ∨ 3 = 4 ∨ 3 = 5 → ρ 3 = Int32.ofNat K) ∧ (3 = 1 → K ≤ 556 ∧ ∀ j, j < K → (zyEl zymx B H) 75 j = some (.int (Int32.ofNat 0))) ∧ (3 = 2 → K ≤ 555 ∧ ∀ j, j ≤ K → (zyEl zymx B H) 75 j = some (.int (Int32.ofNat 0))) ∧ (3 = 3 → ∀ j, j < 556 → (zyEl zymx B H) 75 j = some (.int (Int32.ofNat 0))) ∧ (3 = 4 → K ≤ 31 ∧ ∀ j, j < 556 → (zyEl zymx B H) 75 j = some (.int (Int32.ofNat (zcl R C K j)))) ∧ (3 = 5 → K ≤ 30 ∧ ∀ j, j < 556 → (zyEl zymx B H) 75 j = some (.int (Int32.ofNat (zcl R C (K + 1) j)))) := hI
      obtain ⟨hF, hB, hM⟩ := hXs
      have hfr : ∀ a k, zyin [(75, 0, 1), (75, 5, 5)] a k = false → (zyEl zymx B H2) a k = (zyEl zymx B H) a k := hfr
      have ex := List.mem_singleton.mp hx
      subst ex
      obtain ⟨R, C, K, hp, has, i1, r1, r2, r3, c1, c2, c3, c4, c5⟩ := hI
      have a1 : ρ2 1 = Int32.ofNat R := (hg 1 (by decide)).trans r1
      have a2 : ρ2 2 = Int32.ofNat C := (hg 2 (by decide)).trans r2
      have hk : ∀ a k, ¬ (a = 75 ∧ 0 ≤ k ∧ k ≤ 1) → ¬ (a = 75 ∧ 5 ≤ k ∧ k ≤ 5) → (zyEl zymx B H2) a k = (zyEl zymx B H) a k := by
        intro a k n0 n1
        apply hfr
        cases hq : zyin [(75, 0, 1), (75, 5, 5)] a k with
        | false => rfl
        | true =>
          obtain ⟨p0, g1, g2, g3, g4⟩ := zyin_iff.mp hq
          simp only [List.mem_cons, List.not_mem_nil, or_false] at g1
          rcases g1 with rfl | rfl
          · exact absurd ⟨g2.symm, g3, g4⟩ n0
          · exact absurd ⟨g2.symm, g3, g4⟩ n1
      have d2 := c3 rfl
      have m0 := zyXm hM 0 rfl
      have m0 : zyEl zymx B H2 75 0 = some (.int (ρ2 1)) := m0
      have m1 := zyXm hM 1 rfl
      have m1 : zyEl zymx B H2 75 1 = some (.int (ρ2 2)) := m1
      have m5 := zyXm hM 2 rfl
      have m5 : zyEl zymx B H2 75 5 = some (.int (Int32.ofNat 4294967295)) := m5
      rw [a1] at m0
      rw [a2] at m1
      refine zyGoB hIH hAt hB ⟨4, by decide⟩ [595, 34359738369, 68719476737, 0] rfl rfl rfl rfl ⟨R, C, 0, hp, has, fun a k n => (hk a k (by omega) (by omega)).trans (i1 a k n), a1, a2, fun _ => rfl, fun h => absurd (show 4 = 1 from h) (by decide), fun h => absurd (show 4 = 2 from h) (by decide), fun h => absurd (show 4 = 3 from h) (by decide), fun _ => ⟨by omega, fun j hj => by
          unfold zcl
          by_cases e0 : j = 0
          · rw [if_pos e0, e0]; exact m0
          by_cases e1 : j = 1
          · rw [if_neg e0, if_pos e1, e1]; exact m1
          by_cases e5 : j = 5
          · rw [if_neg e0, if_neg e1, if_pos e5, e5]; exact m5
          rw [if_neg e0, if_neg e1, if_neg e5, if_neg (by omega)]
          exact (hk 75 j (by omega) (by omega)).trans (d2 j hj)⟩, fun h => absurd (show 4 = 5 from h) (by decide)⟩ ?_
      show 1 + 2 * (31 - zyN1 (Int32.ofNat 0)) < 999
      omega
    · have hx : x ∈ [zxcls_dx0] := hx
      have hg : ∀ k, k < 4 → ρ2 k = ρ k := hag
      have hI := hInv
      have hI : ∃ R C K : Nat, zyPr R C ∧ as = [Int32.ofNat R, Int32.ofNat C] ∧ (∀ a k, ¬ a = 75 → (zyEl zymx B H) a k = (zyEl zymx B s.heap) a k) ∧ ρ 1 = Int32.ofNat R ∧ ρ 2 = Int32.ofNat C ∧ (4 = 1 ∨ 4 = 2 ∨ 4 = 4 ∨ 4 = 5 → ρ 3 = Int32.ofNat K) ∧ (4 = 1 → K ≤ 556 ∧ ∀ j, j < K → (zyEl zymx B H) 75 j = some (.int (Int32.ofNat 0))) ∧ (4 = 2 → K ≤ 555 ∧ ∀ j, j ≤ K → (zyEl zymx B H) 75 j = some (.int (Int32.ofNat 0))) ∧ (4 = 3 → ∀ j, j < 556 → (zyEl zymx B H) 75 j = some (.int (Int32.ofNat 0))) ∧ (4 = 4 → K ≤ 31 ∧ ∀ j, j < 556 → (zyEl zymx B H) 75 j = some (.int (Int32.ofNat (zcl R C K j)))) ∧ (4 = 5 → K ≤ 30 ∧ ∀ j, j < 556 → (zyEl zymx B H) 75 j = some (.int (Int32.ofNat (zcl R C (K + 1) j)))) := hI
      obtain ⟨hF, hB, hM⟩ := hXs
      have hEE : (zyEl zymx B H2) = (zyEl zymx B H) := zyfr0 hfr
      have ex := List.mem_singleton.mp hx
      subst ex
      obtain ⟨R, C, K, hp, has, i1, r1, r2, r3, c1, c2, c3, c4, c5⟩ := hI
      have a1 : ρ2 1 = Int32.ofNat R := (hg 1 (by decide)).trans r1
      have a2 : ρ2 2 = Int32.ofNat C := (hg 2 (by decide)).trans r2
      have a3 : ρ2 3 = Int32.ofNat K := (hg 3 (by decide)).trans (r3 (Or.inr (Or.inr (Or.inl rfl))))
      have b3 := zyXb hB 2 rfl
      have b3 : 2147483648 ≤ zB (ρ2 3) ∧ zB (ρ2 3) ≤ 2147483678 := b3
      obtain ⟨d1, d2⟩ := c4 rfl
      rw [a3, zyBn (by omega)] at b3
      have ej : ρ2 3 + Int32.ofNat 40 = Int32.ofNat (K + 40) := by rw [a3, zyOa]
      refine zyAsB hRu hIH hAt hB 75 (K + 40) (20, 556, [(0, 555, 34359738362)]) rfl rfl rfl (cv := 8) (cj := 103079215425) rfl (by decide) (by decide) ⟨5, by decide⟩ [595, 34359738369, 68719476737, 103079215105] rfl rfl rfl rfl (show K + 40 < 556 by omega) ej ?_ ?_
      · intro r0 hr0 _ _
        rw [List.mem_singleton.mp hr0]
        exact ⟨rfl, zyfull _⟩
      · intro E3 hT3 p1 p2
        have p1 : E3 75 (K + 40) = some (.int (Int32.ofNat 1)) := p1
        rw [hEE] at p2
        refine ⟨⟨R, C, K, hp, has, fun a k n => (p2 a k (fun z => n z.1)).trans (i1 a k n), a1, a2, fun _ => a3, fun h => absurd (show 5 = 1 from h) (by decide), fun h => absurd (show 5 = 2 from h) (by decide), fun h => absurd (show 5 = 3 from h) (by decide), fun h => absurd (show 5 = 4 from h) (by decide), fun _ => ⟨by omega, fun j hj => by
          by_cases ej : j = K + 40
          · rw [ej, p1]
            unfold zcl
            rw [if_neg (by omega), if_neg (by omega), if_neg (by omega), if_pos (by omega)]
          · rw [p2 75 j (fun z => ej z.2), d2 j hj]
            unfold zcl
            by_cases e0 : j = 0
            · rw [if_pos e0, if_pos e0]
            by_cases e1 : j = 1
            · rw [if_neg e0, if_neg e0, if_pos e1, if_pos e1]
            by_cases e5 : j = 5
            · rw [if_neg e0, if_neg e0, if_neg e1, if_neg e1, if_pos e5, if_pos e5]
            rw [if_neg e0, if_neg e0, if_neg e1, if_neg e1, if_neg e5, if_neg e5]
            by_cases ek : 40 ≤ j ∧ j < 40 + K
            · rw [if_pos ek, if_pos (by omega)]
            · rw [if_neg ek, if_neg (by omega)]⟩⟩, ?_⟩
        show 2 * (31 - zyN1 (ρ2 3)) < 1 + 2 * (31 - zyN1 (ρ 3))
        rw [hg 3 (by decide)]
        omega
    · have hx : x ∈ [zxcls_ex0] := hx
      have hg : ∀ k, k < 4 → ρ2 k = ρ k := hag
      have hI := hInv
      have hI : ∃ R C K : Nat, zyPr R C ∧ as = [Int32.ofNat R, Int32.ofNat C] ∧ (∀ a k, ¬ a = 75 → (zyEl zymx B H) a k = (zyEl zymx B s.heap) a k) ∧ ρ 1 = Int32.ofNat R ∧ ρ 2 = Int32.ofNat C ∧ (5 = 1 ∨ 5 = 2 ∨ 5 = 4 ∨ 5 = 5 → ρ 3 = Int32.ofNat K) ∧ (5 = 1 → K ≤ 556 ∧ ∀ j, j < K → (zyEl zymx B H) 75 j = some (.int (Int32.ofNat 0))) ∧ (5 = 2 → K ≤ 555 ∧ ∀ j, j ≤ K → (zyEl zymx B H) 75 j = some (.int (Int32.ofNat 0))) ∧ (5 = 3 → ∀ j, j < 556 → (zyEl zymx B H) 75 j = some (.int (Int32.ofNat 0))) ∧ (5 = 4 → K ≤ 31 ∧ ∀ j, j < 556 → (zyEl zymx B H) 75 j = some (.int (Int32.ofNat (zcl R C K j)))) ∧ (5 = 5 → K ≤ 30 ∧ ∀ j, j < 556 → (zyEl zymx B H) 75 j = some (.int (Int32.ofNat (zcl R C (K + 1) j)))) := hI
      obtain ⟨hF, hB, hM⟩ := hXs
      have hEE : (zyEl zymx B H2) = (zyEl zymx B H) := zyfr0 hfr
      have ex := List.mem_singleton.mp hx
      subst ex
      obtain ⟨R, C, K, hp, has, i1, r1, r2, r3, c1, c2, c3, c4, c5⟩ := hI
      have a1 : ρ2 1 = Int32.ofNat R := (hg 1 (by decide)).trans r1
      have a2 : ρ2 2 = Int32.ofNat C := (hg 2 (by decide)).trans r2
      have a3 : ρ2 3 = Int32.ofNat K := (hg 3 (by decide)).trans (r3 (Or.inr (Or.inr (Or.inr rfl))))
      obtain ⟨d1, d2⟩ := c5 rfl
      have a3' : ρ2 3 + Int32.ofNat 1 = Int32.ofNat (K + 1) := by rw [a3, zyOa]
      refine zyGoB hIH hAt hB ⟨4, by decide⟩ [595, 34359738369, 68719476737, 103079215113] rfl rfl rfl rfl ⟨R, C, (K + 1), hp, has, by rw [hEE]; exact i1, a1, a2, fun _ => a3', fun h => absurd (show 4 = 1 from h) (by decide), fun h => absurd (show 4 = 2 from h) (by decide), fun h => absurd (show 4 = 3 from h) (by decide), fun _ => ⟨by omega, fun j hj => by rw [hEE]; exact d2 j hj⟩, fun h => absurd (show 4 = 5 from h) (by decide)⟩ ?_
      show 1 + 2 * (31 - zyN1 (ρ2 3 + Int32.ofNat 1)) < 2 * (31 - zyN1 (ρ 3))
      rw [a3', r3 (Or.inr (Or.inr (Or.inr rfl))), zyN1_of (by omega), zyN1_of (by omega)]
      omega
  · intro as E0 E E2 hT0 hΦ hlen i ρ hT hInv x hx ρ2 N2 B vo hXs hag hfr hT2 hvo
    rcases i with ⟨i, hi⟩
    have hi2 : i = 0 ∨ i = 1 ∨ i = 2 ∨ i = 3 ∨ i = 4 ∨ i = 5 := by omega
    rcases hi2 with rfl | rfl | rfl | rfl | rfl | rfl
    · cases hx
    · cases hx
    · cases hx
    · cases hx
    · have hx : x ∈ [zxcls_dr0] := hx
      have hg : ∀ k, k < 4 → ρ2 k = ρ k := hag
      have hI := hInv
      have hI : ∃ R C K : Nat, zyPr R C ∧ as = [Int32.ofNat R, Int32.ofNat C] ∧ (∀ a k, ¬ a = 75 → E a k = E0 a k) ∧ ρ 1 = Int32.ofNat R ∧ ρ 2 = Int32.ofNat C ∧ (4 = 1 ∨ 4 = 2 ∨ 4 = 4 ∨ 4 = 5 → ρ 3 = Int32.ofNat K) ∧ (4 = 1 → K ≤ 556 ∧ ∀ j, j < K → E 75 j = some (.int (Int32.ofNat 0))) ∧ (4 = 2 → K ≤ 555 ∧ ∀ j, j ≤ K → E 75 j = some (.int (Int32.ofNat 0))) ∧ (4 = 3 → ∀ j, j < 556 → E 75 j = some (.int (Int32.ofNat 0))) ∧ (4 = 4 → K ≤ 31 ∧ ∀ j, j < 556 → E 75 j = some (.int (Int32.ofNat (zcl R C K j)))) ∧ (4 = 5 → K ≤ 30 ∧ ∀ j, j < 556 → E 75 j = some (.int (Int32.ofNat (zcl R C (K + 1) j)))) := hI
      obtain ⟨hF, hB, hM⟩ := hXs
      have hEE : E2 = E := zyfr0 hfr
      have ex := List.mem_singleton.mp hx
      subst ex
      obtain ⟨R, C, K, hp, has, i1, r1, r2, r3, c1, c2, c3, c4, c5⟩ := hI
      have a1 : ρ2 1 = Int32.ofNat R := (hg 1 (by decide)).trans r1
      have a2 : ρ2 2 = Int32.ofNat C := (hg 2 (by decide)).trans r2
      have a3 : ρ2 3 = Int32.ofNat K := (hg 3 (by decide)).trans (r3 (Or.inr (Or.inr (Or.inl rfl))))
      obtain ⟨d1, d2⟩ := c4 rfl
      have f := zyX21 hF 0 rfl
      have f : ¬ ρ2 3 < Int32.ofNat 31 := f
      rw [a3, zyOl (by omega) (by omega)] at f
      have ek : K = 31 := by omega
      exact ⟨zyvo_0 (show zyvo _ [] vo from hvo), fun a k n => by rw [hEE]; exact i1 a k n, R, C, hp, has, fun j hj => by rw [hEE, d2 j hj, ek]⟩
    · cases hx
end
section
/-! ALL OF A TEXT is read -/
def zyΦlx (as : List Int32) (E : zyEm) : Prop := ∃ r c, zyPr r c ∧ zyT75 r c E ∧ zyΦli as E
def zyΨlx (as : List Int32) (E E2 : zyEm) (vo : Option Value) : Prop := ∀ r c, zyPr r c → zyT75 r c E → zyT75 r c E2 ∧ zyΨli as E E2 vo
theorem zylineX {l : Launch} {en : zEn} {me : zMe} (hen : zG zxMeta 327 = some en) (hme : zG zMeth 327 = some me) : zyHc l zymx en me 10 0 zyΦlx zyΨlx := zyHc_x (fun r c hp => zyline hp.1 hp.2.1 hp.2.2.1 hp.2.2.2 hen hme)
def zyΦra (_ : List Int32) (E : zyEm) : Prop := zPn E
def zyΨra (_ : List Int32) (E E2 : zyEm) (vo : Option Value) : Prop := vo = none ∧ E2 74 33 = E 74 33 ∧ (∀ k, E2 76 k = E 76 k) ∧ ∃ w : Nat, w ≤ 9 ∧ E2 74 36 = some (.int (Int32.ofNat w)) ∧ (w = 0 → ∃ r c, zyPr r c ∧ zyT75 r c E2 ∧ zJl E2)
def zyw0 (E : zyEm) : Prop := E 74 36 = some (.int (Int32.ofNat 0))
def zybn (x : Int32) (h : Nat) : Prop := 2147483649 ≤ zB x ∧ zB x ≤ 2147483648 + h
theorem zyw0_of {E : zyEm} {w : Nat} (hw : w ≤ 9) (h : E 74 36 = some (.int (Int32.ofNat w))) (h0 : zyw0 E) : w = 0 := by
  unfold zyw0 at h0
  rw [h] at h0
  exact zyOi (by omega) (by omega) (Value.int.inj (Option.some.inj h0))
theorem zyral_run : zyrS zymx zxi328 (328, 0, 0, 0, 0) 11 zpral (fun _ _ => []) zFral zSral zXral zRral 8 = true := by decide +kernel
theorem zyreadsAll {l : Launch} {en : zEn} {me : zMe} (hen : zG zxMeta 328 = some en) (hme : zG zMeth 328 = some me) : zyHc l zymx en me 11 0 zyΦra zyΨra := by
  have een : zG zxMeta 328 = some (zxi328, 1, 3, 11, 328, 0, 0, 0, 0) := rfl
  obtain ⟨me1, hme1, hOK⟩ := zall hen
  rw [hme] at hme1
  cases hme1
  rw [een] at hen
  cases hen
  have hr := zyral_run
  obtain ⟨metk, hmetk, -⟩ := zall (show zG zxMeta 318 = some (zxi318, 2, 2, 11, 318, 0, 0, 0, 0) from rfl)
  have htk := zytakes (l := l) (show zG zxMeta 318 = some (zxi318, 2, 2, 11, 318, 0, 0, 0, 0) from rfl) hmetk
  obtain ⟨metn, hmetn, -⟩ := zall (show zG zxMeta 320 = some (zxi320, 3, 4, 11, 320, 0, 0, 1, 0) from rfl)
  have htn := zytakesNumber (l := l) (show zG zxMeta 320 = some (zxi320, 3, 4, 11, 320, 0, 0, 1, 0) from rfl) hmetn
  obtain ⟨mesg, hmesg, -⟩ := zall (show zG zxMeta 317 = some (zxi317, 2, 2, 11, 317, 0, 0, 2, 0) from rfl)
  have hsg := zyisSign (l := l) (show zG zxMeta 317 = some (zxi317, 2, 2, 11, 317, 0, 0, 2, 0) from rfl) hmesg
  obtain ⟨mecl, hmecl, -⟩ := zall (show zG zxMeta 193 = some (zxi193, 3, 4, 11, 193, 0, 0, 0, 0) from rfl)
  have hcl := zyclears (l := l) (show zG zxMeta 193 = some (zxi193, 3, 4, 11, 193, 0, 0, 0, 0) from rfl) hmecl
  obtain ⟨meli, hmeli, -⟩ := zall (show zG zxMeta 327 = some (zxi327, 1, 1, 11, 327, 0, 0, 0, 0) from rfl)
  have hli := zylineX (l := l) (show zG zxMeta 327 = some (zxi327, 1, 1, 11, 327, 0, 0, 0, 0) from rfl) hmeli
  refine zycutS (mi := zymx) hOK rfl rfl ⟨_, rfl, rfl⟩ (ι := Fin 8) (fun i => zpral i.val) (fun _ _ => []) (fun i => zFral i.val) (fun i => zSral i.val) (fun i => zXral i.val) (fun i => zRral i.val) (fun i y2 ct en2 me2 h => by cases h) 200000 (fun i => zyAll_iff hr i.val i.isLt) ⟨0, by decide⟩ ⟨rfl, rfl, rfl, rfl⟩ ⟨by decide, by decide⟩
    (fun i as E0 ρ E => (E 74 33 = E0 74 33 ∧ ∀ k, E 76 k = E0 76 k) ∧ (i.val ≤ 5 → zPn E) ∧ (i.val = 2 → zyw0 E → zybn (ρ 3) 4) ∧ (i.val = 3 → zyw0 E → zybn (ρ 1) 4 ∧ zybn (ρ 3) 5) ∧ (i.val = 4 ∨ i.val = 5 → zyw0 E → zybn (ρ 1) 4 ∧ zybn (ρ 2) 5) ∧ (i.val = 4 → ρ 3 = 1 → E 74 36 = some (.int (Int32.ofNat 0)) ∧ E 74 40 = some (.int (Int32.ofNat 3))) ∧ (i.val = 6 ∨ i.val = 7 → ∃ r c n : Nat, zyPr r c ∧ zyT75 r c E ∧ zJl E ∧ zPn E ∧ n ≤ 901 ∧ E 74 39 = some (.int (Int32.ofNat n)))) (fun i as E0 ρ E => if i.val ≤ 5 then 100000 - i.val else if i.val = 6 then (if zyI E 74 36 = Int32.ofNat 0 then 10 * (902 - zyN1 (zyI E 74 39)) + 5 else 2) else (if zyI E 74 36 = Int32.ofNat 0 then 10 * (902 - zyN1 (zyI E 74 39)) + 7 else 3)) ?_ ?_ ?_
  · intro as E hlen hT hΦ
    exact ⟨zEnv_c (zyfull _) (zEnv_c (zyfull _) (zEnv_c (zyfull _) zEnv_nil)), ⟨rfl, fun _ => rfl⟩, fun _ => hΦ, fun h => absurd (show 0 = 2 from h) (by decide), fun h => absurd (show 0 = 3 from h) (by decide), fun h => absurd (show 0 = 4 ∨ 0 = 5 from h) (by decide), fun h => absurd (show 0 = 4 from h) (by decide), fun h => absurd (show 0 = 6 ∨ 0 = 7 from h) (by decide)⟩
  · intro as B s Wg hRu hT0 hΦ hlen i ρ H hT hInv hIH x hx ρ2 N2 H2 locs lsB stA hAt hXs hag hfr hT2
    rcases i with ⟨i, hi⟩
    have hi2 : i = 0 ∨ i = 1 ∨ i = 2 ∨ i = 3 ∨ i = 4 ∨ i = 5 ∨ i = 6 ∨ i = 7 := by omega
    rcases hi2 with rfl | rfl | rfl | rfl | rfl | rfl | rfl | rfl
    · have hx : x ∈ [zxral_ax0, zxral_ax1, zxral_ax2, zxral_ax3, zxral_ax4] := hx
      have hg : ∀ k, k < 3 → ρ2 k = ρ k := hag
      have hI := hInv
      have hI : ((zyEl zymx B H) 74 33 = (zyEl zymx B s.heap) 74 33 ∧ ∀ k, (zyEl zymx B H) 76 k = (zyEl zymx B s.heap) 76 k) ∧ (0 ≤ 5 → zPn (zyEl zymx B H)) ∧ (0 = 2 → zyw0 (zyEl zymx B H) → zybn (ρ 3) 4) ∧ (0 = 3 → zyw0 (zyEl zymx B H) → zybn (ρ 1) 4 ∧ zybn (ρ 3) 5) ∧ (0 = 4 ∨ 0 = 5 → zyw0 (zyEl zymx B H) → zybn (ρ 1) 4 ∧ zybn (ρ 2) 5) ∧ (0 = 4 → ρ 3 = 1 → (zyEl zymx B H) 74 36 = some (.int (Int32.ofNat 0)) ∧ (zyEl zymx B H) 74 40 = some (.int (Int32.ofNat 3))) ∧ (0 = 6 ∨ 0 = 7 → ∃ r c n : Nat, zyPr r c ∧ zyT75 r c (zyEl zymx B H) ∧ zJl (zyEl zymx B H) ∧ zPn (zyEl zymx B H) ∧ n ≤ 901 ∧ (zyEl zymx B H) 74 39 = some (.int (Int32.ofNat n))) := hI
      obtain ⟨hF, hB, hM⟩ := hXs
      have hEE : (zyEl zymx B H2) = (zyEl zymx B H) := zyfr0 hfr
      rcases List.mem_cons.mp hx with ex | hx
      · subst ex
        obtain ⟨⟨t33, t76⟩, hP, c2, c3, c45, c4, c67⟩ := hI
        rw [← hEE] at t33
        have t76 : ∀ k, (zyEl zymx B H2) 76 k = (zyEl zymx B s.heap) 76 k := fun k => by rw [hEE]; exact t76 k
        have hP := hP (by decide)
        rw [← hEE] at hP
        obtain ⟨w, hw, ew⟩ := zc74 hT2 (k := 36) (lo := 2147483648) (hi := 2147483657) (by decide) rfl (by decide) (by decide)
        refine zyCa0 hRu hIH hAt hB htk (ix := 462) (ax := 5088) rfl rfl rfl hmetk ⟨rfl, rfl, rfl, rfl⟩ (by decide) [0] rfl (by decide) rfl ⟨1, by decide⟩ [595, 0, 0] rfl rfl rfl rfl ?_ ?_
        · show zyΦtk _ _
          exact ⟨hP, 0, w, rfl, by decide, by omega, ew, fun q _ _ => absurd q (by decide)⟩
        · intro E3 vo hT3 hΨ
          obtain ⟨ev, p1, p2, -⟩ := (show zyΨtk _ _ E3 vo from hΨ)
          refine ⟨ev, ⟨⟨(p1 74 33 (by omega)).trans t33, fun k => (p1 76 k (by omega)).trans (t76 k)⟩, fun _ => p2, fun h => absurd (show 1 = 2 from h) (by decide), fun h => absurd (show 1 = 3 from h) (by decide), fun h => absurd (show 1 = 4 ∨ 1 = 5 from h) (by decide), fun h => absurd (show 1 = 4 from h) (by decide), fun h => absurd (show 1 = 6 ∨ 1 = 7 from h) (by decide)⟩, ?_⟩
          show 100000 - 1 < 100000 - 0
          decide
      · skip
        rcases List.mem_cons.mp hx with ex | hx
        · subst ex
          obtain ⟨⟨t33, t76⟩, hP, c2, c3, c45, c4, c67⟩ := hI
          rw [← hEE] at t33
          have t76 : ∀ k, (zyEl zymx B H2) 76 k = (zyEl zymx B s.heap) 76 k := fun k => by rw [hEE]; exact t76 k
          have hP := hP (by decide)
          rw [← hEE] at hP
          obtain ⟨w, hw, ew⟩ := zc74 hT2 (k := 36) (lo := 2147483648) (hi := 2147483657) (by decide) rfl (by decide) (by decide)
          refine zyCa0 hRu hIH hAt hB htk (ix := 462) (ax := 5088) rfl rfl rfl hmetk ⟨rfl, rfl, rfl, rfl⟩ (by decide) [0] rfl (by decide) rfl ⟨1, by decide⟩ [595, 0, 0] rfl rfl rfl rfl ?_ ?_
          · show zyΦtk _ _
            exact ⟨hP, 0, w, rfl, by decide, by omega, ew, fun q _ _ => absurd q (by decide)⟩
          · intro E3 vo hT3 hΨ
            obtain ⟨ev, p1, p2, -⟩ := (show zyΨtk _ _ E3 vo from hΨ)
            refine ⟨ev, ⟨⟨(p1 74 33 (by omega)).trans t33, fun k => (p1 76 k (by omega)).trans (t76 k)⟩, fun _ => p2, fun h => absurd (show 1 = 2 from h) (by decide), fun h => absurd (show 1 = 3 from h) (by decide), fun h => absurd (show 1 = 4 ∨ 1 = 5 from h) (by decide), fun h => absurd (show 1 = 4 from h) (by decide), fun h => absurd (show 1 = 6 ∨ 1 = 7 from h) (by decide)⟩, ?_⟩
            show 100000 - 1 < 100000 - 0
            decide
        · skip
          rcases List.mem_cons.mp hx with ex | hx
          · subst ex
            obtain ⟨⟨t33, t76⟩, hP, c2, c3, c45, c4, c67⟩ := hI
            rw [← hEE] at t33
            have t76 : ∀ k, (zyEl zymx B H2) 76 k = (zyEl zymx B s.heap) 76 k := fun k => by rw [hEE]; exact t76 k
            have hP := hP (by decide)
            rw [← hEE] at hP
            obtain ⟨w, hw, ew⟩ := zc74 hT2 (k := 36) (lo := 2147483648) (hi := 2147483657) (by decide) rfl (by decide) (by decide)
            refine zyCa0 hRu hIH hAt hB htk (ix := 462) (ax := 5088) rfl rfl rfl hmetk ⟨rfl, rfl, rfl, rfl⟩ (by decide) [0] rfl (by decide) rfl ⟨1, by decide⟩ [595, 0, 0] rfl rfl rfl rfl ?_ ?_
            · show zyΦtk _ _
              exact ⟨hP, 0, w, rfl, by decide, by omega, ew, fun q _ _ => absurd q (by decide)⟩
            · intro E3 vo hT3 hΨ
              obtain ⟨ev, p1, p2, -⟩ := (show zyΨtk _ _ E3 vo from hΨ)
              refine ⟨ev, ⟨⟨(p1 74 33 (by omega)).trans t33, fun k => (p1 76 k (by omega)).trans (t76 k)⟩, fun _ => p2, fun h => absurd (show 1 = 2 from h) (by decide), fun h => absurd (show 1 = 3 from h) (by decide), fun h => absurd (show 1 = 4 ∨ 1 = 5 from h) (by decide), fun h => absurd (show 1 = 4 from h) (by decide), fun h => absurd (show 1 = 6 ∨ 1 = 7 from h) (by decide)⟩, ?_⟩
              show 100000 - 1 < 100000 - 0
              decide
          · skip
            rcases List.mem_cons.mp hx with ex | hx
            · subst ex
              obtain ⟨⟨t33, t76⟩, hP, c2, c3, c45, c4, c67⟩ := hI
              rw [← hEE] at t33
              have t76 : ∀ k, (zyEl zymx B H2) 76 k = (zyEl zymx B s.heap) 76 k := fun k => by rw [hEE]; exact t76 k
              have hP := hP (by decide)
              rw [← hEE] at hP
              obtain ⟨w, hw, ew⟩ := zc74 hT2 (k := 36) (lo := 2147483648) (hi := 2147483657) (by decide) rfl (by decide) (by decide)
              refine zyCa0 hRu hIH hAt hB htk (ix := 462) (ax := 5088) rfl rfl rfl hmetk ⟨rfl, rfl, rfl, rfl⟩ (by decide) [0] rfl (by decide) rfl ⟨1, by decide⟩ [595, 0, 0] rfl rfl rfl rfl ?_ ?_
              · show zyΦtk _ _
                exact ⟨hP, 0, w, rfl, by decide, by omega, ew, fun q _ _ => absurd q (by decide)⟩
              · intro E3 vo hT3 hΨ
                obtain ⟨ev, p1, p2, -⟩ := (show zyΨtk _ _ E3 vo from hΨ)
                refine ⟨ev, ⟨⟨(p1 74 33 (by omega)).trans t33, fun k => (p1 76 k (by omega)).trans (t76 k)⟩, fun _ => p2, fun h => absurd (show 1 = 2 from h) (by decide), fun h => absurd (show 1 = 3 from h) (by decide), fun h => absurd (show 1 = 4 ∨ 1 = 5 from h) (by decide), fun h => absurd (show 1 = 4 from h) (by decide), fun h => absurd (show 1 = 6 ∨ 1 = 7 from h) (by decide)⟩, ?_⟩
                show 100000 - 1 < 100000 - 0
                decide
            · skip
              have ex := List.mem_singleton.mp hx
              subst ex
              obtain ⟨⟨t33, t76⟩, hP, c2, c3, c45, c4, c67⟩ := hI
              rw [← hEE] at t33
              have t76 : ∀ k, (zyEl zymx B H2) 76 k = (zyEl zymx B s.heap) 76 k := fun k => by rw [hEE]; exact t76 k
              have hP := hP (by decide)
              rw [← hEE] at hP
              obtain ⟨w, hw, ew⟩ := zc74 hT2 (k := 36) (lo := 2147483648) (hi := 2147483657) (by decide) rfl (by decide) (by decide)
              obtain ⟨nb, ub1, ub2, ub3⟩ := zyXe hF 1 rfl
              have ub1 : Int32.ofNat 40 = Int32.ofNat nb := ub1
              have ub3 : (zyEl zymx B H) 74 nb = some (.int (ρ2 4)) := ub3
              have eb := zyOi (by omega) (by omega) ub1
              subst eb
              have b4 := zyXb hB 1 rfl
              have b4 : 2147483649 ≤ zB (ρ2 4) ∧ zB (ρ2 4) ≤ 2147483649 := b4
              obtain ⟨o1, o2⟩ := zyOn (show 2147483648 ≤ zB (ρ2 4) by omega)
              rw [o1, show zyN1 (ρ2 4) = 1 by omega, ← hEE] at ub3
              refine zyCa0 hRu hIH hAt hB htk (ix := 462) (ax := 5088) rfl rfl rfl hmetk ⟨rfl, rfl, rfl, rfl⟩ (by decide) [8] rfl (by decide) rfl ⟨1, by decide⟩ [595, 0, 0] rfl rfl rfl rfl ?_ ?_
              · show zyΦtk _ _
                exact ⟨hP, 1, w, rfl, by decide, by omega, ew, fun _ _ q => by rw [ub3] at q; have := zyOi (by omega) (by omega) (Value.int.inj (Option.some.inj q)); omega⟩
              · intro E3 vo hT3 hΨ
                obtain ⟨ev, p1, p2, -⟩ := (show zyΨtk _ _ E3 vo from hΨ)
                refine ⟨ev, ⟨⟨(p1 74 33 (by omega)).trans t33, fun k => (p1 76 k (by omega)).trans (t76 k)⟩, fun _ => p2, fun h => absurd (show 1 = 2 from h) (by decide), fun h => absurd (show 1 = 3 from h) (by decide), fun h => absurd (show 1 = 4 ∨ 1 = 5 from h) (by decide), fun h => absurd (show 1 = 4 from h) (by decide), fun h => absurd (show 1 = 6 ∨ 1 = 7 from h) (by decide)⟩, ?_⟩
                show 100000 - 1 < 100000 - 0
                decide
    · have hx : x ∈ [zxral_bx0] := hx
      have hg : ∀ k, k < 3 → ρ2 k = ρ k := hag
      have hI := hInv
      have hI : ((zyEl zymx B H) 74 33 = (zyEl zymx B s.heap) 74 33 ∧ ∀ k, (zyEl zymx B H) 76 k = (zyEl zymx B s.heap) 76 k) ∧ (1 ≤ 5 → zPn (zyEl zymx B H)) ∧ (1 = 2 → zyw0 (zyEl zymx B H) → zybn (ρ 3) 4) ∧ (1 = 3 → zyw0 (zyEl zymx B H) → zybn (ρ 1) 4 ∧ zybn (ρ 3) 5) ∧ (1 = 4 ∨ 1 = 5 → zyw0 (zyEl zymx B H) → zybn (ρ 1) 4 ∧ zybn (ρ 2) 5) ∧ (1 = 4 → ρ 3 = 1 → (zyEl zymx B H) 74 36 = some (.int (Int32.ofNat 0)) ∧ (zyEl zymx B H) 74 40 = some (.int (Int32.ofNat 3))) ∧ (1 = 6 ∨ 1 = 7 → ∃ r c n : Nat, zyPr r c ∧ zyT75 r c (zyEl zymx B H) ∧ zJl (zyEl zymx B H) ∧ zPn (zyEl zymx B H) ∧ n ≤ 901 ∧ (zyEl zymx B H) 74 39 = some (.int (Int32.ofNat n))) := hI
      obtain ⟨hF, hB, hM⟩ := hXs
      have hEE : (zyEl zymx B H2) = (zyEl zymx B H) := zyfr0 hfr
      have ex := List.mem_singleton.mp hx
      subst ex
      obtain ⟨⟨t33, t76⟩, hP, c2, c3, c45, c4, c67⟩ := hI
      rw [← hEE] at t33
      have t76 : ∀ k, (zyEl zymx B H2) 76 k = (zyEl zymx B s.heap) 76 k := fun k => by rw [hEE]; exact t76 k
      have hP := hP (by decide)
      rw [← hEE] at hP
      refine zyCa1 hRu hIH hAt hB htn (ix := 456) (ax := 5120) rfl rfl rfl hmetn ⟨rfl, rfl, rfl, rfl⟩ (by decide) [8, 32] rfl (by decide) rfl ⟨2, by decide⟩ [595, 0, 0] [(0, 4294967295), (0, 4294967295), (0, 4294967295)] 0 4294967295 rfl (by decide) rfl rfl rfl rfl rfl ?_ ?_
      · show zyΦtn _ _
        exact ⟨hP, 4, rfl, by decide, by decide⟩
      · intro E3 vo hT3 hΨ
        obtain ⟨p1, p2, n1, n2, w1, w2, hh, z, q1, hh1, hh2, q4, -, -, -, -, q9, q10, q11, q12⟩ := (show zyΨtn _ _ E3 vo from hΨ)
        have eh := zyOi (a := 4) (b := hh) (by omega) (by omega) (List.cons.inj (List.cons.inj q1).2).1
        subst eh
        refine ⟨z, q4, Nat.zero_le _, by have := zB_lt z; omega, ⟨⟨(p1 74 33 (by omega)).trans t33, fun k => (p1 76 k (by omega)).trans (t76 k)⟩, fun _ => p2, fun _ q => by
          obtain ⟨-, -, b1, b2⟩ := q12 (zyw0_of q11 q10 q)
          show zybn (zyρi _ 3 z 3) 4
          rw [zyρi_e]
          exact ⟨b1, b2⟩, fun h => absurd (show 2 = 3 from h) (by decide), fun h => absurd (show 2 = 4 ∨ 2 = 5 from h) (by decide), fun h => absurd (show 2 = 4 from h) (by decide), fun h => absurd (show 2 = 6 ∨ 2 = 7 from h) (by decide)⟩, ?_⟩
        show 100000 - 2 < 100000 - 1
        decide
    · have hx : x ∈ [zxral_cx0] := hx
      have hg : ∀ k, k < 4 → ρ2 k = ρ k := hag
      have hI := hInv
      have hI : ((zyEl zymx B H) 74 33 = (zyEl zymx B s.heap) 74 33 ∧ ∀ k, (zyEl zymx B H) 76 k = (zyEl zymx B s.heap) 76 k) ∧ (2 ≤ 5 → zPn (zyEl zymx B H)) ∧ (2 = 2 → zyw0 (zyEl zymx B H) → zybn (ρ 3) 4) ∧ (2 = 3 → zyw0 (zyEl zymx B H) → zybn (ρ 1) 4 ∧ zybn (ρ 3) 5) ∧ (2 = 4 ∨ 2 = 5 → zyw0 (zyEl zymx B H) → zybn (ρ 1) 4 ∧ zybn (ρ 2) 5) ∧ (2 = 4 → ρ 3 = 1 → (zyEl zymx B H) 74 36 = some (.int (Int32.ofNat 0)) ∧ (zyEl zymx B H) 74 40 = some (.int (Int32.ofNat 3))) ∧ (2 = 6 ∨ 2 = 7 → ∃ r c n : Nat, zyPr r c ∧ zyT75 r c (zyEl zymx B H) ∧ zJl (zyEl zymx B H) ∧ zPn (zyEl zymx B H) ∧ n ≤ 901 ∧ (zyEl zymx B H) 74 39 = some (.int (Int32.ofNat n))) := hI
      obtain ⟨hF, hB, hM⟩ := hXs
      have hEE : (zyEl zymx B H2) = (zyEl zymx B H) := zyfr0 hfr
      have ex := List.mem_singleton.mp hx
      subst ex
      obtain ⟨⟨t33, t76⟩, hP, c2, c3, c45, c4, c67⟩ := hI
      rw [← hEE] at t33
      have t76 : ∀ k, (zyEl zymx B H2) 76 k = (zyEl zymx B s.heap) 76 k := fun k => by rw [hEE]; exact t76 k
      have hP := hP (by decide)
      rw [← hEE] at hP
      refine zyCa1 hRu hIH hAt hB htn (ix := 456) (ax := 5120) rfl rfl rfl hmetn ⟨rfl, rfl, rfl, rfl⟩ (by decide) [8, 40] rfl (by decide) rfl ⟨3, by decide⟩ [595, 103079215105, 0] [(0, 4294967295), (0, 4294967295), (0, 4294967295)] 0 4294967295 rfl (by decide) rfl rfl rfl rfl rfl ?_ ?_
      · show zyΦtn _ _
        exact ⟨hP, 5, rfl, by decide, by decide⟩
      · intro E3 vo hT3 hΨ
        obtain ⟨p1, p2, n1, n2, w1, w2, hh, z, q1, hh1, hh2, q4, -, -, -, -, q9, q10, q11, q12⟩ := (show zyΨtn _ _ E3 vo from hΨ)
        have eh := zyOi (a := 5) (b := hh) (by omega) (by omega) (List.cons.inj (List.cons.inj q1).2).1
        subst eh
        refine ⟨z, q4, Nat.zero_le _, by have := zB_lt z; omega, ⟨⟨(p1 74 33 (by omega)).trans t33, fun k => (p1 76 k (by omega)).trans (t76 k)⟩, fun _ => p2, fun h => absurd (show 3 = 2 from h) (by decide), fun _ q => by
          obtain ⟨-, ew0, b1, b2⟩ := q12 (zyw0_of q11 q10 q)
          rw [ew0] at q9
          have c2b := c2 rfl (by rw [← hEE]; exact q9)
          refine ⟨?_, ?_⟩
          · show zybn (zyρi _ 3 z 1) 4
            rw [zyρi_n (by decide)]
            show zybn (ρ2 3) 4
            rw [hg 3 (by decide)]
            exact c2b
          · show zybn (zyρi _ 3 z 3) 5
            rw [zyρi_e]
            exact ⟨b1, b2⟩, fun h => absurd (show 3 = 4 ∨ 3 = 5 from h) (by decide), fun h => absurd (show 3 = 4 from h) (by decide), fun h => absurd (show 3 = 6 ∨ 3 = 7 from h) (by decide)⟩, ?_⟩
        show 100000 - 3 < 100000 - 2
        decide
    · have hx : x ∈ [zxral_dx0] := hx
      have hg : ∀ k, k < 4 → ρ2 k = ρ k := hag
      have hI := hInv
      have hI : ((zyEl zymx B H) 74 33 = (zyEl zymx B s.heap) 74 33 ∧ ∀ k, (zyEl zymx B H) 76 k = (zyEl zymx B s.heap) 76 k) ∧ (3 ≤ 5 → zPn (zyEl zymx B H)) ∧ (3 = 2 → zyw0 (zyEl zymx B H) → zybn (ρ 3) 4) ∧ (3 = 3 → zyw0 (zyEl zymx B H) → zybn (ρ 1) 4 ∧ zybn (ρ 3) 5) ∧ (3 = 4 ∨ 3 = 5 → zyw0 (zyEl zymx B H) → zybn (ρ 1) 4 ∧ zybn (ρ 2) 5) ∧ (3 = 4 → ρ 3 = 1 → (zyEl zymx B H) 74 36 = some (.int (Int32.ofNat 0)) ∧ (zyEl zymx B H) 74 40 = some (.int (Int32.ofNat 3))) ∧ (3 = 6 ∨ 3 = 7 → ∃ r c n : Nat, zyPr r c ∧ zyT75 r c (zyEl zymx B H) ∧ zJl (zyEl zymx B H) ∧ zPn (zyEl zymx B H) ∧ n ≤ 901 ∧ (zyEl zymx B H) 74 39 = some (.int (Int32.ofNat n))) := hI
      obtain ⟨hF, hB, hM⟩ := hXs
      have hEE : (zyEl zymx B H2) = (zyEl zymx B H) := zyfr0 hfr
      have ex := List.mem_singleton.mp hx
      subst ex
      obtain ⟨⟨t33, t76⟩, hP, c2, c3, c45, c4, c67⟩ := hI
      rw [← hEE] at t33
      have t76 : ∀ k, (zyEl zymx B H2) 76 k = (zyEl zymx B s.heap) 76 k := fun k => by rw [hEE]; exact t76 k
      have hP := hP (by decide)
      rw [← hEE] at hP
      refine zyCaV hRu hIH hAt hB hsg (ix := 466) (ax := 5072) rfl rfl rfl hmesg ⟨rfl, rfl, rfl, rfl⟩ (by decide) [472] [595] rfl (by decide) (by decide) rfl ⟨4, by decide⟩ [595, 34359738369, 103079215105] [(0, 4294967295), (0, 4294967295), (0, 4294967295)] 2147483648 2147483649 rfl (by decide) rfl rfl rfl rfl [595] rfl rfl ?_ ?_
      · show zyΦsg _ _
        exact ⟨hP, _, rfl⟩
      · intro E3 vo hT3 hΨ
        obtain ⟨e3, z, ez, hz, hz1⟩ := (show zyΨsg _ _ E3 vo from hΨ)
        subst e3
        refine ⟨z, ez, ?_, ?_, ⟨⟨t33, t76⟩, fun _ => hP, fun h => absurd (show 4 = 2 from h) (by decide), fun h => absurd (show 4 = 3 from h) (by decide), fun _ q => by
          obtain ⟨b1, b2⟩ := c3 rfl (by rw [← hEE]; exact q)
          rw [zyρi_n (by decide), zyρi_n (by decide)]
          exact ⟨by show zybn (ρ2 1) 4; rw [hg 1 (by decide)]; exact b1, by show zybn (ρ2 3) 5; rw [hg 3 (by decide)]; exact b2⟩, fun _ q => hz1 (zyρi_e.symm.trans q), fun h => absurd (show 4 = 6 ∨ 4 = 7 from h) (by decide)⟩, ?_⟩
        · rcases hz with rfl | rfl <;> decide
        · rcases hz with rfl | rfl <;> decide
        · show 100000 - 4 < 100000 - 3
          decide
    · have hx : x ∈ [zxral_ex0] := hx
      have hg : ∀ k, k < 4 → ρ2 k = ρ k := hag
      have hI := hInv
      have hI : ((zyEl zymx B H) 74 33 = (zyEl zymx B s.heap) 74 33 ∧ ∀ k, (zyEl zymx B H) 76 k = (zyEl zymx B s.heap) 76 k) ∧ (4 ≤ 5 → zPn (zyEl zymx B H)) ∧ (4 = 2 → zyw0 (zyEl zymx B H) → zybn (ρ 3) 4) ∧ (4 = 3 → zyw0 (zyEl zymx B H) → zybn (ρ 1) 4 ∧ zybn (ρ 3) 5) ∧ (4 = 4 ∨ 4 = 5 → zyw0 (zyEl zymx B H) → zybn (ρ 1) 4 ∧ zybn (ρ 2) 5) ∧ (4 = 4 → ρ 3 = 1 → (zyEl zymx B H) 74 36 = some (.int (Int32.ofNat 0)) ∧ (zyEl zymx B H) 74 40 = some (.int (Int32.ofNat 3))) ∧ (4 = 6 ∨ 4 = 7 → ∃ r c n : Nat, zyPr r c ∧ zyT75 r c (zyEl zymx B H) ∧ zJl (zyEl zymx B H) ∧ zPn (zyEl zymx B H) ∧ n ≤ 901 ∧ (zyEl zymx B H) 74 39 = some (.int (Int32.ofNat n))) := hI
      obtain ⟨hF, hB, hM⟩ := hXs
      have hEE : (zyEl zymx B H2) = (zyEl zymx B H) := zyfr0 hfr
      have ex := List.mem_singleton.mp hx
      subst ex
      obtain ⟨⟨t33, t76⟩, hP, c2, c3, c45, c4, c67⟩ := hI
      rw [← hEE] at t33
      have t76 : ∀ k, (zyEl zymx B H2) 76 k = (zyEl zymx B s.heap) 76 k := fun k => by rw [hEE]; exact t76 k
      have hP := hP (by decide)
      rw [← hEE] at hP
      obtain ⟨w, hw, ew⟩ := zc74 hT2 (k := 36) (lo := 2147483648) (hi := 2147483657) (by decide) rfl (by decide) (by decide)
      have b3 := zyXb hB 0 rfl
      have b3 : 2147483648 ≤ zB (ρ2 3) ∧ zB (ρ2 3) ≤ 2147483649 := b3
      obtain ⟨o1, o2⟩ := zyOn b3.1
      refine zyCa0 hRu hIH hAt hB htk (ix := 462) (ax := 5088) rfl rfl rfl hmetk ⟨rfl, rfl, rfl, rfl⟩ (by decide) [103079215105] rfl (by decide) rfl ⟨5, by decide⟩ [595, 34359738369, 68719476737] rfl rfl rfl rfl ?_ ?_
      · show zyΦtk [ρ2 3] _
        refine ⟨hP, zyN1 (ρ2 3), w, by rw [← o1], by omega, by omega, ew, fun q1 _ q3 => ?_⟩
        have z1 : ρ 3 = 1 := by
          rw [← hg 3 (by decide), o1, q1]
          rfl
        rw [hEE, (c4 rfl z1).2] at q3
        have := zyOi (by omega) (by omega) (Value.int.inj (Option.some.inj q3))
        omega
      · intro E3 vo hT3 hΨ
        obtain ⟨ev, p1, p2, n1, n2, w1, w2, g, q1, -, -, -, -, q6, q7, q8, q9⟩ := (show zyΨtk [ρ2 3] _ E3 vo from hΨ)
        refine ⟨ev, ⟨⟨(p1 74 33 (by omega)).trans t33, fun k => (p1 76 k (by omega)).trans (t76 k)⟩, fun _ => p2, fun h => absurd (show 5 = 2 from h) (by decide), fun h => absurd (show 5 = 3 from h) (by decide), fun _ q => by
          obtain ⟨-, -, ew0⟩ := q9 (zyw0_of q8 q7 q)
          rw [ew0] at q6
          obtain ⟨b1, b2⟩ := c45 (Or.inl rfl) (by rw [← hEE]; exact q6)
          exact ⟨by show zybn (ρ2 1) 4; rw [hg 1 (by decide)]; exact b1, by show zybn (ρ2 2) 5; rw [hg 2 (by decide)]; exact b2⟩, fun h => absurd (show 5 = 4 from h) (by decide), fun h => absurd (show 5 = 6 ∨ 5 = 7 from h) (by decide)⟩, ?_⟩
        show 100000 - 5 < 100000 - 4
        decide
    · have hx : x ∈ [zxral_fx0] := hx
      have hg : ∀ k, k < 3 → ρ2 k = ρ k := hag
      have hI := hInv
      have hI : ((zyEl zymx B H) 74 33 = (zyEl zymx B s.heap) 74 33 ∧ ∀ k, (zyEl zymx B H) 76 k = (zyEl zymx B s.heap) 76 k) ∧ (5 ≤ 5 → zPn (zyEl zymx B H)) ∧ (5 = 2 → zyw0 (zyEl zymx B H) → zybn (ρ 3) 4) ∧ (5 = 3 → zyw0 (zyEl zymx B H) → zybn (ρ 1) 4 ∧ zybn (ρ 3) 5) ∧ (5 = 4 ∨ 5 = 5 → zyw0 (zyEl zymx B H) → zybn (ρ 1) 4 ∧ zybn (ρ 2) 5) ∧ (5 = 4 → ρ 3 = 1 → (zyEl zymx B H) 74 36 = some (.int (Int32.ofNat 0)) ∧ (zyEl zymx B H) 74 40 = some (.int (Int32.ofNat 3))) ∧ (5 = 6 ∨ 5 = 7 → ∃ r c n : Nat, zyPr r c ∧ zyT75 r c (zyEl zymx B H) ∧ zJl (zyEl zymx B H) ∧ zPn (zyEl zymx B H) ∧ n ≤ 901 ∧ (zyEl zymx B H) 74 39 = some (.int (Int32.ofNat n))) := hI
      obtain ⟨hF, hB, hM⟩ := hXs
      have hEE : (zyEl zymx B H2) = (zyEl zymx B H) := zyfr0 hfr
      have ex := List.mem_singleton.mp hx
      subst ex
      obtain ⟨⟨t33, t76⟩, hP, c2, c3, c45, c4, c67⟩ := hI
      rw [← hEE] at t33
      have t76 : ∀ k, (zyEl zymx B H2) 76 k = (zyEl zymx B s.heap) 76 k := fun k => by rw [hEE]; exact t76 k
      have hP := hP (by decide)
      rw [← hEE] at hP
      obtain ⟨na, ua1, ua2, ua3⟩ := zyXe hF 0 rfl
      have ua1 : Int32.ofNat 36 = Int32.ofNat na := ua1
      have ua3 : (zyEl zymx B H) 74 na = some (.int (ρ2 3)) := ua3
      have ea := zyOi (by omega) (by omega) ua1
      subst ea
      have b3 := zyXb hB 0 rfl
      have b3 : 2147483648 ≤ zB (ρ2 3) ∧ zB (ρ2 3) ≤ 2147483648 := b3
      obtain ⟨o1, o2⟩ := zyOn b3.1
      rw [o1, show zyN1 (ρ2 3) = 0 by omega] at ua3
      obtain ⟨⟨b1, b2⟩, b4, b5⟩ := c45 (Or.inr rfl) ua3
      rw [← hg 1 (by decide)] at b1 b2
      rw [← hg 2 (by decide)] at b4 b5
      obtain ⟨o3, o4⟩ := zyOn (show 2147483648 ≤ zB (ρ2 1) by omega)
      obtain ⟨o5, o6⟩ := zyOn (show 2147483648 ≤ zB (ρ2 2) by omega)
      obtain ⟨n, hn, en9⟩ := zc74 hT2 (k := 39) (lo := 2147483648) (hi := 2147484549) (by decide) rfl (by decide) (by decide)
      refine zyCa0 hRu hIH hAt hB hcl (ix := 85) (ax := 3088) rfl rfl rfl hmecl ⟨rfl, rfl, rfl, rfl⟩ (by decide) [34359738369, 68719476737] rfl (by decide) rfl ⟨6, by decide⟩ [595, 0, 0] rfl rfl rfl rfl ?_ ?_
      · show zyΦcl [ρ2 1, ρ2 2] _
        exact ⟨zyN1 (ρ2 1), zyN1 (ρ2 2), ⟨by omega, by omega, by omega, by omega⟩, by rw [← o3, ← o5]⟩
      · intro E3 vo hT3 hΨ
        obtain ⟨ev, p1, R, C, hp, -, p3⟩ := (show zyΨcl [ρ2 1, ρ2 2] _ E3 vo from hΨ)
        obtain ⟨k1, k2⟩ := zcl_T75 hp p3
        refine ⟨ev, ⟨⟨(p1 74 33 (by decide)).trans t33, fun k => (p1 76 k (by decide)).trans (t76 k)⟩, fun h => absurd (show 6 ≤ 5 from h) (by decide), fun h => absurd (show 6 = 2 from h) (by decide), fun h => absurd (show 6 = 3 from h) (by decide), fun h => absurd (show 6 = 4 ∨ 6 = 5 from h) (by decide), fun h => absurd (show 6 = 4 from h) (by decide), fun _ => ⟨R, C, n, hp, k1, k2, zPn_fr (fun k _ _ => p1 74 k (by decide)) hP, by omega, (p1 74 39 (by decide)).trans en9⟩⟩, ?_⟩
        show (if zyI E3 74 36 = Int32.ofNat 0 then 10 * (902 - zyN1 (zyI E3 74 39)) + 5 else 2) < 100000 - 5
        split <;> omega
    · have hx : x ∈ [zxral_gx0] := hx
      have hg : ∀ k, k < 3 → ρ2 k = ρ k := hag
      have hI := hInv
      have hI : ((zyEl zymx B H) 74 33 = (zyEl zymx B s.heap) 74 33 ∧ ∀ k, (zyEl zymx B H) 76 k = (zyEl zymx B s.heap) 76 k) ∧ (6 ≤ 5 → zPn (zyEl zymx B H)) ∧ (6 = 2 → zyw0 (zyEl zymx B H) → zybn (ρ 3) 4) ∧ (6 = 3 → zyw0 (zyEl zymx B H) → zybn (ρ 1) 4 ∧ zybn (ρ 3) 5) ∧ (6 = 4 ∨ 6 = 5 → zyw0 (zyEl zymx B H) → zybn (ρ 1) 4 ∧ zybn (ρ 2) 5) ∧ (6 = 4 → ρ 3 = 1 → (zyEl zymx B H) 74 36 = some (.int (Int32.ofNat 0)) ∧ (zyEl zymx B H) 74 40 = some (.int (Int32.ofNat 3))) ∧ (6 = 6 ∨ 6 = 7 → ∃ r c n : Nat, zyPr r c ∧ zyT75 r c (zyEl zymx B H) ∧ zJl (zyEl zymx B H) ∧ zPn (zyEl zymx B H) ∧ n ≤ 901 ∧ (zyEl zymx B H) 74 39 = some (.int (Int32.ofNat n))) := hI
      obtain ⟨hF, hB, hM⟩ := hXs
      have hEE : (zyEl zymx B H2) = (zyEl zymx B H) := zyfr0 hfr
      have ex := List.mem_singleton.mp hx
      subst ex
      obtain ⟨⟨t33, t76⟩, hP, c2, c3, c45, c4, c67⟩ := hI
      obtain ⟨R, C, n, hp, k1, k2, hPn, hn, e39⟩ := c67 (Or.inl rfl)
      obtain ⟨na, ua1, ua2, ua3⟩ := zyXe hF 0 rfl
      have ua1 : Int32.ofNat 36 = Int32.ofNat na := ua1
      have ua3 : (zyEl zymx B H) 74 na = some (.int (ρ2 3)) := ua3
      have ea := zyOi (by omega) (by omega) ua1
      subst ea
      obtain ⟨nb, ub1, ub2, ub3⟩ := zyXe hF 1 rfl
      have ub1 : Int32.ofNat 40 = Int32.ofNat nb := ub1
      have ub3 : (zyEl zymx B H) 74 nb = some (.int (ρ2 4)) := ub3
      have eb := zyOi (by omega) (by omega) ub1
      subst eb
      have bw := zyXb hB 0 rfl
      have bw : 2147483648 ≤ zB (ρ2 3) ∧ zB (ρ2 3) ≤ 2147483648 := bw
      obtain ⟨o1, o2⟩ := zyOn bw.1
      rw [o1, show zyN1 (ρ2 3) = 0 by omega] at ua3
      have bs := zyXb hB 1 rfl
      have bs : 2147483649 ≤ zB (ρ2 4) ∧ zB (ρ2 4) ≤ 2147483652 := bs
      obtain ⟨o3, o4⟩ := zyOn (show 2147483648 ≤ zB (ρ2 4) by omega)
      rw [o3] at ub3
      refine zyCa0 hRu hIH hAt hB hli (ix := 488) (ax := 5232) rfl rfl rfl hmeli ⟨rfl, rfl, rfl, rfl⟩ (by decide) [] rfl (by decide) rfl ⟨7, by decide⟩ [595, 0, 0] rfl rfl rfl rfl ?_ ?_
      · show zyΦlx _ _
        rw [hEE]
        exact ⟨R, C, hp, k1, k2, hPn, ua3, zyN1 (ρ2 4), by omega, by omega, ub3⟩
      · intro E3 vo hT3 hΨ
        have hΨ : zyΨlx _ _ E3 vo := hΨ
        rw [hEE] at hΨ
        obtain ⟨g1, ev, ⟨g2, g3, g4, g5, -⟩, w, n1, n2, g6, g7, g8, g9, g10, g11⟩ := hΨ R C hp k1
        rw [e39] at g8
        refine ⟨ev, ⟨⟨g4.trans t33, fun k => (g5 k).trans (t76 k)⟩, fun h => absurd (show 7 ≤ 5 from h) (by decide), fun h => absurd (show 7 = 2 from h) (by decide), fun h => absurd (show 7 = 3 from h) (by decide), fun h => absurd (show 7 = 4 ∨ 7 = 5 from h) (by decide), fun h => absurd (show 7 = 4 from h) (by decide), fun _ => ⟨R, C, n2, hp, g1, g2, g3, g10, g9⟩⟩, ?_⟩
        show (if zyI E3 74 36 = Int32.ofNat 0 then 10 * (902 - zyN1 (zyI E3 74 39)) + 7 else 3) < (if zyI (zyEl zymx B H) 74 36 = Int32.ofNat 0 then 10 * (902 - zyN1 (zyI (zyEl zymx B H) 74 39)) + 5 else 2)
        rw [if_pos (zyI_s ua3), zyI_s e39, zyI_s g7, zyI_s g9, zyN1_of (by omega), zyN1_of (by omega)]
        by_cases w0 : w = 0
        · have g11 := g11 w0
          have en := zyOi (by omega) (by omega) (Value.int.inj (Option.some.inj g8))
          rw [w0, if_pos rfl]
          omega
        · rw [if_neg (fun q => w0 (zyOi (by omega) (by omega) q))]
          omega
    · have hx : x ∈ [zxral_hx0] := hx
      have hg : ∀ k, k < 3 → ρ2 k = ρ k := hag
      have hI := hInv
      have hI : ((zyEl zymx B H) 74 33 = (zyEl zymx B s.heap) 74 33 ∧ ∀ k, (zyEl zymx B H) 76 k = (zyEl zymx B s.heap) 76 k) ∧ (7 ≤ 5 → zPn (zyEl zymx B H)) ∧ (7 = 2 → zyw0 (zyEl zymx B H) → zybn (ρ 3) 4) ∧ (7 = 3 → zyw0 (zyEl zymx B H) → zybn (ρ 1) 4 ∧ zybn (ρ 3) 5) ∧ (7 = 4 ∨ 7 = 5 → zyw0 (zyEl zymx B H) → zybn (ρ 1) 4 ∧ zybn (ρ 2) 5) ∧ (7 = 4 → ρ 3 = 1 → (zyEl zymx B H) 74 36 = some (.int (Int32.ofNat 0)) ∧ (zyEl zymx B H) 74 40 = some (.int (Int32.ofNat 3))) ∧ (7 = 6 ∨ 7 = 7 → ∃ r c n : Nat, zyPr r c ∧ zyT75 r c (zyEl zymx B H) ∧ zJl (zyEl zymx B H) ∧ zPn (zyEl zymx B H) ∧ n ≤ 901 ∧ (zyEl zymx B H) 74 39 = some (.int (Int32.ofNat n))) := hI
      obtain ⟨hF, hB, hM⟩ := hXs
      have hEE : (zyEl zymx B H2) = (zyEl zymx B H) := zyfr0 hfr
      have ex := List.mem_singleton.mp hx
      subst ex
      obtain ⟨⟨t33, t76⟩, hP, c2, c3, c45, c4, c67⟩ := hI
      have c67 := c67 (Or.inr rfl)
      rw [← hEE] at t33 c67
      have t76 : ∀ k, (zyEl zymx B H2) 76 k = (zyEl zymx B s.heap) 76 k := fun k => by rw [hEE]; exact t76 k
      refine zyGoB hIH hAt hB ⟨6, by decide⟩ [595, 0, 0] rfl rfl rfl rfl ⟨⟨t33, t76⟩, fun h => absurd (show 6 ≤ 5 from h) (by decide), fun h => absurd (show 6 = 2 from h) (by decide), fun h => absurd (show 6 = 3 from h) (by decide), fun h => absurd (show 6 = 4 ∨ 6 = 5 from h) (by decide), fun h => absurd (show 6 = 4 from h) (by decide), fun _ => c67⟩ ?_
      show (if zyI (zyEl zymx B H2) 74 36 = Int32.ofNat 0 then 10 * (902 - zyN1 (zyI (zyEl zymx B H2) 74 39)) + 5 else 2) < (if zyI (zyEl zymx B H) 74 36 = Int32.ofNat 0 then 10 * (902 - zyN1 (zyI (zyEl zymx B H) 74 39)) + 7 else 3)
      rw [hEE]
      split <;> omega
  · intro as E0 E E2 hT0 hΦ hlen i ρ hT hInv x hx ρ2 N2 B vo hXs hag hfr hT2 hvo
    rcases i with ⟨i, hi⟩
    have hi2 : i = 0 ∨ i = 1 ∨ i = 2 ∨ i = 3 ∨ i = 4 ∨ i = 5 ∨ i = 6 ∨ i = 7 := by omega
    rcases hi2 with rfl | rfl | rfl | rfl | rfl | rfl | rfl | rfl
    · cases hx
    · cases hx
    · cases hx
    · cases hx
    · cases hx
    · have hx : x ∈ [zxral_fr0] := hx
      have hg : ∀ k, k < 3 → ρ2 k = ρ k := hag
      have hI := hInv
      have hI : (E 74 33 = E0 74 33 ∧ ∀ k, E 76 k = E0 76 k) ∧ (5 ≤ 5 → zPn E) ∧ (5 = 2 → zyw0 E → zybn (ρ 3) 4) ∧ (5 = 3 → zyw0 E → zybn (ρ 1) 4 ∧ zybn (ρ 3) 5) ∧ (5 = 4 ∨ 5 = 5 → zyw0 E → zybn (ρ 1) 4 ∧ zybn (ρ 2) 5) ∧ (5 = 4 → ρ 3 = 1 → E 74 36 = some (.int (Int32.ofNat 0)) ∧ E 74 40 = some (.int (Int32.ofNat 3))) ∧ (5 = 6 ∨ 5 = 7 → ∃ r c n : Nat, zyPr r c ∧ zyT75 r c E ∧ zJl E ∧ zPn E ∧ n ≤ 901 ∧ E 74 39 = some (.int (Int32.ofNat n))) := hI
      obtain ⟨hF, hB, hM⟩ := hXs
      have hEE : E2 = E := zyfr0 hfr
      have ex := List.mem_singleton.mp hx
      subst ex
      obtain ⟨⟨t33, t76⟩, hP, c2, c3, c45, c4, c67⟩ := hI
      obtain ⟨na, ua1, ua2, ua3⟩ := zyXe hF 0 rfl
      have ua1 : Int32.ofNat 36 = Int32.ofNat na := ua1
      have ua3 : E 74 na = some (.int (ρ2 3)) := ua3
      have ea := zyOi (by omega) (by omega) ua1
      subst ea
      have b3 := zyXb hB 0 rfl
      have b3 : 2147483649 ≤ zB (ρ2 3) ∧ zB (ρ2 3) ≤ 2147483657 := b3
      obtain ⟨o1, o2⟩ := zyOn (show 2147483648 ≤ zB (ρ2 3) by omega)
      rw [o1, ← hEE] at ua3
      exact ⟨zyvo_0 (show zyvo _ [] vo from hvo), by rw [hEE]; exact t33, fun k => by rw [hEE]; exact t76 k, zyN1 (ρ2 3), by omega, ua3, fun q => absurd q (by omega)⟩
    · have hx : x ∈ [zxral_gr0] := hx
      have hg : ∀ k, k < 3 → ρ2 k = ρ k := hag
      have hI := hInv
      have hI : (E 74 33 = E0 74 33 ∧ ∀ k, E 76 k = E0 76 k) ∧ (6 ≤ 5 → zPn E) ∧ (6 = 2 → zyw0 E → zybn (ρ 3) 4) ∧ (6 = 3 → zyw0 E → zybn (ρ 1) 4 ∧ zybn (ρ 3) 5) ∧ (6 = 4 ∨ 6 = 5 → zyw0 E → zybn (ρ 1) 4 ∧ zybn (ρ 2) 5) ∧ (6 = 4 → ρ 3 = 1 → E 74 36 = some (.int (Int32.ofNat 0)) ∧ E 74 40 = some (.int (Int32.ofNat 3))) ∧ (6 = 6 ∨ 6 = 7 → ∃ r c n : Nat, zyPr r c ∧ zyT75 r c E ∧ zJl E ∧ zPn E ∧ n ≤ 901 ∧ E 74 39 = some (.int (Int32.ofNat n))) := hI
      obtain ⟨hF, hB, hM⟩ := hXs
      have hEE : E2 = E := zyfr0 hfr
      have ex := List.mem_singleton.mp hx
      subst ex
      obtain ⟨⟨t33, t76⟩, hP, c2, c3, c45, c4, c67⟩ := hI
      obtain ⟨R, C, n, hp, k1, k2, -⟩ := c67 (Or.inl rfl)
      rw [← hEE] at k1 k2
      obtain ⟨w, hw, ew⟩ := zc74 hT2 (k := 36) (lo := 2147483648) (hi := 2147483657) (by decide) rfl (by decide) (by decide)
      exact ⟨zyvo_0 (show zyvo _ [] vo from hvo), by rw [hEE]; exact t33, fun k => by rw [hEE]; exact t76 k, w, by omega, ew, fun _ => ⟨R, C, hp, k1, k2⟩⟩
    · cases hx
end
