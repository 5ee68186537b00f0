/-! isSign, takes, takesNumber -/
def zPn (E : zyEm) : Prop := ∀ u : Nat, u ≤ 4 → E 74 40 = some (.int (Int32.ofNat u)) → u = 0 ∨ ((∃ n : Nat, n ≤ 900 ∧ E 74 39 = some (.int (Int32.ofNat n))) ∧ ∃ p : Nat, p ≤ 899 ∧ E 74 38 = some (.int (Int32.ofNat p)))
theorem zPn_fr {E E2 : zyEm} (h : ∀ k, 38 ≤ k → k ≤ 40 → E2 74 k = E 74 k) (hP : zPn E) : zPn E2 := by
  intro u hu e
  rw [h 40 (by omega) (by omega)] at e
  rcases hP u hu e with q | ⟨⟨n, q1, q2⟩, p, q3, q4⟩
  · exact Or.inl q
  · exact Or.inr ⟨⟨n, q1, (h 39 (by omega) (by omega)).trans q2⟩, p, q3, (h 38 (by omega) (by omega)).trans q4⟩
theorem zPn_rd {E E2 : zyEm} {vo : Option Value} {as : List Int32} (h : zyΨrd as E E2 vo) : zPn E2 := by
  obtain ⟨-, -, q, n, u, h1, h2, h3, h4, h5, h6, h7, h8⟩ := h
  intro u' hu' e
  rw [h7] at e
  have e := zyOi (by omega) (by omega) (Value.int.inj (Option.some.inj e))
  subst e
  rcases h8 with q | ⟨q1, p, q2, q3⟩
  · exact Or.inl q
  · exact Or.inr ⟨⟨n, q1, h5⟩, p, q2, q3⟩
def zyΦsg (as : List Int32) (E : zyEm) : Prop := zPn E ∧ ∃ x : Int32, as = [x]
def zyΨsg (_ : List Int32) (E E2 : zyEm) (vo : Option Value) : Prop := E2 = E ∧ ∃ z : Int32, vo = some (.int z) ∧ (z = 0 ∨ z = 1) ∧ (z = 1 → E 74 36 = some (.int (Int32.ofNat 0)) ∧ E 74 40 = some (.int (Int32.ofNat 3)))
theorem zyisg_run : zyrS zymx zxi317 (317, 0, 0, 2, 0) 2 zpisg (fun _ _ => []) zFisg zSisg zXisg zRisg 2 = true := by decide +kernel
theorem zyisSign {l : Launch} {en : zEn} {me : zMe} (hen : zG zxMeta 317 = some en) (hme : zG zMeth 317 = some me) : zyHc l zymx en me 2 1 zyΦsg zyΨsg := by
  have een : zG zxMeta 317 = some (zxi317, 2, 2, 11, 317, 0, 0, 2, 0) := rfl
  obtain ⟨me1, hme1, hOK⟩ := zall hen
  rw [hme] at hme1
  cases hme1
  rw [een] at hen
  cases hen
  have hr := zyisg_run
  refine zycutS (mi := zymx) hOK rfl rfl ⟨_, rfl, rfl⟩ (ι := Fin 2) (fun i => zpisg i.val) (fun _ _ => []) (fun i => zFisg i.val) (fun i => zSisg i.val) (fun i => zXisg i.val) (fun i => zRisg i.val) (fun i y2 ct en2 me2 h => by cases h) 200000 (fun i => zyAll_iff hr i.val i.isLt) ⟨0, by decide⟩ ⟨rfl, rfl, rfl, rfl⟩ ⟨by decide, by decide⟩
    (fun i as E0 ρ E => zPn E0 ∧ E = E0 ∧ (i.val = 1 → E0 74 36 = some (.int (Int32.ofNat 0)) ∧ E0 74 40 = some (.int (Int32.ofNat 3)) ∧ ∃ p : Nat, p ≤ 899 ∧ ρ 2 = Int32.ofNat p)) (fun i as E0 ρ E => 1 - i.val) ?_ ?_ ?_
  · intro as E hlen hT hΦ
    obtain ⟨hP, x, rfl⟩ := hΦ
    exact ⟨zEnv_c (zyfull _) (zEnv_c (zyfull _) zEnv_nil), hP, rfl, fun h => absurd (show 0 = 1 from h) (by decide)⟩
  · intro as B s Wg hRu hT0 hΦ hlen i ρ H hT hInv hIH x hx ρ2 N2 H2 locs lsB stA hAt hXs hag hfr hT2
    rcases i with ⟨i, hi⟩
    have hi2 : i = 0 ∨ i = 1 := by omega
    rcases hi2 with rfl | rfl
    · have hx : x ∈ [zxisg_ax0] := hx
      have hg : ∀ k, k < 2 → ρ2 k = ρ k := hag
      have hI := hInv
      have hI : zPn (zyEl zymx B s.heap) ∧ (zyEl zymx B H) = (zyEl zymx B s.heap) ∧ (0 = 1 → (zyEl zymx B s.heap) 74 36 = some (.int (Int32.ofNat 0)) ∧ (zyEl zymx B s.heap) 74 40 = some (.int (Int32.ofNat 3)) ∧ ∃ p : Nat, p ≤ 899 ∧ ρ 2 = Int32.ofNat p) := hI
      obtain ⟨hF, hB, hM⟩ := hXs
      have hEE : (zyEl zymx B H2) = (zyEl zymx B H) := zyfr0 hfr
      have ex := List.mem_singleton.mp hx
      subst ex
      obtain ⟨hP, i1, -⟩ := hI
      obtain ⟨na, ua1, ua2, ua3⟩ := zyXe hF 0 rfl
      have ua1 : Int32.ofNat 36 = Int32.ofNat na := ua1
      have ua3 : (zyEl zymx B H) 74 na = some (.int (ρ2 2)) := ua3
      have ea := zyOi (by omega) (by omega) ua1
      subst ea
      obtain ⟨nb, ub1, ub2, ub3⟩ := zyXe hF 2 rfl
      have ub1 : Int32.ofNat 40 = Int32.ofNat nb := ub1
      have ub3 : (zyEl zymx B H) 74 nb = some (.int (ρ2 3)) := ub3
      have eb := zyOi (by omega) (by omega) ub1
      subst eb
      have f1 := zyX22 hF 1 rfl
      have f1 : ρ2 2 = Int32.ofNat 0 := f1
      have f3 := zyX22 hF 3 rfl
      have f3 : ρ2 3 = Int32.ofNat 3 := f3
      rw [f1, i1] at ua3
      rw [f3, i1] at ub3
      rcases hP 3 (by decide) ub3 with q | ⟨-, p, hp, ep⟩
      · cases q
      refine zyGoKi hIH hAt hB ⟨1, by decide⟩ [595, 34359738369] [(0, 4294967295), (0, 4294967295)] 2147483648 2147484547 rfl (by decide) rfl rfl rfl (74 * 16384 + 38) zymr74 rfl rfl (show 38 < 49 by decide) (Int32.ofNat p) ?_ ?_ ⟨hP, hEE.trans i1, fun _ => ⟨ua3, ub3, p, hp, zyρi_e⟩⟩ (show 1 - 1 < 1 - 0 by decide)
      · show zyEl zymx B H2 74 38 = _
        rw [hEE, i1]
        exact ep
      · rw [zyBn (by omega)]
        omega
    · cases hx
  · intro as E0 E E2 hT0 hΦ hlen i ρ hT hInv x hx ρ2 N2 B vo hXs hag hfr hT2 hvo
    rcases i with ⟨i, hi⟩
    have hi2 : i = 0 ∨ i = 1 := by omega
    rcases hi2 with rfl | rfl
    · have hx : x ∈ [zxisg_ar0] := hx
      have hg : ∀ k, k < 2 → ρ2 k = ρ k := hag
      have hI := hInv
      have hI : zPn E0 ∧ E = E0 ∧ (0 = 1 → E0 74 36 = some (.int (Int32.ofNat 0)) ∧ E0 74 40 = some (.int (Int32.ofNat 3)) ∧ ∃ p : Nat, p ≤ 899 ∧ ρ 2 = Int32.ofNat p) := hI
      obtain ⟨hF, hB, hM⟩ := hXs
      have hEE : E2 = E := zyfr0 hfr
      have ex := List.mem_singleton.mp hx
      subst ex
      obtain ⟨hP, i1, -⟩ := hI
      exact ⟨hEE.trans i1, Int32.ofNat 0, zyvo_1 (c := 0) (by decide) (show zyvo (zyXn B ρ2 N2) [0] vo from hvo), Or.inl rfl, fun h => absurd (show Int32.ofNat 0 = 1 from h) (by decide)⟩
    · have hx : x ∈ [zxisg_br0, zxisg_br1] := hx
      have hg : ∀ k, k < 3 → ρ2 k = ρ k := hag
      have hI := hInv
      have hI : zPn E0 ∧ E = E0 ∧ (1 = 1 → E0 74 36 = some (.int (Int32.ofNat 0)) ∧ E0 74 40 = some (.int (Int32.ofNat 3)) ∧ ∃ p : Nat, p ≤ 899 ∧ ρ 2 = Int32.ofNat p) := hI
      obtain ⟨hF, hB, hM⟩ := hXs
      have hEE : E2 = E := zyfr0 hfr
      rcases List.mem_cons.mp hx with ex | hx
      · subst ex
        obtain ⟨hP, i1, i2⟩ := hI
        exact ⟨hEE.trans i1, Int32.ofNat 0, zyvo_1 (c := 0) (by decide) (show zyvo (zyXn B ρ2 N2) [0] vo from hvo), Or.inl rfl, fun h => absurd (show Int32.ofNat 0 = 1 from h) (by decide)⟩
      · skip
        have ex := List.mem_singleton.mp hx
        subst ex
        obtain ⟨hP, i1, i2⟩ := hI
        obtain ⟨a1, a2, -⟩ := i2 rfl
        exact ⟨hEE.trans i1, Int32.ofNat 1, zyvo_1 (c := 8) (by decide) (show zyvo (zyXn B ρ2 N2) [8] vo from hvo), Or.inr rfl, fun _ => ⟨a1, a2⟩⟩
def zyFtk (E E2 : zyEm) : Prop := ∀ a k, ¬ (a = 74 ∧ ((36 ≤ k ∧ k ≤ 41) ∨ k = 43)) → E2 a k = E a k
def zyΦtk (as : List Int32) (E : zyEm) : Prop := zPn E ∧ ∃ g w : Nat, as = [Int32.ofNat g] ∧ g ≤ 1 ∧ w ≤ 9 ∧ E 74 36 = some (.int (Int32.ofNat w)) ∧ (g = 1 → w = 0 → ¬ E 74 40 = some (.int (Int32.ofNat 0)))
def zyΨtk (as : List Int32) (E E2 : zyEm) (vo : Option Value) : Prop := vo = none ∧ zyFtk E E2 ∧ zPn E2 ∧ ∃ n n' w w' g : Nat, as = [Int32.ofNat g] ∧ E 74 39 = some (.int (Int32.ofNat n)) ∧ E2 74 39 = some (.int (Int32.ofNat n')) ∧ n ≤ n' ∧ n' ≤ 901 ∧ E 74 36 = some (.int (Int32.ofNat w)) ∧ E2 74 36 = some (.int (Int32.ofNat w')) ∧ w' ≤ 9 ∧ (w' = 0 → n < n' ∧ g = 1 ∧ w = 0)
theorem zyFtk_rd {E E1 E2 : zyEm} (h1 : zyFtk E E1) (h2 : zyFrd E1 E2) : zyFtk E E2 := fun a k n => (h2 a k (fun z => n ⟨z.1, by omega⟩)).trans (h1 a k n)
theorem zytks_run : zyrS zymx zxi318 (318, 0, 0, 0, 0) 4 zptks (fun _ _ => []) zFtks zStks zXtks zRtks 3 = true := by decide +kernel
theorem zytakes {l : Launch} {en : zEn} {me : zMe} (hen : zG zxMeta 318 = some en) (hme : zG zMeth 318 = some me) : zyHc l zymx en me 4 1 zyΦtk zyΨtk := by
  have een : zG zxMeta 318 = some (zxi318, 2, 2, 11, 318, 0, 0, 0, 0) := rfl
  obtain ⟨me1, hme1, hOK⟩ := zall hen
  rw [hme] at hme1
  cases hme1
  rw [een] at hen
  cases hen
  have hr := zytks_run
  obtain ⟨merd, hmerd, -⟩ := zall (show zG zxMeta 314 = some (zxi314, 1, 1, 11, 314, 0, 0, 0, 0) from rfl)
  have hrd := zyreads (l := l) (show zG zxMeta 314 = some (zxi314, 1, 1, 11, 314, 0, 0, 0, 0) from rfl) hmerd
  refine zycutS (mi := zymx) hOK rfl rfl ⟨_, rfl, rfl⟩ (ι := Fin 3) (fun i => zptks i.val) (fun _ _ => []) (fun i => zFtks i.val) (fun i => zStks i.val) (fun i => zXtks i.val) (fun i => zRtks i.val) (fun i y2 ct en2 me2 h => by cases h) 200000 (fun i => zyAll_iff hr i.val i.isLt) ⟨0, by decide⟩ ⟨rfl, rfl, rfl, rfl⟩ ⟨by decide, by decide⟩
    (fun i as E0 ρ E => ∃ g w n : Nat, as = [Int32.ofNat g] ∧ g ≤ 1 ∧ w ≤ 9 ∧ E0 74 36 = some (.int (Int32.ofNat w)) ∧ E0 74 39 = some (.int (Int32.ofNat n)) ∧ n ≤ 901 ∧ zPn E0 ∧ (g = 1 → w = 0 → ¬ E0 74 40 = some (.int (Int32.ofNat 0))) ∧ (i.val ≤ 1 → E = E0) ∧ (i.val ≤ 1 → ρ 1 = Int32.ofNat g) ∧ (i.val = 1 → ρ 2 = Int32.ofNat w) ∧ (i.val = 2 → zyFtk E0 E ∧ zPn E ∧ g = 1 ∧ w = 0 ∧ E 74 36 = some (.int (Int32.ofNat 0)) ∧ ∃ n' : Nat, n < n' ∧ n' ≤ 901 ∧ E 74 39 = some (.int (Int32.ofNat n')))) (fun i as E0 ρ E => 2 - i.val) ?_ ?_ ?_
  · intro as E hlen hT hΦ
    obtain ⟨hP, g, w, rfl, hg1, hw, s1, hq⟩ := hΦ
    obtain ⟨n, hn, s2⟩ := zc74 hT (k := 39) (lo := 2147483648) (hi := 2147484549) (by decide) rfl (by decide) (by decide)
    exact ⟨zEnv_c (zyfull _) (zEnv_c ⟨show 2147483648 ≤ zB (Int32.ofNat g) by rw [zyBn (by omega)]; omega, show zB (Int32.ofNat g) ≤ 2147483649 by rw [zyBn (by omega)]; omega⟩ zEnv_nil), g, w, n, rfl, hg1, hw, s1, s2, by omega, hP, hq, fun _ => rfl, fun _ => rfl, fun h => absurd (show 0 = 1 from h) (by decide), fun h => absurd (show 0 = 2 from h) (by decide)⟩
  · intro as B s Wg hRu hT0 hΦ hlen i ρ H hT hInv hIH x hx ρ2 N2 H2 locs lsB stA hAt hXs hag hfr hT2
    rcases i with ⟨i, hi⟩
    have hi2 : i = 0 ∨ i = 1 ∨ i = 2 := by omega
    rcases hi2 with rfl | rfl | rfl
    · have hx : x ∈ [zxtks_zx0] := hx
      have hg : ∀ k, k < 2 → ρ2 k = ρ k := hag
      have hI := hInv
      have hI : ∃ g w n : Nat, as = [Int32.ofNat g] ∧ g ≤ 1 ∧ w ≤ 9 ∧ (zyEl zymx B s.heap) 74 36 = some (.int (Int32.ofNat w)) ∧ (zyEl zymx B s.heap) 74 39 = some (.int (Int32.ofNat n)) ∧ n ≤ 901 ∧ zPn (zyEl zymx B s.heap) ∧ (g = 1 → w = 0 → ¬ (zyEl zymx B s.heap) 74 40 = some (.int (Int32.ofNat 0))) ∧ (0 ≤ 1 → (zyEl zymx B H) = (zyEl zymx B s.heap)) ∧ (0 ≤ 1 → ρ 1 = Int32.ofNat g) ∧ (0 = 1 → ρ 2 = Int32.ofNat w) ∧ (0 = 2 → zyFtk (zyEl zymx B s.heap) (zyEl zymx B H) ∧ zPn (zyEl zymx B H) ∧ g = 1 ∧ w = 0 ∧ (zyEl zymx B H) 74 36 = some (.int (Int32.ofNat 0)) ∧ ∃ n' : Nat, n < n' ∧ n' ≤ 901 ∧ (zyEl zymx B H) 74 39 = some (.int (Int32.ofNat n'))) := hI
      obtain ⟨hF, hB, hM⟩ := hXs
      have hEE : (zyEl zymx B H2) = (zyEl zymx B H) := zyfr0 hfr
      have ex := List.mem_singleton.mp hx
      subst ex
      obtain ⟨g, w, n, has, hg1, hw, s1, s2, hn, hP, hq, i1, ir, i2, i3⟩ := hI
      have ea := i1 (by decide)
      refine zyGoKi hIH hAt hB ⟨1, by decide⟩ [595, 34359738369] [(0, 4294967295), (2147483648, 2147483649)] 2147483648 2147483657 rfl (by decide) rfl rfl rfl (74 * 16384 + 36) zymr74 rfl rfl (show 36 < 49 by decide) (Int32.ofNat w) ?_ ?_ ⟨g, w, n, has, hg1, hw, s1, s2, hn, hP, hq, fun _ => hEE.trans ea, fun _ => (zyρi_n (by decide)).trans ((hg 1 (by decide)).trans (ir (by decide))), fun _ => zyρi_e, fun h => absurd (show 1 = 2 from h) (by decide)⟩ (show 2 - 1 < 2 - 0 by decide)
      · show zyEl zymx B H2 74 36 = _
        rw [hEE, ea]
        exact s1
      · rw [zyBn (by omega)]
        omega
    · have hx : x ∈ [zxtks_ax0] := hx
      have hg : ∀ k, k < 3 → ρ2 k = ρ k := hag
      have hI := hInv
      have hI : ∃ g w n : Nat, as = [Int32.ofNat g] ∧ g ≤ 1 ∧ w ≤ 9 ∧ (zyEl zymx B s.heap) 74 36 = some (.int (Int32.ofNat w)) ∧ (zyEl zymx B s.heap) 74 39 = some (.int (Int32.ofNat n)) ∧ n ≤ 901 ∧ zPn (zyEl zymx B s.heap) ∧ (g = 1 → w = 0 → ¬ (zyEl zymx B s.heap) 74 40 = some (.int (Int32.ofNat 0))) ∧ (1 ≤ 1 → (zyEl zymx B H) = (zyEl zymx B s.heap)) ∧ (1 ≤ 1 → ρ 1 = Int32.ofNat g) ∧ (1 = 1 → ρ 2 = Int32.ofNat w) ∧ (1 = 2 → zyFtk (zyEl zymx B s.heap) (zyEl zymx B H) ∧ zPn (zyEl zymx B H) ∧ g = 1 ∧ w = 0 ∧ (zyEl zymx B H) 74 36 = some (.int (Int32.ofNat 0)) ∧ ∃ n' : Nat, n < n' ∧ n' ≤ 901 ∧ (zyEl zymx B H) 74 39 = some (.int (Int32.ofNat n'))) := hI
      obtain ⟨hF, hB, hM⟩ := hXs
      have hfr : ∀ a k, zyin [(74, 36, 37)] a k = false → (zyEl zymx B H2) a k = (zyEl zymx B H) a k := hfr
      have ex := List.mem_singleton.mp hx
      subst ex
      obtain ⟨g, w, n, has, hg1, hw, s1, s2, hn, hP, hq, i1, ir, i2, i3⟩ := hI
      have ea := i1 (by decide)
      have a1 : ρ2 1 = Int32.ofNat g := (hg 1 (by decide)).trans (ir (by decide))
      have a2 : ρ2 2 = Int32.ofNat w := (hg 2 (by decide)).trans (i2 rfl)
      have hk : ∀ a k, ¬ (a = 74 ∧ 36 ≤ k ∧ k ≤ 37) → (zyEl zymx B H2) a k = (zyEl zymx B H) a k := by
        intro a k n0
        apply hfr
        cases hq : zyin [(74, 36, 37)] a k with
        | false => rfl
        | true =>
          obtain ⟨p0, g1, g2, g3, g4⟩ := zyin_iff.mp hq
          simp only [List.mem_cons, List.not_mem_nil, or_false] at g1
          rcases g1 with rfl
          · exact absurd ⟨g2.symm, g3, g4⟩ n0
      have f0 := zyX23 hF 0 rfl
      have f0 : ¬ ρ2 1 = Int32.ofNat 0 := f0
      have gg : g = 1 := by
        have : ¬ g = 0 := fun q => f0 (by rw [a1, q])
        omega
      have b2 := zyXb hB 1 rfl
      have b2 : 2147483648 ≤ zB (ρ2 2) ∧ zB (ρ2 2) ≤ 2147483648 := b2
      rw [a2, zyBn (by omega)] at b2
      have w0 : w = 0 := by omega
      have m := zyXm hM 0 rfl
      have m : zyEl zymx B H2 74 36 = some (.int (ρ2 2)) := m
      rw [a2, w0] at m
      have kP : zPn (zyEl zymx B H2) := zPn_fr (fun k k1 k2 => (hk 74 k (by omega)).trans (by rw [ea])) hP
      obtain ⟨u, hu, eu⟩ := zc74 hT2 (k := 40) (lo := 2147483648) (hi := 2147483652) (by decide) rfl (by decide) (by decide)
      have un : ¬ u = 0 := fun q => hq gg w0 (by rw [← ea, ← hk 74 40 (by omega), eu, q])
      rcases kP u (by omega) eu with q | ⟨⟨n9, hn9, en9⟩, -⟩
      · exact absurd q un
      have e39 : zyEl zymx B H2 74 39 = some (.int (Int32.ofNat n)) := (hk 74 39 (by omega)).trans (by rw [ea]; exact s2)
      rw [e39] at en9
      have enn := zyOi (by omega) (by omega) (Value.int.inj (Option.some.inj en9))
      refine zyCa0 hRu hIH hAt hB hrd (ix := 450) (ax := 5024) rfl rfl rfl hmerd ⟨rfl, rfl, rfl, rfl⟩ (by decide) [] rfl (by decide) rfl ⟨2, by decide⟩ [595, 0] rfl rfl rfl rfl ?_ ?_
      · show zyΦrd [] _
        exact ⟨n, by omega, e39⟩
      · intro E3 vo hT3 hΨ
        have hΨ : zyΨrd [] _ E3 vo := hΨ
        have hPn := zPn_rd hΨ
        obtain ⟨ev, p1, q0, n2, u2, p2, p3, p4, p5, p6, -⟩ := hΨ
        rw [e39] at p3
        have eq0 := zyOi (by omega) (by omega) (Value.int.inj (Option.some.inj p3))
        exact ⟨ev, ⟨g, w, n, has, hg1, hw, s1, s2, hn, hP, hq, fun h => absurd (show 2 ≤ 1 from h) (by decide), fun h => absurd (show 2 ≤ 1 from h) (by decide), fun h => absurd (show 2 = 1 from h) (by decide), fun _ => ⟨fun a k nn => (p1 a k (fun z => nn ⟨z.1, by omega⟩)).trans ((hk a k (fun z => nn ⟨z.1, by omega⟩)).trans (by rw [ea])), hPn, gg, w0, (p1 74 36 (by omega)).trans m, n2, by omega, p5, p6⟩⟩, (show 2 - 2 < 2 - 1 by decide)⟩
    · cases hx
  · intro as E0 E E2 hT0 hΦ hlen i ρ hT hInv x hx ρ2 N2 B vo hXs hag hfr hT2 hvo
    rcases i with ⟨i, hi⟩
    have hi2 : i = 0 ∨ i = 1 ∨ i = 2 := by omega
    rcases hi2 with rfl | rfl | rfl
    · cases hx
    · have hx : x ∈ [zxtks_ar0, zxtks_ar1, zxtks_ar2] := hx
      have hg : ∀ k, k < 3 → ρ2 k = ρ k := hag
      have hI := hInv
      have hI : ∃ g w n : Nat, as = [Int32.ofNat g] ∧ g ≤ 1 ∧ w ≤ 9 ∧ E0 74 36 = some (.int (Int32.ofNat w)) ∧ E0 74 39 = some (.int (Int32.ofNat n)) ∧ n ≤ 901 ∧ zPn E0 ∧ (g = 1 → w = 0 → ¬ E0 74 40 = some (.int (Int32.ofNat 0))) ∧ (1 ≤ 1 → E = E0) ∧ (1 ≤ 1 → ρ 1 = Int32.ofNat g) ∧ (1 = 1 → ρ 2 = Int32.ofNat w) ∧ (1 = 2 → zyFtk E0 E ∧ zPn E ∧ g = 1 ∧ w = 0 ∧ E 74 36 = some (.int (Int32.ofNat 0)) ∧ ∃ n' : Nat, n < n' ∧ n' ≤ 901 ∧ E 74 39 = some (.int (Int32.ofNat n'))) := hI
      obtain ⟨hF, hB, hM⟩ := hXs
      have hfr : ∀ a k, zyin [(74, 36, 37)] a k = false → E2 a k = E a k := hfr
      rcases List.mem_cons.mp hx with ex | hx
      · subst ex
        obtain ⟨g, w, n, has, hg1, hw, s1, s2, hn, hP, hq, i1, ir, i2, i3⟩ := hI
        have ea := i1 (by decide)
        have a1 : ρ2 1 = Int32.ofNat g := (hg 1 (by decide)).trans (ir (by decide))
        have a2 : ρ2 2 = Int32.ofNat w := (hg 2 (by decide)).trans (i2 rfl)
        have hk : ∀ a k, ¬ (a = 74 ∧ 36 ≤ k ∧ k ≤ 37) → E2 a k = E a k := by
          intro a k n0
          apply hfr
          cases hq : zyin [(74, 36, 37)] a k with
          | false => rfl
          | true =>
            obtain ⟨p0, g1, g2, g3, g4⟩ := zyin_iff.mp hq
            simp only [List.mem_cons, List.not_mem_nil, or_false] at g1
            rcases g1 with rfl
            · exact absurd ⟨g2.symm, g3, g4⟩ n0
        have kP : zPn E2 := zPn_fr (fun k k1 k2 => (hk 74 k (by omega)).trans (by rw [ea])) hP
        have e39 : E2 74 39 = some (.int (Int32.ofNat n)) := (hk 74 39 (by omega)).trans (by rw [ea]; exact s2)
        have m := zyXm hM 0 rfl
        have m : E2 74 36 = some (.int (ρ2 2)) := m
        have b2 := zyXb hB 0 rfl
        have b2 : 2147483649 ≤ zB (ρ2 2) ∧ zB (ρ2 2) ≤ 2147483657 := b2
        rw [a2, zyBn (by omega)] at b2
        rw [a2] at m
        exact ⟨zyvo_0 (show zyvo _ [] vo from hvo), fun a k nn => (hk a k (fun z => nn ⟨z.1, by omega⟩)).trans (by rw [ea]), kP, n, n, w, w, g, has, s2, e39, Nat.le_refl _, hn, s1, m, by omega, fun h => absurd h (by omega)⟩
      · skip
        rcases List.mem_cons.mp hx with ex | hx
        · subst ex
          obtain ⟨g, w, n, has, hg1, hw, s1, s2, hn, hP, hq, i1, ir, i2, i3⟩ := hI
          have ea := i1 (by decide)
          have a1 : ρ2 1 = Int32.ofNat g := (hg 1 (by decide)).trans (ir (by decide))
          have a2 : ρ2 2 = Int32.ofNat w := (hg 2 (by decide)).trans (i2 rfl)
          have hk : ∀ a k, ¬ (a = 74 ∧ 36 ≤ k ∧ k ≤ 37) → E2 a k = E a k := by
            intro a k n0
            apply hfr
            cases hq : zyin [(74, 36, 37)] a k with
            | false => rfl
            | true =>
              obtain ⟨p0, g1, g2, g3, g4⟩ := zyin_iff.mp hq
              simp only [List.mem_cons, List.not_mem_nil, or_false] at g1
              rcases g1 with rfl
              · exact absurd ⟨g2.symm, g3, g4⟩ n0
          have kP : zPn E2 := zPn_fr (fun k k1 k2 => (hk 74 k (by omega)).trans (by rw [ea])) hP
          have e39 : E2 74 39 = some (.int (Int32.ofNat n)) := (hk 74 39 (by omega)).trans (by rw [ea]; exact s2)
          have m := zyXm hM 0 rfl
          have m : E2 74 36 = some (.int (Int32.ofNat 2)) := m
          exact ⟨zyvo_0 (show zyvo _ [] vo from hvo), fun a k nn => (hk a k (fun z => nn ⟨z.1, by omega⟩)).trans (by rw [ea]), kP, n, n, w, 2, g, has, s2, e39, Nat.le_refl _, hn, s1, m, by omega, fun h => absurd h (by omega)⟩
        · skip
          have ex := List.mem_singleton.mp hx
          subst ex
          obtain ⟨g, w, n, has, hg1, hw, s1, s2, hn, hP, hq, i1, ir, i2, i3⟩ := hI
          have ea := i1 (by decide)
          have a1 : ρ2 1 = Int32.ofNat g := (hg 1 (by decide)).trans (ir (by decide))
          have a2 : ρ2 2 = Int32.ofNat w := (hg 2 (by decide)).trans (i2 rfl)
          have hk : ∀ a k, ¬ (a = 74 ∧ 36 ≤ k ∧ k ≤ 37) → E2 a k = E a k := by
            intro a k n0
            apply hfr
            cases hq : zyin [(74, 36, 37)] a k with
            | false => rfl
            | true =>
              obtain ⟨p0, g1, g2, g3, g4⟩ := zyin_iff.mp hq
              simp only [List.mem_cons, List.not_mem_nil, or_false] at g1
              rcases g1 with rfl
              · exact absurd ⟨g2.symm, g3, g4⟩ n0
          have kP : zPn E2 := zPn_fr (fun k k1 k2 => (hk 74 k (by omega)).trans (by rw [ea])) hP
          have e39 : E2 74 39 = some (.int (Int32.ofNat n)) := (hk 74 39 (by omega)).trans (by rw [ea]; exact s2)
          have m := zyXm hM 0 rfl
          have m : E2 74 36 = some (.int (Int32.ofNat 1)) := m
          exact ⟨zyvo_0 (show zyvo _ [] vo from hvo), fun a k nn => (hk a k (fun z => nn ⟨z.1, by omega⟩)).trans (by rw [ea]), kP, n, n, w, 1, g, has, s2, e39, Nat.le_refl _, hn, s1, m, by omega, fun h => absurd h (by omega)⟩
    · have hx : x ∈ [zxtks_br0] := hx
      have hg : ∀ k, k < 2 → ρ2 k = ρ k := hag
      have hI := hInv
      have hI : ∃ g w n : Nat, as = [Int32.ofNat g] ∧ g ≤ 1 ∧ w ≤ 9 ∧ E0 74 36 = some (.int (Int32.ofNat w)) ∧ E0 74 39 = some (.int (Int32.ofNat n)) ∧ n ≤ 901 ∧ zPn E0 ∧ (g = 1 → w = 0 → ¬ E0 74 40 = some (.int (Int32.ofNat 0))) ∧ (2 ≤ 1 → E = E0) ∧ (2 ≤ 1 → ρ 1 = Int32.ofNat g) ∧ (2 = 1 → ρ 2 = Int32.ofNat w) ∧ (2 = 2 → zyFtk E0 E ∧ zPn E ∧ g = 1 ∧ w = 0 ∧ E 74 36 = some (.int (Int32.ofNat 0)) ∧ ∃ n' : Nat, n < n' ∧ n' ≤ 901 ∧ E 74 39 = some (.int (Int32.ofNat n'))) := hI
      obtain ⟨hF, hB, hM⟩ := hXs
      have hEE : E2 = E := zyfr0 hfr
      have ex := List.mem_singleton.mp hx
      subst ex
      obtain ⟨g, w, n, has, hg1, hw, s1, s2, hn, hP, hq, i1, ir, i2, i3⟩ := hI
      obtain ⟨f1, f2, f3, f4, f5, n2, f6, f7, f8⟩ := i3 rfl
      exact ⟨zyvo_0 (show zyvo _ [] vo from hvo), by rw [hEE]; exact f1, by rw [hEE]; exact f2, n, n2, w, 0, g, has, s2, by rw [hEE]; exact f8, by omega, f7, s1, by rw [hEE]; exact f5, by omega, fun _ => ⟨f6, f3, f4⟩⟩
def zyΦtn (as : List Int32) (E : zyEm) : Prop := zPn E ∧ ∃ h : Nat, as = [Int32.ofNat 1, Int32.ofNat h] ∧ 4 ≤ h ∧ h ≤ 5
def zyΨtn (as : List Int32) (E E2 : zyEm) (vo : Option Value) : Prop := zyFtk E E2 ∧ zPn E2 ∧ ∃ (n n' w w' h : Nat) (z : Int32), as = [Int32.ofNat 1, Int32.ofNat h] ∧ 4 ≤ h ∧ h ≤ 5 ∧ vo = some (.int z) ∧ E 74 39 = some (.int (Int32.ofNat n)) ∧ E2 74 39 = some (.int (Int32.ofNat n')) ∧ n ≤ n' ∧ n' ≤ 901 ∧ E 74 36 = some (.int (Int32.ofNat w)) ∧ E2 74 36 = some (.int (Int32.ofNat w')) ∧ w' ≤ 9 ∧ (w' = 0 → n < n' ∧ w = 0 ∧ 2147483649 ≤ zB z ∧ zB z ≤ 2147483648 + h)
theorem zytkn_run : zyrS zymx zxi320 (320, 0, 0, 1, 0) 5 zptkn (fun _ _ => []) zFtkn zStkn zXtkn zRtkn 3 = true := by decide +kernel
theorem zytakesNumber {l : Launch} {en : zEn} {me : zMe} (hen : zG zxMeta 320 = some en) (hme : zG zMeth 320 = some me) : zyHc l zymx en me 5 2 zyΦtn zyΨtn := by
  have een : zG zxMeta 320 = some (zxi320, 3, 4, 11, 320, 0, 0, 1, 0) := rfl
  obtain ⟨me1, hme1, hOK⟩ := zall hen
  rw [hme] at hme1
  cases hme1
  rw [een] at hen
  cases hen
  have hr := zytkn_run
  obtain ⟨merd, hmerd, -⟩ := zall (show zG zxMeta 314 = some (zxi314, 1, 1, 11, 314, 0, 0, 0, 0) from rfl)
  have hrd := zyreads (l := l) (show zG zxMeta 314 = some (zxi314, 1, 1, 11, 314, 0, 0, 0, 0) from rfl) hmerd
  refine zycutS (mi := zymx) hOK rfl rfl ⟨_, rfl, rfl⟩ (ι := Fin 3) (fun i => zptkn i.val) (fun _ _ => []) (fun i => zFtkn i.val) (fun i => zStkn i.val) (fun i => zXtkn i.val) (fun i => zRtkn i.val) (fun i y2 ct en2 me2 h => by cases h) 200000 (fun i => zyAll_iff hr i.val i.isLt) ⟨0, by decide⟩ ⟨rfl, rfl, rfl, rfl⟩ ⟨by decide, by decide⟩
    (fun i as E0 ρ E => ∃ h w n : Nat, as = [Int32.ofNat 1, Int32.ofNat h] ∧ 4 ≤ h ∧ h ≤ 5 ∧ w ≤ 9 ∧ E0 74 36 = some (.int (Int32.ofNat w)) ∧ E0 74 39 = some (.int (Int32.ofNat n)) ∧ n ≤ 901 ∧ zPn E0 ∧ (i.val ≤ 1 → E = E0) ∧ (i.val ≤ 1 → ρ 1 = Int32.ofNat 1 ∧ ρ 2 = Int32.ofNat h) ∧ (i.val = 1 → ρ 4 = Int32.ofNat w) ∧ (i.val = 2 → zyFtk E0 E ∧ zPn E ∧ w = 0 ∧ E 74 36 = some (.int (Int32.ofNat 0)) ∧ (2147483649 ≤ zB (ρ 3) ∧ zB (ρ 3) ≤ 2147483648 + h) ∧ ∃ n' : Nat, n < n' ∧ n' ≤ 901 ∧ E 74 39 = some (.int (Int32.ofNat n')))) (fun i as E0 ρ E => 2 - i.val) ?_ ?_ ?_
  · intro as E hlen hT hΦ
    obtain ⟨hP, h, rfl, hh1, hh2⟩ := hΦ
    obtain ⟨n, hn, s2⟩ := zc74 hT (k := 39) (lo := 2147483648) (hi := 2147484549) (by decide) rfl (by decide) (by decide)
    obtain ⟨w, hw, s1⟩ := zc74 hT (k := 36) (lo := 2147483648) (hi := 2147483657) (by decide) rfl (by decide) (by decide)
    exact ⟨zEnv_c (zyfull _) (zEnv_c (zyfull _) (zEnv_c (zyfull _) (zEnv_c (zyfull _) zEnv_nil))), h, w, n, rfl, hh1, hh2, by omega, s1, s2, by omega, hP, fun _ => rfl, fun _ => ⟨rfl, rfl⟩, fun h => absurd (show 0 = 1 from h) (by decide), fun h => absurd (show 0 = 2 from h) (by decide)⟩
  · intro as B s Wg hRu hT0 hΦ hlen i ρ H hT hInv hIH x hx ρ2 N2 H2 locs lsB stA hAt hXs hag hfr hT2
    rcases i with ⟨i, hi⟩
    have hi2 : i = 0 ∨ i = 1 ∨ i = 2 := by omega
    rcases hi2 with rfl | rfl | rfl
    · have hx : x ∈ [zxtkn_zx0] := hx
      have hg : ∀ k, k < 4 → ρ2 k = ρ k := hag
      have hI := hInv
      have hI : ∃ h w n : Nat, as = [Int32.ofNat 1, Int32.ofNat h] ∧ 4 ≤ h ∧ h ≤ 5 ∧ w ≤ 9 ∧ (zyEl zymx B s.heap) 74 36 = some (.int (Int32.ofNat w)) ∧ (zyEl zymx B s.heap) 74 39 = some (.int (Int32.ofNat n)) ∧ n ≤ 901 ∧ zPn (zyEl zymx B s.heap) ∧ (0 ≤ 1 → (zyEl zymx B H) = (zyEl zymx B s.heap)) ∧ (0 ≤ 1 → ρ 1 = Int32.ofNat 1 ∧ ρ 2 = Int32.ofNat h) ∧ (0 = 1 → ρ 4 = Int32.ofNat w) ∧ (0 = 2 → zyFtk (zyEl zymx B s.heap) (zyEl zymx B H) ∧ zPn (zyEl zymx B H) ∧ w = 0 ∧ (zyEl zymx B H) 74 36 = some (.int (Int32.ofNat 0)) ∧ (2147483649 ≤ zB (ρ 3) ∧ zB (ρ 3) ≤ 2147483648 + h) ∧ ∃ n' : Nat, n < n' ∧ n' ≤ 901 ∧ (zyEl zymx B H) 74 39 = some (.int (Int32.ofNat n'))) := hI
      obtain ⟨hF, hB, hM⟩ := hXs
      have hEE : (zyEl zymx B H2) = (zyEl zymx B H) := zyfr0 hfr
      have ex := List.mem_singleton.mp hx
      subst ex
      obtain ⟨h, w, n, has, hh1, hh2, hw, s1, s2, hn, hP, i1, ir, i2, i3⟩ := hI
      have ea := i1 (by decide)
      obtain ⟨ir1, ir2⟩ := ir (by decide)
      refine zyGoAny hIH hAt ⟨1, by decide⟩ [595, 34359738369, 68719476737, 0] (fun k => if k = 4 then Int32.ofNat w else zyw ρ2 (zyag [595, 34359738369, 68719476737, 0] k)) rfl rfl (fun i hi => by have hi : i < 4 := hi; rw [if_neg (by omega)]) (zEnv_c (zyfull _) (zEnv_c ⟨?_, ?_⟩ (zEnv_c ⟨?_, ?_⟩ (zEnv_c (zyfull _) (zEnv_c ⟨?_, ?_⟩ zEnv_nil))))) ?_ ?_ ⟨h, w, n, has, hh1, hh2, hw, s1, s2, hn, hP, fun _ => hEE.trans ea, fun _ => ⟨(hg 1 (by decide)).trans ir1, (hg 2 (by decide)).trans ir2⟩, fun _ => rfl, fun h => absurd (show 1 = 2 from h) (by decide)⟩ (show 2 - 1 < 2 - 0 by decide)
      · show 2147483649 ≤ zB (ρ2 1)
        rw [hg 1 (by decide), ir1]
        decide
      · show zB (ρ2 1) ≤ 2147483649
        rw [hg 1 (by decide), ir1]
        decide
      · show 2147483652 ≤ zB (ρ2 2)
        rw [hg 2 (by decide), ir2, zyBn (by omega)]
        omega
      · show zB (ρ2 2) ≤ 2147483653
        rw [hg 2 (by decide), ir2, zyBn (by omega)]
        omega
      · show 2147483648 ≤ zB (Int32.ofNat w)
        rw [zyBn (by omega)]
        omega
      · show zB (Int32.ofNat w) ≤ 2147483657
        rw [zyBn (by omega)]
        omega
      · rw [zySt_n (show zySt (zyXn B ρ2 N2) [] stA from hAt.2.2.2.2.2)]
        trivial
      · intro z hz
        have hz : z ∈ [(1212452, 137438953473)] := hz
        rw [List.mem_singleton.mp hz]
        exact ⟨zymr74, _, rfl, show 36 < 49 by decide, show zyEl zymx B H2 74 36 = _ by rw [hEE, ea]; exact s1, zyv_sym (i := 4) (show 4 < 5 by decide) rfl⟩
    · have hx : x ∈ [zxtkn_ax0] := hx
      have hg : ∀ k, k < 5 → ρ2 k = ρ k := hag
      have hI := hInv
      have hI : ∃ h w n : Nat, as = [Int32.ofNat 1, Int32.ofNat h] ∧ 4 ≤ h ∧ h ≤ 5 ∧ w ≤ 9 ∧ (zyEl zymx B s.heap) 74 36 = some (.int (Int32.ofNat w)) ∧ (zyEl zymx B s.heap) 74 39 = some (.int (Int32.ofNat n)) ∧ n ≤ 901 ∧ zPn (zyEl zymx B s.heap) ∧ (1 ≤ 1 → (zyEl zymx B H) = (zyEl zymx B s.heap)) ∧ (1 ≤ 1 → ρ 1 = Int32.ofNat 1 ∧ ρ 2 = Int32.ofNat h) ∧ (1 = 1 → ρ 4 = Int32.ofNat w) ∧ (1 = 2 → zyFtk (zyEl zymx B s.heap) (zyEl zymx B H) ∧ zPn (zyEl zymx B H) ∧ w = 0 ∧ (zyEl zymx B H) 74 36 = some (.int (Int32.ofNat 0)) ∧ (2147483649 ≤ zB (ρ 3) ∧ zB (ρ 3) ≤ 2147483648 + h) ∧ ∃ n' : Nat, n < n' ∧ n' ≤ 901 ∧ (zyEl zymx B H) 74 39 = some (.int (Int32.ofNat n'))) := hI
      obtain ⟨hF, hB, hM⟩ := hXs
      have hfr : ∀ a k, zyin [(74, 36, 37)] a k = false → (zyEl zymx B H2) a k = (zyEl zymx B H) a k := hfr
      have ex := List.mem_singleton.mp hx
      subst ex
      obtain ⟨h, w, n, has, hh1, hh2, hw, s1, s2, hn, hP, i1, ir, i2, i3⟩ := hI
      have ea := i1 (by decide)
      obtain ⟨ir1, ir2⟩ := ir (by decide)
      have a2 : ρ2 2 = Int32.ofNat h := (hg 2 (by decide)).trans ir2
      have a4 : ρ2 4 = Int32.ofNat w := (hg 4 (by decide)).trans (i2 rfl)
      have hk : ∀ a k, ¬ (a = 74 ∧ 36 ≤ k ∧ k ≤ 37) → (zyEl zymx B H2) a k = (zyEl zymx B H) a k := by
        intro a k n0
        apply hfr
        cases hq : zyin [(74, 36, 37)] a k with
        | false => rfl
        | true =>
          obtain ⟨p0, g1, g2, g3, g4⟩ := zyin_iff.mp hq
          simp only [List.mem_cons, List.not_mem_nil, or_false] at g1
          rcases g1 with rfl
          · exact absurd ⟨g2.symm, g3, g4⟩ n0
      obtain ⟨nb, ub1, ub2, ub3⟩ := zyXe hF 0 rfl
      have ub1 : Int32.ofNat 40 = Int32.ofNat nb := ub1
      have ub3 : (zyEl zymx B H) 74 nb = some (.int (ρ2 5)) := ub3
      have eb := zyOi (by omega) (by omega) ub1
      subst eb
      have bs := zyXb hB 2 rfl
      have bs : 2147483650 ≤ zB (ρ2 5) ∧ zB (ρ2 5) ≤ 2147483650 := bs
      obtain ⟨os, os2⟩ := zyOn (show 2147483648 ≤ zB (ρ2 5) by omega)
      rw [os, show zyN1 (ρ2 5) = 2 by omega, ea] at ub3
      have b4 := zyXb hB 1 rfl
      have b4 : 2147483648 ≤ zB (ρ2 4) ∧ zB (ρ2 4) ≤ 2147483648 := b4
      rw [a4, zyBn (by omega)] at b4
      have w0 : w = 0 := by omega
      have b6 := zyXb hB 3 rfl
      have b6 : 2147483649 ≤ zB (ρ2 6) ∧ zB (ρ2 6) ≤ 2147483653 := b6
      have fh := zyX21 hF 2 rfl
      have fh : ¬ ρ2 2 < ρ2 6 := fh
      rw [zB_slt, a2, zyBn (by omega)] at fh
      have m := zyXm hM 0 rfl
      have m : zyEl zymx B H2 74 36 = some (.int (ρ2 4)) := m
      rw [a4, w0] at m
      rcases hP 2 (by decide) ub3 with q | ⟨⟨n9, hn9, en9⟩, -⟩
      · cases q
      rw [s2] at en9
      have enn := zyOi (by omega) (by omega) (Value.int.inj (Option.some.inj en9))
      have e39 : zyEl zymx B H2 74 39 = some (.int (Int32.ofNat n)) := (hk 74 39 (by omega)).trans (by rw [ea]; exact s2)
      refine zyCa0 hRu hIH hAt hB hrd (ix := 450) (ax := 5024) rfl rfl rfl hmerd ⟨rfl, rfl, rfl, rfl⟩ (by decide) [] rfl (by decide) rfl ⟨2, by decide⟩ [595, 0, 0, 206158430209] rfl rfl rfl rfl ?_ ?_
      · show zyΦrd [] _
        exact ⟨n, by omega, e39⟩
      · intro E3 vo hT3 hΨ
        have hΨ : zyΨrd [] _ E3 vo := hΨ
        have hPn := zPn_rd hΨ
        obtain ⟨ev, p1, q0, n2, u2, p2, p3, p4, p5, p6, -⟩ := hΨ
        rw [e39] at p3
        have eq0 := zyOi (by omega) (by omega) (Value.int.inj (Option.some.inj p3))
        exact ⟨ev, ⟨h, w, n, has, hh1, hh2, hw, s1, s2, hn, hP, fun h => absurd (show 2 ≤ 1 from h) (by decide), fun h => absurd (show 2 ≤ 1 from h) (by decide), fun h => absurd (show 2 = 1 from h) (by decide), fun _ => ⟨fun a k nn => (p1 a k (fun z => nn ⟨z.1, by omega⟩)).trans ((hk a k (fun z => nn ⟨z.1, by omega⟩)).trans (by rw [ea])), hPn, w0, (p1 74 36 (by omega)).trans m, ⟨b6.1, show zB (ρ2 6) ≤ 2147483648 + h by omega⟩, n2, by omega, p5, p6⟩⟩, (show 2 - 2 < 2 - 1 by decide)⟩
    · cases hx
  · intro as E0 E E2 hT0 hΦ hlen i ρ hT hInv x hx ρ2 N2 B vo hXs hag hfr hT2 hvo
    rcases i with ⟨i, hi⟩
    have hi2 : i = 0 ∨ i = 1 ∨ i = 2 := by omega
    rcases hi2 with rfl | rfl | rfl
    · cases hx
    · have hx : x ∈ [zxtkn_ar0, zxtkn_ar1, zxtkn_ar2, zxtkn_ar3, zxtkn_ar4, zxtkn_ar5, zxtkn_ar6, zxtkn_ar7, zxtkn_ar8, zxtkn_ar9, zxtkn_ar10] := hx
      have hg : ∀ k, k < 5 → ρ2 k = ρ k := hag
      have hI := hInv
      have hI : ∃ h w n : Nat, as = [Int32.ofNat 1, Int32.ofNat h] ∧ 4 ≤ h ∧ h ≤ 5 ∧ w ≤ 9 ∧ E0 74 36 = some (.int (Int32.ofNat w)) ∧ E0 74 39 = some (.int (Int32.ofNat n)) ∧ n ≤ 901 ∧ zPn E0 ∧ (1 ≤ 1 → E = E0) ∧ (1 ≤ 1 → ρ 1 = Int32.ofNat 1 ∧ ρ 2 = Int32.ofNat h) ∧ (1 = 1 → ρ 4 = Int32.ofNat w) ∧ (1 = 2 → zyFtk E0 E ∧ zPn E ∧ w = 0 ∧ E 74 36 = some (.int (Int32.ofNat 0)) ∧ (2147483649 ≤ zB (ρ 3) ∧ zB (ρ 3) ≤ 2147483648 + h) ∧ ∃ n' : Nat, n < n' ∧ n' ≤ 901 ∧ E 74 39 = some (.int (Int32.ofNat n'))) := hI
      obtain ⟨hF, hB, hM⟩ := hXs
      have hfr : ∀ a k, zyin [(74, 36, 37)] a k = false → E2 a k = E a k := hfr
      rcases List.mem_cons.mp hx with ex | hx
      · subst ex
        obtain ⟨h, w, n, has, hh1, hh2, hw, s1, s2, hn, hP, i1, ir, i2, i3⟩ := hI
        have ea := i1 (by decide)
        obtain ⟨ir1, ir2⟩ := ir (by decide)
        have a2 : ρ2 2 = Int32.ofNat h := (hg 2 (by decide)).trans ir2
        have a4 : ρ2 4 = Int32.ofNat w := (hg 4 (by decide)).trans (i2 rfl)
        have hk : ∀ a k, ¬ (a = 74 ∧ 36 ≤ k ∧ k ≤ 37) → E2 a k = E a k := by
          intro a k n0
          apply hfr
          cases hq : zyin [(74, 36, 37)] a k with
          | false => rfl
          | true =>
            obtain ⟨p0, g1, g2, g3, g4⟩ := zyin_iff.mp hq
            simp only [List.mem_cons, List.not_mem_nil, or_false] at g1
            rcases g1 with rfl
            · exact absurd ⟨g2.symm, g3, g4⟩ n0
        have kP : zPn E2 := zPn_fr (fun k k1 k2 => (hk 74 k (by omega)).trans (by rw [ea])) hP
        have e39 : E2 74 39 = some (.int (Int32.ofNat n)) := (hk 74 39 (by omega)).trans (by rw [ea]; exact s2)
        have m := zyXm hM 0 rfl
        have m : E2 74 36 = some (.int (ρ2 4)) := m
        have b4 := zyXb hB 0 rfl
        have b4 : 2147483649 ≤ zB (ρ2 4) ∧ zB (ρ2 4) ≤ 2147483657 := b4
        rw [a4, zyBn (by omega)] at b4
        rw [a4] at m
        exact ⟨fun a k nn => (hk a k (fun z => nn ⟨z.1, by omega⟩)).trans (by rw [ea]), kP, n, n, w, w, h, _, has, hh1, hh2, zyvo_1 (c := 206158430209) (by decide) (show zyvo (zyXn B ρ2 N2) [206158430209] vo from hvo), s2, e39, Nat.le_refl _, hn, s1, m, by omega, fun h => absurd h (by omega)⟩
      · skip
        rcases List.mem_cons.mp hx with ex | hx
        · subst ex
          obtain ⟨h, w, n, has, hh1, hh2, hw, s1, s2, hn, hP, i1, ir, i2, i3⟩ := hI
          have ea := i1 (by decide)
          obtain ⟨ir1, ir2⟩ := ir (by decide)
          have a2 : ρ2 2 = Int32.ofNat h := (hg 2 (by decide)).trans ir2
          have a4 : ρ2 4 = Int32.ofNat w := (hg 4 (by decide)).trans (i2 rfl)
          have hk : ∀ a k, ¬ (a = 74 ∧ 36 ≤ k ∧ k ≤ 37) → E2 a k = E a k := by
            intro a k n0
            apply hfr
            cases hq : zyin [(74, 36, 37)] a k with
            | false => rfl
            | true =>
              obtain ⟨p0, g1, g2, g3, g4⟩ := zyin_iff.mp hq
              simp only [List.mem_cons, List.not_mem_nil, or_false] at g1
              rcases g1 with rfl
              · exact absurd ⟨g2.symm, g3, g4⟩ n0
          have kP : zPn E2 := zPn_fr (fun k k1 k2 => (hk 74 k (by omega)).trans (by rw [ea])) hP
          have e39 : E2 74 39 = some (.int (Int32.ofNat n)) := (hk 74 39 (by omega)).trans (by rw [ea]; exact s2)
          have m := zyXm hM 0 rfl
          have m : E2 74 36 = some (.int (ρ2 4)) := m
          have b4 := zyXb hB 0 rfl
          have b4 : 2147483649 ≤ zB (ρ2 4) ∧ zB (ρ2 4) ≤ 2147483657 := b4
          rw [a4, zyBn (by omega)] at b4
          rw [a4] at m
          exact ⟨fun a k nn => (hk a k (fun z => nn ⟨z.1, by omega⟩)).trans (by rw [ea]), kP, n, n, w, w, h, _, has, hh1, hh2, zyvo_1 (c := 206158430209) (by decide) (show zyvo (zyXn B ρ2 N2) [206158430209] vo from hvo), s2, e39, Nat.le_refl _, hn, s1, m, by omega, fun h => absurd h (by omega)⟩
        · skip
          rcases List.mem_cons.mp hx with ex | hx
          · subst ex
            obtain ⟨h, w, n, has, hh1, hh2, hw, s1, s2, hn, hP, i1, ir, i2, i3⟩ := hI
            have ea := i1 (by decide)
            obtain ⟨ir1, ir2⟩ := ir (by decide)
            have a2 : ρ2 2 = Int32.ofNat h := (hg 2 (by decide)).trans ir2
            have a4 : ρ2 4 = Int32.ofNat w := (hg 4 (by decide)).trans (i2 rfl)
            have hk : ∀ a k, ¬ (a = 74 ∧ 36 ≤ k ∧ k ≤ 37) → E2 a k = E a k := by
              intro a k n0
              apply hfr
              cases hq : zyin [(74, 36, 37)] a k with
              | false => rfl
              | true =>
                obtain ⟨p0, g1, g2, g3, g4⟩ := zyin_iff.mp hq
                simp only [List.mem_cons, List.not_mem_nil, or_false] at g1
                rcases g1 with rfl
                · exact absurd ⟨g2.symm, g3, g4⟩ n0
            have kP : zPn E2 := zPn_fr (fun k k1 k2 => (hk 74 k (by omega)).trans (by rw [ea])) hP
            have e39 : E2 74 39 = some (.int (Int32.ofNat n)) := (hk 74 39 (by omega)).trans (by rw [ea]; exact s2)
            have m := zyXm hM 0 rfl
            have m : E2 74 36 = some (.int (ρ2 4)) := m
            have b4 := zyXb hB 0 rfl
            have b4 : 2147483649 ≤ zB (ρ2 4) ∧ zB (ρ2 4) ≤ 2147483657 := b4
            rw [a4, zyBn (by omega)] at b4
            rw [a4] at m
            exact ⟨fun a k nn => (hk a k (fun z => nn ⟨z.1, by omega⟩)).trans (by rw [ea]), kP, n, n, w, w, h, _, has, hh1, hh2, zyvo_1 (c := 206158430209) (by decide) (show zyvo (zyXn B ρ2 N2) [206158430209] vo from hvo), s2, e39, Nat.le_refl _, hn, s1, m, by omega, fun h => absurd h (by omega)⟩
          · skip
            rcases List.mem_cons.mp hx with ex | hx
            · subst ex
              obtain ⟨h, w, n, has, hh1, hh2, hw, s1, s2, hn, hP, i1, ir, i2, i3⟩ := hI
              have ea := i1 (by decide)
              obtain ⟨ir1, ir2⟩ := ir (by decide)
              have a2 : ρ2 2 = Int32.ofNat h := (hg 2 (by decide)).trans ir2
              have a4 : ρ2 4 = Int32.ofNat w := (hg 4 (by decide)).trans (i2 rfl)
              have hk : ∀ a k, ¬ (a = 74 ∧ 36 ≤ k ∧ k ≤ 37) → E2 a k = E a k := by
                intro a k n0
                apply hfr
                cases hq : zyin [(74, 36, 37)] a k with
                | false => rfl
                | true =>
                  obtain ⟨p0, g1, g2, g3, g4⟩ := zyin_iff.mp hq
                  simp only [List.mem_cons, List.not_mem_nil, or_false] at g1
                  rcases g1 with rfl
                  · exact absurd ⟨g2.symm, g3, g4⟩ n0
              have kP : zPn E2 := zPn_fr (fun k k1 k2 => (hk 74 k (by omega)).trans (by rw [ea])) hP
              have e39 : E2 74 39 = some (.int (Int32.ofNat n)) := (hk 74 39 (by omega)).trans (by rw [ea]; exact s2)
              have m := zyXm hM 0 rfl
              have m : E2 74 36 = some (.int (Int32.ofNat 2)) := m
              exact ⟨fun a k nn => (hk a k (fun z => nn ⟨z.1, by omega⟩)).trans (by rw [ea]), kP, n, n, w, 2, h, _, has, hh1, hh2, zyvo_1 (c := 240518168577) (by decide) (show zyvo (zyXn B ρ2 N2) [240518168577] vo from hvo), s2, e39, Nat.le_refl _, hn, s1, m, by omega, fun h => absurd h (by omega)⟩
            · skip
              rcases List.mem_cons.mp hx with ex | hx
              · subst ex
                obtain ⟨h, w, n, has, hh1, hh2, hw, s1, s2, hn, hP, i1, ir, i2, i3⟩ := hI
                have ea := i1 (by decide)
                obtain ⟨ir1, ir2⟩ := ir (by decide)
                have a2 : ρ2 2 = Int32.ofNat h := (hg 2 (by decide)).trans ir2
                have a4 : ρ2 4 = Int32.ofNat w := (hg 4 (by decide)).trans (i2 rfl)
                have hk : ∀ a k, ¬ (a = 74 ∧ 36 ≤ k ∧ k ≤ 37) → E2 a k = E a k := by
                  intro a k n0
                  apply hfr
                  cases hq : zyin [(74, 36, 37)] a k with
                  | false => rfl
                  | true =>
                    obtain ⟨p0, g1, g2, g3, g4⟩ := zyin_iff.mp hq
                    simp only [List.mem_cons, List.not_mem_nil, or_false] at g1
                    rcases g1 with rfl
                    · exact absurd ⟨g2.symm, g3, g4⟩ n0
                have kP : zPn E2 := zPn_fr (fun k k1 k2 => (hk 74 k (by omega)).trans (by rw [ea])) hP
                have e39 : E2 74 39 = some (.int (Int32.ofNat n)) := (hk 74 39 (by omega)).trans (by rw [ea]; exact s2)
                have m := zyXm hM 0 rfl
                have m : E2 74 36 = some (.int (Int32.ofNat 2)) := m
                exact ⟨fun a k nn => (hk a k (fun z => nn ⟨z.1, by omega⟩)).trans (by rw [ea]), kP, n, n, w, 2, h, _, has, hh1, hh2, zyvo_1 (c := 240518168577) (by decide) (show zyvo (zyXn B ρ2 N2) [240518168577] vo from hvo), s2, e39, Nat.le_refl _, hn, s1, m, by omega, fun h => absurd h (by omega)⟩
              · skip
                rcases List.mem_cons.mp hx with ex | hx
                · subst ex
                  obtain ⟨h, w, n, has, hh1, hh2, hw, s1, s2, hn, hP, i1, ir, i2, i3⟩ := hI
                  have ea := i1 (by decide)
                  obtain ⟨ir1, ir2⟩ := ir (by decide)
                  have a2 : ρ2 2 = Int32.ofNat h := (hg 2 (by decide)).trans ir2
                  have a4 : ρ2 4 = Int32.ofNat w := (hg 4 (by decide)).trans (i2 rfl)
                  have hk : ∀ a k, ¬ (a = 74 ∧ 36 ≤ k ∧ k ≤ 37) → E2 a k = E a k := by
                    intro a k n0
                    apply hfr
                    cases hq : zyin [(74, 36, 37)] a k with
                    | false => rfl
                    | true =>
                      obtain ⟨p0, g1, g2, g3, g4⟩ := zyin_iff.mp hq
                      simp only [List.mem_cons, List.not_mem_nil, or_false] at g1
                      rcases g1 with rfl
                      · exact absurd ⟨g2.symm, g3, g4⟩ n0
                  have kP : zPn E2 := zPn_fr (fun k k1 k2 => (hk 74 k (by omega)).trans (by rw [ea])) hP
                  have e39 : E2 74 39 = some (.int (Int32.ofNat n)) := (hk 74 39 (by omega)).trans (by rw [ea]; exact s2)
                  have m := zyXm hM 0 rfl
                  have m : E2 74 36 = some (.int (Int32.ofNat 2)) := m
                  exact ⟨fun a k nn => (hk a k (fun z => nn ⟨z.1, by omega⟩)).trans (by rw [ea]), kP, n, n, w, 2, h, _, has, hh1, hh2, zyvo_1 (c := 240518168577) (by decide) (show zyvo (zyXn B ρ2 N2) [240518168577] vo from hvo), s2, e39, Nat.le_refl _, hn, s1, m, by omega, fun h => absurd h (by omega)⟩
                · skip
                  rcases List.mem_cons.mp hx with ex | hx
                  · subst ex
                    obtain ⟨h, w, n, has, hh1, hh2, hw, s1, s2, hn, hP, i1, ir, i2, i3⟩ := hI
                    have ea := i1 (by decide)
                    obtain ⟨ir1, ir2⟩ := ir (by decide)
                    have a2 : ρ2 2 = Int32.ofNat h := (hg 2 (by decide)).trans ir2
                    have a4 : ρ2 4 = Int32.ofNat w := (hg 4 (by decide)).trans (i2 rfl)
                    have hk : ∀ a k, ¬ (a = 74 ∧ 36 ≤ k ∧ k ≤ 37) → E2 a k = E a k := by
                      intro a k n0
                      apply hfr
                      cases hq : zyin [(74, 36, 37)] a k with
                      | false => rfl
                      | true =>
                        obtain ⟨p0, g1, g2, g3, g4⟩ := zyin_iff.mp hq
                        simp only [List.mem_cons, List.not_mem_nil, or_false] at g1
                        rcases g1 with rfl
                        · exact absurd ⟨g2.symm, g3, g4⟩ n0
                    have kP : zPn E2 := zPn_fr (fun k k1 k2 => (hk 74 k (by omega)).trans (by rw [ea])) hP
                    have e39 : E2 74 39 = some (.int (Int32.ofNat n)) := (hk 74 39 (by omega)).trans (by rw [ea]; exact s2)
                    have m := zyXm hM 0 rfl
                    have m : E2 74 36 = some (.int (Int32.ofNat 1)) := m
                    exact ⟨fun a k nn => (hk a k (fun z => nn ⟨z.1, by omega⟩)).trans (by rw [ea]), kP, n, n, w, 1, h, _, has, hh1, hh2, zyvo_1 (c := 240518168577) (by decide) (show zyvo (zyXn B ρ2 N2) [240518168577] vo from hvo), s2, e39, Nat.le_refl _, hn, s1, m, by omega, fun h => absurd h (by omega)⟩
                  · skip
                    rcases List.mem_cons.mp hx with ex | hx
                    · subst ex
                      obtain ⟨h, w, n, has, hh1, hh2, hw, s1, s2, hn, hP, i1, ir, i2, i3⟩ := hI
                      have ea := i1 (by decide)
                      obtain ⟨ir1, ir2⟩ := ir (by decide)
                      have a2 : ρ2 2 = Int32.ofNat h := (hg 2 (by decide)).trans ir2
                      have a4 : ρ2 4 = Int32.ofNat w := (hg 4 (by decide)).trans (i2 rfl)
                      have hk : ∀ a k, ¬ (a = 74 ∧ 36 ≤ k ∧ k ≤ 37) → E2 a k = E a k := by
                        intro a k n0
                        apply hfr
                        cases hq : zyin [(74, 36, 37)] a k with
                        | false => rfl
                        | true =>
                          obtain ⟨p0, g1, g2, g3, g4⟩ := zyin_iff.mp hq
                          simp only [List.mem_cons, List.not_mem_nil, or_false] at g1
                          rcases g1 with rfl
                          · exact absurd ⟨g2.symm, g3, g4⟩ n0
                      have kP : zPn E2 := zPn_fr (fun k k1 k2 => (hk 74 k (by omega)).trans (by rw [ea])) hP
                      have e39 : E2 74 39 = some (.int (Int32.ofNat n)) := (hk 74 39 (by omega)).trans (by rw [ea]; exact s2)
                      have m := zyXm hM 0 rfl
                      have m : E2 74 36 = some (.int (Int32.ofNat 1)) := m
                      exact ⟨fun a k nn => (hk a k (fun z => nn ⟨z.1, by omega⟩)).trans (by rw [ea]), kP, n, n, w, 1, h, _, has, hh1, hh2, zyvo_1 (c := 240518168577) (by decide) (show zyvo (zyXn B ρ2 N2) [240518168577] vo from hvo), s2, e39, Nat.le_refl _, hn, s1, m, by omega, fun h => absurd h (by omega)⟩
                    · skip
                      rcases List.mem_cons.mp hx with ex | hx
                      · subst ex
                        obtain ⟨h, w, n, has, hh1, hh2, hw, s1, s2, hn, hP, i1, ir, i2, i3⟩ := hI
                        have ea := i1 (by decide)
                        obtain ⟨ir1, ir2⟩ := ir (by decide)
                        have a2 : ρ2 2 = Int32.ofNat h := (hg 2 (by decide)).trans ir2
                        have a4 : ρ2 4 = Int32.ofNat w := (hg 4 (by decide)).trans (i2 rfl)
                        have hk : ∀ a k, ¬ (a = 74 ∧ 36 ≤ k ∧ k ≤ 37) → E2 a k = E a k := by
                          intro a k n0
                          apply hfr
                          cases hq : zyin [(74, 36, 37)] a k with
                          | false => rfl
                          | true =>
                            obtain ⟨p0, g1, g2, g3, g4⟩ := zyin_iff.mp hq
                            simp only [List.mem_cons, List.not_mem_nil, or_false] at g1
                            rcases g1 with rfl
                            · exact absurd ⟨g2.symm, g3, g4⟩ n0
                        have kP : zPn E2 := zPn_fr (fun k k1 k2 => (hk 74 k (by omega)).trans (by rw [ea])) hP
                        have e39 : E2 74 39 = some (.int (Int32.ofNat n)) := (hk 74 39 (by omega)).trans (by rw [ea]; exact s2)
                        have m := zyXm hM 0 rfl
                        have m : E2 74 36 = some (.int (Int32.ofNat 1)) := m
                        exact ⟨fun a k nn => (hk a k (fun z => nn ⟨z.1, by omega⟩)).trans (by rw [ea]), kP, n, n, w, 1, h, _, has, hh1, hh2, zyvo_1 (c := 240518168577) (by decide) (show zyvo (zyXn B ρ2 N2) [240518168577] vo from hvo), s2, e39, Nat.le_refl _, hn, s1, m, by omega, fun h => absurd h (by omega)⟩
                      · skip
                        rcases List.mem_cons.mp hx with ex | hx
                        · subst ex
                          obtain ⟨h, w, n, has, hh1, hh2, hw, s1, s2, hn, hP, i1, ir, i2, i3⟩ := hI
                          have ea := i1 (by decide)
                          obtain ⟨ir1, ir2⟩ := ir (by decide)
                          have a2 : ρ2 2 = Int32.ofNat h := (hg 2 (by decide)).trans ir2
                          have a4 : ρ2 4 = Int32.ofNat w := (hg 4 (by decide)).trans (i2 rfl)
                          have hk : ∀ a k, ¬ (a = 74 ∧ 36 ≤ k ∧ k ≤ 37) → E2 a k = E a k := by
                            intro a k n0
                            apply hfr
                            cases hq : zyin [(74, 36, 37)] a k with
                            | false => rfl
                            | true =>
                              obtain ⟨p0, g1, g2, g3, g4⟩ := zyin_iff.mp hq
                              simp only [List.mem_cons, List.not_mem_nil, or_false] at g1
                              rcases g1 with rfl
                              · exact absurd ⟨g2.symm, g3, g4⟩ n0
                          have kP : zPn E2 := zPn_fr (fun k k1 k2 => (hk 74 k (by omega)).trans (by rw [ea])) hP
                          have e39 : E2 74 39 = some (.int (Int32.ofNat n)) := (hk 74 39 (by omega)).trans (by rw [ea]; exact s2)
                          have m := zyXm hM 0 rfl
                          have m : E2 74 36 = some (.int (Int32.ofNat 3)) := m
                          exact ⟨fun a k nn => (hk a k (fun z => nn ⟨z.1, by omega⟩)).trans (by rw [ea]), kP, n, n, w, 3, h, _, has, hh1, hh2, zyvo_1 (c := 206158430209) (by decide) (show zyvo (zyXn B ρ2 N2) [206158430209] vo from hvo), s2, e39, Nat.le_refl _, hn, s1, m, by omega, fun h => absurd h (by omega)⟩
                        · skip
                          have ex := List.mem_singleton.mp hx
                          subst ex
                          obtain ⟨h, w, n, has, hh1, hh2, hw, s1, s2, hn, hP, i1, ir, i2, i3⟩ := hI
                          have ea := i1 (by decide)
                          obtain ⟨ir1, ir2⟩ := ir (by decide)
                          have a2 : ρ2 2 = Int32.ofNat h := (hg 2 (by decide)).trans ir2
                          have a4 : ρ2 4 = Int32.ofNat w := (hg 4 (by decide)).trans (i2 rfl)
                          have hk : ∀ a k, ¬ (a = 74 ∧ 36 ≤ k ∧ k ≤ 37) → E2 a k = E a k := by
                            intro a k n0
                            apply hfr
                            cases hq : zyin [(74, 36, 37)] a k with
                            | false => rfl
                            | true =>
                              obtain ⟨p0, g1, g2, g3, g4⟩ := zyin_iff.mp hq
                              simp only [List.mem_cons, List.not_mem_nil, or_false] at g1
                              rcases g1 with rfl
                              · exact absurd ⟨g2.symm, g3, g4⟩ n0
                          have kP : zPn E2 := zPn_fr (fun k k1 k2 => (hk 74 k (by omega)).trans (by rw [ea])) hP
                          have e39 : E2 74 39 = some (.int (Int32.ofNat n)) := (hk 74 39 (by omega)).trans (by rw [ea]; exact s2)
                          have m := zyXm hM 0 rfl
                          have m : E2 74 36 = some (.int (Int32.ofNat 3)) := m
                          exact ⟨fun a k nn => (hk a k (fun z => nn ⟨z.1, by omega⟩)).trans (by rw [ea]), kP, n, n, w, 3, h, _, has, hh1, hh2, zyvo_1 (c := 206158430209) (by decide) (show zyvo (zyXn B ρ2 N2) [206158430209] vo from hvo), s2, e39, Nat.le_refl _, hn, s1, m, by omega, fun h => absurd h (by omega)⟩
    · have hx : x ∈ [zxtkn_br0] := hx
      have hg : ∀ k, k < 4 → ρ2 k = ρ k := hag
      have hI := hInv
      have hI : ∃ h w n : Nat, as = [Int32.ofNat 1, Int32.ofNat h] ∧ 4 ≤ h ∧ h ≤ 5 ∧ w ≤ 9 ∧ E0 74 36 = some (.int (Int32.ofNat w)) ∧ E0 74 39 = some (.int (Int32.ofNat n)) ∧ n ≤ 901 ∧ zPn E0 ∧ (2 ≤ 1 → E = E0) ∧ (2 ≤ 1 → ρ 1 = Int32.ofNat 1 ∧ ρ 2 = Int32.ofNat h) ∧ (2 = 1 → ρ 4 = Int32.ofNat w) ∧ (2 = 2 → zyFtk E0 E ∧ zPn E ∧ w = 0 ∧ E 74 36 = some (.int (Int32.ofNat 0)) ∧ (2147483649 ≤ zB (ρ 3) ∧ zB (ρ 3) ≤ 2147483648 + h) ∧ ∃ n' : Nat, n < n' ∧ n' ≤ 901 ∧ E 74 39 = some (.int (Int32.ofNat n'))) := hI
      obtain ⟨hF, hB, hM⟩ := hXs
      have hEE : E2 = E := zyfr0 hfr
      have ex := List.mem_singleton.mp hx
      subst ex
      obtain ⟨h, w, n, has, hh1, hh2, hw, s1, s2, hn, hP, i1, ir, i2, i3⟩ := hI
      obtain ⟨f1, f2, f4, f5, fb, n2, f6, f7, f8⟩ := i3 rfl
      exact ⟨by rw [hEE]; exact f1, by rw [hEE]; exact f2, n, n2, w, 0, h, _, has, hh1, hh2, zyvo_1 (c := 103079215105) (by decide) (show zyvo (zyXn B ρ2 N2) [103079215105] vo from hvo), s2, by rw [hEE]; exact f8, by omega, f7, s1, by rw [hEE]; exact f5, by omega, fun _ => ⟨f6, f4, by show 2147483649 ≤ zB (ρ2 3); rw [hg 3 (by decide)]; exact fb.1, by show zB (ρ2 3) ≤ _; rw [hg 3 (by decide)]; exact fb.2⟩⟩
