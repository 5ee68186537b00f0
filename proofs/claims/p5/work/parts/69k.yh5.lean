/-! THE SIMPLE BRAIDS: the first goes out -/
def zyΦlo (as : List Int32) (E : zyEm) : Prop := as = [Int32.ofNat 0] ∧ ∃ n : Nat, 1 ≤ n ∧ n ≤ 1299 ∧ E 74 19 = some (.int (Int32.ofNat n))
def zyΨlo (_ : List Int32) (E E2 : zyEm) (vo : Option Value) : Prop := vo = none ∧ ∀ n : Nat, 1 ≤ n → n ≤ 1299 → E 74 19 = some (.int (Int32.ofNat n)) → E2 74 19 = some (.int (Int32.ofNat (n - 1))) ∧ (∀ k, k < 8 * (n - 1) → zfv E2 k = zfv E (k + 8)) ∧ ∀ a2 k2, ¬ a2 = 81 → ¬ (a2 = 74 ∧ k2 = 19) → E2 a2 k2 = E a2 k2
def zyIlo (i n k : Nat) (E0 : zyEm) (ρ : Nat → Int32) (E : zyEm) : Prop := (∀ a2 k2, ¬ a2 = 81 → E a2 k2 = E0 a2 k2) ∧ (1 ≤ i → i ≤ 2 → ρ 2 = Int32.ofNat k) ∧ (i = 0 → E = E0) ∧ (i = 1 → k ≤ 8 * (n - 1) ∧ (∀ j, j < k → zfv E j = zfv E0 (j + 8)) ∧ ∀ j, k ≤ j → zfv E j = zfv E0 j) ∧ (i = 2 → k < 8 * (n - 1) ∧ (∀ j, j ≤ k → zfv E j = zfv E0 (j + 8)) ∧ ∀ j, k < j → zfv E j = zfv E0 j) ∧ (i = 3 → ρ 3 = Int32.ofNat n ∧ ∀ j, j < 8 * (n - 1) → zfv E j = zfv E0 (j + 8))
theorem zfv_eq {E E2 : zyEm} {j : Nat} (h : E2 81 j = E 81 j) : zfv E2 j = zfv E j := by
  unfold zfv
  rw [zyI_eq h]
theorem zylo_run : zyAllP (fun r c => zyrS (zymr r c) zxi234 (234, 0, 0, 0, 0) 2 zplo (fun _ _ => []) zFlo zSlo zXlo zRlo 4) = true := by decide +kernel
theorem zyleavesOut {l : Launch} {r c : Nat} (h1 : 1 ≤ r) (h2 : r ≤ 4) (h3 : 1 ≤ c) (h4 : c ≤ 5) {en : zEn} {me : zMe} (hen : zG zxMeta 234 = some en) (hme : zG zMeth 234 = some me) : zyHc l (zymr r c) en me 2 1 zyΦlo zyΨlo := by
  have een : zG zxMeta 234 = some (zxi234, 2, 3, 11, 234, 0, 0, 0, 0) := rfl
  obtain ⟨me1, hme1, hOK⟩ := zall hen
  rw [hme] at hme1
  cases hme1
  rw [een] at hen
  cases hen
  have hr := zyAllP_iff zylo_run h1 h2 h3 h4
  refine zycutS (mi := zymr r c) hOK rfl rfl ⟨_, rfl, rfl⟩ (ι := Fin 4) (fun i => zplo i.val) (fun _ _ => []) (fun i => zFlo i.val) (fun i => zSlo i.val) (fun i => zXlo i.val) (fun i => zRlo i.val) (fun i y2 ct en2 me2 h => by cases h) 200000 (fun i => zyAll_iff hr i.val i.isLt) ⟨0, by decide⟩ ⟨rfl, rfl, rfl, rfl⟩ ⟨by decide, by decide⟩
    (fun i as E0 ρ E => ∃ n k : Nat, 1 ≤ n ∧ n ≤ 1299 ∧ E0 74 19 = some (.int (Int32.ofNat n)) ∧ zyIlo i.val n k E0 ρ E) (fun i as E0 ρ E => if i.val = 0 then 50000 else if i.val = 3 then 0 else 2 * (10400 - zyN1 (ρ 2)) + (4 - i.val)) ?_ ?_ ?_
  · intro as E hlen hT hΦ
    obtain ⟨rfl, n, b1, b2, b3⟩ := hΦ
    refine ⟨zEnv_c (zyfull _) (zEnv_c (by decide) (zEnv_c (zyfull _) zEnv_nil)), n, 0, b1, b2, b3, fun _ _ _ => rfl, fun h => absurd (show 1 ≤ 0 from h) (by decide), fun _ => rfl, fun h => absurd (show 0 = 1 from h) (by decide), fun h => absurd (show 0 = 2 from h) (by decide), fun h => absurd (show 0 = 3 from h) (by decide)⟩
  · intro as B s Wg hRu hT0 hΦ hlen i ρ H hT hInv hIH x hx ρ2 N2 H2 locs lsB stA hAt hXs hag hfr hT2
    rcases i with ⟨i, hi⟩
    have hi2 : i = 0 ∨ i = 1 ∨ i = 2 ∨ i = 3 := by omega
    rcases hi2 with rfl | rfl | rfl | rfl
    · have hx : x ∈ [zxlo_ax0] := hx
      have hg : ∀ k, k < 3 → ρ2 k = ρ k := hag
      have hI := hInv
      have hI : ∃ n k : Nat, 1 ≤ n ∧ n ≤ 1299 ∧ (zyEl (zymr r c) B s.heap) 74 19 = some (.int (Int32.ofNat n)) ∧ zyIlo 0 n k (zyEl (zymr r c) B s.heap) ρ (zyEl (zymr r c) B H) := hI
      obtain ⟨hF, hB, hM⟩ := hXs
      have hEE : (zyEl (zymr r c) B H2) = (zyEl (zymr r c) B H) := zyfr0 hfr
      have ex := List.mem_singleton.mp hx
      subst ex
      obtain ⟨n, k, n1, n2, hst, i1, i2, i3, i4, i5, i6⟩ := hI
      have e0 := i3 rfl
      refine zyGoB hIH hAt hB ⟨1, by decide⟩ [595, 0, 0] rfl rfl rfl rfl ⟨n, 0, n1, n2, hst, by rw [hEE]; exact i1, fun _ _ => rfl, fun h => absurd (show 1 = 0 from h) (by decide), fun _ => ⟨Nat.zero_le _, fun j hj => absurd hj (Nat.not_lt_zero j), fun j _ => by rw [hEE, e0]⟩, fun h => absurd (show 1 = 2 from h) (by decide), fun h => absurd (show 1 = 3 from h) (by decide)⟩ ?_
      show 2 * (10400 - zyN1 (Int32.ofNat 0)) + (4 - 1) < 50000
      omega
    · have hx : x ∈ [zxlo_bx0, zxlo_bx1] := hx
      have hg : ∀ k, k < 3 → ρ2 k = ρ k := hag
      have hI := hInv
      have hI : ∃ n k : Nat, 1 ≤ n ∧ n ≤ 1299 ∧ (zyEl (zymr r c) B s.heap) 74 19 = some (.int (Int32.ofNat n)) ∧ zyIlo 1 n k (zyEl (zymr r c) B s.heap) ρ (zyEl (zymr r c) B H) := hI
      obtain ⟨hF, hB, hM⟩ := hXs
      have hEE : (zyEl (zymr r c) B H2) = (zyEl (zymr r c) B H) := zyfr0 hfr
      rcases List.mem_cons.mp hx with ex | hx
      · subst ex
        obtain ⟨n, k, n1, n2, hst, i1, i2, i3, i4, i5, i6⟩ := hI
        have hms : zyEl (zymr r c) B H 74 19 = some (.int (Int32.ofNat n)) := (i1 74 19 (by decide)).trans hst
        have a2 : ρ2 2 = Int32.ofNat k := (hg 2 (by decide)).trans (i2 (by decide) (by decide))
        obtain ⟨n0, w1, w2, w3⟩ := zyXe hF 0 rfl
        have w1 : Int32.ofNat 19 = Int32.ofNat n0 := w1
        have w3 : zyEl (zymr r c) B H 74 n0 = some (.int (ρ2 3)) := w3
        have em : ρ2 3 = Int32.ofNat n := zyEk w1 (by decide) w2 w3 hms
        have u1 := zyXop hF 1 rfl (by decide)
        have u1 : ρ2 4 = Int32.ofNat 8 * (ρ2 3 + Int32.ofNat 4294967295) := u1
        rw [em, zyOd n1, zyOm] at u1
        obtain ⟨km, kv, kw⟩ := i4 rfl
        have f1 := zyX20 hF 2 rfl
        have f1 : ρ2 2 < ρ2 4 := f1
        rw [a2, u1, zyOl (by omega) (by omega)] at f1
        obtain ⟨n3, v1, v2, v3⟩ := zyXe hF 3 rfl
        have v1 : ρ2 2 + Int32.ofNat 8 = Int32.ofNat n3 := v1
        have v3 : zyEl (zymr r c) B H 81 n3 = some (.int (ρ2 5)) := v3
        rw [a2, zyOa] at v1
        have T1 : zyTy (zymr r c) (zyEl (zymr r c) B H) := hT
        obtain ⟨z1, z2⟩ := zfv_el T1 (i := k + 8) (by omega)
        have v5 := zyEk v1 (by omega) v2 v3 z1
        refine zyAsB hRu hIH hAt hB 81 k (20, 10400, [(0, 10399, 73786976312018075706)]) rfl rfl rfl (cv := 171798691841) (cj := 68719476737) rfl (by decide) (by decide) ⟨2, by decide⟩ [595, 0, 68719476737] rfl rfl rfl rfl (show k < 10400 by omega) a2 ?_ ?_
        · intro r0 hr0 _ _
          rw [List.mem_singleton.mp hr0]
          refine ⟨rfl, ?_⟩
          show 2147483648 ≤ zB (ρ2 5) ∧ zB (ρ2 5) ≤ 2147483655
          rw [v5, zyBn (by omega)]
          omega
        · intro E3 hT3 e1 e2
          have e1 : E3 81 k = some (.int (ρ2 5)) := e1
          rw [hEE] at e2
          refine ⟨⟨n, k, n1, n2, hst, fun a2 k2 q1 => (e2 a2 k2 (fun z => q1 z.1)).trans (i1 a2 k2 q1), fun _ _ => a2, fun h => absurd (show 2 = 0 from h) (by decide), fun h => absurd (show 2 = 1 from h) (by decide), fun _ => ⟨f1, fun j hj => ?_, fun j hj => ?_⟩, fun h => absurd (show 2 = 3 from h) (by decide)⟩, ?_⟩
          · by_cases e : j = k
            · subst e
              have : zfv E3 j = zfv (zyEl (zymr r c) B H) (j + 8) := by
                unfold zfv zyI at *
                rw [e1, v5]
                exact zyN1_of (by omega)
              rw [this]
              exact kw _ (by omega)
            · rw [zfv_eq (e2 81 j (fun z => e z.2))]
              exact kv j (by omega)
          · rw [zfv_eq (e2 81 j (fun z => absurd z.2 (by omega)))]
            exact kw j (by omega)
          · show 2 * (10400 - zyN1 (ρ2 2)) + (4 - 2) < 2 * (10400 - zyN1 (ρ 2)) + (4 - 1)
            rw [hg 2 (by decide)]
            omega
      · skip
        have ex := List.mem_singleton.mp hx
        subst ex
        obtain ⟨n, k, n1, n2, hst, i1, i2, i3, i4, i5, i6⟩ := hI
        have hms : zyEl (zymr r c) B H 74 19 = some (.int (Int32.ofNat n)) := (i1 74 19 (by decide)).trans hst
        have a2 : ρ2 2 = Int32.ofNat k := (hg 2 (by decide)).trans (i2 (by decide) (by decide))
        obtain ⟨n0, w1, w2, w3⟩ := zyXe hF 0 rfl
        have w1 : Int32.ofNat 19 = Int32.ofNat n0 := w1
        have w3 : zyEl (zymr r c) B H 74 n0 = some (.int (ρ2 3)) := w3
        have em : ρ2 3 = Int32.ofNat n := zyEk w1 (by decide) w2 w3 hms
        have u1 := zyXop hF 1 rfl (by decide)
        have u1 : ρ2 4 = Int32.ofNat 8 * (ρ2 3 + Int32.ofNat 4294967295) := u1
        rw [em, zyOd n1, zyOm] at u1
        obtain ⟨km, kv, kw⟩ := i4 rfl
        have f1 := zyX21 hF 2 rfl
        have f1 : ¬ ρ2 2 < ρ2 4 := f1
        rw [a2, u1, zyOl (by omega) (by omega)] at f1
        refine zyGoK1 hIH hAt ⟨3, by decide⟩ [595, 0, 0, 103079215105] rfl rfl (74 * 16384 + 19) 3 zymr74 rfl rfl (show 19 < 49 by decide) (show 3 < 4 by decide) ?_ (zEnv_c (zyfull _) (zEnv_c (zyfull _) (zEnv_c (zyfull _) (zEnv_c ?_ zEnv_nil)))) ⟨n, k, n1, n2, hst, by rw [hEE]; exact i1, fun _ h => absurd (show 3 ≤ 2 from h) (by decide), fun h => absurd (show 3 = 0 from h) (by decide), fun h => absurd (show 3 = 1 from h) (by decide), fun h => absurd (show 3 = 2 from h) (by decide), fun _ => ⟨em, fun j hj => by rw [hEE]; exact kv j (by omega)⟩⟩ ?_
        · show zyEl (zymr r c) B H2 74 19 = some (.int (ρ2 3))
          rw [hEE, em]
          exact hms
        · show 2147483649 ≤ zB (ρ2 3) ∧ zB (ρ2 3) ≤ 2147484947
          rw [em, zyBn (by omega)]
          omega
        · show 0 < 2 * (10400 - zyN1 (ρ 2)) + (4 - 1)
          omega
    · have hx : x ∈ [zxlo_cx0] := hx
      have hg : ∀ k, k < 3 → ρ2 k = ρ k := hag
      have hI := hInv
      have hI : ∃ n k : Nat, 1 ≤ n ∧ n ≤ 1299 ∧ (zyEl (zymr r c) B s.heap) 74 19 = some (.int (Int32.ofNat n)) ∧ zyIlo 2 n k (zyEl (zymr r c) B s.heap) ρ (zyEl (zymr r c) B H) := hI
      obtain ⟨hF, hB, hM⟩ := hXs
      have hEE : (zyEl (zymr r c) B H2) = (zyEl (zymr r c) B H) := zyfr0 hfr
      have ex := List.mem_singleton.mp hx
      subst ex
      obtain ⟨n, k, n1, n2, hst, i1, i2, i3, i4, i5, i6⟩ := hI
      have a2 : ρ2 2 = Int32.ofNat k := (hg 2 (by decide)).trans (i2 (by decide) (by decide))
      have a2' : ρ2 2 + Int32.ofNat 1 = Int32.ofNat (k + 1) := by rw [a2, zyOa]
      obtain ⟨km, kv, kw⟩ := i5 rfl
      refine zyGoB hIH hAt hB ⟨1, by decide⟩ [595, 0, 68719476745] rfl rfl rfl rfl ⟨n, k + 1, n1, n2, hst, by rw [hEE]; exact i1, fun _ _ => a2', fun h => absurd (show 1 = 0 from h) (by decide), fun _ => ⟨by omega, fun j hj => by rw [hEE]; exact kv j (by omega), fun j hj => by rw [hEE]; exact kw j (by omega)⟩, fun h => absurd (show 1 = 2 from h) (by decide), fun h => absurd (show 1 = 3 from h) (by decide)⟩ ?_
      show 2 * (10400 - zyN1 (ρ2 2 + Int32.ofNat 1)) + (4 - 1) < 2 * (10400 - zyN1 (ρ 2)) + (4 - 2)
      rw [a2', i2 (by decide) (by decide), zyN1_of (by omega), zyN1_of (by omega)]
      omega
    · cases hx
  · intro as E0 E E2 hT0 hΦ hlen i ρ hT hInv x hx ρ2 N2 B vo hXs hag hfr hT2 hvo
    rcases i with ⟨i, hi⟩
    have hi2 : i = 0 ∨ i = 1 ∨ i = 2 ∨ i = 3 := by omega
    rcases hi2 with rfl | rfl | rfl | rfl
    · cases hx
    · cases hx
    · cases hx
    · have hx : x ∈ [zxlo_dr0] := hx
      have hg : ∀ k, k < 4 → ρ2 k = ρ k := hag
      have hI := hInv
      have hI : ∃ n k : Nat, 1 ≤ n ∧ n ≤ 1299 ∧ E0 74 19 = some (.int (Int32.ofNat n)) ∧ zyIlo 3 n k E0 ρ E := hI
      obtain ⟨hF, hB, hM⟩ := hXs
      have hfr : ∀ a k, zyin [(74, 19, 19)] a k = false → E2 a k = E a k := hfr
      have ex := List.mem_singleton.mp hx
      subst ex
      obtain ⟨n, k, n1, n2, hst, i1, i2, i3, i4, i5, i6⟩ := hI
      obtain ⟨j1, j2⟩ := i6 rfl
      have a3 : ρ2 3 = Int32.ofNat n := (hg 3 (by decide)).trans j1
      have m1 := zyXm hM 0 rfl
      have m1 : E2 74 19 = some (.int (ρ2 3 + Int32.ofNat 4294967295)) := m1
      rw [a3, zyOd n1] at m1
      have hk : ∀ a2 k2, ¬ (a2 = 74 ∧ k2 = 19) → E2 a2 k2 = E a2 k2 := by
        intro a2 k2 q
        apply hfr
        cases hq : zyin [(74, 19, 19)] a2 k2 with
        | false => rfl
        | true =>
          obtain ⟨p0, g1, g2, g3, g4⟩ := zyin_iff.mp hq
          rw [List.mem_singleton.mp g1] at g2 g3 g4
          exact absurd ⟨g2.symm, by dsimp only at g3 g4; omega⟩ q
      refine ⟨zyvo_0 (show zyvo _ [] vo from hvo), fun n' c1 c2 c3 => ?_⟩
      rw [hst] at c3
      have e2 := zyOi (by omega) (by omega) (Value.int.inj (Option.some.inj c3))
      subst e2
      refine ⟨m1, fun k hk2 => ?_, fun a2 k2 q1 q2 => (hk a2 k2 q2).trans (i1 a2 k2 q1)⟩
      rw [zfv_eq (hk 81 k (fun z => absurd z.1 (by decide)))]
      exact j2 k hk2
