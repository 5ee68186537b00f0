/-! THE WORD, forward or back, mirrored or not; can the wished one be -/
theorem zyjw_run : zyAllP (fun r c => zyrS (zymr r c) zxi240 (240, 0, 0, 0, 0) 7 zpjw (fun _ _ => []) zFjw zSjw zXjw zRjw 4) = true := by decide +kernel
theorem zyjoinsWord {l : Launch} {r c : Nat} (h1 : 1 ≤ r) (h2 : r ≤ 4) (h3 : 1 ≤ c) (h4 : c ≤ 5) {en : zEn} {me : zMe} (hen : zG zxMeta 240 = some en) (hme : zG zMeth 240 = some me) : zyHc l (zymr r c) en me 7 2 (zyΦwd 300 zLv) (zyΨwd 300) := by
  have een : zG zxMeta 240 = some (zxi240, 3, 5, 11, 240, 0, 0, 0, 0) := rfl
  obtain ⟨me1, hme1, hOK⟩ := zall hen
  rw [hme] at hme1
  cases hme1
  rw [een] at hen
  cases hen
  have hr := zyAllP_iff zyjw_run h1 h2 h3 h4
  obtain ⟨mejo, hmejo, -⟩ := zall (show zG zxMeta 237 = some (zxi237, 2, 5, 11, 237, 0, 0, 0, 0) from rfl)
  have hjo := zyjoins (l := l) h1 h2 h3 h4 (show zG zxMeta 237 = some (zxi237, 2, 5, 11, 237, 0, 0, 0, 0) from rfl) hmejo
  refine zycutS (mi := zymr r c) hOK rfl rfl ⟨_, rfl, rfl⟩ (ι := Fin 4) (fun i => zpjw i.val) (fun _ _ => []) (fun i => zFjw i.val) (fun i => zSjw i.val) (fun i => zXjw i.val) (fun i => zRjw i.val) (fun i y2 ct en2 me2 h => by cases h) 200000 (fun i => zyAll_iff hr i.val i.isLt) ⟨0, by decide⟩ ⟨rfl, rfl, rfl, rfl⟩ ⟨by decide, by decide⟩
    (fun i as E0 ρ E => ∃ n0 n m k : Nat, zBs E0 n0 m ∧ n0 + 300 ≤ 1299 ∧ zLv E0 m ∧ zyJo E0 E ∧ zBs E n m ∧ k ≤ 300 ∧ (i.val = 0 → k = 0) ∧ (1 ≤ i.val → ρ 3 = Int32.ofNat k) ∧ (i.val ≤ 2 → n ≤ n0 + k) ∧ (i.val = 2 → k < 300 ∧ ∃ d, d < 300 ∧ ρ 5 = Int32.ofNat d ∧ Int32.ofNat d < zyI E0 75 4) ∧ (i.val = 3 → k < 300 ∧ n ≤ n0 + k + 1)) (fun i as E0 ρ E => if i.val = 0 then 10000 else 3 * (300 - zyN1 (ρ 3)) + (3 - i.val)) ?_ ?_ ?_
  · intro as E hlen hT hΦ
    obtain ⟨n, m, b1, b2, b3⟩ := hΦ
    exact ⟨zEnv_c (zyfull _) (zEnv_c (zyfull _) (zEnv_c (zyfull _) (zEnv_c (zyfull _) (zEnv_c (zyfull _) zEnv_nil)))), n, n, m, 0, b1, b2, b3, fun _ _ _ _ _ => rfl, b1, Nat.zero_le _, fun _ => rfl, fun h => absurd (show 1 ≤ 0 from h) (by decide), fun _ => Nat.le_refl _, fun h => absurd (show 0 = 2 from h) (by decide), fun h => absurd (show 0 = 3 from h) (by decide)⟩
  · intro as B s Wg hRu hT0 hΦ hlen i ρ H hT hInv hIH x hx ρ2 N2 H2 locs lsB stA hAt hXs hag hfr hT2
    rcases i with ⟨i, hi⟩
    have hi2 : i = 0 ∨ i = 1 ∨ i = 2 ∨ i = 3 := by omega
    rcases hi2 with rfl | rfl | rfl | rfl
    · have hx : x ∈ [zxjw_ax0] := hx
      have hg : ∀ k, k < 5 → ρ2 k = ρ k := hag
      have hI := hInv
      have hI : ∃ n0 n m k : Nat, zBs (zyEl (zymr r c) B s.heap) n0 m ∧ n0 + 300 ≤ 1299 ∧ zLv (zyEl (zymr r c) B s.heap) m ∧ zyJo (zyEl (zymr r c) B s.heap) (zyEl (zymr r c) B H) ∧ zBs (zyEl (zymr r c) B H) n m ∧ k ≤ 300 ∧ (0 = 0 → k = 0) ∧ (1 ≤ 0 → ρ 3 = Int32.ofNat k) ∧ (0 ≤ 2 → n ≤ n0 + k) ∧ (0 = 2 → k < 300 ∧ ∃ d, d < 300 ∧ ρ 5 = Int32.ofNat d ∧ Int32.ofNat d < zyI (zyEl (zymr r c) B s.heap) 75 4) ∧ (0 = 3 → k < 300 ∧ n ≤ n0 + k + 1) := hI
      obtain ⟨hF, hB, hM⟩ := hXs
      have hEE : (zyEl (zymr r c) B H2) = (zyEl (zymr r c) B H) := zyfr0 hfr
      have ex := List.mem_singleton.mp hx
      subst ex
      obtain ⟨n0, n, m, k, b0, bn, hv, i1, hbs, hk, i2, i3, i4, i5, i6⟩ := hI
      have hm8 : m ≤ 8 := hbs.2.1
      have k0 := i2 rfl
      have nn := i4 (by decide)
      refine zyGoB hIH hAt hB ⟨1, by decide⟩ [595, 34359738369, 68719476737, 0, 0] rfl rfl rfl rfl ⟨n0, n, m, 0, b0, bn, hv, by rw [hEE]; exact i1, by rw [hEE]; exact hbs, Nat.zero_le _, fun h => absurd (show 1 = 0 from h) (by decide), fun _ => rfl, fun _ => by omega, fun h => absurd (show 1 = 2 from h) (by decide), fun h => absurd (show 1 = 3 from h) (by decide)⟩ ?_
      show 3 * (300 - zyN1 (Int32.ofNat 0)) + (3 - 1) < 10000
      omega
    · have hx : x ∈ [zxjw_bx0, zxjw_bx1, zxjw_bx2] := hx
      have hg : ∀ k, k < 5 → ρ2 k = ρ k := hag
      have hI := hInv
      have hI : ∃ n0 n m k : Nat, zBs (zyEl (zymr r c) B s.heap) n0 m ∧ n0 + 300 ≤ 1299 ∧ zLv (zyEl (zymr r c) B s.heap) m ∧ zyJo (zyEl (zymr r c) B s.heap) (zyEl (zymr r c) B H) ∧ zBs (zyEl (zymr r c) B H) n m ∧ k ≤ 300 ∧ (1 = 0 → k = 0) ∧ (1 ≤ 1 → ρ 3 = Int32.ofNat k) ∧ (1 ≤ 2 → n ≤ n0 + k) ∧ (1 = 2 → k < 300 ∧ ∃ d, d < 300 ∧ ρ 5 = Int32.ofNat d ∧ Int32.ofNat d < zyI (zyEl (zymr r c) B s.heap) 75 4) ∧ (1 = 3 → k < 300 ∧ n ≤ n0 + k + 1) := hI
      obtain ⟨hF, hB, hM⟩ := hXs
      have hEE : (zyEl (zymr r c) B H2) = (zyEl (zymr r c) B H) := zyfr0 hfr
      rcases List.mem_cons.mp hx with ex | hx
      · subst ex
        obtain ⟨n0, n, m, k, b0, bn, hv, i1, hbs, hk, i2, i3, i4, i5, i6⟩ := hI
        have hm8 : m ≤ 8 := hbs.2.1
        have e75 : ∀ q, zyI (zyEl (zymr r c) B H) 75 q = zyI (zyEl (zymr r c) B s.heap) 75 q := zyJo_75 i1
        have a3 : ρ2 3 = Int32.ofNat k := (hg 3 (by decide)).trans (i3 (by decide))
        have nn := i4 (by decide)
        obtain ⟨n3, w1, w2, w3⟩ := zyXe hF 0 rfl
        have w1 : Int32.ofNat 4 = Int32.ofNat n3 := w1
        have w3 : zyEl (zymr r c) B H 75 n3 = some (.int (ρ2 5)) := w3
        rw [← zyOi (by omega) (by omega) w1] at w3
        have f1 := zyX20 hF 1 rfl
        have f1 : ρ2 3 < ρ2 5 := f1
        have lb : 2147483649 ≤ zB (ρ2 5) ∧ zB (ρ2 5) ≤ 2147483948 := zyXb hB 2 rfl
        obtain ⟨o1, o2⟩ := zyOn (x := ρ2 5) (by omega)
        rw [a3, o1, zyOl (by omega) (by omega)] at f1
        have eL : zyI (zyEl (zymr r c) B s.heap) 75 4 = Int32.ofNat (zyN1 (ρ2 5)) := by
          rw [← e75, zyI_s w3]
          exact o1
        have f3 := zyXop hF 3 rfl (by decide)
        have f3 : ρ2 6 = ρ2 5 + Int32.ofNat 4294967295 - ρ2 3 := f3
        rw [o1, zyOd (by omega), a3, zyOs (by omega)] at f3
        obtain ⟨d, de, dl, dl2⟩ : ∃ d, ρ2 6 = Int32.ofNat d ∧ d < 300 ∧ d < zyN1 (ρ2 5) := ⟨_, f3, by omega, by omega⟩
        refine zyGoS hIH hAt ⟨2, by decide⟩ [595, 34359738369, 68719476737, 103079215105, 0, 206158430209] rfl rfl rfl (zEnv_c (zyfull _) (zEnv_c (zyfull _) (zEnv_c (zyfull _) (zEnv_c ?_ (zEnv_c (zyfull _) (zEnv_c ?_ zEnv_nil)))))) ⟨n0, n, m, k, b0, bn, hv, by rw [hEE]; exact i1, by rw [hEE]; exact hbs, hk, fun h => absurd (show 2 = 0 from h) (by decide), fun _ => a3, fun _ => nn, fun _ => ⟨by omega, d, dl, de, by rw [eL, zyOl (by omega) (by omega)]; omega⟩, fun h => absurd (show 2 = 3 from h) (by decide)⟩ ?_
        · show 2147483648 ≤ zB (ρ2 3) ∧ zB (ρ2 3) ≤ 2147483947
          rw [a3, zyBn (by omega)]
          omega
        · show 2147483648 ≤ zB (ρ2 6) ∧ zB (ρ2 6) ≤ 2147483947
          rw [de, zyBn (by omega)]
          omega
        · show 3 * (300 - zyN1 (ρ2 3)) + (3 - 2) < 3 * (300 - zyN1 (ρ 3)) + (3 - 1)
          rw [hg 3 (by decide)]
          omega
      · skip
        rcases List.mem_cons.mp hx with ex | hx
        · subst ex
          obtain ⟨n0, n, m, k, b0, bn, hv, i1, hbs, hk, i2, i3, i4, i5, i6⟩ := hI
          have hm8 : m ≤ 8 := hbs.2.1
          have e75 : ∀ q, zyI (zyEl (zymr r c) B H) 75 q = zyI (zyEl (zymr r c) B s.heap) 75 q := zyJo_75 i1
          have a3 : ρ2 3 = Int32.ofNat k := (hg 3 (by decide)).trans (i3 (by decide))
          have nn := i4 (by decide)
          obtain ⟨n3, w1, w2, w3⟩ := zyXe hF 0 rfl
          have w1 : Int32.ofNat 4 = Int32.ofNat n3 := w1
          have w3 : zyEl (zymr r c) B H 75 n3 = some (.int (ρ2 5)) := w3
          rw [← zyOi (by omega) (by omega) w1] at w3
          have f1 := zyX20 hF 1 rfl
          have f1 : ρ2 3 < ρ2 5 := f1
          have lb : 2147483649 ≤ zB (ρ2 5) ∧ zB (ρ2 5) ≤ 2147483948 := zyXb hB 2 rfl
          obtain ⟨o1, o2⟩ := zyOn (x := ρ2 5) (by omega)
          rw [a3, o1, zyOl (by omega) (by omega)] at f1
          have eL : zyI (zyEl (zymr r c) B s.heap) 75 4 = Int32.ofNat (zyN1 (ρ2 5)) := by
            rw [← e75, zyI_s w3]
            exact o1
          have f3 := zyXop hF 3 rfl (by decide)
          have f3 : ρ2 6 = ρ2 5 + Int32.ofNat 4294967295 - ρ2 3 := f3
          rw [o1, zyOd (by omega), a3, zyOs (by omega)] at f3
          obtain ⟨d, de, dl, dl2⟩ : ∃ d, ρ2 6 = Int32.ofNat d ∧ d < 300 ∧ d < zyN1 (ρ2 5) := ⟨_, f3, by omega, by omega⟩
          refine zyGoS hIH hAt ⟨2, by decide⟩ [595, 34359738369, 68719476737, 103079215105, 0, 206158430209] rfl rfl rfl (zEnv_c (zyfull _) (zEnv_c (zyfull _) (zEnv_c (zyfull _) (zEnv_c ?_ (zEnv_c (zyfull _) (zEnv_c ?_ zEnv_nil)))))) ⟨n0, n, m, k, b0, bn, hv, by rw [hEE]; exact i1, by rw [hEE]; exact hbs, hk, fun h => absurd (show 2 = 0 from h) (by decide), fun _ => a3, fun _ => nn, fun _ => ⟨by omega, d, dl, de, by rw [eL, zyOl (by omega) (by omega)]; omega⟩, fun h => absurd (show 2 = 3 from h) (by decide)⟩ ?_
          · show 2147483648 ≤ zB (ρ2 3) ∧ zB (ρ2 3) ≤ 2147483947
            rw [a3, zyBn (by omega)]
            omega
          · show 2147483648 ≤ zB (ρ2 6) ∧ zB (ρ2 6) ≤ 2147483947
            rw [de, zyBn (by omega)]
            omega
          · show 3 * (300 - zyN1 (ρ2 3)) + (3 - 2) < 3 * (300 - zyN1 (ρ 3)) + (3 - 1)
            rw [hg 3 (by decide)]
            omega
        · skip
          have ex := List.mem_singleton.mp hx
          subst ex
          obtain ⟨n0, n, m, k, b0, bn, hv, i1, hbs, hk, i2, i3, i4, i5, i6⟩ := hI
          have hm8 : m ≤ 8 := hbs.2.1
          have e75 : ∀ q, zyI (zyEl (zymr r c) B H) 75 q = zyI (zyEl (zymr r c) B s.heap) 75 q := zyJo_75 i1
          have a3 : ρ2 3 = Int32.ofNat k := (hg 3 (by decide)).trans (i3 (by decide))
          have nn := i4 (by decide)
          obtain ⟨n3, w1, w2, w3⟩ := zyXe hF 0 rfl
          have w1 : Int32.ofNat 4 = Int32.ofNat n3 := w1
          have w3 : zyEl (zymr r c) B H 75 n3 = some (.int (ρ2 5)) := w3
          rw [← zyOi (by omega) (by omega) w1] at w3
          have f1 := zyX20 hF 1 rfl
          have f1 : ρ2 3 < ρ2 5 := f1
          have lb : 2147483649 ≤ zB (ρ2 5) ∧ zB (ρ2 5) ≤ 2147483948 := zyXb hB 2 rfl
          obtain ⟨o1, o2⟩ := zyOn (x := ρ2 5) (by omega)
          rw [a3, o1, zyOl (by omega) (by omega)] at f1
          have eL : zyI (zyEl (zymr r c) B s.heap) 75 4 = Int32.ofNat (zyN1 (ρ2 5)) := by
            rw [← e75, zyI_s w3]
            exact o1
          obtain ⟨d, de, dl, dl2⟩ : ∃ d, ρ2 3 = Int32.ofNat d ∧ d < 300 ∧ d < zyN1 (ρ2 5) := ⟨k, a3, by omega, f1⟩
          refine zyGoS hIH hAt ⟨2, by decide⟩ [595, 34359738369, 68719476737, 103079215105, 0, 103079215105] rfl rfl rfl (zEnv_c (zyfull _) (zEnv_c (zyfull _) (zEnv_c (zyfull _) (zEnv_c ?_ (zEnv_c (zyfull _) (zEnv_c ?_ zEnv_nil)))))) ⟨n0, n, m, k, b0, bn, hv, by rw [hEE]; exact i1, by rw [hEE]; exact hbs, hk, fun h => absurd (show 2 = 0 from h) (by decide), fun _ => a3, fun _ => nn, fun _ => ⟨by omega, d, dl, de, by rw [eL, zyOl (by omega) (by omega)]; omega⟩, fun h => absurd (show 2 = 3 from h) (by decide)⟩ ?_
          · show 2147483648 ≤ zB (ρ2 3) ∧ zB (ρ2 3) ≤ 2147483947
            rw [a3, zyBn (by omega)]
            omega
          · show 2147483648 ≤ zB (ρ2 3) ∧ zB (ρ2 3) ≤ 2147483947
            rw [de, zyBn (by omega)]
            omega
          · show 3 * (300 - zyN1 (ρ2 3)) + (3 - 2) < 3 * (300 - zyN1 (ρ 3)) + (3 - 1)
            rw [hg 3 (by decide)]
            omega
    · have hx : x ∈ [zxjw_dx0, zxjw_dx1, zxjw_dx2] := hx
      have hg : ∀ k, k < 6 → ρ2 k = ρ k := hag
      have hI := hInv
      have hI : ∃ n0 n m k : Nat, zBs (zyEl (zymr r c) B s.heap) n0 m ∧ n0 + 300 ≤ 1299 ∧ zLv (zyEl (zymr r c) B s.heap) m ∧ zyJo (zyEl (zymr r c) B s.heap) (zyEl (zymr r c) B H) ∧ zBs (zyEl (zymr r c) B H) n m ∧ k ≤ 300 ∧ (2 = 0 → k = 0) ∧ (1 ≤ 2 → ρ 3 = Int32.ofNat k) ∧ (2 ≤ 2 → n ≤ n0 + k) ∧ (2 = 2 → k < 300 ∧ ∃ d, d < 300 ∧ ρ 5 = Int32.ofNat d ∧ Int32.ofNat d < zyI (zyEl (zymr r c) B s.heap) 75 4) ∧ (2 = 3 → k < 300 ∧ n ≤ n0 + k + 1) := hI
      obtain ⟨hF, hB, hM⟩ := hXs
      have hEE : (zyEl (zymr r c) B H2) = (zyEl (zymr r c) B H) := zyfr0 hfr
      rcases List.mem_cons.mp hx with ex | hx
      · subst ex
        obtain ⟨n0, n, m, k, b0, bn, hv, i1, hbs, hk, i2, i3, i4, i5, i6⟩ := hI
        have hm8 : m ≤ 8 := hbs.2.1
        have e75 : ∀ q, zyI (zyEl (zymr r c) B H) 75 q = zyI (zyEl (zymr r c) B s.heap) 75 q := zyJo_75 i1
        have a3 : ρ2 3 = Int32.ofNat k := (hg 3 (by decide)).trans (i3 (by decide))
        have nn := i4 (by decide)
        obtain ⟨k3, d, dl, de, dv⟩ := i5 rfl
        have a5 : ρ2 5 = Int32.ofNat d := (hg 5 (by decide)).trans de
        obtain ⟨n4, w4, w5, w6⟩ := zyXe hF 0 rfl
        have w4 : ρ2 5 + Int32.ofNat 160 = Int32.ofNat n4 := w4
        have w6 : zyEl (zymr r c) B H 75 n4 = some (.int (ρ2 6)) := w6
        rw [a5, zyOa] at w4
        have e4 := zyOi (by omega) (by omega) w4
        rw [← e4] at w6
        have hv6 : zVl m (ρ2 6) := by
          have := hv d dl dv
          rw [← e75, Nat.add_comm, zyI_s w6] at this
          exact this
        have f2 := zyXop hF 2 rfl (by decide)
        have f2 : ρ2 7 = Int32.ofNat 0 - ρ2 6 := f2
        have hval : zVl m (ρ2 7) := by
          rw [f2]
          exact zVl_neg hm8 hv6
        refine zyCa0 hRu hIH hAt hB hjo (ix := 242) (ax := 3792) rfl rfl rfl hmejo ⟨rfl, rfl, rfl, rfl⟩ (by decide) [240518168577] rfl (by decide) rfl ⟨3, by decide⟩ [595, 34359738369, 68719476737, 103079215105, 0] rfl rfl rfl rfl ?_ ?_
        · show zyΦjo [ρ2 7] _
          rw [hEE]
          exact zBs_Φ hbs (by omega) hval
        · intro E3 vo hT3 hΨ
          have hΨ : zyΨjo [ρ2 7] _ E3 vo := hΨ
          rw [hEE] at hΨ
          obtain ⟨ev, n', q1, q2, q3⟩ := zBs_jo hbs (by omega) hΨ
          refine ⟨ev, ⟨n0, n', m, k, b0, bn, hv, zyJo_t i1 q3, q2, hk, fun h => absurd (show 3 = 0 from h) (by decide), fun _ => a3, fun h => absurd (show 3 ≤ 2 from h) (by decide), fun h => absurd (show 3 = 2 from h) (by decide), fun _ => ⟨k3, by omega⟩⟩, ?_⟩
          show 3 * (300 - zyN1 (ρ2 3)) + (3 - 3) < 3 * (300 - zyN1 (ρ 3)) + (3 - 2)
          rw [hg 3 (by decide)]
          omega
      · skip
        rcases List.mem_cons.mp hx with ex | hx
        · subst ex
          obtain ⟨n0, n, m, k, b0, bn, hv, i1, hbs, hk, i2, i3, i4, i5, i6⟩ := hI
          have hm8 : m ≤ 8 := hbs.2.1
          have e75 : ∀ q, zyI (zyEl (zymr r c) B H) 75 q = zyI (zyEl (zymr r c) B s.heap) 75 q := zyJo_75 i1
          have a3 : ρ2 3 = Int32.ofNat k := (hg 3 (by decide)).trans (i3 (by decide))
          have nn := i4 (by decide)
          obtain ⟨k3, d, dl, de, dv⟩ := i5 rfl
          have a5 : ρ2 5 = Int32.ofNat d := (hg 5 (by decide)).trans de
          obtain ⟨n4, w4, w5, w6⟩ := zyXe hF 0 rfl
          have w4 : ρ2 5 + Int32.ofNat 160 = Int32.ofNat n4 := w4
          have w6 : zyEl (zymr r c) B H 75 n4 = some (.int (ρ2 6)) := w6
          rw [a5, zyOa] at w4
          have e4 := zyOi (by omega) (by omega) w4
          rw [← e4] at w6
          have hv6 : zVl m (ρ2 6) := by
            have := hv d dl dv
            rw [← e75, Nat.add_comm, zyI_s w6] at this
            exact this
          have f2 := zyXop hF 2 rfl (by decide)
          have f2 : ρ2 7 = Int32.ofNat 0 - ρ2 6 := f2
          have hval : zVl m (ρ2 7) := by
            rw [f2]
            exact zVl_neg hm8 hv6
          refine zyCa0 hRu hIH hAt hB hjo (ix := 242) (ax := 3792) rfl rfl rfl hmejo ⟨rfl, rfl, rfl, rfl⟩ (by decide) [240518168577] rfl (by decide) rfl ⟨3, by decide⟩ [595, 34359738369, 68719476737, 103079215105, 0] rfl rfl rfl rfl ?_ ?_
          · show zyΦjo [ρ2 7] _
            rw [hEE]
            exact zBs_Φ hbs (by omega) hval
          · intro E3 vo hT3 hΨ
            have hΨ : zyΨjo [ρ2 7] _ E3 vo := hΨ
            rw [hEE] at hΨ
            obtain ⟨ev, n', q1, q2, q3⟩ := zBs_jo hbs (by omega) hΨ
            refine ⟨ev, ⟨n0, n', m, k, b0, bn, hv, zyJo_t i1 q3, q2, hk, fun h => absurd (show 3 = 0 from h) (by decide), fun _ => a3, fun h => absurd (show 3 ≤ 2 from h) (by decide), fun h => absurd (show 3 = 2 from h) (by decide), fun _ => ⟨k3, by omega⟩⟩, ?_⟩
            show 3 * (300 - zyN1 (ρ2 3)) + (3 - 3) < 3 * (300 - zyN1 (ρ 3)) + (3 - 2)
            rw [hg 3 (by decide)]
            omega
        · skip
          have ex := List.mem_singleton.mp hx
          subst ex
          obtain ⟨n0, n, m, k, b0, bn, hv, i1, hbs, hk, i2, i3, i4, i5, i6⟩ := hI
          have hm8 : m ≤ 8 := hbs.2.1
          have e75 : ∀ q, zyI (zyEl (zymr r c) B H) 75 q = zyI (zyEl (zymr r c) B s.heap) 75 q := zyJo_75 i1
          have a3 : ρ2 3 = Int32.ofNat k := (hg 3 (by decide)).trans (i3 (by decide))
          have nn := i4 (by decide)
          obtain ⟨k3, d, dl, de, dv⟩ := i5 rfl
          have a5 : ρ2 5 = Int32.ofNat d := (hg 5 (by decide)).trans de
          obtain ⟨n4, w4, w5, w6⟩ := zyXe hF 0 rfl
          have w4 : ρ2 5 + Int32.ofNat 160 = Int32.ofNat n4 := w4
          have w6 : zyEl (zymr r c) B H 75 n4 = some (.int (ρ2 6)) := w6
          rw [a5, zyOa] at w4
          have e4 := zyOi (by omega) (by omega) w4
          rw [← e4] at w6
          have hv6 : zVl m (ρ2 6) := by
            have := hv d dl dv
            rw [← e75, Nat.add_comm, zyI_s w6] at this
            exact this
          have hval := hv6
          refine zyCa0 hRu hIH hAt hB hjo (ix := 242) (ax := 3792) rfl rfl rfl hmejo ⟨rfl, rfl, rfl, rfl⟩ (by decide) [206158430209] rfl (by decide) rfl ⟨3, by decide⟩ [595, 34359738369, 68719476737, 103079215105, 0] rfl rfl rfl rfl ?_ ?_
          · show zyΦjo [ρ2 6] _
            rw [hEE]
            exact zBs_Φ hbs (by omega) hval
          · intro E3 vo hT3 hΨ
            have hΨ : zyΨjo [ρ2 6] _ E3 vo := hΨ
            rw [hEE] at hΨ
            obtain ⟨ev, n', q1, q2, q3⟩ := zBs_jo hbs (by omega) hΨ
            refine ⟨ev, ⟨n0, n', m, k, b0, bn, hv, zyJo_t i1 q3, q2, hk, fun h => absurd (show 3 = 0 from h) (by decide), fun _ => a3, fun h => absurd (show 3 ≤ 2 from h) (by decide), fun h => absurd (show 3 = 2 from h) (by decide), fun _ => ⟨k3, by omega⟩⟩, ?_⟩
            show 3 * (300 - zyN1 (ρ2 3)) + (3 - 3) < 3 * (300 - zyN1 (ρ 3)) + (3 - 2)
            rw [hg 3 (by decide)]
            omega
    · have hx : x ∈ [zxjw_cx0] := hx
      have hg : ∀ k, k < 5 → ρ2 k = ρ k := hag
      have hI := hInv
      have hI : ∃ n0 n m k : Nat, zBs (zyEl (zymr r c) B s.heap) n0 m ∧ n0 + 300 ≤ 1299 ∧ zLv (zyEl (zymr r c) B s.heap) m ∧ zyJo (zyEl (zymr r c) B s.heap) (zyEl (zymr r c) B H) ∧ zBs (zyEl (zymr r c) B H) n m ∧ k ≤ 300 ∧ (3 = 0 → k = 0) ∧ (1 ≤ 3 → ρ 3 = Int32.ofNat k) ∧ (3 ≤ 2 → n ≤ n0 + k) ∧ (3 = 2 → k < 300 ∧ ∃ d, d < 300 ∧ ρ 5 = Int32.ofNat d ∧ Int32.ofNat d < zyI (zyEl (zymr r c) B s.heap) 75 4) ∧ (3 = 3 → k < 300 ∧ n ≤ n0 + k + 1) := hI
      obtain ⟨hF, hB, hM⟩ := hXs
      have hEE : (zyEl (zymr r c) B H2) = (zyEl (zymr r c) B H) := zyfr0 hfr
      have ex := List.mem_singleton.mp hx
      subst ex
      obtain ⟨n0, n, m, k, b0, bn, hv, i1, hbs, hk, i2, i3, i4, i5, i6⟩ := hI
      have hm8 : m ≤ 8 := hbs.2.1
      have a3 : ρ2 3 = Int32.ofNat k := (hg 3 (by decide)).trans (i3 (by decide))
      obtain ⟨k6, nn⟩ := i6 rfl
      have a3' : ρ2 3 + Int32.ofNat 1 = Int32.ofNat (k + 1) := by rw [a3, zyOa]
      refine zyGoB hIH hAt hB ⟨1, by decide⟩ [595, 34359738369, 68719476737, 103079215113, 0] rfl rfl rfl rfl ⟨n0, n, m, k + 1, b0, bn, hv, by rw [hEE]; exact i1, by rw [hEE]; exact hbs, by omega, fun h => absurd (show 1 = 0 from h) (by decide), fun _ => a3', fun _ => by omega, fun h => absurd (show 1 = 2 from h) (by decide), fun h => absurd (show 1 = 3 from h) (by decide)⟩ ?_
      show 3 * (300 - zyN1 (ρ2 3 + Int32.ofNat 1)) + (3 - 1) < 3 * (300 - zyN1 (ρ 3)) + (3 - 3)
      rw [a3', i3 (by decide), zyN1_of (by omega), zyN1_of (by omega)]
      omega
  · intro as E0 E E2 hT0 hΦ hlen i ρ hT hInv x hx ρ2 N2 B vo hXs hag hfr hT2 hvo
    rcases i with ⟨i, hi⟩
    have hi2 : i = 0 ∨ i = 1 ∨ i = 2 ∨ i = 3 := by omega
    rcases hi2 with rfl | rfl | rfl | rfl
    · cases hx
    · have hx : x ∈ [zxjw_br0] := hx
      have hg : ∀ k, k < 5 → ρ2 k = ρ k := hag
      have hI := hInv
      have hI : ∃ n0 n m k : Nat, zBs E0 n0 m ∧ n0 + 300 ≤ 1299 ∧ zLv E0 m ∧ zyJo E0 E ∧ zBs E n m ∧ k ≤ 300 ∧ (1 = 0 → k = 0) ∧ (1 ≤ 1 → ρ 3 = Int32.ofNat k) ∧ (1 ≤ 2 → n ≤ n0 + k) ∧ (1 = 2 → k < 300 ∧ ∃ d, d < 300 ∧ ρ 5 = Int32.ofNat d ∧ Int32.ofNat d < zyI E0 75 4) ∧ (1 = 3 → k < 300 ∧ n ≤ n0 + k + 1) := hI
      obtain ⟨hF, hB, hM⟩ := hXs
      have hEE : E2 = E := zyfr0 hfr
      have ex := List.mem_singleton.mp hx
      subst ex
      obtain ⟨n0, n, m, k, b0, bn, hv, i1, hbs, hk, i2, i3, i4, i5, i6⟩ := hI
      have hm8 : m ≤ 8 := hbs.2.1
      have nn := i4 (by decide)
      refine ⟨zyvo_0 (show zyvo _ [] vo from hvo), by rw [hEE]; exact i1, fun n2 m2 d1 d2 => ?_⟩
      obtain ⟨e1, e2⟩ := zBs_m b0 d1
      subst e1
      subst e2
      rw [hEE]
      exact ⟨n, by omega, hbs⟩
    · cases hx
    · cases hx
def zWv (E : zyEm) : Prop := ∀ k, k < 60 → Int32.ofNat k < zyI E 75 5 → ¬ zyI E 75 (460 + k) = Int32.ofNat 0
def zyΦcw (_ : List Int32) (E : zyEm) : Prop := ∃ m : Nat, m ≤ 8 ∧ E 75 2 = some (.int (Int32.ofNat m)) ∧ zWv E
def zyΨcw (_ : List Int32) (E E2 : zyEm) (vo : Option Value) : Prop := E2 = E ∧ ∃ z : Int32, vo = some (.int z) ∧ (z = 0 ∨ (z = 1 ∧ ∀ m : Nat, m ≤ 8 → E 75 2 = some (.int (Int32.ofNat m)) → zWl E m))
theorem zVl_p {m : Nat} {x : Int32} (hm : m ≤ 8) (h0 : 2147483648 ≤ zB x) (hn : ¬ x = Int32.ofNat 0) (hl : x < Int32.ofNat m) : zVl m x := by
  obtain ⟨o1, o2⟩ := zyOn h0
  have hl2 : zB x < zB (Int32.ofNat m) := zylt_B.mp hl
  rw [zyBn (by omega)] at hl2
  rw [o1, zyOl (by omega) (by omega)] at hl
  have h1 : ¬ zyN1 x = 0 := fun q => hn (by rw [o1, q])
  refine ⟨true, zyN1 x - 1, by omega, Or.inl ⟨rfl, ?_⟩⟩
  rw [show zyN1 x - 1 + 1 = zyN1 x by omega]
  exact o1
theorem zycw_run : zyAllP (fun r c => zyrS (zymr r c) zxi244 (244, 0, 0, 2, 0) 2 zpcw (fun _ _ => []) zFcw zScw zXcw zRcw 2) = true := by decide +kernel
theorem zycanBeWished {l : Launch} {r c : Nat} (h1 : 1 ≤ r) (h2 : r ≤ 4) (h3 : 1 ≤ c) (h4 : c ≤ 5) {en : zEn} {me : zMe} (hen : zG zxMeta 244 = some en) (hme : zG zMeth 244 = some me) : zyHc l (zymr r c) en me 2 0 zyΦcw zyΨcw := by
  have een : zG zxMeta 244 = some (zxi244, 1, 3, 11, 244, 0, 0, 2, 0) := rfl
  obtain ⟨me1, hme1, hOK⟩ := zall hen
  rw [hme] at hme1
  cases hme1
  rw [een] at hen
  cases hen
  have hr := zyAllP_iff zycw_run h1 h2 h3 h4
  refine zycutS (mi := zymr r c) hOK rfl rfl ⟨_, rfl, rfl⟩ (ι := Fin 2) (fun i => zpcw i.val) (fun _ _ => []) (fun i => zFcw i.val) (fun i => zScw i.val) (fun i => zXcw i.val) (fun i => zRcw i.val) (fun i y2 ct en2 me2 h => by cases h) 200000 (fun i => zyAll_iff hr i.val i.isLt) ⟨0, by decide⟩ ⟨rfl, rfl, rfl, rfl⟩ ⟨by decide, by decide⟩
    (fun i as E0 ρ E => E = E0 ∧ ∃ k : Nat, k ≤ 60 ∧ (i.val = 0 → k = 0) ∧ (i.val = 1 → ρ 1 = Int32.ofNat k) ∧ ∀ m : Nat, m ≤ 8 → E0 75 2 = some (.int (Int32.ofNat m)) → ∀ j, j < k → zVl m (zyI E0 75 (460 + j))) (fun i as E0 ρ E => if i.val = 0 then 100 else 60 - zyN1 (ρ 1)) ?_ ?_ ?_
  · intro as E hlen hT hΦ
    exact ⟨zEnv_c (zyfull _) (zEnv_c (zyfull _) (zEnv_c (zyfull _) zEnv_nil)), rfl, 0, Nat.zero_le _, fun _ => rfl, fun h => absurd (show 0 = 1 from h) (by decide), fun _ _ _ j hj => absurd hj (Nat.not_lt_zero j)⟩
  · intro as B s Wg hRu hT0 hΦ hlen i ρ H hT hInv hIH x hx ρ2 N2 H2 locs lsB stA hAt hXs hag hfr hT2
    rcases i with ⟨i, hi⟩
    have hi2 : i = 0 ∨ i = 1 := by omega
    rcases hi2 with rfl | rfl
    · have hx : x ∈ [zxcw_ax0] := hx
      have hg : ∀ k, k < 3 → ρ2 k = ρ k := hag
      have hI := hInv
      have hI : (zyEl (zymr r c) B H) = (zyEl (zymr r c) B s.heap) ∧ ∃ k : Nat, k ≤ 60 ∧ (0 = 0 → k = 0) ∧ (0 = 1 → ρ 1 = Int32.ofNat k) ∧ ∀ m : Nat, m ≤ 8 → (zyEl (zymr r c) B s.heap) 75 2 = some (.int (Int32.ofNat m)) → ∀ j, j < k → zVl m (zyI (zyEl (zymr r c) B s.heap) 75 (460 + j)) := hI
      obtain ⟨hF, hB, hM⟩ := hXs
      have hEE : (zyEl (zymr r c) B H2) = (zyEl (zymr r c) B H) := zyfr0 hfr
      have ex := List.mem_singleton.mp hx
      subst ex
      obtain ⟨e0, k, hk, i2, i3, i4⟩ := hI
      refine zyGoB hIH hAt hB ⟨1, by decide⟩ [595, 0, 0] rfl rfl rfl rfl ⟨hEE.trans e0, 0, Nat.zero_le _, fun h => absurd (show 1 = 0 from h) (by decide), fun _ => rfl, fun _ _ _ j hj => absurd hj (Nat.not_lt_zero j)⟩ ?_
      show 60 - zyN1 (Int32.ofNat 0) < 100
      omega
    · have hx : x ∈ [zxcw_bx0, zxcw_bx1] := hx
      have hg : ∀ k, k < 3 → ρ2 k = ρ k := hag
      have hI := hInv
      have hI : (zyEl (zymr r c) B H) = (zyEl (zymr r c) B s.heap) ∧ ∃ k : Nat, k ≤ 60 ∧ (1 = 0 → k = 0) ∧ (1 = 1 → ρ 1 = Int32.ofNat k) ∧ ∀ m : Nat, m ≤ 8 → (zyEl (zymr r c) B s.heap) 75 2 = some (.int (Int32.ofNat m)) → ∀ j, j < k → zVl m (zyI (zyEl (zymr r c) B s.heap) 75 (460 + j)) := hI
      obtain ⟨hF, hB, hM⟩ := hXs
      have hEE : (zyEl (zymr r c) B H2) = (zyEl (zymr r c) B H) := zyfr0 hfr
      rcases List.mem_cons.mp hx with ex | hx
      · subst ex
        obtain ⟨e0, k, hk, i2, i3, i4⟩ := hI
        have a1 : ρ2 1 = Int32.ofNat k := (hg 1 (by decide)).trans (i3 rfl)
        have a1' : ρ2 1 + Int32.ofNat 1 = Int32.ofNat (k + 1) := by rw [a1, zyOa]
        obtain ⟨m0, m1, m2, hw⟩ := hΦ
        rw [e0] at hF
        have kb : 2147483648 ≤ zB (ρ2 1) ∧ zB (ρ2 1) ≤ 2147483707 := zyXb hB 0 rfl
        rw [a1, zyBn (by omega)] at kb
        obtain ⟨n3, w1, w2, w3⟩ := zyXe hF 0 rfl
        have w1 : Int32.ofNat 5 = Int32.ofNat n3 := w1
        have w3 : zyEl (zymr r c) B s.heap 75 n3 = some (.int (ρ2 3)) := w3
        rw [← zyOi (by omega) (by omega) w1] at w3
        have f1 := zyX20 hF 1 rfl
        have f1 : ρ2 1 < ρ2 3 := f1
        rw [a1, ← zyI_s w3] at f1
        obtain ⟨n4, w4, w5, w6⟩ := zyXe hF 2 rfl
        have w4 : ρ2 1 + Int32.ofNat 460 = Int32.ofNat n4 := w4
        have w6 : zyEl (zymr r c) B s.heap 75 n4 = some (.int (ρ2 4)) := w6
        rw [a1, zyOa] at w4
        rw [← zyOi (by omega) (by omega) w4] at w6
        have hne := hw k (by omega) f1
        rw [Nat.add_comm, zyI_s w6] at hne
        have f4 := zyXop hF 4 rfl (by decide)
        have f4 : ρ2 5 = Int32.ofNat 0 - ρ2 4 := f4
        obtain ⟨n5, u1, u2, u3⟩ := zyXe hF 5 rfl
        have u1 : Int32.ofNat 2 = Int32.ofNat n5 := u1
        have u3 : zyEl (zymr r c) B s.heap 75 n5 = some (.int (ρ2 6)) := u3
        have em : ρ2 6 = Int32.ofNat m0 := zyEk u1 (by omega) u2 u3 m2
        have f6 := zyX20 hF 6 rfl
        have f6 : ρ2 5 < ρ2 6 := f6
        rw [em] at f6
        have b5 : 2147483649 ≤ zB (ρ2 5) ∧ zB (ρ2 5) ≤ 2147483655 := zyXb hB 3 rfl
        have hval : zVl m0 (ρ2 4) := by
          have h5 := zVl_p m1 (by omega) (fun q => by rw [q, zyBn (by omega)] at b5; omega) f6
          have h6 := zVl_neg m1 h5
          have e5 : Int32.ofNat 0 - ρ2 5 = ρ2 4 := by
            rw [f4]
            apply zN_inj
            rw [zN_sub, zN_sub, zN_of]
            have := (ρ2 4).toBitVec.isLt
            omega
          rw [e5] at h6
          exact h6
        refine zyGoB hIH hAt hB ⟨1, by decide⟩ [595, 34359738377, 0] rfl rfl rfl rfl ⟨hEE.trans e0, k + 1, by omega, fun h => absurd (show 1 = 0 from h) (by decide), fun _ => a1', fun m hm hms j hj => ?_⟩ ?_
        · by_cases e : j = k
          · rw [e, Nat.add_comm, zyI_s w6]
            rw [m2] at hms
            rw [← zyOi (by omega) (by omega) (Value.int.inj (Option.some.inj hms))]
            exact hval
          · exact i4 m hm hms j (by omega)
        · show 60 - zyN1 (ρ2 1 + Int32.ofNat 1) < 60 - zyN1 (ρ 1)
          rw [a1', i3 rfl, zyN1_of (by omega), zyN1_of (by omega)]
          omega
      · skip
        have ex := List.mem_singleton.mp hx
        subst ex
        obtain ⟨e0, k, hk, i2, i3, i4⟩ := hI
        have a1 : ρ2 1 = Int32.ofNat k := (hg 1 (by decide)).trans (i3 rfl)
        have a1' : ρ2 1 + Int32.ofNat 1 = Int32.ofNat (k + 1) := by rw [a1, zyOa]
        obtain ⟨m0, m1, m2, hw⟩ := hΦ
        rw [e0] at hF
        have kb : 2147483648 ≤ zB (ρ2 1) ∧ zB (ρ2 1) ≤ 2147483707 := zyXb hB 0 rfl
        rw [a1, zyBn (by omega)] at kb
        obtain ⟨n3, w1, w2, w3⟩ := zyXe hF 0 rfl
        have w1 : Int32.ofNat 5 = Int32.ofNat n3 := w1
        have w3 : zyEl (zymr r c) B s.heap 75 n3 = some (.int (ρ2 3)) := w3
        rw [← zyOi (by omega) (by omega) w1] at w3
        have f1 := zyX20 hF 1 rfl
        have f1 : ρ2 1 < ρ2 3 := f1
        rw [a1, ← zyI_s w3] at f1
        obtain ⟨n4, w4, w5, w6⟩ := zyXe hF 2 rfl
        have w4 : ρ2 1 + Int32.ofNat 460 = Int32.ofNat n4 := w4
        have w6 : zyEl (zymr r c) B s.heap 75 n4 = some (.int (ρ2 4)) := w6
        rw [a1, zyOa] at w4
        rw [← zyOi (by omega) (by omega) w4] at w6
        have hne := hw k (by omega) f1
        rw [Nat.add_comm, zyI_s w6] at hne
        obtain ⟨n5, u1, u2, u3⟩ := zyXe hF 4 rfl
        have u1 : Int32.ofNat 2 = Int32.ofNat n5 := u1
        have u3 : zyEl (zymr r c) B s.heap 75 n5 = some (.int (ρ2 5)) := u3
        have em : ρ2 5 = Int32.ofNat m0 := zyEk u1 (by omega) u2 u3 m2
        have f6 := zyX20 hF 5 rfl
        have f6 : ρ2 4 < ρ2 5 := f6
        rw [em] at f6
        have b4 : 2147483648 ≤ zB (ρ2 4) ∧ zB (ρ2 4) ≤ 2147483655 := zyXb hB 2 rfl
        have hval : zVl m0 (ρ2 4) := zVl_p m1 b4.1 hne f6
        refine zyGoB hIH hAt hB ⟨1, by decide⟩ [595, 34359738377, 0] rfl rfl rfl rfl ⟨hEE.trans e0, k + 1, by omega, fun h => absurd (show 1 = 0 from h) (by decide), fun _ => a1', fun m hm hms j hj => ?_⟩ ?_
        · by_cases e : j = k
          · rw [e, Nat.add_comm, zyI_s w6]
            rw [m2] at hms
            rw [← zyOi (by omega) (by omega) (Value.int.inj (Option.some.inj hms))]
            exact hval
          · exact i4 m hm hms j (by omega)
        · show 60 - zyN1 (ρ2 1 + Int32.ofNat 1) < 60 - zyN1 (ρ 1)
          rw [a1', i3 rfl, zyN1_of (by omega), zyN1_of (by omega)]
          omega
  · intro as E0 E E2 hT0 hΦ hlen i ρ hT hInv x hx ρ2 N2 B vo hXs hag hfr hT2 hvo
    rcases i with ⟨i, hi⟩
    have hi2 : i = 0 ∨ i = 1 := by omega
    rcases hi2 with rfl | rfl
    · cases hx
    · have hx : x ∈ [zxcw_br0, zxcw_br1, zxcw_br2] := hx
      have hg : ∀ k, k < 3 → ρ2 k = ρ k := hag
      have hI := hInv
      have hI : E = E0 ∧ ∃ k : Nat, k ≤ 60 ∧ (1 = 0 → k = 0) ∧ (1 = 1 → ρ 1 = Int32.ofNat k) ∧ ∀ m : Nat, m ≤ 8 → E0 75 2 = some (.int (Int32.ofNat m)) → ∀ j, j < k → zVl m (zyI E0 75 (460 + j)) := hI
      obtain ⟨hF, hB, hM⟩ := hXs
      have hEE : E2 = E := zyfr0 hfr
      rcases List.mem_cons.mp hx with ex | hx
      · subst ex
        exact ⟨hEE.trans hI.1, 0, zyvo_1 (c := 0) (by decide) (show zyvo (zyXn B ρ2 N2) [0] vo from hvo), Or.inl rfl⟩
      · skip
        rcases List.mem_cons.mp hx with ex | hx
        · subst ex
          exact ⟨hEE.trans hI.1, 0, zyvo_1 (c := 0) (by decide) (show zyvo (zyXn B ρ2 N2) [0] vo from hvo), Or.inl rfl⟩
        · skip
          have ex := List.mem_singleton.mp hx
          subst ex
          obtain ⟨e0, k, hk, i2, i3, i4⟩ := hI
          have a1 : ρ2 1 = Int32.ofNat k := (hg 1 (by decide)).trans (i3 rfl)
          rw [e0] at hF
          obtain ⟨n3, w1, w2, w3⟩ := zyXe hF 0 rfl
          have w1 : Int32.ofNat 5 = Int32.ofNat n3 := w1
          have w3 : E0 75 n3 = some (.int (ρ2 3)) := w3
          rw [← zyOi (by omega) (by omega) w1] at w3
          have f1 := zyX21 hF 1 rfl
          have f1 : ¬ ρ2 1 < ρ2 3 := f1
          rw [a1, ← zyI_s w3] at f1
          refine ⟨hEE.trans e0, 1, zyvo_1 (c := 8) (by decide) (show zyvo (zyXn B ρ2 N2) [8] vo from hvo), Or.inr ⟨rfl, fun m hm hms j hj hj2 => i4 m hm hms j ?_⟩⟩
          rw [zylt_B, zyBn (by omega)] at f1 hj2
          omega
