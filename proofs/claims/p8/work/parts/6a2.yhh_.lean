section
/-! A STEP IS TRIED: tries -/
def zsl (E : zyEm) (j : Nat) : Nat := zyN1 (zyI E 77 j)
theorem zsl_el {r c : Nat} {E : zyEm} (hT : zyTy (zymr r c) E) {i : Nat} (hi : i < 8) : E 77 i = some (.int (Int32.ofNat (zsl E i))) ∧ zsl E i < 80 := by
  obtain ⟨x, h1, h2, h3⟩ := (hT 77 (20, 8, [(0, 7, 73786976312018076282)]) i rfl (show i < 8 from hi) (0, 7, 73786976312018076282) List.mem_cons_self (Nat.zero_le _) (by dsimp only; omega)).1 rfl
  have h2 : 2147483648 ≤ zB x := h2
  have h3 : zB x ≤ 2147483727 := h3
  have e : zsl E i = zyN1 x := by
    unfold zsl zyI
    rw [h1]
  obtain ⟨q1, q2⟩ := zyOn h2
  rw [e]
  exact ⟨by rw [h1, ← q1], by omega⟩
theorem zsl_eq {E E2 : zyEm} {j : Nat} (h : E2 77 j = E 77 j) : zsl E2 j = zsl E j := by
  unfold zsl
  rw [zyI_eq h]
def zyFtr (E E2 : zyEm) : Prop := ∀ a k, ¬ a = 78 → ¬ (a = 74 ∧ 15 ≤ k ∧ k ≤ 17) → E2 a k = E a k
def zyΦtr (K : Nat) (_ : List Int32) (E : zyEm) : Prop := ∃ m : Nat, m ≤ 8 ∧ E 75 2 = some (.int (Int32.ofNat m)) ∧ ∀ b, b < m → zsl E b < K
def zyΨtr (K : Nat) (_ : List Int32) (E E2 : zyEm) (vo : Option Value) : Prop := zyFtr E E2 ∧ ∃ z : Int32, vo = some (.int z) ∧ (z = 0 ∨ z = 1) ∧ (z = 1 → ∀ m : Nat, m ≤ 8 → E 75 2 = some (.int (Int32.ofNat m)) → ∀ b, b < m → zth E2 b < K)
theorem zth_s {E : zyEm} {j s : Nat} (h : E 78 j = some (.int (Int32.ofNat s))) (hs : s < 80) : zth E j = s := by
  unfold zth
  rw [zyI_s h]
  exact zyN1_of (by omega)
theorem zytrs_run : zyAllP (fun r c => zyrS (zymr r c) zxi219 (219, 0, 0, 2, 0) 7 zptrs (fun _ _ => []) zFtrs zStrs zXtrs zRtrs 8) = true := by decide +kernel
theorem zytries {l : Launch} {r c : Nat} (h1 : 1 ≤ r) (h2 : r ≤ 4) (h3 : 1 ≤ c) (h4 : c ≤ 5) {en : zEn} {me : zMe} (hen : zG zxMeta 219 = some en) (hme : zG zMeth 219 = some me) : zyHc l (zymr r c) en me 7 1 (zyΦtr (zgNS r c)) (zyΨtr (zgNS r c)) := by
  have een : zG zxMeta 219 = some (zxi219, 2, 3, 11, 219, 0, 0, 2, 0) := rfl
  obtain ⟨me1, hme1, hOK⟩ := zall hen
  rw [hme] at hme1
  cases hme1
  rw [een] at hen
  cases hen
  have hr := zyAllP_iff zytrs_run h1 h2 h3 h4
  obtain ⟨metn, hmetn, -⟩ := zall (show zG zxMeta 204 = some (zxi204, 2, 4, 11, 204, 0, 0, 1, 0) from rfl)
  have htn := zyturnH (l := l) h1 h2 h3 h4 (show zG zxMeta 204 = some (zxi204, 2, 4, 11, 204, 0, 0, 1, 0) from rfl) hmetn
  obtain ⟨memt, hmemt, -⟩ := zall (show zG zxMeta 218 = some (zxi218, 1, 5, 11, 218, 0, 0, 1, 0) from rfl)
  have hmt := zymeeting (l := l) h1 h2 h3 h4 (show zG zxMeta 218 = some (zxi218, 1, 5, 11, 218, 0, 0, 1, 0) from rfl) hmemt
  obtain ⟨meov, hmeov, -⟩ := zall (show zG zxMeta 211 = some (zxi211, 3, 4, 11, 211, 0, 0, 1, 0) from rfl)
  have hov := zyoverH (l := l) h1 h2 h3 h4 (show zG zxMeta 211 = some (zxi211, 3, 4, 11, 211, 0, 0, 1, 0) from rfl) hmeov
  refine zycutS (mi := zymr r c) hOK rfl rfl ⟨_, rfl, rfl⟩ (ι := Fin 8) (fun i => zptrs i.val) (fun _ _ => []) (fun i => zFtrs i.val) (fun i => zStrs i.val) (fun i => zXtrs i.val) (fun i => zRtrs i.val) (fun i y2 ct en2 me2 h => by cases h) 200000 (fun i => zyAll_iff hr i.val i.isLt) ⟨0, by decide⟩ ⟨rfl, rfl, rfl, rfl⟩ ⟨by decide, by decide⟩
    (fun i as E0 ρ E => ∃ m k : Nat, m ≤ 8 ∧ E0 75 2 = some (.int (Int32.ofNat m)) ∧ (∀ b, b < m → zsl E0 b < zgNS r c) ∧ zyFtr E0 E ∧ k ≤ 8 ∧ (1 ≤ i.val → ¬ i.val = 4 → ρ 2 = Int32.ofNat k) ∧ (i.val = 1 ∨ i.val = 2 → k ≤ m ∧ ∀ b, b < k → zth E b < zgNS r c) ∧ (i.val = 2 ∨ i.val = 6 → k < m ∧ ρ 3 = Int32.ofNat k ∧ ∃ s, s < zgNS r c ∧ ρ 4 = Int32.ofNat s) ∧ (i.val = 3 → k < m ∧ ∀ b, b ≤ k → zth E b < zgNS r c) ∧ (4 ≤ i.val → ∀ b, b < m → zth E b < zgNS r c) ∧ (i.val = 7 → k < m)) (fun i as E0 ρ E => if i.val = 0 then 1000 else if i.val ≤ 3 then 600 + 4 * (8 - zyN1 (ρ 2)) + (4 - i.val) else if i.val = 4 then 500 else 4 * (8 - zyN1 (ρ 2)) + (8 - i.val)) ?_ ?_ ?_
  · intro as E hlen hT hΦ
    obtain ⟨m, b1, b2, b3⟩ := hΦ
    exact ⟨zEnv_c (zyfull _) (zEnv_c (zyfull _) (zEnv_c (zyfull _) zEnv_nil)), m, 0, b1, b2, b3, fun _ _ _ _ => rfl, Nat.zero_le _, fun h => absurd (show 1 ≤ 0 from h) (by decide), fun h => absurd (show 0 = 1 ∨ 0 = 2 from h) (by decide), fun h => absurd (show 0 = 2 ∨ 0 = 6 from h) (by decide), fun h => absurd (show 0 = 3 from h) (by decide), fun h => absurd (show 4 ≤ 0 from h) (by decide), fun h => absurd (show 0 = 7 from h) (by decide)⟩
  · intro as B s Wg hRu hT0 hΦ hlen i ρ H hT hInv hIH x hx ρ2 N2 H2 locs lsB stA hAt hXs hag hfr hT2
    rcases i with ⟨i, hi⟩
    have hi2 : i = 0 ∨ i = 1 ∨ i = 2 ∨ i = 3 ∨ i = 4 ∨ i = 5 ∨ i = 6 ∨ i = 7 := by omega
    rcases hi2 with rfl | rfl | rfl | rfl | rfl | rfl | rfl | rfl
    · have hx : x ∈ [zxtrs_ax0] := hx
      have hg : ∀ k, k < 3 → ρ2 k = ρ k := hag
      have hI := hInv
      have hI : ∃ m k : Nat, m ≤ 8 ∧ (zyEl (zymr r c) B s.heap) 75 2 = some (.int (Int32.ofNat m)) ∧ (∀ b, b < m → zsl (zyEl (zymr r c) B s.heap) b < zgNS r c) ∧ zyFtr (zyEl (zymr r c) B s.heap) (zyEl (zymr r c) B H) ∧ k ≤ 8 ∧ (1 ≤ 0 → ¬ 0 = 4 → ρ 2 = Int32.ofNat k) ∧ (0 = 1 ∨ 0 = 2 → k ≤ m ∧ ∀ b, b < k → zth (zyEl (zymr r c) B H) b < zgNS r c) ∧ (0 = 2 ∨ 0 = 6 → k < m ∧ ρ 3 = Int32.ofNat k ∧ ∃ s, s < zgNS r c ∧ ρ 4 = Int32.ofNat s) ∧ (0 = 3 → k < m ∧ ∀ b, b ≤ k → zth (zyEl (zymr r c) B H) b < zgNS r c) ∧ (4 ≤ 0 → ∀ b, b < m → zth (zyEl (zymr r c) B H) b < zgNS r c) ∧ (0 = 7 → k < m) := hI
      obtain ⟨hF, hB, hM⟩ := hXs
      have hEE : (zyEl (zymr r c) B H2) = (zyEl (zymr r c) B H) := zyfr0 hfr
      have ex := List.mem_singleton.mp hx
      subst ex
      obtain ⟨m, k, hm, s1, s2, i1, hk, i2, i3, i4, i5, i6, i7⟩ := hI
      have T1 : zyTy (zymr r c) (zyEl (zymr r c) B H) := hT
      have n80 : zgNS r c ≤ 80 := zgNS_le h2 h4
      refine zyGoB hIH hAt hB ⟨1, by decide⟩ [595, 34359738369, 0] rfl rfl rfl rfl ⟨m, 0, hm, s1, s2, by rw [hEE]; exact i1, Nat.zero_le _, fun _ _ => rfl, fun _ => ⟨Nat.zero_le _, fun b hb => absurd hb (Nat.not_lt_zero b)⟩, fun h => absurd (show 1 = 2 ∨ 1 = 6 from h) (by decide), fun h => absurd (show 1 = 3 from h) (by decide), fun h => absurd (show 4 ≤ 1 from h) (by decide), fun h => absurd (show 1 = 7 from h) (by decide)⟩ ?_
      show 600 + 4 * (8 - zyN1 (Int32.ofNat 0)) + (4 - 1) < 1000
      omega
    · have hx : x ∈ [zxtrs_bx0, zxtrs_bx1] := hx
      have hg : ∀ k, k < 3 → ρ2 k = ρ k := hag
      have hI := hInv
      have hI : ∃ m k : Nat, m ≤ 8 ∧ (zyEl (zymr r c) B s.heap) 75 2 = some (.int (Int32.ofNat m)) ∧ (∀ b, b < m → zsl (zyEl (zymr r c) B s.heap) b < zgNS r c) ∧ zyFtr (zyEl (zymr r c) B s.heap) (zyEl (zymr r c) B H) ∧ k ≤ 8 ∧ (1 ≤ 1 → ¬ 1 = 4 → ρ 2 = Int32.ofNat k) ∧ (1 = 1 ∨ 1 = 2 → k ≤ m ∧ ∀ b, b < k → zth (zyEl (zymr r c) B H) b < zgNS r c) ∧ (1 = 2 ∨ 1 = 6 → k < m ∧ ρ 3 = Int32.ofNat k ∧ ∃ s, s < zgNS r c ∧ ρ 4 = Int32.ofNat s) ∧ (1 = 3 → k < m ∧ ∀ b, b ≤ k → zth (zyEl (zymr r c) B H) b < zgNS r c) ∧ (4 ≤ 1 → ∀ b, b < m → zth (zyEl (zymr r c) B H) b < zgNS r c) ∧ (1 = 7 → k < m) := hI
      obtain ⟨hF, hB, hM⟩ := hXs
      have hEE : (zyEl (zymr r c) B H2) = (zyEl (zymr r c) B H) := zyfr0 hfr
      rcases List.mem_cons.mp hx with ex | hx
      · subst ex
        obtain ⟨m, k, hm, s1, s2, i1, hk, i2, i3, i4, i5, i6, i7⟩ := hI
        have T1 : zyTy (zymr r c) (zyEl (zymr r c) B H) := hT
        have n80 : zgNS r c ≤ 80 := zgNS_le h2 h4
        have a2 : ρ2 2 = Int32.ofNat k := (hg 2 (by decide)).trans (i2 (by decide) (by decide))
        obtain ⟨n3, w1, w2, w3⟩ := zyXe hF 0 rfl
        have w1 : Int32.ofNat 2 = Int32.ofNat n3 := w1
        have w3 : zyEl (zymr r c) B H 75 n3 = some (.int (ρ2 3)) := w3
        have em : ρ2 3 = Int32.ofNat m := zyEk w1 (by decide) w2 w3 ((i1 75 2 (by decide) (fun z => absurd z.1 (by decide))).trans s1)
        have f1 := zyX20 hF 1 rfl
        have f1 : ρ2 2 < ρ2 3 := f1
        rw [a2, em, zyOl (by omega) (by omega)] at f1
        obtain ⟨na, u1, u2, u3⟩ := zyXe hF 2 rfl
        have u1 : ρ2 2 = Int32.ofNat na := u1
        have u3 : zyEl (zymr r c) B H 77 na = some (.int (ρ2 4)) := u3
        rw [a2] at u1
        have e4 := zyEk u1 (by omega) u2 u3 (zsl_el T1 (i := k) (by omega)).1
        obtain ⟨km, kv⟩ := i3 (Or.inl rfl)
        have k4 : zsl (zyEl (zymr r c) B H) k < zgNS r c := by
          rw [zsl_eq (i1 77 k (by decide) (fun z => absurd z.1 (by decide)))]
          exact s2 k f1
        refine zyCaV hRu hIH hAt hB htn (ix := 148) (ax := 3264) rfl rfl rfl hmetn ⟨rfl, rfl, rfl, rfl⟩ (by decide) [137438953473] [68719476737, 627] rfl (by decide) (by decide) rfl ⟨2, by decide⟩ [595, 34359738369, 68719476737, 68719476737] [(0, 4294967295), (0, 4294967295), (2147483648, 2147483655), (2147483648, 2147483655)] 2147483648 2147483727 rfl (by decide) rfl rfl rfl rfl [103079215105, 627] rfl rfl ?_ ?_
        · show zyΦs _ [ρ2 4] _
          rw [e4]
          exact ⟨_, k4, rfl⟩
        · intro E3 vo hT3 hΨ
          have hΨ : zyΨs _ _ [ρ2 4] _ E3 vo := hΨ
          rw [e4, hEE] at hΨ
          obtain ⟨e3, hq⟩ := hΨ
          subst e3
          have ez := hq _ k4 rfl
          have fb := (zgfacts h1 h2 h3 h4 k4).1
          refine ⟨_, ez, ?_, ?_, ⟨m, k, hm, s1, s2, i1, hk, fun _ _ => (zyρi_n (by decide)).trans a2, fun _ => ⟨km, kv⟩, fun _ => ⟨f1, (zyρi_n (by decide)).trans a2, _, fb, zyρi_e⟩, fun h => absurd (show 2 = 3 from h) (by decide), fun h => absurd (show 4 ≤ 2 from h) (by decide), fun h => absurd (show 2 = 7 from h) (by decide)⟩, ?_⟩
          · rw [zyBn (by omega)]
            omega
          · rw [zyBn (by omega)]
            omega
          · show 600 + 4 * (8 - zyN1 (ρ2 2)) + (4 - 2) < 600 + 4 * (8 - zyN1 (ρ 2)) + (4 - 1)
            rw [hg 2 (by decide)]
            omega
      · skip
        have ex := List.mem_singleton.mp hx
        subst ex
        obtain ⟨m, k, hm, s1, s2, i1, hk, i2, i3, i4, i5, i6, i7⟩ := hI
        have T1 : zyTy (zymr r c) (zyEl (zymr r c) B H) := hT
        have n80 : zgNS r c ≤ 80 := zgNS_le h2 h4
        have a2 : ρ2 2 = Int32.ofNat k := (hg 2 (by decide)).trans (i2 (by decide) (by decide))
        obtain ⟨n3, w1, w2, w3⟩ := zyXe hF 0 rfl
        have w1 : Int32.ofNat 2 = Int32.ofNat n3 := w1
        have w3 : zyEl (zymr r c) B H 75 n3 = some (.int (ρ2 3)) := w3
        have em : ρ2 3 = Int32.ofNat m := zyEk w1 (by decide) w2 w3 ((i1 75 2 (by decide) (fun z => absurd z.1 (by decide))).trans s1)
        have f1 := zyX21 hF 1 rfl
        have f1 : ¬ ρ2 2 < ρ2 3 := f1
        rw [a2, em, zyOl (by omega) (by omega)] at f1
        obtain ⟨km, kv⟩ := i3 (Or.inl rfl)
        refine zyCaV hRu hIH hAt hB hmt (ix := 176) (ax := 3488) rfl rfl rfl hmemt ⟨rfl, rfl, rfl, rfl⟩ (by decide) [] [595] rfl (by decide) (by decide) rfl ⟨4, by decide⟩ [595, 34359738369, 0] [(0, 4294967295), (0, 4294967295), (0, 4294967295)] 2147483647 2147483678 rfl (by decide) rfl rfl rfl rfl [595] rfl rfl ?_ ?_
        · show zyΦme _ [] _
          rw [hEE]
          exact ⟨m, hm, (i1 75 2 (by decide) (fun z => absurd z.1 (by decide))).trans s1, fun b hb => kv b (by omega)⟩
        · intro E3 vo hT3 hΨ
          have hΨ : zyΨme [] _ E3 vo := hΨ
          rw [hEE] at hΨ
          obtain ⟨p1, z, ez, z1, z2⟩ := hΨ
          refine ⟨z, ez, z1, z2, ⟨m, 0, hm, s1, s2, fun a k n1 n2 => (p1 a k (fun z => n2 ⟨z.1, by omega, by omega⟩)).trans (i1 a k n1 n2), Nat.zero_le _, fun _ h => absurd rfl h, fun h => absurd (show 4 = 1 ∨ 4 = 2 from h) (by decide), fun h => absurd (show 4 = 2 ∨ 4 = 6 from h) (by decide), fun h => absurd (show 4 = 3 from h) (by decide), fun _ => fun b hb => by rw [zth_eq (p1 78 b (fun z => absurd z.1 (by decide)))]; exact kv b (by omega), fun h => absurd (show 4 = 7 from h) (by decide)⟩, ?_⟩
          show 500 < 600 + 4 * (8 - zyN1 (ρ 2)) + (4 - 1)
          omega
    · have hx : x ∈ [zxtrs_cx0] := hx
      have hg : ∀ k, k < 5 → ρ2 k = ρ k := hag
      have hI := hInv
      have hI : ∃ m k : Nat, m ≤ 8 ∧ (zyEl (zymr r c) B s.heap) 75 2 = some (.int (Int32.ofNat m)) ∧ (∀ b, b < m → zsl (zyEl (zymr r c) B s.heap) b < zgNS r c) ∧ zyFtr (zyEl (zymr r c) B s.heap) (zyEl (zymr r c) B H) ∧ k ≤ 8 ∧ (1 ≤ 2 → ¬ 2 = 4 → ρ 2 = Int32.ofNat k) ∧ (2 = 1 ∨ 2 = 2 → k ≤ m ∧ ∀ b, b < k → zth (zyEl (zymr r c) B H) b < zgNS r c) ∧ (2 = 2 ∨ 2 = 6 → k < m ∧ ρ 3 = Int32.ofNat k ∧ ∃ s, s < zgNS r c ∧ ρ 4 = Int32.ofNat s) ∧ (2 = 3 → k < m ∧ ∀ b, b ≤ k → zth (zyEl (zymr r c) B H) b < zgNS r c) ∧ (4 ≤ 2 → ∀ b, b < m → zth (zyEl (zymr r c) B H) b < zgNS r c) ∧ (2 = 7 → k < m) := hI
      obtain ⟨hF, hB, hM⟩ := hXs
      have hEE : (zyEl (zymr r c) B H2) = (zyEl (zymr r c) B H) := zyfr0 hfr
      have ex := List.mem_singleton.mp hx
      subst ex
      obtain ⟨m, k, hm, s1, s2, i1, hk, i2, i3, i4, i5, i6, i7⟩ := hI
      have T1 : zyTy (zymr r c) (zyEl (zymr r c) B H) := hT
      have n80 : zgNS r c ≤ 80 := zgNS_le h2 h4
      have a2 : ρ2 2 = Int32.ofNat k := (hg 2 (by decide)).trans (i2 (by decide) (by decide))
      obtain ⟨kk, a3, s', l1, a4⟩ := i4 (by decide)
      have b3 := (hg 3 (by decide)).trans a3
      have b4 := (hg 4 (by decide)).trans a4
      obtain ⟨km, kv⟩ := i3 (Or.inr rfl)
      refine zyAsB hRu hIH hAt hB 78 k (20, 8, [(0, 7, 73786976312018076282)]) rfl rfl rfl (cv := 137438953473) (cj := 103079215105) rfl (by decide) (by decide) ⟨3, by decide⟩ [595, 34359738369, 68719476737] rfl rfl rfl rfl (show k < 8 by omega) b3 ?_ ?_
      · intro r0 hr0 _ _
        rw [List.mem_singleton.mp hr0]
        refine ⟨rfl, ?_⟩
        show 2147483648 ≤ zB (ρ2 4) ∧ zB (ρ2 4) ≤ 2147483727
        rw [b4, zyBn (by omega)]
        omega
      · intro E3 hT3 p1 p2
        have p1 : E3 78 k = some (.int (ρ2 4)) := p1
        rw [b4] at p1
        rw [hEE] at p2
        have hv : ∀ b, zth E3 b = if b = k then s' else zth (zyEl (zymr r c) B H) b := fun b => by
          by_cases e : b = k
          · rw [if_pos e, e, zth_s p1 (by omega)]
          · rw [if_neg e, zth_eq (p2 78 b (fun z => e z.2))]
        refine ⟨⟨m, k, hm, s1, s2, fun a k n1 n2 => (p2 a k (fun z => n1 z.1)).trans (i1 a k n1 n2), hk, fun _ _ => a2, fun h => absurd (show 3 = 1 ∨ 3 = 2 from h) (by decide), fun h => absurd (show 3 = 2 ∨ 3 = 6 from h) (by decide), fun _ => ⟨kk, fun b hb => ?_⟩, fun h => absurd (show 4 ≤ 3 from h) (by decide), fun h => absurd (show 3 = 7 from h) (by decide)⟩, ?_⟩
        · rw [hv]
          by_cases e : b = k
          · rw [if_pos e]
            exact l1
          · rw [if_neg e]
            exact kv b (by omega)
        · show 600 + 4 * (8 - zyN1 (ρ2 2)) + (4 - 3) < 600 + 4 * (8 - zyN1 (ρ 2)) + (4 - 2)
          rw [hg 2 (by decide)]
          omega
    · have hx : x ∈ [zxtrs_dx0] := hx
      have hg : ∀ k, k < 3 → ρ2 k = ρ k := hag
      have hI := hInv
      have hI : ∃ m k : Nat, m ≤ 8 ∧ (zyEl (zymr r c) B s.heap) 75 2 = some (.int (Int32.ofNat m)) ∧ (∀ b, b < m → zsl (zyEl (zymr r c) B s.heap) b < zgNS r c) ∧ zyFtr (zyEl (zymr r c) B s.heap) (zyEl (zymr r c) B H) ∧ k ≤ 8 ∧ (1 ≤ 3 → ¬ 3 = 4 → ρ 2 = Int32.ofNat k) ∧ (3 = 1 ∨ 3 = 2 → k ≤ m ∧ ∀ b, b < k → zth (zyEl (zymr r c) B H) b < zgNS r c) ∧ (3 = 2 ∨ 3 = 6 → k < m ∧ ρ 3 = Int32.ofNat k ∧ ∃ s, s < zgNS r c ∧ ρ 4 = Int32.ofNat s) ∧ (3 = 3 → k < m ∧ ∀ b, b ≤ k → zth (zyEl (zymr r c) B H) b < zgNS r c) ∧ (4 ≤ 3 → ∀ b, b < m → zth (zyEl (zymr r c) B H) b < zgNS r c) ∧ (3 = 7 → k < m) := hI
      obtain ⟨hF, hB, hM⟩ := hXs
      have hEE : (zyEl (zymr r c) B H2) = (zyEl (zymr r c) B H) := zyfr0 hfr
      have ex := List.mem_singleton.mp hx
      subst ex
      obtain ⟨m, k, hm, s1, s2, i1, hk, i2, i3, i4, i5, i6, i7⟩ := hI
      have T1 : zyTy (zymr r c) (zyEl (zymr r c) B H) := hT
      have n80 : zgNS r c ≤ 80 := zgNS_le h2 h4
      have a2 : ρ2 2 = Int32.ofNat k := (hg 2 (by decide)).trans (i2 (by decide) (by decide))
      have a2' : ρ2 2 + Int32.ofNat 1 = Int32.ofNat (k + 1) := by rw [a2, zyOa]
      obtain ⟨kk, kv⟩ := i5 rfl
      refine zyGoB hIH hAt hB ⟨1, by decide⟩ [595, 34359738369, 68719476745] rfl rfl rfl rfl ⟨m, k + 1, hm, s1, s2, by rw [hEE]; exact i1, by omega, fun _ _ => a2', fun _ => ⟨by omega, fun b hb => by rw [hEE]; exact kv b (by omega)⟩, fun h => absurd (show 1 = 2 ∨ 1 = 6 from h) (by decide), fun h => absurd (show 1 = 3 from h) (by decide), fun h => absurd (show 4 ≤ 1 from h) (by decide), fun h => absurd (show 1 = 7 from h) (by decide)⟩ ?_
      show 600 + 4 * (8 - zyN1 (ρ2 2 + Int32.ofNat 1)) + (4 - 1) < 600 + 4 * (8 - zyN1 (ρ 2)) + (4 - 3)
      rw [a2', i2 (by decide) (by decide), zyN1_of (by omega), zyN1_of (by omega)]
      omega
    · have hx : x ∈ [zxtrs_ex0] := hx
      have hg : ∀ k, k < 4 → ρ2 k = ρ k := hag
      have hI := hInv
      have hI : ∃ m k : Nat, m ≤ 8 ∧ (zyEl (zymr r c) B s.heap) 75 2 = some (.int (Int32.ofNat m)) ∧ (∀ b, b < m → zsl (zyEl (zymr r c) B s.heap) b < zgNS r c) ∧ zyFtr (zyEl (zymr r c) B s.heap) (zyEl (zymr r c) B H) ∧ k ≤ 8 ∧ (1 ≤ 4 → ¬ 4 = 4 → ρ 2 = Int32.ofNat k) ∧ (4 = 1 ∨ 4 = 2 → k ≤ m ∧ ∀ b, b < k → zth (zyEl (zymr r c) B H) b < zgNS r c) ∧ (4 = 2 ∨ 4 = 6 → k < m ∧ ρ 3 = Int32.ofNat k ∧ ∃ s, s < zgNS r c ∧ ρ 4 = Int32.ofNat s) ∧ (4 = 3 → k < m ∧ ∀ b, b ≤ k → zth (zyEl (zymr r c) B H) b < zgNS r c) ∧ (4 ≤ 4 → ∀ b, b < m → zth (zyEl (zymr r c) B H) b < zgNS r c) ∧ (4 = 7 → k < m) := hI
      obtain ⟨hF, hB, hM⟩ := hXs
      have hfr : ∀ a k, zyin [(74, 15, 15)] a k = false → (zyEl (zymr r c) B H2) a k = (zyEl (zymr r c) B H) a k := hfr
      have ex := List.mem_singleton.mp hx
      subst ex
      obtain ⟨m, k, hm, s1, s2, i1, hk, i2, i3, i4, i5, i6, i7⟩ := hI
      have T1 : zyTy (zymr r c) (zyEl (zymr r c) B H) := hT
      have n80 : zgNS r c ≤ 80 := zgNS_le h2 h4
      have kv := i6 (by decide)
      have hk1 := zyfr1 hfr
      refine zyGoB hIH hAt hB ⟨5, by decide⟩ [595, 34359738369, 0] rfl rfl rfl rfl ⟨m, 0, hm, s1, s2, fun a k n1 n2 => (hk1 a k (fun z => n2 ⟨z.1, by omega, by omega⟩)).trans (i1 a k n1 n2), Nat.zero_le _, fun _ _ => rfl, fun h => absurd (show 5 = 1 ∨ 5 = 2 from h) (by decide), fun h => absurd (show 5 = 2 ∨ 5 = 6 from h) (by decide), fun h => absurd (show 5 = 3 from h) (by decide), fun _ => fun b hb => by rw [zth_eq (hk1 78 b (fun z => absurd z.1 (by decide)))]; exact kv b hb, fun h => absurd (show 5 = 7 from h) (by decide)⟩ ?_
      show 4 * (8 - zyN1 (Int32.ofNat 0)) + (8 - 5) < 500
      omega
    · have hx : x ∈ [zxtrs_fx0] := hx
      have hg : ∀ k, k < 3 → ρ2 k = ρ k := hag
      have hI := hInv
      have hI : ∃ m k : Nat, m ≤ 8 ∧ (zyEl (zymr r c) B s.heap) 75 2 = some (.int (Int32.ofNat m)) ∧ (∀ b, b < m → zsl (zyEl (zymr r c) B s.heap) b < zgNS r c) ∧ zyFtr (zyEl (zymr r c) B s.heap) (zyEl (zymr r c) B H) ∧ k ≤ 8 ∧ (1 ≤ 5 → ¬ 5 = 4 → ρ 2 = Int32.ofNat k) ∧ (5 = 1 ∨ 5 = 2 → k ≤ m ∧ ∀ b, b < k → zth (zyEl (zymr r c) B H) b < zgNS r c) ∧ (5 = 2 ∨ 5 = 6 → k < m ∧ ρ 3 = Int32.ofNat k ∧ ∃ s, s < zgNS r c ∧ ρ 4 = Int32.ofNat s) ∧ (5 = 3 → k < m ∧ ∀ b, b ≤ k → zth (zyEl (zymr r c) B H) b < zgNS r c) ∧ (4 ≤ 5 → ∀ b, b < m → zth (zyEl (zymr r c) B H) b < zgNS r c) ∧ (5 = 7 → k < m) := hI
      obtain ⟨hF, hB, hM⟩ := hXs
      have hEE : (zyEl (zymr r c) B H2) = (zyEl (zymr r c) B H) := zyfr0 hfr
      have ex := List.mem_singleton.mp hx
      subst ex
      obtain ⟨m, k, hm, s1, s2, i1, hk, i2, i3, i4, i5, i6, i7⟩ := hI
      have T1 : zyTy (zymr r c) (zyEl (zymr r c) B H) := hT
      have n80 : zgNS r c ≤ 80 := zgNS_le h2 h4
      have a2 : ρ2 2 = Int32.ofNat k := (hg 2 (by decide)).trans (i2 (by decide) (by decide))
      obtain ⟨n3, w1, w2, w3⟩ := zyXe hF 0 rfl
      have w1 : Int32.ofNat 2 = Int32.ofNat n3 := w1
      have w3 : zyEl (zymr r c) B H 75 n3 = some (.int (ρ2 3)) := w3
      have em : ρ2 3 = Int32.ofNat m := zyEk w1 (by decide) w2 w3 ((i1 75 2 (by decide) (fun z => absurd z.1 (by decide))).trans s1)
      have f1 := zyX20 hF 1 rfl
      have f1 : ρ2 2 < ρ2 3 := f1
      rw [a2, em, zyOl (by omega) (by omega)] at f1
      obtain ⟨na, u1, u2, u3⟩ := zyXe hF 2 rfl
      have u1 : ρ2 2 = Int32.ofNat na := u1
      have u3 : zyEl (zymr r c) B H 78 na = some (.int (ρ2 4)) := u3
      rw [a2] at u1
      have e4 := zyEk u1 (by omega) u2 u3 (zth_el T1 (i := k) (by omega)).1
      have kv := i6 (by decide)
      have k4 := kv k f1
      refine zyCaV hRu hIH hAt hB hov (ix := 151) (ax := 3376) rfl rfl rfl hmeov ⟨rfl, rfl, rfl, rfl⟩ (by decide) [137438953473, 34359738369] [68719476737, 627] rfl (by decide) (by decide) rfl ⟨6, by decide⟩ [595, 34359738369, 68719476737, 68719476737] [(0, 4294967295), (0, 4294967295), (2147483648, 2147483655), (2147483648, 2147483655)] 2147483648 2147483727 rfl (by decide) rfl rfl rfl rfl [103079215105, 627] rfl rfl ?_ ?_
      · show zyΦov _ [ρ2 4, ρ2 1] _
        rw [e4]
        exact ⟨_, _, k4, rfl⟩
      · intro E3 vo hT3 hΨ
        have hΨ : zyΨov _ [ρ2 4, ρ2 1] _ E3 vo := hΨ
        rw [hEE] at hΨ
        obtain ⟨e3, s', l1, ez⟩ := hΨ
        subst e3
        refine ⟨_, ez, ?_, ?_, ⟨m, k, hm, s1, s2, i1, hk, fun _ _ => (zyρi_n (by decide)).trans a2, fun h => absurd (show 6 = 1 ∨ 6 = 2 from h) (by decide), fun _ => ⟨f1, (zyρi_n (by decide)).trans a2, _, l1, zyρi_e⟩, fun h => absurd (show 6 = 3 from h) (by decide), fun _ => kv, fun h => absurd (show 6 = 7 from h) (by decide)⟩, ?_⟩
        · rw [zyBn (by omega)]
          omega
        · rw [zyBn (by omega)]
          omega
        · show 4 * (8 - zyN1 (ρ2 2)) + (8 - 6) < 4 * (8 - zyN1 (ρ 2)) + (8 - 5)
          rw [hg 2 (by decide)]
          omega
    · have hx : x ∈ [zxtrs_gx0] := hx
      have hg : ∀ k, k < 5 → ρ2 k = ρ k := hag
      have hI := hInv
      have hI : ∃ m k : Nat, m ≤ 8 ∧ (zyEl (zymr r c) B s.heap) 75 2 = some (.int (Int32.ofNat m)) ∧ (∀ b, b < m → zsl (zyEl (zymr r c) B s.heap) b < zgNS r c) ∧ zyFtr (zyEl (zymr r c) B s.heap) (zyEl (zymr r c) B H) ∧ k ≤ 8 ∧ (1 ≤ 6 → ¬ 6 = 4 → ρ 2 = Int32.ofNat k) ∧ (6 = 1 ∨ 6 = 2 → k ≤ m ∧ ∀ b, b < k → zth (zyEl (zymr r c) B H) b < zgNS r c) ∧ (6 = 2 ∨ 6 = 6 → k < m ∧ ρ 3 = Int32.ofNat k ∧ ∃ s, s < zgNS r c ∧ ρ 4 = Int32.ofNat s) ∧ (6 = 3 → k < m ∧ ∀ b, b ≤ k → zth (zyEl (zymr r c) B H) b < zgNS r c) ∧ (4 ≤ 6 → ∀ b, b < m → zth (zyEl (zymr r c) B H) b < zgNS r c) ∧ (6 = 7 → k < m) := hI
      obtain ⟨hF, hB, hM⟩ := hXs
      have hEE : (zyEl (zymr r c) B H2) = (zyEl (zymr r c) B H) := zyfr0 hfr
      have ex := List.mem_singleton.mp hx
      subst ex
      obtain ⟨m, k, hm, s1, s2, i1, hk, i2, i3, i4, i5, i6, i7⟩ := hI
      have T1 : zyTy (zymr r c) (zyEl (zymr r c) B H) := hT
      have n80 : zgNS r c ≤ 80 := zgNS_le h2 h4
      have a2 : ρ2 2 = Int32.ofNat k := (hg 2 (by decide)).trans (i2 (by decide) (by decide))
      obtain ⟨kk, a3, s', l1, a4⟩ := i4 (by decide)
      have b3 := (hg 3 (by decide)).trans a3
      have b4 := (hg 4 (by decide)).trans a4
      have kv := i6 (by decide)
      refine zyAsB hRu hIH hAt hB 78 k (20, 8, [(0, 7, 73786976312018076282)]) rfl rfl rfl (cv := 137438953473) (cj := 103079215105) rfl (by decide) (by decide) ⟨7, by decide⟩ [595, 34359738369, 68719476737] rfl rfl rfl rfl (show k < 8 by omega) b3 ?_ ?_
      · intro r0 hr0 _ _
        rw [List.mem_singleton.mp hr0]
        refine ⟨rfl, ?_⟩
        show 2147483648 ≤ zB (ρ2 4) ∧ zB (ρ2 4) ≤ 2147483727
        rw [b4, zyBn (by omega)]
        omega
      · intro E3 hT3 p1 p2
        have p1 : E3 78 k = some (.int (ρ2 4)) := p1
        rw [b4] at p1
        rw [hEE] at p2
        have hv : ∀ b, zth E3 b = if b = k then s' else zth (zyEl (zymr r c) B H) b := fun b => by
          by_cases e : b = k
          · rw [if_pos e, e, zth_s p1 (by omega)]
          · rw [if_neg e, zth_eq (p2 78 b (fun z => e z.2))]
        refine ⟨⟨m, k, hm, s1, s2, fun a k n1 n2 => (p2 a k (fun z => n1 z.1)).trans (i1 a k n1 n2), hk, fun _ _ => a2, fun h => absurd (show 7 = 1 ∨ 7 = 2 from h) (by decide), fun h => absurd (show 7 = 2 ∨ 7 = 6 from h) (by decide), fun h => absurd (show 7 = 3 from h) (by decide), fun _ => fun b hb => ?_, fun _ => kk⟩, ?_⟩
        · rw [hv]
          by_cases e : b = k
          · rw [if_pos e]
            exact l1
          · rw [if_neg e]
            exact kv b hb
        · show 4 * (8 - zyN1 (ρ2 2)) + (8 - 7) < 4 * (8 - zyN1 (ρ 2)) + (8 - 6)
          rw [hg 2 (by decide)]
          omega
    · have hx : x ∈ [zxtrs_hx0] := hx
      have hg : ∀ k, k < 3 → ρ2 k = ρ k := hag
      have hI := hInv
      have hI : ∃ m k : Nat, m ≤ 8 ∧ (zyEl (zymr r c) B s.heap) 75 2 = some (.int (Int32.ofNat m)) ∧ (∀ b, b < m → zsl (zyEl (zymr r c) B s.heap) b < zgNS r c) ∧ zyFtr (zyEl (zymr r c) B s.heap) (zyEl (zymr r c) B H) ∧ k ≤ 8 ∧ (1 ≤ 7 → ¬ 7 = 4 → ρ 2 = Int32.ofNat k) ∧ (7 = 1 ∨ 7 = 2 → k ≤ m ∧ ∀ b, b < k → zth (zyEl (zymr r c) B H) b < zgNS r c) ∧ (7 = 2 ∨ 7 = 6 → k < m ∧ ρ 3 = Int32.ofNat k ∧ ∃ s, s < zgNS r c ∧ ρ 4 = Int32.ofNat s) ∧ (7 = 3 → k < m ∧ ∀ b, b ≤ k → zth (zyEl (zymr r c) B H) b < zgNS r c) ∧ (4 ≤ 7 → ∀ b, b < m → zth (zyEl (zymr r c) B H) b < zgNS r c) ∧ (7 = 7 → k < m) := hI
      obtain ⟨hF, hB, hM⟩ := hXs
      have hEE : (zyEl (zymr r c) B H2) = (zyEl (zymr r c) B H) := zyfr0 hfr
      have ex := List.mem_singleton.mp hx
      subst ex
      obtain ⟨m, k, hm, s1, s2, i1, hk, i2, i3, i4, i5, i6, i7⟩ := hI
      have T1 : zyTy (zymr r c) (zyEl (zymr r c) B H) := hT
      have n80 : zgNS r c ≤ 80 := zgNS_le h2 h4
      have a2 : ρ2 2 = Int32.ofNat k := (hg 2 (by decide)).trans (i2 (by decide) (by decide))
      have a2' : ρ2 2 + Int32.ofNat 1 = Int32.ofNat (k + 1) := by rw [a2, zyOa]
      have kv := i6 (by decide)
      have kk := i7 rfl
      refine zyGoB hIH hAt hB ⟨5, by decide⟩ [595, 34359738369, 68719476745] rfl rfl rfl rfl ⟨m, k + 1, hm, s1, s2, by rw [hEE]; exact i1, by omega, fun _ _ => a2', fun h => absurd (show 5 = 1 ∨ 5 = 2 from h) (by decide), fun h => absurd (show 5 = 2 ∨ 5 = 6 from h) (by decide), fun h => absurd (show 5 = 3 from h) (by decide), fun _ => fun b hb => by rw [hEE]; exact kv b hb, fun h => absurd (show 5 = 7 from h) (by decide)⟩ ?_
      show 4 * (8 - zyN1 (ρ2 2 + Int32.ofNat 1)) + (8 - 5) < 4 * (8 - zyN1 (ρ 2)) + (8 - 7)
      rw [a2', i2 (by decide) (by decide), zyN1_of (by omega), zyN1_of (by omega)]
      omega
  · intro as E0 E E2 hT0 hΦ hlen i ρ hT hInv x hx ρ2 N2 B vo hXs hag hfr hT2 hvo
    rcases i with ⟨i, hi⟩
    have hi2 : i = 0 ∨ i = 1 ∨ i = 2 ∨ i = 3 ∨ i = 4 ∨ i = 5 ∨ i = 6 ∨ i = 7 := by omega
    rcases hi2 with rfl | rfl | rfl | rfl | rfl | rfl | rfl | rfl
    · cases hx
    · cases hx
    · cases hx
    · cases hx
    · have hx : x ∈ [zxtrs_er0] := hx
      have hg : ∀ k, k < 4 → ρ2 k = ρ k := hag
      have hI := hInv
      have hI : ∃ m k : Nat, m ≤ 8 ∧ E0 75 2 = some (.int (Int32.ofNat m)) ∧ (∀ b, b < m → zsl E0 b < zgNS r c) ∧ zyFtr E0 E ∧ k ≤ 8 ∧ (1 ≤ 4 → ¬ 4 = 4 → ρ 2 = Int32.ofNat k) ∧ (4 = 1 ∨ 4 = 2 → k ≤ m ∧ ∀ b, b < k → zth E b < zgNS r c) ∧ (4 = 2 ∨ 4 = 6 → k < m ∧ ρ 3 = Int32.ofNat k ∧ ∃ s, s < zgNS r c ∧ ρ 4 = Int32.ofNat s) ∧ (4 = 3 → k < m ∧ ∀ b, b ≤ k → zth E b < zgNS r c) ∧ (4 ≤ 4 → ∀ b, b < m → zth E b < zgNS r c) ∧ (4 = 7 → k < m) := hI
      obtain ⟨hF, hB, hM⟩ := hXs
      have hfr : ∀ a k, zyin [(74, 15, 15)] a k = false → E2 a k = E a k := hfr
      have ex := List.mem_singleton.mp hx
      subst ex
      obtain ⟨m, k, hm, s1, s2, i1, hk, i2, i3, i4, i5, i6, i7⟩ := hI
      have hk1 := zyfr1 hfr
      exact ⟨fun a k n1 n2 => (hk1 a k (fun z => n2 ⟨z.1, by omega, by omega⟩)).trans (i1 a k n1 n2), 0, zyvo_1 (c := 0) (by decide) (show zyvo (zyXn B ρ2 N2) [0] vo from hvo), Or.inl rfl, fun q => absurd q (by decide)⟩
    · have hx : x ∈ [zxtrs_fr0] := hx
      have hg : ∀ k, k < 3 → ρ2 k = ρ k := hag
      have hI := hInv
      have hI : ∃ m k : Nat, m ≤ 8 ∧ E0 75 2 = some (.int (Int32.ofNat m)) ∧ (∀ b, b < m → zsl E0 b < zgNS r c) ∧ zyFtr E0 E ∧ k ≤ 8 ∧ (1 ≤ 5 → ¬ 5 = 4 → ρ 2 = Int32.ofNat k) ∧ (5 = 1 ∨ 5 = 2 → k ≤ m ∧ ∀ b, b < k → zth E b < zgNS r c) ∧ (5 = 2 ∨ 5 = 6 → k < m ∧ ρ 3 = Int32.ofNat k ∧ ∃ s, s < zgNS r c ∧ ρ 4 = Int32.ofNat s) ∧ (5 = 3 → k < m ∧ ∀ b, b ≤ k → zth E b < zgNS r c) ∧ (4 ≤ 5 → ∀ b, b < m → zth E b < zgNS r c) ∧ (5 = 7 → k < m) := hI
      obtain ⟨hF, hB, hM⟩ := hXs
      have hEE : E2 = E := zyfr0 hfr
      have ex := List.mem_singleton.mp hx
      subst ex
      obtain ⟨m, k, hm, s1, s2, i1, hk, i2, i3, i4, i5, i6, i7⟩ := hI
      rw [hEE]
      refine ⟨i1, 1, zyvo_1 (c := 8) (by decide) (show zyvo (zyXn B ρ2 N2) [8] vo from hvo), Or.inr rfl, fun _ m' c1 c2 => ?_⟩
      rw [s1] at c2
      have e1 := zyOi (by omega) (by omega) (Value.int.inj (Option.some.inj c2))
      subst e1
      exact i6 (by decide)
    · cases hx
    · cases hx
end
section
/-! phases: standsNow, begins, goes (printed by yexa.py) -/
noncomputable def zxsn_ax0 : zyXp := (2, [595, 0], [], [], [], [])
noncomputable def zpsn_a : zyPh := (0, [595, 13], [(0, 4294967295), (0, 4294967295)], [], [])
noncomputable def zxsn_bx0 : zyXp := (27, [595, 34359738369], [103079215105, 34359738369, 619], [(24, 68719476737, 75, 16), (20, 0, 34359738369, 68719476737), (24, 103079215105, 75, 34359739521)], [(34359738369, 2147483648, 2147483655), (68719476737, 2147483649, 2147483656), (103079215105, 2147483648, 2147483727)], [])
noncomputable def zxsn_br0 : zyXp := (0, [], [], [(24, 68719476737, 75, 16), (21, 0, 34359738369, 68719476737)], [(34359738369, 2147483648, 2147483656), (68719476737, 2147483648, 2147483656)], [])
noncomputable def zpsn_b : zyPh := (2, [595, 34359738369], [(0, 4294967295), (2147483648, 2147483656)], [], [])
noncomputable def zxsn_cx0 : zyXp := (2, [595, 34359738377], [], [], [(34359738369, 2147483648, 2147483655), (34359738377, 2147483649, 2147483656)], [])
noncomputable def zpsn_c : zyPh := (28, [595, 34359738369], [(0, 4294967295), (2147483648, 2147483655)], [], [])
noncomputable def zpsn (i : Nat) : zyPh := zif (Nat.beq i 0) (zpsn_a) (zif (Nat.beq i 1) (zpsn_b) (zpsn_c))
noncomputable def zXsn (i : Nat) : List zyXp := zif (Nat.beq i 0) ([zxsn_ax0]) (zif (Nat.beq i 1) ([zxsn_bx0]) ([zxsn_cx0]))
noncomputable def zRsn (i : Nat) : List zyXp := zif (Nat.beq i 0) ([]) (zif (Nat.beq i 1) ([zxsn_br0]) ([]))
noncomputable def zFsn (i : Nat) : zyR := zif (Nat.beq i 0) ([]) (zif (Nat.beq i 1) ([]) ([]))
noncomputable def zSsn (i : Nat) : Nat := zif (Nat.beq i 0) (0) (zif (Nat.beq i 1) (0) (0))
noncomputable def zxbg_ax0 : zyXp := (2, [595, 0], [], [], [], [])
noncomputable def zpbg_a : zyPh := (0, [595, 13], [(0, 4294967295), (0, 4294967295)], [], [])
noncomputable def zxbg_bx0 : zyXp := (27, [595, 34359738369], [103079215105, 34359738369, 619], [(24, 68719476737, 75, 16), (20, 0, 34359738369, 68719476737), (24, 103079215105, 75, 34359739457)], [(34359738369, 2147483648, 2147483655), (68719476737, 2147483649, 2147483656), (103079215105, 2147483648, 2147483727)], [])
noncomputable def zxbg_bx1 : zyXp := (34, [595, 13], [], [(24, 68719476737, 75, 16), (21, 0, 34359738369, 68719476737)], [(34359738369, 2147483648, 2147483656), (68719476737, 2147483648, 2147483656)], [])
noncomputable def zpbg_b : zyPh := (2, [595, 34359738369], [(0, 4294967295), (2147483648, 2147483656)], [], [])
noncomputable def zxbg_cx0 : zyXp := (2, [595, 34359738377], [], [], [(34359738369, 2147483648, 2147483655), (34359738377, 2147483649, 2147483656)], [])
noncomputable def zpbg_c : zyPh := (28, [595, 34359738369], [(0, 4294967295), (2147483648, 2147483655)], [], [])
noncomputable def zxbg_dr0 : zyXp := (0, [], [], [], [], [(1212430, 0)])
noncomputable def zpbg_d : zyPh := (34, [595, 13], [(0, 4294967295), (0, 4294967295)], [], [])
noncomputable def zpbg (i : Nat) : zyPh := zif (Nat.beq i 0) (zpbg_a) (zif (Nat.beq i 1) (zpbg_b) (zif (Nat.beq i 2) (zpbg_c) (zpbg_d)))
noncomputable def zXbg (i : Nat) : List zyXp := zif (Nat.beq i 0) ([zxbg_ax0]) (zif (Nat.beq i 1) ([zxbg_bx0, zxbg_bx1]) (zif (Nat.beq i 2) ([zxbg_cx0]) ([])))
noncomputable def zRbg (i : Nat) : List zyXp := zif (Nat.beq i 0) ([]) (zif (Nat.beq i 1) ([]) (zif (Nat.beq i 2) ([]) ([zxbg_dr0])))
noncomputable def zFbg (i : Nat) : zyR := zif (Nat.beq i 0) ([]) (zif (Nat.beq i 1) ([]) (zif (Nat.beq i 2) ([]) ([(74, 14, 14)])))
noncomputable def zSbg (i : Nat) : Nat := zif (Nat.beq i 0) (0) (zif (Nat.beq i 1) (0) (zif (Nat.beq i 2) (0) (0)))
noncomputable def zxgs_ax0 : zyXp := (2, [595, 0], [], [], [], [])
noncomputable def zpgs_a : zyPh := (0, [595, 13], [(0, 4294967295), (0, 4294967295)], [], [])
noncomputable def zxgs_bx0 : zyXp := (23, [595, 34359738369], [103079215105, 34359738369, 619], [(24, 68719476737, 75, 16), (20, 0, 34359738369, 68719476737), (24, 103079215105, 78, 34359738369)], [(34359738369, 2147483648, 2147483655), (68719476737, 2147483649, 2147483656), (103079215105, 2147483648, 2147483727)], [])
noncomputable def zxgs_br0 : zyXp := (0, [], [], [(24, 68719476737, 75, 16), (21, 0, 34359738369, 68719476737)], [(34359738369, 2147483648, 2147483656), (68719476737, 2147483648, 2147483656)], [])
noncomputable def zpgs_b : zyPh := (2, [595, 34359738369], [(0, 4294967295), (2147483648, 2147483656)], [], [])
noncomputable def zxgs_cx0 : zyXp := (2, [595, 34359738377], [], [], [(34359738369, 2147483648, 2147483655), (34359738377, 2147483649, 2147483656)], [])
noncomputable def zpgs_c : zyPh := (24, [595, 34359738369], [(0, 4294967295), (2147483648, 2147483655)], [], [])
noncomputable def zpgs (i : Nat) : zyPh := zif (Nat.beq i 0) (zpgs_a) (zif (Nat.beq i 1) (zpgs_b) (zpgs_c))
noncomputable def zXgs (i : Nat) : List zyXp := zif (Nat.beq i 0) ([zxgs_ax0]) (zif (Nat.beq i 1) ([zxgs_bx0]) ([zxgs_cx0]))
noncomputable def zRgs (i : Nat) : List zyXp := zif (Nat.beq i 0) ([]) (zif (Nat.beq i 1) ([zxgs_br0]) ([]))
noncomputable def zFgs (i : Nat) : zyR := zif (Nat.beq i 0) ([]) (zif (Nat.beq i 1) ([]) ([]))
noncomputable def zSgs (i : Nat) : Nat := zif (Nat.beq i 0) (0) (zif (Nat.beq i 1) (0) (0))
end
section
/-! SLOTS ASIDE: standsNow, begins, goes -/
theorem zc_slot {r c : Nat} {E : zyEm} (hT : zyTy (zymr r c) E) (h2 : r ≤ 4) (h4 : c ≤ 5) {o b : Nat} (ho : o = 136 ∨ o = 144) (hb : b < 8) : ∃ s, s < zgNS r c ∧ E 75 (o + b) = some (.int (Int32.ofNat s)) := by
  have hn := zyrc20 h2 h4
  have key : ∃ x : Int32, E 75 (o + b) = some (.int x) ∧ zyS r c / 34359738368 ≤ zB x ∧ zB x ≤ zyS r c / 8 % 4294967296 := by
    rcases ho with rfl | rfl
    · exact (hT 75 (zymr75 r c) (136 + b) rfl (by rw [zyL75]; omega) (136, 143, zyS r c) (List.mem_of_getElem? (i := 13) rfl) (by dsimp only; omega) (by dsimp only; omega)).1 (by show zyS r c % 8 = 2; rw [zyS_def]; omega)
    · exact (hT 75 (zymr75 r c) (144 + b) rfl (by rw [zyL75]; omega) (144, 151, zyS r c) (List.mem_of_getElem? (i := 14) rfl) (by dsimp only; omega) (by dsimp only; omega)).1 (by show zyS r c % 8 = 2; rw [zyS_def]; omega)
  obtain ⟨x, e, b1, b2⟩ := key
  rw [zyS_def] at b1 b2
  obtain ⟨o1, o2⟩ := zyOn (x := x) (by omega)
  refine ⟨zyN1 x, ?_, by rw [← o1]; exact e⟩
  show zyN1 x < 4 * (r * c)
  omega
theorem zsl_s {E : zyEm} {j s : Nat} (h : E 77 j = some (.int (Int32.ofNat s))) (hs : s < 80) : zsl E j = s := by
  unfold zsl
  rw [zyI_s h]
  exact zyN1_of (by omega)
def zyΨsn (K : Nat) (_ : List Int32) (E E2 : zyEm) (vo : Option Value) : Prop := vo = none ∧ (∀ a k, ¬ a = 77 → E2 a k = E a k) ∧ ∀ m : Nat, m ≤ 8 → E 75 2 = some (.int (Int32.ofNat m)) → ∀ b, b < m → zsl E2 b < K
def zyΨbg (K : Nat) (_ : List Int32) (E E2 : zyEm) (vo : Option Value) : Prop := vo = none ∧ (∀ a k, ¬ a = 77 → ¬ (a = 74 ∧ k = 14) → E2 a k = E a k) ∧ E2 74 14 = some (.int (Int32.ofNat 0)) ∧ ∀ m : Nat, m ≤ 8 → E 75 2 = some (.int (Int32.ofNat m)) → ∀ b, b < m → zsl E2 b < K
def zyΨgs (_ : List Int32) (E E2 : zyEm) (vo : Option Value) : Prop := vo = none ∧ (∀ a k, ¬ a = 77 → E2 a k = E a k) ∧ ∀ m : Nat, m ≤ 8 → E 75 2 = some (.int (Int32.ofNat m)) → ∀ b, b < m → zsl E2 b = zth E b
theorem zysn_run : zyAllP (fun r c => zyrS (zymr r c) zxi278 (278, 0, 0, 0, 0) 1 zpsn (fun _ _ => []) zFsn zSsn zXsn zRsn 3) = true := by decide +kernel
theorem zystandsNow {l : Launch} {r c : Nat} (h1 : 1 ≤ r) (h2 : r ≤ 4) (h3 : 1 ≤ c) (h4 : c ≤ 5) {en : zEn} {me : zMe} (hen : zG zxMeta 278 = some en) (hme : zG zMeth 278 = some me) : zyHc l (zymr r c) en me 1 0 zyΦbb (zyΨsn (zgNS r c)) := by
  have een : zG zxMeta 278 = some (zxi278, 1, 2, 11, 278, 0, 0, 0, 0) := rfl
  obtain ⟨me1, hme1, hOK⟩ := zall hen
  rw [hme] at hme1
  cases hme1
  rw [een] at hen
  cases hen
  have hr := zyAllP_iff zysn_run h1 h2 h3 h4
  refine zycutS (mi := zymr r c) hOK rfl rfl ⟨_, rfl, rfl⟩ (ι := Fin 3) (fun i => zpsn i.val) (fun _ _ => []) (fun i => zFsn i.val) (fun i => zSsn i.val) (fun i => zXsn i.val) (fun i => zRsn i.val) (fun i y2 ct en2 me2 h => by cases h) 200000 (fun i => zyAll_iff hr i.val i.isLt) ⟨0, by decide⟩ ⟨rfl, rfl, rfl, rfl⟩ ⟨by decide, by decide⟩
    (fun i as E0 ρ E => (∀ a k, ¬ a = 77 → E a k = E0 a k) ∧ ∃ k : Nat, k ≤ 8 ∧ (1 ≤ i.val → i.val ≤ 2 → ρ 1 = Int32.ofNat k) ∧ (i.val = 1 → ∀ b, b < k → zsl E b < zgNS r c) ∧ (i.val = 2 → k < 8 ∧ ∀ b, b ≤ k → zsl E b < zgNS r c)) (fun i as E0 ρ E => if i.val = 0 then 100 else if i.val = 3 then 0 else 2 * (8 - zyN1 (ρ 1)) + (3 - i.val)) ?_ ?_ ?_
  · intro as E hlen hT hΦ
    exact ⟨zEnv_c (zyfull _) (zEnv_c (zyfull _) zEnv_nil), fun _ _ _ => rfl, 0, Nat.zero_le _, fun h => absurd (show 1 ≤ 0 from h) (by decide), fun h => absurd (show 0 = 1 from h) (by decide), fun h => absurd (show 0 = 2 from h) (by decide)⟩
  · intro as B s Wg hRu hT0 hΦ hlen i ρ H hT hInv hIH x hx ρ2 N2 H2 locs lsB stA hAt hXs hag hfr hT2
    rcases i with ⟨i, hi⟩
    have hi2 : i = 0 ∨ i = 1 ∨ i = 2 := by omega
    rcases hi2 with rfl | rfl | rfl
    · have hx : x ∈ [zxsn_ax0] := hx
      have hg : ∀ k, k < 2 → ρ2 k = ρ k := hag
      have hI := hInv
      have hI : (∀ a k, ¬ a = 77 → (zyEl (zymr r c) B H) a k = (zyEl (zymr r c) B s.heap) a k) ∧ ∃ k : Nat, k ≤ 8 ∧ (1 ≤ 0 → 0 ≤ 2 → ρ 1 = Int32.ofNat k) ∧ (0 = 1 → ∀ b, b < k → zsl (zyEl (zymr r c) B H) b < zgNS r c) ∧ (0 = 2 → k < 8 ∧ ∀ b, b ≤ k → zsl (zyEl (zymr r c) B H) b < zgNS r c) := hI
      obtain ⟨hF, hB, hM⟩ := hXs
      have hEE : (zyEl (zymr r c) B H2) = (zyEl (zymr r c) B H) := zyfr0 hfr
      have ex := List.mem_singleton.mp hx
      subst ex
      obtain ⟨i1, k, hk, i2, i3, i4⟩ := hI
      have T1 : zyTy (zymr r c) (zyEl (zymr r c) B H) := hT
      have n80 : zgNS r c ≤ 80 := zgNS_le h2 h4
      refine zyGoB hIH hAt hB ⟨1, by decide⟩ [595, 0] rfl rfl rfl rfl ⟨by rw [hEE]; exact i1, 0, Nat.zero_le _, fun _ _ => rfl, fun _ => fun b hb => absurd hb (Nat.not_lt_zero b), fun h => absurd (show 1 = 2 from h) (by decide)⟩ ?_
      show 2 * (8 - zyN1 (Int32.ofNat 0)) + (3 - 1) < 100
      omega
    · have hx : x ∈ [zxsn_bx0] := hx
      have hg : ∀ k, k < 2 → ρ2 k = ρ k := hag
      have hI := hInv
      have hI : (∀ a k, ¬ a = 77 → (zyEl (zymr r c) B H) a k = (zyEl (zymr r c) B s.heap) a k) ∧ ∃ k : Nat, k ≤ 8 ∧ (1 ≤ 1 → 1 ≤ 2 → ρ 1 = Int32.ofNat k) ∧ (1 = 1 → ∀ b, b < k → zsl (zyEl (zymr r c) B H) b < zgNS r c) ∧ (1 = 2 → k < 8 ∧ ∀ b, b ≤ k → zsl (zyEl (zymr r c) B H) b < zgNS r c) := hI
      obtain ⟨hF, hB, hM⟩ := hXs
      have hEE : (zyEl (zymr r c) B H2) = (zyEl (zymr r c) B H) := zyfr0 hfr
      have ex := List.mem_singleton.mp hx
      subst ex
      obtain ⟨i1, k, hk, i2, i3, i4⟩ := hI
      have T1 : zyTy (zymr r c) (zyEl (zymr r c) B H) := hT
      have n80 : zgNS r c ≤ 80 := zgNS_le h2 h4
      have a1 : ρ2 1 = Int32.ofNat k := (hg 1 (by decide)).trans (i2 (by decide) (by decide))
      have kb : 2147483648 ≤ zB (ρ2 1) ∧ zB (ρ2 1) ≤ 2147483655 := zyXb hB 0 rfl
      rw [a1, zyBn (by omega)] at kb
      obtain ⟨na, u1, u2, u3⟩ := zyXe hF 2 rfl
      have u1 : ρ2 1 + Int32.ofNat 144 = Int32.ofNat na := u1
      have u3 : zyEl (zymr r c) B H 75 na = some (.int (ρ2 3)) := u3
      rw [a1, zyOa, Nat.add_comm] at u1
      obtain ⟨s', l1, e1⟩ := zc_slot T1 h2 h4 (o := 144) (b := k) (by decide) (by omega)
      have e3 := zyEk u1 (by omega) u2 u3 e1
      have l2 : s' < 80 := by omega
      refine zyAsB hRu hIH hAt hB 77 k (20, 8, [(0, 7, 73786976312018076282)]) rfl rfl rfl (cv := 103079215105) (cj := 34359738369) rfl (by decide) (by decide) ⟨2, by decide⟩ [595, 34359738369] rfl rfl rfl rfl (show k < 8 by omega) a1 ?_ ?_
      · intro r0 hr0 _ _
        rw [List.mem_singleton.mp hr0]
        refine ⟨rfl, ?_⟩
        show 2147483648 ≤ zB (ρ2 3) ∧ zB (ρ2 3) ≤ 2147483727
        rw [e3, zyBn (by omega)]
        omega
      · intro E3 hT3 p1 p2
        have p1 : E3 77 k = some (.int (ρ2 3)) := p1
        rw [e3] at p1
        rw [hEE] at p2
        refine ⟨⟨fun a k n1 => (p2 a k (fun z => n1 z.1)).trans (i1 a k n1), k, hk, fun _ _ => a1, fun h => absurd (show 2 = 1 from h) (by decide), fun _ => ⟨by omega, fun b hb => ?_⟩⟩, ?_⟩
        · by_cases e : b = k
          · rw [e, zsl_s p1 l2]
            exact l1
          · rw [zsl_eq (p2 77 b (fun z => e z.2))]
            exact i3 rfl b (by omega)
        · show 2 * (8 - zyN1 (ρ2 1)) + (3 - 2) < 2 * (8 - zyN1 (ρ 1)) + (3 - 1)
          rw [hg 1 (by decide)]
          omega
    · have hx : x ∈ [zxsn_cx0] := hx
      have hg : ∀ k, k < 2 → ρ2 k = ρ k := hag
      have hI := hInv
      have hI : (∀ a k, ¬ a = 77 → (zyEl (zymr r c) B H) a k = (zyEl (zymr r c) B s.heap) a k) ∧ ∃ k : Nat, k ≤ 8 ∧ (1 ≤ 2 → 2 ≤ 2 → ρ 1 = Int32.ofNat k) ∧ (2 = 1 → ∀ b, b < k → zsl (zyEl (zymr r c) B H) b < zgNS r c) ∧ (2 = 2 → k < 8 ∧ ∀ b, b ≤ k → zsl (zyEl (zymr r c) B H) b < zgNS r c) := hI
      obtain ⟨hF, hB, hM⟩ := hXs
      have hEE : (zyEl (zymr r c) B H2) = (zyEl (zymr r c) B H) := zyfr0 hfr
      have ex := List.mem_singleton.mp hx
      subst ex
      obtain ⟨i1, k, hk, i2, i3, i4⟩ := hI
      have T1 : zyTy (zymr r c) (zyEl (zymr r c) B H) := hT
      have n80 : zgNS r c ≤ 80 := zgNS_le h2 h4
      have a1 : ρ2 1 = Int32.ofNat k := (hg 1 (by decide)).trans (i2 (by decide) (by decide))
      obtain ⟨k8, kv⟩ := i4 rfl
      have a1' : ρ2 1 + Int32.ofNat 1 = Int32.ofNat (k + 1) := by rw [a1, zyOa]
      refine zyGoB hIH hAt hB ⟨1, by decide⟩ [595, 34359738377] rfl rfl rfl rfl ⟨by rw [hEE]; exact i1, k + 1, by omega, fun _ _ => a1', fun _ => fun b hb => by rw [hEE]; exact kv b (by omega), fun h => absurd (show 1 = 2 from h) (by decide)⟩ ?_
      show 2 * (8 - zyN1 (ρ2 1 + Int32.ofNat 1)) + (3 - 1) < 2 * (8 - zyN1 (ρ 1)) + (3 - 2)
      rw [a1', i2 (by decide) (by decide), zyN1_of (by omega), zyN1_of (by omega)]
      omega
  · intro as E0 E E2 hT0 hΦ hlen i ρ hT hInv x hx ρ2 N2 B vo hXs hag hfr hT2 hvo
    rcases i with ⟨i, hi⟩
    have hi2 : i = 0 ∨ i = 1 ∨ i = 2 := by omega
    rcases hi2 with rfl | rfl | rfl
    · cases hx
    · have hx : x ∈ [zxsn_br0] := hx
      have hg : ∀ k, k < 2 → ρ2 k = ρ k := hag
      have hI := hInv
      have hI : (∀ a k, ¬ a = 77 → E a k = E0 a k) ∧ ∃ k : Nat, k ≤ 8 ∧ (1 ≤ 1 → 1 ≤ 2 → ρ 1 = Int32.ofNat k) ∧ (1 = 1 → ∀ b, b < k → zsl E b < zgNS r c) ∧ (1 = 2 → k < 8 ∧ ∀ b, b ≤ k → zsl E b < zgNS r c) := hI
      obtain ⟨hF, hB, hM⟩ := hXs
      have hEE : E2 = E := zyfr0 hfr
      have ex := List.mem_singleton.mp hx
      subst ex
      obtain ⟨i1, k, hk, i2, i3, i4⟩ := hI
      have a1 : ρ2 1 = Int32.ofNat k := (hg 1 (by decide)).trans (i2 (by decide) (by decide))
      obtain ⟨n3, w1, w2, w3⟩ := zyXe hF 0 rfl
      have w1 : Int32.ofNat 2 = Int32.ofNat n3 := w1
      have w3 : E 75 n3 = some (.int (ρ2 2)) := w3
      have f1 := zyX21 hF 1 rfl
      have f1 : ¬ ρ2 1 < ρ2 2 := f1
      rw [hEE]
      refine ⟨zyvo_0 (show zyvo _ [] vo from hvo), i1, fun m hm hms b hb => ?_⟩
      have em : ρ2 2 = Int32.ofNat m := zyEk w1 (by decide) w2 w3 ((i1 75 2 (by decide)).trans hms)
      rw [a1, em, zyOl (by omega) (by omega)] at f1
      exact i3 rfl b (by omega)
    · cases hx
theorem zybg_run : zyAllP (fun r c => zyrS (zymr r c) zxi225 (225, 0, 0, 0, 0) 1 zpbg (fun _ _ => []) zFbg zSbg zXbg zRbg 4) = true := by decide +kernel
theorem zybegins {l : Launch} {r c : Nat} (h1 : 1 ≤ r) (h2 : r ≤ 4) (h3 : 1 ≤ c) (h4 : c ≤ 5) {en : zEn} {me : zMe} (hen : zG zxMeta 225 = some en) (hme : zG zMeth 225 = some me) : zyHc l (zymr r c) en me 1 0 zyΦbb (zyΨbg (zgNS r c)) := by
  have een : zG zxMeta 225 = some (zxi225, 1, 2, 11, 225, 0, 0, 0, 0) := rfl
  obtain ⟨me1, hme1, hOK⟩ := zall hen
  rw [hme] at hme1
  cases hme1
  rw [een] at hen
  cases hen
  have hr := zyAllP_iff zybg_run h1 h2 h3 h4
  refine zycutS (mi := zymr r c) hOK rfl rfl ⟨_, rfl, rfl⟩ (ι := Fin 4) (fun i => zpbg i.val) (fun _ _ => []) (fun i => zFbg i.val) (fun i => zSbg i.val) (fun i => zXbg i.val) (fun i => zRbg i.val) (fun i y2 ct en2 me2 h => by cases h) 200000 (fun i => zyAll_iff hr i.val i.isLt) ⟨0, by decide⟩ ⟨rfl, rfl, rfl, rfl⟩ ⟨by decide, by decide⟩
    (fun i as E0 ρ E => (∀ a k, ¬ a = 77 → E a k = E0 a k) ∧ ∃ k : Nat, k ≤ 8 ∧ (1 ≤ i.val → i.val ≤ 2 → ρ 1 = Int32.ofNat k) ∧ (i.val = 1 → ∀ b, b < k → zsl E b < zgNS r c) ∧ (i.val = 2 → k < 8 ∧ ∀ b, b ≤ k → zsl E b < zgNS r c) ∧ (i.val = 3 → ∀ m : Nat, m ≤ 8 → E0 75 2 = some (.int (Int32.ofNat m)) → ∀ b, b < m → zsl E b < zgNS r c)) (fun i as E0 ρ E => if i.val = 0 then 100 else if i.val = 3 then 0 else 2 * (8 - zyN1 (ρ 1)) + (3 - i.val)) ?_ ?_ ?_
  · intro as E hlen hT hΦ
    exact ⟨zEnv_c (zyfull _) (zEnv_c (zyfull _) zEnv_nil), fun _ _ _ => rfl, 0, Nat.zero_le _, fun h => absurd (show 1 ≤ 0 from h) (by decide), fun h => absurd (show 0 = 1 from h) (by decide), fun h => absurd (show 0 = 2 from h) (by decide), fun h => absurd (show 0 = 3 from h) (by decide)⟩
  · intro as B s Wg hRu hT0 hΦ hlen i ρ H hT hInv hIH x hx ρ2 N2 H2 locs lsB stA hAt hXs hag hfr hT2
    rcases i with ⟨i, hi⟩
    have hi2 : i = 0 ∨ i = 1 ∨ i = 2 ∨ i = 3 := by omega
    rcases hi2 with rfl | rfl | rfl | rfl
    · have hx : x ∈ [zxbg_ax0] := hx
      have hg : ∀ k, k < 2 → ρ2 k = ρ k := hag
      have hI := hInv
      have hI : (∀ a k, ¬ a = 77 → (zyEl (zymr r c) B H) a k = (zyEl (zymr r c) B s.heap) a k) ∧ ∃ k : Nat, k ≤ 8 ∧ (1 ≤ 0 → 0 ≤ 2 → ρ 1 = Int32.ofNat k) ∧ (0 = 1 → ∀ b, b < k → zsl (zyEl (zymr r c) B H) b < zgNS r c) ∧ (0 = 2 → k < 8 ∧ ∀ b, b ≤ k → zsl (zyEl (zymr r c) B H) b < zgNS r c) ∧ (0 = 3 → ∀ m : Nat, m ≤ 8 → (zyEl (zymr r c) B s.heap) 75 2 = some (.int (Int32.ofNat m)) → ∀ b, b < m → zsl (zyEl (zymr r c) B H) b < zgNS r c) := hI
      obtain ⟨hF, hB, hM⟩ := hXs
      have hEE : (zyEl (zymr r c) B H2) = (zyEl (zymr r c) B H) := zyfr0 hfr
      have ex := List.mem_singleton.mp hx
      subst ex
      obtain ⟨i1, k, hk, i2, i3, i4, i5⟩ := hI
      have T1 : zyTy (zymr r c) (zyEl (zymr r c) B H) := hT
      have n80 : zgNS r c ≤ 80 := zgNS_le h2 h4
      refine zyGoB hIH hAt hB ⟨1, by decide⟩ [595, 0] rfl rfl rfl rfl ⟨by rw [hEE]; exact i1, 0, Nat.zero_le _, fun _ _ => rfl, fun _ => fun b hb => absurd hb (Nat.not_lt_zero b), fun h => absurd (show 1 = 2 from h) (by decide), fun h => absurd (show 1 = 3 from h) (by decide)⟩ ?_
      show 2 * (8 - zyN1 (Int32.ofNat 0)) + (3 - 1) < 100
      omega
    · have hx : x ∈ [zxbg_bx0, zxbg_bx1] := hx
      have hg : ∀ k, k < 2 → ρ2 k = ρ k := hag
      have hI := hInv
      have hI : (∀ a k, ¬ a = 77 → (zyEl (zymr r c) B H) a k = (zyEl (zymr r c) B s.heap) a k) ∧ ∃ k : Nat, k ≤ 8 ∧ (1 ≤ 1 → 1 ≤ 2 → ρ 1 = Int32.ofNat k) ∧ (1 = 1 → ∀ b, b < k → zsl (zyEl (zymr r c) B H) b < zgNS r c) ∧ (1 = 2 → k < 8 ∧ ∀ b, b ≤ k → zsl (zyEl (zymr r c) B H) b < zgNS r c) ∧ (1 = 3 → ∀ m : Nat, m ≤ 8 → (zyEl (zymr r c) B s.heap) 75 2 = some (.int (Int32.ofNat m)) → ∀ b, b < m → zsl (zyEl (zymr r c) B H) b < zgNS r c) := hI
      obtain ⟨hF, hB, hM⟩ := hXs
      have hEE : (zyEl (zymr r c) B H2) = (zyEl (zymr r c) B H) := zyfr0 hfr
      rcases List.mem_cons.mp hx with ex | hx
      · subst ex
        obtain ⟨i1, k, hk, i2, i3, i4, i5⟩ := hI
        have T1 : zyTy (zymr r c) (zyEl (zymr r c) B H) := hT
        have n80 : zgNS r c ≤ 80 := zgNS_le h2 h4
        have a1 : ρ2 1 = Int32.ofNat k := (hg 1 (by decide)).trans (i2 (by decide) (by decide))
        have kb : 2147483648 ≤ zB (ρ2 1) ∧ zB (ρ2 1) ≤ 2147483655 := zyXb hB 0 rfl
        rw [a1, zyBn (by omega)] at kb
        obtain ⟨na, u1, u2, u3⟩ := zyXe hF 2 rfl
        have u1 : ρ2 1 + Int32.ofNat 136 = Int32.ofNat na := u1
        have u3 : zyEl (zymr r c) B H 75 na = some (.int (ρ2 3)) := u3
        rw [a1, zyOa, Nat.add_comm] at u1
        obtain ⟨s', l1, e1⟩ := zc_slot T1 h2 h4 (o := 136) (b := k) (by decide) (by omega)
        have e3 := zyEk u1 (by omega) u2 u3 e1
        have l2 : s' < 80 := by omega
        refine zyAsB hRu hIH hAt hB 77 k (20, 8, [(0, 7, 73786976312018076282)]) rfl rfl rfl (cv := 103079215105) (cj := 34359738369) rfl (by decide) (by decide) ⟨2, by decide⟩ [595, 34359738369] rfl rfl rfl rfl (show k < 8 by omega) a1 ?_ ?_
        · intro r0 hr0 _ _
          rw [List.mem_singleton.mp hr0]
          refine ⟨rfl, ?_⟩
          show 2147483648 ≤ zB (ρ2 3) ∧ zB (ρ2 3) ≤ 2147483727
          rw [e3, zyBn (by omega)]
          omega
        · intro E3 hT3 p1 p2
          have p1 : E3 77 k = some (.int (ρ2 3)) := p1
          rw [e3] at p1
          rw [hEE] at p2
          refine ⟨⟨fun a k n1 => (p2 a k (fun z => n1 z.1)).trans (i1 a k n1), k, hk, fun _ _ => a1, fun h => absurd (show 2 = 1 from h) (by decide), fun _ => ⟨by omega, fun b hb => ?_⟩, fun h => absurd (show 2 = 3 from h) (by decide)⟩, ?_⟩
          · by_cases e : b = k
            · rw [e, zsl_s p1 l2]
              exact l1
            · rw [zsl_eq (p2 77 b (fun z => e z.2))]
              exact i3 rfl b (by omega)
          · show 2 * (8 - zyN1 (ρ2 1)) + (3 - 2) < 2 * (8 - zyN1 (ρ 1)) + (3 - 1)
            rw [hg 1 (by decide)]
            omega
      · skip
        have ex := List.mem_singleton.mp hx
        subst ex
        obtain ⟨i1, k, hk, i2, i3, i4, i5⟩ := hI
        have T1 : zyTy (zymr r c) (zyEl (zymr r c) B H) := hT
        have n80 : zgNS r c ≤ 80 := zgNS_le h2 h4
        have a1 : ρ2 1 = Int32.ofNat k := (hg 1 (by decide)).trans (i2 (by decide) (by decide))
        obtain ⟨n3, w1, w2, w3⟩ := zyXe hF 0 rfl
        have w1 : Int32.ofNat 2 = Int32.ofNat n3 := w1
        have w3 : zyEl (zymr r c) B H 75 n3 = some (.int (ρ2 2)) := w3
        have f1 := zyX21 hF 1 rfl
        have f1 : ¬ ρ2 1 < ρ2 2 := f1
        refine zyGoB hIH hAt hB ⟨3, by decide⟩ [595, 0] rfl rfl rfl rfl ⟨by rw [hEE]; exact i1, k, hk, fun _ h => absurd (show 3 ≤ 2 from h) (by decide), fun h => absurd (show 3 = 1 from h) (by decide), fun h => absurd (show 3 = 2 from h) (by decide), fun _ => fun m hm hms b hb => ?_⟩ ?_
        · have em : ρ2 2 = Int32.ofNat m := zyEk w1 (by decide) w2 w3 ((i1 75 2 (by decide)).trans hms)
          rw [a1, em, zyOl (by omega) (by omega)] at f1
          rw [hEE]
          exact i3 rfl b (by omega)
        · show 0 < 2 * (8 - zyN1 (ρ 1)) + (3 - 1)
          omega
    · have hx : x ∈ [zxbg_cx0] := hx
      have hg : ∀ k, k < 2 → ρ2 k = ρ k := hag
      have hI := hInv
      have hI : (∀ a k, ¬ a = 77 → (zyEl (zymr r c) B H) a k = (zyEl (zymr r c) B s.heap) a k) ∧ ∃ k : Nat, k ≤ 8 ∧ (1 ≤ 2 → 2 ≤ 2 → ρ 1 = Int32.ofNat k) ∧ (2 = 1 → ∀ b, b < k → zsl (zyEl (zymr r c) B H) b < zgNS r c) ∧ (2 = 2 → k < 8 ∧ ∀ b, b ≤ k → zsl (zyEl (zymr r c) B H) b < zgNS r c) ∧ (2 = 3 → ∀ m : Nat, m ≤ 8 → (zyEl (zymr r c) B s.heap) 75 2 = some (.int (Int32.ofNat m)) → ∀ b, b < m → zsl (zyEl (zymr r c) B H) b < zgNS r c) := hI
      obtain ⟨hF, hB, hM⟩ := hXs
      have hEE : (zyEl (zymr r c) B H2) = (zyEl (zymr r c) B H) := zyfr0 hfr
      have ex := List.mem_singleton.mp hx
      subst ex
      obtain ⟨i1, k, hk, i2, i3, i4, i5⟩ := hI
      have T1 : zyTy (zymr r c) (zyEl (zymr r c) B H) := hT
      have n80 : zgNS r c ≤ 80 := zgNS_le h2 h4
      have a1 : ρ2 1 = Int32.ofNat k := (hg 1 (by decide)).trans (i2 (by decide) (by decide))
      obtain ⟨k8, kv⟩ := i4 rfl
      have a1' : ρ2 1 + Int32.ofNat 1 = Int32.ofNat (k + 1) := by rw [a1, zyOa]
      refine zyGoB hIH hAt hB ⟨1, by decide⟩ [595, 34359738377] rfl rfl rfl rfl ⟨by rw [hEE]; exact i1, k + 1, by omega, fun _ _ => a1', fun _ => fun b hb => by rw [hEE]; exact kv b (by omega), fun h => absurd (show 1 = 2 from h) (by decide), fun h => absurd (show 1 = 3 from h) (by decide)⟩ ?_
      show 2 * (8 - zyN1 (ρ2 1 + Int32.ofNat 1)) + (3 - 1) < 2 * (8 - zyN1 (ρ 1)) + (3 - 2)
      rw [a1', i2 (by decide) (by decide), zyN1_of (by omega), zyN1_of (by omega)]
      omega
    · cases hx
  · intro as E0 E E2 hT0 hΦ hlen i ρ hT hInv x hx ρ2 N2 B vo hXs hag hfr hT2 hvo
    rcases i with ⟨i, hi⟩
    have hi2 : i = 0 ∨ i = 1 ∨ i = 2 ∨ i = 3 := by omega
    rcases hi2 with rfl | rfl | rfl | rfl
    · cases hx
    · cases hx
    · cases hx
    · have hx : x ∈ [zxbg_dr0] := hx
      have hg : ∀ k, k < 2 → ρ2 k = ρ k := hag
      have hI := hInv
      have hI : (∀ a k, ¬ a = 77 → E a k = E0 a k) ∧ ∃ k : Nat, k ≤ 8 ∧ (1 ≤ 3 → 3 ≤ 2 → ρ 1 = Int32.ofNat k) ∧ (3 = 1 → ∀ b, b < k → zsl E b < zgNS r c) ∧ (3 = 2 → k < 8 ∧ ∀ b, b ≤ k → zsl E b < zgNS r c) ∧ (3 = 3 → ∀ m : Nat, m ≤ 8 → E0 75 2 = some (.int (Int32.ofNat m)) → ∀ b, b < m → zsl E b < zgNS r c) := hI
      obtain ⟨hF, hB, hM⟩ := hXs
      have hfr : ∀ a k, zyin [(74, 14, 14)] a k = false → E2 a k = E a k := hfr
      have ex := List.mem_singleton.mp hx
      subst ex
      obtain ⟨i1, k, hk, i2, i3, i4, i5⟩ := hI
      have m1 := zyXm hM 0 rfl
      have m1 : E2 74 14 = some (.int (Int32.ofNat 0)) := m1
      have hk1 := zyfr1 hfr
      refine ⟨zyvo_0 (show zyvo _ [] vo from hvo), fun a k n1 n2 => (hk1 a k n2).trans (i1 a k n1), m1, fun m hm hms b hb => ?_⟩
      rw [zsl_eq (hk1 77 b (fun z => absurd z.1 (by decide)))]
      exact i5 rfl m hm hms b hb
theorem zygs_run : zyAllP (fun r c => zyrS (zymr r c) zxi224 (224, 0, 0, 0, 0) 1 zpgs (fun _ _ => []) zFgs zSgs zXgs zRgs 3) = true := by decide +kernel
theorem zygoes {l : Launch} {r c : Nat} (h1 : 1 ≤ r) (h2 : r ≤ 4) (h3 : 1 ≤ c) (h4 : c ≤ 5) {en : zEn} {me : zMe} (hen : zG zxMeta 224 = some en) (hme : zG zMeth 224 = some me) : zyHc l (zymr r c) en me 1 0 zyΦbb zyΨgs := by
  have een : zG zxMeta 224 = some (zxi224, 1, 2, 11, 224, 0, 0, 0, 0) := rfl
  obtain ⟨me1, hme1, hOK⟩ := zall hen
  rw [hme] at hme1
  cases hme1
  rw [een] at hen
  cases hen
  have hr := zyAllP_iff zygs_run h1 h2 h3 h4
  refine zycutS (mi := zymr r c) hOK rfl rfl ⟨_, rfl, rfl⟩ (ι := Fin 3) (fun i => zpgs i.val) (fun _ _ => []) (fun i => zFgs i.val) (fun i => zSgs i.val) (fun i => zXgs i.val) (fun i => zRgs i.val) (fun i y2 ct en2 me2 h => by cases h) 200000 (fun i => zyAll_iff hr i.val i.isLt) ⟨0, by decide⟩ ⟨rfl, rfl, rfl, rfl⟩ ⟨by decide, by decide⟩
    (fun i as E0 ρ E => (∀ a k, ¬ a = 77 → E a k = E0 a k) ∧ ∃ k : Nat, k ≤ 8 ∧ (1 ≤ i.val → i.val ≤ 2 → ρ 1 = Int32.ofNat k) ∧ (i.val = 1 → ∀ b, b < k → zsl E b = zth E0 b) ∧ (i.val = 2 → k < 8 ∧ ∀ b, b ≤ k → zsl E b = zth E0 b)) (fun i as E0 ρ E => if i.val = 0 then 100 else if i.val = 3 then 0 else 2 * (8 - zyN1 (ρ 1)) + (3 - i.val)) ?_ ?_ ?_
  · intro as E hlen hT hΦ
    exact ⟨zEnv_c (zyfull _) (zEnv_c (zyfull _) zEnv_nil), fun _ _ _ => rfl, 0, Nat.zero_le _, fun h => absurd (show 1 ≤ 0 from h) (by decide), fun h => absurd (show 0 = 1 from h) (by decide), fun h => absurd (show 0 = 2 from h) (by decide)⟩
  · intro as B s Wg hRu hT0 hΦ hlen i ρ H hT hInv hIH x hx ρ2 N2 H2 locs lsB stA hAt hXs hag hfr hT2
    rcases i with ⟨i, hi⟩
    have hi2 : i = 0 ∨ i = 1 ∨ i = 2 := by omega
    rcases hi2 with rfl | rfl | rfl
    · have hx : x ∈ [zxgs_ax0] := hx
      have hg : ∀ k, k < 2 → ρ2 k = ρ k := hag
      have hI := hInv
      have hI : (∀ a k, ¬ a = 77 → (zyEl (zymr r c) B H) a k = (zyEl (zymr r c) B s.heap) a k) ∧ ∃ k : Nat, k ≤ 8 ∧ (1 ≤ 0 → 0 ≤ 2 → ρ 1 = Int32.ofNat k) ∧ (0 = 1 → ∀ b, b < k → zsl (zyEl (zymr r c) B H) b = zth (zyEl (zymr r c) B s.heap) b) ∧ (0 = 2 → k < 8 ∧ ∀ b, b ≤ k → zsl (zyEl (zymr r c) B H) b = zth (zyEl (zymr r c) B s.heap) b) := hI
      obtain ⟨hF, hB, hM⟩ := hXs
      have hEE : (zyEl (zymr r c) B H2) = (zyEl (zymr r c) B H) := zyfr0 hfr
      have ex := List.mem_singleton.mp hx
      subst ex
      obtain ⟨i1, k, hk, i2, i3, i4⟩ := hI
      have T1 : zyTy (zymr r c) (zyEl (zymr r c) B H) := hT
      have n80 : zgNS r c ≤ 80 := zgNS_le h2 h4
      refine zyGoB hIH hAt hB ⟨1, by decide⟩ [595, 0] rfl rfl rfl rfl ⟨by rw [hEE]; exact i1, 0, Nat.zero_le _, fun _ _ => rfl, fun _ => fun b hb => absurd hb (Nat.not_lt_zero b), fun h => absurd (show 1 = 2 from h) (by decide)⟩ ?_
      show 2 * (8 - zyN1 (Int32.ofNat 0)) + (3 - 1) < 100
      omega
    · have hx : x ∈ [zxgs_bx0] := hx
      have hg : ∀ k, k < 2 → ρ2 k = ρ k := hag
      have hI := hInv
      have hI : (∀ a k, ¬ a = 77 → (zyEl (zymr r c) B H) a k = (zyEl (zymr r c) B s.heap) a k) ∧ ∃ k : Nat, k ≤ 8 ∧ (1 ≤ 1 → 1 ≤ 2 → ρ 1 = Int32.ofNat k) ∧ (1 = 1 → ∀ b, b < k → zsl (zyEl (zymr r c) B H) b = zth (zyEl (zymr r c) B s.heap) b) ∧ (1 = 2 → k < 8 ∧ ∀ b, b ≤ k → zsl (zyEl (zymr r c) B H) b = zth (zyEl (zymr r c) B s.heap) b) := hI
      obtain ⟨hF, hB, hM⟩ := hXs
      have hEE : (zyEl (zymr r c) B H2) = (zyEl (zymr r c) B H) := zyfr0 hfr
      have ex := List.mem_singleton.mp hx
      subst ex
      obtain ⟨i1, k, hk, i2, i3, i4⟩ := hI
      have T1 : zyTy (zymr r c) (zyEl (zymr r c) B H) := hT
      have n80 : zgNS r c ≤ 80 := zgNS_le h2 h4
      have a1 : ρ2 1 = Int32.ofNat k := (hg 1 (by decide)).trans (i2 (by decide) (by decide))
      have kb : 2147483648 ≤ zB (ρ2 1) ∧ zB (ρ2 1) ≤ 2147483655 := zyXb hB 0 rfl
      rw [a1, zyBn (by omega)] at kb
      obtain ⟨na, u1, u2, u3⟩ := zyXe hF 2 rfl
      have u1 : ρ2 1 = Int32.ofNat na := u1
      have u3 : zyEl (zymr r c) B H 78 na = some (.int (ρ2 3)) := u3
      rw [a1] at u1
      obtain ⟨e1, l2⟩ := zth_el T1 (i := k) (by omega)
      have e3 := zyEk u1 (by omega) u2 u3 e1
      rw [zth_eq (i1 78 k (by decide))] at e3 l2
      obtain ⟨s', es⟩ : ∃ s', s' = zth (zyEl (zymr r c) B s.heap) k := ⟨_, rfl⟩
      rw [← es] at e3 l2
      refine zyAsB hRu hIH hAt hB 77 k (20, 8, [(0, 7, 73786976312018076282)]) rfl rfl rfl (cv := 103079215105) (cj := 34359738369) rfl (by decide) (by decide) ⟨2, by decide⟩ [595, 34359738369] rfl rfl rfl rfl (show k < 8 by omega) a1 ?_ ?_
      · intro r0 hr0 _ _
        rw [List.mem_singleton.mp hr0]
        refine ⟨rfl, ?_⟩
        show 2147483648 ≤ zB (ρ2 3) ∧ zB (ρ2 3) ≤ 2147483727
        rw [e3, zyBn (by omega)]
        omega
      · intro E3 hT3 p1 p2
        have p1 : E3 77 k = some (.int (ρ2 3)) := p1
        rw [e3] at p1
        rw [hEE] at p2
        refine ⟨⟨fun a k n1 => (p2 a k (fun z => n1 z.1)).trans (i1 a k n1), k, hk, fun _ _ => a1, fun h => absurd (show 2 = 1 from h) (by decide), fun _ => ⟨by omega, fun b hb => ?_⟩⟩, ?_⟩
        · by_cases e : b = k
          · rw [e, zsl_s p1 l2]
            exact es
          · rw [zsl_eq (p2 77 b (fun z => e z.2))]
            exact i3 rfl b (by omega)
        · show 2 * (8 - zyN1 (ρ2 1)) + (3 - 2) < 2 * (8 - zyN1 (ρ 1)) + (3 - 1)
          rw [hg 1 (by decide)]
          omega
    · have hx : x ∈ [zxgs_cx0] := hx
      have hg : ∀ k, k < 2 → ρ2 k = ρ k := hag
      have hI := hInv
      have hI : (∀ a k, ¬ a = 77 → (zyEl (zymr r c) B H) a k = (zyEl (zymr r c) B s.heap) a k) ∧ ∃ k : Nat, k ≤ 8 ∧ (1 ≤ 2 → 2 ≤ 2 → ρ 1 = Int32.ofNat k) ∧ (2 = 1 → ∀ b, b < k → zsl (zyEl (zymr r c) B H) b = zth (zyEl (zymr r c) B s.heap) b) ∧ (2 = 2 → k < 8 ∧ ∀ b, b ≤ k → zsl (zyEl (zymr r c) B H) b = zth (zyEl (zymr r c) B s.heap) b) := hI
      obtain ⟨hF, hB, hM⟩ := hXs
      have hEE : (zyEl (zymr r c) B H2) = (zyEl (zymr r c) B H) := zyfr0 hfr
      have ex := List.mem_singleton.mp hx
      subst ex
      obtain ⟨i1, k, hk, i2, i3, i4⟩ := hI
      have T1 : zyTy (zymr r c) (zyEl (zymr r c) B H) := hT
      have n80 : zgNS r c ≤ 80 := zgNS_le h2 h4
      have a1 : ρ2 1 = Int32.ofNat k := (hg 1 (by decide)).trans (i2 (by decide) (by decide))
      obtain ⟨k8, kv⟩ := i4 rfl
      have a1' : ρ2 1 + Int32.ofNat 1 = Int32.ofNat (k + 1) := by rw [a1, zyOa]
      refine zyGoB hIH hAt hB ⟨1, by decide⟩ [595, 34359738377] rfl rfl rfl rfl ⟨by rw [hEE]; exact i1, k + 1, by omega, fun _ _ => a1', fun _ => fun b hb => by rw [hEE]; exact kv b (by omega), fun h => absurd (show 1 = 2 from h) (by decide)⟩ ?_
      show 2 * (8 - zyN1 (ρ2 1 + Int32.ofNat 1)) + (3 - 1) < 2 * (8 - zyN1 (ρ 1)) + (3 - 2)
      rw [a1', i2 (by decide) (by decide), zyN1_of (by omega), zyN1_of (by omega)]
      omega
  · intro as E0 E E2 hT0 hΦ hlen i ρ hT hInv x hx ρ2 N2 B vo hXs hag hfr hT2 hvo
    rcases i with ⟨i, hi⟩
    have hi2 : i = 0 ∨ i = 1 ∨ i = 2 := by omega
    rcases hi2 with rfl | rfl | rfl
    · cases hx
    · have hx : x ∈ [zxgs_br0] := hx
      have hg : ∀ k, k < 2 → ρ2 k = ρ k := hag
      have hI := hInv
      have hI : (∀ a k, ¬ a = 77 → E a k = E0 a k) ∧ ∃ k : Nat, k ≤ 8 ∧ (1 ≤ 1 → 1 ≤ 2 → ρ 1 = Int32.ofNat k) ∧ (1 = 1 → ∀ b, b < k → zsl E b = zth E0 b) ∧ (1 = 2 → k < 8 ∧ ∀ b, b ≤ k → zsl E b = zth E0 b) := hI
      obtain ⟨hF, hB, hM⟩ := hXs
      have hEE : E2 = E := zyfr0 hfr
      have ex := List.mem_singleton.mp hx
      subst ex
      obtain ⟨i1, k, hk, i2, i3, i4⟩ := hI
      have a1 : ρ2 1 = Int32.ofNat k := (hg 1 (by decide)).trans (i2 (by decide) (by decide))
      obtain ⟨n3, w1, w2, w3⟩ := zyXe hF 0 rfl
      have w1 : Int32.ofNat 2 = Int32.ofNat n3 := w1
      have w3 : E 75 n3 = some (.int (ρ2 2)) := w3
      have f1 := zyX21 hF 1 rfl
      have f1 : ¬ ρ2 1 < ρ2 2 := f1
      rw [hEE]
      refine ⟨zyvo_0 (show zyvo _ [] vo from hvo), i1, fun m hm hms b hb => ?_⟩
      have em : ρ2 2 = Int32.ofNat m := zyEk w1 (by decide) w2 w3 ((i1 75 2 (by decide)).trans hms)
      rw [a1, em, zyOl (by omega) (by omega)] at f1
      exact i3 rfl b (by omega)
    · cases hx
end
section
/-! phases: step (printed by yexb.py) -/
noncomputable def zxstp_ax0 : zyXp := (28, [595, 34359738369, 0, 0, 13], [], [(21, 0, 34359738369, 8), (21, 0, 800, 34359738369), (23, 0, 8, 0), (22, 0, 0, 0), (23, 0, 8, 0)], [(34359738369, 2147483649, 2147483748)], [])
noncomputable def zxstp_ar0 : zyXp := (0, [], [34359738360], [(20, 0, 34359738369, 8), (22, 0, 0, 0), (23, 0, 8, 0), (22, 0, 0, 0)], [(34359738369, 0, 2147483648)], [])
noncomputable def zxstp_ar1 : zyXp := (0, [], [34359738360], [(21, 0, 34359738369, 8), (20, 0, 800, 34359738369), (22, 0, 0, 0), (23, 0, 8, 0), (22, 0, 0, 0)], [(34359738369, 2147483749, 4294967295)], [])
noncomputable def zpstp_a : zyPh := (0, [595, 34359738369, 13, 13, 13], [(0, 4294967295), (0, 4294967295), (0, 4294967295), (0, 4294967295), (0, 4294967295)], [], [])
noncomputable def zxstp_bx0 : zyXp := (38, [595, 34359738369, 68719476737, 103079215105, 13], [595], [(20, 0, 68719476737, 34359738369), (22, 0, 103079215105, 0)], [(34359738369, 2147483649, 2147483748), (68719476737, 2147483648, 2147483747), (103079215105, 2147483648, 2147483648)], [])
noncomputable def zxstp_br0 : zyXp := (0, [], [68719476737], [(20, 0, 68719476737, 34359738369), (23, 0, 103079215105, 0), (23, 0, 68719476737, 0)], [(34359738369, 2147483649, 2147483748), (68719476737, 2147483649, 2147483747), (103079215105, 2147483649, 2147483654)], [])
noncomputable def zxstp_br1 : zyXp := (0, [], [34359738360], [(20, 0, 68719476737, 34359738369), (23, 0, 103079215105, 0), (22, 0, 68719476737, 0)], [(34359738369, 2147483649, 2147483748), (68719476737, 2147483648, 2147483648), (103079215105, 2147483649, 2147483654)], [])
noncomputable def zxstp_br2 : zyXp := (0, [], [68719476737], [(21, 0, 68719476737, 34359738369), (23, 0, 68719476737, 0)], [(34359738369, 2147483649, 2147483748), (68719476737, 2147483649, 2147483748)], [])
noncomputable def zpstp_b : zyPh := (28, [595, 34359738369, 68719476737, 103079215105, 13], [(0, 4294967295), (2147483649, 2147483748), (2147483648, 2147483748), (2147483648, 2147483654), (0, 4294967295)], [], [])
noncomputable def zxstp_cx0 : zyXp := (53, [595, 34359738369, 68719476737, 103079215105, 13], [171798691841, 595], [(24, 171798691841, 75, 24)], [(34359738369, 2147483649, 2147483748), (68719476737, 2147483648, 2147483747), (103079215105, 2147483648, 2147483648)], [(1212430, 0)])
noncomputable def zpstp_c : zyPh := (41, [595, 34359738369, 68719476737, 103079215105, 13], [(0, 4294967295), (2147483649, 2147483748), (2147483648, 2147483747), (2147483648, 2147483648), (0, 4294967295)], [], [])
noncomputable def zxstp_dx0 : zyXp := (66, [595, 34359738369, 68719476737, 103079215105, 13], [595], [(23, 0, 171798691841, 0)], [(34359738369, 2147483649, 2147483748), (68719476737, 2147483648, 2147483747), (103079215105, 2147483648, 2147483648), (171798691841, 2147483649, 2147483649)], [])
noncomputable def zxstp_dx1 : zyXp := (28, [595, 34359738369, 68719476737, 48, 13], [], [(22, 0, 171798691841, 0)], [(34359738369, 2147483649, 2147483748), (68719476737, 2147483648, 2147483747), (171798691841, 2147483648, 2147483648)], [])
noncomputable def zpstp_d : zyPh := (56, [595, 34359738369, 68719476737, 103079215105, 13], [(0, 4294967295), (2147483649, 2147483748), (2147483648, 2147483747), (2147483648, 2147483648), (0, 4294967295), (2147483648, 2147483649)], [], [171798691841])
noncomputable def zxstp_ex0 : zyXp := (28, [595, 34359738369, 68719476737, 24, 13], [], [(24, 171798691841, 75, 32), (24, 206158430209, 74, 112), (1, 240518168577, 171798691841, 206158430209), (20, 0, 2400, 240518168577)], [(34359738369, 2147483649, 2147483748), (68719476737, 2147483648, 2147483747), (171798691841, 2147483648, 2147483948), (240518168577, 2147483949, 4294967295)], [])
noncomputable def zxstp_ex1 : zyXp := (94, [595, 34359738369, 68719476737, 103079215105, 0], [], [(24, 171798691841, 75, 32), (24, 206158430209, 74, 112), (1, 240518168577, 171798691841, 206158430209), (21, 0, 2400, 240518168577)], [(34359738369, 2147483649, 2147483748), (68719476737, 2147483648, 2147483747), (103079215105, 2147483648, 2147483648), (171798691841, 2147483648, 2147483948), (240518168577, 0, 2147483948)], [])
noncomputable def zpstp_e : zyPh := (69, [595, 34359738369, 68719476737, 103079215105, 13], [(0, 4294967295), (2147483649, 2147483748), (2147483648, 2147483747), (2147483648, 2147483648), (0, 4294967295)], [], [])
noncomputable def zxstp_fx0 : zyXp := (127, [595, 34359738369, 68719476737, 103079215105, 137438953473], [274877906945, 240518168577, 603], [(24, 171798691841, 74, 112), (20, 0, 137438953473, 171798691841), (24, 206158430209, 75, 32), (1, 240518168577, 206158431489, 137438953473), (24, 274877906945, 80, 137438953473)], [(34359738369, 2147483649, 2147483748), (68719476737, 2147483648, 2147483747), (103079215105, 2147483648, 2147483648), (137438953473, 2147483648, 2147483676), (171798691841, 2147483649, 4294967295), (206158430209, 2147483648, 2147483948), (240518168577, 2147483808, 2147484136), (274877906945, 2147483641, 2147483655)], [])
noncomputable def zxstp_fx1 : zyXp := (134, [595, 34359738369, 68719476737, 103079215105, 13], [], [(24, 171798691841, 74, 112), (21, 0, 137438953473, 171798691841)], [(34359738369, 2147483649, 2147483748), (68719476737, 2147483648, 2147483747), (103079215105, 2147483648, 2147483648), (137438953473, 2147483648, 2147483676), (171798691841, 0, 2147483676)], [])
noncomputable def zpstp_f : zyPh := (94, [595, 34359738369, 68719476737, 103079215105, 137438953473], [(0, 4294967295), (2147483649, 2147483748), (2147483648, 2147483747), (2147483648, 2147483648), (2147483648, 2147483676)], [], [])
noncomputable def zxstp_gx0 : zyXp := (94, [595, 34359738369, 68719476737, 103079215105, 137438953481], [], [], [(34359738369, 2147483649, 2147483748), (68719476737, 2147483648, 2147483747), (103079215105, 2147483648, 2147483648), (137438953473, 2147483648, 2147483675), (137438953481, 2147483649, 2147483676)], [])
noncomputable def zpstp_g : zyPh := (128, [595, 34359738369, 68719476737, 103079215105, 137438953473], [(0, 4294967295), (2147483649, 2147483748), (2147483648, 2147483747), (2147483648, 2147483648), (2147483648, 2147483675)], [], [])
noncomputable def zxstp_hx0 : zyXp := (146, [595, 34359738369, 68719476737, 103079215105, 13], [240518168577, 32, 603], [(24, 171798691841, 75, 32), (24, 206158430209, 74, 112), (1, 240518168577, 171798691841, 206158430209)], [(34359738369, 2147483649, 2147483748), (68719476737, 2147483648, 2147483747), (103079215105, 2147483648, 2147483648), (171798691841, 2147483648, 2147483948)], [])
noncomputable def zpstp_h : zyPh := (134, [595, 34359738369, 68719476737, 103079215105, 13], [(0, 4294967295), (2147483649, 2147483748), (2147483648, 2147483747), (2147483648, 2147483648), (0, 4294967295)], [], [])
noncomputable def zxstp_ix0 : zyXp := (150, [595, 34359738369, 68719476737, 103079215105, 0], [], [], [(34359738369, 2147483649, 2147483748), (68719476737, 2147483648, 2147483747), (103079215105, 2147483648, 2147483648)], [])
noncomputable def zpstp_i : zyPh := (147, [595, 34359738369, 68719476737, 103079215105, 13], [(0, 4294967295), (2147483649, 2147483748), (2147483648, 2147483747), (2147483648, 2147483648), (0, 4294967295)], [], [])
noncomputable def zxstp_jx0 : zyXp := (178, [595, 34359738369, 68719476737, 103079215105, 137438953473], [206158430209, 137438954625, 603], [(24, 171798691841, 75, 16), (20, 0, 137438953473, 171798691841), (24, 206158430209, 78, 137438953473)], [(34359738369, 2147483649, 2147483748), (68719476737, 2147483648, 2147483747), (103079215105, 2147483648, 2147483648), (137438953473, 2147483648, 2147483655), (171798691841, 2147483649, 2147483656), (206158430209, 2147483648, 2147483727), (137438954625, 2147483792, 2147483799)], [])
noncomputable def zxstp_jx1 : zyXp := (185, [595, 34359738369, 68719476737, 103079215105, 13], [], [(24, 171798691841, 75, 16), (21, 0, 137438953473, 171798691841)], [(34359738369, 2147483649, 2147483748), (68719476737, 2147483648, 2147483747), (103079215105, 2147483648, 2147483648), (137438953473, 2147483648, 2147483656), (171798691841, 2147483648, 2147483656)], [])
noncomputable def zpstp_j : zyPh := (150, [595, 34359738369, 68719476737, 103079215105, 137438953473], [(0, 4294967295), (2147483649, 2147483748), (2147483648, 2147483747), (2147483648, 2147483648), (2147483648, 2147483656)], [], [])
noncomputable def zxstp_kx0 : zyXp := (150, [595, 34359738369, 68719476737, 103079215105, 137438953481], [], [], [(34359738369, 2147483649, 2147483748), (68719476737, 2147483648, 2147483747), (103079215105, 2147483648, 2147483648), (137438953473, 2147483648, 2147483655), (137438953481, 2147483649, 2147483656)], [])
noncomputable def zpstp_k : zyPh := (179, [595, 34359738369, 68719476737, 103079215105, 137438953473], [(0, 4294967295), (2147483649, 2147483748), (2147483648, 2147483747), (2147483648, 2147483648), (2147483648, 2147483655)], [], [])
noncomputable def zxstp_lx0 : zyXp := (28, [595, 34359738369, 68719476745, 103079215105, 13], [], [], [(34359738369, 2147483649, 2147483748), (68719476737, 2147483648, 2147483747), (103079215105, 2147483648, 2147483648), (68719476745, 2147483649, 2147483748)], [(1228803, 171798691849)])
noncomputable def zpstp_l : zyPh := (185, [595, 34359738369, 68719476737, 103079215105, 13], [(0, 4294967295), (2147483649, 2147483748), (2147483648, 2147483747), (2147483648, 2147483648), (0, 4294967295), (2147483648, 3221225472)], [(1228803, 171798691841)], [])
noncomputable def zpstp (i : Nat) : zyPh := zif (Nat.beq i 0) (zpstp_a) (zif (Nat.beq i 1) (zpstp_b) (zif (Nat.beq i 2) (zpstp_c) (zif (Nat.beq i 3) (zpstp_d) (zif (Nat.beq i 4) (zpstp_e) (zif (Nat.beq i 5) (zpstp_f) (zif (Nat.beq i 6) (zpstp_g) (zif (Nat.beq i 7) (zpstp_h) (zif (Nat.beq i 8) (zpstp_i) (zif (Nat.beq i 9) (zpstp_j) (zif (Nat.beq i 10) (zpstp_k) (zpstp_l)))))))))))
noncomputable def zXstp (i : Nat) : List zyXp := zif (Nat.beq i 0) ([zxstp_ax0]) (zif (Nat.beq i 1) ([zxstp_bx0]) (zif (Nat.beq i 2) ([zxstp_cx0]) (zif (Nat.beq i 3) ([zxstp_dx0, zxstp_dx1]) (zif (Nat.beq i 4) ([zxstp_ex0, zxstp_ex1]) (zif (Nat.beq i 5) ([zxstp_fx0, zxstp_fx1]) (zif (Nat.beq i 6) ([zxstp_gx0]) (zif (Nat.beq i 7) ([zxstp_hx0]) (zif (Nat.beq i 8) ([zxstp_ix0]) (zif (Nat.beq i 9) ([zxstp_jx0, zxstp_jx1]) (zif (Nat.beq i 10) ([zxstp_kx0]) ([zxstp_lx0])))))))))))
noncomputable def zRstp (i : Nat) : List zyXp := zif (Nat.beq i 0) ([zxstp_ar0, zxstp_ar1]) (zif (Nat.beq i 1) ([zxstp_br0, zxstp_br1, zxstp_br2]) (zif (Nat.beq i 2) ([]) (zif (Nat.beq i 3) ([]) (zif (Nat.beq i 4) ([]) (zif (Nat.beq i 5) ([]) (zif (Nat.beq i 6) ([]) (zif (Nat.beq i 7) ([]) (zif (Nat.beq i 8) ([]) (zif (Nat.beq i 9) ([]) (zif (Nat.beq i 10) ([]) ([])))))))))))
noncomputable def zFstp (i : Nat) : zyR := zif (Nat.beq i 0) ([(74, 2, 3)]) (zif (Nat.beq i 1) ([(74, 2, 2)]) (zif (Nat.beq i 2) ([(74, 14, 14)]) (zif (Nat.beq i 3) ([]) (zif (Nat.beq i 4) ([]) (zif (Nat.beq i 5) ([]) (zif (Nat.beq i 6) ([]) (zif (Nat.beq i 7) ([]) (zif (Nat.beq i 8) ([]) (zif (Nat.beq i 9) ([]) (zif (Nat.beq i 10) ([]) ([(75, 3, 3)])))))))))))
noncomputable def zSstp (i : Nat) : Nat := zif (Nat.beq i 0) (0) (zif (Nat.beq i 1) (0) (zif (Nat.beq i 2) (0) (zif (Nat.beq i 3) (0) (zif (Nat.beq i 4) (0) (zif (Nat.beq i 5) (0) (zif (Nat.beq i 6) (0) (zif (Nat.beq i 7) (0) (zif (Nat.beq i 8) (0) (zif (Nat.beq i 9) (0) (zif (Nat.beq i 10) (0) (0)))))))))))
end
section
/-! STEPS ARE DONE -/
noncomputable def zyrok (A B code : Nat) : Bool := zand (Nat.beq (Nat.mod code 8) 2) (zand (Nat.ble (Nat.div code 34359738368) A) (Nat.ble B (Nat.mod (Nat.div code 8) 4294967296)))
theorem zcr_let : zyAllP (fun r c => zand (zyall (zyrok 2147483641 2147483655) 160 459 (zymr75 r c).2.2) (zand (zyall (zyrok 2147483648 (Nat.add 2147483647 (zgNS r c))) 144 151 (zymr75 r c).2.2) (zyall (zyrok 2147483648 2147483948) 4 4 (zymr75 r c).2.2))) = true := by decide +kernel
theorem zyrok_iff {A B code : Nat} {x : Int32} (h : zyrok A B code = true) (h1 : A ≤ zB x) (h2 : zB x ≤ B) : code % 8 = 2 ∧ code / 34359738368 ≤ zB x ∧ zB x ≤ code / 8 % 4294967296 := by
  obtain ⟨q1, q2⟩ := zand_iff h
  obtain ⟨q2, q3⟩ := zand_iff q2
  have q1 : code % 8 = 2 := zbeqT q1
  have q2 : code / 34359738368 ≤ A := zbleT q2
  have q3 : B ≤ code / 8 % 4294967296 := zbleT q3
  exact ⟨q1, by omega, by omega⟩
def zyFst (E E2 : zyEm) : Prop := ∀ a k, ¬ (a = 74 ∧ ((2 ≤ k ∧ k ≤ 3) ∨ (14 ≤ k ∧ k ≤ 17))) → ¬ (a = 75 ∧ ((3 ≤ k ∧ k ≤ 4) ∨ (144 ≤ k ∧ k ≤ 151) ∨ (160 ≤ k ∧ k ≤ 459))) → ¬ (77 ≤ a ∧ a ≤ 80) → E2 a k = E a k
def zT0 (E : zyEm) : Prop := ¬ Int32.ofNat 0 < zyI E 75 3 → zyI E 75 4 = Int32.ofNat 0
def zJ1 (E : zyEm) : Prop := ∀ m : Nat, m ≤ 8 → E 75 2 = some (.int (Int32.ofNat m)) → zLv E m ∧ zWv E ∧ zT0 E
theorem zLv_fr {E E2 : zyEm} {m : Nat} (h4 : E2 75 4 = E 75 4) (h : ∀ k, k < 300 → Int32.ofNat k < zyI E 75 4 → E2 75 (160 + k) = E 75 (160 + k)) (hv : zLv E m) : zLv E2 m := fun k hk h2 => by
  rw [zyI_eq h4] at h2
  rw [zyI_eq (h k hk h2)]
  exact hv k hk h2
theorem zWv_fr {E E2 : zyEm} (h5 : E2 75 5 = E 75 5) (h : ∀ k, k < 60 → E2 75 (460 + k) = E 75 (460 + k)) (hv : zWv E) : zWv E2 := fun k hk h2 => by
  rw [zyI_eq h5] at h2
  rw [zyI_eq (h k hk)]
  exact hv k hk h2
theorem zT0_fr {E E2 : zyEm} (h3 : E2 75 3 = E 75 3) (h4 : E2 75 4 = E 75 4) (h : zT0 E) : zT0 E2 := by
  unfold zT0 at *
  rw [zyI_eq h3, zyI_eq h4]
  exact h
def zyΦst (_ : List Int32) (E : zyEm) : Prop := zJ1 E ∧ ∃ T : Nat, T + 100 ≤ 1073741824 ∧ E 75 3 = some (.int (Int32.ofNat T))
def zyΨst (_ : List Int32) (E E2 : zyEm) (vo : Option Value) : Prop := zJ1 E2 ∧ zyFst E E2 ∧ (∃ z : Int32, vo = some (.int z)) ∧ ∀ T : Nat, T + 100 ≤ 1073741824 → E 75 3 = some (.int (Int32.ofNat T)) → ∃ T', T ≤ T' ∧ T' ≤ T + 100 ∧ E2 75 3 = some (.int (Int32.ofNat T'))
/-- elements of c that stay: how many bobbins, letters, the word, what is wished, steps -/
def zyIst (K i m T T' L q k d : Nat) (E0 : zyEm) (ρ : Nat → Int32) (E : zyEm) : Prop := zyFst E0 E ∧ E 75 3 = some (.int (Int32.ofNat T')) ∧ T ≤ T' ∧ T' ≤ T + d ∧ zLv E m ∧ zWv E ∧ (i ≤ 7 → zT0 E) ∧ E 75 4 = some (.int (Int32.ofNat L)) ∧ (1 ≤ i → ρ 2 = Int32.ofNat d) ∧ (i = 2 → ∀ b, b < m → zsl E b < K) ∧ (i = 3 → E 74 14 = some (.int (Int32.ofNat 0)) ∧ (ρ 5 = 1 → ∀ b, b < m → zth E b < K)) ∧ (4 ≤ i → ∀ b, b < m → zth E b < K) ∧ (4 ≤ i → i ≤ 7 → E 74 14 = some (.int (Int32.ofNat q)) ∧ q ≤ 28 ∧ zSv E m (min q 300)) ∧ (5 ≤ i → i ≤ 7 → L + q ≤ 300) ∧
  (i = 5 ∨ i = 6 → ρ 4 = Int32.ofNat k ∧ k ≤ q) ∧ (i = 6 → k < q) ∧ (i = 5 → ∀ j, j < k → zVl m (zyI E 75 (160 + (L + j)))) ∧ (i = 6 → ∀ j, j ≤ k → zVl m (zyI E 75 (160 + (L + j)))) ∧ (i = 7 → ∀ j, j < q → zVl m (zyI E 75 (160 + (L + j)))) ∧ (i = 9 ∨ i = 10 → ρ 4 = Int32.ofNat k ∧ k ≤ 8) ∧ (i = 10 → k < 8) ∧ (i = 11 → ρ 5 = Int32.ofNat T')
theorem zc_L {r c : Nat} {E : zyEm} (hT : zyTy (zymr r c) E) : ∃ L, L ≤ 300 ∧ E 75 4 = some (.int (Int32.ofNat L)) := by
  obtain ⟨x, e, b1, b2⟩ := (hT 75 (zymr75 r c) 4 rfl (by rw [zyL75]; omega) (4, 4, 73786976312018078050) (List.mem_of_getElem? (i := 4) rfl) (Nat.le_refl _) (Nat.le_refl _)).1 rfl
  have b1 : 2147483648 ≤ zB x := b1
  have b2 : zB x ≤ 2147483948 := b2
  obtain ⟨o1, o2⟩ := zyOn b1
  exact ⟨zyN1 x, by omega, by rw [← o1]; exact e⟩
theorem zc_m {r c : Nat} {E : zyEm} (hT : zyTy (zymr r c) E) : ∃ m, m ≤ 8 ∧ E 75 2 = some (.int (Int32.ofNat m)) := by
  obtain ⟨x, e, b1, b2⟩ := (hT 75 (zymr75 r c) 2 rfl (by rw [zyL75]; omega) (2, 2, 73786976312018075714) (List.mem_of_getElem? (i := 2) rfl) (Nat.le_refl _) (Nat.le_refl _)).1 rfl
  have b1 : 2147483648 ≤ zB x := b1
  have b2 : zB x ≤ 2147483656 := b2
  obtain ⟨o1, o2⟩ := zyOn b1
  exact ⟨zyN1 x, by omega, by rw [← o1]; exact e⟩
theorem zystp_run : zyAllP (fun r c => zyrS (zymr r c) zxi279 (279, 0, 0, 1, 0) 8 zpstp (fun _ _ => []) zFstp zSstp zXstp zRstp 12) = true := by decide +kernel
theorem zystep_H {l : Launch} {r c : Nat} (h1 : 1 ≤ r) (h2 : r ≤ 4) (h3 : 1 ≤ c) (h4 : c ≤ 5) {en : zEn} {me : zMe} (hen : zG zxMeta 279 = some en) (hme : zG zMeth 279 = some me) : zyHc l (zymr r c) en me 8 1 zyΦst zyΨst := by
  have een : zG zxMeta 279 = some (zxi279, 2, 5, 11, 279, 0, 0, 1, 0) := rfl
  obtain ⟨me1, hme1, hOK⟩ := zall hen
  rw [hme] at hme1
  cases hme1
  rw [een] at hen
  cases hen
  have hr := zyAllP_iff zystp_run h1 h2 h3 h4
  obtain ⟨mesn, hmesn, -⟩ := zall (show zG zxMeta 278 = some (zxi278, 1, 2, 11, 278, 0, 0, 0, 0) from rfl)
  have hsn := zystandsNow (l := l) h1 h2 h3 h4 (show zG zxMeta 278 = some (zxi278, 1, 2, 11, 278, 0, 0, 0, 0) from rfl) hmesn
  obtain ⟨metr, hmetr, -⟩ := zall (show zG zxMeta 219 = some (zxi219, 2, 3, 11, 219, 0, 0, 2, 0) from rfl)
  have htr := zytries (l := l) h1 h2 h3 h4 (show zG zxMeta 219 = some (zxi219, 2, 3, 11, 219, 0, 0, 2, 0) from rfl) hmetr
  obtain ⟨mess, hmess, -⟩ := zall (show zG zxMeta 223 = some (zxi223, 1, 4, 11, 223, 0, 0, 0, 0) from rfl)
  have hss := zyspellsStep (l := l) h1 h2 h3 h4 (show zG zxMeta 223 = some (zxi223, 1, 4, 11, 223, 0, 0, 0, 0) from rfl) hmess
  refine zycutS (mi := zymr r c) hOK rfl rfl ⟨_, rfl, rfl⟩ (ι := Fin 12) (fun i => zpstp i.val) (fun _ _ => []) (fun i => zFstp i.val) (fun i => zSstp i.val) (fun i => zXstp i.val) (fun i => zRstp i.val) (fun i y2 ct en2 me2 h => by cases h) 200000 (fun i => zyAll_iff hr i.val i.isLt) ⟨0, by decide⟩ ⟨rfl, rfl, rfl, rfl⟩ ⟨by decide, by decide⟩
    (fun i as E0 ρ E => ∃ m T T' L q k d : Nat, m ≤ 8 ∧ E0 75 2 = some (.int (Int32.ofNat m)) ∧ T + 100 ≤ 1073741824 ∧ E0 75 3 = some (.int (Int32.ofNat T)) ∧ L ≤ 300 ∧ d ≤ 100 ∧ (i.val = 0 → T' = T) ∧ zyIst (zgNS r c) i.val m T T' L q k d E0 ρ E) (fun i as E0 ρ E => if i.val = 0 then 1000000 else if i.val = 1 then (if ρ 3 = Int32.ofNat 0 then 1000 * (101 - zyN1 (ρ 2)) + 900 else 1) else 1000 * (101 - zyN1 (ρ 2)) + (if i.val ≤ 4 then 802 - i.val else if i.val ≤ 6 then 600 + 2 * (30 - zyN1 (ρ 4)) + (6 - i.val) else if i.val ≤ 8 then 500 - i.val else if i.val ≤ 10 then 400 + 2 * (9 - zyN1 (ρ 4)) + (10 - i.val) else 300)) ?_ ?_ ?_
  · intro as E hlen hT hΦ
    obtain ⟨hJ, T, t1, t2⟩ := hΦ
    obtain ⟨m, hm, e2⟩ := zc_m hT
    obtain ⟨L, hL, eL⟩ := zc_L hT
    obtain ⟨j1, j2, j3⟩ := hJ m hm e2
    exact ⟨zEnv_c (zyfull _) (zEnv_c (zyfull _) (zEnv_c (zyfull _) (zEnv_c (zyfull _) (zEnv_c (zyfull _) zEnv_nil)))), m, T, T, L, 0, 0, 0, hm, e2, t1, t2, hL, Nat.zero_le _, fun _ => rfl, fun _ _ _ _ _ => rfl, t2, Nat.le_refl _, Nat.le_refl _, j1, j2, fun _ => j3, eL, fun h => absurd (show 1 ≤ 0 from h) (by decide), fun h => absurd (show 0 = 2 from h) (by decide), fun h => absurd (show 0 = 3 from h) (by decide), fun h => absurd (show 4 ≤ 0 from h) (by decide), fun h => absurd (show 4 ≤ 0 from h) (by decide), fun h => absurd (show 5 ≤ 0 from h) (by decide), fun h => absurd (show 0 = 5 ∨ 0 = 6 from h) (by decide), fun h => absurd (show 0 = 6 from h) (by decide), fun h => absurd (show 0 = 5 from h) (by decide), fun h => absurd (show 0 = 6 from h) (by decide), fun h => absurd (show 0 = 7 from h) (by decide), fun h => absurd (show 0 = 9 ∨ 0 = 10 from h) (by decide), fun h => absurd (show 0 = 10 from h) (by decide), fun h => absurd (show 0 = 11 from h) (by decide)⟩
  · intro as B s Wg hRu hT0 hΦ hlen i ρ H hT hInv hIH x hx ρ2 N2 H2 locs lsB stA hAt hXs hag hfr hT2
    rcases i with ⟨i, hi⟩
    have hi2 : i = 0 ∨ i = 1 ∨ i = 2 ∨ i = 3 ∨ i = 4 ∨ i = 5 ∨ i = 6 ∨ i = 7 ∨ i = 8 ∨ i = 9 ∨ i = 10 ∨ i = 11 := by omega
    rcases hi2 with rfl | rfl | rfl | rfl | rfl | rfl | rfl | rfl | rfl | rfl | rfl | rfl
    · have hx : x ∈ [zxstp_ax0] := hx
      have hg : ∀ k, k < 5 → ρ2 k = ρ k := hag
      have hI := hInv
      have hI : ∃ m T T' L q k d : Nat, m ≤ 8 ∧ (zyEl (zymr r c) B s.heap) 75 2 = some (.int (Int32.ofNat m)) ∧ T + 100 ≤ 1073741824 ∧ (zyEl (zymr r c) B s.heap) 75 3 = some (.int (Int32.ofNat T)) ∧ L ≤ 300 ∧ d ≤ 100 ∧ (0 = 0 → T' = T) ∧ zyIst (zgNS r c) 0 m T T' L q k d (zyEl (zymr r c) B s.heap) ρ (zyEl (zymr r c) B H) := hI
      obtain ⟨hF, hB, hM⟩ := hXs
      have hfr : ∀ a k, zyin [(74, 2, 3)] a k = false → (zyEl (zymr r c) B H2) a k = (zyEl (zymr r c) B H) a k := hfr
      have ex := List.mem_singleton.mp hx
      subst ex
      obtain ⟨m, T, T', L, q, k, d, hm, s1, hT1, s2, hL, hd, hz0, i1, i2, i3, i4, i5, i6, i7, eL, i8, i9, i10, i11, i12, i13, i14, i15, i16, i17, i18, i19, i20, i21⟩ := hI
      have T1 : zyTy (zymr r c) (zyEl (zymr r c) B H) := hT
      have n80 : zgNS r c ≤ 80 := zgNS_le h2 h4
      have hms : zyEl (zymr r c) B H 75 2 = some (.int (Int32.ofNat m)) := (i1 75 2 (fun z => absurd z.1 (by decide)) (fun z => absurd z.2 (by decide)) (by decide)).trans s1
      have hk : ∀ a k, ¬ (a = 74 ∧ 2 ≤ k ∧ k ≤ 3) → zyEl (zymr r c) B H2 a k = zyEl (zymr r c) B H a k := by
        intro a k n
        apply hfr
        cases hq : zyin [(74, 2, 3)] a k with
        | false => rfl
        | true =>
          obtain ⟨p0, g1, g2, g3, g4⟩ := zyin_iff.mp hq
          rw [List.mem_singleton.mp g1] at g2 g3 g4
          dsimp only at g2 g3 g4
          exact absurd ⟨g2.symm, by omega, by omega⟩ n
      have k75 : ∀ k, zyEl (zymr r c) B H2 75 k = zyEl (zymr r c) B H 75 k := fun k => hk 75 k (fun z => absurd z.1 (by decide))
      have eL := (k75 4).trans eL
      have tz := hz0 rfl
      refine zyGoB hIH hAt hB ⟨1, by decide⟩ [595, 34359738369, 0, 0, 0] rfl rfl rfl rfl ⟨m, T, T', L, q, k, 0, hm, s1, hT1, s2, hL, Nat.zero_le _, fun h => absurd (show 1 = 0 from h) (by decide), fun a k n1 n2 n3 => (hk a k (fun z => n1 ⟨z.1, Or.inl z.2⟩)).trans (i1 a k n1 n2 n3), (k75 3).trans i2, i3, by omega, zLv_fr (k75 4) (fun k _ _ => k75 _) i5, zWv_fr (k75 5) (fun k _ => k75 _) i6, fun _ => zT0_fr (k75 3) (k75 4) (i7 (by decide)), eL, fun _ => rfl, fun h => absurd (show 1 = 2 from h) (by decide), fun h => absurd (show 1 = 3 from h) (by decide), fun h => absurd (show 4 ≤ 1 from h) (by decide), fun h => absurd (show 4 ≤ 1 from h) (by decide), fun h => absurd (show 5 ≤ 1 from h) (by decide), fun h => absurd (show 1 = 5 ∨ 1 = 6 from h) (by decide), fun h => absurd (show 1 = 6 from h) (by decide), fun h => absurd (show 1 = 5 from h) (by decide), fun h => absurd (show 1 = 6 from h) (by decide), fun h => absurd (show 1 = 7 from h) (by decide), fun h => absurd (show 1 = 9 ∨ 1 = 10 from h) (by decide), fun h => absurd (show 1 = 10 from h) (by decide), fun h => absurd (show 1 = 11 from h) (by decide)⟩ ?_
      show (if Int32.ofNat 0 = Int32.ofNat 0 then 1000 * (101 - zyN1 (Int32.ofNat 0)) + 900 else 1) < 1000000
      rw [if_pos rfl]
      omega
    · have hx : x ∈ [zxstp_bx0] := hx
      have hg : ∀ k, k < 5 → ρ2 k = ρ k := hag
      have hI := hInv
      have hI : ∃ m T T' L q k d : Nat, m ≤ 8 ∧ (zyEl (zymr r c) B s.heap) 75 2 = some (.int (Int32.ofNat m)) ∧ T + 100 ≤ 1073741824 ∧ (zyEl (zymr r c) B s.heap) 75 3 = some (.int (Int32.ofNat T)) ∧ L ≤ 300 ∧ d ≤ 100 ∧ (1 = 0 → T' = T) ∧ zyIst (zgNS r c) 1 m T T' L q k d (zyEl (zymr r c) B s.heap) ρ (zyEl (zymr r c) B H) := hI
      obtain ⟨hF, hB, hM⟩ := hXs
      have hfr : ∀ a k, zyin [(74, 2, 2)] a k = false → (zyEl (zymr r c) B H2) a k = (zyEl (zymr r c) B H) a k := hfr
      have ex := List.mem_singleton.mp hx
      subst ex
      obtain ⟨m, T, T', L, q, k, d, hm, s1, hT1, s2, hL, hd, hz0, i1, i2, i3, i4, i5, i6, i7, eL, i8, i9, i10, i11, i12, i13, i14, i15, i16, i17, i18, i19, i20, i21⟩ := hI
      have T1 : zyTy (zymr r c) (zyEl (zymr r c) B H) := hT
      have n80 : zgNS r c ≤ 80 := zgNS_le h2 h4
      have hms : zyEl (zymr r c) B H 75 2 = some (.int (Int32.ofNat m)) := (i1 75 2 (fun z => absurd z.1 (by decide)) (fun z => absurd z.2 (by decide)) (by decide)).trans s1
      have a2 : ρ2 2 = Int32.ofNat d := (hg 2 (by decide)).trans (i8 (by decide))
      have hk : ∀ a k, ¬ (a = 74 ∧ 2 ≤ k ∧ k ≤ 3) → zyEl (zymr r c) B H2 a k = zyEl (zymr r c) B H a k := by
        intro a k n
        apply hfr
        cases hq : zyin [(74, 2, 2)] a k with
        | false => rfl
        | true =>
          obtain ⟨p0, g1, g2, g3, g4⟩ := zyin_iff.mp hq
          rw [List.mem_singleton.mp g1] at g2 g3 g4
          dsimp only at g2 g3 g4
          exact absurd ⟨g2.symm, by omega, by omega⟩ n
      have f1 := zyX22 hF 1 rfl
      have f1 : ρ2 3 = Int32.ofNat 0 := f1
      refine zyCa0 hRu hIH hAt hB hsn (ix := 326) (ax := 4448) rfl rfl rfl hmesn ⟨rfl, rfl, rfl, rfl⟩ (by decide) [] rfl (by decide) rfl ⟨2, by decide⟩ [595, 34359738369, 68719476737, 103079215105, 0] rfl rfl rfl rfl trivial ?_
      intro E3 vo hT3 hΨ
      obtain ⟨ev, p1, p2⟩ := (show zyΨsn _ [] _ E3 vo from hΨ)
      have hk3 : ∀ a k, ¬ a = 77 → ¬ (a = 74 ∧ 2 ≤ k ∧ k ≤ 3) → E3 a k = zyEl (zymr r c) B H a k := fun a k n1 n2 => (p1 a k n1).trans (hk a k n2)
      have k75 : ∀ k, E3 75 k = zyEl (zymr r c) B H 75 k := fun k => hk3 75 k (by decide) (fun z => absurd z.1 (by decide))
      have eL := (k75 4).trans eL
      refine ⟨ev, ⟨m, T, T', L, q, k, d, hm, s1, hT1, s2, hL, hd, fun h => absurd (show 2 = 0 from h) (by decide), fun a k n1 n2 n3 => (hk3 a k (fun z => n3 (by omega)) (fun z => n1 ⟨z.1, Or.inl z.2⟩)).trans (i1 a k n1 n2 n3), (k75 3).trans i2, i3, i4, zLv_fr (k75 4) (fun k _ _ => k75 _) i5, zWv_fr (k75 5) (fun k _ => k75 _) i6, fun _ => zT0_fr (k75 3) (k75 4) (i7 (by decide)), eL, fun _ => a2, fun _ => p2 m hm ((hk 75 2 (fun z => absurd z.1 (by decide))).trans hms), fun h => absurd (show 2 = 3 from h) (by decide), fun h => absurd (show 4 ≤ 2 from h) (by decide), fun h => absurd (show 4 ≤ 2 from h) (by decide), fun h => absurd (show 5 ≤ 2 from h) (by decide), fun h => absurd (show 2 = 5 ∨ 2 = 6 from h) (by decide), fun h => absurd (show 2 = 6 from h) (by decide), fun h => absurd (show 2 = 5 from h) (by decide), fun h => absurd (show 2 = 6 from h) (by decide), fun h => absurd (show 2 = 7 from h) (by decide), fun h => absurd (show 2 = 9 ∨ 2 = 10 from h) (by decide), fun h => absurd (show 2 = 10 from h) (by decide), fun h => absurd (show 2 = 11 from h) (by decide)⟩, ?_⟩
      show 1000 * (101 - zyN1 (ρ2 2)) + (802 - 2) < (if ρ 3 = Int32.ofNat 0 then 1000 * (101 - zyN1 (ρ 2)) + 900 else 1)
      rw [if_pos ((hg 3 (by decide)).symm.trans f1), hg 2 (by decide)]
      omega
    · have hx : x ∈ [zxstp_cx0] := hx
      have hg : ∀ k, k < 5 → ρ2 k = ρ k := hag
      have hI := hInv
      have hI : ∃ m T T' L q k d : Nat, m ≤ 8 ∧ (zyEl (zymr r c) B s.heap) 75 2 = some (.int (Int32.ofNat m)) ∧ T + 100 ≤ 1073741824 ∧ (zyEl (zymr r c) B s.heap) 75 3 = some (.int (Int32.ofNat T)) ∧ L ≤ 300 ∧ d ≤ 100 ∧ (2 = 0 → T' = T) ∧ zyIst (zgNS r c) 2 m T T' L q k d (zyEl (zymr r c) B s.heap) ρ (zyEl (zymr r c) B H) := hI
      obtain ⟨hF, hB, hM⟩ := hXs
      have hfr : ∀ a k, zyin [(74, 14, 14)] a k = false → (zyEl (zymr r c) B H2) a k = (zyEl (zymr r c) B H) a k := hfr
      have ex := List.mem_singleton.mp hx
      subst ex
      obtain ⟨m, T, T', L, q, k, d, hm, s1, hT1, s2, hL, hd, hz0, i1, i2, i3, i4, i5, i6, i7, eL, i8, i9, i10, i11, i12, i13, i14, i15, i16, i17, i18, i19, i20, i21⟩ := hI
      have T1 : zyTy (zymr r c) (zyEl (zymr r c) B H) := hT
      have n80 : zgNS r c ≤ 80 := zgNS_le h2 h4
      have hms : zyEl (zymr r c) B H 75 2 = some (.int (Int32.ofNat m)) := (i1 75 2 (fun z => absurd z.1 (by decide)) (fun z => absurd z.2 (by decide)) (by decide)).trans s1
      have a2 : ρ2 2 = Int32.ofNat d := (hg 2 (by decide)).trans (i8 (by decide))
      have m1 := zyXm hM 0 rfl
      have m1 : zyEl (zymr r c) B H2 74 14 = some (.int (Int32.ofNat 0)) := m1
      have hk := zyfr1 hfr
      have sl := i9 rfl
      refine zyCa1 hRu hIH hAt hB htr (ix := 329) (ax := 3504) rfl rfl rfl hmetr ⟨rfl, rfl, rfl, rfl⟩ (by decide) [171798691841] rfl (by decide) rfl ⟨3, by decide⟩ [595, 34359738369, 68719476737, 103079215105, 0] [(0, 4294967295), (2147483649, 2147483748), (2147483648, 2147483747), (2147483648, 2147483648), (0, 4294967295)] 2147483648 2147483649 rfl (by decide) rfl rfl rfl rfl rfl ?_ ?_
      · show zyΦtr _ [ρ2 5] _
        exact ⟨m, hm, (hk 75 2 (fun z => absurd z.1 (by decide))).trans hms, fun b hb => by rw [zsl_eq (hk 77 b (fun z => absurd z.1 (by decide)))]; exact sl b hb⟩
      · intro E3 vo hT3 hΨ
        obtain ⟨p1, z, ez, hz, hzz⟩ := (show zyΨtr _ [ρ2 5] _ E3 vo from hΨ)
        have k75 : ∀ k, E3 75 k = zyEl (zymr r c) B H 75 k := fun k => (p1 75 k (by decide) (fun z => absurd z.1 (by decide))).trans (hk 75 k (fun z => absurd z.1 (by decide)))
        have eL := (k75 4).trans eL
        refine ⟨z, ez, ?_, ?_, ⟨m, T, T', L, q, k, d, hm, s1, hT1, s2, hL, hd, fun h => absurd (show 3 = 0 from h) (by decide), fun a k n1 n2 n3 => (p1 a k (fun z => n3 (by omega)) (fun z => n1 ⟨z.1, Or.inr (by omega)⟩)).trans ((hk a k (fun z => n1 ⟨z.1, Or.inr (by omega)⟩)).trans (i1 a k n1 n2 n3)), (k75 3).trans i2, i3, i4, zLv_fr (k75 4) (fun k _ _ => k75 _) i5, zWv_fr (k75 5) (fun k _ => k75 _) i6, fun _ => zT0_fr (k75 3) (k75 4) (i7 (by decide)), eL, fun _ => (zyρi_n (by decide)).trans a2, fun h => absurd (show 3 = 2 from h) (by decide), fun _ => ⟨(p1 74 14 (by decide) (fun z => absurd z.2 (by decide))).trans m1, fun q => hzz (zyρi_e.symm.trans q) m hm ((hk 75 2 (fun z => absurd z.1 (by decide))).trans hms)⟩, fun h => absurd (show 4 ≤ 3 from h) (by decide), fun h => absurd (show 4 ≤ 3 from h) (by decide), fun h => absurd (show 5 ≤ 3 from h) (by decide), fun h => absurd (show 3 = 5 ∨ 3 = 6 from h) (by decide), fun h => absurd (show 3 = 6 from h) (by decide), fun h => absurd (show 3 = 5 from h) (by decide), fun h => absurd (show 3 = 6 from h) (by decide), fun h => absurd (show 3 = 7 from h) (by decide), fun h => absurd (show 3 = 9 ∨ 3 = 10 from h) (by decide), fun h => absurd (show 3 = 10 from h) (by decide), fun h => absurd (show 3 = 11 from h) (by decide)⟩, ?_⟩
        · rcases hz with rfl | rfl <;> decide
        · rcases hz with rfl | rfl <;> decide
        · show 1000 * (101 - zyN1 (ρ2 2)) + (802 - 3) < 1000 * (101 - zyN1 (ρ 2)) + (802 - 2)
          rw [hg 2 (by decide)]
          omega
    · have hx : x ∈ [zxstp_dx0, zxstp_dx1] := hx
      have hg : ∀ k, k < 6 → ρ2 k = ρ k := hag
      have hI := hInv
      have hI : ∃ m T T' L q k d : Nat, m ≤ 8 ∧ (zyEl (zymr r c) B s.heap) 75 2 = some (.int (Int32.ofNat m)) ∧ T + 100 ≤ 1073741824 ∧ (zyEl (zymr r c) B s.heap) 75 3 = some (.int (Int32.ofNat T)) ∧ L ≤ 300 ∧ d ≤ 100 ∧ (3 = 0 → T' = T) ∧ zyIst (zgNS r c) 3 m T T' L q k d (zyEl (zymr r c) B s.heap) ρ (zyEl (zymr r c) B H) := hI
      obtain ⟨hF, hB, hM⟩ := hXs
      have hEE : (zyEl (zymr r c) B H2) = (zyEl (zymr r c) B H) := zyfr0 hfr
      rcases List.mem_cons.mp hx with ex | hx
      · subst ex
        obtain ⟨m, T, T', L, q, k, d, hm, s1, hT1, s2, hL, hd, hz0, i1, i2, i3, i4, i5, i6, i7, eL, i8, i9, i10, i11, i12, i13, i14, i15, i16, i17, i18, i19, i20, i21⟩ := hI
        have T1 : zyTy (zymr r c) (zyEl (zymr r c) B H) := hT
        have n80 : zgNS r c ≤ 80 := zgNS_le h2 h4
        have hms : zyEl (zymr r c) B H 75 2 = some (.int (Int32.ofNat m)) := (i1 75 2 (fun z => absurd z.1 (by decide)) (fun z => absurd z.2 (by decide)) (by decide)).trans s1
        have a2 : ρ2 2 = Int32.ofNat d := (hg 2 (by decide)).trans (i8 (by decide))
        obtain ⟨q0, tz⟩ := i10 rfl
        have f0 := zyX23 hF 0 rfl
        have f0 : ¬ ρ2 5 = Int32.ofNat 0 := f0
        have z5 : 2147483649 ≤ zB (ρ2 5) ∧ zB (ρ2 5) ≤ 2147483649 := zyXb hB 3 rfl
        have z5 : ρ2 5 = 1 := by
          rcases zybool (x := ρ2 5) (by omega) (by omega) with e | e
          · exact absurd e f0
          · exact e
        have tv := tz ((hg 5 (by decide)).symm.trans z5)
        refine zyCa0 hRu hIH hAt hB hss (ix := 332) (ax := 3568) rfl rfl rfl hmess ⟨rfl, rfl, rfl, rfl⟩ (by decide) [] rfl (by decide) rfl ⟨4, by decide⟩ [595, 34359738369, 68719476737, 103079215105, 0] rfl rfl rfl rfl ?_ ?_
        · show zyΦss [] _
          rw [hEE]
          exact ⟨m, 0, hm, by omega, hms, q0, fun j hj => absurd hj (by omega)⟩
        · intro E3 vo hT3 hΨ
          have hΨ : zyΨss [] _ E3 vo := hΨ
          rw [hEE] at hΨ
          obtain ⟨ev, p1, p2⟩ := hΨ
          obtain ⟨q', l1, l2, e14, sv⟩ := p2 m 0 hm (by omega) hms q0
          have k75 : ∀ k, E3 75 k = zyEl (zymr r c) B H 75 k := fun k => p1 75 k (by decide) (by decide) (fun z => absurd z.1 (by decide))
          have eL := (k75 4).trans eL
          refine ⟨ev, ⟨m, T, T', L, q', k, d, hm, s1, hT1, s2, hL, hd, fun h => absurd (show 4 = 0 from h) (by decide), fun a k n1 n2 n3 => (p1 a k (fun z => n3 (by omega)) (fun z => n3 (by omega)) (fun z => n1 ⟨z.1, Or.inr (by omega)⟩)).trans (i1 a k n1 n2 n3), (k75 3).trans i2, i3, i4, zLv_fr (k75 4) (fun k _ _ => k75 _) i5, zWv_fr (k75 5) (fun k _ => k75 _) i6, fun _ => zT0_fr (k75 3) (k75 4) (i7 (by decide)), eL, fun _ => a2, fun h => absurd (show 4 = 2 from h) (by decide), fun h => absurd (show 4 = 3 from h) (by decide), fun _ => fun b hb => by rw [zth_eq (p1 78 b (by decide) (by decide) (fun z => absurd z.1 (by decide)))]; exact tv b hb, fun _ _ => ⟨e14, by omega, sv⟩, fun h => absurd (show 5 ≤ 4 from h) (by decide), fun h => absurd (show 4 = 5 ∨ 4 = 6 from h) (by decide), fun h => absurd (show 4 = 6 from h) (by decide), fun h => absurd (show 4 = 5 from h) (by decide), fun h => absurd (show 4 = 6 from h) (by decide), fun h => absurd (show 4 = 7 from h) (by decide), fun h => absurd (show 4 = 9 ∨ 4 = 10 from h) (by decide), fun h => absurd (show 4 = 10 from h) (by decide), fun h => absurd (show 4 = 11 from h) (by decide)⟩, ?_⟩
          show 1000 * (101 - zyN1 (ρ2 2)) + (802 - 4) < 1000 * (101 - zyN1 (ρ 2)) + (802 - 3)
          rw [hg 2 (by decide)]
          omega
      · skip
        have ex := List.mem_singleton.mp hx
        subst ex
        obtain ⟨m, T, T', L, q, k, d, hm, s1, hT1, s2, hL, hd, hz0, i1, i2, i3, i4, i5, i6, i7, eL, i8, i9, i10, i11, i12, i13, i14, i15, i16, i17, i18, i19, i20, i21⟩ := hI
        have T1 : zyTy (zymr r c) (zyEl (zymr r c) B H) := hT
        have n80 : zgNS r c ≤ 80 := zgNS_le h2 h4
        have hms : zyEl (zymr r c) B H 75 2 = some (.int (Int32.ofNat m)) := (i1 75 2 (fun z => absurd z.1 (by decide)) (fun z => absurd z.2 (by decide)) (by decide)).trans s1
        have a2 : ρ2 2 = Int32.ofNat d := (hg 2 (by decide)).trans (i8 (by decide))
        rw [← hEE] at eL
        refine zyGoB hIH hAt hB ⟨1, by decide⟩ [595, 34359738369, 68719476737, 48, 0] rfl rfl rfl rfl ⟨m, T, T', L, q, k, d, hm, s1, hT1, s2, hL, hd, fun h => absurd (show 1 = 0 from h) (by decide), by rw [hEE]; exact i1, by rw [hEE]; exact i2, i3, i4, by rw [hEE]; exact i5, by rw [hEE]; exact i6, fun _ => by rw [hEE]; exact i7 (by decide), eL, fun _ => a2, fun h => absurd (show 1 = 2 from h) (by decide), fun h => absurd (show 1 = 3 from h) (by decide), fun h => absurd (show 4 ≤ 1 from h) (by decide), fun h => absurd (show 4 ≤ 1 from h) (by decide), fun h => absurd (show 5 ≤ 1 from h) (by decide), fun h => absurd (show 1 = 5 ∨ 1 = 6 from h) (by decide), fun h => absurd (show 1 = 6 from h) (by decide), fun h => absurd (show 1 = 5 from h) (by decide), fun h => absurd (show 1 = 6 from h) (by decide), fun h => absurd (show 1 = 7 from h) (by decide), fun h => absurd (show 1 = 9 ∨ 1 = 10 from h) (by decide), fun h => absurd (show 1 = 10 from h) (by decide), fun h => absurd (show 1 = 11 from h) (by decide)⟩ ?_
        show (if Int32.ofNat 6 = Int32.ofNat 0 then 1000 * (101 - zyN1 (ρ2 2)) + 900 else 1) < 1000 * (101 - zyN1 (ρ 2)) + (802 - 3)
        rw [if_neg (by decide)]
        omega
    · have hx : x ∈ [zxstp_ex0, zxstp_ex1] := hx
      have hg : ∀ k, k < 5 → ρ2 k = ρ k := hag
      have hI := hInv
      have hI : ∃ m T T' L q k d : Nat, m ≤ 8 ∧ (zyEl (zymr r c) B s.heap) 75 2 = some (.int (Int32.ofNat m)) ∧ T + 100 ≤ 1073741824 ∧ (zyEl (zymr r c) B s.heap) 75 3 = some (.int (Int32.ofNat T)) ∧ L ≤ 300 ∧ d ≤ 100 ∧ (4 = 0 → T' = T) ∧ zyIst (zgNS r c) 4 m T T' L q k d (zyEl (zymr r c) B s.heap) ρ (zyEl (zymr r c) B H) := hI
      obtain ⟨hF, hB, hM⟩ := hXs
      have hEE : (zyEl (zymr r c) B H2) = (zyEl (zymr r c) B H) := zyfr0 hfr
      rcases List.mem_cons.mp hx with ex | hx
      · subst ex
        obtain ⟨m, T, T', L, q, k, d, hm, s1, hT1, s2, hL, hd, hz0, i1, i2, i3, i4, i5, i6, i7, eL, i8, i9, i10, i11, i12, i13, i14, i15, i16, i17, i18, i19, i20, i21⟩ := hI
        have T1 : zyTy (zymr r c) (zyEl (zymr r c) B H) := hT
        have n80 : zgNS r c ≤ 80 := zgNS_le h2 h4
        have hms : zyEl (zymr r c) B H 75 2 = some (.int (Int32.ofNat m)) := (i1 75 2 (fun z => absurd z.1 (by decide)) (fun z => absurd z.2 (by decide)) (by decide)).trans s1
        have a2 : ρ2 2 = Int32.ofNat d := (hg 2 (by decide)).trans (i8 (by decide))
        rw [← hEE] at eL
        refine zyGoB hIH hAt hB ⟨1, by decide⟩ [595, 34359738369, 68719476737, 24, 0] rfl rfl rfl rfl ⟨m, T, T', L, q, k, d, hm, s1, hT1, s2, hL, hd, fun h => absurd (show 1 = 0 from h) (by decide), by rw [hEE]; exact i1, by rw [hEE]; exact i2, i3, i4, by rw [hEE]; exact i5, by rw [hEE]; exact i6, fun _ => by rw [hEE]; exact i7 (by decide), eL, fun _ => a2, fun h => absurd (show 1 = 2 from h) (by decide), fun h => absurd (show 1 = 3 from h) (by decide), fun h => absurd (show 4 ≤ 1 from h) (by decide), fun h => absurd (show 4 ≤ 1 from h) (by decide), fun h => absurd (show 5 ≤ 1 from h) (by decide), fun h => absurd (show 1 = 5 ∨ 1 = 6 from h) (by decide), fun h => absurd (show 1 = 6 from h) (by decide), fun h => absurd (show 1 = 5 from h) (by decide), fun h => absurd (show 1 = 6 from h) (by decide), fun h => absurd (show 1 = 7 from h) (by decide), fun h => absurd (show 1 = 9 ∨ 1 = 10 from h) (by decide), fun h => absurd (show 1 = 10 from h) (by decide), fun h => absurd (show 1 = 11 from h) (by decide)⟩ ?_
        show (if Int32.ofNat 3 = Int32.ofNat 0 then 1000 * (101 - zyN1 (ρ2 2)) + 900 else 1) < 1000 * (101 - zyN1 (ρ 2)) + (802 - 4)
        rw [if_neg (by decide)]
        omega
      · skip
        have ex := List.mem_singleton.mp hx
        subst ex
        obtain ⟨m, T, T', L, q, k, d, hm, s1, hT1, s2, hL, hd, hz0, i1, i2, i3, i4, i5, i6, i7, eL, i8, i9, i10, i11, i12, i13, i14, i15, i16, i17, i18, i19, i20, i21⟩ := hI
        have T1 : zyTy (zymr r c) (zyEl (zymr r c) B H) := hT
        have n80 : zgNS r c ≤ 80 := zgNS_le h2 h4
        have hms : zyEl (zymr r c) B H 75 2 = some (.int (Int32.ofNat m)) := (i1 75 2 (fun z => absurd z.1 (by decide)) (fun z => absurd z.2 (by decide)) (by decide)).trans s1
        have a2 : ρ2 2 = Int32.ofNat d := (hg 2 (by decide)).trans (i8 (by decide))
        obtain ⟨e14, q28, sv⟩ := i12 (by decide) (by decide)
        have tv := i11 (by decide)
        obtain ⟨n3, w1, w2, w3⟩ := zyXe hF 0 rfl
        have w1 : Int32.ofNat 4 = Int32.ofNat n3 := w1
        have w3 : zyEl (zymr r c) B H 75 n3 = some (.int (ρ2 5)) := w3
        have e5 : ρ2 5 = Int32.ofNat L := zyEk w1 (by decide) w2 w3 eL
        obtain ⟨n4, w4, w5, w6⟩ := zyXe hF 1 rfl
        have w4 : Int32.ofNat 14 = Int32.ofNat n4 := w4
        have w6 : zyEl (zymr r c) B H 74 n4 = some (.int (ρ2 6)) := w6
        have e6 : ρ2 6 = Int32.ofNat q := zyEk w4 (by decide) w5 w6 e14
        have f2 := zyXop hF 2 rfl (by decide)
        have f2 : ρ2 7 = ρ2 5 + ρ2 6 := f2
        have f3 := zyX21 hF 3 rfl
        have f3 : ¬ Int32.ofNat 300 < ρ2 7 := f3
        rw [f2, e5, e6, zyOa, zyOl (by omega) (by omega)] at f3
        rw [← hEE] at eL
        refine zyGoB hIH hAt hB ⟨5, by decide⟩ [595, 34359738369, 68719476737, 103079215105, 0] rfl rfl rfl rfl ⟨m, T, T', L, q, 0, d, hm, s1, hT1, s2, hL, hd, fun h => absurd (show 5 = 0 from h) (by decide), by rw [hEE]; exact i1, by rw [hEE]; exact i2, i3, i4, by rw [hEE]; exact i5, by rw [hEE]; exact i6, fun _ => by rw [hEE]; exact i7 (by decide), eL, fun _ => a2, fun h => absurd (show 5 = 2 from h) (by decide), fun h => absurd (show 5 = 3 from h) (by decide), fun _ => by rw [hEE]; exact tv, fun _ _ => ⟨by rw [hEE]; exact e14, q28, by rw [hEE]; exact sv⟩, fun _ _ => by omega, fun _ => ⟨rfl, Nat.zero_le _⟩, fun h => absurd (show 5 = 6 from h) (by decide), fun _ => fun j hj => absurd hj (Nat.not_lt_zero j), fun h => absurd (show 5 = 6 from h) (by decide), fun h => absurd (show 5 = 7 from h) (by decide), fun h => absurd (show 5 = 9 ∨ 5 = 10 from h) (by decide), fun h => absurd (show 5 = 10 from h) (by decide), fun h => absurd (show 5 = 11 from h) (by decide)⟩ ?_
        show 1000 * (101 - zyN1 (ρ2 2)) + (600 + 2 * (30 - zyN1 (Int32.ofNat 0)) + (6 - 5)) < 1000 * (101 - zyN1 (ρ 2)) + (802 - 4)
        rw [hg 2 (by decide)]
        omega
    · have hx : x ∈ [zxstp_fx0, zxstp_fx1] := hx
      have hg : ∀ k, k < 5 → ρ2 k = ρ k := hag
      have hI := hInv
      have hI : ∃ m T T' L q k d : Nat, m ≤ 8 ∧ (zyEl (zymr r c) B s.heap) 75 2 = some (.int (Int32.ofNat m)) ∧ T + 100 ≤ 1073741824 ∧ (zyEl (zymr r c) B s.heap) 75 3 = some (.int (Int32.ofNat T)) ∧ L ≤ 300 ∧ d ≤ 100 ∧ (5 = 0 → T' = T) ∧ zyIst (zgNS r c) 5 m T T' L q k d (zyEl (zymr r c) B s.heap) ρ (zyEl (zymr r c) B H) := hI
      obtain ⟨hF, hB, hM⟩ := hXs
      have hEE : (zyEl (zymr r c) B H2) = (zyEl (zymr r c) B H) := zyfr0 hfr
      rcases List.mem_cons.mp hx with ex | hx
      · subst ex
        obtain ⟨m, T, T', L, q, k, d, hm, s1, hT1, s2, hL, hd, hz0, i1, i2, i3, i4, i5, i6, i7, eL, i8, i9, i10, i11, i12, i13, i14, i15, i16, i17, i18, i19, i20, i21⟩ := hI
        have T1 : zyTy (zymr r c) (zyEl (zymr r c) B H) := hT
        have n80 : zgNS r c ≤ 80 := zgNS_le h2 h4
        have hms : zyEl (zymr r c) B H 75 2 = some (.int (Int32.ofNat m)) := (i1 75 2 (fun z => absurd z.1 (by decide)) (fun z => absurd z.2 (by decide)) (by decide)).trans s1
        have a2 : ρ2 2 = Int32.ofNat d := (hg 2 (by decide)).trans (i8 (by decide))
        obtain ⟨e14, q28, sv⟩ := i12 (by decide) (by decide)
        have tv := i11 (by decide)
        obtain ⟨b4, kq⟩ := i14 (by decide)
        have a4 : ρ2 4 = Int32.ofNat k := (hg 4 (by decide)).trans b4
        have lq := i13 (by decide) (by decide)
        obtain ⟨n4, w4, w5, w6⟩ := zyXe hF 0 rfl
        have w4 : Int32.ofNat 14 = Int32.ofNat n4 := w4
        have w6 : zyEl (zymr r c) B H 74 n4 = some (.int (ρ2 5)) := w6
        have e6 : ρ2 5 = Int32.ofNat q := zyEk w4 (by decide) w5 w6 e14
        have f1 := zyX20 hF 1 rfl
        have f1 : ρ2 4 < ρ2 5 := f1
        rw [a4, e6, zyOl (by omega) (by omega)] at f1
        obtain ⟨n3, w1, w2, w3⟩ := zyXe hF 2 rfl
        have w1 : Int32.ofNat 4 = Int32.ofNat n3 := w1
        have w3 : zyEl (zymr r c) B H 75 n3 = some (.int (ρ2 6)) := w3
        have e7 : ρ2 6 = Int32.ofNat L := zyEk w1 (by decide) w2 w3 eL
        have f3 := zyXop hF 3 rfl (by decide)
        have f3 : ρ2 7 = ρ2 6 + Int32.ofNat 160 + ρ2 4 := f3
        rw [e7, a4, zyOa, zyOa] at f3
        obtain ⟨n5, u1, u2, u3⟩ := zyXe hF 4 rfl
        have u1 : ρ2 4 = Int32.ofNat n5 := u1
        have u3 : zyEl (zymr r c) B H 80 n5 = some (.int (ρ2 8)) := u3
        rw [a4] at u1
        rw [← zyOi (by omega) (by omega) u1] at u3
        have hval : zVl m (ρ2 8) := by
          have := sv k (by omega)
          rw [zyI_s u3] at this
          exact this
        have b8 : 2147483641 ≤ zB (ρ2 8) ∧ zB (ρ2 8) ≤ 2147483655 := zyXb hB 7 rfl
        refine zyAs hRu hIH hAt (a := 75) (n := L + 160 + k) (c := zymr75 r c) (ax := 0) rfl rfl rfl (show L + 160 + k < 556 by omega) (cv := 274877906945) (cj := 240518168577) rfl (by decide) (by decide) f3 ?_ ?_
        · intro r0 hr0 g1 g2
          exact zyrok_iff (zyall_iff (zand_iff (zyAllP_iff zcr_let h1 h2 h3 h4)).1 r0 hr0 (L + 160 + k) (by omega) (by omega) g1 g2) b8.1 b8.2
        · intro H3 hT3 p1 p2
          revert hT3 p1 p2
          generalize zyEl (zymr r c) B H3 = E3
          intro hT3 p1 p2
          have p1 : E3 75 (L + 160 + k) = some (.int (ρ2 8)) := p1
          rw [hEE] at p2
          have k75 : ∀ j, ¬ j = L + 160 + k → E3 75 j = zyEl (zymr r c) B H 75 j := fun j n => p2 75 j (fun z => n z.2)
          have kot : ∀ a k, ¬ a = 75 → E3 a k = zyEl (zymr r c) B H a k := fun a k n => p2 a k (fun z => n z.1)
          have eI : zyI (zyEl (zymr r c) B H) 75 4 = Int32.ofNat L := zyI_s eL
          have eL := (k75 4 (by omega)).trans eL
          refine ⟨⟨6, by decide⟩, [595, 34359738369, 68719476737, 103079215105, 137438953473], rfl, rfl, zEnv_c (zyfull _) (zEnv_c (zyXb hB 0 rfl) (zEnv_c (zyXb hB 1 rfl) (zEnv_c (zyXb hB 2 rfl) (zEnv_c ?_ zEnv_nil)))), rfl, rfl, ⟨m, T, T', L, q, k, d, hm, s1, hT1, s2, hL, hd, fun h => absurd (show 6 = 0 from h) (by decide), fun a k' n1 n2 n3 => (p2 a k' (fun z => n2 ⟨z.1, by omega⟩)).trans (i1 a k' n1 n2 n3), (k75 3 (by omega)).trans i2, i3, i4, zLv_fr (k75 4 (by omega)) (fun j hj h => k75 _ (by rw [eI, zyOl (by omega) (by omega)] at h; omega)) i5, zWv_fr (k75 5 (by omega)) (fun j _ => k75 _ (by omega)) i6, fun _ => zT0_fr (k75 3 (by omega)) (k75 4 (by omega)) (i7 (by decide)), eL, fun _ => a2, fun h => absurd (show 6 = 2 from h) (by decide), fun h => absurd (show 6 = 3 from h) (by decide), fun _ => fun b hb => by rw [zth_eq (kot 78 b (by decide))]; exact tv b hb, fun _ _ => ⟨(kot 74 14 (by decide)).trans e14, q28, fun j hj => by rw [zyI_eq (kot 80 j (by decide))]; exact sv j hj⟩, fun _ _ => lq, fun _ => ⟨a4, by omega⟩, fun _ => f1, fun h => absurd (show 6 = 5 from h) (by decide), fun _ => fun j hj => ?_, fun h => absurd (show 6 = 7 from h) (by decide), fun h => absurd (show 6 = 9 ∨ 6 = 10 from h) (by decide), fun h => absurd (show 6 = 10 from h) (by decide), fun h => absurd (show 6 = 11 from h) (by decide)⟩, ?_⟩
          · show 2147483648 ≤ zB (ρ2 4) ∧ zB (ρ2 4) ≤ 2147483675
            rw [a4, zyBn (by omega)]
            omega
          · by_cases e : j = k
            · rw [e, show 160 + (L + k) = L + 160 + k by omega, zyI_s p1]
              exact hval
            · rw [zyI_eq (k75 _ (by omega))]
              exact i16 rfl j (by omega)
          · show 1000 * (101 - zyN1 (ρ2 2)) + (600 + 2 * (30 - zyN1 (ρ2 4)) + (6 - 6)) < 1000 * (101 - zyN1 (ρ 2)) + (600 + 2 * (30 - zyN1 (ρ 4)) + (6 - 5))
            rw [hg 2 (by decide), hg 4 (by decide)]
            omega
      · skip
        have ex := List.mem_singleton.mp hx
        subst ex
        obtain ⟨m, T, T', L, q, k, d, hm, s1, hT1, s2, hL, hd, hz0, i1, i2, i3, i4, i5, i6, i7, eL, i8, i9, i10, i11, i12, i13, i14, i15, i16, i17, i18, i19, i20, i21⟩ := hI
        have T1 : zyTy (zymr r c) (zyEl (zymr r c) B H) := hT
        have n80 : zgNS r c ≤ 80 := zgNS_le h2 h4
        have hms : zyEl (zymr r c) B H 75 2 = some (.int (Int32.ofNat m)) := (i1 75 2 (fun z => absurd z.1 (by decide)) (fun z => absurd z.2 (by decide)) (by decide)).trans s1
        have a2 : ρ2 2 = Int32.ofNat d := (hg 2 (by decide)).trans (i8 (by decide))
        obtain ⟨e14, q28, sv⟩ := i12 (by decide) (by decide)
        have tv := i11 (by decide)
        obtain ⟨b4, kq⟩ := i14 (by decide)
        have a4 : ρ2 4 = Int32.ofNat k := (hg 4 (by decide)).trans b4
        have lq := i13 (by decide) (by decide)
        obtain ⟨n4, w4, w5, w6⟩ := zyXe hF 0 rfl
        have w4 : Int32.ofNat 14 = Int32.ofNat n4 := w4
        have w6 : zyEl (zymr r c) B H 74 n4 = some (.int (ρ2 5)) := w6
        have e6 : ρ2 5 = Int32.ofNat q := zyEk w4 (by decide) w5 w6 e14
        have f1 := zyX21 hF 1 rfl
        have f1 : ¬ ρ2 4 < ρ2 5 := f1
        rw [a4, e6, zyOl (by omega) (by omega)] at f1
        have vv := i16 rfl
        rw [← hEE] at eL
        refine zyGoB hIH hAt hB ⟨7, by decide⟩ [595, 34359738369, 68719476737, 103079215105, 0] rfl rfl rfl rfl ⟨m, T, T', L, q, k, d, hm, s1, hT1, s2, hL, hd, fun h => absurd (show 7 = 0 from h) (by decide), by rw [hEE]; exact i1, by rw [hEE]; exact i2, i3, i4, by rw [hEE]; exact i5, by rw [hEE]; exact i6, fun _ => by rw [hEE]; exact i7 (by decide), eL, fun _ => a2, fun h => absurd (show 7 = 2 from h) (by decide), fun h => absurd (show 7 = 3 from h) (by decide), fun _ => by rw [hEE]; exact tv, fun _ _ => ⟨by rw [hEE]; exact e14, q28, by rw [hEE]; exact sv⟩, fun _ _ => lq, fun h => absurd (show 7 = 5 ∨ 7 = 6 from h) (by decide), fun h => absurd (show 7 = 6 from h) (by decide), fun h => absurd (show 7 = 5 from h) (by decide), fun h => absurd (show 7 = 6 from h) (by decide), fun _ => fun j hj => by rw [hEE]; exact vv j (by omega), fun h => absurd (show 7 = 9 ∨ 7 = 10 from h) (by decide), fun h => absurd (show 7 = 10 from h) (by decide), fun h => absurd (show 7 = 11 from h) (by decide)⟩ ?_
        show 1000 * (101 - zyN1 (ρ2 2)) + (500 - 7) < 1000 * (101 - zyN1 (ρ 2)) + (600 + 2 * (30 - zyN1 (ρ 4)) + (6 - 5))
        rw [hg 2 (by decide)]
        omega
    · have hx : x ∈ [zxstp_gx0] := hx
      have hg : ∀ k, k < 5 → ρ2 k = ρ k := hag
      have hI := hInv
      have hI : ∃ m T T' L q k d : Nat, m ≤ 8 ∧ (zyEl (zymr r c) B s.heap) 75 2 = some (.int (Int32.ofNat m)) ∧ T + 100 ≤ 1073741824 ∧ (zyEl (zymr r c) B s.heap) 75 3 = some (.int (Int32.ofNat T)) ∧ L ≤ 300 ∧ d ≤ 100 ∧ (6 = 0 → T' = T) ∧ zyIst (zgNS r c) 6 m T T' L q k d (zyEl (zymr r c) B s.heap) ρ (zyEl (zymr r c) B H) := hI
      obtain ⟨hF, hB, hM⟩ := hXs
      have hEE : (zyEl (zymr r c) B H2) = (zyEl (zymr r c) B H) := zyfr0 hfr
      have ex := List.mem_singleton.mp hx
      subst ex
      obtain ⟨m, T, T', L, q, k, d, hm, s1, hT1, s2, hL, hd, hz0, i1, i2, i3, i4, i5, i6, i7, eL, i8, i9, i10, i11, i12, i13, i14, i15, i16, i17, i18, i19, i20, i21⟩ := hI
      have T1 : zyTy (zymr r c) (zyEl (zymr r c) B H) := hT
      have n80 : zgNS r c ≤ 80 := zgNS_le h2 h4
      have hms : zyEl (zymr r c) B H 75 2 = some (.int (Int32.ofNat m)) := (i1 75 2 (fun z => absurd z.1 (by decide)) (fun z => absurd z.2 (by decide)) (by decide)).trans s1
      have a2 : ρ2 2 = Int32.ofNat d := (hg 2 (by decide)).trans (i8 (by decide))
      obtain ⟨e14, q28, sv⟩ := i12 (by decide) (by decide)
      have tv := i11 (by decide)
      obtain ⟨b4, kq⟩ := i14 (by decide)
      have a4 : ρ2 4 = Int32.ofNat k := (hg 4 (by decide)).trans b4
      have lq := i13 (by decide) (by decide)
      have a4' : ρ2 4 + Int32.ofNat 1 = Int32.ofNat (k + 1) := by rw [a4, zyOa]
      have k6 := i15 rfl
      have vv := i17 rfl
      rw [← hEE] at eL
      refine zyGoB hIH hAt hB ⟨5, by decide⟩ [595, 34359738369, 68719476737, 103079215105, 137438953481] rfl rfl rfl rfl ⟨m, T, T', L, q, (k + 1), d, hm, s1, hT1, s2, hL, hd, fun h => absurd (show 5 = 0 from h) (by decide), by rw [hEE]; exact i1, by rw [hEE]; exact i2, i3, i4, by rw [hEE]; exact i5, by rw [hEE]; exact i6, fun _ => by rw [hEE]; exact i7 (by decide), eL, fun _ => a2, fun h => absurd (show 5 = 2 from h) (by decide), fun h => absurd (show 5 = 3 from h) (by decide), fun _ => by rw [hEE]; exact tv, fun _ _ => ⟨by rw [hEE]; exact e14, q28, by rw [hEE]; exact sv⟩, fun _ _ => lq, fun _ => ⟨a4', k6⟩, fun h => absurd (show 5 = 6 from h) (by decide), fun _ => fun j hj => by rw [hEE]; exact vv j (by omega), fun h => absurd (show 5 = 6 from h) (by decide), fun h => absurd (show 5 = 7 from h) (by decide), fun h => absurd (show 5 = 9 ∨ 5 = 10 from h) (by decide), fun h => absurd (show 5 = 10 from h) (by decide), fun h => absurd (show 5 = 11 from h) (by decide)⟩ ?_
      show 1000 * (101 - zyN1 (ρ2 2)) + (600 + 2 * (30 - zyN1 (ρ2 4 + Int32.ofNat 1)) + (6 - 5)) < 1000 * (101 - zyN1 (ρ 2)) + (600 + 2 * (30 - zyN1 (ρ 4)) + (6 - 6))
      rw [hg 2 (by decide), a4', b4, zyN1_of (by omega), zyN1_of (by omega)]
      omega
    · have hx : x ∈ [zxstp_hx0] := hx
      have hg : ∀ k, k < 5 → ρ2 k = ρ k := hag
      have hI := hInv
      have hI : ∃ m T T' L q k d : Nat, m ≤ 8 ∧ (zyEl (zymr r c) B s.heap) 75 2 = some (.int (Int32.ofNat m)) ∧ T + 100 ≤ 1073741824 ∧ (zyEl (zymr r c) B s.heap) 75 3 = some (.int (Int32.ofNat T)) ∧ L ≤ 300 ∧ d ≤ 100 ∧ (7 = 0 → T' = T) ∧ zyIst (zgNS r c) 7 m T T' L q k d (zyEl (zymr r c) B s.heap) ρ (zyEl (zymr r c) B H) := hI
      obtain ⟨hF, hB, hM⟩ := hXs
      have hEE : (zyEl (zymr r c) B H2) = (zyEl (zymr r c) B H) := zyfr0 hfr
      have ex := List.mem_singleton.mp hx
      subst ex
      obtain ⟨m, T, T', L, q, k, d, hm, s1, hT1, s2, hL, hd, hz0, i1, i2, i3, i4, i5, i6, i7, eL, i8, i9, i10, i11, i12, i13, i14, i15, i16, i17, i18, i19, i20, i21⟩ := hI
      have T1 : zyTy (zymr r c) (zyEl (zymr r c) B H) := hT
      have n80 : zgNS r c ≤ 80 := zgNS_le h2 h4
      have hms : zyEl (zymr r c) B H 75 2 = some (.int (Int32.ofNat m)) := (i1 75 2 (fun z => absurd z.1 (by decide)) (fun z => absurd z.2 (by decide)) (by decide)).trans s1
      have a2 : ρ2 2 = Int32.ofNat d := (hg 2 (by decide)).trans (i8 (by decide))
      obtain ⟨e14, q28, sv⟩ := i12 (by decide) (by decide)
      have tv := i11 (by decide)
      have lq := i13 (by decide) (by decide)
      have vv := i18 rfl
      obtain ⟨n3, w1, w2, w3⟩ := zyXe hF 0 rfl
      have w1 : Int32.ofNat 4 = Int32.ofNat n3 := w1
      have w3 : zyEl (zymr r c) B H 75 n3 = some (.int (ρ2 5)) := w3
      have e5 : ρ2 5 = Int32.ofNat L := zyEk w1 (by decide) w2 w3 eL
      obtain ⟨n4, w4, w5, w6⟩ := zyXe hF 1 rfl
      have w4 : Int32.ofNat 14 = Int32.ofNat n4 := w4
      have w6 : zyEl (zymr r c) B H 74 n4 = some (.int (ρ2 6)) := w6
      have e6 : ρ2 6 = Int32.ofNat q := zyEk w4 (by decide) w5 w6 e14
      have f2 := zyXop hF 2 rfl (by decide)
      have f2 : ρ2 7 = ρ2 5 + ρ2 6 := f2
      rw [e5, e6, zyOa] at f2
      refine zyAsB hRu hIH hAt hB 75 4 (zymr75 r c) rfl rfl rfl (cv := 240518168577) (cj := 32) rfl (by decide) (by decide) ⟨8, by decide⟩ [595, 34359738369, 68719476737, 103079215105, 0] rfl rfl rfl rfl (show 4 < 556 by omega) rfl ?_ ?_
      · intro r0 hr0 g1 g2
        refine zyrok_iff (zyall_iff (zand_iff (zand_iff (zyAllP_iff zcr_let h1 h2 h3 h4)).2).2 r0 hr0 4 (by omega) (by omega) g1 g2) ?_ ?_
        · show 2147483648 ≤ zB (ρ2 7)
          rw [f2, zyBn (by omega)]
          omega
        · show zB (ρ2 7) ≤ 2147483948
          rw [f2, zyBn (by omega)]
          omega
      · intro E3 hT3 p1 p2
        have p1 : E3 75 4 = some (.int (ρ2 7)) := p1
        rw [f2] at p1
        rw [hEE] at p2
        have k75 : ∀ j, ¬ j = 4 → E3 75 j = zyEl (zymr r c) B H 75 j := fun j n => p2 75 j (fun z => n z.2)
        have eI : zyI (zyEl (zymr r c) B H) 75 4 = Int32.ofNat L := zyI_s eL
        have eL := p1
        refine ⟨⟨m, T, T', (L + q), q, k, d, hm, s1, hT1, s2, lq, hd, fun h => absurd (show 8 = 0 from h) (by decide), fun a k' n1 n2 n3 => (p2 a k' (fun z => n2 ⟨z.1, by omega⟩)).trans (i1 a k' n1 n2 n3), (k75 3 (by omega)).trans i2, i3, i4, fun j hj h => ?_, zWv_fr (k75 5 (by omega)) (fun j _ => k75 _ (by omega)) i6, fun h => absurd (show 8 ≤ 7 from h) (by decide), eL, fun _ => a2, fun h => absurd (show 8 = 2 from h) (by decide), fun h => absurd (show 8 = 3 from h) (by decide), fun _ => fun b hb => by rw [zth_eq (p2 78 b (fun z => absurd z.1 (by decide)))]; exact tv b hb, fun _ h => absurd (show 8 ≤ 7 from h) (by decide), fun _ h => absurd (show 8 ≤ 7 from h) (by decide), fun h => absurd (show 8 = 5 ∨ 8 = 6 from h) (by decide), fun h => absurd (show 8 = 6 from h) (by decide), fun h => absurd (show 8 = 5 from h) (by decide), fun h => absurd (show 8 = 6 from h) (by decide), fun h => absurd (show 8 = 7 from h) (by decide), fun h => absurd (show 8 = 9 ∨ 8 = 10 from h) (by decide), fun h => absurd (show 8 = 10 from h) (by decide), fun h => absurd (show 8 = 11 from h) (by decide)⟩, ?_⟩
        · rw [zyI_s p1, zyOl (by omega) (by omega)] at h
          rw [zyI_eq (k75 _ (by omega))]
          by_cases e : j < L
          · exact i5 j hj (by rw [eI, zyOl (by omega) (by omega)]; exact e)
          · have := vv (j - L) (by omega)
            rwa [show 160 + (L + (j - L)) = 160 + j by omega] at this
        · show 1000 * (101 - zyN1 (ρ2 2)) + (500 - 8) < 1000 * (101 - zyN1 (ρ 2)) + (500 - 7)
          rw [hg 2 (by decide)]
          omega
    · have hx : x ∈ [zxstp_ix0] := hx
      have hg : ∀ k, k < 5 → ρ2 k = ρ k := hag
      have hI := hInv
      have hI : ∃ m T T' L q k d : Nat, m ≤ 8 ∧ (zyEl (zymr r c) B s.heap) 75 2 = some (.int (Int32.ofNat m)) ∧ T + 100 ≤ 1073741824 ∧ (zyEl (zymr r c) B s.heap) 75 3 = some (.int (Int32.ofNat T)) ∧ L ≤ 300 ∧ d ≤ 100 ∧ (8 = 0 → T' = T) ∧ zyIst (zgNS r c) 8 m T T' L q k d (zyEl (zymr r c) B s.heap) ρ (zyEl (zymr r c) B H) := hI
      obtain ⟨hF, hB, hM⟩ := hXs
      have hEE : (zyEl (zymr r c) B H2) = (zyEl (zymr r c) B H) := zyfr0 hfr
      have ex := List.mem_singleton.mp hx
      subst ex
      obtain ⟨m, T, T', L, q, k, d, hm, s1, hT1, s2, hL, hd, hz0, i1, i2, i3, i4, i5, i6, i7, eL, i8, i9, i10, i11, i12, i13, i14, i15, i16, i17, i18, i19, i20, i21⟩ := hI
      have T1 : zyTy (zymr r c) (zyEl (zymr r c) B H) := hT
      have n80 : zgNS r c ≤ 80 := zgNS_le h2 h4
      have hms : zyEl (zymr r c) B H 75 2 = some (.int (Int32.ofNat m)) := (i1 75 2 (fun z => absurd z.1 (by decide)) (fun z => absurd z.2 (by decide)) (by decide)).trans s1
      have a2 : ρ2 2 = Int32.ofNat d := (hg 2 (by decide)).trans (i8 (by decide))
      have tv := i11 (by decide)
      rw [← hEE] at eL
      refine zyGoB hIH hAt hB ⟨9, by decide⟩ [595, 34359738369, 68719476737, 103079215105, 0] rfl rfl rfl rfl ⟨m, T, T', L, q, 0, d, hm, s1, hT1, s2, hL, hd, fun h => absurd (show 9 = 0 from h) (by decide), by rw [hEE]; exact i1, by rw [hEE]; exact i2, i3, i4, by rw [hEE]; exact i5, by rw [hEE]; exact i6, fun h => absurd (show 9 ≤ 7 from h) (by decide), eL, fun _ => a2, fun h => absurd (show 9 = 2 from h) (by decide), fun h => absurd (show 9 = 3 from h) (by decide), fun _ => by rw [hEE]; exact tv, fun _ h => absurd (show 9 ≤ 7 from h) (by decide), fun _ h => absurd (show 9 ≤ 7 from h) (by decide), fun h => absurd (show 9 = 5 ∨ 9 = 6 from h) (by decide), fun h => absurd (show 9 = 6 from h) (by decide), fun h => absurd (show 9 = 5 from h) (by decide), fun h => absurd (show 9 = 6 from h) (by decide), fun h => absurd (show 9 = 7 from h) (by decide), fun _ => ⟨rfl, Nat.zero_le _⟩, fun h => absurd (show 9 = 10 from h) (by decide), fun h => absurd (show 9 = 11 from h) (by decide)⟩ ?_
      show 1000 * (101 - zyN1 (ρ2 2)) + (400 + 2 * (9 - zyN1 (Int32.ofNat 0)) + (10 - 9)) < 1000 * (101 - zyN1 (ρ 2)) + (500 - 8)
      rw [hg 2 (by decide)]
      omega
    · have hx : x ∈ [zxstp_jx0, zxstp_jx1] := hx
      have hg : ∀ k, k < 5 → ρ2 k = ρ k := hag
      have hI := hInv
      have hI : ∃ m T T' L q k d : Nat, m ≤ 8 ∧ (zyEl (zymr r c) B s.heap) 75 2 = some (.int (Int32.ofNat m)) ∧ T + 100 ≤ 1073741824 ∧ (zyEl (zymr r c) B s.heap) 75 3 = some (.int (Int32.ofNat T)) ∧ L ≤ 300 ∧ d ≤ 100 ∧ (9 = 0 → T' = T) ∧ zyIst (zgNS r c) 9 m T T' L q k d (zyEl (zymr r c) B s.heap) ρ (zyEl (zymr r c) B H) := hI
      obtain ⟨hF, hB, hM⟩ := hXs
      have hEE : (zyEl (zymr r c) B H2) = (zyEl (zymr r c) B H) := zyfr0 hfr
      rcases List.mem_cons.mp hx with ex | hx
      · subst ex
        obtain ⟨m, T, T', L, q, k, d, hm, s1, hT1, s2, hL, hd, hz0, i1, i2, i3, i4, i5, i6, i7, eL, i8, i9, i10, i11, i12, i13, i14, i15, i16, i17, i18, i19, i20, i21⟩ := hI
        have T1 : zyTy (zymr r c) (zyEl (zymr r c) B H) := hT
        have n80 : zgNS r c ≤ 80 := zgNS_le h2 h4
        have hms : zyEl (zymr r c) B H 75 2 = some (.int (Int32.ofNat m)) := (i1 75 2 (fun z => absurd z.1 (by decide)) (fun z => absurd z.2 (by decide)) (by decide)).trans s1
        have a2 : ρ2 2 = Int32.ofNat d := (hg 2 (by decide)).trans (i8 (by decide))
        have tv := i11 (by decide)
        obtain ⟨b4, k8⟩ := i19 (by decide)
        have a4 : ρ2 4 = Int32.ofNat k := (hg 4 (by decide)).trans b4
        obtain ⟨n3, w1, w2, w3⟩ := zyXe hF 0 rfl
        have w1 : Int32.ofNat 2 = Int32.ofNat n3 := w1
        have w3 : zyEl (zymr r c) B H 75 n3 = some (.int (ρ2 5)) := w3
        have em : ρ2 5 = Int32.ofNat m := zyEk w1 (by decide) w2 w3 hms
        have f1 := zyX20 hF 1 rfl
        have f1 : ρ2 4 < ρ2 5 := f1
        rw [a4, em, zyOl (by omega) (by omega)] at f1
        obtain ⟨n5, u1, u2, u3⟩ := zyXe hF 2 rfl
        have u1 : ρ2 4 = Int32.ofNat n5 := u1
        have u3 : zyEl (zymr r c) B H 78 n5 = some (.int (ρ2 6)) := u3
        rw [a4] at u1
        have e6 := zyEk u1 (by omega) u2 u3 (zth_el T1 (i := k) (by omega)).1
        have l6 := tv k f1
        have b4' : ρ2 4 + Int32.ofNat 144 = Int32.ofNat (k + 144) := by rw [a4, zyOa]
        refine zyAsB hRu hIH hAt hB 75 (k + 144) (zymr75 r c) rfl rfl rfl (cv := 206158430209) (cj := 137438954625) rfl (by decide) (by decide) ⟨10, by decide⟩ [595, 34359738369, 68719476737, 103079215105, 137438953473] rfl rfl rfl rfl (show k + 144 < 556 by omega) b4' ?_ ?_
        · intro r0 hr0 g1 g2
          refine zyrok_iff (zyall_iff (zand_iff (zand_iff (zyAllP_iff zcr_let h1 h2 h3 h4)).2).1 r0 hr0 (k + 144) (by omega) (by omega) g1 g2) ?_ ?_
          · show 2147483648 ≤ zB (ρ2 6)
            rw [e6, zyBn (by omega)]
            omega
          · show zB (ρ2 6) ≤ 2147483647 + zgNS r c
            rw [e6, zyBn (by omega)]
            omega
        · intro E3 hT3 p1 p2
          rw [hEE] at p2
          have k75 : ∀ j, ¬ j = k + 144 → E3 75 j = zyEl (zymr r c) B H 75 j := fun j n => p2 75 j (fun z => n z.2)
          have eL := (k75 4 (by omega)).trans eL
          refine ⟨⟨m, T, T', L, q, k, d, hm, s1, hT1, s2, hL, hd, fun h => absurd (show 10 = 0 from h) (by decide), fun a k' n1 n2 n3 => (p2 a k' (fun z => n2 ⟨z.1, by omega⟩)).trans (i1 a k' n1 n2 n3), (k75 3 (by omega)).trans i2, i3, i4, zLv_fr (k75 4 (by omega)) (fun j hj h => k75 _ (by omega)) i5, zWv_fr (k75 5 (by omega)) (fun j _ => k75 _ (by omega)) i6, fun h => absurd (show 10 ≤ 7 from h) (by decide), eL, fun _ => a2, fun h => absurd (show 10 = 2 from h) (by decide), fun h => absurd (show 10 = 3 from h) (by decide), fun _ => fun b hb => by rw [zth_eq (p2 78 b (fun z => absurd z.1 (by decide)))]; exact tv b hb, fun _ h => absurd (show 10 ≤ 7 from h) (by decide), fun _ h => absurd (show 10 ≤ 7 from h) (by decide), fun h => absurd (show 10 = 5 ∨ 10 = 6 from h) (by decide), fun h => absurd (show 10 = 6 from h) (by decide), fun h => absurd (show 10 = 5 from h) (by decide), fun h => absurd (show 10 = 6 from h) (by decide), fun h => absurd (show 10 = 7 from h) (by decide), fun _ => ⟨a4, k8⟩, fun _ => by omega, fun h => absurd (show 10 = 11 from h) (by decide)⟩, ?_⟩
          show 1000 * (101 - zyN1 (ρ2 2)) + (400 + 2 * (9 - zyN1 (ρ2 4)) + (10 - 10)) < 1000 * (101 - zyN1 (ρ 2)) + (400 + 2 * (9 - zyN1 (ρ 4)) + (10 - 9))
          rw [hg 2 (by decide), hg 4 (by decide)]
          omega
      · skip
        have ex := List.mem_singleton.mp hx
        subst ex
        obtain ⟨m, T, T', L, q, k, d, hm, s1, hT1, s2, hL, hd, hz0, i1, i2, i3, i4, i5, i6, i7, eL, i8, i9, i10, i11, i12, i13, i14, i15, i16, i17, i18, i19, i20, i21⟩ := hI
        have T1 : zyTy (zymr r c) (zyEl (zymr r c) B H) := hT
        have n80 : zgNS r c ≤ 80 := zgNS_le h2 h4
        have hms : zyEl (zymr r c) B H 75 2 = some (.int (Int32.ofNat m)) := (i1 75 2 (fun z => absurd z.1 (by decide)) (fun z => absurd z.2 (by decide)) (by decide)).trans s1
        have a2 : ρ2 2 = Int32.ofNat d := (hg 2 (by decide)).trans (i8 (by decide))
        have tv := i11 (by decide)
        rw [← hEE] at eL
        refine zyGoKi hIH hAt hB ⟨11, by decide⟩ [595, 34359738369, 68719476737, 103079215105, 0] [(0, 4294967295), (2147483649, 2147483748), (2147483648, 2147483747), (2147483648, 2147483648), (0, 4294967295)] 2147483648 3221225472 rfl (by decide) rfl rfl rfl (75 * 16384 + 3) (zymr75 r c) rfl rfl (by rw [zyL75]; decide) (Int32.ofNat T') ?_ ?_ ⟨m, T, T', L, q, k, d, hm, s1, hT1, s2, hL, hd, fun h => absurd (show 11 = 0 from h) (by decide), by rw [hEE]; exact i1, by rw [hEE]; exact i2, i3, i4, by rw [hEE]; exact i5, by rw [hEE]; exact i6, fun h => absurd (show 11 ≤ 7 from h) (by decide), eL, fun _ => (zyρi_n (by decide)).trans a2, fun h => absurd (show 11 = 2 from h) (by decide), fun h => absurd (show 11 = 3 from h) (by decide), fun _ => by rw [hEE]; exact tv, fun _ h => absurd (show 11 ≤ 7 from h) (by decide), fun _ h => absurd (show 11 ≤ 7 from h) (by decide), fun h => absurd (show 11 = 5 ∨ 11 = 6 from h) (by decide), fun h => absurd (show 11 = 6 from h) (by decide), fun h => absurd (show 11 = 5 from h) (by decide), fun h => absurd (show 11 = 6 from h) (by decide), fun h => absurd (show 11 = 7 from h) (by decide), fun h => absurd (show 11 = 9 ∨ 11 = 10 from h) (by decide), fun h => absurd (show 11 = 10 from h) (by decide), fun _ => zyρi_e⟩ ?_
        · show zyEl (zymr r c) B H2 75 3 = _
          rw [hEE]
          exact i2
        · rw [zyBn (by omega)]
          omega
        · show 1000 * (101 - zyN1 (zyρi _ 5 _ 2)) + 300 < 1000 * (101 - zyN1 (ρ 2)) + (400 + 2 * (9 - zyN1 (ρ 4)) + (10 - 9))
          rw [zyρi_n (by decide)]
          show 1000 * (101 - zyN1 (ρ2 2)) + 300 < 1000 * (101 - zyN1 (ρ 2)) + (400 + 2 * (9 - zyN1 (ρ 4)) + (10 - 9))
          rw [hg 2 (by decide)]
          omega
    · have hx : x ∈ [zxstp_kx0] := hx
      have hg : ∀ k, k < 5 → ρ2 k = ρ k := hag
      have hI := hInv
      have hI : ∃ m T T' L q k d : Nat, m ≤ 8 ∧ (zyEl (zymr r c) B s.heap) 75 2 = some (.int (Int32.ofNat m)) ∧ T + 100 ≤ 1073741824 ∧ (zyEl (zymr r c) B s.heap) 75 3 = some (.int (Int32.ofNat T)) ∧ L ≤ 300 ∧ d ≤ 100 ∧ (10 = 0 → T' = T) ∧ zyIst (zgNS r c) 10 m T T' L q k d (zyEl (zymr r c) B s.heap) ρ (zyEl (zymr r c) B H) := hI
      obtain ⟨hF, hB, hM⟩ := hXs
      have hEE : (zyEl (zymr r c) B H2) = (zyEl (zymr r c) B H) := zyfr0 hfr
      have ex := List.mem_singleton.mp hx
      subst ex
      obtain ⟨m, T, T', L, q, k, d, hm, s1, hT1, s2, hL, hd, hz0, i1, i2, i3, i4, i5, i6, i7, eL, i8, i9, i10, i11, i12, i13, i14, i15, i16, i17, i18, i19, i20, i21⟩ := hI
      have T1 : zyTy (zymr r c) (zyEl (zymr r c) B H) := hT
      have n80 : zgNS r c ≤ 80 := zgNS_le h2 h4
      have hms : zyEl (zymr r c) B H 75 2 = some (.int (Int32.ofNat m)) := (i1 75 2 (fun z => absurd z.1 (by decide)) (fun z => absurd z.2 (by decide)) (by decide)).trans s1
      have a2 : ρ2 2 = Int32.ofNat d := (hg 2 (by decide)).trans (i8 (by decide))
      have tv := i11 (by decide)
      obtain ⟨b4, k8⟩ := i19 (by decide)
      have a4 : ρ2 4 = Int32.ofNat k := (hg 4 (by decide)).trans b4
      have a4' : ρ2 4 + Int32.ofNat 1 = Int32.ofNat (k + 1) := by rw [a4, zyOa]
      have k7 := i20 rfl
      rw [← hEE] at eL
      refine zyGoB hIH hAt hB ⟨9, by decide⟩ [595, 34359738369, 68719476737, 103079215105, 137438953481] rfl rfl rfl rfl ⟨m, T, T', L, q, (k + 1), d, hm, s1, hT1, s2, hL, hd, fun h => absurd (show 9 = 0 from h) (by decide), by rw [hEE]; exact i1, by rw [hEE]; exact i2, i3, i4, by rw [hEE]; exact i5, by rw [hEE]; exact i6, fun h => absurd (show 9 ≤ 7 from h) (by decide), eL, fun _ => a2, fun h => absurd (show 9 = 2 from h) (by decide), fun h => absurd (show 9 = 3 from h) (by decide), fun _ => by rw [hEE]; exact tv, fun _ h => absurd (show 9 ≤ 7 from h) (by decide), fun _ h => absurd (show 9 ≤ 7 from h) (by decide), fun h => absurd (show 9 = 5 ∨ 9 = 6 from h) (by decide), fun h => absurd (show 9 = 6 from h) (by decide), fun h => absurd (show 9 = 5 from h) (by decide), fun h => absurd (show 9 = 6 from h) (by decide), fun h => absurd (show 9 = 7 from h) (by decide), fun _ => ⟨a4', by omega⟩, fun h => absurd (show 9 = 10 from h) (by decide), fun h => absurd (show 9 = 11 from h) (by decide)⟩ ?_
      show 1000 * (101 - zyN1 (ρ2 2)) + (400 + 2 * (9 - zyN1 (ρ2 4 + Int32.ofNat 1)) + (10 - 9)) < 1000 * (101 - zyN1 (ρ 2)) + (400 + 2 * (9 - zyN1 (ρ 4)) + (10 - 10))
      rw [hg 2 (by decide), a4', b4, zyN1_of (by omega), zyN1_of (by omega)]
      omega
    · have hx : x ∈ [zxstp_lx0] := hx
      have hg : ∀ k, k < 6 → ρ2 k = ρ k := hag
      have hI := hInv
      have hI : ∃ m T T' L q k d : Nat, m ≤ 8 ∧ (zyEl (zymr r c) B s.heap) 75 2 = some (.int (Int32.ofNat m)) ∧ T + 100 ≤ 1073741824 ∧ (zyEl (zymr r c) B s.heap) 75 3 = some (.int (Int32.ofNat T)) ∧ L ≤ 300 ∧ d ≤ 100 ∧ (11 = 0 → T' = T) ∧ zyIst (zgNS r c) 11 m T T' L q k d (zyEl (zymr r c) B s.heap) ρ (zyEl (zymr r c) B H) := hI
      obtain ⟨hF, hB, hM⟩ := hXs
      have hfr : ∀ a k, zyin [(75, 3, 3)] a k = false → (zyEl (zymr r c) B H2) a k = (zyEl (zymr r c) B H) a k := hfr
      have ex := List.mem_singleton.mp hx
      subst ex
      obtain ⟨m, T, T', L, q, k, d, hm, s1, hT1, s2, hL, hd, hz0, i1, i2, i3, i4, i5, i6, i7, eL, i8, i9, i10, i11, i12, i13, i14, i15, i16, i17, i18, i19, i20, i21⟩ := hI
      have T1 : zyTy (zymr r c) (zyEl (zymr r c) B H) := hT
      have n80 : zgNS r c ≤ 80 := zgNS_le h2 h4
      have hms : zyEl (zymr r c) B H 75 2 = some (.int (Int32.ofNat m)) := (i1 75 2 (fun z => absurd z.1 (by decide)) (fun z => absurd z.2 (by decide)) (by decide)).trans s1
      have a2 : ρ2 2 = Int32.ofNat d := (hg 2 (by decide)).trans (i8 (by decide))
      have a5 : ρ2 5 = Int32.ofNat T' := (hg 5 (by decide)).trans (i21 rfl)
      have m1 := zyXm hM 0 rfl
      have m1 : zyEl (zymr r c) B H2 75 3 = some (.int (ρ2 5 + Int32.ofNat 1)) := m1
      rw [a5, zyOa] at m1
      have hk := zyfr1 hfr
      have k75 : ∀ j, ¬ j = 3 → zyEl (zymr r c) B H2 75 j = zyEl (zymr r c) B H 75 j := fun j n => hk 75 j (fun z => n z.2)
      have eL := (k75 4 (by omega)).trans eL
      have a2' : ρ2 2 + Int32.ofNat 1 = Int32.ofNat (d + 1) := by rw [a2, zyOa]
      have bd : 2147483648 ≤ zB (ρ2 2) ∧ zB (ρ2 2) ≤ 2147483747 := zyXb hB 1 rfl
      rw [a2, zyBn (by omega)] at bd
      have f3 : 2147483648 ≤ zB (ρ2 3) ∧ zB (ρ2 3) ≤ 2147483648 := zyXb hB 2 rfl
      have f3 : ρ2 3 = Int32.ofNat 0 := by
        obtain ⟨o1, o2⟩ := zyOn f3.1
        rw [o1, show zyN1 (ρ2 3) = 0 by omega]
      refine zyGoB hIH hAt hB ⟨1, by decide⟩ [595, 34359738369, 68719476745, 103079215105, 0] rfl rfl rfl rfl ⟨m, T, (T' + 1), L, q, k, (d + 1), hm, s1, hT1, s2, hL, by omega, fun h => absurd (show 1 = 0 from h) (by decide), fun a k' n1 n2 n3 => (hk a k' (fun z => n2 ⟨z.1, by omega⟩)).trans (i1 a k' n1 n2 n3), m1, by omega, by omega, zLv_fr (k75 4 (by omega)) (fun j hj h => k75 _ (by omega)) i5, zWv_fr (k75 5 (by omega)) (fun j _ => k75 _ (by omega)) i6, fun _ => ?_, eL, fun _ => a2', fun h => absurd (show 1 = 2 from h) (by decide), fun h => absurd (show 1 = 3 from h) (by decide), fun h => absurd (show 4 ≤ 1 from h) (by decide), fun h => absurd (show 4 ≤ 1 from h) (by decide), fun h => absurd (show 5 ≤ 1 from h) (by decide), fun h => absurd (show 1 = 5 ∨ 1 = 6 from h) (by decide), fun h => absurd (show 1 = 6 from h) (by decide), fun h => absurd (show 1 = 5 from h) (by decide), fun h => absurd (show 1 = 6 from h) (by decide), fun h => absurd (show 1 = 7 from h) (by decide), fun h => absurd (show 1 = 9 ∨ 1 = 10 from h) (by decide), fun h => absurd (show 1 = 10 from h) (by decide), fun h => absurd (show 1 = 11 from h) (by decide)⟩ ?_
      · intro hn
        exfalso
        apply hn
        rw [zyI_s m1, zyOl (by omega) (by omega)]
        omega
      · show (if ρ2 3 = Int32.ofNat 0 then 1000 * (101 - zyN1 (ρ2 2 + Int32.ofNat 1)) + 900 else 1) < 1000 * (101 - zyN1 (ρ 2)) + 300
        rw [if_pos f3, a2', i8 (by decide), zyN1_of (by omega), zyN1_of (by omega)]
        omega
  · intro as E0 E E2 hT0 hΦ hlen i ρ hT hInv x hx ρ2 N2 B vo hXs hag hfr hT2 hvo
    rcases i with ⟨i, hi⟩
    have hi2 : i = 0 ∨ i = 1 ∨ i = 2 ∨ i = 3 ∨ i = 4 ∨ i = 5 ∨ i = 6 ∨ i = 7 ∨ i = 8 ∨ i = 9 ∨ i = 10 ∨ i = 11 := by omega
    rcases hi2 with rfl | rfl | rfl | rfl | rfl | rfl | rfl | rfl | rfl | rfl | rfl | rfl
    · have hx : x ∈ [zxstp_ar0, zxstp_ar1] := hx
      have hg : ∀ k, k < 5 → ρ2 k = ρ k := hag
      have hI := hInv
      have hI : ∃ m T T' L q k d : Nat, m ≤ 8 ∧ E0 75 2 = some (.int (Int32.ofNat m)) ∧ T + 100 ≤ 1073741824 ∧ E0 75 3 = some (.int (Int32.ofNat T)) ∧ L ≤ 300 ∧ d ≤ 100 ∧ (0 = 0 → T' = T) ∧ zyIst (zgNS r c) 0 m T T' L q k d E0 ρ E := hI
      obtain ⟨hF, hB, hM⟩ := hXs
      have hfr : ∀ a k, zyin [(74, 2, 3)] a k = false → E2 a k = E a k := hfr
      rcases List.mem_cons.mp hx with ex | hx
      · subst ex
        obtain ⟨m, T, T', L, q, k, d, hm, s1, hT1, s2, hL, hd, hz0, i1, i2, i3, i4, i5, i6, i7, eL, i8, i9, i10, i11, i12, i13, i14, i15, i16, i17, i18, i19, i20, i21⟩ := hI
        have hk : ∀ a k, ¬ (a = 74 ∧ 2 ≤ k ∧ k ≤ 3) → E2 a k = E a k := by
          intro a k n
          apply hfr
          cases hq : zyin [(74, 2, 3)] a k with
          | false => rfl
          | true =>
            obtain ⟨p0, g1, g2, g3, g4⟩ := zyin_iff.mp hq
            rw [List.mem_singleton.mp g1] at g2 g3 g4
            dsimp only at g2 g3 g4
            exact absurd ⟨g2.symm, by omega, by omega⟩ n
        have k75 : ∀ k, E2 75 k = E 75 k := fun k => hk 75 k (fun z => absurd z.1 (by decide))
        refine ⟨fun m' hm' hms' => ?_, fun a k n1 n2 n3 => (hk a k (fun z => n1 ⟨z.1, Or.inl z.2⟩)).trans (i1 a k n1 n2 n3), ⟨_, zyvo_1 (c := 34359738360) (by decide) (show zyvo (zyXn B ρ2 N2) [34359738360] vo from hvo)⟩, fun T2 c1 c2 => ?_⟩
        · have e0 := ((k75 2).trans (i1 75 2 (fun z => absurd z.1 (by decide)) (fun z => absurd z.2 (by decide)) (by decide))).trans s1
          rw [e0] at hms'
          have e1 := zyOi (by omega) (by omega) (Value.int.inj (Option.some.inj hms'))
          subst e1
          exact ⟨zLv_fr (k75 4) (fun k _ _ => k75 _) i5, zWv_fr (k75 5) (fun k _ => k75 _) i6, zT0_fr (k75 3) (k75 4) (i7 (by decide))⟩
        · rw [s2] at c2
          have e1 := zyOi (by omega) (by omega) (Value.int.inj (Option.some.inj c2))
          subst e1
          exact ⟨T', i3, by omega, (k75 3).trans i2⟩
      · skip
        have ex := List.mem_singleton.mp hx
        subst ex
        obtain ⟨m, T, T', L, q, k, d, hm, s1, hT1, s2, hL, hd, hz0, i1, i2, i3, i4, i5, i6, i7, eL, i8, i9, i10, i11, i12, i13, i14, i15, i16, i17, i18, i19, i20, i21⟩ := hI
        have hk : ∀ a k, ¬ (a = 74 ∧ 2 ≤ k ∧ k ≤ 3) → E2 a k = E a k := by
          intro a k n
          apply hfr
          cases hq : zyin [(74, 2, 3)] a k with
          | false => rfl
          | true =>
            obtain ⟨p0, g1, g2, g3, g4⟩ := zyin_iff.mp hq
            rw [List.mem_singleton.mp g1] at g2 g3 g4
            dsimp only at g2 g3 g4
            exact absurd ⟨g2.symm, by omega, by omega⟩ n
        have k75 : ∀ k, E2 75 k = E 75 k := fun k => hk 75 k (fun z => absurd z.1 (by decide))
        refine ⟨fun m' hm' hms' => ?_, fun a k n1 n2 n3 => (hk a k (fun z => n1 ⟨z.1, Or.inl z.2⟩)).trans (i1 a k n1 n2 n3), ⟨_, zyvo_1 (c := 34359738360) (by decide) (show zyvo (zyXn B ρ2 N2) [34359738360] vo from hvo)⟩, fun T2 c1 c2 => ?_⟩
        · have e0 := ((k75 2).trans (i1 75 2 (fun z => absurd z.1 (by decide)) (fun z => absurd z.2 (by decide)) (by decide))).trans s1
          rw [e0] at hms'
          have e1 := zyOi (by omega) (by omega) (Value.int.inj (Option.some.inj hms'))
          subst e1
          exact ⟨zLv_fr (k75 4) (fun k _ _ => k75 _) i5, zWv_fr (k75 5) (fun k _ => k75 _) i6, zT0_fr (k75 3) (k75 4) (i7 (by decide))⟩
        · rw [s2] at c2
          have e1 := zyOi (by omega) (by omega) (Value.int.inj (Option.some.inj c2))
          subst e1
          exact ⟨T', i3, by omega, (k75 3).trans i2⟩
    · have hx : x ∈ [zxstp_br0, zxstp_br1, zxstp_br2] := hx
      have hg : ∀ k, k < 5 → ρ2 k = ρ k := hag
      have hI := hInv
      have hI : ∃ m T T' L q k d : Nat, m ≤ 8 ∧ E0 75 2 = some (.int (Int32.ofNat m)) ∧ T + 100 ≤ 1073741824 ∧ E0 75 3 = some (.int (Int32.ofNat T)) ∧ L ≤ 300 ∧ d ≤ 100 ∧ (1 = 0 → T' = T) ∧ zyIst (zgNS r c) 1 m T T' L q k d E0 ρ E := hI
      obtain ⟨hF, hB, hM⟩ := hXs
      have hfr : ∀ a k, zyin [(74, 2, 2)] a k = false → E2 a k = E a k := hfr
      rcases List.mem_cons.mp hx with ex | hx
      · subst ex
        obtain ⟨m, T, T', L, q, k, d, hm, s1, hT1, s2, hL, hd, hz0, i1, i2, i3, i4, i5, i6, i7, eL, i8, i9, i10, i11, i12, i13, i14, i15, i16, i17, i18, i19, i20, i21⟩ := hI
        have hk : ∀ a k, ¬ (a = 74 ∧ 2 ≤ k ∧ k ≤ 3) → E2 a k = E a k := by
          intro a k n
          apply hfr
          cases hq : zyin [(74, 2, 2)] a k with
          | false => rfl
          | true =>
            obtain ⟨p0, g1, g2, g3, g4⟩ := zyin_iff.mp hq
            rw [List.mem_singleton.mp g1] at g2 g3 g4
            dsimp only at g2 g3 g4
            exact absurd ⟨g2.symm, by omega, by omega⟩ n
        have k75 : ∀ k, E2 75 k = E 75 k := fun k => hk 75 k (fun z => absurd z.1 (by decide))
        refine ⟨fun m' hm' hms' => ?_, fun a k n1 n2 n3 => (hk a k (fun z => n1 ⟨z.1, Or.inl z.2⟩)).trans (i1 a k n1 n2 n3), ⟨_, zyvo_1 (c := 68719476737) (by decide) (show zyvo (zyXn B ρ2 N2) [68719476737] vo from hvo)⟩, fun T2 c1 c2 => ?_⟩
        · have e0 := ((k75 2).trans (i1 75 2 (fun z => absurd z.1 (by decide)) (fun z => absurd z.2 (by decide)) (by decide))).trans s1
          rw [e0] at hms'
          have e1 := zyOi (by omega) (by omega) (Value.int.inj (Option.some.inj hms'))
          subst e1
          exact ⟨zLv_fr (k75 4) (fun k _ _ => k75 _) i5, zWv_fr (k75 5) (fun k _ => k75 _) i6, zT0_fr (k75 3) (k75 4) (i7 (by decide))⟩
        · rw [s2] at c2
          have e1 := zyOi (by omega) (by omega) (Value.int.inj (Option.some.inj c2))
          subst e1
          exact ⟨T', i3, by omega, (k75 3).trans i2⟩
      · skip
        rcases List.mem_cons.mp hx with ex | hx
        · subst ex
          obtain ⟨m, T, T', L, q, k, d, hm, s1, hT1, s2, hL, hd, hz0, i1, i2, i3, i4, i5, i6, i7, eL, i8, i9, i10, i11, i12, i13, i14, i15, i16, i17, i18, i19, i20, i21⟩ := hI
          have hk : ∀ a k, ¬ (a = 74 ∧ 2 ≤ k ∧ k ≤ 3) → E2 a k = E a k := by
            intro a k n
            apply hfr
            cases hq : zyin [(74, 2, 2)] a k with
            | false => rfl
            | true =>
              obtain ⟨p0, g1, g2, g3, g4⟩ := zyin_iff.mp hq
              rw [List.mem_singleton.mp g1] at g2 g3 g4
              dsimp only at g2 g3 g4
              exact absurd ⟨g2.symm, by omega, by omega⟩ n
          have k75 : ∀ k, E2 75 k = E 75 k := fun k => hk 75 k (fun z => absurd z.1 (by decide))
          refine ⟨fun m' hm' hms' => ?_, fun a k n1 n2 n3 => (hk a k (fun z => n1 ⟨z.1, Or.inl z.2⟩)).trans (i1 a k n1 n2 n3), ⟨_, zyvo_1 (c := 34359738360) (by decide) (show zyvo (zyXn B ρ2 N2) [34359738360] vo from hvo)⟩, fun T2 c1 c2 => ?_⟩
          · have e0 := ((k75 2).trans (i1 75 2 (fun z => absurd z.1 (by decide)) (fun z => absurd z.2 (by decide)) (by decide))).trans s1
            rw [e0] at hms'
            have e1 := zyOi (by omega) (by omega) (Value.int.inj (Option.some.inj hms'))
            subst e1
            exact ⟨zLv_fr (k75 4) (fun k _ _ => k75 _) i5, zWv_fr (k75 5) (fun k _ => k75 _) i6, zT0_fr (k75 3) (k75 4) (i7 (by decide))⟩
          · rw [s2] at c2
            have e1 := zyOi (by omega) (by omega) (Value.int.inj (Option.some.inj c2))
            subst e1
            exact ⟨T', i3, by omega, (k75 3).trans i2⟩
        · skip
          have ex := List.mem_singleton.mp hx
          subst ex
          obtain ⟨m, T, T', L, q, k, d, hm, s1, hT1, s2, hL, hd, hz0, i1, i2, i3, i4, i5, i6, i7, eL, i8, i9, i10, i11, i12, i13, i14, i15, i16, i17, i18, i19, i20, i21⟩ := hI
          have hk : ∀ a k, ¬ (a = 74 ∧ 2 ≤ k ∧ k ≤ 3) → E2 a k = E a k := by
            intro a k n
            apply hfr
            cases hq : zyin [(74, 2, 2)] a k with
            | false => rfl
            | true =>
              obtain ⟨p0, g1, g2, g3, g4⟩ := zyin_iff.mp hq
              rw [List.mem_singleton.mp g1] at g2 g3 g4
              dsimp only at g2 g3 g4
              exact absurd ⟨g2.symm, by omega, by omega⟩ n
          have k75 : ∀ k, E2 75 k = E 75 k := fun k => hk 75 k (fun z => absurd z.1 (by decide))
          refine ⟨fun m' hm' hms' => ?_, fun a k n1 n2 n3 => (hk a k (fun z => n1 ⟨z.1, Or.inl z.2⟩)).trans (i1 a k n1 n2 n3), ⟨_, zyvo_1 (c := 68719476737) (by decide) (show zyvo (zyXn B ρ2 N2) [68719476737] vo from hvo)⟩, fun T2 c1 c2 => ?_⟩
          · have e0 := ((k75 2).trans (i1 75 2 (fun z => absurd z.1 (by decide)) (fun z => absurd z.2 (by decide)) (by decide))).trans s1
            rw [e0] at hms'
            have e1 := zyOi (by omega) (by omega) (Value.int.inj (Option.some.inj hms'))
            subst e1
            exact ⟨zLv_fr (k75 4) (fun k _ _ => k75 _) i5, zWv_fr (k75 5) (fun k _ => k75 _) i6, zT0_fr (k75 3) (k75 4) (i7 (by decide))⟩
          · rw [s2] at c2
            have e1 := zyOi (by omega) (by omega) (Value.int.inj (Option.some.inj c2))
            subst e1
            exact ⟨T', i3, by omega, (k75 3).trans i2⟩
    · cases hx
    · cases hx
    · cases hx
    · cases hx
    · cases hx
    · cases hx
    · cases hx
    · cases hx
    · cases hx
    · cases hx
end
section
/-! phases: whyOf (printed by yexc.py) -/
noncomputable def zxwy_ax0 : zyXp := (6, [595, 34359738369, 13, 13, 13], [595], [], [(34359738369, 2147483649, 2147483712)], [])
noncomputable def zpwy_a : zyPh := (0, [595, 34359738369, 68719476737, 13, 13], [(0, 4294967295), (2147483649, 2147483712), (2147483648, 4294967295), (0, 4294967295), (0, 4294967295)], [], [])
noncomputable def zxwy_bx0 : zyXp := (14, [595, 34359738369, 13, 0, 0], [], [], [(34359738369, 2147483649, 2147483712)], [])
noncomputable def zpwy_b : zyPh := (9, [595, 34359738369, 13, 13, 13], [(0, 4294967295), (2147483649, 2147483712), (0, 4294967295), (0, 4294967295), (0, 4294967295)], [], [])
noncomputable def zxwy_cx0 : zyXp := (27, [595, 34359738369, 13, 103079215105, 137438953473], [137438953473, 595], [(20, 0, 137438953473, 34359738369), (22, 0, 103079215105, 0)], [(34359738369, 2147483649, 2147483712), (103079215105, 2147483648, 2147483648), (137438953473, 2147483648, 2147483711)], [])
noncomputable def zxwy_cx1 : zyXp := (80, [595, 13, 13, 13, 0], [], [(21, 0, 137438953473, 34359738369), (21, 0, 0, 103079215105)], [(34359738369, 2147483649, 2147483712), (103079215105, 2147483648, 2147483648), (137438953473, 2147483649, 2147483712)], [])
noncomputable def zxwy_cr0 : zyXp := (0, [], [103079215105], [(20, 0, 137438953473, 34359738369), (23, 0, 103079215105, 0), (20, 0, 0, 103079215105)], [(34359738369, 2147483649, 2147483712), (103079215105, 2147483649, 2147483649), (137438953473, 2147483648, 2147483711)], [])
noncomputable def zxwy_cr1 : zyXp := (0, [], [103079215105], [(21, 0, 137438953473, 34359738369), (20, 0, 0, 103079215105)], [(34359738369, 2147483649, 2147483712), (103079215105, 2147483649, 2147483649), (137438953473, 2147483649, 2147483712)], [])
noncomputable def zpwy_c : zyPh := (14, [595, 34359738369, 13, 103079215105, 137438953473], [(0, 4294967295), (2147483649, 2147483712), (0, 4294967295), (2147483648, 2147483649), (2147483648, 2147483712)], [], [])
noncomputable def zxwy_dx0 : zyXp := (34, [595, 34359738369, 13, 103079215105, 137438953473], [595], [(23, 0, 171798691841, 0)], [(34359738369, 2147483649, 2147483712), (103079215105, 2147483648, 2147483648), (137438953473, 2147483648, 2147483711), (171798691841, 2147483649, 2147483649)], [])
noncomputable def zxwy_dx1 : zyXp := (14, [595, 34359738369, 13, 8, 137438953481], [], [(22, 0, 171798691841, 0), (24, 206158430209, 74, 120)], [(34359738369, 2147483649, 2147483712), (137438953473, 2147483648, 2147483711), (171798691841, 2147483648, 2147483648), (137438953481, 2147483649, 2147483712)], [])
noncomputable def zpwy_d : zyPh := (30, [595, 34359738369, 13, 103079215105, 137438953473], [(0, 4294967295), (2147483649, 2147483712), (0, 4294967295), (2147483648, 2147483648), (2147483648, 2147483711), (2147483648, 2147483649)], [], [171798691841])
noncomputable def zxwy_ex0 : zyXp := (38, [595, 34359738369, 13, 103079215105, 137438953473], [595], [], [(34359738369, 2147483649, 2147483712), (103079215105, 2147483648, 2147483648), (137438953473, 2147483648, 2147483711)], [])
noncomputable def zpwy_e : zyPh := (37, [595, 34359738369, 13, 103079215105, 137438953473], [(0, 4294967295), (2147483649, 2147483712), (0, 4294967295), (2147483648, 2147483648), (2147483648, 2147483711)], [], [])
noncomputable def zxwy_fx0 : zyXp := (14, [595, 34359738369, 13, 103079215105, 137438953481], [], [], [(34359738369, 2147483649, 2147483712), (103079215105, 2147483648, 2147483648), (137438953473, 2147483648, 2147483711), (137438953481, 2147483649, 2147483712)], [])
noncomputable def zpwy_f : zyPh := (41, [595, 34359738369, 13, 103079215105, 137438953473], [(0, 4294967295), (2147483649, 2147483712), (0, 4294967295), (2147483648, 2147483648), (2147483648, 2147483711)], [], [])
noncomputable def zxwy_gx0 : zyXp := (80, [595, 13, 13, 13, 137438953481], [], [(24, 171798691841, 75, 16), (20, 0, 137438953473, 171798691841), (24, 206158430209, 75, 137438954689), (20, 0, 206158430209, 0)], [(137438953473, 2147483648, 2147483655), (171798691841, 2147483649, 2147483656), (206158430209, 2147483647, 2147483647), (137438953481, 2147483649, 2147483656)], [])
noncomputable def zxwy_gx1 : zyXp := (80, [595, 13, 13, 13, 137438953481], [], [(24, 171798691841, 75, 16), (20, 0, 137438953473, 171798691841), (24, 206158430209, 75, 137438954689), (21, 0, 206158430209, 0), (24, 240518168577, 75, 137438954689), (24, 274877906945, 77, 137438953473), (22, 0, 240518168577, 274877906945)], [(137438953473, 2147483648, 2147483655), (171798691841, 2147483649, 2147483656), (206158430209, 2147483648, 2147483727), (240518168577, 2147483647, 2147483727), (274877906945, 2147483648, 2147483727), (137438953481, 2147483649, 2147483656)], [])
noncomputable def zxwy_gx2 : zyXp := (165, [595, 13, 13, 13, 13], [595], [(24, 171798691841, 75, 16), (21, 0, 137438953473, 171798691841), (24, 206158430209, 74, 112), (21, 0, 2400, 206158430209), (24, 240518168577, 75, 40), (21, 0, 240518168577, 0)], [(137438953473, 2147483648, 2147483656), (171798691841, 2147483648, 2147483656), (206158430209, 0, 2147483948), (240518168577, 2147483648, 2147483708)], [])
noncomputable def zxwy_gr0 : zyXp := (0, [], [16], [(24, 171798691841, 75, 16), (20, 0, 137438953473, 171798691841), (24, 206158430209, 75, 137438954689), (21, 0, 206158430209, 0), (24, 240518168577, 75, 137438954689), (24, 274877906945, 77, 137438953473), (23, 0, 240518168577, 274877906945)], [(137438953473, 2147483648, 2147483655), (171798691841, 2147483649, 2147483656), (206158430209, 2147483648, 2147483727), (240518168577, 2147483647, 2147483727), (274877906945, 2147483648, 2147483727)], [])
noncomputable def zxwy_gr1 : zyXp := (0, [], [24], [(24, 171798691841, 75, 16), (21, 0, 137438953473, 171798691841), (24, 206158430209, 74, 112), (20, 0, 2400, 206158430209)], [(137438953473, 2147483648, 2147483656), (171798691841, 2147483648, 2147483656), (206158430209, 2147483949, 4294967295)], [])
noncomputable def zxwy_gr2 : zyXp := (0, [], [0], [(24, 171798691841, 75, 16), (21, 0, 137438953473, 171798691841), (24, 206158430209, 74, 112), (21, 0, 2400, 206158430209), (24, 240518168577, 75, 40), (20, 0, 240518168577, 0)], [(137438953473, 2147483648, 2147483656), (171798691841, 2147483648, 2147483656), (206158430209, 0, 2147483948), (240518168577, 2147483647, 2147483647)], [])
noncomputable def zpwy_g : zyPh := (80, [595, 13, 13, 13, 137438953473], [(0, 4294967295), (0, 4294967295), (0, 4294967295), (0, 4294967295), (2147483648, 2147483656)], [], [])
noncomputable def zxwy_hr0 : zyXp := (0, [], [0], [(23, 0, 171798691841, 0)], [(171798691841, 2147483649, 2147483649)], [])
noncomputable def zxwy_hr1 : zyXp := (0, [], [32], [(22, 0, 171798691841, 0)], [(171798691841, 2147483648, 2147483648)], [])
noncomputable def zpwy_h : zyPh := (168, [595, 13, 13, 13, 13], [(0, 4294967295), (0, 4294967295), (0, 4294967295), (0, 4294967295), (0, 4294967295), (2147483648, 2147483649)], [], [171798691841])
noncomputable def zpwy (i : Nat) : zyPh := zif (Nat.beq i 0) (zpwy_a) (zif (Nat.beq i 1) (zpwy_b) (zif (Nat.beq i 2) (zpwy_c) (zif (Nat.beq i 3) (zpwy_d) (zif (Nat.beq i 4) (zpwy_e) (zif (Nat.beq i 5) (zpwy_f) (zif (Nat.beq i 6) (zpwy_g) (zpwy_h)))))))
noncomputable def zXwy (i : Nat) : List zyXp := zif (Nat.beq i 0) ([zxwy_ax0]) (zif (Nat.beq i 1) ([zxwy_bx0]) (zif (Nat.beq i 2) ([zxwy_cx0, zxwy_cx1]) (zif (Nat.beq i 3) ([zxwy_dx0, zxwy_dx1]) (zif (Nat.beq i 4) ([zxwy_ex0]) (zif (Nat.beq i 5) ([zxwy_fx0]) (zif (Nat.beq i 6) ([zxwy_gx0, zxwy_gx1, zxwy_gx2]) ([])))))))
noncomputable def zRwy (i : Nat) : List zyXp := zif (Nat.beq i 0) ([]) (zif (Nat.beq i 1) ([]) (zif (Nat.beq i 2) ([zxwy_cr0, zxwy_cr1]) (zif (Nat.beq i 3) ([]) (zif (Nat.beq i 4) ([]) (zif (Nat.beq i 5) ([]) (zif (Nat.beq i 6) ([zxwy_gr0, zxwy_gr1, zxwy_gr2]) ([zxwy_hr0, zxwy_hr1])))))))
noncomputable def zFwy (i : Nat) : zyR := zif (Nat.beq i 0) ([(74, 8, 8)]) (zif (Nat.beq i 1) ([]) (zif (Nat.beq i 2) ([(74, 8, 8)]) (zif (Nat.beq i 3) ([(74, 25, 26)]) (zif (Nat.beq i 4) ([]) (zif (Nat.beq i 5) ([]) (zif (Nat.beq i 6) ([(74, 27, 27)]) ([])))))))
noncomputable def zSwy (i : Nat) : Nat := zif (Nat.beq i 0) (0) (zif (Nat.beq i 1) (0) (zif (Nat.beq i 2) (0) (zif (Nat.beq i 3) (0) (zif (Nat.beq i 4) (0) (zif (Nat.beq i 5) (0) (zif (Nat.beq i 6) (0) (0)))))))
end
section
/-! WHY A SETTING IS REFUSED -/
def zyFwhy (E E2 : zyEm) : Prop := ∀ a k, ¬ (a = 74 ∧ (k = 8 ∨ (14 ≤ k ∧ k ≤ 17) ∨ (19 ≤ k ∧ k ≤ 21) ∨ (25 ≤ k ∧ k ≤ 27))) → ¬ (77 ≤ a ∧ a ≤ 82) → E2 a k = E a k
theorem zyFwhy_75 {E E2 : zyEm} (h : zyFwhy E E2) (k : Nat) : E2 75 k = E 75 k := h 75 k (fun z => absurd z.1 (by decide)) (by decide)
theorem zLv_75 {E E2 : zyEm} {m : Nat} (h : ∀ k, E2 75 k = E 75 k) (hv : zLv E m) : zLv E2 m := zLv_fr (h 4) (fun k _ _ => h _) hv
theorem zWv_75 {E E2 : zyEm} (h : ∀ k, E2 75 k = E 75 k) (hv : zWv E) : zWv E2 := zWv_fr (h 5) (fun k _ => h _) hv
theorem zJ1_75 {E E2 : zyEm} (h : ∀ k, E2 75 k = E 75 k) (hv : zJ1 E) : zJ1 E2 := fun m hm hms => by
  rw [h 2] at hms
  obtain ⟨j1, j2, j3⟩ := hv m hm hms
  exact ⟨zLv_75 h j1, zWv_75 h j2, zT0_fr (h 3) (h 4) j3⟩
def zyΦwy (as : List Int32) (E : zyEm) : Prop := zJ1 E ∧ ∃ x y : Int32, as = [x, y] ∧ 2147483649 ≤ zB x ∧ zB x ≤ 2147483712 ∧ 2147483648 ≤ zB y
def zyΨwy (_ : List Int32) (E E2 : zyEm) (vo : Option Value) : Prop := zyFwhy E E2 ∧ ∃ z : Int32, vo = some (.int z) ∧ 2147483648 ≤ zB z ∧ zB z ≤ 2147483652
def zyIwy (K i m q t : Nat) (E0 : zyEm) (ρ : Nat → Int32) (E : zyEm) : Prop := zyFwhy E0 E ∧ (1 ≤ i → i ≤ 6 → E 74 14 = some (.int (Int32.ofNat q)) ∧ zSv E m (min q 300) ∧ q ≤ 1792) ∧ (i = 1 → q = 0) ∧ (2 ≤ i → i ≤ 5 → ρ 4 = Int32.ofNat t ∧ t ≤ 64) ∧ (i = 2 ∨ i = 3 → q ≤ 28 * t) ∧ (4 ≤ i → i ≤ 5 → q ≤ 28 * t + 28) ∧ (3 ≤ i → i ≤ 5 → t ≤ 63) ∧ (i = 1 ∨ i = 5 → ∀ b, b < m → zsl E b < K) ∧ (i = 2 → ρ 3 = Int32.ofNat 0 → ∀ b, b < m → zsl E b < K) ∧ (i = 3 → (ρ 5 = 1 → ∀ b, b < m → zth E b < K)) ∧ (i = 4 → ∀ b, b < m → zth E b < K)
theorem zywy_run : zyAllP (fun r c => zyrS (zymr r c) zxi297 (297, 0, 0, 1, 0) 9 zpwy (fun _ _ => []) zFwy zSwy zXwy zRwy 8) = true := by decide +kernel
theorem zywhyOf {l : Launch} {r c : Nat} (h1 : 1 ≤ r) (h2 : r ≤ 4) (h3 : 1 ≤ c) (h4 : c ≤ 5) {en : zEn} {me : zMe} (hen : zG zxMeta 297 = some en) (hme : zG zMeth 297 = some me) : zyHc l (zymr r c) en me 9 2 zyΦwy zyΨwy := by
  have een : zG zxMeta 297 = some (zxi297, 3, 5, 11, 297, 0, 0, 1, 0) := rfl
  obtain ⟨me1, hme1, hOK⟩ := zall hen
  rw [hme] at hme1
  cases hme1
  rw [een] at hen
  cases hen
  have hr := zyAllP_iff zywy_run h1 h2 h3 h4
  obtain ⟨mebg, hmebg, -⟩ := zall (show zG zxMeta 225 = some (zxi225, 1, 2, 11, 225, 0, 0, 0, 0) from rfl)
  have hbg := zybegins (l := l) h1 h2 h3 h4 (show zG zxMeta 225 = some (zxi225, 1, 2, 11, 225, 0, 0, 0, 0) from rfl) hmebg
  obtain ⟨metr, hmetr, -⟩ := zall (show zG zxMeta 219 = some (zxi219, 2, 3, 11, 219, 0, 0, 2, 0) from rfl)
  have htr := zytries (l := l) h1 h2 h3 h4 (show zG zxMeta 219 = some (zxi219, 2, 3, 11, 219, 0, 0, 2, 0) from rfl) hmetr
  obtain ⟨mess, hmess, -⟩ := zall (show zG zxMeta 223 = some (zxi223, 1, 4, 11, 223, 0, 0, 0, 0) from rfl)
  have hss := zyspellsStep (l := l) h1 h2 h3 h4 (show zG zxMeta 223 = some (zxi223, 1, 4, 11, 223, 0, 0, 0, 0) from rfl) hmess
  obtain ⟨megs, hmegs, -⟩ := zall (show zG zxMeta 224 = some (zxi224, 1, 2, 11, 224, 0, 0, 0, 0) from rfl)
  have hgs := zygoes (l := l) h1 h2 h3 h4 (show zG zxMeta 224 = some (zxi224, 1, 2, 11, 224, 0, 0, 0, 0) from rfl) hmegs
  obtain ⟨mesw, hmesw, -⟩ := zall (show zG zxMeta 296 = some (zxi296, 1, 2, 11, 296, 0, 0, 2, 0) from rfl)
  have hsw := zyisSpelledWished (l := l) h1 h2 h3 h4 (show zG zxMeta 296 = some (zxi296, 1, 2, 11, 296, 0, 0, 2, 0) from rfl) hmesw
  refine zycutS (mi := zymr r c) hOK rfl rfl ⟨_, rfl, rfl⟩ (ι := Fin 8) (fun i => zpwy i.val) (fun _ _ => []) (fun i => zFwy i.val) (fun i => zSwy i.val) (fun i => zXwy i.val) (fun i => zRwy i.val) (fun i y2 ct en2 me2 h => by cases h) 200000 (fun i => zyAll_iff hr i.val i.isLt) ⟨0, by decide⟩ ⟨rfl, rfl, rfl, rfl⟩ ⟨by decide, by decide⟩
    (fun i as E0 ρ E => ∃ m q t : Nat, m ≤ 8 ∧ E0 75 2 = some (.int (Int32.ofNat m)) ∧ zJ1 E0 ∧ zyIwy (zgNS r c) i.val m q t E0 ρ E) (fun i as E0 ρ E => if i.val = 0 then 5000 else if i.val = 1 then 4000 else if i.val = 2 then (if ρ 3 = Int32.ofNat 0 then 1000 + 10 * (65 - zyN1 (ρ 4)) + 9 else 900) else if i.val ≤ 5 then 1000 + 10 * (65 - zyN1 (ρ 4)) + (11 - i.val) else if i.val = 6 then 100 + (9 - zyN1 (ρ 4)) else 0) ?_ ?_ ?_
  · intro as E hlen hT hΦ
    obtain ⟨hJ, x, y, rfl, b1, b2, b3⟩ := hΦ
    obtain ⟨m, hm, e2⟩ := zc_m hT
    have hy := (zyfull y).2
    exact ⟨zEnv_c (zyfull _) (zEnv_c ⟨b1, b2⟩ (zEnv_c ⟨b3, hy⟩ (zEnv_c (zyfull _) (zEnv_c (zyfull _) zEnv_nil)))), m, 0, 0, hm, e2, hJ, fun _ _ _ _ => rfl, fun h => absurd (show 1 ≤ 0 from h) (by decide), fun h => absurd (show 0 = 1 from h) (by decide), fun h => absurd (show 2 ≤ 0 from h) (by decide), fun h => absurd (show 0 = 2 ∨ 0 = 3 from h) (by decide), fun h => absurd (show 4 ≤ 0 from h) (by decide), fun h => absurd (show 3 ≤ 0 from h) (by decide), fun h => absurd (show 0 = 1 ∨ 0 = 5 from h) (by decide), fun h => absurd (show 0 = 2 from h) (by decide), fun h => absurd (show 0 = 3 from h) (by decide), fun h => absurd (show 0 = 4 from h) (by decide)⟩
  · intro as B s Wg hRu hT0 hΦ hlen i ρ H hT hInv hIH x hx ρ2 N2 H2 locs lsB stA hAt hXs hag hfr hT2
    rcases i with ⟨i, hi⟩
    have hi2 : i = 0 ∨ i = 1 ∨ i = 2 ∨ i = 3 ∨ i = 4 ∨ i = 5 ∨ i = 6 ∨ i = 7 := by omega
    rcases hi2 with rfl | rfl | rfl | rfl | rfl | rfl | rfl | rfl
    · have hx : x ∈ [zxwy_ax0] := hx
      have hg : ∀ k, k < 5 → ρ2 k = ρ k := hag
      have hI := hInv
      have hI : ∃ m q t : Nat, m ≤ 8 ∧ (zyEl (zymr r c) B s.heap) 75 2 = some (.int (Int32.ofNat m)) ∧ zJ1 (zyEl (zymr r c) B s.heap) ∧ zyIwy (zgNS r c) 0 m q t (zyEl (zymr r c) B s.heap) ρ (zyEl (zymr r c) B H) := hI
      obtain ⟨hF, hB, hM⟩ := hXs
      have hfr : ∀ a k, zyin [(74, 8, 8)] a k = false → (zyEl (zymr r c) B H2) a k = (zyEl (zymr r c) B H) a k := hfr
      have ex := List.mem_singleton.mp hx
      subst ex
      obtain ⟨m, q, t, hm, s1, hJ, i1, i2, i3, i4, i5, i6, i7, i8, i9, i10, i11⟩ := hI
      have T1 : zyTy (zymr r c) (zyEl (zymr r c) B H) := hT
      have n80 : zgNS r c ≤ 80 := zgNS_le h2 h4
      have hms : zyEl (zymr r c) B H 75 2 = some (.int (Int32.ofNat m)) := (zyFwhy_75 i1 2).trans s1
      have hk : ∀ a k, ¬ (a = 74 ∧ k = 8) → zyEl (zymr r c) B H2 a k = zyEl (zymr r c) B H a k := by
        intro a k n
        apply hfr
        cases hq : zyin [(74, 8, 8)] a k with
        | false => rfl
        | true =>
          obtain ⟨p0, g1, g2, g3, g4⟩ := zyin_iff.mp hq
          rw [List.mem_singleton.mp g1] at g2 g3 g4
          dsimp only at g2 g3 g4
          exact absurd ⟨g2.symm, by omega⟩ n
      refine zyCa0 hRu hIH hAt hB hbg (ix := 352) (ax := 3600) rfl rfl rfl hmebg ⟨rfl, rfl, rfl, rfl⟩ (by decide) [] rfl (by decide) rfl ⟨1, by decide⟩ [595, 34359738369, 0, 0, 0] rfl rfl rfl rfl trivial ?_
      intro E3 vo hT3 hΨ
      obtain ⟨ev, p1, p2, p3⟩ := (show zyΨbg _ [] _ E3 vo from hΨ)
      refine ⟨ev, ⟨m, 0, 0, hm, s1, hJ, fun a k n1 n2 => (p1 a k (fun z => n2 (by omega)) (fun z => n1 ⟨z.1, by omega⟩)).trans ((hk a k (fun z => n1 ⟨z.1, by omega⟩)).trans (i1 a k n1 n2)), fun _ _ => ⟨p2, fun j hj => absurd hj (by omega), by omega⟩, fun _ => rfl, fun h => absurd (show 2 ≤ 1 from h) (by decide), fun h => absurd (show 1 = 2 ∨ 1 = 3 from h) (by decide), fun h => absurd (show 4 ≤ 1 from h) (by decide), fun h => absurd (show 3 ≤ 1 from h) (by decide), fun _ => p3 m hm ((hk 75 2 (fun z => absurd z.1 (by decide))).trans hms), fun h => absurd (show 1 = 2 from h) (by decide), fun h => absurd (show 1 = 3 from h) (by decide), fun h => absurd (show 1 = 4 from h) (by decide)⟩, (show 4000 < 5000 by decide)⟩
    · have hx : x ∈ [zxwy_bx0] := hx
      have hg : ∀ k, k < 5 → ρ2 k = ρ k := hag
      have hI := hInv
      have hI : ∃ m q t : Nat, m ≤ 8 ∧ (zyEl (zymr r c) B s.heap) 75 2 = some (.int (Int32.ofNat m)) ∧ zJ1 (zyEl (zymr r c) B s.heap) ∧ zyIwy (zgNS r c) 1 m q t (zyEl (zymr r c) B s.heap) ρ (zyEl (zymr r c) B H) := hI
      obtain ⟨hF, hB, hM⟩ := hXs
      have hEE : (zyEl (zymr r c) B H2) = (zyEl (zymr r c) B H) := zyfr0 hfr
      have ex := List.mem_singleton.mp hx
      subst ex
      obtain ⟨m, q, t, hm, s1, hJ, i1, i2, i3, i4, i5, i6, i7, i8, i9, i10, i11⟩ := hI
      have T1 : zyTy (zymr r c) (zyEl (zymr r c) B H) := hT
      have n80 : zgNS r c ≤ 80 := zgNS_le h2 h4
      have hms : zyEl (zymr r c) B H 75 2 = some (.int (Int32.ofNat m)) := (zyFwhy_75 i1 2).trans s1
      obtain ⟨e14, sv, q1⟩ := i2 (by decide) (by decide)
      have q0 := i3 rfl
      have sl := i8 (Or.inl rfl)
      refine zyGoB hIH hAt hB ⟨2, by decide⟩ [595, 34359738369, 0, 0, 0] rfl rfl rfl rfl ⟨m, q, 0, hm, s1, hJ, by rw [hEE]; exact i1, fun _ _ => by rw [hEE]; exact ⟨e14, sv, q1⟩, fun h => absurd (show 2 = 1 from h) (by decide), fun _ _ => ⟨rfl, by omega⟩, fun _ => by omega, fun h => absurd (show 4 ≤ 2 from h) (by decide), fun h => absurd (show 3 ≤ 2 from h) (by decide), fun h => absurd (show 2 = 1 ∨ 2 = 5 from h) (by decide), fun _ => fun _ => by rw [hEE]; exact sl, fun h => absurd (show 2 = 3 from h) (by decide), fun h => absurd (show 2 = 4 from h) (by decide)⟩ ?_
      show (if Int32.ofNat 0 = Int32.ofNat 0 then 1000 + 10 * (65 - zyN1 (Int32.ofNat 0)) + 9 else 900) < 4000
      rw [if_pos rfl]
      omega
    · have hx : x ∈ [zxwy_cx0, zxwy_cx1] := hx
      have hg : ∀ k, k < 5 → ρ2 k = ρ k := hag
      have hI := hInv
      have hI : ∃ m q t : Nat, m ≤ 8 ∧ (zyEl (zymr r c) B s.heap) 75 2 = some (.int (Int32.ofNat m)) ∧ zJ1 (zyEl (zymr r c) B s.heap) ∧ zyIwy (zgNS r c) 2 m q t (zyEl (zymr r c) B s.heap) ρ (zyEl (zymr r c) B H) := hI
      obtain ⟨hF, hB, hM⟩ := hXs
      have hfr : ∀ a k, zyin [(74, 8, 8)] a k = false → (zyEl (zymr r c) B H2) a k = (zyEl (zymr r c) B H) a k := hfr
      rcases List.mem_cons.mp hx with ex | hx
      · subst ex
        obtain ⟨m, q, t, hm, s1, hJ, i1, i2, i3, i4, i5, i6, i7, i8, i9, i10, i11⟩ := hI
        have T1 : zyTy (zymr r c) (zyEl (zymr r c) B H) := hT
        have n80 : zgNS r c ≤ 80 := zgNS_le h2 h4
        have hms : zyEl (zymr r c) B H 75 2 = some (.int (Int32.ofNat m)) := (zyFwhy_75 i1 2).trans s1
        obtain ⟨e14, sv, q1⟩ := i2 (by decide) (by decide)
        obtain ⟨b4, t64⟩ := i4 (by decide) (by decide)
        have a4 : ρ2 4 = Int32.ofNat t := (hg 4 (by decide)).trans b4
        have hk : ∀ a k, ¬ (a = 74 ∧ k = 8) → zyEl (zymr r c) B H2 a k = zyEl (zymr r c) B H a k := by
          intro a k n
          apply hfr
          cases hq : zyin [(74, 8, 8)] a k with
          | false => rfl
          | true =>
            obtain ⟨p0, g1, g2, g3, g4⟩ := zyin_iff.mp hq
            rw [List.mem_singleton.mp g1] at g2 g3 g4
            dsimp only at g2 g3 g4
            exact absurd ⟨g2.symm, by omega⟩ n
        have f1 := zyX22 hF 1 rfl
        have f1 : ρ2 3 = Int32.ofNat 0 := f1
        have q28 := i5 (Or.inl rfl)
        have sl := i9 rfl ((hg 3 (by decide)).symm.trans f1)
        have tb : 2147483648 ≤ zB (ρ2 4) ∧ zB (ρ2 4) ≤ 2147483711 := zyXb hB 2 rfl
        rw [a4, zyBn (by omega)] at tb
        refine zyCa1 hRu hIH hAt hB htr (ix := 329) (ax := 3504) rfl rfl rfl hmetr ⟨rfl, rfl, rfl, rfl⟩ (by decide) [137438953473] rfl (by decide) rfl ⟨3, by decide⟩ [595, 34359738369, 0, 103079215105, 137438953473] [(0, 4294967295), (2147483649, 2147483712), (0, 4294967295), (2147483648, 2147483648), (2147483648, 2147483711)] 2147483648 2147483649 rfl (by decide) rfl rfl rfl rfl rfl ?_ ?_
        · show zyΦtr _ [ρ2 4] _
          exact ⟨m, hm, (hk 75 2 (fun z => absurd z.1 (by decide))).trans hms, fun b hb => by rw [zsl_eq (hk 77 b (fun z => absurd z.1 (by decide)))]; exact sl b hb⟩
        · intro E3 vo hT3 hΨ
          obtain ⟨p1, z, ez, hz, hzz⟩ := (show zyΨtr _ [ρ2 4] _ E3 vo from hΨ)
          have p5 : ∀ a k, ¬ a = 78 → ¬ (a = 74 ∧ 15 ≤ k ∧ k ≤ 17) → ¬ (a = 74 ∧ k = 8) → E3 a k = zyEl (zymr r c) B H a k := fun a k n1 n2 n3 => (p1 a k n1 n2).trans (hk a k n3)
          refine ⟨z, ez, ?_, ?_, ⟨m, q, t, hm, s1, hJ, fun a k n1 n2 => (p5 a k (fun z => n2 (by omega)) (fun z => n1 ⟨z.1, by omega⟩) (fun z => n1 ⟨z.1, by omega⟩)).trans (i1 a k n1 n2), fun _ _ => ⟨(p5 74 14 (by decide) (fun z => absurd z.2 (by decide)) (fun z => absurd z.2 (by decide))).trans e14, fun j hj => by rw [zyI_eq (p5 80 j (by decide) (fun z => absurd z.1 (by decide)) (fun z => absurd z.1 (by decide)))]; exact sv j hj, q1⟩, fun h => absurd (show 3 = 1 from h) (by decide), fun _ _ => ⟨(zyρi_n (by decide)).trans a4, t64⟩, fun _ => q28, fun h => absurd (show 4 ≤ 3 from h) (by decide), fun _ _ => by omega, fun h => absurd (show 3 = 1 ∨ 3 = 5 from h) (by decide), fun h => absurd (show 3 = 2 from h) (by decide), fun _ => fun qq => hzz (zyρi_e.symm.trans qq) m hm ((hk 75 2 (fun z => absurd z.1 (by decide))).trans hms), fun h => absurd (show 3 = 4 from h) (by decide)⟩, ?_⟩
          · rcases hz with rfl | rfl <;> decide
          · rcases hz with rfl | rfl <;> decide
          · show 1000 + 10 * (65 - zyN1 (ρ2 4)) + (11 - 3) < (if ρ 3 = Int32.ofNat 0 then 1000 + 10 * (65 - zyN1 (ρ 4)) + 9 else 900)
            rw [if_pos ((hg 3 (by decide)).symm.trans f1), hg 4 (by decide)]
            omega
      · skip
        have ex := List.mem_singleton.mp hx
        subst ex
        obtain ⟨m, q, t, hm, s1, hJ, i1, i2, i3, i4, i5, i6, i7, i8, i9, i10, i11⟩ := hI
        have T1 : zyTy (zymr r c) (zyEl (zymr r c) B H) := hT
        have n80 : zgNS r c ≤ 80 := zgNS_le h2 h4
        have hms : zyEl (zymr r c) B H 75 2 = some (.int (Int32.ofNat m)) := (zyFwhy_75 i1 2).trans s1
        obtain ⟨e14, sv, q1⟩ := i2 (by decide) (by decide)
        have hk : ∀ a k, ¬ (a = 74 ∧ k = 8) → zyEl (zymr r c) B H2 a k = zyEl (zymr r c) B H a k := by
          intro a k n
          apply hfr
          cases hq : zyin [(74, 8, 8)] a k with
          | false => rfl
          | true =>
            obtain ⟨p0, g1, g2, g3, g4⟩ := zyin_iff.mp hq
            rw [List.mem_singleton.mp g1] at g2 g3 g4
            dsimp only at g2 g3 g4
            exact absurd ⟨g2.symm, by omega⟩ n
        refine zyGoB hIH hAt hB ⟨6, by decide⟩ [595, 0, 0, 0, 0] rfl rfl rfl rfl ⟨m, q, t, hm, s1, hJ, fun a k n1 n2 => (hk a k (fun z => n1 ⟨z.1, by omega⟩)).trans (i1 a k n1 n2), fun _ _ => ⟨(hk 74 14 (fun z => absurd z.2 (by decide))).trans e14, fun j hj => by rw [zyI_eq (hk 80 j (fun z => absurd z.1 (by decide)))]; exact sv j hj, q1⟩, fun h => absurd (show 6 = 1 from h) (by decide), fun _ h => absurd (show 6 ≤ 5 from h) (by decide), fun h => absurd (show 6 = 2 ∨ 6 = 3 from h) (by decide), fun _ h => absurd (show 6 ≤ 5 from h) (by decide), fun _ h => absurd (show 6 ≤ 5 from h) (by decide), fun h => absurd (show 6 = 1 ∨ 6 = 5 from h) (by decide), fun h => absurd (show 6 = 2 from h) (by decide), fun h => absurd (show 6 = 3 from h) (by decide), fun h => absurd (show 6 = 4 from h) (by decide)⟩ ?_
        show 100 + (9 - zyN1 (Int32.ofNat 0)) < (if ρ 3 = Int32.ofNat 0 then 1000 + 10 * (65 - zyN1 (ρ 4)) + 9 else 900)
        split <;> omega
    · have hx : x ∈ [zxwy_dx0, zxwy_dx1] := hx
      have hg : ∀ k, k < 6 → ρ2 k = ρ k := hag
      have hI := hInv
      have hI : ∃ m q t : Nat, m ≤ 8 ∧ (zyEl (zymr r c) B s.heap) 75 2 = some (.int (Int32.ofNat m)) ∧ zJ1 (zyEl (zymr r c) B s.heap) ∧ zyIwy (zgNS r c) 3 m q t (zyEl (zymr r c) B s.heap) ρ (zyEl (zymr r c) B H) := hI
      obtain ⟨hF, hB, hM⟩ := hXs
      have hfr : ∀ a k, zyin [(74, 25, 26)] a k = false → (zyEl (zymr r c) B H2) a k = (zyEl (zymr r c) B H) a k := hfr
      rcases List.mem_cons.mp hx with ex | hx
      · subst ex
        obtain ⟨m, q, t, hm, s1, hJ, i1, i2, i3, i4, i5, i6, i7, i8, i9, i10, i11⟩ := hI
        have T1 : zyTy (zymr r c) (zyEl (zymr r c) B H) := hT
        have n80 : zgNS r c ≤ 80 := zgNS_le h2 h4
        have hms : zyEl (zymr r c) B H 75 2 = some (.int (Int32.ofNat m)) := (zyFwhy_75 i1 2).trans s1
        obtain ⟨e14, sv, q1⟩ := i2 (by decide) (by decide)
        obtain ⟨b4, t64⟩ := i4 (by decide) (by decide)
        have a4 : ρ2 4 = Int32.ofNat t := (hg 4 (by decide)).trans b4
        have hk : ∀ a k, ¬ (a = 74 ∧ (25 ≤ k ∧ k ≤ 26)) → zyEl (zymr r c) B H2 a k = zyEl (zymr r c) B H a k := by
          intro a k n
          apply hfr
          cases hq : zyin [(74, 25, 26)] a k with
          | false => rfl
          | true =>
            obtain ⟨p0, g1, g2, g3, g4⟩ := zyin_iff.mp hq
            rw [List.mem_singleton.mp g1] at g2 g3 g4
            dsimp only at g2 g3 g4
            exact absurd ⟨g2.symm, by omega⟩ n
        have q28 := i5 (Or.inr rfl)
        have t63 := i7 (by decide) (by decide)
        have f0 := zyX23 hF 0 rfl
        have f0 : ¬ ρ2 5 = Int32.ofNat 0 := f0
        have z5 : 2147483649 ≤ zB (ρ2 5) ∧ zB (ρ2 5) ≤ 2147483649 := zyXb hB 3 rfl
        have z5 : ρ2 5 = 1 := by
          rcases zybool (x := ρ2 5) (by omega) (by omega) with e | e
          · exact absurd e f0
          · exact e
        have tv := i10 rfl ((hg 5 (by decide)).symm.trans z5)
        have h74 := (hk 74 14 (fun z => absurd z.2 (by decide))).trans e14
        have h752 := (hk 75 2 (fun z => absurd z.1 (by decide))).trans hms
        refine zyCa0 hRu hIH hAt hB hss (ix := 332) (ax := 3568) rfl rfl rfl hmess ⟨rfl, rfl, rfl, rfl⟩ (by decide) [] rfl (by decide) rfl ⟨4, by decide⟩ [595, 34359738369, 0, 103079215105, 137438953473] rfl rfl rfl rfl ?_ ?_
        · show zyΦss [] _
          exact ⟨m, q, hm, by omega, h752, h74, fun j hj => by rw [zyI_eq (hk 80 j (fun z => absurd z.1 (by decide)))]; exact sv j hj⟩
        · intro E3 vo hT3 hΨ
          obtain ⟨ev, p1, p2⟩ := (show zyΨss [] _ E3 vo from hΨ)
          obtain ⟨q', l1, l2, x14, sv2⟩ := p2 m q hm (by omega) h752 h74
          refine ⟨ev, ⟨m, q', t, hm, s1, hJ, fun a k n1 n2 => (p1 a k (fun z => n2 (by omega)) (fun z => n2 (by omega)) (fun z => n1 ⟨z.1, by omega⟩)).trans ((hk a k (fun z => n1 ⟨z.1, by omega⟩)).trans (i1 a k n1 n2)), fun _ _ => ⟨x14, sv2, by omega⟩, fun h => absurd (show 4 = 1 from h) (by decide), fun _ _ => ⟨a4, t64⟩, fun h => absurd (show 4 = 2 ∨ 4 = 3 from h) (by decide), fun _ _ => by omega, fun _ _ => t63, fun h => absurd (show 4 = 1 ∨ 4 = 5 from h) (by decide), fun h => absurd (show 4 = 2 from h) (by decide), fun h => absurd (show 4 = 3 from h) (by decide), fun _ => fun b hb => by rw [zth_eq (p1 78 b (by decide) (by decide) (fun z => absurd z.1 (by decide))), zth_eq (hk 78 b (fun z => absurd z.1 (by decide)))]; exact tv b hb⟩, ?_⟩
          show 1000 + 10 * (65 - zyN1 (ρ2 4)) + (11 - 4) < 1000 + 10 * (65 - zyN1 (ρ 4)) + (11 - 3)
          rw [hg 4 (by decide)]
          omega
      · skip
        have ex := List.mem_singleton.mp hx
        subst ex
        obtain ⟨m, q, t, hm, s1, hJ, i1, i2, i3, i4, i5, i6, i7, i8, i9, i10, i11⟩ := hI
        have T1 : zyTy (zymr r c) (zyEl (zymr r c) B H) := hT
        have n80 : zgNS r c ≤ 80 := zgNS_le h2 h4
        have hms : zyEl (zymr r c) B H 75 2 = some (.int (Int32.ofNat m)) := (zyFwhy_75 i1 2).trans s1
        obtain ⟨e14, sv, q1⟩ := i2 (by decide) (by decide)
        obtain ⟨b4, t64⟩ := i4 (by decide) (by decide)
        have a4 : ρ2 4 = Int32.ofNat t := (hg 4 (by decide)).trans b4
        have a4' : ρ2 4 + Int32.ofNat 1 = Int32.ofNat (t + 1) := by rw [a4, zyOa]
        have hk : ∀ a k, ¬ (a = 74 ∧ (25 ≤ k ∧ k ≤ 26)) → zyEl (zymr r c) B H2 a k = zyEl (zymr r c) B H a k := by
          intro a k n
          apply hfr
          cases hq : zyin [(74, 25, 26)] a k with
          | false => rfl
          | true =>
            obtain ⟨p0, g1, g2, g3, g4⟩ := zyin_iff.mp hq
            rw [List.mem_singleton.mp g1] at g2 g3 g4
            dsimp only at g2 g3 g4
            exact absurd ⟨g2.symm, by omega⟩ n
        have q28 := i5 (Or.inr rfl)
        have t63 := i7 (by decide) (by decide)
        refine zyGoB hIH hAt hB ⟨2, by decide⟩ [595, 34359738369, 0, 8, 137438953481] rfl rfl rfl rfl ⟨m, q, (t + 1), hm, s1, hJ, fun a k n1 n2 => (hk a k (fun z => n1 ⟨z.1, by omega⟩)).trans (i1 a k n1 n2), fun _ _ => ⟨(hk 74 14 (fun z => absurd z.2 (by decide))).trans e14, fun j hj => by rw [zyI_eq (hk 80 j (fun z => absurd z.1 (by decide)))]; exact sv j hj, q1⟩, fun h => absurd (show 2 = 1 from h) (by decide), fun _ _ => ⟨a4', by omega⟩, fun _ => by omega, fun h => absurd (show 4 ≤ 2 from h) (by decide), fun h => absurd (show 3 ≤ 2 from h) (by decide), fun h => absurd (show 2 = 1 ∨ 2 = 5 from h) (by decide), fun _ => fun h => absurd (show Int32.ofNat 1 = Int32.ofNat 0 from h) (by decide), fun h => absurd (show 2 = 3 from h) (by decide), fun h => absurd (show 2 = 4 from h) (by decide)⟩ ?_
        show (if Int32.ofNat 1 = Int32.ofNat 0 then 1000 + 10 * (65 - zyN1 (ρ2 4 + Int32.ofNat 1)) + 9 else 900) < 1000 + 10 * (65 - zyN1 (ρ 4)) + (11 - 3)
        rw [if_neg (by decide)]
        omega
    · have hx : x ∈ [zxwy_ex0] := hx
      have hg : ∀ k, k < 5 → ρ2 k = ρ k := hag
      have hI := hInv
      have hI : ∃ m q t : Nat, m ≤ 8 ∧ (zyEl (zymr r c) B s.heap) 75 2 = some (.int (Int32.ofNat m)) ∧ zJ1 (zyEl (zymr r c) B s.heap) ∧ zyIwy (zgNS r c) 4 m q t (zyEl (zymr r c) B s.heap) ρ (zyEl (zymr r c) B H) := hI
      obtain ⟨hF, hB, hM⟩ := hXs
      have hEE : (zyEl (zymr r c) B H2) = (zyEl (zymr r c) B H) := zyfr0 hfr
      have ex := List.mem_singleton.mp hx
      subst ex
      obtain ⟨m, q, t, hm, s1, hJ, i1, i2, i3, i4, i5, i6, i7, i8, i9, i10, i11⟩ := hI
      have T1 : zyTy (zymr r c) (zyEl (zymr r c) B H) := hT
      have n80 : zgNS r c ≤ 80 := zgNS_le h2 h4
      have hms : zyEl (zymr r c) B H 75 2 = some (.int (Int32.ofNat m)) := (zyFwhy_75 i1 2).trans s1
      obtain ⟨e14, sv, q1⟩ := i2 (by decide) (by decide)
      obtain ⟨b4, t64⟩ := i4 (by decide) (by decide)
      have a4 : ρ2 4 = Int32.ofNat t := (hg 4 (by decide)).trans b4
      have q28 := i6 (by decide) (by decide)
      have t63 := i7 (by decide) (by decide)
      have tv := i11 rfl
      refine zyCa0 hRu hIH hAt hB hgs (ix := 355) (ax := 3584) rfl rfl rfl hmegs ⟨rfl, rfl, rfl, rfl⟩ (by decide) [] rfl (by decide) rfl ⟨5, by decide⟩ [595, 34359738369, 0, 103079215105, 137438953473] rfl rfl rfl rfl trivial ?_
      intro E3 vo hT3 hΨ
      have hΨ : zyΨgs [] _ E3 vo := hΨ
      rw [hEE] at hΨ
      obtain ⟨ev, p1, p2⟩ := hΨ
      refine ⟨ev, ⟨m, q, t, hm, s1, hJ, fun a k n1 n2 => (p1 a k (fun z => n2 (by omega))).trans (i1 a k n1 n2), fun _ _ => ⟨(p1 74 14 (by decide)).trans e14, fun j hj => by rw [zyI_eq (p1 80 j (by decide))]; exact sv j hj, q1⟩, fun h => absurd (show 5 = 1 from h) (by decide), fun _ _ => ⟨a4, t64⟩, fun h => absurd (show 5 = 2 ∨ 5 = 3 from h) (by decide), fun _ _ => q28, fun _ _ => t63, fun _ => fun b hb => by rw [p2 m hm hms b hb]; exact tv b hb, fun h => absurd (show 5 = 2 from h) (by decide), fun h => absurd (show 5 = 3 from h) (by decide), fun h => absurd (show 5 = 4 from h) (by decide)⟩, ?_⟩
      show 1000 + 10 * (65 - zyN1 (ρ2 4)) + (11 - 5) < 1000 + 10 * (65 - zyN1 (ρ 4)) + (11 - 4)
      rw [hg 4 (by decide)]
      omega
    · have hx : x ∈ [zxwy_fx0] := hx
      have hg : ∀ k, k < 5 → ρ2 k = ρ k := hag
      have hI := hInv
      have hI : ∃ m q t : Nat, m ≤ 8 ∧ (zyEl (zymr r c) B s.heap) 75 2 = some (.int (Int32.ofNat m)) ∧ zJ1 (zyEl (zymr r c) B s.heap) ∧ zyIwy (zgNS r c) 5 m q t (zyEl (zymr r c) B s.heap) ρ (zyEl (zymr r c) B H) := hI
      obtain ⟨hF, hB, hM⟩ := hXs
      have hEE : (zyEl (zymr r c) B H2) = (zyEl (zymr r c) B H) := zyfr0 hfr
      have ex := List.mem_singleton.mp hx
      subst ex
      obtain ⟨m, q, t, hm, s1, hJ, i1, i2, i3, i4, i5, i6, i7, i8, i9, i10, i11⟩ := hI
      have T1 : zyTy (zymr r c) (zyEl (zymr r c) B H) := hT
      have n80 : zgNS r c ≤ 80 := zgNS_le h2 h4
      have hms : zyEl (zymr r c) B H 75 2 = some (.int (Int32.ofNat m)) := (zyFwhy_75 i1 2).trans s1
      obtain ⟨e14, sv, q1⟩ := i2 (by decide) (by decide)
      obtain ⟨b4, t64⟩ := i4 (by decide) (by decide)
      have a4 : ρ2 4 = Int32.ofNat t := (hg 4 (by decide)).trans b4
      have a4' : ρ2 4 + Int32.ofNat 1 = Int32.ofNat (t + 1) := by rw [a4, zyOa]
      have q28 := i6 (by decide) (by decide)
      have t63 := i7 (by decide) (by decide)
      have sl := i8 (Or.inr rfl)
      have f3 : 2147483648 ≤ zB (ρ2 3) ∧ zB (ρ2 3) ≤ 2147483648 := zyXb hB 1 rfl
      have f3 : ρ2 3 = Int32.ofNat 0 := by
        obtain ⟨o1, o2⟩ := zyOn f3.1
        rw [o1, show zyN1 (ρ2 3) = 0 by omega]
      refine zyGoB hIH hAt hB ⟨2, by decide⟩ [595, 34359738369, 0, 103079215105, 137438953481] rfl rfl rfl rfl ⟨m, q, (t + 1), hm, s1, hJ, by rw [hEE]; exact i1, fun _ _ => by rw [hEE]; exact ⟨e14, sv, q1⟩, fun h => absurd (show 2 = 1 from h) (by decide), fun _ _ => ⟨a4', by omega⟩, fun _ => by omega, fun h => absurd (show 4 ≤ 2 from h) (by decide), fun h => absurd (show 3 ≤ 2 from h) (by decide), fun h => absurd (show 2 = 1 ∨ 2 = 5 from h) (by decide), fun _ => fun _ => by rw [hEE]; exact sl, fun h => absurd (show 2 = 3 from h) (by decide), fun h => absurd (show 2 = 4 from h) (by decide)⟩ ?_
      show (if ρ2 3 = Int32.ofNat 0 then 1000 + 10 * (65 - zyN1 (ρ2 4 + Int32.ofNat 1)) + 9 else 900) < 1000 + 10 * (65 - zyN1 (ρ 4)) + (11 - 5)
      rw [if_pos f3, a4', b4, zyN1_of (by omega), zyN1_of (by omega)]
      omega
    · have hx : x ∈ [zxwy_gx0, zxwy_gx1, zxwy_gx2] := hx
      have hg : ∀ k, k < 5 → ρ2 k = ρ k := hag
      have hI := hInv
      have hI : ∃ m q t : Nat, m ≤ 8 ∧ (zyEl (zymr r c) B s.heap) 75 2 = some (.int (Int32.ofNat m)) ∧ zJ1 (zyEl (zymr r c) B s.heap) ∧ zyIwy (zgNS r c) 6 m q t (zyEl (zymr r c) B s.heap) ρ (zyEl (zymr r c) B H) := hI
      obtain ⟨hF, hB, hM⟩ := hXs
      have hfr : ∀ a k, zyin [(74, 27, 27)] a k = false → (zyEl (zymr r c) B H2) a k = (zyEl (zymr r c) B H) a k := hfr
      rcases List.mem_cons.mp hx with ex | hx
      · subst ex
        obtain ⟨m, q, t, hm, s1, hJ, i1, i2, i3, i4, i5, i6, i7, i8, i9, i10, i11⟩ := hI
        have T1 : zyTy (zymr r c) (zyEl (zymr r c) B H) := hT
        have n80 : zgNS r c ≤ 80 := zgNS_le h2 h4
        have hms : zyEl (zymr r c) B H 75 2 = some (.int (Int32.ofNat m)) := (zyFwhy_75 i1 2).trans s1
        obtain ⟨e14, sv, q1⟩ := i2 (by decide) (by decide)
        have hk : ∀ a k, ¬ (a = 74 ∧ k = 27) → zyEl (zymr r c) B H2 a k = zyEl (zymr r c) B H a k := by
          intro a k n
          apply hfr
          cases hq : zyin [(74, 27, 27)] a k with
          | false => rfl
          | true =>
            obtain ⟨p0, g1, g2, g3, g4⟩ := zyin_iff.mp hq
            rw [List.mem_singleton.mp g1] at g2 g3 g4
            dsimp only at g2 g3 g4
            exact absurd ⟨g2.symm, by omega⟩ n
        have bb : 2147483648 ≤ zB (ρ2 4) ∧ zB (ρ2 4) ≤ 2147483655 := zyXb hB 0 rfl
        obtain ⟨g1, g2, -⟩ := zyStep (b := 7) bb (by decide)
        refine zyGoB hIH hAt hB ⟨6, by decide⟩ [595, 0, 0, 0, 137438953481] rfl rfl rfl rfl ⟨m, q, t, hm, s1, hJ, fun a k n1 n2 => (hk a k (fun z => n1 ⟨z.1, by omega⟩)).trans (i1 a k n1 n2), fun _ _ => ⟨(hk 74 14 (fun z => absurd z.2 (by decide))).trans e14, fun j hj => by rw [zyI_eq (hk 80 j (fun z => absurd z.1 (by decide)))]; exact sv j hj, q1⟩, fun h => absurd (show 6 = 1 from h) (by decide), fun _ h => absurd (show 6 ≤ 5 from h) (by decide), fun h => absurd (show 6 = 2 ∨ 6 = 3 from h) (by decide), fun _ h => absurd (show 6 ≤ 5 from h) (by decide), fun _ h => absurd (show 6 ≤ 5 from h) (by decide), fun h => absurd (show 6 = 1 ∨ 6 = 5 from h) (by decide), fun h => absurd (show 6 = 2 from h) (by decide), fun h => absurd (show 6 = 3 from h) (by decide), fun h => absurd (show 6 = 4 from h) (by decide)⟩ ?_
        show 100 + (9 - zyN1 (ρ2 4 + Int32.ofNat 1)) < 100 + (9 - zyN1 (ρ 4))
        rw [g1, ← hg 4 (by decide)]
        omega
      · skip
        rcases List.mem_cons.mp hx with ex | hx
        · subst ex
          obtain ⟨m, q, t, hm, s1, hJ, i1, i2, i3, i4, i5, i6, i7, i8, i9, i10, i11⟩ := hI
          have T1 : zyTy (zymr r c) (zyEl (zymr r c) B H) := hT
          have n80 : zgNS r c ≤ 80 := zgNS_le h2 h4
          have hms : zyEl (zymr r c) B H 75 2 = some (.int (Int32.ofNat m)) := (zyFwhy_75 i1 2).trans s1
          obtain ⟨e14, sv, q1⟩ := i2 (by decide) (by decide)
          have hk : ∀ a k, ¬ (a = 74 ∧ k = 27) → zyEl (zymr r c) B H2 a k = zyEl (zymr r c) B H a k := by
            intro a k n
            apply hfr
            cases hq : zyin [(74, 27, 27)] a k with
            | false => rfl
            | true =>
              obtain ⟨p0, g1, g2, g3, g4⟩ := zyin_iff.mp hq
              rw [List.mem_singleton.mp g1] at g2 g3 g4
              dsimp only at g2 g3 g4
              exact absurd ⟨g2.symm, by omega⟩ n
          have bb : 2147483648 ≤ zB (ρ2 4) ∧ zB (ρ2 4) ≤ 2147483655 := zyXb hB 0 rfl
          obtain ⟨g1, g2, -⟩ := zyStep (b := 7) bb (by decide)
          refine zyGoB hIH hAt hB ⟨6, by decide⟩ [595, 0, 0, 0, 137438953481] rfl rfl rfl rfl ⟨m, q, t, hm, s1, hJ, fun a k n1 n2 => (hk a k (fun z => n1 ⟨z.1, by omega⟩)).trans (i1 a k n1 n2), fun _ _ => ⟨(hk 74 14 (fun z => absurd z.2 (by decide))).trans e14, fun j hj => by rw [zyI_eq (hk 80 j (fun z => absurd z.1 (by decide)))]; exact sv j hj, q1⟩, fun h => absurd (show 6 = 1 from h) (by decide), fun _ h => absurd (show 6 ≤ 5 from h) (by decide), fun h => absurd (show 6 = 2 ∨ 6 = 3 from h) (by decide), fun _ h => absurd (show 6 ≤ 5 from h) (by decide), fun _ h => absurd (show 6 ≤ 5 from h) (by decide), fun h => absurd (show 6 = 1 ∨ 6 = 5 from h) (by decide), fun h => absurd (show 6 = 2 from h) (by decide), fun h => absurd (show 6 = 3 from h) (by decide), fun h => absurd (show 6 = 4 from h) (by decide)⟩ ?_
          show 100 + (9 - zyN1 (ρ2 4 + Int32.ofNat 1)) < 100 + (9 - zyN1 (ρ 4))
          rw [g1, ← hg 4 (by decide)]
          omega
        · skip
          have ex := List.mem_singleton.mp hx
          subst ex
          obtain ⟨m, q, t, hm, s1, hJ, i1, i2, i3, i4, i5, i6, i7, i8, i9, i10, i11⟩ := hI
          have T1 : zyTy (zymr r c) (zyEl (zymr r c) B H) := hT
          have n80 : zgNS r c ≤ 80 := zgNS_le h2 h4
          have hms : zyEl (zymr r c) B H 75 2 = some (.int (Int32.ofNat m)) := (zyFwhy_75 i1 2).trans s1
          obtain ⟨e14, sv, q1⟩ := i2 (by decide) (by decide)
          have hk : ∀ a k, ¬ (a = 74 ∧ k = 27) → zyEl (zymr r c) B H2 a k = zyEl (zymr r c) B H a k := by
            intro a k n
            apply hfr
            cases hq : zyin [(74, 27, 27)] a k with
            | false => rfl
            | true =>
              obtain ⟨p0, g1, g2, g3, g4⟩ := zyin_iff.mp hq
              rw [List.mem_singleton.mp g1] at g2 g3 g4
              dsimp only at g2 g3 g4
              exact absurd ⟨g2.symm, by omega⟩ n
          obtain ⟨n4, w4, w5, w6⟩ := zyXe hF 2 rfl
          have w4 : Int32.ofNat 14 = Int32.ofNat n4 := w4
          have w6 : zyEl (zymr r c) B H 74 n4 = some (.int (ρ2 6)) := w6
          have e6 : ρ2 6 = Int32.ofNat q := zyEk w4 (by decide) w5 w6 e14
          have f3 := zyX21 hF 3 rfl
          have f3 : ¬ Int32.ofNat 300 < ρ2 6 := f3
          rw [e6, zyOl (by omega) (by omega)] at f3
          obtain ⟨j1, j2, j3⟩ := hJ m hm s1
          have k75 : ∀ k, zyEl (zymr r c) B H2 75 k = zyEl (zymr r c) B s.heap 75 k := fun k => (hk 75 k (fun z => absurd z.1 (by decide))).trans (zyFwhy_75 i1 k)
          refine zyCa1 hRu hIH hAt hB hsw (ix := 367) (ax := 4736) rfl rfl rfl hmesw ⟨rfl, rfl, rfl, rfl⟩ (by decide) [] rfl (by decide) rfl ⟨7, by decide⟩ [595, 0, 0, 0, 0] [(0, 4294967295), (0, 4294967295), (0, 4294967295), (0, 4294967295), (0, 4294967295)] 2147483648 2147483649 rfl (by decide) rfl rfl rfl rfl rfl ?_ ?_
          · show zyΦsw [] _
            refine ⟨⟨m, hm, (k75 2).trans s1, zLv_75 k75 j1, zWv_75 k75 j2⟩, q, by omega, (hk 74 14 (fun z => absurd z.2 (by decide))).trans e14, fun m' hm' hms' j hj => ?_⟩
            rw [k75 2, s1] at hms'
            rw [← zyOi (by omega) (by omega) (Value.int.inj (Option.some.inj hms')), zyI_eq (hk 80 j (fun z => absurd z.1 (by decide)))]
            exact sv j (by omega)
          · intro E3 vo hT3 hΨ
            obtain ⟨p1, z, ez, hz⟩ := (show zyΨbr [] _ E3 vo from hΨ)
            refine ⟨z, ez, ?_, ?_, ⟨m, q, t, hm, s1, hJ, fun a k n1 n2 => (p1 a k (fun z => n2 (by omega)) (fun z => n2 (by omega)) (fun z => n1 ⟨z.1, by omega⟩)).trans ((hk a k (fun z => n1 ⟨z.1, by omega⟩)).trans (i1 a k n1 n2)), fun _ h => absurd (show 7 ≤ 6 from h) (by decide), fun h => absurd (show 7 = 1 from h) (by decide), fun _ h => absurd (show 7 ≤ 5 from h) (by decide), fun h => absurd (show 7 = 2 ∨ 7 = 3 from h) (by decide), fun _ h => absurd (show 7 ≤ 5 from h) (by decide), fun _ h => absurd (show 7 ≤ 5 from h) (by decide), fun h => absurd (show 7 = 1 ∨ 7 = 5 from h) (by decide), fun h => absurd (show 7 = 2 from h) (by decide), fun h => absurd (show 7 = 3 from h) (by decide), fun h => absurd (show 7 = 4 from h) (by decide)⟩, ?_⟩
            · rcases hz with rfl | rfl <;> decide
            · rcases hz with rfl | rfl <;> decide
            · show 0 < 100 + (9 - zyN1 (ρ 4))
              omega
    · cases hx
  · intro as E0 E E2 hT0 hΦ hlen i ρ hT hInv x hx ρ2 N2 B vo hXs hag hfr hT2 hvo
    rcases i with ⟨i, hi⟩
    have hi2 : i = 0 ∨ i = 1 ∨ i = 2 ∨ i = 3 ∨ i = 4 ∨ i = 5 ∨ i = 6 ∨ i = 7 := by omega
    rcases hi2 with rfl | rfl | rfl | rfl | rfl | rfl | rfl | rfl
    · cases hx
    · cases hx
    · have hx : x ∈ [zxwy_cr0, zxwy_cr1] := hx
      have hg : ∀ k, k < 5 → ρ2 k = ρ k := hag
      have hI := hInv
      have hI : ∃ m q t : Nat, m ≤ 8 ∧ E0 75 2 = some (.int (Int32.ofNat m)) ∧ zJ1 E0 ∧ zyIwy (zgNS r c) 2 m q t E0 ρ E := hI
      obtain ⟨hF, hB, hM⟩ := hXs
      have hfr : ∀ a k, zyin [(74, 8, 8)] a k = false → E2 a k = E a k := hfr
      rcases List.mem_cons.mp hx with ex | hx
      · subst ex
        obtain ⟨m, q, t, hm, s1, hJ, i1, -⟩ := hI
        have hk : ∀ a k, ¬ (a = 74 ∧ k = 8) → E2 a k = E a k := by
          intro a k n
          apply hfr
          cases hq : zyin [(74, 8, 8)] a k with
          | false => rfl
          | true =>
            obtain ⟨p0, g1, g2, g3, g4⟩ := zyin_iff.mp hq
            rw [List.mem_singleton.mp g1] at g2 g3 g4
            dsimp only at g2 g3 g4
            exact absurd ⟨g2.symm, by omega⟩ n
        exact ⟨fun a k n1 n2 => (hk a k (fun z => n1 ⟨z.1, by omega⟩)).trans (i1 a k n1 n2), _, zyvo_1 (c := 103079215105) (by decide) (show zyvo (zyXn B ρ2 N2) [103079215105] vo from hvo), (by have q : 2147483649 ≤ zB (ρ2 3) ∧ zB (ρ2 3) ≤ 2147483649 := zyXb hB 1 rfl; show 2147483648 ≤ zB (ρ2 3); omega), (by have q : 2147483649 ≤ zB (ρ2 3) ∧ zB (ρ2 3) ≤ 2147483649 := zyXb hB 1 rfl; show zB (ρ2 3) ≤ 2147483652; omega)⟩
      · skip
        have ex := List.mem_singleton.mp hx
        subst ex
        obtain ⟨m, q, t, hm, s1, hJ, i1, -⟩ := hI
        have hk : ∀ a k, ¬ (a = 74 ∧ k = 8) → E2 a k = E a k := by
          intro a k n
          apply hfr
          cases hq : zyin [(74, 8, 8)] a k with
          | false => rfl
          | true =>
            obtain ⟨p0, g1, g2, g3, g4⟩ := zyin_iff.mp hq
            rw [List.mem_singleton.mp g1] at g2 g3 g4
            dsimp only at g2 g3 g4
            exact absurd ⟨g2.symm, by omega⟩ n
        exact ⟨fun a k n1 n2 => (hk a k (fun z => n1 ⟨z.1, by omega⟩)).trans (i1 a k n1 n2), _, zyvo_1 (c := 103079215105) (by decide) (show zyvo (zyXn B ρ2 N2) [103079215105] vo from hvo), (by have q : 2147483649 ≤ zB (ρ2 3) ∧ zB (ρ2 3) ≤ 2147483649 := zyXb hB 1 rfl; show 2147483648 ≤ zB (ρ2 3); omega), (by have q : 2147483649 ≤ zB (ρ2 3) ∧ zB (ρ2 3) ≤ 2147483649 := zyXb hB 1 rfl; show zB (ρ2 3) ≤ 2147483652; omega)⟩
    · cases hx
    · cases hx
    · cases hx
    · have hx : x ∈ [zxwy_gr0, zxwy_gr1, zxwy_gr2] := hx
      have hg : ∀ k, k < 5 → ρ2 k = ρ k := hag
      have hI := hInv
      have hI : ∃ m q t : Nat, m ≤ 8 ∧ E0 75 2 = some (.int (Int32.ofNat m)) ∧ zJ1 E0 ∧ zyIwy (zgNS r c) 6 m q t E0 ρ E := hI
      obtain ⟨hF, hB, hM⟩ := hXs
      have hfr : ∀ a k, zyin [(74, 27, 27)] a k = false → E2 a k = E a k := hfr
      rcases List.mem_cons.mp hx with ex | hx
      · subst ex
        obtain ⟨m, q, t, hm, s1, hJ, i1, -⟩ := hI
        have hk : ∀ a k, ¬ (a = 74 ∧ k = 27) → E2 a k = E a k := by
          intro a k n
          apply hfr
          cases hq : zyin [(74, 27, 27)] a k with
          | false => rfl
          | true =>
            obtain ⟨p0, g1, g2, g3, g4⟩ := zyin_iff.mp hq
            rw [List.mem_singleton.mp g1] at g2 g3 g4
            dsimp only at g2 g3 g4
            exact absurd ⟨g2.symm, by omega⟩ n
        exact ⟨fun a k n1 n2 => (hk a k (fun z => n1 ⟨z.1, by omega⟩)).trans (i1 a k n1 n2), _, zyvo_1 (c := 16) (by decide) (show zyvo (zyXn B ρ2 N2) [16] vo from hvo), (show 2147483648 ≤ zB (Int32.ofNat 2) by decide), (show zB (Int32.ofNat 2) ≤ 2147483652 by decide)⟩
      · skip
        rcases List.mem_cons.mp hx with ex | hx
        · subst ex
          obtain ⟨m, q, t, hm, s1, hJ, i1, -⟩ := hI
          have hk : ∀ a k, ¬ (a = 74 ∧ k = 27) → E2 a k = E a k := by
            intro a k n
            apply hfr
            cases hq : zyin [(74, 27, 27)] a k with
            | false => rfl
            | true =>
              obtain ⟨p0, g1, g2, g3, g4⟩ := zyin_iff.mp hq
              rw [List.mem_singleton.mp g1] at g2 g3 g4
              dsimp only at g2 g3 g4
              exact absurd ⟨g2.symm, by omega⟩ n
          exact ⟨fun a k n1 n2 => (hk a k (fun z => n1 ⟨z.1, by omega⟩)).trans (i1 a k n1 n2), _, zyvo_1 (c := 24) (by decide) (show zyvo (zyXn B ρ2 N2) [24] vo from hvo), (show 2147483648 ≤ zB (Int32.ofNat 3) by decide), (show zB (Int32.ofNat 3) ≤ 2147483652 by decide)⟩
        · skip
          have ex := List.mem_singleton.mp hx
          subst ex
          obtain ⟨m, q, t, hm, s1, hJ, i1, -⟩ := hI
          have hk : ∀ a k, ¬ (a = 74 ∧ k = 27) → E2 a k = E a k := by
            intro a k n
            apply hfr
            cases hq : zyin [(74, 27, 27)] a k with
            | false => rfl
            | true =>
              obtain ⟨p0, g1, g2, g3, g4⟩ := zyin_iff.mp hq
              rw [List.mem_singleton.mp g1] at g2 g3 g4
              dsimp only at g2 g3 g4
              exact absurd ⟨g2.symm, by omega⟩ n
          exact ⟨fun a k n1 n2 => (hk a k (fun z => n1 ⟨z.1, by omega⟩)).trans (i1 a k n1 n2), _, zyvo_1 (c := 0) (by decide) (show zyvo (zyXn B ρ2 N2) [0] vo from hvo), (show 2147483648 ≤ zB (Int32.ofNat 0) by decide), (show zB (Int32.ofNat 0) ≤ 2147483652 by decide)⟩
    · have hx : x ∈ [zxwy_hr0, zxwy_hr1] := hx
      have hg : ∀ k, k < 6 → ρ2 k = ρ k := hag
      have hI := hInv
      have hI : ∃ m q t : Nat, m ≤ 8 ∧ E0 75 2 = some (.int (Int32.ofNat m)) ∧ zJ1 E0 ∧ zyIwy (zgNS r c) 7 m q t E0 ρ E := hI
      obtain ⟨hF, hB, hM⟩ := hXs
      have hEE : E2 = E := zyfr0 hfr
      rcases List.mem_cons.mp hx with ex | hx
      · subst ex
        obtain ⟨m, q, t, hm, s1, hJ, i1, -⟩ := hI
        have hk : ∀ a k, ¬ (a = 0 ∧ a = 1) → E2 a k = E a k := fun a k _ => by rw [hEE]
        exact ⟨fun a k n1 n2 => (hk a k (fun z => by omega)).trans (i1 a k n1 n2), _, zyvo_1 (c := 0) (by decide) (show zyvo (zyXn B ρ2 N2) [0] vo from hvo), (show 2147483648 ≤ zB (Int32.ofNat 0) by decide), (show zB (Int32.ofNat 0) ≤ 2147483652 by decide)⟩
      · skip
        have ex := List.mem_singleton.mp hx
        subst ex
        obtain ⟨m, q, t, hm, s1, hJ, i1, -⟩ := hI
        have hk : ∀ a k, ¬ (a = 0 ∧ a = 1) → E2 a k = E a k := fun a k _ => by rw [hEE]
        exact ⟨fun a k n1 n2 => (hk a k (fun z => by omega)).trans (i1 a k n1 n2), _, zyvo_1 (c := 32) (by decide) (show zyvo (zyXn B ρ2 N2) [32] vo from hvo), (show 2147483648 ≤ zB (Int32.ofNat 4) by decide), (show zB (Int32.ofNat 4) ≤ 2147483652 by decide)⟩
end
section
/-! phases: cut (printed by yexd.py) -/
noncomputable def zxcu_ar0 : zyXp := (0, [], [68719476737], [(22, 0, 0, 0)], [(68719476737, 2147483648, 2147483948)], [(1228804, 0)])
noncomputable def zpcu_a : zyPh := (0, [595, 13], [(0, 4294967295), (0, 4294967295)], [], [])
noncomputable def zpcu (i : Nat) : zyPh := zpcu_a
noncomputable def zXcu (i : Nat) : List zyXp := []
noncomputable def zRcu (i : Nat) : List zyXp := [zxcu_ar0]
noncomputable def zFcu (i : Nat) : zyR := [(74, 2, 3), (75, 4, 4)]
noncomputable def zScu (i : Nat) : Nat := 0
end
section
/-! WRITERS: cut -/

def zyΦcu (_ : List Int32) (E : zyEm) : Prop := zJ1 E
def zyΨcu (_ : List Int32) (E E2 : zyEm) (vo : Option Value) : Prop := zJ1 E2 ∧ (∀ a k, ¬ (a = 74 ∧ 2 ≤ k ∧ k ≤ 3) → ¬ (a = 75 ∧ k = 4) → E2 a k = E a k) ∧ ∃ z : Int32, vo = some (.int z)
theorem zLv_0 {E : zyEm} {m : Nat} (h : zyI E 75 4 = Int32.ofNat 0) : zLv E m := fun k hk h2 => by
  rw [h, zyOl (by omega) (by omega)] at h2
  exact absurd h2 (Nat.not_lt_zero k)
theorem zycu_run : zyAllP (fun r c => zyrS (zymr r c) zxi281 (281, 0, 0, 1, 0) 8 zpcu (fun _ _ => []) zFcu zScu zXcu zRcu 1) = true := by decide +kernel
theorem zycut_H {l : Launch} {r c : Nat} (h1 : 1 ≤ r) (h2 : r ≤ 4) (h3 : 1 ≤ c) (h4 : c ≤ 5) {en : zEn} {me : zMe} (hen : zG zxMeta 281 = some en) (hme : zG zMeth 281 = some me) : zyHc l (zymr r c) en me 8 0 zyΦcu zyΨcu := by
  have een : zG zxMeta 281 = some (zxi281, 1, 2, 11, 281, 0, 0, 1, 0) := rfl
  obtain ⟨me1, hme1, hOK⟩ := zall hen
  rw [hme] at hme1
  cases hme1
  rw [een] at hen
  cases hen
  have hr := zyAllP_iff zycu_run h1 h2 h3 h4
  refine zycutS (mi := zymr r c) hOK rfl rfl ⟨_, rfl, rfl⟩ (ι := Fin 1) (fun i => zpcu i.val) (fun _ _ => []) (fun i => zFcu i.val) (fun i => zScu i.val) (fun i => zXcu i.val) (fun i => zRcu i.val) (fun i y2 ct en2 me2 h => by cases h) 200000 (fun i => zyAll_iff hr i.val i.isLt) ⟨0, by decide⟩ ⟨rfl, rfl, rfl, rfl⟩ ⟨by decide, by decide⟩
    (fun i as E0 ρ E => zJ1 E ∧ E = E0) (fun i as E0 ρ E => 0) ?_ ?_ ?_
  · intro as E hlen hT hΦ
    exact ⟨zEnv_c (zyfull _) (zEnv_c (zyfull _) zEnv_nil), hΦ, rfl⟩
  · intro as B s Wg hRu hT0 hΦ hlen i ρ H hT hInv hIH x hx ρ2 N2 H2 locs lsB stA hAt hXs hag hfr hT2
    rcases i with ⟨i, hi⟩
    have hi2 : i = 0 := by omega
    rcases hi2 with rfl
    · cases hx
  · intro as E0 E E2 hT0 hΦ hlen i ρ hT hInv x hx ρ2 N2 B vo hXs hag hfr hT2 hvo
    rcases i with ⟨i, hi⟩
    have hi2 : i = 0 := by omega
    rcases hi2 with rfl
    · have hx : x ∈ [zxcu_ar0] := hx
      have hg : ∀ k, k < 2 → ρ2 k = ρ k := hag
      have hI := hInv
      have hI : zJ1 E ∧ E = E0 := hI
      obtain ⟨hF, hB, hM⟩ := hXs
      have hfr : ∀ a k, zyin [(74, 2, 3), (75, 4, 4)] a k = false → E2 a k = E a k := hfr
      have ex := List.mem_singleton.mp hx
      subst ex
      have m1 := zyXm hM 0 rfl
      have m1 : E2 75 4 = some (.int (Int32.ofNat 0)) := m1
      have hk : ∀ a k, ¬ (a = 74 ∧ 2 ≤ k ∧ k ≤ 3) → ¬ (a = 75 ∧ k = 4) → E2 a k = E a k := by
        intro a k n1 n2
        apply hfr
        cases hq : zyin [(74, 2, 3), (75, 4, 4)] a k with
        | false => rfl
        | true =>
          obtain ⟨p0, g1, g2, g3, g4⟩ := zyin_iff.mp hq
          rcases List.mem_cons.mp g1 with rfl | g1
          · dsimp only at g2 g3 g4
            exact absurd ⟨g2.symm, g3, g4⟩ n1
          · rw [List.mem_singleton.mp g1] at g2 g3 g4
            dsimp only at g2 g3 g4
            exact absurd ⟨g2.symm, by omega⟩ n2
      have k75 : ∀ k, ¬ k = 4 → E2 75 k = E 75 k := fun k n => hk 75 k (fun z => absurd z.1 (by decide)) (fun z => n z.2)
      obtain ⟨hJ, hE⟩ := hI
      refine ⟨fun m hm hms => ?_, fun a k n1 n2 => (hk a k n1 n2).trans (by rw [hE]), ⟨_, zyvo_1 (c := 68719476737) (by decide) (show zyvo (zyXn B ρ2 N2) [68719476737] vo from hvo)⟩⟩
      rw [k75 2 (by decide)] at hms
      obtain ⟨j1, j2, j3⟩ := hJ m hm hms
      have z4 := zyI_s m1
      exact ⟨zLv_0 z4, zWv_fr (k75 5 (by decide)) (fun k _ => k75 _ (by omega)) j2, fun _ => z4⟩
end
section
/-! phases: reset (printed by yexe.py) -/
noncomputable def zxrse_ax0 : zyXp := (29, [595, 103079215105, 0], [], [(22, 0, 0, 0)], [], [(1228803, 0), (1228804, 0)])
noncomputable def zprse_a : zyPh := (0, [595, 13, 13], [(0, 4294967295), (0, 4294967295), (0, 4294967295)], [], [])
noncomputable def zxrse_bx0 : zyXp := (29, [595, 34359738369, 68719476745], [], [(24, 103079215105, 75, 16), (20, 0, 68719476737, 103079215105), (24, 137438953473, 75, 68719477825)], [(68719476737, 2147483648, 2147483655), (103079215105, 2147483649, 2147483656), (137438953473, 2147483648, 2147483727), (68719476745, 2147483649, 2147483656)], [])
noncomputable def zxrse_br0 : zyXp := (0, [], [34359738369], [(24, 103079215105, 75, 16), (21, 0, 68719476737, 103079215105)], [(68719476737, 2147483648, 2147483656), (103079215105, 2147483648, 2147483656)], [])
noncomputable def zprse_b : zyPh := (29, [595, 34359738369, 68719476737], [(0, 4294967295), (0, 4294967295), (2147483648, 2147483656)], [], [])
noncomputable def zprse (i : Nat) : zyPh := zif (Nat.beq i 0) (zprse_a) (zprse_b)
noncomputable def zXrse (i : Nat) : List zyXp := zif (Nat.beq i 0) ([zxrse_ax0]) ([zxrse_bx0])
noncomputable def zRrse (i : Nat) : List zyXp := zif (Nat.beq i 0) ([]) ([zxrse_br0])
noncomputable def zFrse (i : Nat) : zyR := zif (Nat.beq i 0) ([(74, 2, 3), (75, 3, 4)]) ([(75, 144, 151)])
noncomputable def zSrse (i : Nat) : Nat := zif (Nat.beq i 0) (0) (0)
end
section
/-! WRITERS: reset -/
def zyFrs (E E2 : zyEm) : Prop := ∀ a k, ¬ (a = 74 ∧ 2 ≤ k ∧ k ≤ 3) → ¬ (a = 75 ∧ 3 ≤ k ∧ k ≤ 4) → ¬ (a = 75 ∧ 144 ≤ k ∧ k ≤ 151) → E2 a k = E a k
def zyΦrs (_ : List Int32) (E : zyEm) : Prop := zJ1 E
def zyΨrs (_ : List Int32) (E E2 : zyEm) (vo : Option Value) : Prop := zJ1 E2 ∧ zyFrs E E2 ∧ E2 75 3 = some (.int (Int32.ofNat 0)) ∧ ∃ z : Int32, vo = some (.int z)
theorem zJ1_144 {E E2 : zyEm} (h : ∀ k, ¬ (144 ≤ k ∧ k ≤ 151) → E2 75 k = E 75 k) (hJ : zJ1 E) : zJ1 E2 := fun m hm hms => by
  rw [h 2 (by decide)] at hms
  obtain ⟨j1, j2, j3⟩ := hJ m hm hms
  exact ⟨zLv_fr (h 4 (by decide)) (fun k _ _ => h _ (by omega)) j1, zWv_fr (h 5 (by decide)) (fun k _ => h _ (by omega)) j2, zT0_fr (h 3 (by decide)) (h 4 (by decide)) j3⟩
theorem zyrse_run : zyAllP (fun r c => zyrS (zymr r c) zxi280 (280, 0, 0, 1, 0) 8 zprse (fun _ _ => []) zFrse zSrse zXrse zRrse 2) = true := by decide +kernel
theorem zyreset_H {l : Launch} {r c : Nat} (h1 : 1 ≤ r) (h2 : r ≤ 4) (h3 : 1 ≤ c) (h4 : c ≤ 5) {en : zEn} {me : zMe} (hen : zG zxMeta 280 = some en) (hme : zG zMeth 280 = some me) : zyHc l (zymr r c) en me 8 0 zyΦrs zyΨrs := by
  have een : zG zxMeta 280 = some (zxi280, 1, 3, 11, 280, 0, 0, 1, 0) := rfl
  obtain ⟨me1, hme1, hOK⟩ := zall hen
  rw [hme] at hme1
  cases hme1
  rw [een] at hen
  cases hen
  have hr := zyAllP_iff zyrse_run h1 h2 h3 h4
  refine zycutS (mi := zymr r c) hOK rfl rfl ⟨_, rfl, rfl⟩ (ι := Fin 2) (fun i => zprse i.val) (fun _ _ => []) (fun i => zFrse i.val) (fun i => zSrse i.val) (fun i => zXrse i.val) (fun i => zRrse i.val) (fun i y2 ct en2 me2 h => by cases h) 200000 (fun i => zyAll_iff hr i.val i.isLt) ⟨0, by decide⟩ ⟨rfl, rfl, rfl, rfl⟩ ⟨by decide, by decide⟩
    (fun i as E0 ρ E => zJ1 E ∧ zyFrs E0 E ∧ (i.val = 1 → E 75 3 = some (.int (Int32.ofNat 0)) ∧ ∃ b : Nat, b ≤ 8 ∧ ρ 2 = Int32.ofNat b)) (fun i as E0 ρ E => if i.val = 0 then 100 else 9 - zyN1 (ρ 2)) ?_ ?_ ?_
  · intro as E hlen hT hΦ
    exact ⟨zEnv_c (zyfull _) (zEnv_c (zyfull _) (zEnv_c (zyfull _) zEnv_nil)), hΦ, fun _ _ _ _ _ => rfl, fun h => absurd (show 0 = 1 from h) (by decide)⟩
  · intro as B s Wg hRu hT0 hΦ hlen i ρ H hT hInv hIH x hx ρ2 N2 H2 locs lsB stA hAt hXs hag hfr hT2
    rcases i with ⟨i, hi⟩
    have hi2 : i = 0 ∨ i = 1 := by omega
    rcases hi2 with rfl | rfl
    · have hx : x ∈ [zxrse_ax0] := hx
      have hg : ∀ k, k < 3 → ρ2 k = ρ k := hag
      have hI := hInv
      have hI : zJ1 (zyEl (zymr r c) B H) ∧ zyFrs (zyEl (zymr r c) B s.heap) (zyEl (zymr r c) B H) ∧ (0 = 1 → (zyEl (zymr r c) B H) 75 3 = some (.int (Int32.ofNat 0)) ∧ ∃ b : Nat, b ≤ 8 ∧ ρ 2 = Int32.ofNat b) := hI
      obtain ⟨hF, hB, hM⟩ := hXs
      have hfr : ∀ a k, zyin [(74, 2, 3), (75, 3, 4)] a k = false → (zyEl (zymr r c) B H2) a k = (zyEl (zymr r c) B H) a k := hfr
      have ex := List.mem_singleton.mp hx
      subst ex
      obtain ⟨hJ, i1, -⟩ := hI
      have m0 := zyXm hM 0 rfl
      have m0 : zyEl (zymr r c) B H2 75 3 = some (.int (Int32.ofNat 0)) := m0
      have m1 := zyXm hM 1 rfl
      have m1 : zyEl (zymr r c) B H2 75 4 = some (.int (Int32.ofNat 0)) := m1
      have hk : ∀ a k, ¬ (a = 74 ∧ 2 ≤ k ∧ k ≤ 3) → ¬ (a = 75 ∧ 3 ≤ k ∧ k ≤ 4) → zyEl (zymr r c) B H2 a k = zyEl (zymr r c) B H a k := by
        intro a k n1 n2
        apply hfr
        cases hq : zyin [(74, 2, 3), (75, 3, 4)] a k with
        | false => rfl
        | true =>
          obtain ⟨p0, g1, g2, g3, g4⟩ := zyin_iff.mp hq
          rcases List.mem_cons.mp g1 with rfl | g1
          · dsimp only at g2 g3 g4
            exact absurd ⟨g2.symm, g3, g4⟩ n1
          · rw [List.mem_singleton.mp g1] at g2 g3 g4
            dsimp only at g2 g3 g4
            exact absurd ⟨g2.symm, g3, g4⟩ n2
      have k75 : ∀ k, ¬ (3 ≤ k ∧ k ≤ 4) → zyEl (zymr r c) B H2 75 k = zyEl (zymr r c) B H 75 k := fun k n => hk 75 k (fun z => absurd z.1 (by decide)) (fun z => n z.2)
      have z4 := zyI_s m1
      refine zyGoB hIH hAt hB ⟨1, by decide⟩ [595, 103079215105, 0] rfl rfl rfl rfl ⟨fun m hm hms => ?_, fun a k n1 n2 n3 => (hk a k n1 n2).trans (i1 a k n1 n2 n3), fun _ => ⟨m0, 0, Nat.zero_le _, rfl⟩⟩ ?_
      · rw [k75 2 (by decide)] at hms
        obtain ⟨j1, j2, j3⟩ := hJ m hm hms
        exact ⟨zLv_0 z4, zWv_fr (k75 5 (by decide)) (fun k _ => k75 _ (by omega)) j2, fun _ => z4⟩
      · show 9 - zyN1 (Int32.ofNat 0) < 100
        omega
    · have hx : x ∈ [zxrse_bx0] := hx
      have hg : ∀ k, k < 3 → ρ2 k = ρ k := hag
      have hI := hInv
      have hI : zJ1 (zyEl (zymr r c) B H) ∧ zyFrs (zyEl (zymr r c) B s.heap) (zyEl (zymr r c) B H) ∧ (1 = 1 → (zyEl (zymr r c) B H) 75 3 = some (.int (Int32.ofNat 0)) ∧ ∃ b : Nat, b ≤ 8 ∧ ρ 2 = Int32.ofNat b) := hI
      obtain ⟨hF, hB, hM⟩ := hXs
      have hfr : ∀ a k, zyin [(75, 144, 151)] a k = false → (zyEl (zymr r c) B H2) a k = (zyEl (zymr r c) B H) a k := hfr
      have ex := List.mem_singleton.mp hx
      subst ex
      obtain ⟨hJ, i1, i2⟩ := hI
      obtain ⟨t0, b, hb, e2⟩ := i2 rfl
      have hk : ∀ k, ¬ (144 ≤ k ∧ k ≤ 151) → (zyEl (zymr r c) B H2) 75 k = (zyEl (zymr r c) B H) 75 k := by
        intro k n
        apply hfr
        cases hq : zyin [(75, 144, 151)] 75 k with
        | false => rfl
        | true =>
          obtain ⟨p0, g1, g2, g3, g4⟩ := zyin_iff.mp hq
          rw [List.mem_singleton.mp g1] at g2 g3 g4
          exact absurd ⟨g3, g4⟩ n
      have hka : ∀ a k, ¬ (a = 75 ∧ 144 ≤ k ∧ k ≤ 151) → (zyEl (zymr r c) B H2) a k = (zyEl (zymr r c) B H) a k := by
        intro a k n
        apply hfr
        cases hq : zyin [(75, 144, 151)] a k with
        | false => rfl
        | true =>
          obtain ⟨p0, g1, g2, g3, g4⟩ := zyin_iff.mp hq
          rw [List.mem_singleton.mp g1] at g2 g3 g4
          exact absurd ⟨g2.symm, g3, g4⟩ n
      have a2 : ρ2 2 = Int32.ofNat b := (hg 2 (by decide)).trans e2
      have kb : 2147483648 ≤ zB (ρ2 2) ∧ zB (ρ2 2) ≤ 2147483655 := zyXb hB 0 rfl
      rw [a2, zyBn (by omega)] at kb
      have a2' : ρ2 2 + Int32.ofNat 1 = Int32.ofNat (b + 1) := by rw [a2, zyOa]
      refine zyGoB hIH hAt hB ⟨1, by decide⟩ [595, 34359738369, 68719476745] rfl rfl rfl rfl ⟨zJ1_144 hk hJ, fun a k n1 n2 n3 => (hka a k n3).trans (i1 a k n1 n2 n3), fun _ => ⟨(hk 3 (by decide)).trans t0, b + 1, by omega, a2'⟩⟩ ?_
      show 9 - zyN1 (ρ2 2 + Int32.ofNat 1) < 9 - zyN1 (ρ 2)
      rw [a2', e2, zyN1_of (by omega), zyN1_of (by omega)]
      omega
  · intro as E0 E E2 hT0 hΦ hlen i ρ hT hInv x hx ρ2 N2 B vo hXs hag hfr hT2 hvo
    rcases i with ⟨i, hi⟩
    have hi2 : i = 0 ∨ i = 1 := by omega
    rcases hi2 with rfl | rfl
    · cases hx
    · have hx : x ∈ [zxrse_br0] := hx
      have hg : ∀ k, k < 3 → ρ2 k = ρ k := hag
      have hI := hInv
      have hI : zJ1 E ∧ zyFrs E0 E ∧ (1 = 1 → E 75 3 = some (.int (Int32.ofNat 0)) ∧ ∃ b : Nat, b ≤ 8 ∧ ρ 2 = Int32.ofNat b) := hI
      obtain ⟨hF, hB, hM⟩ := hXs
      have hfr : ∀ a k, zyin [(75, 144, 151)] a k = false → E2 a k = E a k := hfr
      have ex := List.mem_singleton.mp hx
      subst ex
      obtain ⟨hJ, i1, i2⟩ := hI
      obtain ⟨t0, b, hb, e2⟩ := i2 rfl
      have hk : ∀ k, ¬ (144 ≤ k ∧ k ≤ 151) → E2 75 k = E 75 k := by
        intro k n
        apply hfr
        cases hq : zyin [(75, 144, 151)] 75 k with
        | false => rfl
        | true =>
          obtain ⟨p0, g1, g2, g3, g4⟩ := zyin_iff.mp hq
          rw [List.mem_singleton.mp g1] at g2 g3 g4
          exact absurd ⟨g3, g4⟩ n
      have hka : ∀ a k, ¬ (a = 75 ∧ 144 ≤ k ∧ k ≤ 151) → E2 a k = E a k := by
        intro a k n
        apply hfr
        cases hq : zyin [(75, 144, 151)] a k with
        | false => rfl
        | true =>
          obtain ⟨p0, g1, g2, g3, g4⟩ := zyin_iff.mp hq
          rw [List.mem_singleton.mp g1] at g2 g3 g4
          exact absurd ⟨g2.symm, g3, g4⟩ n
      exact ⟨zJ1_144 hk hJ, fun a k n1 n2 n3 => (hka a k n3).trans (i1 a k n1 n2 n3), (hk 3 (by decide)).trans t0, ⟨_, zyvo_1 (c := 34359738369) (by decide) (show zyvo (zyXn B ρ2 N2) [34359738369] vo from hvo)⟩⟩
end
section
/-! BY HAND: common (it calls itself), multiple -/
def zyQn (mi : zyB) (B : zCx) (J : zyJt) : Array Value → State → Outcome → State → Prop := fun _ s o t => ∃ z : Int32, o = .returned (some (.int z)) ∧ ¬ z = 0 ∧ zKn B t ∧ zyMI mi B J t t.heap ∧ t.heap = s.heap
def zyCmt (l : Launch) (mi : zyB) (J : zyJt) (me : zMe) (n : Nat) (a b : Int32) (B : zCx) : Prop := Met l me.1 [Cond.code me.1 me.2.1 2 me.2.2.1] { frames := n + 1, cells := 0, slots := 0, locals := 64 * (n + 1) } (va_Pc [Value.int a, Value.int b] (fun U => zKn B U ∧ zyMI mi B J U U.heap)) (zyQn mi B J) 0 0 (fun q => zbs B ≤ q)
theorem zyrem_lt {a b : Int32} (h : ¬ b = 0) : (a - a / b * b).toInt.natAbs < b.toInt.natAbs := by
  rw [rem_toInt, Int.natAbs_tmod]
  refine Nat.mod_lt _ ?_
  have h2 : ¬ b.toInt = 0 := fun q => h (Int32.toInt_inj.mp (q.trans (by decide : (0 : Int) = (0 : Int32).toInt)))
  omega
theorem zyint0 {b : Int32} (h : b.toInt.natAbs ≤ 0) : b = 0 := Int32.toInt_inj.mp ((show b.toInt = 0 by omega).trans (by decide : (0 : Int) = (0 : Int32).toInt))
theorem zycommon1 {l : Launch} {mi : zyB} {J : zyJt} {en : zEn} {me : zMe} (hen : zG zxMeta 213 = some en) (hme : zG zMeth 213 = some me) (n : Nat) (ih : ∀ k, n = k + 1 → ∀ a b : Int32, b.toInt.natAbs ≤ k → (¬ b = 0 ∨ ¬ a = 0) → ∀ B, zyCmt l mi J me k a b B) : ∀ a b : Int32, b.toInt.natAbs ≤ n → (¬ b = 0 ∨ ¬ a = 0) → ∀ B, zyCmt l mi J me n a b B := by
  intro a b hb0 hn0 B
  have een : zG zxMeta 213 = some (zxi213, 2, 2, 11, 213, 0, 0, 1, 0) := rfl
  obtain ⟨me1, hme1, hOK⟩ := zall hen
  rw [hme] at hme1
  cases hme1
  obtain ⟨me1, hme1, hKi⟩ := zallk hen (show zG zKd 213 = some 2 from rfl)
  rw [hme] at hme1
  cases hme1
  rw [een] at hen
  cases hen
  obtain ⟨hrow, hnum, hrk, hcn, hcls, hml40, hpl, g, hin, hg1, hgw⟩ := hOK
  unfold zyCmt
  refine zMet_ofW hpl ?_
  intro p e s mt args below meth c s₁ Bd hml hv
  obtain ⟨rfl, hK, hI⟩ := hv
  have hx := Bd.exec
  have hb := Bd.bytes
  have hown : s.vm.findClass me.2.2.2 = some mt.cls := by rw [← hcls]; exact findClass_of_methodNamed Bd.named
  have hdc : ∀ (pc : Nat) (i : Instr) (nx ax : Nat), zxi213 pc = (i, nx, ax) → ¬ i = .nop → decode me.2.1 pc = .ok (i, nx - pc) := by
    intro pc i nx ax hz hn
    have hr := hrow pc
    dsimp only at hr
    rw [hz] at hr
    rcases hr with q | q
    · exact absurd q hn
    · exact q.2.1
  have hret : me.2.2.1 = some .int := (zrk_1 (r := me.2.2.1)).2.1 hrk
  have hent := lv_entry [Value.int a, Value.int b] (n := 2) (show (2 : Nat) ≤ 2 by decide)
  rw [lg_entry_eq]
  generalize (lg_sl [Value.int a, Value.int b] ++ List.replicate (2 - (lg_sl [Value.int a, Value.int b]).length) Slot.unset).toArray = ls0 at hent ⊢
  have hent : lv_has ls0 2 [(0, .int a), (1, .int b)] := hent
  have hlocks := Bd.notSynchronized
  have fin : ∀ (H : Heap) (locs : List Loc) (ls : Array Slot) (v : Int32), H = s.heap → (∀ x ∈ locs, zbs B ≤ x.base) → ¬ v = 0 → W p l e { frames := n + 1, cells := 0, slots := 0, locals := 64 * (n + 1) } s mt #[Value.int a, Value.int b] below meth c H locs 0 0 (MQ below (zyQn mi B J) #[Value.int a, Value.int b] s 0 0 (fun q => zbs B ≤ q)) (F0 mt 15 ls [.int v]) := by
    intro H locs ls v hH hlo hv
    refine W.zret hx hb (by rw [Bd.returns]; exact hret) rfl (fun t ht hW => ?_) hlo (hdc 15 _ _ _ rfl (by decide)) hlocks
    exact ⟨v, rfl, hv, hK.warm hW, by rw [ht, hH]; exact hI.moved hW.alike, ht.trans hH⟩
  refine lv_iload_n hx hb (hdc 0 _ _ _ rfl (by decide)) rfl (lv_at hent 1 rfl) (lv_if_ne hx hb (hdc 1 _ _ _ rfl (by decide)) (tgt := 8) rfl (fun hbn => ?_) (fun hbz => ?_))
  · refine lv_iload_n hx hb (hdc 8 _ _ _ rfl (by decide)) rfl (lv_at hent 1 rfl) (lv_iload_n hx hb (hdc 9 _ _ _ rfl (by decide)) rfl (lv_at hent 0 rfl) (lv_iload_n hx hb (hdc 10 _ _ _ rfl (by decide)) rfl (lv_at hent 1 rfl) (lv_irem hx hb (hdc 11 _ _ _ rfl (by decide)) hbn ?_)))
    cases n with
    | zero => exact absurd (zyint0 hb0) hbn
    | succ k =>
      have hlt := zyrem_lt (a := a) hbn
      have hMet := ih k rfl b (a - a / b * b) (by omega) (Or.inr hbn) B
      have hr := hrow 12
      rcases hr with q | ⟨hlen, hdec, pp, hlk⟩
      · exact absurd q (by decide)
      have hlk2 : zlc me.2.2.2 155 3412 pp 4 = true := hlk
      unfold zlc at hlk2
      rw [show (3412 : Nat) / 16 = 213 from rfl, hme] at hlk2
      simp only [Bool.and_eq_true, Bool.or_eq_true, decide_eq_true_eq] at hlk2
      have hrun : va_Run p l e { frames := k + 1 + 1, cells := 0, slots := 0, locals := 64 * (k + 1 + 1) } s mt #[Value.int a, Value.int b] below meth c s.heap [] 0 0 0 0 (F0 mt 12 ls0 [.int (a - a / b * b), .int b]) [] (zyQn mi B J [Value.int b, Value.int (a - a / b * b)].toArray) (fun q => zbs B ≤ q) := by
        rcases hlk2 with ⟨hkd, hw⟩ | ⟨hkd, hw⟩
        · exact zyrow_s (en2 := (zxi213, 2, 2, 11, 213, 0, 0, 1, 0)) hx hb hml hown hK (zwd_mem hw) hcls hKi (AsV := [Value.int b, Value.int (a - a / b * b)]) rfl rfl (Nat.zero_le _) hMet rfl rfl (Nat.le_refl _) (by show 8 + (2 + 11) + 64 * (k + 1) ≤ 64 * (k + 1 + 1); omega) (fun a U g mk hp => ⟨hp.1, zKn.same (s := U) rfl hp.2.1, (hp.2.2).moved (u := U) (Vm.Alike.refl U.vm)⟩) (fun U hU hW => ⟨rfl, hK.warm hW, by rw [hU]; exact hI.moved hW.alike⟩) ⟨Nat.le_refl _, Nat.le_refl _⟩ hent.1 (hdc 12 _ _ _ rfl (by decide))
        · exact zyrow_sN (en2 := (zxi213, 2, 2, 11, 213, 0, 0, 1, 0)) hx hb hml hown hK (zwd_mem hw) hcls hKi (AsV := [Value.int b, Value.int (a - a / b * b)]) rfl rfl (Nat.zero_le _) hMet rfl rfl (Nat.le_refl _) (by show 8 + (2 + 11) + 64 * (k + 1) ≤ 64 * (k + 1 + 1); omega) (fun a U g mk hp => ⟨hp.1, zKn.same (s := U) rfl hp.2.1, (hp.2.2).moved (u := U) (Vm.Alike.refl U.vm)⟩) (fun U hU hW => ⟨rfl, hK.warm hW, by rw [hU]; exact hI.moved hW.alike⟩) ⟨Nat.le_refl _, Nat.le_refl _⟩ hent.1 (hdc 12 _ _ _ rfl (by decide))
      refine zycont hrun (fun x hx => by cases hx) (fun st₀ t vo locs2 hh0 hQ hal hlo2 => ?_)
      obtain ⟨z, ho, hz, -, -, hh⟩ := hQ
      cases ho
      exact fin t.heap locs2 ls0 z (hh.trans hh0) hlo2 hz
  · refine lv_iload_n hx hb (hdc 4 _ _ _ rfl (by decide)) rfl (lv_at hent 0 rfl) (lv_goto hx hb (hdc 5 _ _ _ rfl (by decide)) (tgt := 15) rfl (fin s.heap [] ls0 a rfl (fun x hx => by cases hx) ?_))
    rcases hn0 with q | q
    · exact absurd hbz q
    · exact q
theorem zycommon {l : Launch} {mi : zyB} {J : zyJt} {en : zEn} {me : zMe} (hen : zG zxMeta 213 = some en) (hme : zG zMeth 213 = some me) : ∀ (n : Nat) (a b : Int32), b.toInt.natAbs ≤ n → (¬ b = 0 ∨ ¬ a = 0) → ∀ B, zyCmt l mi J me n a b B := by
  intro n
  induction n with
  | zero => exact zycommon1 hen hme 0 (fun k hk => by omega)
  | succ n ih => exact zycommon1 hen hme (n + 1) (fun k hk => by
      have : k = n := by omega
      rw [this]
      exact ih)
theorem zymultiple {l : Launch} {mi : zyB} {J : zyJt} {en : zEn} {me : zMe} (hen : zG zxMeta 214 = some en) (hme : zG zMeth 214 = some me) : zyCon l mi J en me ([34359738362, 73786976346377814658], [], [34359738362], 90, [], []) := by
  have een : zG zxMeta 214 = some (zxi214, 2, 2, 11, 214, 0, 0, 1, 0) := rfl
  obtain ⟨me1, hme1, hOK⟩ := zall hen
  rw [hme] at hme1
  cases hme1
  rw [een] at hen
  cases hen
  have hen2 : zG zxMeta 213 = some (zxi213, 2, 2, 11, 213, 0, 0, 1, 0) := rfl
  obtain ⟨me2, hme2, hOK2⟩ := zall hen2
  obtain ⟨me3, hme3, hKi⟩ := zallk hen2 (show zG zKd 213 = some 2 from rfl)
  rw [hme2] at hme3
  cases hme3
  obtain ⟨hrow, hnum, hrk, hcn, hcls, hml40, hpl, g, hin, hg1, hgw⟩ := hOK
  intro B AsV hA
  obtain ⟨va, t, rfl, a1, hA⟩ := zySt_c hA
  obtain ⟨vb, t, rfl, a2, hA⟩ := zySt_c hA
  have eA := zySt_n hA
  subst eA
  obtain ⟨a, rfl⟩ := zyv_int a1 (by decide)
  obtain ⟨b, rfl, b1, b2⟩ := zv_2 (zyv_zv a2 (by decide) (by decide)) (by decide)
  have b1 : 2147483649 ≤ zB b := b1
  have b2 : zB b ≤ 2147483728 := b2
  have bi := zB_int b
  have hb80 : b.toInt.natAbs ≤ 80 := by omega
  have hbn : ¬ b = 0 := fun q => by
    rw [q] at b1
    exact absurd b1 (by decide)
  have hMet := zycommon (l := l) (mi := mi) (J := J) hen2 hme2 80 a b hb80 (Or.inl hbn) B
  refine zMet_ofW hpl ?_
  intro p e s mt args below meth c s₁ Bd hml hv
  obtain ⟨rfl, hK, hI, hPk⟩ := hv
  have hx := Bd.exec
  have hb := Bd.bytes
  have hown : s.vm.findClass me.2.2.2 = some mt.cls := by rw [← hcls]; exact findClass_of_methodNamed Bd.named
  have hdc : ∀ (pc : Nat) (i : Instr) (nx ax : Nat), zxi214 pc = (i, nx, ax) → ¬ i = .nop → decode me.2.1 pc = .ok (i, nx - pc) := by
    intro pc i nx ax hz hn
    have hr := hrow pc
    dsimp only at hr
    rw [hz] at hr
    rcases hr with q | q
    · exact absurd q hn
    · exact q.2.1
  have hret : me.2.2.1 = some .int := (zrk_1 (r := me.2.2.1)).2.1 hrk
  have hent := lv_entry [Value.int a, Value.int b] (n := 2) (show (2 : Nat) ≤ 2 by decide)
  rw [lg_entry_eq]
  generalize (lg_sl [Value.int a, Value.int b] ++ List.replicate (2 - (lg_sl [Value.int a, Value.int b]).length) Slot.unset).toArray = ls0 at hent ⊢
  have hent : lv_has ls0 2 [(0, .int a), (1, .int b)] := hent
  have hlocks := Bd.notSynchronized
  refine lv_iload_n hx hb (hdc 0 _ _ _ rfl (by decide)) rfl (lv_at hent 0 rfl) (lv_iload_n hx hb (hdc 1 _ _ _ rfl (by decide)) rfl (lv_at hent 0 rfl) (lv_iload_n hx hb (hdc 2 _ _ _ rfl (by decide)) rfl (lv_at hent 1 rfl) ?_))
  have hr := hrow 3
  rcases hr with q | ⟨hlen, hdec, pp, hlk⟩
  · exact absurd q (by decide)
  have hlk2 : zlc me.2.2.2 155 3412 pp 4 = true := hlk
  unfold zlc at hlk2
  rw [show (3412 : Nat) / 16 = 213 from rfl, hme2] at hlk2
  simp only [Bool.and_eq_true, Bool.or_eq_true, decide_eq_true_eq] at hlk2
  have hrun : va_Run p l e { frames := 90, cells := 0, slots := 0, locals := 64 * 90 } s mt #[Value.int a, Value.int b] below meth c s.heap [] 0 0 0 0 (F0 mt 3 ls0 [.int b, .int a, .int a]) [.int a] (zyQn mi B J [Value.int a, Value.int b].toArray) (fun q => zbs B ≤ q) := by
    rcases hlk2 with ⟨hkd, hw⟩ | ⟨hkd, hw⟩
    · exact zyrow_s (en2 := (zxi213, 2, 2, 11, 213, 0, 0, 1, 0)) hx hb hml hown hK (zwd_mem hw) hOK2.2.2.2.2.1 hKi (AsV := [Value.int a, Value.int b]) rfl rfl (show 1 ≤ 8 by decide) hMet rfl rfl (show 81 + 1 ≤ 90 by decide) (show 8 + (2 + 11) + 64 * 81 ≤ 64 * 90 by decide) (fun a U g mk hp => ⟨hp.1, zKn.same (s := U) rfl hp.2.1, (hp.2.2).moved (u := U) (Vm.Alike.refl U.vm)⟩) (fun U hU hW => ⟨rfl, hK.warm hW, by rw [hU]; exact hI.moved hW.alike⟩) ⟨Nat.zero_le _, Nat.zero_le _⟩ hent.1 (hdc 3 _ _ _ rfl (by decide))
    · exact zyrow_sN (en2 := (zxi213, 2, 2, 11, 213, 0, 0, 1, 0)) hx hb hml hown hK (zwd_mem hw) hOK2.2.2.2.2.1 hKi (AsV := [Value.int a, Value.int b]) rfl rfl (show 1 ≤ 8 by decide) hMet rfl rfl (show 81 + 1 ≤ 90 by decide) (show 8 + (2 + 11) + 64 * 81 ≤ 64 * 90 by decide) (fun a U g mk hp => ⟨hp.1, zKn.same (s := U) rfl hp.2.1, (hp.2.2).moved (u := U) (Vm.Alike.refl U.vm)⟩) (fun U hU hW => ⟨rfl, hK.warm hW, by rw [hU]; exact hI.moved hW.alike⟩) ⟨Nat.zero_le _, Nat.zero_le _⟩ hent.1 (hdc 3 _ _ _ rfl (by decide))
  refine zycont hrun (fun x hx => by cases hx) (fun st₀ t vo locs2 hh0 hQ hal hlo2 => ?_)
  obtain ⟨z, ho, hz, -, -, hh⟩ := hQ
  cases ho
  have hH : t.heap = s.heap := hh.trans hh0
  rw [hH]
  refine lv_idiv hx hb (hdc 6 _ _ _ rfl (by decide)) hz (lv_iload_n hx hb (hdc 7 _ _ _ rfl (by decide)) rfl (lv_at hent 1 rfl) (lv_imul hx hb (hdc 8 _ _ _ rfl (by decide)) (W.zret hx hb (by rw [Bd.returns]; exact hret) rfl (fun t2 ht hW => ?_) hlo2 (hdc 9 _ _ _ rfl (by decide)) hlocks)))
  exact ⟨some (.int (a / z * b)), rfl, zyv_bd (lo := 0) (hi := 4294967295) (Nat.zero_le _) (by have := zB_lt (a / z * b); omega) (by decide), hK.warm hW, by rw [ht]; exact hI.moved hW.alike, (fun q hq => by cases hq), fun a k _ => by rw [ht], fun q _ => by rw [ht]⟩
end
