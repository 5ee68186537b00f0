/-! A STEP IS TRIED: tries -/
def zsl (E : zyEm) (j : Nat) : Nat := zyN1 (zyI E 77 j)
theorem zsl_el {r c : Nat} {E : zyEm} (hT : zyTy (zymr r c) E) {i : Nat} (hi : i < 8) : E 77 i = some (.int (Int32.ofNat (zsl E i))) ∧ zsl E i < 80 := by
  obtain ⟨x, h1, h2, h3⟩ := (hT 77 (20, 8, [(0, 7, 73786976312018076282)]) i rfl (show i < 8 from hi) (0, 7, 73786976312018076282) List.mem_cons_self (Nat.zero_le _) (by dsimp only; omega)).1 rfl
  have h2 : 2147483648 ≤ zB x := h2
  have h3 : zB x ≤ 2147483727 := h3
  have e : zsl E i = zyN1 x := by
    unfold zsl zyI
    rw [h1]
  obtain ⟨q1, q2⟩ := zyOn h2
  rw [e]
  exact ⟨by rw [h1, ← q1], by omega⟩
theorem zsl_eq {E E2 : zyEm} {j : Nat} (h : E2 77 j = E 77 j) : zsl E2 j = zsl E j := by
  unfold zsl
  rw [zyI_eq h]
def zyFtr (E E2 : zyEm) : Prop := ∀ a k, ¬ a = 78 → ¬ (a = 74 ∧ 15 ≤ k ∧ k ≤ 17) → E2 a k = E a k
def zyΦtr (K : Nat) (_ : List Int32) (E : zyEm) : Prop := ∃ m : Nat, m ≤ 8 ∧ E 75 2 = some (.int (Int32.ofNat m)) ∧ ∀ b, b < m → zsl E b < K
def zyΨtr (K : Nat) (_ : List Int32) (E E2 : zyEm) (vo : Option Value) : Prop := zyFtr E E2 ∧ ∃ z : Int32, vo = some (.int z) ∧ (z = 0 ∨ z = 1) ∧ (z = 1 → ∀ m : Nat, m ≤ 8 → E 75 2 = some (.int (Int32.ofNat m)) → ∀ b, b < m → zth E2 b < K)
theorem zth_s {E : zyEm} {j s : Nat} (h : E 78 j = some (.int (Int32.ofNat s))) (hs : s < 80) : zth E j = s := by
  unfold zth
  rw [zyI_s h]
  exact zyN1_of (by omega)
theorem zytrs_run : zyAllP (fun r c => zyrS (zymr r c) zxi219 (219, 0, 0, 2, 0) 7 zptrs (fun _ _ => []) zFtrs zStrs zXtrs zRtrs 8) = true := by decide +kernel
theorem zytries {l : Launch} {r c : Nat} (h1 : 1 ≤ r) (h2 : r ≤ 4) (h3 : 1 ≤ c) (h4 : c ≤ 5) {en : zEn} {me : zMe} (hen : zG zxMeta 219 = some en) (hme : zG zMeth 219 = some me) : zyHc l (zymr r c) en me 7 1 (zyΦtr (zgNS r c)) (zyΨtr (zgNS r c)) := by
  have een : zG zxMeta 219 = some (zxi219, 2, 3, 11, 219, 0, 0, 2, 0) := rfl
  obtain ⟨me1, hme1, hOK⟩ := zall hen
  rw [hme] at hme1
  cases hme1
  rw [een] at hen
  cases hen
  have hr := zyAllP_iff zytrs_run h1 h2 h3 h4
  obtain ⟨metn, hmetn, -⟩ := zall (show zG zxMeta 204 = some (zxi204, 2, 4, 11, 204, 0, 0, 1, 0) from rfl)
  have htn := zyturnH (l := l) h1 h2 h3 h4 (show zG zxMeta 204 = some (zxi204, 2, 4, 11, 204, 0, 0, 1, 0) from rfl) hmetn
  obtain ⟨memt, hmemt, -⟩ := zall (show zG zxMeta 218 = some (zxi218, 1, 5, 11, 218, 0, 0, 1, 0) from rfl)
  have hmt := zymeeting (l := l) h1 h2 h3 h4 (show zG zxMeta 218 = some (zxi218, 1, 5, 11, 218, 0, 0, 1, 0) from rfl) hmemt
  obtain ⟨meov, hmeov, -⟩ := zall (show zG zxMeta 211 = some (zxi211, 3, 4, 11, 211, 0, 0, 1, 0) from rfl)
  have hov := zyoverH (l := l) h1 h2 h3 h4 (show zG zxMeta 211 = some (zxi211, 3, 4, 11, 211, 0, 0, 1, 0) from rfl) hmeov
  refine zycutS (mi := zymr r c) hOK rfl rfl ⟨_, rfl, rfl⟩ (ι := Fin 8) (fun i => zptrs i.val) (fun _ _ => []) (fun i => zFtrs i.val) (fun i => zStrs i.val) (fun i => zXtrs i.val) (fun i => zRtrs i.val) (fun i y2 ct en2 me2 h => by cases h) 200000 (fun i => zyAll_iff hr i.val i.isLt) ⟨0, by decide⟩ ⟨rfl, rfl, rfl, rfl⟩ ⟨by decide, by decide⟩
    (fun i as E0 ρ E => ∃ m k : Nat, m ≤ 8 ∧ E0 75 2 = some (.int (Int32.ofNat m)) ∧ (∀ b, b < m → zsl E0 b < zgNS r c) ∧ zyFtr E0 E ∧ k ≤ 8 ∧ (1 ≤ i.val → ¬ i.val = 4 → ρ 2 = Int32.ofNat k) ∧ (i.val = 1 ∨ i.val = 2 → k ≤ m ∧ ∀ b, b < k → zth E b < zgNS r c) ∧ (i.val = 2 ∨ i.val = 6 → k < m ∧ ρ 3 = Int32.ofNat k ∧ ∃ s, s < zgNS r c ∧ ρ 4 = Int32.ofNat s) ∧ (i.val = 3 → k < m ∧ ∀ b, b ≤ k → zth E b < zgNS r c) ∧ (4 ≤ i.val → ∀ b, b < m → zth E b < zgNS r c) ∧ (i.val = 7 → k < m)) (fun i as E0 ρ E => if i.val = 0 then 1000 else if i.val ≤ 3 then 600 + 4 * (8 - zyN1 (ρ 2)) + (4 - i.val) else if i.val = 4 then 500 else 4 * (8 - zyN1 (ρ 2)) + (8 - i.val)) ?_ ?_ ?_
  · intro as E hlen hT hΦ
    obtain ⟨m, b1, b2, b3⟩ := hΦ
    exact ⟨zEnv_c (zyfull _) (zEnv_c (zyfull _) (zEnv_c (zyfull _) zEnv_nil)), m, 0, b1, b2, b3, fun _ _ _ _ => rfl, Nat.zero_le _, fun h => absurd (show 1 ≤ 0 from h) (by decide), fun h => absurd (show 0 = 1 ∨ 0 = 2 from h) (by decide), fun h => absurd (show 0 = 2 ∨ 0 = 6 from h) (by decide), fun h => absurd (show 0 = 3 from h) (by decide), fun h => absurd (show 4 ≤ 0 from h) (by decide), fun h => absurd (show 0 = 7 from h) (by decide)⟩
  · intro as B s Wg hRu hT0 hΦ hlen i ρ H hT hInv hIH x hx ρ2 N2 H2 locs lsB stA hAt hXs hag hfr hT2
    rcases i with ⟨i, hi⟩
    have hi2 : i = 0 ∨ i = 1 ∨ i = 2 ∨ i = 3 ∨ i = 4 ∨ i = 5 ∨ i = 6 ∨ i = 7 := by omega
    rcases hi2 with rfl | rfl | rfl | rfl | rfl | rfl | rfl | rfl
    · have hx : x ∈ [zxtrs_ax0] := hx
      have hg : ∀ k, k < 3 → ρ2 k = ρ k := hag
      have hI := hInv
      have hI : ∃ m k : Nat, m ≤ 8 ∧ (zyEl (zymr r c) B s.heap) 75 2 = some (.int (Int32.ofNat m)) ∧ (∀ b, b < m → zsl (zyEl (zymr r c) B s.heap) b < zgNS r c) ∧ zyFtr (zyEl (zymr r c) B s.heap) (zyEl (zymr r c) B H) ∧ k ≤ 8 ∧ (1 ≤ 0 → ¬ 0 = 4 → ρ 2 = Int32.ofNat k) ∧ (0 = 1 ∨ 0 = 2 → k ≤ m ∧ ∀ b, b < k → zth (zyEl (zymr r c) B H) b < zgNS r c) ∧ (0 = 2 ∨ 0 = 6 → k < m ∧ ρ 3 = Int32.ofNat k ∧ ∃ s, s < zgNS r c ∧ ρ 4 = Int32.ofNat s) ∧ (0 = 3 → k < m ∧ ∀ b, b ≤ k → zth (zyEl (zymr r c) B H) b < zgNS r c) ∧ (4 ≤ 0 → ∀ b, b < m → zth (zyEl (zymr r c) B H) b < zgNS r c) ∧ (0 = 7 → k < m) := hI
      obtain ⟨hF, hB, hM⟩ := hXs
      have hEE : (zyEl (zymr r c) B H2) = (zyEl (zymr r c) B H) := zyfr0 hfr
      have ex := List.mem_singleton.mp hx
      subst ex
      obtain ⟨m, k, hm, s1, s2, i1, hk, i2, i3, i4, i5, i6, i7⟩ := hI
      have T1 : zyTy (zymr r c) (zyEl (zymr r c) B H) := hT
      have n80 : zgNS r c ≤ 80 := zgNS_le h2 h4
      refine zyGoB hIH hAt hB ⟨1, by decide⟩ [595, 34359738369, 0] rfl rfl rfl rfl ⟨m, 0, hm, s1, s2, by rw [hEE]; exact i1, Nat.zero_le _, fun _ _ => rfl, fun _ => ⟨Nat.zero_le _, fun b hb => absurd hb (Nat.not_lt_zero b)⟩, fun h => absurd (show 1 = 2 ∨ 1 = 6 from h) (by decide), fun h => absurd (show 1 = 3 from h) (by decide), fun h => absurd (show 4 ≤ 1 from h) (by decide), fun h => absurd (show 1 = 7 from h) (by decide)⟩ ?_
      show 600 + 4 * (8 - zyN1 (Int32.ofNat 0)) + (4 - 1) < 1000
      omega
    · have hx : x ∈ [zxtrs_bx0, zxtrs_bx1] := hx
      have hg : ∀ k, k < 3 → ρ2 k = ρ k := hag
      have hI := hInv
      have hI : ∃ m k : Nat, m ≤ 8 ∧ (zyEl (zymr r c) B s.heap) 75 2 = some (.int (Int32.ofNat m)) ∧ (∀ b, b < m → zsl (zyEl (zymr r c) B s.heap) b < zgNS r c) ∧ zyFtr (zyEl (zymr r c) B s.heap) (zyEl (zymr r c) B H) ∧ k ≤ 8 ∧ (1 ≤ 1 → ¬ 1 = 4 → ρ 2 = Int32.ofNat k) ∧ (1 = 1 ∨ 1 = 2 → k ≤ m ∧ ∀ b, b < k → zth (zyEl (zymr r c) B H) b < zgNS r c) ∧ (1 = 2 ∨ 1 = 6 → k < m ∧ ρ 3 = Int32.ofNat k ∧ ∃ s, s < zgNS r c ∧ ρ 4 = Int32.ofNat s) ∧ (1 = 3 → k < m ∧ ∀ b, b ≤ k → zth (zyEl (zymr r c) B H) b < zgNS r c) ∧ (4 ≤ 1 → ∀ b, b < m → zth (zyEl (zymr r c) B H) b < zgNS r c) ∧ (1 = 7 → k < m) := hI
      obtain ⟨hF, hB, hM⟩ := hXs
      have hEE : (zyEl (zymr r c) B H2) = (zyEl (zymr r c) B H) := zyfr0 hfr
      rcases List.mem_cons.mp hx with ex | hx
      · subst ex
        obtain ⟨m, k, hm, s1, s2, i1, hk, i2, i3, i4, i5, i6, i7⟩ := hI
        have T1 : zyTy (zymr r c) (zyEl (zymr r c) B H) := hT
        have n80 : zgNS r c ≤ 80 := zgNS_le h2 h4
        have a2 : ρ2 2 = Int32.ofNat k := (hg 2 (by decide)).trans (i2 (by decide) (by decide))
        obtain ⟨n3, w1, w2, w3⟩ := zyXe hF 0 rfl
        have w1 : Int32.ofNat 2 = Int32.ofNat n3 := w1
        have w3 : zyEl (zymr r c) B H 75 n3 = some (.int (ρ2 3)) := w3
        have em : ρ2 3 = Int32.ofNat m := zyEk w1 (by decide) w2 w3 ((i1 75 2 (by decide) (fun z => absurd z.1 (by decide))).trans s1)
        have f1 := zyX20 hF 1 rfl
        have f1 : ρ2 2 < ρ2 3 := f1
        rw [a2, em, zyOl (by omega) (by omega)] at f1
        obtain ⟨na, u1, u2, u3⟩ := zyXe hF 2 rfl
        have u1 : ρ2 2 = Int32.ofNat na := u1
        have u3 : zyEl (zymr r c) B H 77 na = some (.int (ρ2 4)) := u3
        rw [a2] at u1
        have e4 := zyEk u1 (by omega) u2 u3 (zsl_el T1 (i := k) (by omega)).1
        obtain ⟨km, kv⟩ := i3 (Or.inl rfl)
        have k4 : zsl (zyEl (zymr r c) B H) k < zgNS r c := by
          rw [zsl_eq (i1 77 k (by decide) (fun z => absurd z.1 (by decide)))]
          exact s2 k f1
        refine zyCaV hRu hIH hAt hB htn (ix := 148) (ax := 3264) rfl rfl rfl hmetn ⟨rfl, rfl, rfl, rfl⟩ (by decide) [137438953473] [68719476737, 627] rfl (by decide) (by decide) rfl ⟨2, by decide⟩ [595, 34359738369, 68719476737, 68719476737] [(0, 4294967295), (0, 4294967295), (2147483648, 2147483655), (2147483648, 2147483655)] 2147483648 2147483727 rfl (by decide) rfl rfl rfl rfl [103079215105, 627] rfl rfl ?_ ?_
        · show zyΦs _ [ρ2 4] _
          rw [e4]
          exact ⟨_, k4, rfl⟩
        · intro E3 vo hT3 hΨ
          have hΨ : zyΨs _ _ [ρ2 4] _ E3 vo := hΨ
          rw [e4, hEE] at hΨ
          obtain ⟨e3, hq⟩ := hΨ
          subst e3
          have ez := hq _ k4 rfl
          have fb := (zgfacts h1 h2 h3 h4 k4).1
          refine ⟨_, ez, ?_, ?_, ⟨m, k, hm, s1, s2, i1, hk, fun _ _ => (zyρi_n (by decide)).trans a2, fun _ => ⟨km, kv⟩, fun _ => ⟨f1, (zyρi_n (by decide)).trans a2, _, fb, zyρi_e⟩, fun h => absurd (show 2 = 3 from h) (by decide), fun h => absurd (show 4 ≤ 2 from h) (by decide), fun h => absurd (show 2 = 7 from h) (by decide)⟩, ?_⟩
          · rw [zyBn (by omega)]
            omega
          · rw [zyBn (by omega)]
            omega
          · show 600 + 4 * (8 - zyN1 (ρ2 2)) + (4 - 2) < 600 + 4 * (8 - zyN1 (ρ 2)) + (4 - 1)
            rw [hg 2 (by decide)]
            omega
      · skip
        have ex := List.mem_singleton.mp hx
        subst ex
        obtain ⟨m, k, hm, s1, s2, i1, hk, i2, i3, i4, i5, i6, i7⟩ := hI
        have T1 : zyTy (zymr r c) (zyEl (zymr r c) B H) := hT
        have n80 : zgNS r c ≤ 80 := zgNS_le h2 h4
        have a2 : ρ2 2 = Int32.ofNat k := (hg 2 (by decide)).trans (i2 (by decide) (by decide))
        obtain ⟨n3, w1, w2, w3⟩ := zyXe hF 0 rfl
        have w1 : Int32.ofNat 2 = Int32.ofNat n3 := w1
        have w3 : zyEl (zymr r c) B H 75 n3 = some (.int (ρ2 3)) := w3
        have em : ρ2 3 = Int32.ofNat m := zyEk w1 (by decide) w2 w3 ((i1 75 2 (by decide) (fun z => absurd z.1 (by decide))).trans s1)
        have f1 := zyX21 hF 1 rfl
        have f1 : ¬ ρ2 2 < ρ2 3 := f1
        rw [a2, em, zyOl (by omega) (by omega)] at f1
        obtain ⟨km, kv⟩ := i3 (Or.inl rfl)
        refine zyCaV hRu hIH hAt hB hmt (ix := 176) (ax := 3488) rfl rfl rfl hmemt ⟨rfl, rfl, rfl, rfl⟩ (by decide) [] [595] rfl (by decide) (by decide) rfl ⟨4, by decide⟩ [595, 34359738369, 0] [(0, 4294967295), (0, 4294967295), (0, 4294967295)] 2147483647 2147483678 rfl (by decide) rfl rfl rfl rfl [595] rfl rfl ?_ ?_
        · show zyΦme _ [] _
          rw [hEE]
          exact ⟨m, hm, (i1 75 2 (by decide) (fun z => absurd z.1 (by decide))).trans s1, fun b hb => kv b (by omega)⟩
        · intro E3 vo hT3 hΨ
          have hΨ : zyΨme [] _ E3 vo := hΨ
          rw [hEE] at hΨ
          obtain ⟨p1, z, ez, z1, z2⟩ := hΨ
          refine ⟨z, ez, z1, z2, ⟨m, 0, hm, s1, s2, fun a k n1 n2 => (p1 a k (fun z => n2 ⟨z.1, by omega, by omega⟩)).trans (i1 a k n1 n2), Nat.zero_le _, fun _ h => absurd rfl h, fun h => absurd (show 4 = 1 ∨ 4 = 2 from h) (by decide), fun h => absurd (show 4 = 2 ∨ 4 = 6 from h) (by decide), fun h => absurd (show 4 = 3 from h) (by decide), fun _ => fun b hb => by rw [zth_eq (p1 78 b (fun z => absurd z.1 (by decide)))]; exact kv b (by omega), fun h => absurd (show 4 = 7 from h) (by decide)⟩, ?_⟩
          show 500 < 600 + 4 * (8 - zyN1 (ρ 2)) + (4 - 1)
          omega
    · have hx : x ∈ [zxtrs_cx0] := hx
      have hg : ∀ k, k < 5 → ρ2 k = ρ k := hag
      have hI := hInv
      have hI : ∃ m k : Nat, m ≤ 8 ∧ (zyEl (zymr r c) B s.heap) 75 2 = some (.int (Int32.ofNat m)) ∧ (∀ b, b < m → zsl (zyEl (zymr r c) B s.heap) b < zgNS r c) ∧ zyFtr (zyEl (zymr r c) B s.heap) (zyEl (zymr r c) B H) ∧ k ≤ 8 ∧ (1 ≤ 2 → ¬ 2 = 4 → ρ 2 = Int32.ofNat k) ∧ (2 = 1 ∨ 2 = 2 → k ≤ m ∧ ∀ b, b < k → zth (zyEl (zymr r c) B H) b < zgNS r c) ∧ (2 = 2 ∨ 2 = 6 → k < m ∧ ρ 3 = Int32.ofNat k ∧ ∃ s, s < zgNS r c ∧ ρ 4 = Int32.ofNat s) ∧ (2 = 3 → k < m ∧ ∀ b, b ≤ k → zth (zyEl (zymr r c) B H) b < zgNS r c) ∧ (4 ≤ 2 → ∀ b, b < m → zth (zyEl (zymr r c) B H) b < zgNS r c) ∧ (2 = 7 → k < m) := hI
      obtain ⟨hF, hB, hM⟩ := hXs
      have hEE : (zyEl (zymr r c) B H2) = (zyEl (zymr r c) B H) := zyfr0 hfr
      have ex := List.mem_singleton.mp hx
      subst ex
      obtain ⟨m, k, hm, s1, s2, i1, hk, i2, i3, i4, i5, i6, i7⟩ := hI
      have T1 : zyTy (zymr r c) (zyEl (zymr r c) B H) := hT
      have n80 : zgNS r c ≤ 80 := zgNS_le h2 h4
      have a2 : ρ2 2 = Int32.ofNat k := (hg 2 (by decide)).trans (i2 (by decide) (by decide))
      obtain ⟨kk, a3, s', l1, a4⟩ := i4 (by decide)
      have b3 := (hg 3 (by decide)).trans a3
      have b4 := (hg 4 (by decide)).trans a4
      obtain ⟨km, kv⟩ := i3 (Or.inr rfl)
      refine zyAsB hRu hIH hAt hB 78 k (20, 8, [(0, 7, 73786976312018076282)]) rfl rfl rfl (cv := 137438953473) (cj := 103079215105) rfl (by decide) (by decide) ⟨3, by decide⟩ [595, 34359738369, 68719476737] rfl rfl rfl rfl (show k < 8 by omega) b3 ?_ ?_
      · intro r0 hr0 _ _
        rw [List.mem_singleton.mp hr0]
        refine ⟨rfl, ?_⟩
        show 2147483648 ≤ zB (ρ2 4) ∧ zB (ρ2 4) ≤ 2147483727
        rw [b4, zyBn (by omega)]
        omega
      · intro E3 hT3 p1 p2
        have p1 : E3 78 k = some (.int (ρ2 4)) := p1
        rw [b4] at p1
        rw [hEE] at p2
        have hv : ∀ b, zth E3 b = if b = k then s' else zth (zyEl (zymr r c) B H) b := fun b => by
          by_cases e : b = k
          · rw [if_pos e, e, zth_s p1 (by omega)]
          · rw [if_neg e, zth_eq (p2 78 b (fun z => e z.2))]
        refine ⟨⟨m, k, hm, s1, s2, fun a k n1 n2 => (p2 a k (fun z => n1 z.1)).trans (i1 a k n1 n2), hk, fun _ _ => a2, fun h => absurd (show 3 = 1 ∨ 3 = 2 from h) (by decide), fun h => absurd (show 3 = 2 ∨ 3 = 6 from h) (by decide), fun _ => ⟨kk, fun b hb => ?_⟩, fun h => absurd (show 4 ≤ 3 from h) (by decide), fun h => absurd (show 3 = 7 from h) (by decide)⟩, ?_⟩
        · rw [hv]
          by_cases e : b = k
          · rw [if_pos e]
            exact l1
          · rw [if_neg e]
            exact kv b (by omega)
        · show 600 + 4 * (8 - zyN1 (ρ2 2)) + (4 - 3) < 600 + 4 * (8 - zyN1 (ρ 2)) + (4 - 2)
          rw [hg 2 (by decide)]
          omega
    · have hx : x ∈ [zxtrs_dx0] := hx
      have hg : ∀ k, k < 3 → ρ2 k = ρ k := hag
      have hI := hInv
      have hI : ∃ m k : Nat, m ≤ 8 ∧ (zyEl (zymr r c) B s.heap) 75 2 = some (.int (Int32.ofNat m)) ∧ (∀ b, b < m → zsl (zyEl (zymr r c) B s.heap) b < zgNS r c) ∧ zyFtr (zyEl (zymr r c) B s.heap) (zyEl (zymr r c) B H) ∧ k ≤ 8 ∧ (1 ≤ 3 → ¬ 3 = 4 → ρ 2 = Int32.ofNat k) ∧ (3 = 1 ∨ 3 = 2 → k ≤ m ∧ ∀ b, b < k → zth (zyEl (zymr r c) B H) b < zgNS r c) ∧ (3 = 2 ∨ 3 = 6 → k < m ∧ ρ 3 = Int32.ofNat k ∧ ∃ s, s < zgNS r c ∧ ρ 4 = Int32.ofNat s) ∧ (3 = 3 → k < m ∧ ∀ b, b ≤ k → zth (zyEl (zymr r c) B H) b < zgNS r c) ∧ (4 ≤ 3 → ∀ b, b < m → zth (zyEl (zymr r c) B H) b < zgNS r c) ∧ (3 = 7 → k < m) := hI
      obtain ⟨hF, hB, hM⟩ := hXs
      have hEE : (zyEl (zymr r c) B H2) = (zyEl (zymr r c) B H) := zyfr0 hfr
      have ex := List.mem_singleton.mp hx
      subst ex
      obtain ⟨m, k, hm, s1, s2, i1, hk, i2, i3, i4, i5, i6, i7⟩ := hI
      have T1 : zyTy (zymr r c) (zyEl (zymr r c) B H) := hT
      have n80 : zgNS r c ≤ 80 := zgNS_le h2 h4
      have a2 : ρ2 2 = Int32.ofNat k := (hg 2 (by decide)).trans (i2 (by decide) (by decide))
      have a2' : ρ2 2 + Int32.ofNat 1 = Int32.ofNat (k + 1) := by rw [a2, zyOa]
      obtain ⟨kk, kv⟩ := i5 rfl
      refine zyGoB hIH hAt hB ⟨1, by decide⟩ [595, 34359738369, 68719476745] rfl rfl rfl rfl ⟨m, k + 1, hm, s1, s2, by rw [hEE]; exact i1, by omega, fun _ _ => a2', fun _ => ⟨by omega, fun b hb => by rw [hEE]; exact kv b (by omega)⟩, fun h => absurd (show 1 = 2 ∨ 1 = 6 from h) (by decide), fun h => absurd (show 1 = 3 from h) (by decide), fun h => absurd (show 4 ≤ 1 from h) (by decide), fun h => absurd (show 1 = 7 from h) (by decide)⟩ ?_
      show 600 + 4 * (8 - zyN1 (ρ2 2 + Int32.ofNat 1)) + (4 - 1) < 600 + 4 * (8 - zyN1 (ρ 2)) + (4 - 3)
      rw [a2', i2 (by decide) (by decide), zyN1_of (by omega), zyN1_of (by omega)]
      omega
    · have hx : x ∈ [zxtrs_ex0] := hx
      have hg : ∀ k, k < 4 → ρ2 k = ρ k := hag
      have hI := hInv
      have hI : ∃ m k : Nat, m ≤ 8 ∧ (zyEl (zymr r c) B s.heap) 75 2 = some (.int (Int32.ofNat m)) ∧ (∀ b, b < m → zsl (zyEl (zymr r c) B s.heap) b < zgNS r c) ∧ zyFtr (zyEl (zymr r c) B s.heap) (zyEl (zymr r c) B H) ∧ k ≤ 8 ∧ (1 ≤ 4 → ¬ 4 = 4 → ρ 2 = Int32.ofNat k) ∧ (4 = 1 ∨ 4 = 2 → k ≤ m ∧ ∀ b, b < k → zth (zyEl (zymr r c) B H) b < zgNS r c) ∧ (4 = 2 ∨ 4 = 6 → k < m ∧ ρ 3 = Int32.ofNat k ∧ ∃ s, s < zgNS r c ∧ ρ 4 = Int32.ofNat s) ∧ (4 = 3 → k < m ∧ ∀ b, b ≤ k → zth (zyEl (zymr r c) B H) b < zgNS r c) ∧ (4 ≤ 4 → ∀ b, b < m → zth (zyEl (zymr r c) B H) b < zgNS r c) ∧ (4 = 7 → k < m) := hI
      obtain ⟨hF, hB, hM⟩ := hXs
      have hfr : ∀ a k, zyin [(74, 15, 15)] a k = false → (zyEl (zymr r c) B H2) a k = (zyEl (zymr r c) B H) a k := hfr
      have ex := List.mem_singleton.mp hx
      subst ex
      obtain ⟨m, k, hm, s1, s2, i1, hk, i2, i3, i4, i5, i6, i7⟩ := hI
      have T1 : zyTy (zymr r c) (zyEl (zymr r c) B H) := hT
      have n80 : zgNS r c ≤ 80 := zgNS_le h2 h4
      have kv := i6 (by decide)
      have hk1 := zyfr1 hfr
      refine zyGoB hIH hAt hB ⟨5, by decide⟩ [595, 34359738369, 0] rfl rfl rfl rfl ⟨m, 0, hm, s1, s2, fun a k n1 n2 => (hk1 a k (fun z => n2 ⟨z.1, by omega, by omega⟩)).trans (i1 a k n1 n2), Nat.zero_le _, fun _ _ => rfl, fun h => absurd (show 5 = 1 ∨ 5 = 2 from h) (by decide), fun h => absurd (show 5 = 2 ∨ 5 = 6 from h) (by decide), fun h => absurd (show 5 = 3 from h) (by decide), fun _ => fun b hb => by rw [zth_eq (hk1 78 b (fun z => absurd z.1 (by decide)))]; exact kv b hb, fun h => absurd (show 5 = 7 from h) (by decide)⟩ ?_
      show 4 * (8 - zyN1 (Int32.ofNat 0)) + (8 - 5) < 500
      omega
    · have hx : x ∈ [zxtrs_fx0] := hx
      have hg : ∀ k, k < 3 → ρ2 k = ρ k := hag
      have hI := hInv
      have hI : ∃ m k : Nat, m ≤ 8 ∧ (zyEl (zymr r c) B s.heap) 75 2 = some (.int (Int32.ofNat m)) ∧ (∀ b, b < m → zsl (zyEl (zymr r c) B s.heap) b < zgNS r c) ∧ zyFtr (zyEl (zymr r c) B s.heap) (zyEl (zymr r c) B H) ∧ k ≤ 8 ∧ (1 ≤ 5 → ¬ 5 = 4 → ρ 2 = Int32.ofNat k) ∧ (5 = 1 ∨ 5 = 2 → k ≤ m ∧ ∀ b, b < k → zth (zyEl (zymr r c) B H) b < zgNS r c) ∧ (5 = 2 ∨ 5 = 6 → k < m ∧ ρ 3 = Int32.ofNat k ∧ ∃ s, s < zgNS r c ∧ ρ 4 = Int32.ofNat s) ∧ (5 = 3 → k < m ∧ ∀ b, b ≤ k → zth (zyEl (zymr r c) B H) b < zgNS r c) ∧ (4 ≤ 5 → ∀ b, b < m → zth (zyEl (zymr r c) B H) b < zgNS r c) ∧ (5 = 7 → k < m) := hI
      obtain ⟨hF, hB, hM⟩ := hXs
      have hEE : (zyEl (zymr r c) B H2) = (zyEl (zymr r c) B H) := zyfr0 hfr
      have ex := List.mem_singleton.mp hx
      subst ex
      obtain ⟨m, k, hm, s1, s2, i1, hk, i2, i3, i4, i5, i6, i7⟩ := hI
      have T1 : zyTy (zymr r c) (zyEl (zymr r c) B H) := hT
      have n80 : zgNS r c ≤ 80 := zgNS_le h2 h4
      have a2 : ρ2 2 = Int32.ofNat k := (hg 2 (by decide)).trans (i2 (by decide) (by decide))
      obtain ⟨n3, w1, w2, w3⟩ := zyXe hF 0 rfl
      have w1 : Int32.ofNat 2 = Int32.ofNat n3 := w1
      have w3 : zyEl (zymr r c) B H 75 n3 = some (.int (ρ2 3)) := w3
      have em : ρ2 3 = Int32.ofNat m := zyEk w1 (by decide) w2 w3 ((i1 75 2 (by decide) (fun z => absurd z.1 (by decide))).trans s1)
      have f1 := zyX20 hF 1 rfl
      have f1 : ρ2 2 < ρ2 3 := f1
      rw [a2, em, zyOl (by omega) (by omega)] at f1
      obtain ⟨na, u1, u2, u3⟩ := zyXe hF 2 rfl
      have u1 : ρ2 2 = Int32.ofNat na := u1
      have u3 : zyEl (zymr r c) B H 78 na = some (.int (ρ2 4)) := u3
      rw [a2] at u1
      have e4 := zyEk u1 (by omega) u2 u3 (zth_el T1 (i := k) (by omega)).1
      have kv := i6 (by decide)
      have k4 := kv k f1
      refine zyCaV hRu hIH hAt hB hov (ix := 151) (ax := 3376) rfl rfl rfl hmeov ⟨rfl, rfl, rfl, rfl⟩ (by decide) [137438953473, 34359738369] [68719476737, 627] rfl (by decide) (by decide) rfl ⟨6, by decide⟩ [595, 34359738369, 68719476737, 68719476737] [(0, 4294967295), (0, 4294967295), (2147483648, 2147483655), (2147483648, 2147483655)] 2147483648 2147483727 rfl (by decide) rfl rfl rfl rfl [103079215105, 627] rfl rfl ?_ ?_
      · show zyΦov _ [ρ2 4, ρ2 1] _
        rw [e4]
        exact ⟨_, _, k4, rfl⟩
      · intro E3 vo hT3 hΨ
        have hΨ : zyΨov _ [ρ2 4, ρ2 1] _ E3 vo := hΨ
        rw [hEE] at hΨ
        obtain ⟨e3, s', l1, ez⟩ := hΨ
        subst e3
        refine ⟨_, ez, ?_, ?_, ⟨m, k, hm, s1, s2, i1, hk, fun _ _ => (zyρi_n (by decide)).trans a2, fun h => absurd (show 6 = 1 ∨ 6 = 2 from h) (by decide), fun _ => ⟨f1, (zyρi_n (by decide)).trans a2, _, l1, zyρi_e⟩, fun h => absurd (show 6 = 3 from h) (by decide), fun _ => kv, fun h => absurd (show 6 = 7 from h) (by decide)⟩, ?_⟩
        · rw [zyBn (by omega)]
          omega
        · rw [zyBn (by omega)]
          omega
        · show 4 * (8 - zyN1 (ρ2 2)) + (8 - 6) < 4 * (8 - zyN1 (ρ 2)) + (8 - 5)
          rw [hg 2 (by decide)]
          omega
    · have hx : x ∈ [zxtrs_gx0] := hx
      have hg : ∀ k, k < 5 → ρ2 k = ρ k := hag
      have hI := hInv
      have hI : ∃ m k : Nat, m ≤ 8 ∧ (zyEl (zymr r c) B s.heap) 75 2 = some (.int (Int32.ofNat m)) ∧ (∀ b, b < m → zsl (zyEl (zymr r c) B s.heap) b < zgNS r c) ∧ zyFtr (zyEl (zymr r c) B s.heap) (zyEl (zymr r c) B H) ∧ k ≤ 8 ∧ (1 ≤ 6 → ¬ 6 = 4 → ρ 2 = Int32.ofNat k) ∧ (6 = 1 ∨ 6 = 2 → k ≤ m ∧ ∀ b, b < k → zth (zyEl (zymr r c) B H) b < zgNS r c) ∧ (6 = 2 ∨ 6 = 6 → k < m ∧ ρ 3 = Int32.ofNat k ∧ ∃ s, s < zgNS r c ∧ ρ 4 = Int32.ofNat s) ∧ (6 = 3 → k < m ∧ ∀ b, b ≤ k → zth (zyEl (zymr r c) B H) b < zgNS r c) ∧ (4 ≤ 6 → ∀ b, b < m → zth (zyEl (zymr r c) B H) b < zgNS r c) ∧ (6 = 7 → k < m) := hI
      obtain ⟨hF, hB, hM⟩ := hXs
      have hEE : (zyEl (zymr r c) B H2) = (zyEl (zymr r c) B H) := zyfr0 hfr
      have ex := List.mem_singleton.mp hx
      subst ex
      obtain ⟨m, k, hm, s1, s2, i1, hk, i2, i3, i4, i5, i6, i7⟩ := hI
      have T1 : zyTy (zymr r c) (zyEl (zymr r c) B H) := hT
      have n80 : zgNS r c ≤ 80 := zgNS_le h2 h4
      have a2 : ρ2 2 = Int32.ofNat k := (hg 2 (by decide)).trans (i2 (by decide) (by decide))
      obtain ⟨kk, a3, s', l1, a4⟩ := i4 (by decide)
      have b3 := (hg 3 (by decide)).trans a3
      have b4 := (hg 4 (by decide)).trans a4
      have kv := i6 (by decide)
      refine zyAsB hRu hIH hAt hB 78 k (20, 8, [(0, 7, 73786976312018076282)]) rfl rfl rfl (cv := 137438953473) (cj := 103079215105) rfl (by decide) (by decide) ⟨7, by decide⟩ [595, 34359738369, 68719476737] rfl rfl rfl rfl (show k < 8 by omega) b3 ?_ ?_
      · intro r0 hr0 _ _
        rw [List.mem_singleton.mp hr0]
        refine ⟨rfl, ?_⟩
        show 2147483648 ≤ zB (ρ2 4) ∧ zB (ρ2 4) ≤ 2147483727
        rw [b4, zyBn (by omega)]
        omega
      · intro E3 hT3 p1 p2
        have p1 : E3 78 k = some (.int (ρ2 4)) := p1
        rw [b4] at p1
        rw [hEE] at p2
        have hv : ∀ b, zth E3 b = if b = k then s' else zth (zyEl (zymr r c) B H) b := fun b => by
          by_cases e : b = k
          · rw [if_pos e, e, zth_s p1 (by omega)]
          · rw [if_neg e, zth_eq (p2 78 b (fun z => e z.2))]
        refine ⟨⟨m, k, hm, s1, s2, fun a k n1 n2 => (p2 a k (fun z => n1 z.1)).trans (i1 a k n1 n2), hk, fun _ _ => a2, fun h => absurd (show 7 = 1 ∨ 7 = 2 from h) (by decide), fun h => absurd (show 7 = 2 ∨ 7 = 6 from h) (by decide), fun h => absurd (show 7 = 3 from h) (by decide), fun _ => fun b hb => ?_, fun _ => kk⟩, ?_⟩
        · rw [hv]
          by_cases e : b = k
          · rw [if_pos e]
            exact l1
          · rw [if_neg e]
            exact kv b hb
        · show 4 * (8 - zyN1 (ρ2 2)) + (8 - 7) < 4 * (8 - zyN1 (ρ 2)) + (8 - 6)
          rw [hg 2 (by decide)]
          omega
    · have hx : x ∈ [zxtrs_hx0] := hx
      have hg : ∀ k, k < 3 → ρ2 k = ρ k := hag
      have hI := hInv
      have hI : ∃ m k : Nat, m ≤ 8 ∧ (zyEl (zymr r c) B s.heap) 75 2 = some (.int (Int32.ofNat m)) ∧ (∀ b, b < m → zsl (zyEl (zymr r c) B s.heap) b < zgNS r c) ∧ zyFtr (zyEl (zymr r c) B s.heap) (zyEl (zymr r c) B H) ∧ k ≤ 8 ∧ (1 ≤ 7 → ¬ 7 = 4 → ρ 2 = Int32.ofNat k) ∧ (7 = 1 ∨ 7 = 2 → k ≤ m ∧ ∀ b, b < k → zth (zyEl (zymr r c) B H) b < zgNS r c) ∧ (7 = 2 ∨ 7 = 6 → k < m ∧ ρ 3 = Int32.ofNat k ∧ ∃ s, s < zgNS r c ∧ ρ 4 = Int32.ofNat s) ∧ (7 = 3 → k < m ∧ ∀ b, b ≤ k → zth (zyEl (zymr r c) B H) b < zgNS r c) ∧ (4 ≤ 7 → ∀ b, b < m → zth (zyEl (zymr r c) B H) b < zgNS r c) ∧ (7 = 7 → k < m) := hI
      obtain ⟨hF, hB, hM⟩ := hXs
      have hEE : (zyEl (zymr r c) B H2) = (zyEl (zymr r c) B H) := zyfr0 hfr
      have ex := List.mem_singleton.mp hx
      subst ex
      obtain ⟨m, k, hm, s1, s2, i1, hk, i2, i3, i4, i5, i6, i7⟩ := hI
      have T1 : zyTy (zymr r c) (zyEl (zymr r c) B H) := hT
      have n80 : zgNS r c ≤ 80 := zgNS_le h2 h4
      have a2 : ρ2 2 = Int32.ofNat k := (hg 2 (by decide)).trans (i2 (by decide) (by decide))
      have a2' : ρ2 2 + Int32.ofNat 1 = Int32.ofNat (k + 1) := by rw [a2, zyOa]
      have kv := i6 (by decide)
      have kk := i7 rfl
      refine zyGoB hIH hAt hB ⟨5, by decide⟩ [595, 34359738369, 68719476745] rfl rfl rfl rfl ⟨m, k + 1, hm, s1, s2, by rw [hEE]; exact i1, by omega, fun _ _ => a2', fun h => absurd (show 5 = 1 ∨ 5 = 2 from h) (by decide), fun h => absurd (show 5 = 2 ∨ 5 = 6 from h) (by decide), fun h => absurd (show 5 = 3 from h) (by decide), fun _ => fun b hb => by rw [hEE]; exact kv b hb, fun h => absurd (show 5 = 7 from h) (by decide)⟩ ?_
      show 4 * (8 - zyN1 (ρ2 2 + Int32.ofNat 1)) + (8 - 5) < 4 * (8 - zyN1 (ρ 2)) + (8 - 7)
      rw [a2', i2 (by decide) (by decide), zyN1_of (by omega), zyN1_of (by omega)]
      omega
  · intro as E0 E E2 hT0 hΦ hlen i ρ hT hInv x hx ρ2 N2 B vo hXs hag hfr hT2 hvo
    rcases i with ⟨i, hi⟩
    have hi2 : i = 0 ∨ i = 1 ∨ i = 2 ∨ i = 3 ∨ i = 4 ∨ i = 5 ∨ i = 6 ∨ i = 7 := by omega
    rcases hi2 with rfl | rfl | rfl | rfl | rfl | rfl | rfl | rfl
    · cases hx
    · cases hx
    · cases hx
    · cases hx
    · have hx : x ∈ [zxtrs_er0] := hx
      have hg : ∀ k, k < 4 → ρ2 k = ρ k := hag
      have hI := hInv
      have hI : ∃ m k : Nat, m ≤ 8 ∧ E0 75 2 = some (.int (Int32.ofNat m)) ∧ (∀ b, b < m → zsl E0 b < zgNS r c) ∧ zyFtr E0 E ∧ k ≤ 8 ∧ (1 ≤ 4 → ¬ 4 = 4 → ρ 2 = Int32.ofNat k) ∧ (4 = 1 ∨ 4 = 2 → k ≤ m ∧ ∀ b, b < k → zth E b < zgNS r c) ∧ (4 = 2 ∨ 4 = 6 → k < m ∧ ρ 3 = Int32.ofNat k ∧ ∃ s, s < zgNS r c ∧ ρ 4 = Int32.ofNat s) ∧ (4 = 3 → k < m ∧ ∀ b, b ≤ k → zth E b < zgNS r c) ∧ (4 ≤ 4 → ∀ b, b < m → zth E b < zgNS r c) ∧ (4 = 7 → k < m) := hI
      obtain ⟨hF, hB, hM⟩ := hXs
      have hfr : ∀ a k, zyin [(74, 15, 15)] a k = false → E2 a k = E a k := hfr
      have ex := List.mem_singleton.mp hx
      subst ex
      obtain ⟨m, k, hm, s1, s2, i1, hk, i2, i3, i4, i5, i6, i7⟩ := hI
      have hk1 := zyfr1 hfr
      exact ⟨fun a k n1 n2 => (hk1 a k (fun z => n2 ⟨z.1, by omega, by omega⟩)).trans (i1 a k n1 n2), 0, zyvo_1 (c := 0) (by decide) (show zyvo (zyXn B ρ2 N2) [0] vo from hvo), Or.inl rfl, fun q => absurd q (by decide)⟩
    · have hx : x ∈ [zxtrs_fr0] := hx
      have hg : ∀ k, k < 3 → ρ2 k = ρ k := hag
      have hI := hInv
      have hI : ∃ m k : Nat, m ≤ 8 ∧ E0 75 2 = some (.int (Int32.ofNat m)) ∧ (∀ b, b < m → zsl E0 b < zgNS r c) ∧ zyFtr E0 E ∧ k ≤ 8 ∧ (1 ≤ 5 → ¬ 5 = 4 → ρ 2 = Int32.ofNat k) ∧ (5 = 1 ∨ 5 = 2 → k ≤ m ∧ ∀ b, b < k → zth E b < zgNS r c) ∧ (5 = 2 ∨ 5 = 6 → k < m ∧ ρ 3 = Int32.ofNat k ∧ ∃ s, s < zgNS r c ∧ ρ 4 = Int32.ofNat s) ∧ (5 = 3 → k < m ∧ ∀ b, b ≤ k → zth E b < zgNS r c) ∧ (4 ≤ 5 → ∀ b, b < m → zth E b < zgNS r c) ∧ (5 = 7 → k < m) := hI
      obtain ⟨hF, hB, hM⟩ := hXs
      have hEE : E2 = E := zyfr0 hfr
      have ex := List.mem_singleton.mp hx
      subst ex
      obtain ⟨m, k, hm, s1, s2, i1, hk, i2, i3, i4, i5, i6, i7⟩ := hI
      rw [hEE]
      refine ⟨i1, 1, zyvo_1 (c := 8) (by decide) (show zyvo (zyXn B ρ2 N2) [8] vo from hvo), Or.inr rfl, fun _ m' c1 c2 => ?_⟩
      rw [s1] at c2
      have e1 := zyOi (by omega) (by omega) (Value.int.inj (Option.some.inj c2))
      subst e1
      exact i6 (by decide)
    · cases hx
    · cases hx
