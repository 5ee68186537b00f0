/-! SLOTS ASIDE: standsNow, begins, goes -/
theorem zc_slot {r c : Nat} {E : zyEm} (hT : zyTy (zymr r c) E) (h2 : r ≤ 4) (h4 : c ≤ 5) {o b : Nat} (ho : o = 136 ∨ o = 144) (hb : b < 8) : ∃ s, s < zgNS r c ∧ E 75 (o + b) = some (.int (Int32.ofNat s)) := by
  have hn := zyrc20 h2 h4
  have key : ∃ x : Int32, E 75 (o + b) = some (.int x) ∧ zyS r c / 34359738368 ≤ zB x ∧ zB x ≤ zyS r c / 8 % 4294967296 := by
    rcases ho with rfl | rfl
    · exact (hT 75 (zymr75 r c) (136 + b) rfl (by rw [zyL75]; omega) (136, 143, zyS r c) (List.mem_of_getElem? (i := 13) rfl) (by dsimp only; omega) (by dsimp only; omega)).1 (by show zyS r c % 8 = 2; rw [zyS_def]; omega)
    · exact (hT 75 (zymr75 r c) (144 + b) rfl (by rw [zyL75]; omega) (144, 151, zyS r c) (List.mem_of_getElem? (i := 14) rfl) (by dsimp only; omega) (by dsimp only; omega)).1 (by show zyS r c % 8 = 2; rw [zyS_def]; omega)
  obtain ⟨x, e, b1, b2⟩ := key
  rw [zyS_def] at b1 b2
  obtain ⟨o1, o2⟩ := zyOn (x := x) (by omega)
  refine ⟨zyN1 x, ?_, by rw [← o1]; exact e⟩
  show zyN1 x < 4 * (r * c)
  omega
theorem zsl_s {E : zyEm} {j s : Nat} (h : E 77 j = some (.int (Int32.ofNat s))) (hs : s < 80) : zsl E j = s := by
  unfold zsl
  rw [zyI_s h]
  exact zyN1_of (by omega)
def zyΨsn (K : Nat) (_ : List Int32) (E E2 : zyEm) (vo : Option Value) : Prop := vo = none ∧ (∀ a k, ¬ a = 77 → E2 a k = E a k) ∧ ∀ m : Nat, m ≤ 8 → E 75 2 = some (.int (Int32.ofNat m)) → ∀ b, b < m → zsl E2 b < K
def zyΨbg (K : Nat) (_ : List Int32) (E E2 : zyEm) (vo : Option Value) : Prop := vo = none ∧ (∀ a k, ¬ a = 77 → ¬ (a = 74 ∧ k = 14) → E2 a k = E a k) ∧ E2 74 14 = some (.int (Int32.ofNat 0)) ∧ ∀ m : Nat, m ≤ 8 → E 75 2 = some (.int (Int32.ofNat m)) → ∀ b, b < m → zsl E2 b < K
def zyΨgs (_ : List Int32) (E E2 : zyEm) (vo : Option Value) : Prop := vo = none ∧ (∀ a k, ¬ a = 77 → E2 a k = E a k) ∧ ∀ m : Nat, m ≤ 8 → E 75 2 = some (.int (Int32.ofNat m)) → ∀ b, b < m → zsl E2 b = zth E b
theorem zysn_run : zyAllP (fun r c => zyrS (zymr r c) zxi278 (278, 0, 0, 0, 0) 1 zpsn (fun _ _ => []) zFsn zSsn zXsn zRsn 3) = true := by decide +kernel
theorem zystandsNow {l : Launch} {r c : Nat} (h1 : 1 ≤ r) (h2 : r ≤ 4) (h3 : 1 ≤ c) (h4 : c ≤ 5) {en : zEn} {me : zMe} (hen : zG zxMeta 278 = some en) (hme : zG zMeth 278 = some me) : zyHc l (zymr r c) en me 1 0 zyΦbb (zyΨsn (zgNS r c)) := by
  have een : zG zxMeta 278 = some (zxi278, 1, 2, 11, 278, 0, 0, 0, 0) := rfl
  obtain ⟨me1, hme1, hOK⟩ := zall hen
  rw [hme] at hme1
  cases hme1
  rw [een] at hen
  cases hen
  have hr := zyAllP_iff zysn_run h1 h2 h3 h4
  refine zycutS (mi := zymr r c) hOK rfl rfl ⟨_, rfl, rfl⟩ (ι := Fin 3) (fun i => zpsn i.val) (fun _ _ => []) (fun i => zFsn i.val) (fun i => zSsn i.val) (fun i => zXsn i.val) (fun i => zRsn i.val) (fun i y2 ct en2 me2 h => by cases h) 200000 (fun i => zyAll_iff hr i.val i.isLt) ⟨0, by decide⟩ ⟨rfl, rfl, rfl, rfl⟩ ⟨by decide, by decide⟩
    (fun i as E0 ρ E => (∀ a k, ¬ a = 77 → E a k = E0 a k) ∧ ∃ k : Nat, k ≤ 8 ∧ (1 ≤ i.val → i.val ≤ 2 → ρ 1 = Int32.ofNat k) ∧ (i.val = 1 → ∀ b, b < k → zsl E b < zgNS r c) ∧ (i.val = 2 → k < 8 ∧ ∀ b, b ≤ k → zsl E b < zgNS r c)) (fun i as E0 ρ E => if i.val = 0 then 100 else if i.val = 3 then 0 else 2 * (8 - zyN1 (ρ 1)) + (3 - i.val)) ?_ ?_ ?_
  · intro as E hlen hT hΦ
    exact ⟨zEnv_c (zyfull _) (zEnv_c (zyfull _) zEnv_nil), fun _ _ _ => rfl, 0, Nat.zero_le _, fun h => absurd (show 1 ≤ 0 from h) (by decide), fun h => absurd (show 0 = 1 from h) (by decide), fun h => absurd (show 0 = 2 from h) (by decide)⟩
  · intro as B s Wg hRu hT0 hΦ hlen i ρ H hT hInv hIH x hx ρ2 N2 H2 locs lsB stA hAt hXs hag hfr hT2
    rcases i with ⟨i, hi⟩
    have hi2 : i = 0 ∨ i = 1 ∨ i = 2 := by omega
    rcases hi2 with rfl | rfl | rfl
    · have hx : x ∈ [zxsn_ax0] := hx
      have hg : ∀ k, k < 2 → ρ2 k = ρ k := hag
      have hI := hInv
      have hI : (∀ a k, ¬ a = 77 → (zyEl (zymr r c) B H) a k = (zyEl (zymr r c) B s.heap) a k) ∧ ∃ k : Nat, k ≤ 8 ∧ (1 ≤ 0 → 0 ≤ 2 → ρ 1 = Int32.ofNat k) ∧ (0 = 1 → ∀ b, b < k → zsl (zyEl (zymr r c) B H) b < zgNS r c) ∧ (0 = 2 → k < 8 ∧ ∀ b, b ≤ k → zsl (zyEl (zymr r c) B H) b < zgNS r c) := hI
      obtain ⟨hF, hB, hM⟩ := hXs
      have hEE : (zyEl (zymr r c) B H2) = (zyEl (zymr r c) B H) := zyfr0 hfr
      have ex := List.mem_singleton.mp hx
      subst ex
      obtain ⟨i1, k, hk, i2, i3, i4⟩ := hI
      have T1 : zyTy (zymr r c) (zyEl (zymr r c) B H) := hT
      have n80 : zgNS r c ≤ 80 := zgNS_le h2 h4
      refine zyGoB hIH hAt hB ⟨1, by decide⟩ [595, 0] rfl rfl rfl rfl ⟨by rw [hEE]; exact i1, 0, Nat.zero_le _, fun _ _ => rfl, fun _ => fun b hb => absurd hb (Nat.not_lt_zero b), fun h => absurd (show 1 = 2 from h) (by decide)⟩ ?_
      show 2 * (8 - zyN1 (Int32.ofNat 0)) + (3 - 1) < 100
      omega
    · have hx : x ∈ [zxsn_bx0] := hx
      have hg : ∀ k, k < 2 → ρ2 k = ρ k := hag
      have hI := hInv
      have hI : (∀ a k, ¬ a = 77 → (zyEl (zymr r c) B H) a k = (zyEl (zymr r c) B s.heap) a k) ∧ ∃ k : Nat, k ≤ 8 ∧ (1 ≤ 1 → 1 ≤ 2 → ρ 1 = Int32.ofNat k) ∧ (1 = 1 → ∀ b, b < k → zsl (zyEl (zymr r c) B H) b < zgNS r c) ∧ (1 = 2 → k < 8 ∧ ∀ b, b ≤ k → zsl (zyEl (zymr r c) B H) b < zgNS r c) := hI
      obtain ⟨hF, hB, hM⟩ := hXs
      have hEE : (zyEl (zymr r c) B H2) = (zyEl (zymr r c) B H) := zyfr0 hfr
      have ex := List.mem_singleton.mp hx
      subst ex
      obtain ⟨i1, k, hk, i2, i3, i4⟩ := hI
      have T1 : zyTy (zymr r c) (zyEl (zymr r c) B H) := hT
      have n80 : zgNS r c ≤ 80 := zgNS_le h2 h4
      have a1 : ρ2 1 = Int32.ofNat k := (hg 1 (by decide)).trans (i2 (by decide) (by decide))
      have kb : 2147483648 ≤ zB (ρ2 1) ∧ zB (ρ2 1) ≤ 2147483655 := zyXb hB 0 rfl
      rw [a1, zyBn (by omega)] at kb
      obtain ⟨na, u1, u2, u3⟩ := zyXe hF 2 rfl
      have u1 : ρ2 1 + Int32.ofNat 144 = Int32.ofNat na := u1
      have u3 : zyEl (zymr r c) B H 75 na = some (.int (ρ2 3)) := u3
      rw [a1, zyOa, Nat.add_comm] at u1
      obtain ⟨s', l1, e1⟩ := zc_slot T1 h2 h4 (o := 144) (b := k) (by decide) (by omega)
      have e3 := zyEk u1 (by omega) u2 u3 e1
      have l2 : s' < 80 := by omega
      refine zyAsB hRu hIH hAt hB 77 k (20, 8, [(0, 7, 73786976312018076282)]) rfl rfl rfl (cv := 103079215105) (cj := 34359738369) rfl (by decide) (by decide) ⟨2, by decide⟩ [595, 34359738369] rfl rfl rfl rfl (show k < 8 by omega) a1 ?_ ?_
      · intro r0 hr0 _ _
        rw [List.mem_singleton.mp hr0]
        refine ⟨rfl, ?_⟩
        show 2147483648 ≤ zB (ρ2 3) ∧ zB (ρ2 3) ≤ 2147483727
        rw [e3, zyBn (by omega)]
        omega
      · intro E3 hT3 p1 p2
        have p1 : E3 77 k = some (.int (ρ2 3)) := p1
        rw [e3] at p1
        rw [hEE] at p2
        refine ⟨⟨fun a k n1 => (p2 a k (fun z => n1 z.1)).trans (i1 a k n1), k, hk, fun _ _ => a1, fun h => absurd (show 2 = 1 from h) (by decide), fun _ => ⟨by omega, fun b hb => ?_⟩⟩, ?_⟩
        · by_cases e : b = k
          · rw [e, zsl_s p1 l2]
            exact l1
          · rw [zsl_eq (p2 77 b (fun z => e z.2))]
            exact i3 rfl b (by omega)
        · show 2 * (8 - zyN1 (ρ2 1)) + (3 - 2) < 2 * (8 - zyN1 (ρ 1)) + (3 - 1)
          rw [hg 1 (by decide)]
          omega
    · have hx : x ∈ [zxsn_cx0] := hx
      have hg : ∀ k, k < 2 → ρ2 k = ρ k := hag
      have hI := hInv
      have hI : (∀ a k, ¬ a = 77 → (zyEl (zymr r c) B H) a k = (zyEl (zymr r c) B s.heap) a k) ∧ ∃ k : Nat, k ≤ 8 ∧ (1 ≤ 2 → 2 ≤ 2 → ρ 1 = Int32.ofNat k) ∧ (2 = 1 → ∀ b, b < k → zsl (zyEl (zymr r c) B H) b < zgNS r c) ∧ (2 = 2 → k < 8 ∧ ∀ b, b ≤ k → zsl (zyEl (zymr r c) B H) b < zgNS r c) := hI
      obtain ⟨hF, hB, hM⟩ := hXs
      have hEE : (zyEl (zymr r c) B H2) = (zyEl (zymr r c) B H) := zyfr0 hfr
      have ex := List.mem_singleton.mp hx
      subst ex
      obtain ⟨i1, k, hk, i2, i3, i4⟩ := hI
      have T1 : zyTy (zymr r c) (zyEl (zymr r c) B H) := hT
      have n80 : zgNS r c ≤ 80 := zgNS_le h2 h4
      have a1 : ρ2 1 = Int32.ofNat k := (hg 1 (by decide)).trans (i2 (by decide) (by decide))
      obtain ⟨k8, kv⟩ := i4 rfl
      have a1' : ρ2 1 + Int32.ofNat 1 = Int32.ofNat (k + 1) := by rw [a1, zyOa]
      refine zyGoB hIH hAt hB ⟨1, by decide⟩ [595, 34359738377] rfl rfl rfl rfl ⟨by rw [hEE]; exact i1, k + 1, by omega, fun _ _ => a1', fun _ => fun b hb => by rw [hEE]; exact kv b (by omega), fun h => absurd (show 1 = 2 from h) (by decide)⟩ ?_
      show 2 * (8 - zyN1 (ρ2 1 + Int32.ofNat 1)) + (3 - 1) < 2 * (8 - zyN1 (ρ 1)) + (3 - 2)
      rw [a1', i2 (by decide) (by decide), zyN1_of (by omega), zyN1_of (by omega)]
      omega
  · intro as E0 E E2 hT0 hΦ hlen i ρ hT hInv x hx ρ2 N2 B vo hXs hag hfr hT2 hvo
    rcases i with ⟨i, hi⟩
    have hi2 : i = 0 ∨ i = 1 ∨ i = 2 := by omega
    rcases hi2 with rfl | rfl | rfl
    · cases hx
    · have hx : x ∈ [zxsn_br0] := hx
      have hg : ∀ k, k < 2 → ρ2 k = ρ k := hag
      have hI := hInv
      have hI : (∀ a k, ¬ a = 77 → E a k = E0 a k) ∧ ∃ k : Nat, k ≤ 8 ∧ (1 ≤ 1 → 1 ≤ 2 → ρ 1 = Int32.ofNat k) ∧ (1 = 1 → ∀ b, b < k → zsl E b < zgNS r c) ∧ (1 = 2 → k < 8 ∧ ∀ b, b ≤ k → zsl E b < zgNS r c) := hI
      obtain ⟨hF, hB, hM⟩ := hXs
      have hEE : E2 = E := zyfr0 hfr
      have ex := List.mem_singleton.mp hx
      subst ex
      obtain ⟨i1, k, hk, i2, i3, i4⟩ := hI
      have a1 : ρ2 1 = Int32.ofNat k := (hg 1 (by decide)).trans (i2 (by decide) (by decide))
      obtain ⟨n3, w1, w2, w3⟩ := zyXe hF 0 rfl
      have w1 : Int32.ofNat 2 = Int32.ofNat n3 := w1
      have w3 : E 75 n3 = some (.int (ρ2 2)) := w3
      have f1 := zyX21 hF 1 rfl
      have f1 : ¬ ρ2 1 < ρ2 2 := f1
      rw [hEE]
      refine ⟨zyvo_0 (show zyvo _ [] vo from hvo), i1, fun m hm hms b hb => ?_⟩
      have em : ρ2 2 = Int32.ofNat m := zyEk w1 (by decide) w2 w3 ((i1 75 2 (by decide)).trans hms)
      rw [a1, em, zyOl (by omega) (by omega)] at f1
      exact i3 rfl b (by omega)
    · cases hx
theorem zybg_run : zyAllP (fun r c => zyrS (zymr r c) zxi225 (225, 0, 0, 0, 0) 1 zpbg (fun _ _ => []) zFbg zSbg zXbg zRbg 4) = true := by decide +kernel
theorem zybegins {l : Launch} {r c : Nat} (h1 : 1 ≤ r) (h2 : r ≤ 4) (h3 : 1 ≤ c) (h4 : c ≤ 5) {en : zEn} {me : zMe} (hen : zG zxMeta 225 = some en) (hme : zG zMeth 225 = some me) : zyHc l (zymr r c) en me 1 0 zyΦbb (zyΨbg (zgNS r c)) := by
  have een : zG zxMeta 225 = some (zxi225, 1, 2, 11, 225, 0, 0, 0, 0) := rfl
  obtain ⟨me1, hme1, hOK⟩ := zall hen
  rw [hme] at hme1
  cases hme1
  rw [een] at hen
  cases hen
  have hr := zyAllP_iff zybg_run h1 h2 h3 h4
  refine zycutS (mi := zymr r c) hOK rfl rfl ⟨_, rfl, rfl⟩ (ι := Fin 4) (fun i => zpbg i.val) (fun _ _ => []) (fun i => zFbg i.val) (fun i => zSbg i.val) (fun i => zXbg i.val) (fun i => zRbg i.val) (fun i y2 ct en2 me2 h => by cases h) 200000 (fun i => zyAll_iff hr i.val i.isLt) ⟨0, by decide⟩ ⟨rfl, rfl, rfl, rfl⟩ ⟨by decide, by decide⟩
    (fun i as E0 ρ E => (∀ a k, ¬ a = 77 → E a k = E0 a k) ∧ ∃ k : Nat, k ≤ 8 ∧ (1 ≤ i.val → i.val ≤ 2 → ρ 1 = Int32.ofNat k) ∧ (i.val = 1 → ∀ b, b < k → zsl E b < zgNS r c) ∧ (i.val = 2 → k < 8 ∧ ∀ b, b ≤ k → zsl E b < zgNS r c) ∧ (i.val = 3 → ∀ m : Nat, m ≤ 8 → E0 75 2 = some (.int (Int32.ofNat m)) → ∀ b, b < m → zsl E b < zgNS r c)) (fun i as E0 ρ E => if i.val = 0 then 100 else if i.val = 3 then 0 else 2 * (8 - zyN1 (ρ 1)) + (3 - i.val)) ?_ ?_ ?_
  · intro as E hlen hT hΦ
    exact ⟨zEnv_c (zyfull _) (zEnv_c (zyfull _) zEnv_nil), fun _ _ _ => rfl, 0, Nat.zero_le _, fun h => absurd (show 1 ≤ 0 from h) (by decide), fun h => absurd (show 0 = 1 from h) (by decide), fun h => absurd (show 0 = 2 from h) (by decide), fun h => absurd (show 0 = 3 from h) (by decide)⟩
  · intro as B s Wg hRu hT0 hΦ hlen i ρ H hT hInv hIH x hx ρ2 N2 H2 locs lsB stA hAt hXs hag hfr hT2
    rcases i with ⟨i, hi⟩
    have hi2 : i = 0 ∨ i = 1 ∨ i = 2 ∨ i = 3 := by omega
    rcases hi2 with rfl | rfl | rfl | rfl
    · have hx : x ∈ [zxbg_ax0] := hx
      have hg : ∀ k, k < 2 → ρ2 k = ρ k := hag
      have hI := hInv
      have hI : (∀ a k, ¬ a = 77 → (zyEl (zymr r c) B H) a k = (zyEl (zymr r c) B s.heap) a k) ∧ ∃ k : Nat, k ≤ 8 ∧ (1 ≤ 0 → 0 ≤ 2 → ρ 1 = Int32.ofNat k) ∧ (0 = 1 → ∀ b, b < k → zsl (zyEl (zymr r c) B H) b < zgNS r c) ∧ (0 = 2 → k < 8 ∧ ∀ b, b ≤ k → zsl (zyEl (zymr r c) B H) b < zgNS r c) ∧ (0 = 3 → ∀ m : Nat, m ≤ 8 → (zyEl (zymr r c) B s.heap) 75 2 = some (.int (Int32.ofNat m)) → ∀ b, b < m → zsl (zyEl (zymr r c) B H) b < zgNS r c) := hI
      obtain ⟨hF, hB, hM⟩ := hXs
      have hEE : (zyEl (zymr r c) B H2) = (zyEl (zymr r c) B H) := zyfr0 hfr
      have ex := List.mem_singleton.mp hx
      subst ex
      obtain ⟨i1, k, hk, i2, i3, i4, i5⟩ := hI
      have T1 : zyTy (zymr r c) (zyEl (zymr r c) B H) := hT
      have n80 : zgNS r c ≤ 80 := zgNS_le h2 h4
      refine zyGoB hIH hAt hB ⟨1, by decide⟩ [595, 0] rfl rfl rfl rfl ⟨by rw [hEE]; exact i1, 0, Nat.zero_le _, fun _ _ => rfl, fun _ => fun b hb => absurd hb (Nat.not_lt_zero b), fun h => absurd (show 1 = 2 from h) (by decide), fun h => absurd (show 1 = 3 from h) (by decide)⟩ ?_
      show 2 * (8 - zyN1 (Int32.ofNat 0)) + (3 - 1) < 100
      omega
    · have hx : x ∈ [zxbg_bx0, zxbg_bx1] := hx
      have hg : ∀ k, k < 2 → ρ2 k = ρ k := hag
      have hI := hInv
      have hI : (∀ a k, ¬ a = 77 → (zyEl (zymr r c) B H) a k = (zyEl (zymr r c) B s.heap) a k) ∧ ∃ k : Nat, k ≤ 8 ∧ (1 ≤ 1 → 1 ≤ 2 → ρ 1 = Int32.ofNat k) ∧ (1 = 1 → ∀ b, b < k → zsl (zyEl (zymr r c) B H) b < zgNS r c) ∧ (1 = 2 → k < 8 ∧ ∀ b, b ≤ k → zsl (zyEl (zymr r c) B H) b < zgNS r c) ∧ (1 = 3 → ∀ m : Nat, m ≤ 8 → (zyEl (zymr r c) B s.heap) 75 2 = some (.int (Int32.ofNat m)) → ∀ b, b < m → zsl (zyEl (zymr r c) B H) b < zgNS r c) := hI
      obtain ⟨hF, hB, hM⟩ := hXs
      have hEE : (zyEl (zymr r c) B H2) = (zyEl (zymr r c) B H) := zyfr0 hfr
      rcases List.mem_cons.mp hx with ex | hx
      · subst ex
        obtain ⟨i1, k, hk, i2, i3, i4, i5⟩ := hI
        have T1 : zyTy (zymr r c) (zyEl (zymr r c) B H) := hT
        have n80 : zgNS r c ≤ 80 := zgNS_le h2 h4
        have a1 : ρ2 1 = Int32.ofNat k := (hg 1 (by decide)).trans (i2 (by decide) (by decide))
        have kb : 2147483648 ≤ zB (ρ2 1) ∧ zB (ρ2 1) ≤ 2147483655 := zyXb hB 0 rfl
        rw [a1, zyBn (by omega)] at kb
        obtain ⟨na, u1, u2, u3⟩ := zyXe hF 2 rfl
        have u1 : ρ2 1 + Int32.ofNat 136 = Int32.ofNat na := u1
        have u3 : zyEl (zymr r c) B H 75 na = some (.int (ρ2 3)) := u3
        rw [a1, zyOa, Nat.add_comm] at u1
        obtain ⟨s', l1, e1⟩ := zc_slot T1 h2 h4 (o := 136) (b := k) (by decide) (by omega)
        have e3 := zyEk u1 (by omega) u2 u3 e1
        have l2 : s' < 80 := by omega
        refine zyAsB hRu hIH hAt hB 77 k (20, 8, [(0, 7, 73786976312018076282)]) rfl rfl rfl (cv := 103079215105) (cj := 34359738369) rfl (by decide) (by decide) ⟨2, by decide⟩ [595, 34359738369] rfl rfl rfl rfl (show k < 8 by omega) a1 ?_ ?_
        · intro r0 hr0 _ _
          rw [List.mem_singleton.mp hr0]
          refine ⟨rfl, ?_⟩
          show 2147483648 ≤ zB (ρ2 3) ∧ zB (ρ2 3) ≤ 2147483727
          rw [e3, zyBn (by omega)]
          omega
        · intro E3 hT3 p1 p2
          have p1 : E3 77 k = some (.int (ρ2 3)) := p1
          rw [e3] at p1
          rw [hEE] at p2
          refine ⟨⟨fun a k n1 => (p2 a k (fun z => n1 z.1)).trans (i1 a k n1), k, hk, fun _ _ => a1, fun h => absurd (show 2 = 1 from h) (by decide), fun _ => ⟨by omega, fun b hb => ?_⟩, fun h => absurd (show 2 = 3 from h) (by decide)⟩, ?_⟩
          · by_cases e : b = k
            · rw [e, zsl_s p1 l2]
              exact l1
            · rw [zsl_eq (p2 77 b (fun z => e z.2))]
              exact i3 rfl b (by omega)
          · show 2 * (8 - zyN1 (ρ2 1)) + (3 - 2) < 2 * (8 - zyN1 (ρ 1)) + (3 - 1)
            rw [hg 1 (by decide)]
            omega
      · skip
        have ex := List.mem_singleton.mp hx
        subst ex
        obtain ⟨i1, k, hk, i2, i3, i4, i5⟩ := hI
        have T1 : zyTy (zymr r c) (zyEl (zymr r c) B H) := hT
        have n80 : zgNS r c ≤ 80 := zgNS_le h2 h4
        have a1 : ρ2 1 = Int32.ofNat k := (hg 1 (by decide)).trans (i2 (by decide) (by decide))
        obtain ⟨n3, w1, w2, w3⟩ := zyXe hF 0 rfl
        have w1 : Int32.ofNat 2 = Int32.ofNat n3 := w1
        have w3 : zyEl (zymr r c) B H 75 n3 = some (.int (ρ2 2)) := w3
        have f1 := zyX21 hF 1 rfl
        have f1 : ¬ ρ2 1 < ρ2 2 := f1
        refine zyGoB hIH hAt hB ⟨3, by decide⟩ [595, 0] rfl rfl rfl rfl ⟨by rw [hEE]; exact i1, k, hk, fun _ h => absurd (show 3 ≤ 2 from h) (by decide), fun h => absurd (show 3 = 1 from h) (by decide), fun h => absurd (show 3 = 2 from h) (by decide), fun _ => fun m hm hms b hb => ?_⟩ ?_
        · have em : ρ2 2 = Int32.ofNat m := zyEk w1 (by decide) w2 w3 ((i1 75 2 (by decide)).trans hms)
          rw [a1, em, zyOl (by omega) (by omega)] at f1
          rw [hEE]
          exact i3 rfl b (by omega)
        · show 0 < 2 * (8 - zyN1 (ρ 1)) + (3 - 1)
          omega
    · have hx : x ∈ [zxbg_cx0] := hx
      have hg : ∀ k, k < 2 → ρ2 k = ρ k := hag
      have hI := hInv
      have hI : (∀ a k, ¬ a = 77 → (zyEl (zymr r c) B H) a k = (zyEl (zymr r c) B s.heap) a k) ∧ ∃ k : Nat, k ≤ 8 ∧ (1 ≤ 2 → 2 ≤ 2 → ρ 1 = Int32.ofNat k) ∧ (2 = 1 → ∀ b, b < k → zsl (zyEl (zymr r c) B H) b < zgNS r c) ∧ (2 = 2 → k < 8 ∧ ∀ b, b ≤ k → zsl (zyEl (zymr r c) B H) b < zgNS r c) ∧ (2 = 3 → ∀ m : Nat, m ≤ 8 → (zyEl (zymr r c) B s.heap) 75 2 = some (.int (Int32.ofNat m)) → ∀ b, b < m → zsl (zyEl (zymr r c) B H) b < zgNS r c) := hI
      obtain ⟨hF, hB, hM⟩ := hXs
      have hEE : (zyEl (zymr r c) B H2) = (zyEl (zymr r c) B H) := zyfr0 hfr
      have ex := List.mem_singleton.mp hx
      subst ex
      obtain ⟨i1, k, hk, i2, i3, i4, i5⟩ := hI
      have T1 : zyTy (zymr r c) (zyEl (zymr r c) B H) := hT
      have n80 : zgNS r c ≤ 80 := zgNS_le h2 h4
      have a1 : ρ2 1 = Int32.ofNat k := (hg 1 (by decide)).trans (i2 (by decide) (by decide))
      obtain ⟨k8, kv⟩ := i4 rfl
      have a1' : ρ2 1 + Int32.ofNat 1 = Int32.ofNat (k + 1) := by rw [a1, zyOa]
      refine zyGoB hIH hAt hB ⟨1, by decide⟩ [595, 34359738377] rfl rfl rfl rfl ⟨by rw [hEE]; exact i1, k + 1, by omega, fun _ _ => a1', fun _ => fun b hb => by rw [hEE]; exact kv b (by omega), fun h => absurd (show 1 = 2 from h) (by decide), fun h => absurd (show 1 = 3 from h) (by decide)⟩ ?_
      show 2 * (8 - zyN1 (ρ2 1 + Int32.ofNat 1)) + (3 - 1) < 2 * (8 - zyN1 (ρ 1)) + (3 - 2)
      rw [a1', i2 (by decide) (by decide), zyN1_of (by omega), zyN1_of (by omega)]
      omega
    · cases hx
  · intro as E0 E E2 hT0 hΦ hlen i ρ hT hInv x hx ρ2 N2 B vo hXs hag hfr hT2 hvo
    rcases i with ⟨i, hi⟩
    have hi2 : i = 0 ∨ i = 1 ∨ i = 2 ∨ i = 3 := by omega
    rcases hi2 with rfl | rfl | rfl | rfl
    · cases hx
    · cases hx
    · cases hx
    · have hx : x ∈ [zxbg_dr0] := hx
      have hg : ∀ k, k < 2 → ρ2 k = ρ k := hag
      have hI := hInv
      have hI : (∀ a k, ¬ a = 77 → E a k = E0 a k) ∧ ∃ k : Nat, k ≤ 8 ∧ (1 ≤ 3 → 3 ≤ 2 → ρ 1 = Int32.ofNat k) ∧ (3 = 1 → ∀ b, b < k → zsl E b < zgNS r c) ∧ (3 = 2 → k < 8 ∧ ∀ b, b ≤ k → zsl E b < zgNS r c) ∧ (3 = 3 → ∀ m : Nat, m ≤ 8 → E0 75 2 = some (.int (Int32.ofNat m)) → ∀ b, b < m → zsl E b < zgNS r c) := hI
      obtain ⟨hF, hB, hM⟩ := hXs
      have hfr : ∀ a k, zyin [(74, 14, 14)] a k = false → E2 a k = E a k := hfr
      have ex := List.mem_singleton.mp hx
      subst ex
      obtain ⟨i1, k, hk, i2, i3, i4, i5⟩ := hI
      have m1 := zyXm hM 0 rfl
      have m1 : E2 74 14 = some (.int (Int32.ofNat 0)) := m1
      have hk1 := zyfr1 hfr
      refine ⟨zyvo_0 (show zyvo _ [] vo from hvo), fun a k n1 n2 => (hk1 a k n2).trans (i1 a k n1), m1, fun m hm hms b hb => ?_⟩
      rw [zsl_eq (hk1 77 b (fun z => absurd z.1 (by decide)))]
      exact i5 rfl m hm hms b hb
theorem zygs_run : zyAllP (fun r c => zyrS (zymr r c) zxi224 (224, 0, 0, 0, 0) 1 zpgs (fun _ _ => []) zFgs zSgs zXgs zRgs 3) = true := by decide +kernel
theorem zygoes {l : Launch} {r c : Nat} (h1 : 1 ≤ r) (h2 : r ≤ 4) (h3 : 1 ≤ c) (h4 : c ≤ 5) {en : zEn} {me : zMe} (hen : zG zxMeta 224 = some en) (hme : zG zMeth 224 = some me) : zyHc l (zymr r c) en me 1 0 zyΦbb zyΨgs := by
  have een : zG zxMeta 224 = some (zxi224, 1, 2, 11, 224, 0, 0, 0, 0) := rfl
  obtain ⟨me1, hme1, hOK⟩ := zall hen
  rw [hme] at hme1
  cases hme1
  rw [een] at hen
  cases hen
  have hr := zyAllP_iff zygs_run h1 h2 h3 h4
  refine zycutS (mi := zymr r c) hOK rfl rfl ⟨_, rfl, rfl⟩ (ι := Fin 3) (fun i => zpgs i.val) (fun _ _ => []) (fun i => zFgs i.val) (fun i => zSgs i.val) (fun i => zXgs i.val) (fun i => zRgs i.val) (fun i y2 ct en2 me2 h => by cases h) 200000 (fun i => zyAll_iff hr i.val i.isLt) ⟨0, by decide⟩ ⟨rfl, rfl, rfl, rfl⟩ ⟨by decide, by decide⟩
    (fun i as E0 ρ E => (∀ a k, ¬ a = 77 → E a k = E0 a k) ∧ ∃ k : Nat, k ≤ 8 ∧ (1 ≤ i.val → i.val ≤ 2 → ρ 1 = Int32.ofNat k) ∧ (i.val = 1 → ∀ b, b < k → zsl E b = zth E0 b) ∧ (i.val = 2 → k < 8 ∧ ∀ b, b ≤ k → zsl E b = zth E0 b)) (fun i as E0 ρ E => if i.val = 0 then 100 else if i.val = 3 then 0 else 2 * (8 - zyN1 (ρ 1)) + (3 - i.val)) ?_ ?_ ?_
  · intro as E hlen hT hΦ
    exact ⟨zEnv_c (zyfull _) (zEnv_c (zyfull _) zEnv_nil), fun _ _ _ => rfl, 0, Nat.zero_le _, fun h => absurd (show 1 ≤ 0 from h) (by decide), fun h => absurd (show 0 = 1 from h) (by decide), fun h => absurd (show 0 = 2 from h) (by decide)⟩
  · intro as B s Wg hRu hT0 hΦ hlen i ρ H hT hInv hIH x hx ρ2 N2 H2 locs lsB stA hAt hXs hag hfr hT2
    rcases i with ⟨i, hi⟩
    have hi2 : i = 0 ∨ i = 1 ∨ i = 2 := by omega
    rcases hi2 with rfl | rfl | rfl
    · have hx : x ∈ [zxgs_ax0] := hx
      have hg : ∀ k, k < 2 → ρ2 k = ρ k := hag
      have hI := hInv
      have hI : (∀ a k, ¬ a = 77 → (zyEl (zymr r c) B H) a k = (zyEl (zymr r c) B s.heap) a k) ∧ ∃ k : Nat, k ≤ 8 ∧ (1 ≤ 0 → 0 ≤ 2 → ρ 1 = Int32.ofNat k) ∧ (0 = 1 → ∀ b, b < k → zsl (zyEl (zymr r c) B H) b = zth (zyEl (zymr r c) B s.heap) b) ∧ (0 = 2 → k < 8 ∧ ∀ b, b ≤ k → zsl (zyEl (zymr r c) B H) b = zth (zyEl (zymr r c) B s.heap) b) := hI
      obtain ⟨hF, hB, hM⟩ := hXs
      have hEE : (zyEl (zymr r c) B H2) = (zyEl (zymr r c) B H) := zyfr0 hfr
      have ex := List.mem_singleton.mp hx
      subst ex
      obtain ⟨i1, k, hk, i2, i3, i4⟩ := hI
      have T1 : zyTy (zymr r c) (zyEl (zymr r c) B H) := hT
      have n80 : zgNS r c ≤ 80 := zgNS_le h2 h4
      refine zyGoB hIH hAt hB ⟨1, by decide⟩ [595, 0] rfl rfl rfl rfl ⟨by rw [hEE]; exact i1, 0, Nat.zero_le _, fun _ _ => rfl, fun _ => fun b hb => absurd hb (Nat.not_lt_zero b), fun h => absurd (show 1 = 2 from h) (by decide)⟩ ?_
      show 2 * (8 - zyN1 (Int32.ofNat 0)) + (3 - 1) < 100
      omega
    · have hx : x ∈ [zxgs_bx0] := hx
      have hg : ∀ k, k < 2 → ρ2 k = ρ k := hag
      have hI := hInv
      have hI : (∀ a k, ¬ a = 77 → (zyEl (zymr r c) B H) a k = (zyEl (zymr r c) B s.heap) a k) ∧ ∃ k : Nat, k ≤ 8 ∧ (1 ≤ 1 → 1 ≤ 2 → ρ 1 = Int32.ofNat k) ∧ (1 = 1 → ∀ b, b < k → zsl (zyEl (zymr r c) B H) b = zth (zyEl (zymr r c) B s.heap) b) ∧ (1 = 2 → k < 8 ∧ ∀ b, b ≤ k → zsl (zyEl (zymr r c) B H) b = zth (zyEl (zymr r c) B s.heap) b) := hI
      obtain ⟨hF, hB, hM⟩ := hXs
      have hEE : (zyEl (zymr r c) B H2) = (zyEl (zymr r c) B H) := zyfr0 hfr
      have ex := List.mem_singleton.mp hx
      subst ex
      obtain ⟨i1, k, hk, i2, i3, i4⟩ := hI
      have T1 : zyTy (zymr r c) (zyEl (zymr r c) B H) := hT
      have n80 : zgNS r c ≤ 80 := zgNS_le h2 h4
      have a1 : ρ2 1 = Int32.ofNat k := (hg 1 (by decide)).trans (i2 (by decide) (by decide))
      have kb : 2147483648 ≤ zB (ρ2 1) ∧ zB (ρ2 1) ≤ 2147483655 := zyXb hB 0 rfl
      rw [a1, zyBn (by omega)] at kb
      obtain ⟨na, u1, u2, u3⟩ := zyXe hF 2 rfl
      have u1 : ρ2 1 = Int32.ofNat na := u1
      have u3 : zyEl (zymr r c) B H 78 na = some (.int (ρ2 3)) := u3
      rw [a1] at u1
      obtain ⟨e1, l2⟩ := zth_el T1 (i := k) (by omega)
      have e3 := zyEk u1 (by omega) u2 u3 e1
      rw [zth_eq (i1 78 k (by decide))] at e3 l2
      obtain ⟨s', es⟩ : ∃ s', s' = zth (zyEl (zymr r c) B s.heap) k := ⟨_, rfl⟩
      rw [← es] at e3 l2
      refine zyAsB hRu hIH hAt hB 77 k (20, 8, [(0, 7, 73786976312018076282)]) rfl rfl rfl (cv := 103079215105) (cj := 34359738369) rfl (by decide) (by decide) ⟨2, by decide⟩ [595, 34359738369] rfl rfl rfl rfl (show k < 8 by omega) a1 ?_ ?_
      · intro r0 hr0 _ _
        rw [List.mem_singleton.mp hr0]
        refine ⟨rfl, ?_⟩
        show 2147483648 ≤ zB (ρ2 3) ∧ zB (ρ2 3) ≤ 2147483727
        rw [e3, zyBn (by omega)]
        omega
      · intro E3 hT3 p1 p2
        have p1 : E3 77 k = some (.int (ρ2 3)) := p1
        rw [e3] at p1
        rw [hEE] at p2
        refine ⟨⟨fun a k n1 => (p2 a k (fun z => n1 z.1)).trans (i1 a k n1), k, hk, fun _ _ => a1, fun h => absurd (show 2 = 1 from h) (by decide), fun _ => ⟨by omega, fun b hb => ?_⟩⟩, ?_⟩
        · by_cases e : b = k
          · rw [e, zsl_s p1 l2]
            exact es
          · rw [zsl_eq (p2 77 b (fun z => e z.2))]
            exact i3 rfl b (by omega)
        · show 2 * (8 - zyN1 (ρ2 1)) + (3 - 2) < 2 * (8 - zyN1 (ρ 1)) + (3 - 1)
          rw [hg 1 (by decide)]
          omega
    · have hx : x ∈ [zxgs_cx0] := hx
      have hg : ∀ k, k < 2 → ρ2 k = ρ k := hag
      have hI := hInv
      have hI : (∀ a k, ¬ a = 77 → (zyEl (zymr r c) B H) a k = (zyEl (zymr r c) B s.heap) a k) ∧ ∃ k : Nat, k ≤ 8 ∧ (1 ≤ 2 → 2 ≤ 2 → ρ 1 = Int32.ofNat k) ∧ (2 = 1 → ∀ b, b < k → zsl (zyEl (zymr r c) B H) b = zth (zyEl (zymr r c) B s.heap) b) ∧ (2 = 2 → k < 8 ∧ ∀ b, b ≤ k → zsl (zyEl (zymr r c) B H) b = zth (zyEl (zymr r c) B s.heap) b) := hI
      obtain ⟨hF, hB, hM⟩ := hXs
      have hEE : (zyEl (zymr r c) B H2) = (zyEl (zymr r c) B H) := zyfr0 hfr
      have ex := List.mem_singleton.mp hx
      subst ex
      obtain ⟨i1, k, hk, i2, i3, i4⟩ := hI
      have T1 : zyTy (zymr r c) (zyEl (zymr r c) B H) := hT
      have n80 : zgNS r c ≤ 80 := zgNS_le h2 h4
      have a1 : ρ2 1 = Int32.ofNat k := (hg 1 (by decide)).trans (i2 (by decide) (by decide))
      obtain ⟨k8, kv⟩ := i4 rfl
      have a1' : ρ2 1 + Int32.ofNat 1 = Int32.ofNat (k + 1) := by rw [a1, zyOa]
      refine zyGoB hIH hAt hB ⟨1, by decide⟩ [595, 34359738377] rfl rfl rfl rfl ⟨by rw [hEE]; exact i1, k + 1, by omega, fun _ _ => a1', fun _ => fun b hb => by rw [hEE]; exact kv b (by omega), fun h => absurd (show 1 = 2 from h) (by decide)⟩ ?_
      show 2 * (8 - zyN1 (ρ2 1 + Int32.ofNat 1)) + (3 - 1) < 2 * (8 - zyN1 (ρ 1)) + (3 - 2)
      rw [a1', i2 (by decide) (by decide), zyN1_of (by omega), zyN1_of (by omega)]
      omega
  · intro as E0 E E2 hT0 hΦ hlen i ρ hT hInv x hx ρ2 N2 B vo hXs hag hfr hT2 hvo
    rcases i with ⟨i, hi⟩
    have hi2 : i = 0 ∨ i = 1 ∨ i = 2 := by omega
    rcases hi2 with rfl | rfl | rfl
    · cases hx
    · have hx : x ∈ [zxgs_br0] := hx
      have hg : ∀ k, k < 2 → ρ2 k = ρ k := hag
      have hI := hInv
      have hI : (∀ a k, ¬ a = 77 → E a k = E0 a k) ∧ ∃ k : Nat, k ≤ 8 ∧ (1 ≤ 1 → 1 ≤ 2 → ρ 1 = Int32.ofNat k) ∧ (1 = 1 → ∀ b, b < k → zsl E b = zth E0 b) ∧ (1 = 2 → k < 8 ∧ ∀ b, b ≤ k → zsl E b = zth E0 b) := hI
      obtain ⟨hF, hB, hM⟩ := hXs
      have hEE : E2 = E := zyfr0 hfr
      have ex := List.mem_singleton.mp hx
      subst ex
      obtain ⟨i1, k, hk, i2, i3, i4⟩ := hI
      have a1 : ρ2 1 = Int32.ofNat k := (hg 1 (by decide)).trans (i2 (by decide) (by decide))
      obtain ⟨n3, w1, w2, w3⟩ := zyXe hF 0 rfl
      have w1 : Int32.ofNat 2 = Int32.ofNat n3 := w1
      have w3 : E 75 n3 = some (.int (ρ2 2)) := w3
      have f1 := zyX21 hF 1 rfl
      have f1 : ¬ ρ2 1 < ρ2 2 := f1
      rw [hEE]
      refine ⟨zyvo_0 (show zyvo _ [] vo from hvo), i1, fun m hm hms b hb => ?_⟩
      have em : ρ2 2 = Int32.ofNat m := zyEk w1 (by decide) w2 w3 ((i1 75 2 (by decide)).trans hms)
      rw [a1, em, zyOl (by omega) (by omega)] at f1
      exact i3 rfl b (by omega)
    · cases hx
