/-! A SET OF SWITCHES explains -/
theorem zyrefD {l : Launch} {J : zyJt} (hJ : zyJr J) {r c : Nat} (h1 : 1 ≤ r) (h2 : r ≤ 4) (h3 : 1 ≤ c) (h4 : c ≤ 5) {deps : List Nat} (hd : zylow 20 deps = true) : ∀ y2 ct en2 me2, ct ∈ zydeps (zyir r c) deps y2 → zG zxMeta y2 = some en2 → zG zMeth y2 = some me2 → zyCon l (zymr r c) J en2 me2 ct := by
  intro y2 ct en2 me2 hct hen hme
  obtain ⟨d, hdm, e1, e2⟩ := zydeps_iff hct
  have hco := zyrefA (l := l) hJ h1 h2 h3 h4 d (zylow_iff' hd d hdm)
  unfold zyCo at hco
  rw [e1, e2] at hco
  exact hco en2 me2 hen hme
def zyFdx (E E2 : zyEm) : Prop := ∀ a k, ¬ (a = 74 ∧ ((4 ≤ k ∧ k ≤ 7) ∨ k = 9 ∨ (14 ≤ k ∧ k ≤ 17))) → ¬ (77 ≤ a ∧ a ≤ 78) → E2 a k = E a k
def zyΦdx (as : List Int32) (_ : zyEm) : Prop := ∃ x y : Int32, as = [x, y] ∧ (2147483647 ≤ zB x ∧ zB x ≤ 2147483709) ∧ 2147483647 ≤ zB y ∧ zB y ≤ 2147483709
def zyΨdx (_ : List Int32) (E E2 : zyEm) (vo : Option Value) : Prop := zyFdx E E2 ∧ ∃ z : Int32, vo = some (.int z) ∧ 2147483648 ≤ zB z ∧ zB z ≤ 2147483649
theorem zydex_run : zyAllP (fun r c => zyrS (zymr r c) zxi306 (306, 0, 0, 2, 0) 9 zpdex (fun _ => zydeps (zyir r c) [17, 18]) zFdex zSdex zXdex zRdex 5) = true := by decide +kernel
theorem zydoesExplain {l : Launch} {r c : Nat} (h1 : 1 ≤ r) (h2 : r ≤ 4) (h3 : 1 ≤ c) (h4 : c ≤ 5) {en : zEn} {me : zMe} (hen : zG zxMeta 306 = some en) (hme : zG zMeth 306 = some me) : zyHc l (zymr r c) en me 9 2 zyΦdx zyΨdx := by
  have een : zG zxMeta 306 = some (zxi306, 3, 6, 11, 306, 0, 0, 2, 0) := rfl
  obtain ⟨me1, hme1, hOK⟩ := zall hen
  rw [hme] at hme1
  cases hme1
  rw [een] at hen
  cases hen
  have hr := zyAllP_iff zydex_run h1 h2 h3 h4
  obtain ⟨mebg, hmebg, -⟩ := zall (show zG zxMeta 225 = some (zxi225, 1, 2, 11, 225, 0, 0, 0, 0) from rfl)
  have hbg := zybegins (l := l) h1 h2 h3 h4 (show zG zxMeta 225 = some (zxi225, 1, 2, 11, 225, 0, 0, 0, 0) from rfl) hmebg
  obtain ⟨metr, hmetr, -⟩ := zall (show zG zxMeta 219 = some (zxi219, 2, 3, 11, 219, 0, 0, 2, 0) from rfl)
  have htr := zytries (l := l) h1 h2 h3 h4 (show zG zxMeta 219 = some (zxi219, 2, 3, 11, 219, 0, 0, 2, 0) from rfl) hmetr
  obtain ⟨megs, hmegs, -⟩ := zall (show zG zxMeta 224 = some (zxi224, 1, 2, 11, 224, 0, 0, 0, 0) from rfl)
  have hgs := zygoes (l := l) h1 h2 h3 h4 (show zG zxMeta 224 = some (zxi224, 1, 2, 11, 224, 0, 0, 0, 0) from rfl) hmegs
  have hCon : ∀ i : Fin 5, zyCons l (zymr r c, zydeps (zyir r c) [17, 18], zFdex i.val, [], zSdex i.val) zyJ0 := fun _ => zyrefD (deps := [17, 18]) zyJ0_r h1 h2 h3 h4 rfl
  refine zycutS (mi := zymr r c) hOK rfl rfl ⟨_, rfl, rfl⟩ (ι := Fin 5) (fun i => zpdex i.val) (fun _ => zydeps (zyir r c) [17, 18]) (fun i => zFdex i.val) (fun i => zSdex i.val) (fun i => zXdex i.val) (fun i => zRdex i.val) hCon 200000 (fun i => zyAll_iff hr i.val i.isLt) ⟨0, by decide⟩ ⟨rfl, rfl, rfl, rfl⟩ ⟨by decide, by decide⟩
    (fun i as E0 ρ E => zyFdx E0 E ∧ ∃ m : Nat, m ≤ 8 ∧ E0 75 2 = some (.int (Int32.ofNat m)) ∧ (i.val = 1 ∨ i.val = 2 ∨ i.val = 3 ∨ i.val = 4 → ∀ b, b < m → zsl E b < zgNS r c) ∧ (i.val = 3 → ρ 6 = 1 → ∀ b, b < m → zth E b < zgNS r c)) (fun i as E0 ρ E => if i.val = 0 then 1000 else if i.val = 1 then 999 else if i.val = 2 then 5 * (80 - zyN1 (ρ 5)) + 4 else if i.val = 3 then 5 * (80 - zyN1 (ρ 5)) + 3 else 5 * (80 - zyN1 (ρ 5)) + 2) ?_ ?_ ?_
  · intro as E hlen hT hΦ
    obtain ⟨x, y, rfl, b1, b2⟩ := hΦ
    obtain ⟨m, hm, s1⟩ := zc_m hT
    exact ⟨zEnv_c (zyfull _) (zEnv_c b1 (zEnv_c b2 (zEnv_c (zyfull _) (zEnv_c (zyfull _) (zEnv_c (zyfull _) zEnv_nil))))), fun _ _ _ _ => rfl, m, hm, s1, fun h => absurd (show 0 = 1 ∨ 0 = 2 ∨ 0 = 3 ∨ 0 = 4 from h) (by decide), fun h => absurd (show 0 = 3 from h) (by decide)⟩
  · intro as B s Wg hRu hT0 hΦ hlen i ρ H hT hInv hIH x hx ρ2 N2 H2 locs lsB stA hAt hXs hag hfr hT2
    rcases i with ⟨i, hi⟩
    have hi2 : i = 0 ∨ i = 1 ∨ i = 2 ∨ i = 3 ∨ i = 4 := by omega
    rcases hi2 with rfl | rfl | rfl | rfl | rfl
    · have hx : x ∈ [zxdex_ax0] := hx
      have hg : ∀ k, k < 6 → ρ2 k = ρ k := hag
      have hI := hInv
      have hI : zyFdx (zyEl (zymr r c) B s.heap) (zyEl (zymr r c) B H) ∧ ∃ m : Nat, m ≤ 8 ∧ (zyEl (zymr r c) B s.heap) 75 2 = some (.int (Int32.ofNat m)) ∧ (0 = 1 ∨ 0 = 2 ∨ 0 = 3 ∨ 0 = 4 → ∀ b, b < m → zsl (zyEl (zymr r c) B H) b < zgNS r c) ∧ (0 = 3 → ρ 6 = 1 → ∀ b, b < m → zth (zyEl (zymr r c) B H) b < zgNS r c) := hI
      obtain ⟨hF, hB, hM⟩ := hXs
      have hfr : ∀ a k, zyin [(74, 4, 7), (74, 9, 9)] a k = false → (zyEl (zymr r c) B H2) a k = (zyEl (zymr r c) B H) a k := hfr
      have ex := List.mem_singleton.mp hx
      subst ex
      obtain ⟨i1, m, hm, s1, i2, i3⟩ := hI
      have hk : ∀ a k, ¬ (a = 74 ∧ 4 ≤ k ∧ k ≤ 7) → ¬ (a = 74 ∧ 9 ≤ k ∧ k ≤ 9) → (zyEl (zymr r c) B H2) a k = (zyEl (zymr r c) B H) a k := by
        intro a k n0 n1
        apply hfr
        cases hq : zyin [(74, 4, 7), (74, 9, 9)] a k with
        | false => rfl
        | true =>
          obtain ⟨p0, g1, g2, g3, g4⟩ := zyin_iff.mp hq
          simp only [List.mem_cons, List.not_mem_nil, or_false] at g1
          rcases g1 with rfl | rfl
          · exact absurd ⟨g2.symm, g3, g4⟩ n0
          · exact absurd ⟨g2.symm, g3, g4⟩ n1
      have kf : ∀ a k, ¬ (a = 74 ∧ ((4 ≤ k ∧ k ≤ 7) ∨ k = 9 ∨ (14 ≤ k ∧ k ≤ 17))) → zyEl (zymr r c) B H2 a k = zyEl (zymr r c) B H a k := fun a k n => hk a k (fun z => n ⟨z.1, by omega⟩) (fun z => n ⟨z.1, by omega⟩)
      refine zyCa0 hRu hIH hAt hB hbg (ix := 352) (ax := 3600) rfl rfl rfl hmebg ⟨rfl, rfl, rfl, rfl⟩ (by decide) [] rfl (by decide) rfl ⟨1, by decide⟩ [595, 0, 0, 0, 0, 0] rfl rfl rfl rfl trivial ?_
      intro E3 vo hT3 hΨ
      obtain ⟨ev, p1, p2, p3⟩ := (show zyΨbg _ [] _ E3 vo from hΨ)
      have e2 : zyEl (zymr r c) B H2 75 2 = some (.int (Int32.ofNat m)) := ((kf 75 2 (by omega)).trans (i1 75 2 (by omega) (by omega))).trans s1
      refine ⟨ev, ⟨fun a k n1 n2 => (p1 a k (by omega) (by omega)).trans ((kf a k n1).trans (i1 a k n1 n2)), m, hm, s1, fun _ => p3 m hm e2, fun h => absurd (show 1 = 3 from h) (by decide)⟩, (show 999 < 1000 by decide)⟩
    · have hx : x ∈ [zxdex_bx0] := hx
      have hg : ∀ k, k < 6 → ρ2 k = ρ k := hag
      have hI := hInv
      have hI : zyFdx (zyEl (zymr r c) B s.heap) (zyEl (zymr r c) B H) ∧ ∃ m : Nat, m ≤ 8 ∧ (zyEl (zymr r c) B s.heap) 75 2 = some (.int (Int32.ofNat m)) ∧ (1 = 1 ∨ 1 = 2 ∨ 1 = 3 ∨ 1 = 4 → ∀ b, b < m → zsl (zyEl (zymr r c) B H) b < zgNS r c) ∧ (1 = 3 → ρ 6 = 1 → ∀ b, b < m → zth (zyEl (zymr r c) B H) b < zgNS r c) := hI
      obtain ⟨hF, hB, hM⟩ := hXs
      have hEE : (zyEl (zymr r c) B H2) = (zyEl (zymr r c) B H) := zyfr0 hfr
      have ex := List.mem_singleton.mp hx
      subst ex
      obtain ⟨i1, m, hm, s1, i2, i3⟩ := hI
      have sl := i2 (Or.inl rfl)
      refine zyGoB hIH hAt hB ⟨2, by decide⟩ [595, 0, 0, 206158430209, 240518168577, 0] rfl rfl rfl rfl ⟨by rw [hEE]; exact i1, m, hm, s1, fun _ => by rw [hEE]; exact sl, fun h => absurd (show 2 = 3 from h) (by decide)⟩ ?_
      show 5 * (80 - zyN1 (Int32.ofNat 0)) + 4 < 999
      omega
    · have hx : x ∈ [zxdex_cx0] := hx
      have hg : ∀ k, k < 6 → ρ2 k = ρ k := hag
      have hI := hInv
      have hI : zyFdx (zyEl (zymr r c) B s.heap) (zyEl (zymr r c) B H) ∧ ∃ m : Nat, m ≤ 8 ∧ (zyEl (zymr r c) B s.heap) 75 2 = some (.int (Int32.ofNat m)) ∧ (2 = 1 ∨ 2 = 2 ∨ 2 = 3 ∨ 2 = 4 → ∀ b, b < m → zsl (zyEl (zymr r c) B H) b < zgNS r c) ∧ (2 = 3 → ρ 6 = 1 → ∀ b, b < m → zth (zyEl (zymr r c) B H) b < zgNS r c) := hI
      obtain ⟨hF, hB, hM⟩ := hXs
      have hfr : ∀ a k, zyin [(74, 9, 9)] a k = false → (zyEl (zymr r c) B H2) a k = (zyEl (zymr r c) B H) a k := hfr
      have ex := List.mem_singleton.mp hx
      subst ex
      obtain ⟨i1, m, hm, s1, i2, i3⟩ := hI
      have hk : ∀ a k, ¬ (a = 74 ∧ 9 ≤ k ∧ k ≤ 9) → (zyEl (zymr r c) B H2) a k = (zyEl (zymr r c) B H) a k := by
        intro a k n0
        apply hfr
        cases hq : zyin [(74, 9, 9)] a k with
        | false => rfl
        | true =>
          obtain ⟨p0, g1, g2, g3, g4⟩ := zyin_iff.mp hq
          simp only [List.mem_cons, List.not_mem_nil, or_false] at g1
          rcases g1 with rfl
          · exact absurd ⟨g2.symm, g3, g4⟩ n0
      have sl := i2 (Or.inr (Or.inl rfl))
      have kf : ∀ a k, ¬ (a = 74 ∧ ((4 ≤ k ∧ k ≤ 7) ∨ k = 9 ∨ (14 ≤ k ∧ k ≤ 17))) → zyEl (zymr r c) B H2 a k = zyEl (zymr r c) B H a k := fun a k n => hk a k (fun z => n ⟨z.1, by omega⟩)
      have e2 : zyEl (zymr r c) B H2 75 2 = some (.int (Int32.ofNat m)) := ((kf 75 2 (by omega)).trans (i1 75 2 (by omega) (by omega))).trans s1
      refine zyCa1 hRu hIH hAt hB htr (ix := 329) (ax := 3504) rfl rfl rfl hmetr ⟨rfl, rfl, rfl, rfl⟩ (by decide) [171798691841] rfl (by decide) rfl ⟨3, by decide⟩ [595, 0, 0, 103079215105, 0, 171798691841] [(0, 4294967295), (0, 4294967295), (0, 4294967295), (2147483648, 2147483727), (0, 4294967295), (2147483648, 2147483726)] 2147483648 2147483649 rfl (by decide) rfl rfl rfl rfl rfl ?_ ?_
      · show zyΦtr _ [ρ2 5] _
        exact ⟨m, hm, e2, fun b hb => by rw [zsl_eq (kf 77 b (by omega))]; exact sl b hb⟩
      · intro E3 vo hT3 hΨ
        obtain ⟨p1, z, ez, hz, hzz⟩ := (show zyΨtr _ [ρ2 5] _ E3 vo from hΨ)
        refine ⟨z, ez, ?_, ?_, ⟨fun a k n1 n2 => (p1 a k (by omega) (by omega)).trans ((kf a k n1).trans (i1 a k n1 n2)), m, hm, s1, fun _ b hb => ?_, fun _ q => hzz (zyρi_e.symm.trans q) m hm e2⟩, ?_⟩
        · rcases hz with rfl | rfl <;> decide
        · rcases hz with rfl | rfl <;> decide
        · rw [zsl_eq (p1 77 b (by omega) (by omega)), zsl_eq (kf 77 b (by omega))]
          exact sl b hb
        · show 5 * (80 - zyN1 (ρ2 5)) + 3 < 5 * (80 - zyN1 (ρ 5)) + 4
          rw [hg 5 (by decide)]
          omega
    · have hx : x ∈ [zxdex_dx0, zxdex_dx1] := hx
      have hg : ∀ k, k < 7 → ρ2 k = ρ k := hag
      have hI := hInv
      have hI : zyFdx (zyEl (zymr r c) B s.heap) (zyEl (zymr r c) B H) ∧ ∃ m : Nat, m ≤ 8 ∧ (zyEl (zymr r c) B s.heap) 75 2 = some (.int (Int32.ofNat m)) ∧ (3 = 1 ∨ 3 = 2 ∨ 3 = 3 ∨ 3 = 4 → ∀ b, b < m → zsl (zyEl (zymr r c) B H) b < zgNS r c) ∧ (3 = 3 → ρ 6 = 1 → ∀ b, b < m → zth (zyEl (zymr r c) B H) b < zgNS r c) := hI
      obtain ⟨hF, hB, hM⟩ := hXs
      have hEE : (zyEl (zymr r c) B H2) = (zyEl (zymr r c) B H) := zyfr0 hfr
      rcases List.mem_cons.mp hx with ex | hx
      · subst ex
        obtain ⟨i1, m, hm, s1, i2, i3⟩ := hI
        have f0 := zyX23 hF 0 rfl
        have f0 : ¬ ρ2 6 = Int32.ofNat 0 := f0
        have z5 : 2147483649 ≤ zB (ρ2 6) ∧ zB (ρ2 6) ≤ 2147483649 := zyXb hB 2 rfl
        have z5 : ρ2 6 = 1 := by
          rcases zybool (x := ρ2 6) (by omega) (by omega) with e | e
          · exact absurd e f0
          · exact e
        have tv := i3 rfl ((hg 6 (by decide)).symm.trans z5)
        refine zyCa0 hRu hIH hAt hB hgs (ix := 355) (ax := 3584) rfl rfl rfl hmegs ⟨rfl, rfl, rfl, rfl⟩ (by decide) [] rfl (by decide) rfl ⟨4, by decide⟩ [595, 0, 0, 103079215105, 0, 171798691841] rfl rfl rfl rfl trivial ?_
        intro E3 vo hT3 hΨ
        have hΨ : zyΨgs [] _ E3 vo := hΨ
        rw [hEE] at hΨ
        obtain ⟨ev, p1, p2⟩ := hΨ
        have e2 : zyEl (zymr r c) B H 75 2 = some (.int (Int32.ofNat m)) := (i1 75 2 (by omega) (by omega)).trans s1
        refine ⟨ev, ⟨fun a k n1 n2 => (p1 a k (by omega)).trans (i1 a k n1 n2), m, hm, s1, fun _ b hb => by rw [p2 m hm e2 b hb]; exact tv b hb, fun h => absurd (show 4 = 3 from h) (by decide)⟩, ?_⟩
        show 5 * (80 - zyN1 (ρ2 5)) + 2 < 5 * (80 - zyN1 (ρ 5)) + 3
        rw [hg 5 (by decide)]
        omega
      · skip
        have ex := List.mem_singleton.mp hx
        subst ex
        obtain ⟨i1, m, hm, s1, i2, i3⟩ := hI
        have b5 := zyXb hB 1 rfl
        have b5 : 2147483648 ≤ zB (ρ2 5) ∧ zB (ρ2 5) ≤ 2147483726 := b5
        have sl := i2 (Or.inr (Or.inr (Or.inl rfl)))
        obtain ⟨q1, q2, -⟩ := zyStep (b := 78) b5 (by decide)
        refine zyGoB hIH hAt hB ⟨2, by decide⟩ [595, 0, 0, 103079215105, 206158430209, 171798691849] rfl rfl rfl rfl ⟨by rw [hEE]; exact i1, m, hm, s1, fun _ => by rw [hEE]; exact sl, fun h => absurd (show 2 = 3 from h) (by decide)⟩ ?_
        show 5 * (80 - zyN1 (ρ2 5 + Int32.ofNat 1)) + 4 < 5 * (80 - zyN1 (ρ 5)) + 3
        rw [q1, hg 5 (by decide)]
        rw [hg 5 (by decide)] at q2
        omega
    · have hx : x ∈ [zxdex_ex0] := hx
      have hg : ∀ k, k < 6 → ρ2 k = ρ k := hag
      have hI := hInv
      have hI : zyFdx (zyEl (zymr r c) B s.heap) (zyEl (zymr r c) B H) ∧ ∃ m : Nat, m ≤ 8 ∧ (zyEl (zymr r c) B s.heap) 75 2 = some (.int (Int32.ofNat m)) ∧ (4 = 1 ∨ 4 = 2 ∨ 4 = 3 ∨ 4 = 4 → ∀ b, b < m → zsl (zyEl (zymr r c) B H) b < zgNS r c) ∧ (4 = 3 → ρ 6 = 1 → ∀ b, b < m → zth (zyEl (zymr r c) B H) b < zgNS r c) := hI
      obtain ⟨hF, hB, hM⟩ := hXs
      have hEE : (zyEl (zymr r c) B H2) = (zyEl (zymr r c) B H) := zyfr0 hfr
      have ex := List.mem_singleton.mp hx
      subst ex
      obtain ⟨i1, m, hm, s1, i2, i3⟩ := hI
      have b5 := zyXb hB 1 rfl
      have b5 : 2147483648 ≤ zB (ρ2 5) ∧ zB (ρ2 5) ≤ 2147483726 := b5
      have sl := i2 (Or.inr (Or.inr (Or.inr rfl)))
      obtain ⟨q1, q2, -⟩ := zyStep (b := 78) b5 (by decide)
      refine zyGoB hIH hAt hB ⟨2, by decide⟩ [595, 0, 0, 103079215105, 206158430209, 171798691849] rfl rfl rfl rfl ⟨by rw [hEE]; exact i1, m, hm, s1, fun _ => by rw [hEE]; exact sl, fun h => absurd (show 2 = 3 from h) (by decide)⟩ ?_
      show 5 * (80 - zyN1 (ρ2 5 + Int32.ofNat 1)) + 4 < 5 * (80 - zyN1 (ρ 5)) + 2
      rw [q1, hg 5 (by decide)]
      rw [hg 5 (by decide)] at q2
      omega
  · intro as E0 E E2 hT0 hΦ hlen i ρ hT hInv x hx ρ2 N2 B vo hXs hag hfr hT2 hvo
    rcases i with ⟨i, hi⟩
    have hi2 : i = 0 ∨ i = 1 ∨ i = 2 ∨ i = 3 ∨ i = 4 := by omega
    rcases hi2 with rfl | rfl | rfl | rfl | rfl
    · cases hx
    · cases hx
    · have hx : x ∈ [zxdex_cr0, zxdex_cr1] := hx
      have hg : ∀ k, k < 6 → ρ2 k = ρ k := hag
      have hI := hInv
      have hI : zyFdx E0 E ∧ ∃ m : Nat, m ≤ 8 ∧ E0 75 2 = some (.int (Int32.ofNat m)) ∧ (2 = 1 ∨ 2 = 2 ∨ 2 = 3 ∨ 2 = 4 → ∀ b, b < m → zsl E b < zgNS r c) ∧ (2 = 3 → ρ 6 = 1 → ∀ b, b < m → zth E b < zgNS r c) := hI
      obtain ⟨hF, hB, hM⟩ := hXs
      have hfr : ∀ a k, zyin [(74, 9, 9)] a k = false → E2 a k = E a k := hfr
      rcases List.mem_cons.mp hx with ex | hx
      · subst ex
        obtain ⟨i1, m, hm, s1, i2, i3⟩ := hI
        have hk : ∀ a k, ¬ (a = 74 ∧ 9 ≤ k ∧ k ≤ 9) → E2 a k = E a k := by
          intro a k n0
          apply hfr
          cases hq : zyin [(74, 9, 9)] a k with
          | false => rfl
          | true =>
            obtain ⟨p0, g1, g2, g3, g4⟩ := zyin_iff.mp hq
            simp only [List.mem_cons, List.not_mem_nil, or_false] at g1
            rcases g1 with rfl
            · exact absurd ⟨g2.symm, g3, g4⟩ n0
        have b4 := zyXb hB 0 rfl
        have b4 : 2147483648 ≤ zB (ρ2 4) ∧ zB (ρ2 4) ≤ 2147483648 := b4
        exact ⟨fun a k n1 n2 => (hk a k (fun z => n1 ⟨z.1, by omega⟩)).trans (i1 a k n1 n2), _, zyvo_1 (c := 137438953473) (by decide) (show zyvo (zyXn B ρ2 N2) [137438953473] vo from hvo), b4.1, Nat.le_trans b4.2 (by decide)⟩
      · skip
        have ex := List.mem_singleton.mp hx
        subst ex
        obtain ⟨i1, m, hm, s1, i2, i3⟩ := hI
        have hk : ∀ a k, ¬ (a = 74 ∧ 9 ≤ k ∧ k ≤ 9) → E2 a k = E a k := by
          intro a k n0
          apply hfr
          cases hq : zyin [(74, 9, 9)] a k with
          | false => rfl
          | true =>
            obtain ⟨p0, g1, g2, g3, g4⟩ := zyin_iff.mp hq
            simp only [List.mem_cons, List.not_mem_nil, or_false] at g1
            rcases g1 with rfl
            · exact absurd ⟨g2.symm, g3, g4⟩ n0
        have b4 := zyXb hB 0 rfl
        have b4 : 2147483648 ≤ zB (ρ2 4) ∧ zB (ρ2 4) ≤ 2147483649 := b4
        exact ⟨fun a k n1 n2 => (hk a k (fun z => n1 ⟨z.1, by omega⟩)).trans (i1 a k n1 n2), _, zyvo_1 (c := 137438953473) (by decide) (show zyvo (zyXn B ρ2 N2) [137438953473] vo from hvo), b4.1, Nat.le_trans b4.2 (by decide)⟩
    · cases hx
    · cases hx
