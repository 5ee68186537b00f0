section
/-! put, take are checked: rows 1 -/
theorem zyrq1_1 : zychks (zymr 1 1) [] (zyiq 1 1) 1 4 = true := by decide +kernel
theorem zyrq1_2 : zychks (zymr 1 2) [] (zyiq 1 2) 1 4 = true := by decide +kernel
theorem zyrq1_3 : zychks (zymr 1 3) [] (zyiq 1 3) 1 4 = true := by decide +kernel
theorem zyrq1_4 : zychks (zymr 1 4) [] (zyiq 1 4) 1 4 = true := by decide +kernel
theorem zyrq1_5 : zychks (zymr 1 5) [] (zyiq 1 5) 1 4 = true := by decide +kernel
end
section
/-! put, take are checked: rows 2 -/
theorem zyrq2_1 : zychks (zymr 2 1) [] (zyiq 2 1) 1 4 = true := by decide +kernel
theorem zyrq2_2 : zychks (zymr 2 2) [] (zyiq 2 2) 1 4 = true := by decide +kernel
theorem zyrq2_3 : zychks (zymr 2 3) [] (zyiq 2 3) 1 4 = true := by decide +kernel
theorem zyrq2_4 : zychks (zymr 2 4) [] (zyiq 2 4) 1 4 = true := by decide +kernel
theorem zyrq2_5 : zychks (zymr 2 5) [] (zyiq 2 5) 1 4 = true := by decide +kernel
end
section
/-! put, take are checked: rows 3 -/
theorem zyrq3_1 : zychks (zymr 3 1) [] (zyiq 3 1) 1 4 = true := by decide +kernel
theorem zyrq3_2 : zychks (zymr 3 2) [] (zyiq 3 2) 1 4 = true := by decide +kernel
theorem zyrq3_3 : zychks (zymr 3 3) [] (zyiq 3 3) 1 4 = true := by decide +kernel
theorem zyrq3_4 : zychks (zymr 3 4) [] (zyiq 3 4) 1 4 = true := by decide +kernel
theorem zyrq3_5 : zychks (zymr 3 5) [] (zyiq 3 5) 1 4 = true := by decide +kernel
end
section
/-! put, take are checked: rows 4 -/
theorem zyrq4_1 : zychks (zymr 4 1) [] (zyiq 4 1) 1 4 = true := by decide +kernel
theorem zyrq4_2 : zychks (zymr 4 2) [] (zyiq 4 2) 1 4 = true := by decide +kernel
theorem zyrq4_3 : zychks (zymr 4 3) [] (zyiq 4 3) 1 4 = true := by decide +kernel
theorem zyrq4_4 : zychks (zymr 4 4) [] (zyiq 4 4) 1 4 = true := by decide +kernel
theorem zyrq4_5 : zychks (zymr 4 5) [] (zyiq 4 5) 1 4 = true := by decide +kernel
end
section
/-! THE REFERENCE's contracts that hold with any J; the last J -/
theorem zyrefA {l : Launch} {J : zyJt} (hJ : zyJr J) {r c : Nat} (h1 : 1 ≤ r) (h2 : r ≤ 4) (h3 : 1 ≤ c) (h4 : c ≤ 5) : ∀ i, i < 20 → zyCo l (zymr r c) J (zyir r c) i := by
  intro i
  induction i using Nat.strongRecOn with
  | ind i IH =>
    intro hi
    have IH' : ∀ d, d < i → zyCo l (zymr r c) J (zyir r c) d := fun d hd => IH d hd (by omega)
    by_cases e0 : i = 0
    · subst e0
      exact fun en me he hm => zyturned hJ h1 h2 h3 h4 he hm
    by_cases e1 : i = 1
    · subst e1
      exact fun en me he hm => zygateAt hJ h1 h2 h3 h4 he hm
    by_cases e2 : i = 2
    · subst e2
      exact fun en me he hm => zyfacing hJ h1 h2 h3 h4 he hm
    by_cases e3 : i = 3
    · subst e3
      exact fun en me he hm => zyisOpen hJ h1 h2 h3 h4 he hm
    by_cases e4 : i = 4
    · subst e4
      exact fun en me he hm => zyover hJ h1 h2 h3 h4 he hm
    by_cases e5 : i = 5
    · subst e5
      exact fun en me he hm => zymapped hJ h1 h2 h3 h4 he hm
    by_cases e6 : i = 6
    · subst e6
      exact fun en me he hm => zyperiod hJ h1 h2 h3 h4 he hm
    by_cases e7 : i = 7
    · subst e7
      exact fun en me he hm => zyrounded hJ h1 h2 h3 h4 he hm
    by_cases e8 : i = 8
    · subst e8
      exact fun en me he hm => zyfreeN hJ h1 h2 h3 h4 he hm
    by_cases e9 : i = 9
    · subst e9
      exact fun en me he hm => zylengthOf hJ h1 h2 h3 h4 he hm
    by_cases e10 : i = 10
    · subst e10
      exact fun en me he hm => zyleastOf hJ h1 h2 h3 h4 he hm
    by_cases e11 : i = 11
    · subst e11
      exact fun en me he hm => zymeetsFrom hJ h1 h2 h3 h4 he hm
    by_cases e12 : i = 12
    · subst e12
      exact fun en me he hm => zymultiple he hm
    by_cases b13 : 13 ≤ i ∧ i < 20
    · exact zychk_ok (zychks_iff (zyAllP_iff zyrr13 h1 h2 h3 h4) i (by omega) (by omega)) hJ.1 IH'
    omega
end
section
/-! put, take; step, reset, cut, pair as all -/
theorem zyrqA {r c : Nat} (h1 : 1 ≤ r) (h2 : r ≤ 4) (h3 : 1 ≤ c) (h4 : c ≤ 5) : zychks (zymr r c) [] (zyiq r c) 1 4 = true := by
  have hr : r = 1 ∨ r = 2 ∨ r = 3 ∨ r = 4 := by omega
  have hc : c = 1 ∨ c = 2 ∨ c = 3 ∨ c = 4 ∨ c = 5 := by omega
  rcases hr with rfl | rfl | rfl | rfl
  · rcases hc with rfl | rfl | rfl | rfl | rfl
    · exact zyrq1_1
    · exact zyrq1_2
    · exact zyrq1_3
    · exact zyrq1_4
    · exact zyrq1_5
  · rcases hc with rfl | rfl | rfl | rfl | rfl
    · exact zyrq2_1
    · exact zyrq2_2
    · exact zyrq2_3
    · exact zyrq2_4
    · exact zyrq2_5
  · rcases hc with rfl | rfl | rfl | rfl | rfl
    · exact zyrq3_1
    · exact zyrq3_2
    · exact zyrq3_3
    · exact zyrq3_4
    · exact zyrq3_5
  · rcases hc with rfl | rfl | rfl | rfl | rfl
    · exact zyrq4_1
    · exact zyrq4_2
    · exact zyrq4_3
    · exact zyrq4_4
    · exact zyrq4_5
theorem zyqA {l : Launch} {r c : Nat} (h1 : 1 ≤ r) (h2 : r ≤ 4) (h3 : 1 ≤ c) (h4 : c ≤ 5) : ∀ i, i < 5 → zyCo l (zymr r c) zyJ0 (zyiq r c) i := by
  intro i
  induction i using Nat.strongRecOn with
  | ind i IH =>
    intro hi
    have IH' : ∀ d, d < i → zyCo l (zymr r c) zyJ0 (zyiq r c) d := fun d hd => IH d hd (by omega)
    by_cases e0 : i = 0
    · subst e0
      exact fun en me he hm => zyrefA zyJ0_r h1 h2 h3 h4 16 (by decide) en me he hm
    · exact zychk_ok (zychks_iff (zyrqA h1 h2 h3 h4) i (by omega) (by omega)) (zyJ0_p (fun p hp => by cases hp)) IH'
section YHU2
variable {l : Launch} {r c : Nat} {en : zEn} {me : zMe}
theorem zyput_U (h1 : 1 ≤ r) (h2 : r ≤ 4) (h3 : 1 ≤ c) (h4 : c ≤ 5) (hen : zG zxMeta 275 = some en) (hme : zG zMeth 275 = some me) : zyHc l (zymr r c) en me 9 1 zyΦu zyΨu := by
  refine zyHc_T (zyqA h1 h2 h3 h4 1 (by decide) en me hen hme) (zyqA h1 h2 h3 h4 2 (by decide) en me hen hme) ⟨rfl, rfl⟩ ⟨rfl, rfl⟩ ⟨rfl, rfl⟩ (cd1 := 34359738360) (cd2 := 73786976277658337338) ⟨⟨rfl, by decide⟩, rfl, by decide⟩ ?_ ?_
  · intro a k h
    obtain ⟨p0, g1, g2, g3, g4⟩ := zyin_iff.mp h
    have g1 : p0 ∈ [(74, 2, 3)] := g1
    simp only [List.mem_cons, List.not_mem_nil, or_false] at g1
    rcases g1 with rfl <;> dsimp only at g2 g3 g4 <;> omega
  · intro a k h
    obtain ⟨p0, g1, g2, g3, g4⟩ := zyin_iff.mp h
    have g1 : p0 ∈ [(74, 2, 3), (75, 2, 2), (75, 136, 159)] := g1
    simp only [List.mem_cons, List.not_mem_nil, or_false] at g1
    rcases g1 with rfl | rfl | rfl <;> dsimp only at g2 g3 g4 <;> omega
theorem zytake_U (h1 : 1 ≤ r) (h2 : r ≤ 4) (h3 : 1 ≤ c) (h4 : c ≤ 5) (hen : zG zxMeta 276 = some en) (hme : zG zMeth 276 = some me) : zyHc l (zymr r c) en me 3 1 zyΦu zyΨu := by
  refine zyHc_T (zyqA h1 h2 h3 h4 3 (by decide) en me hen hme) (zyqA h1 h2 h3 h4 4 (by decide) en me hen hme) ⟨rfl, rfl⟩ ⟨rfl, rfl⟩ ⟨rfl, rfl⟩ (cd1 := 34359738360) (cd2 := 73786976277658337338) ⟨⟨rfl, by decide⟩, rfl, by decide⟩ ?_ ?_
  · intro a k h
    obtain ⟨p0, g1, g2, g3, g4⟩ := zyin_iff.mp h
    have g1 : p0 ∈ [(74, 2, 3)] := g1
    simp only [List.mem_cons, List.not_mem_nil, or_false] at g1
    rcases g1 with rfl <;> dsimp only at g2 g3 g4 <;> omega
  · intro a k h
    obtain ⟨p0, g1, g2, g3, g4⟩ := zyin_iff.mp h
    have g1 : p0 ∈ [(74, 2, 3), (75, 2, 2), (75, 6, 6), (75, 136, 142), (75, 144, 150), (75, 152, 158), (75, 520, 555)] := g1
    simp only [List.mem_cons, List.not_mem_nil, or_false] at g1
    rcases g1 with rfl | rfl | rfl | rfl | rfl | rfl | rfl <;> dsimp only at g2 g3 g4 <;> omega
theorem zystep_U (h1 : 1 ≤ r) (h2 : r ≤ 4) (h3 : 1 ≤ c) (h4 : c ≤ 5) (hen : zG zxMeta 279 = some en) (hme : zG zMeth 279 = some me) : zyHc l (zymr r c) en me 8 1 zyΦu zyΨu := by
  refine zyHc_mono (zystep_H h1 h2 h3 h4 hen hme) (fun xs E _ _ h => h) (fun xs E E2 vo _ _ h hΨ => ?_)
  obtain ⟨k1, k2, k3, k4⟩ := hΨ
  refine ⟨⟨k1, k2 74 33 (by omega) (by omega) (by omega), fun T hT e => ?_⟩, k3⟩
  obtain ⟨T', -, q2, q3⟩ := k4 T hT e
  exact ⟨T', q2, q3⟩
theorem zyreset_U (h1 : 1 ≤ r) (h2 : r ≤ 4) (h3 : 1 ≤ c) (h4 : c ≤ 5) (hen : zG zxMeta 280 = some en) (hme : zG zMeth 280 = some me) : zyHc l (zymr r c) en me 8 0 zyΦu zyΨu := by
  refine zyHc_mono (zyreset_H h1 h2 h3 h4 hen hme) (fun xs E _ _ h => h.1) (fun xs E E2 vo _ _ h hΨ => ?_)
  obtain ⟨k1, k2, k3, k4⟩ := hΨ
  exact ⟨⟨k1, k2 74 33 (by omega) (by omega) (by omega), fun T hT e => ⟨0, by omega, k3⟩⟩, k4⟩
theorem zycut_U (h1 : 1 ≤ r) (h2 : r ≤ 4) (h3 : 1 ≤ c) (h4 : c ≤ 5) (hen : zG zxMeta 281 = some en) (hme : zG zMeth 281 = some me) : zyHc l (zymr r c) en me 8 0 zyΦu zyΨu := by
  refine zyHc_mono (zycut_H h1 h2 h3 h4 hen hme) (fun xs E _ _ h => h.1) (fun xs E E2 vo _ _ h hΨ => ?_)
  obtain ⟨k1, k2, k4⟩ := hΨ
  exact ⟨zyKu_3 k1 (k2 74 33 (by omega) (by omega)) (k2 75 3 (by omega) (by omega)), k4⟩
theorem zypair_U (h1 : 1 ≤ r) (h2 : r ≤ 4) (h3 : 1 ≤ c) (h4 : c ≤ 5) (hen : zG zxMeta 256 = some en) (hme : zG zMeth 256 = some me) : zyHc l (zymr r c) en me 4 2 zyΦu zyΨu := by
  refine zyHc_mono (zypair_H h1 h2 h3 h4 hen hme) (fun xs E _ _ h => h.1) (fun xs E E2 vo _ _ h hΨ => ?_)
  obtain ⟨k1, k4⟩ := hΨ
  exact ⟨zyKu_3 (zJ1_fr (fun k _ => k1 75 k (by omega) (by omega)) h.1) (k1 74 33 (by omega) (by omega)) (k1 75 3 (by omega) (by omega)), k4⟩
end YHU2
end
section
/-! phases: doesExplain (printed by yexj.py) -/
noncomputable def zxdex_ax0 : zyXp := (54, [595, 13, 13, 13, 13, 13], [595], [], [], [])
noncomputable def zpdex_a : zyPh := (0, [595, 34359738369, 68719476737, 13, 13, 13], [(0, 4294967295), (2147483647, 2147483709), (2147483647, 2147483709), (0, 4294967295), (0, 4294967295), (0, 4294967295)], [], [])
noncomputable def zxdex_bx0 : zyXp := (72, [595, 13, 13, 206158430209, 240518168577, 0], [], [], [(206158430209, 2147483648, 2147483727), (240518168577, 2147483648, 2147483649)], [])
noncomputable def zpdex_b : zyPh := (57, [595, 13, 13, 13, 13, 13], [(0, 4294967295), (0, 4294967295), (0, 4294967295), (0, 4294967295), (0, 4294967295), (0, 4294967295)], [], [])
noncomputable def zxdex_cx0 : zyXp := (86, [595, 13, 13, 103079215105, 13, 171798691841], [171798691841, 595], [], [(103079215105, 2147483649, 2147483727), (171798691841, 2147483648, 2147483726)], [])
noncomputable def zxdex_cr0 : zyXp := (0, [], [137438953473], [], [(137438953473, 2147483648, 2147483648)], [])
noncomputable def zxdex_cr1 : zyXp := (0, [], [137438953473], [], [(137438953473, 2147483648, 2147483649)], [])
noncomputable def zpdex_c : zyPh := (72, [595, 13, 13, 103079215105, 137438953473, 171798691841], [(0, 4294967295), (0, 4294967295), (0, 4294967295), (2147483648, 2147483727), (2147483648, 2147483649), (2147483648, 2147483727)], [], [])
noncomputable def zxdex_dx0 : zyXp := (100, [595, 13, 13, 103079215105, 13, 171798691841], [595], [(23, 0, 206158430209, 0)], [(103079215105, 2147483648, 2147483727), (171798691841, 2147483648, 2147483726), (206158430209, 2147483649, 2147483649)], [])
noncomputable def zxdex_dx1 : zyXp := (72, [595, 13, 13, 103079215105, 206158430209, 171798691849], [], [(22, 0, 206158430209, 0)], [(103079215105, 2147483648, 2147483727), (171798691841, 2147483648, 2147483726), (206158430209, 2147483648, 2147483648), (171798691849, 2147483649, 2147483727)], [])
noncomputable def zpdex_d : zyPh := (89, [595, 13, 13, 103079215105, 13, 171798691841], [(0, 4294967295), (0, 4294967295), (0, 4294967295), (2147483648, 2147483727), (0, 4294967295), (2147483648, 2147483726), (2147483648, 2147483649)], [], [206158430209])
noncomputable def zxdex_ex0 : zyXp := (72, [595, 13, 13, 103079215105, 206158430209, 171798691849], [], [], [(103079215105, 2147483648, 2147483727), (171798691841, 2147483648, 2147483726), (206158430209, 2147483648, 2147483649), (171798691849, 2147483649, 2147483727)], [])
noncomputable def zpdex_e : zyPh := (103, [595, 13, 13, 103079215105, 13, 171798691841], [(0, 4294967295), (0, 4294967295), (0, 4294967295), (2147483648, 2147483727), (0, 4294967295), (2147483648, 2147483726)], [], [])
noncomputable def zpdex (i : Nat) : zyPh := zif (Nat.beq i 0) (zpdex_a) (zif (Nat.beq i 1) (zpdex_b) (zif (Nat.beq i 2) (zpdex_c) (zif (Nat.beq i 3) (zpdex_d) (zpdex_e))))
noncomputable def zXdex (i : Nat) : List zyXp := zif (Nat.beq i 0) ([zxdex_ax0]) (zif (Nat.beq i 1) ([zxdex_bx0]) (zif (Nat.beq i 2) ([zxdex_cx0]) (zif (Nat.beq i 3) ([zxdex_dx0, zxdex_dx1]) ([zxdex_ex0]))))
noncomputable def zRdex (i : Nat) : List zyXp := zif (Nat.beq i 0) ([]) (zif (Nat.beq i 1) ([]) (zif (Nat.beq i 2) ([zxdex_cr0, zxdex_cr1]) (zif (Nat.beq i 3) ([]) ([]))))
noncomputable def zFdex (i : Nat) : zyR := zif (Nat.beq i 0) ([(74, 4, 7), (74, 9, 9)]) (zif (Nat.beq i 1) ([]) (zif (Nat.beq i 2) ([(74, 9, 9)]) (zif (Nat.beq i 3) ([]) ([]))))
noncomputable def zSdex (i : Nat) : Nat := zif (Nat.beq i 0) (0) (zif (Nat.beq i 1) (0) (zif (Nat.beq i 2) (0) (zif (Nat.beq i 3) (0) (0))))
end
section
/-! A SET OF SWITCHES explains -/
theorem zyrefD {l : Launch} {J : zyJt} (hJ : zyJr J) {r c : Nat} (h1 : 1 ≤ r) (h2 : r ≤ 4) (h3 : 1 ≤ c) (h4 : c ≤ 5) {deps : List Nat} (hd : zylow 20 deps = true) : ∀ y2 ct en2 me2, ct ∈ zydeps (zyir r c) deps y2 → zG zxMeta y2 = some en2 → zG zMeth y2 = some me2 → zyCon l (zymr r c) J en2 me2 ct := by
  intro y2 ct en2 me2 hct hen hme
  obtain ⟨d, hdm, e1, e2⟩ := zydeps_iff hct
  have hco := zyrefA (l := l) hJ h1 h2 h3 h4 d (zylow_iff' hd d hdm)
  unfold zyCo at hco
  rw [e1, e2] at hco
  exact hco en2 me2 hen hme
def zyFdx (E E2 : zyEm) : Prop := ∀ a k, ¬ (a = 74 ∧ ((4 ≤ k ∧ k ≤ 7) ∨ k = 9 ∨ (14 ≤ k ∧ k ≤ 17))) → ¬ (77 ≤ a ∧ a ≤ 78) → E2 a k = E a k
def zyΦdx (as : List Int32) (_ : zyEm) : Prop := ∃ x y : Int32, as = [x, y] ∧ (2147483647 ≤ zB x ∧ zB x ≤ 2147483709) ∧ 2147483647 ≤ zB y ∧ zB y ≤ 2147483709
def zyΨdx (_ : List Int32) (E E2 : zyEm) (vo : Option Value) : Prop := zyFdx E E2 ∧ ∃ z : Int32, vo = some (.int z) ∧ 2147483648 ≤ zB z ∧ zB z ≤ 2147483649
theorem zydex_run : zyAllP (fun r c => zyrS (zymr r c) zxi306 (306, 0, 0, 2, 0) 9 zpdex (fun _ => zydeps (zyir r c) [17, 18]) zFdex zSdex zXdex zRdex 5) = true := by decide +kernel
theorem zydoesExplain {l : Launch} {r c : Nat} (h1 : 1 ≤ r) (h2 : r ≤ 4) (h3 : 1 ≤ c) (h4 : c ≤ 5) {en : zEn} {me : zMe} (hen : zG zxMeta 306 = some en) (hme : zG zMeth 306 = some me) : zyHc l (zymr r c) en me 9 2 zyΦdx zyΨdx := by
  have een : zG zxMeta 306 = some (zxi306, 3, 6, 11, 306, 0, 0, 2, 0) := rfl
  obtain ⟨me1, hme1, hOK⟩ := zall hen
  rw [hme] at hme1
  cases hme1
  rw [een] at hen
  cases hen
  have hr := zyAllP_iff zydex_run h1 h2 h3 h4
  obtain ⟨mebg, hmebg, -⟩ := zall (show zG zxMeta 225 = some (zxi225, 1, 2, 11, 225, 0, 0, 0, 0) from rfl)
  have hbg := zybegins (l := l) h1 h2 h3 h4 (show zG zxMeta 225 = some (zxi225, 1, 2, 11, 225, 0, 0, 0, 0) from rfl) hmebg
  obtain ⟨metr, hmetr, -⟩ := zall (show zG zxMeta 219 = some (zxi219, 2, 3, 11, 219, 0, 0, 2, 0) from rfl)
  have htr := zytries (l := l) h1 h2 h3 h4 (show zG zxMeta 219 = some (zxi219, 2, 3, 11, 219, 0, 0, 2, 0) from rfl) hmetr
  obtain ⟨megs, hmegs, -⟩ := zall (show zG zxMeta 224 = some (zxi224, 1, 2, 11, 224, 0, 0, 0, 0) from rfl)
  have hgs := zygoes (l := l) h1 h2 h3 h4 (show zG zxMeta 224 = some (zxi224, 1, 2, 11, 224, 0, 0, 0, 0) from rfl) hmegs
  have hCon : ∀ i : Fin 5, zyCons l (zymr r c, zydeps (zyir r c) [17, 18], zFdex i.val, [], zSdex i.val) zyJ0 := fun _ => zyrefD (deps := [17, 18]) zyJ0_r h1 h2 h3 h4 rfl
  refine zycutS (mi := zymr r c) hOK rfl rfl ⟨_, rfl, rfl⟩ (ι := Fin 5) (fun i => zpdex i.val) (fun _ => zydeps (zyir r c) [17, 18]) (fun i => zFdex i.val) (fun i => zSdex i.val) (fun i => zXdex i.val) (fun i => zRdex i.val) hCon 200000 (fun i => zyAll_iff hr i.val i.isLt) ⟨0, by decide⟩ ⟨rfl, rfl, rfl, rfl⟩ ⟨by decide, by decide⟩
    (fun i as E0 ρ E => zyFdx E0 E ∧ ∃ m : Nat, m ≤ 8 ∧ E0 75 2 = some (.int (Int32.ofNat m)) ∧ (i.val = 1 ∨ i.val = 2 ∨ i.val = 3 ∨ i.val = 4 → ∀ b, b < m → zsl E b < zgNS r c) ∧ (i.val = 3 → ρ 6 = 1 → ∀ b, b < m → zth E b < zgNS r c)) (fun i as E0 ρ E => if i.val = 0 then 1000 else if i.val = 1 then 999 else if i.val = 2 then 5 * (80 - zyN1 (ρ 5)) + 4 else if i.val = 3 then 5 * (80 - zyN1 (ρ 5)) + 3 else 5 * (80 - zyN1 (ρ 5)) + 2) ?_ ?_ ?_
  · intro as E hlen hT hΦ
    obtain ⟨x, y, rfl, b1, b2⟩ := hΦ
    obtain ⟨m, hm, s1⟩ := zc_m hT
    exact ⟨zEnv_c (zyfull _) (zEnv_c b1 (zEnv_c b2 (zEnv_c (zyfull _) (zEnv_c (zyfull _) (zEnv_c (zyfull _) zEnv_nil))))), fun _ _ _ _ => rfl, m, hm, s1, fun h => absurd (show 0 = 1 ∨ 0 = 2 ∨ 0 = 3 ∨ 0 = 4 from h) (by decide), fun h => absurd (show 0 = 3 from h) (by decide)⟩
  · intro as B s Wg hRu hT0 hΦ hlen i ρ H hT hInv hIH x hx ρ2 N2 H2 locs lsB stA hAt hXs hag hfr hT2
    rcases i with ⟨i, hi⟩
    have hi2 : i = 0 ∨ i = 1 ∨ i = 2 ∨ i = 3 ∨ i = 4 := by omega
    rcases hi2 with rfl | rfl | rfl | rfl | rfl
    · have hx : x ∈ [zxdex_ax0] := hx
      have hg : ∀ k, k < 6 → ρ2 k = ρ k := hag
      have hI := hInv
      have hI : zyFdx (zyEl (zymr r c) B s.heap) (zyEl (zymr r c) B H) ∧ ∃ m : Nat, m ≤ 8 ∧ (zyEl (zymr r c) B s.heap) 75 2 = some (.int (Int32.ofNat m)) ∧ (0 = 1 ∨ 0 = 2 ∨ 0 = 3 ∨ 0 = 4 → ∀ b, b < m → zsl (zyEl (zymr r c) B H) b < zgNS r c) ∧ (0 = 3 → ρ 6 = 1 → ∀ b, b < m → zth (zyEl (zymr r c) B H) b < zgNS r c) := hI
      obtain ⟨hF, hB, hM⟩ := hXs
      have hfr : ∀ a k, zyin [(74, 4, 7), (74, 9, 9)] a k = false → (zyEl (zymr r c) B H2) a k = (zyEl (zymr r c) B H) a k := hfr
      have ex := List.mem_singleton.mp hx
      subst ex
      obtain ⟨i1, m, hm, s1, i2, i3⟩ := hI
      have hk : ∀ a k, ¬ (a = 74 ∧ 4 ≤ k ∧ k ≤ 7) → ¬ (a = 74 ∧ 9 ≤ k ∧ k ≤ 9) → (zyEl (zymr r c) B H2) a k = (zyEl (zymr r c) B H) a k := by
        intro a k n0 n1
        apply hfr
        cases hq : zyin [(74, 4, 7), (74, 9, 9)] a k with
        | false => rfl
        | true =>
          obtain ⟨p0, g1, g2, g3, g4⟩ := zyin_iff.mp hq
          simp only [List.mem_cons, List.not_mem_nil, or_false] at g1
          rcases g1 with rfl | rfl
          · exact absurd ⟨g2.symm, g3, g4⟩ n0
          · exact absurd ⟨g2.symm, g3, g4⟩ n1
      have kf : ∀ a k, ¬ (a = 74 ∧ ((4 ≤ k ∧ k ≤ 7) ∨ k = 9 ∨ (14 ≤ k ∧ k ≤ 17))) → zyEl (zymr r c) B H2 a k = zyEl (zymr r c) B H a k := fun a k n => hk a k (fun z => n ⟨z.1, by omega⟩) (fun z => n ⟨z.1, by omega⟩)
      refine zyCa0 hRu hIH hAt hB hbg (ix := 352) (ax := 3600) rfl rfl rfl hmebg ⟨rfl, rfl, rfl, rfl⟩ (by decide) [] rfl (by decide) rfl ⟨1, by decide⟩ [595, 0, 0, 0, 0, 0] rfl rfl rfl rfl trivial ?_
      intro E3 vo hT3 hΨ
      obtain ⟨ev, p1, p2, p3⟩ := (show zyΨbg _ [] _ E3 vo from hΨ)
      have e2 : zyEl (zymr r c) B H2 75 2 = some (.int (Int32.ofNat m)) := ((kf 75 2 (by omega)).trans (i1 75 2 (by omega) (by omega))).trans s1
      refine ⟨ev, ⟨fun a k n1 n2 => (p1 a k (by omega) (by omega)).trans ((kf a k n1).trans (i1 a k n1 n2)), m, hm, s1, fun _ => p3 m hm e2, fun h => absurd (show 1 = 3 from h) (by decide)⟩, (show 999 < 1000 by decide)⟩
    · have hx : x ∈ [zxdex_bx0] := hx
      have hg : ∀ k, k < 6 → ρ2 k = ρ k := hag
      have hI := hInv
      have hI : zyFdx (zyEl (zymr r c) B s.heap) (zyEl (zymr r c) B H) ∧ ∃ m : Nat, m ≤ 8 ∧ (zyEl (zymr r c) B s.heap) 75 2 = some (.int (Int32.ofNat m)) ∧ (1 = 1 ∨ 1 = 2 ∨ 1 = 3 ∨ 1 = 4 → ∀ b, b < m → zsl (zyEl (zymr r c) B H) b < zgNS r c) ∧ (1 = 3 → ρ 6 = 1 → ∀ b, b < m → zth (zyEl (zymr r c) B H) b < zgNS r c) := hI
      obtain ⟨hF, hB, hM⟩ := hXs
      have hEE : (zyEl (zymr r c) B H2) = (zyEl (zymr r c) B H) := zyfr0 hfr
      have ex := List.mem_singleton.mp hx
      subst ex
      obtain ⟨i1, m, hm, s1, i2, i3⟩ := hI
      have sl := i2 (Or.inl rfl)
      refine zyGoB hIH hAt hB ⟨2, by decide⟩ [595, 0, 0, 206158430209, 240518168577, 0] rfl rfl rfl rfl ⟨by rw [hEE]; exact i1, m, hm, s1, fun _ => by rw [hEE]; exact sl, fun h => absurd (show 2 = 3 from h) (by decide)⟩ ?_
      show 5 * (80 - zyN1 (Int32.ofNat 0)) + 4 < 999
      omega
    · have hx : x ∈ [zxdex_cx0] := hx
      have hg : ∀ k, k < 6 → ρ2 k = ρ k := hag
      have hI := hInv
      have hI : zyFdx (zyEl (zymr r c) B s.heap) (zyEl (zymr r c) B H) ∧ ∃ m : Nat, m ≤ 8 ∧ (zyEl (zymr r c) B s.heap) 75 2 = some (.int (Int32.ofNat m)) ∧ (2 = 1 ∨ 2 = 2 ∨ 2 = 3 ∨ 2 = 4 → ∀ b, b < m → zsl (zyEl (zymr r c) B H) b < zgNS r c) ∧ (2 = 3 → ρ 6 = 1 → ∀ b, b < m → zth (zyEl (zymr r c) B H) b < zgNS r c) := hI
      obtain ⟨hF, hB, hM⟩ := hXs
      have hfr : ∀ a k, zyin [(74, 9, 9)] a k = false → (zyEl (zymr r c) B H2) a k = (zyEl (zymr r c) B H) a k := hfr
      have ex := List.mem_singleton.mp hx
      subst ex
      obtain ⟨i1, m, hm, s1, i2, i3⟩ := hI
      have hk : ∀ a k, ¬ (a = 74 ∧ 9 ≤ k ∧ k ≤ 9) → (zyEl (zymr r c) B H2) a k = (zyEl (zymr r c) B H) a k := by
        intro a k n0
        apply hfr
        cases hq : zyin [(74, 9, 9)] a k with
        | false => rfl
        | true =>
          obtain ⟨p0, g1, g2, g3, g4⟩ := zyin_iff.mp hq
          simp only [List.mem_cons, List.not_mem_nil, or_false] at g1
          rcases g1 with rfl
          · exact absurd ⟨g2.symm, g3, g4⟩ n0
      have sl := i2 (Or.inr (Or.inl rfl))
      have kf : ∀ a k, ¬ (a = 74 ∧ ((4 ≤ k ∧ k ≤ 7) ∨ k = 9 ∨ (14 ≤ k ∧ k ≤ 17))) → zyEl (zymr r c) B H2 a k = zyEl (zymr r c) B H a k := fun a k n => hk a k (fun z => n ⟨z.1, by omega⟩)
      have e2 : zyEl (zymr r c) B H2 75 2 = some (.int (Int32.ofNat m)) := ((kf 75 2 (by omega)).trans (i1 75 2 (by omega) (by omega))).trans s1
      refine zyCa1 hRu hIH hAt hB htr (ix := 329) (ax := 3504) rfl rfl rfl hmetr ⟨rfl, rfl, rfl, rfl⟩ (by decide) [171798691841] rfl (by decide) rfl ⟨3, by decide⟩ [595, 0, 0, 103079215105, 0, 171798691841] [(0, 4294967295), (0, 4294967295), (0, 4294967295), (2147483648, 2147483727), (0, 4294967295), (2147483648, 2147483726)] 2147483648 2147483649 rfl (by decide) rfl rfl rfl rfl rfl ?_ ?_
      · show zyΦtr _ [ρ2 5] _
        exact ⟨m, hm, e2, fun b hb => by rw [zsl_eq (kf 77 b (by omega))]; exact sl b hb⟩
      · intro E3 vo hT3 hΨ
        obtain ⟨p1, z, ez, hz, hzz⟩ := (show zyΨtr _ [ρ2 5] _ E3 vo from hΨ)
        refine ⟨z, ez, ?_, ?_, ⟨fun a k n1 n2 => (p1 a k (by omega) (by omega)).trans ((kf a k n1).trans (i1 a k n1 n2)), m, hm, s1, fun _ b hb => ?_, fun _ q => hzz (zyρi_e.symm.trans q) m hm e2⟩, ?_⟩
        · rcases hz with rfl | rfl <;> decide
        · rcases hz with rfl | rfl <;> decide
        · rw [zsl_eq (p1 77 b (by omega) (by omega)), zsl_eq (kf 77 b (by omega))]
          exact sl b hb
        · show 5 * (80 - zyN1 (ρ2 5)) + 3 < 5 * (80 - zyN1 (ρ 5)) + 4
          rw [hg 5 (by decide)]
          omega
    · have hx : x ∈ [zxdex_dx0, zxdex_dx1] := hx
      have hg : ∀ k, k < 7 → ρ2 k = ρ k := hag
      have hI := hInv
      have hI : zyFdx (zyEl (zymr r c) B s.heap) (zyEl (zymr r c) B H) ∧ ∃ m : Nat, m ≤ 8 ∧ (zyEl (zymr r c) B s.heap) 75 2 = some (.int (Int32.ofNat m)) ∧ (3 = 1 ∨ 3 = 2 ∨ 3 = 3 ∨ 3 = 4 → ∀ b, b < m → zsl (zyEl (zymr r c) B H) b < zgNS r c) ∧ (3 = 3 → ρ 6 = 1 → ∀ b, b < m → zth (zyEl (zymr r c) B H) b < zgNS r c) := hI
      obtain ⟨hF, hB, hM⟩ := hXs
      have hEE : (zyEl (zymr r c) B H2) = (zyEl (zymr r c) B H) := zyfr0 hfr
      rcases List.mem_cons.mp hx with ex | hx
      · subst ex
        obtain ⟨i1, m, hm, s1, i2, i3⟩ := hI
        have f0 := zyX23 hF 0 rfl
        have f0 : ¬ ρ2 6 = Int32.ofNat 0 := f0
        have z5 : 2147483649 ≤ zB (ρ2 6) ∧ zB (ρ2 6) ≤ 2147483649 := zyXb hB 2 rfl
        have z5 : ρ2 6 = 1 := by
          rcases zybool (x := ρ2 6) (by omega) (by omega) with e | e
          · exact absurd e f0
          · exact e
        have tv := i3 rfl ((hg 6 (by decide)).symm.trans z5)
        refine zyCa0 hRu hIH hAt hB hgs (ix := 355) (ax := 3584) rfl rfl rfl hmegs ⟨rfl, rfl, rfl, rfl⟩ (by decide) [] rfl (by decide) rfl ⟨4, by decide⟩ [595, 0, 0, 103079215105, 0, 171798691841] rfl rfl rfl rfl trivial ?_
        intro E3 vo hT3 hΨ
        have hΨ : zyΨgs [] _ E3 vo := hΨ
        rw [hEE] at hΨ
        obtain ⟨ev, p1, p2⟩ := hΨ
        have e2 : zyEl (zymr r c) B H 75 2 = some (.int (Int32.ofNat m)) := (i1 75 2 (by omega) (by omega)).trans s1
        refine ⟨ev, ⟨fun a k n1 n2 => (p1 a k (by omega)).trans (i1 a k n1 n2), m, hm, s1, fun _ b hb => by rw [p2 m hm e2 b hb]; exact tv b hb, fun h => absurd (show 4 = 3 from h) (by decide)⟩, ?_⟩
        show 5 * (80 - zyN1 (ρ2 5)) + 2 < 5 * (80 - zyN1 (ρ 5)) + 3
        rw [hg 5 (by decide)]
        omega
      · skip
        have ex := List.mem_singleton.mp hx
        subst ex
        obtain ⟨i1, m, hm, s1, i2, i3⟩ := hI
        have b5 := zyXb hB 1 rfl
        have b5 : 2147483648 ≤ zB (ρ2 5) ∧ zB (ρ2 5) ≤ 2147483726 := b5
        have sl := i2 (Or.inr (Or.inr (Or.inl rfl)))
        obtain ⟨q1, q2, -⟩ := zyStep (b := 78) b5 (by decide)
        refine zyGoB hIH hAt hB ⟨2, by decide⟩ [595, 0, 0, 103079215105, 206158430209, 171798691849] rfl rfl rfl rfl ⟨by rw [hEE]; exact i1, m, hm, s1, fun _ => by rw [hEE]; exact sl, fun h => absurd (show 2 = 3 from h) (by decide)⟩ ?_
        show 5 * (80 - zyN1 (ρ2 5 + Int32.ofNat 1)) + 4 < 5 * (80 - zyN1 (ρ 5)) + 3
        rw [q1, hg 5 (by decide)]
        rw [hg 5 (by decide)] at q2
        omega
    · have hx : x ∈ [zxdex_ex0] := hx
      have hg : ∀ k, k < 6 → ρ2 k = ρ k := hag
      have hI := hInv
      have hI : zyFdx (zyEl (zymr r c) B s.heap) (zyEl (zymr r c) B H) ∧ ∃ m : Nat, m ≤ 8 ∧ (zyEl (zymr r c) B s.heap) 75 2 = some (.int (Int32.ofNat m)) ∧ (4 = 1 ∨ 4 = 2 ∨ 4 = 3 ∨ 4 = 4 → ∀ b, b < m → zsl (zyEl (zymr r c) B H) b < zgNS r c) ∧ (4 = 3 → ρ 6 = 1 → ∀ b, b < m → zth (zyEl (zymr r c) B H) b < zgNS r c) := hI
      obtain ⟨hF, hB, hM⟩ := hXs
      have hEE : (zyEl (zymr r c) B H2) = (zyEl (zymr r c) B H) := zyfr0 hfr
      have ex := List.mem_singleton.mp hx
      subst ex
      obtain ⟨i1, m, hm, s1, i2, i3⟩ := hI
      have b5 := zyXb hB 1 rfl
      have b5 : 2147483648 ≤ zB (ρ2 5) ∧ zB (ρ2 5) ≤ 2147483726 := b5
      have sl := i2 (Or.inr (Or.inr (Or.inr rfl)))
      obtain ⟨q1, q2, -⟩ := zyStep (b := 78) b5 (by decide)
      refine zyGoB hIH hAt hB ⟨2, by decide⟩ [595, 0, 0, 103079215105, 206158430209, 171798691849] rfl rfl rfl rfl ⟨by rw [hEE]; exact i1, m, hm, s1, fun _ => by rw [hEE]; exact sl, fun h => absurd (show 2 = 3 from h) (by decide)⟩ ?_
      show 5 * (80 - zyN1 (ρ2 5 + Int32.ofNat 1)) + 4 < 5 * (80 - zyN1 (ρ 5)) + 2
      rw [q1, hg 5 (by decide)]
      rw [hg 5 (by decide)] at q2
      omega
  · intro as E0 E E2 hT0 hΦ hlen i ρ hT hInv x hx ρ2 N2 B vo hXs hag hfr hT2 hvo
    rcases i with ⟨i, hi⟩
    have hi2 : i = 0 ∨ i = 1 ∨ i = 2 ∨ i = 3 ∨ i = 4 := by omega
    rcases hi2 with rfl | rfl | rfl | rfl | rfl
    · cases hx
    · cases hx
    · have hx : x ∈ [zxdex_cr0, zxdex_cr1] := hx
      have hg : ∀ k, k < 6 → ρ2 k = ρ k := hag
      have hI := hInv
      have hI : zyFdx E0 E ∧ ∃ m : Nat, m ≤ 8 ∧ E0 75 2 = some (.int (Int32.ofNat m)) ∧ (2 = 1 ∨ 2 = 2 ∨ 2 = 3 ∨ 2 = 4 → ∀ b, b < m → zsl E b < zgNS r c) ∧ (2 = 3 → ρ 6 = 1 → ∀ b, b < m → zth E b < zgNS r c) := hI
      obtain ⟨hF, hB, hM⟩ := hXs
      have hfr : ∀ a k, zyin [(74, 9, 9)] a k = false → E2 a k = E a k := hfr
      rcases List.mem_cons.mp hx with ex | hx
      · subst ex
        obtain ⟨i1, m, hm, s1, i2, i3⟩ := hI
        have hk : ∀ a k, ¬ (a = 74 ∧ 9 ≤ k ∧ k ≤ 9) → E2 a k = E a k := by
          intro a k n0
          apply hfr
          cases hq : zyin [(74, 9, 9)] a k with
          | false => rfl
          | true =>
            obtain ⟨p0, g1, g2, g3, g4⟩ := zyin_iff.mp hq
            simp only [List.mem_cons, List.not_mem_nil, or_false] at g1
            rcases g1 with rfl
            · exact absurd ⟨g2.symm, g3, g4⟩ n0
        have b4 := zyXb hB 0 rfl
        have b4 : 2147483648 ≤ zB (ρ2 4) ∧ zB (ρ2 4) ≤ 2147483648 := b4
        exact ⟨fun a k n1 n2 => (hk a k (fun z => n1 ⟨z.1, by omega⟩)).trans (i1 a k n1 n2), _, zyvo_1 (c := 137438953473) (by decide) (show zyvo (zyXn B ρ2 N2) [137438953473] vo from hvo), b4.1, Nat.le_trans b4.2 (by decide)⟩
      · skip
        have ex := List.mem_singleton.mp hx
        subst ex
        obtain ⟨i1, m, hm, s1, i2, i3⟩ := hI
        have hk : ∀ a k, ¬ (a = 74 ∧ 9 ≤ k ∧ k ≤ 9) → E2 a k = E a k := by
          intro a k n0
          apply hfr
          cases hq : zyin [(74, 9, 9)] a k with
          | false => rfl
          | true =>
            obtain ⟨p0, g1, g2, g3, g4⟩ := zyin_iff.mp hq
            simp only [List.mem_cons, List.not_mem_nil, or_false] at g1
            rcases g1 with rfl
            · exact absurd ⟨g2.symm, g3, g4⟩ n0
        have b4 := zyXb hB 0 rfl
        have b4 : 2147483648 ≤ zB (ρ2 4) ∧ zB (ρ2 4) ≤ 2147483649 := b4
        exact ⟨fun a k n1 n2 => (hk a k (fun z => n1 ⟨z.1, by omega⟩)).trans (i1 a k n1 n2), _, zyvo_1 (c := 137438953473) (by decide) (show zyvo (zyXn B ρ2 N2) [137438953473] vo from hvo), b4.1, Nat.le_trans b4.2 (by decide)⟩
    · cases hx
    · cases hx
end
section
/-! phases: braid, feed (printed by yexk.py) -/
noncomputable def zxbrd_ax0 : zyXp := (130, [595, 13, 13], [0, 8, 595], [], [], [])
noncomputable def zxbrd_ax1 : zyXp := (116, [595, 13, 13], [8, 0, 595], [], [], [])
noncomputable def zxbrd_ax2 : zyXp := (137, [595, 13, 13], [595], [], [], [])
noncomputable def zxbrd_ax3 : zyXp := (65, [595, 13, 13], [595], [], [], [])
noncomputable def zxbrd_ax4 : zyXp := (77, [595, 13, 13], [595], [], [], [])
noncomputable def zxbrd_ax5 : zyXp := (101, [595, 13, 13], [8, 595], [], [], [])
noncomputable def zxbrd_ar0 : zyXp := (0, [], [34359738360], [], [], [])
noncomputable def zxbrd_ar1 : zyXp := (0, [], [103079215105], [], [], [])
noncomputable def zpbrd_a : zyPh := (0, [595, 34359738369, 13], [(0, 4294967295), (0, 4294967295), (0, 4294967295)], [], [])
noncomputable def zxbrd_br0 : zyXp := (0, [], [103079215105], [], [], [])
noncomputable def zpbrd_b : zyPh := (68, [595, 13, 13], [(0, 4294967295), (0, 4294967295), (0, 4294967295), (0, 4294967295)], [], [103079215105])
noncomputable def zxbrd_cx0 : zyXp := (83, [595, 13, 13], [0, 0, 595], [], [], [])
noncomputable def zpbrd_c : zyPh := (80, [595, 13, 13], [(0, 4294967295), (0, 4294967295), (0, 4294967295)], [], [])
noncomputable def zxbrd_dx0 : zyXp := (87, [595, 13, 13], [595], [], [], [])
noncomputable def zpbrd_d : zyPh := (86, [595, 13, 13], [(0, 4294967295), (0, 4294967295), (0, 4294967295)], [], [])
noncomputable def zxbrd_er0 : zyXp := (0, [], [8], [], [], [])
noncomputable def zxbrd_er1 : zyXp := (0, [], [0], [], [], [])
noncomputable def zpbrd_e : zyPh := (90, [595, 13, 13], [(0, 4294967295), (0, 4294967295), (0, 4294967295), (2147483648, 2147483649)], [], [103079215105])
noncomputable def zxbrd_fr0 : zyXp := (0, [], [8], [], [], [])
noncomputable def zxbrd_fr1 : zyXp := (0, [], [0], [], [], [])
noncomputable def zpbrd_f : zyPh := (104, [595, 13, 13], [(0, 4294967295), (0, 4294967295), (0, 4294967295), (2147483648, 2147483649)], [], [103079215105])
noncomputable def zxbrd_gr0 : zyXp := (0, [], [8], [], [], [])
noncomputable def zxbrd_gr1 : zyXp := (0, [], [0], [], [], [])
noncomputable def zpbrd_g : zyPh := (119, [595, 13, 13], [(0, 4294967295), (0, 4294967295), (0, 4294967295), (2147483648, 2147483649)], [], [103079215105])
noncomputable def zxbrd_hr0 : zyXp := (0, [], [8], [], [], [])
noncomputable def zxbrd_hr1 : zyXp := (0, [], [0], [], [], [])
noncomputable def zpbrd_h : zyPh := (133, [595, 13, 13], [(0, 4294967295), (0, 4294967295), (0, 4294967295), (2147483648, 2147483649)], [], [103079215105])
noncomputable def zxbrd_jr0 : zyXp := (0, [], [8], [], [], [])
noncomputable def zxbrd_jr1 : zyXp := (0, [], [0], [], [], [])
noncomputable def zpbrd_j : zyPh := (140, [595, 13, 13], [(0, 4294967295), (0, 4294967295), (0, 4294967295), (2147483648, 2147483649)], [], [103079215105])
noncomputable def zpbrd (i : Nat) : zyPh := zif (Nat.beq i 0) (zpbrd_a) (zif (Nat.beq i 1) (zpbrd_b) (zif (Nat.beq i 2) (zpbrd_c) (zif (Nat.beq i 3) (zpbrd_d) (zif (Nat.beq i 4) (zpbrd_e) (zif (Nat.beq i 5) (zpbrd_f) (zif (Nat.beq i 6) (zpbrd_g) (zif (Nat.beq i 7) (zpbrd_h) (zpbrd_j))))))))
noncomputable def zXbrd (i : Nat) : List zyXp := zif (Nat.beq i 0) ([zxbrd_ax0, zxbrd_ax1, zxbrd_ax2, zxbrd_ax3, zxbrd_ax4, zxbrd_ax5]) (zif (Nat.beq i 1) ([]) (zif (Nat.beq i 2) ([zxbrd_cx0]) (zif (Nat.beq i 3) ([zxbrd_dx0]) (zif (Nat.beq i 4) ([]) (zif (Nat.beq i 5) ([]) (zif (Nat.beq i 6) ([]) (zif (Nat.beq i 7) ([]) ([]))))))))
noncomputable def zRbrd (i : Nat) : List zyXp := zif (Nat.beq i 0) ([zxbrd_ar0, zxbrd_ar1]) (zif (Nat.beq i 1) ([zxbrd_br0]) (zif (Nat.beq i 2) ([]) (zif (Nat.beq i 3) ([]) (zif (Nat.beq i 4) ([zxbrd_er0, zxbrd_er1]) (zif (Nat.beq i 5) ([zxbrd_fr0, zxbrd_fr1]) (zif (Nat.beq i 6) ([zxbrd_gr0, zxbrd_gr1]) (zif (Nat.beq i 7) ([zxbrd_hr0, zxbrd_hr1]) ([zxbrd_jr0, zxbrd_jr1]))))))))
noncomputable def zFbrd (i : Nat) : zyR := zif (Nat.beq i 0) ([(74, 2, 3)]) (zif (Nat.beq i 1) ([]) (zif (Nat.beq i 2) ([]) (zif (Nat.beq i 3) ([]) (zif (Nat.beq i 4) ([]) (zif (Nat.beq i 5) ([]) (zif (Nat.beq i 6) ([]) (zif (Nat.beq i 7) ([]) ([]))))))))
noncomputable def zSbrd (i : Nat) : Nat := zif (Nat.beq i 0) (0) (zif (Nat.beq i 1) (0) (zif (Nat.beq i 2) (0) (zif (Nat.beq i 3) (0) (zif (Nat.beq i 4) (0) (zif (Nat.beq i 5) (0) (zif (Nat.beq i 6) (0) (zif (Nat.beq i 7) (0) (0))))))))
noncomputable def zxfee_zx0 : zyXp := (0, [595, 34359738369, 68719476737, 103079215105, 137438953473, 171798691841], [], [], [], [])
noncomputable def zpfee_z : zyPh := (0, [595, 34359738369, 68719476737, 103079215105, 137438953473, 171798691841], [(0, 4294967295), (0, 4294967295), (0, 4294967295), (0, 4294967295), (0, 4294967295), (0, 4294967295)], [], [])
noncomputable def zxfee_ar0 : zyXp := (0, [], [34359738360], [], [(206158430209, 2147484529, 2147484548)], [(1212449, 206158430209)])
noncomputable def zxfee_ar1 : zyXp := (0, [], [206158430369], [], [(206158430209, 2147483648, 2147484528), (206158430369, 2147483668, 2147484548)], [(1212449, 206158430369)])
noncomputable def zpfee_a : zyPh := (0, [595, 34359738369, 68719476737, 103079215105, 137438953473, 171798691841], [(0, 4294967295), (0, 4294967295), (0, 4294967295), (0, 4294967295), (0, 4294967295), (0, 4294967295), (2147483648, 2147484548)], [(1212449, 206158430209)], [])
noncomputable def zpfee (i : Nat) : zyPh := zif (Nat.beq i 0) (zpfee_z) (zpfee_a)
noncomputable def zXfee (i : Nat) : List zyXp := zif (Nat.beq i 0) ([zxfee_zx0]) ([])
noncomputable def zRfee (i : Nat) : List zyXp := zif (Nat.beq i 0) ([]) ([zxfee_ar0, zxfee_ar1])
noncomputable def zFfee (i : Nat) : zyR := zif (Nat.beq i 0) ([]) ([(74, 3, 3), (74, 33, 33), (84, 0, 899)])
noncomputable def zSfee (i : Nat) : Nat := zif (Nat.beq i 0) (0) (0)
end
section
/-! braid; feed -/
def zyFbd (E E2 : zyEm) : Prop := ∀ a k, ¬ (a = 74 ∧ ((2 ≤ k ∧ k ≤ 3) ∨ (19 ≤ k ∧ k ≤ 21))) → ¬ (81 ≤ a ∧ a ≤ 83) → E2 a k = E a k
def zyΨbd (_ : List Int32) (E E2 : zyEm) (vo : Option Value) : Prop := zyFbd E E2 ∧ ∃ z : Int32, vo = some (.int z)
theorem zJ1_bd {E E2 : zyEm} (h : zyFbd E E2) (hJ : zJ1 E) : zJ1 E2 := zJ1_fr (fun k _ => h 75 k (by omega) (by omega)) hJ
theorem zybrd_run : zyAllP (fun r c => zyrS (zymr r c) zxi253 (253, 0, 0, 1, 0) 9 zpbrd (fun _ => zydeps (zyir r c) [19]) zFbrd zSbrd zXbrd zRbrd 9) = true := by decide +kernel
theorem zybraid_H {l : Launch} {r c : Nat} (h1 : 1 ≤ r) (h2 : r ≤ 4) (h3 : 1 ≤ c) (h4 : c ≤ 5) {en : zEn} {me : zMe} (hen : zG zxMeta 253 = some en) (hme : zG zMeth 253 = some me) : zyHc l (zymr r c) en me 9 1 zyΦj zyΨbd := by
  have een : zG zxMeta 253 = some (zxi253, 2, 3, 11, 253, 0, 0, 1, 0) := rfl
  obtain ⟨me1, hme1, hOK⟩ := zall hen
  rw [hme] at hme1
  cases hme1
  rw [een] at hen
  cases hen
  have hr := zyAllP_iff zybrd_run h1 h2 h3 h4
  obtain ⟨meso, hmeso, -⟩ := zall (show zG zxMeta 246 = some (zxi246, 3, 3, 11, 246, 0, 0, 2, 0) from rfl)
  have hso := zyisItselfSo (l := l) h1 h2 h3 h4 (show zG zxMeta 246 = some (zxi246, 3, 3, 11, 246, 0, 0, 2, 0) from rfl) hmeso
  obtain ⟨mege, hmege, -⟩ := zall (show zG zxMeta 247 = some (zxi247, 1, 1, 11, 247, 0, 0, 2, 0) from rfl)
  have hge := zygoEitherWay (l := l) h1 h2 h3 h4 (show zG zxMeta 247 = some (zxi247, 1, 1, 11, 247, 0, 0, 2, 0) from rfl) hmege
  obtain ⟨mewa, hmewa, -⟩ := zall (show zG zxMeta 245 = some (zxi245, 2, 3, 11, 245, 0, 0, 2, 0) from rfl)
  have hwa := zyisWishedAgain (l := l) h1 h2 h3 h4 (show zG zxMeta 245 = some (zxi245, 2, 3, 11, 245, 0, 0, 2, 0) from rfl) hmewa
  obtain ⟨melp, hmelp, -⟩ := zall (show zG zxMeta 251 = some (zxi251, 1, 5, 11, 251, 0, 0, 1, 0) from rfl)
  have hlp := zyloops (l := l) h1 h2 h3 h4 (show zG zxMeta 251 = some (zxi251, 1, 5, 11, 251, 0, 0, 1, 0) from rfl) hmelp
  obtain ⟨mebb, hmebb, -⟩ := zall (show zG zxMeta 238 = some (zxi238, 1, 1, 11, 238, 0, 0, 0, 0) from rfl)
  have hbb := zybeginsBraid (l := l) h1 h2 h3 h4 (show zG zxMeta 238 = some (zxi238, 1, 1, 11, 238, 0, 0, 0, 0) from rfl) hmebb
  obtain ⟨mejw, hmejw, -⟩ := zall (show zG zxMeta 240 = some (zxi240, 3, 5, 11, 240, 0, 0, 0, 0) from rfl)
  have hjw := zyjoinsWord (l := l) h1 h2 h3 h4 (show zG zxMeta 240 = some (zxi240, 3, 5, 11, 240, 0, 0, 0, 0) from rfl) hmejw
  obtain ⟨menb, hmenb, -⟩ := zall (show zG zxMeta 239 = some (zxi239, 1, 1, 11, 239, 0, 0, 2, 0) from rfl)
  have hnb := zyisNoBraid (l := l) h1 h2 h3 h4 (show zG zxMeta 239 = some (zxi239, 1, 1, 11, 239, 0, 0, 2, 0) from rfl) hmenb
  have hCon : ∀ i : Fin 9, zyCons l (zymr r c, zydeps (zyir r c) [19], zFbrd i.val, [], zSbrd i.val) zyJ0 := fun _ => zyrefD (deps := [19]) zyJ0_r h1 h2 h3 h4 rfl
  refine zycutS (mi := zymr r c) hOK rfl rfl ⟨_, rfl, rfl⟩ (ι := Fin 9) (fun i => zpbrd i.val) (fun _ => zydeps (zyir r c) [19]) (fun i => zFbrd i.val) (fun i => zSbrd i.val) (fun i => zXbrd i.val) (fun i => zRbrd i.val) hCon 200000 (fun i => zyAll_iff hr i.val i.isLt) ⟨0, by decide⟩ ⟨rfl, rfl, rfl, rfl⟩ ⟨by decide, by decide⟩
    (fun i as E0 ρ E => zJ1 E0 ∧ zyFbd E0 E ∧ (i.val = 2 ∨ i.val = 3 → ∃ n m : Nat, m ≤ 8 ∧ E0 75 2 = some (.int (Int32.ofNat m)) ∧ n ≤ 300 ∧ zBs E n m ∧ (i.val = 2 → n = 0))) (fun i as E0 ρ E => 10 - i.val) ?_ ?_ ?_
  · intro as E hlen hT hΦ
    exact ⟨zEnv_c (zyfull _) (zEnv_c (zyfull _) (zEnv_c (zyfull _) zEnv_nil)), hΦ, fun _ _ _ _ => rfl, fun h => absurd (show 0 = 2 ∨ 0 = 3 from h) (by decide)⟩
  · intro as B s Wg hRu hT0 hΦ hlen i ρ H hT hInv hIH x hx ρ2 N2 H2 locs lsB stA hAt hXs hag hfr hT2
    rcases i with ⟨i, hi⟩
    have hi2 : i = 0 ∨ i = 1 ∨ i = 2 ∨ i = 3 ∨ i = 4 ∨ i = 5 ∨ i = 6 ∨ i = 7 ∨ i = 8 := by omega
    rcases hi2 with rfl | rfl | rfl | rfl | rfl | rfl | rfl | rfl | rfl
    · have hx : x ∈ [zxbrd_ax0, zxbrd_ax1, zxbrd_ax2, zxbrd_ax3, zxbrd_ax4, zxbrd_ax5] := hx
      have hg : ∀ k, k < 3 → ρ2 k = ρ k := hag
      have hI := hInv
      have hI : zJ1 (zyEl (zymr r c) B s.heap) ∧ zyFbd (zyEl (zymr r c) B s.heap) (zyEl (zymr r c) B H) ∧ (0 = 2 ∨ 0 = 3 → ∃ n m : Nat, m ≤ 8 ∧ (zyEl (zymr r c) B s.heap) 75 2 = some (.int (Int32.ofNat m)) ∧ n ≤ 300 ∧ zBs (zyEl (zymr r c) B H) n m ∧ (0 = 2 → n = 0)) := hI
      obtain ⟨hF, hB, hM⟩ := hXs
      have hfr : ∀ a k, zyin [(74, 2, 3)] a k = false → (zyEl (zymr r c) B H2) a k = (zyEl (zymr r c) B H) a k := hfr
      rcases List.mem_cons.mp hx with ex | hx
      · subst ex
        obtain ⟨hJ, i1, i2⟩ := hI
        have hk : ∀ a k, ¬ (a = 74 ∧ 2 ≤ k ∧ k ≤ 3) → (zyEl (zymr r c) B H2) a k = (zyEl (zymr r c) B H) a k := by
          intro a k n0
          apply hfr
          cases hq : zyin [(74, 2, 3)] a k with
          | false => rfl
          | true =>
            obtain ⟨p0, g1, g2, g3, g4⟩ := zyin_iff.mp hq
            simp only [List.mem_cons, List.not_mem_nil, or_false] at g1
            rcases g1 with rfl
            · exact absurd ⟨g2.symm, g3, g4⟩ n0
        have k2 : zyFbd (zyEl (zymr r c) B s.heap) (zyEl (zymr r c) B H2) := fun a k n1 n2 => (hk a k (fun z => n1 ⟨z.1, by omega⟩)).trans (i1 a k n1 n2)
        obtain ⟨m, hm, s1⟩ := zc_m hT0
        have hJ2 := zJ1_bd k2 hJ
        have e2 := (k2 75 2 (by omega) (by omega)).trans s1
        obtain ⟨j1, j2, -⟩ := hJ2 m hm e2
        refine zyCa1 hRu hIH hAt hB hso (ix := 289) (ax := 3936) rfl rfl rfl hmeso ⟨rfl, rfl, rfl, rfl⟩ (by decide) [8, 0] rfl (by decide) rfl ⟨7, by decide⟩ [595, 0, 0] [(0, 4294967295), (0, 4294967295), (0, 4294967295)] 2147483648 2147483649 rfl (by decide) rfl rfl rfl rfl rfl ?_ ?_
        · show zyΦbr _ _
          exact ⟨m, hm, e2, j1, j2⟩
        · intro E3 vo hT3 hΨ
          obtain ⟨p1, z, ez, hz⟩ := (show zyΨbr _ _ E3 vo from hΨ)
          refine ⟨z, ez, ?_, ?_, ⟨hJ, fun a k n1 n2 => (p1 a k (by omega) (by omega) (by omega)).trans (k2 a k n1 n2), fun h => absurd (show 7 = 2 ∨ 7 = 3 from h) (by decide)⟩, (show 10 - 7 < 10 - 0 by decide)⟩
          · rcases hz with rfl | rfl <;> decide
          · rcases hz with rfl | rfl <;> decide
      · skip
        rcases List.mem_cons.mp hx with ex | hx
        · subst ex
          obtain ⟨hJ, i1, i2⟩ := hI
          have hk : ∀ a k, ¬ (a = 74 ∧ 2 ≤ k ∧ k ≤ 3) → (zyEl (zymr r c) B H2) a k = (zyEl (zymr r c) B H) a k := by
            intro a k n0
            apply hfr
            cases hq : zyin [(74, 2, 3)] a k with
            | false => rfl
            | true =>
              obtain ⟨p0, g1, g2, g3, g4⟩ := zyin_iff.mp hq
              simp only [List.mem_cons, List.not_mem_nil, or_false] at g1
              rcases g1 with rfl
              · exact absurd ⟨g2.symm, g3, g4⟩ n0
          have k2 : zyFbd (zyEl (zymr r c) B s.heap) (zyEl (zymr r c) B H2) := fun a k n1 n2 => (hk a k (fun z => n1 ⟨z.1, by omega⟩)).trans (i1 a k n1 n2)
          obtain ⟨m, hm, s1⟩ := zc_m hT0
          have hJ2 := zJ1_bd k2 hJ
          have e2 := (k2 75 2 (by omega) (by omega)).trans s1
          obtain ⟨j1, j2, -⟩ := hJ2 m hm e2
          refine zyCa1 hRu hIH hAt hB hso (ix := 289) (ax := 3936) rfl rfl rfl hmeso ⟨rfl, rfl, rfl, rfl⟩ (by decide) [0, 8] rfl (by decide) rfl ⟨6, by decide⟩ [595, 0, 0] [(0, 4294967295), (0, 4294967295), (0, 4294967295)] 2147483648 2147483649 rfl (by decide) rfl rfl rfl rfl rfl ?_ ?_
          · show zyΦbr _ _
            exact ⟨m, hm, e2, j1, j2⟩
          · intro E3 vo hT3 hΨ
            obtain ⟨p1, z, ez, hz⟩ := (show zyΨbr _ _ E3 vo from hΨ)
            refine ⟨z, ez, ?_, ?_, ⟨hJ, fun a k n1 n2 => (p1 a k (by omega) (by omega) (by omega)).trans (k2 a k n1 n2), fun h => absurd (show 6 = 2 ∨ 6 = 3 from h) (by decide)⟩, (show 10 - 6 < 10 - 0 by decide)⟩
            · rcases hz with rfl | rfl <;> decide
            · rcases hz with rfl | rfl <;> decide
        · skip
          rcases List.mem_cons.mp hx with ex | hx
          · subst ex
            obtain ⟨hJ, i1, i2⟩ := hI
            have hk : ∀ a k, ¬ (a = 74 ∧ 2 ≤ k ∧ k ≤ 3) → (zyEl (zymr r c) B H2) a k = (zyEl (zymr r c) B H) a k := by
              intro a k n0
              apply hfr
              cases hq : zyin [(74, 2, 3)] a k with
              | false => rfl
              | true =>
                obtain ⟨p0, g1, g2, g3, g4⟩ := zyin_iff.mp hq
                simp only [List.mem_cons, List.not_mem_nil, or_false] at g1
                rcases g1 with rfl
                · exact absurd ⟨g2.symm, g3, g4⟩ n0
            have k2 : zyFbd (zyEl (zymr r c) B s.heap) (zyEl (zymr r c) B H2) := fun a k n1 n2 => (hk a k (fun z => n1 ⟨z.1, by omega⟩)).trans (i1 a k n1 n2)
            obtain ⟨m, hm, s1⟩ := zc_m hT0
            have hJ2 := zJ1_bd k2 hJ
            have e2 := (k2 75 2 (by omega) (by omega)).trans s1
            obtain ⟨j1, j2, -⟩ := hJ2 m hm e2
            refine zyCa1 hRu hIH hAt hB hge (ix := 293) (ax := 3952) rfl rfl rfl hmege ⟨rfl, rfl, rfl, rfl⟩ (by decide) [] rfl (by decide) rfl ⟨8, by decide⟩ [595, 0, 0] [(0, 4294967295), (0, 4294967295), (0, 4294967295)] 2147483648 2147483649 rfl (by decide) rfl rfl rfl rfl rfl ?_ ?_
            · show zyΦbr _ _
              exact ⟨m, hm, e2, j1, j2⟩
            · intro E3 vo hT3 hΨ
              obtain ⟨p1, z, ez, hz⟩ := (show zyΨbr _ _ E3 vo from hΨ)
              refine ⟨z, ez, ?_, ?_, ⟨hJ, fun a k n1 n2 => (p1 a k (by omega) (by omega) (by omega)).trans (k2 a k n1 n2), fun h => absurd (show 8 = 2 ∨ 8 = 3 from h) (by decide)⟩, (show 10 - 8 < 10 - 0 by decide)⟩
              · rcases hz with rfl | rfl <;> decide
              · rcases hz with rfl | rfl <;> decide
          · skip
            rcases List.mem_cons.mp hx with ex | hx
            · subst ex
              obtain ⟨hJ, i1, i2⟩ := hI
              have hk : ∀ a k, ¬ (a = 74 ∧ 2 ≤ k ∧ k ≤ 3) → (zyEl (zymr r c) B H2) a k = (zyEl (zymr r c) B H) a k := by
                intro a k n0
                apply hfr
                cases hq : zyin [(74, 2, 3)] a k with
                | false => rfl
                | true =>
                  obtain ⟨p0, g1, g2, g3, g4⟩ := zyin_iff.mp hq
                  simp only [List.mem_cons, List.not_mem_nil, or_false] at g1
                  rcases g1 with rfl
                  · exact absurd ⟨g2.symm, g3, g4⟩ n0
              have k2 : zyFbd (zyEl (zymr r c) B s.heap) (zyEl (zymr r c) B H2) := fun a k n1 n2 => (hk a k (fun z => n1 ⟨z.1, by omega⟩)).trans (i1 a k n1 n2)
              obtain ⟨m, hm, s1⟩ := zc_m hT0
              have hJ2 := zJ1_bd k2 hJ
              have e2 := (k2 75 2 (by omega) (by omega)).trans s1
              obtain ⟨j1, j2, -⟩ := hJ2 m hm e2
              refine zyCa1 hRu hIH hAt hB hlp (ix := 283) (ax := 4016) rfl rfl rfl hmelp ⟨rfl, rfl, rfl, rfl⟩ (by decide) [] rfl (by decide) rfl ⟨1, by decide⟩ [595, 0, 0] [(0, 4294967295), (0, 4294967295), (0, 4294967295)] 0 4294967295 rfl (by decide) rfl rfl rfl rfl rfl ?_ ?_
              · show zyΦloo _ _
                exact ⟨m, hm, e2, j1⟩
              · intro E3 vo hT3 hΨ
                obtain ⟨p1, z, ez⟩ := (show zyΨloo _ _ E3 vo from hΨ)
                exact ⟨z, ez, Nat.zero_le _, by have := zB_lt z; omega, ⟨hJ, fun a k n1 n2 => (p1 a k (by omega)).trans (k2 a k n1 n2), fun h => absurd (show 1 = 2 ∨ 1 = 3 from h) (by decide)⟩, (show 10 - 1 < 10 - 0 by decide)⟩
            · skip
              rcases List.mem_cons.mp hx with ex | hx
              · subst ex
                obtain ⟨hJ, i1, i2⟩ := hI
                have hk : ∀ a k, ¬ (a = 74 ∧ 2 ≤ k ∧ k ≤ 3) → (zyEl (zymr r c) B H2) a k = (zyEl (zymr r c) B H) a k := by
                  intro a k n0
                  apply hfr
                  cases hq : zyin [(74, 2, 3)] a k with
                  | false => rfl
                  | true =>
                    obtain ⟨p0, g1, g2, g3, g4⟩ := zyin_iff.mp hq
                    simp only [List.mem_cons, List.not_mem_nil, or_false] at g1
                    rcases g1 with rfl
                    · exact absurd ⟨g2.symm, g3, g4⟩ n0
                have k2 : zyFbd (zyEl (zymr r c) B s.heap) (zyEl (zymr r c) B H2) := fun a k n1 n2 => (hk a k (fun z => n1 ⟨z.1, by omega⟩)).trans (i1 a k n1 n2)
                obtain ⟨m, hm, s1⟩ := zc_m hT0
                have hJ2 := zJ1_bd k2 hJ
                have e2 := (k2 75 2 (by omega) (by omega)).trans s1
                obtain ⟨j1, j2, -⟩ := hJ2 m hm e2
                refine zyCa0 hRu hIH hAt hB hbb (ix := 249) (ax := 3808) rfl rfl rfl hmebb ⟨rfl, rfl, rfl, rfl⟩ (by decide) [] rfl (by decide) rfl ⟨2, by decide⟩ [595, 0, 0] rfl rfl rfl rfl trivial ?_
                intro E3 vo hT3 hΨ
                obtain ⟨ev, p1, p2⟩ := (show zyΨbb [] _ E3 vo from hΨ)
                exact ⟨ev, ⟨hJ, fun a k n1 n2 => (p1 a k (by omega) (by omega) (by omega)).trans (k2 a k n1 n2), fun _ => ⟨0, m, hm, s1, Nat.zero_le _, p2 m hm e2, fun _ => rfl⟩⟩, (show 10 - 2 < 10 - 0 by decide)⟩
              · skip
                have ex := List.mem_singleton.mp hx
                subst ex
                obtain ⟨hJ, i1, i2⟩ := hI
                have hk : ∀ a k, ¬ (a = 74 ∧ 2 ≤ k ∧ k ≤ 3) → (zyEl (zymr r c) B H2) a k = (zyEl (zymr r c) B H) a k := by
                  intro a k n0
                  apply hfr
                  cases hq : zyin [(74, 2, 3)] a k with
                  | false => rfl
                  | true =>
                    obtain ⟨p0, g1, g2, g3, g4⟩ := zyin_iff.mp hq
                    simp only [List.mem_cons, List.not_mem_nil, or_false] at g1
                    rcases g1 with rfl
                    · exact absurd ⟨g2.symm, g3, g4⟩ n0
                have k2 : zyFbd (zyEl (zymr r c) B s.heap) (zyEl (zymr r c) B H2) := fun a k n1 n2 => (hk a k (fun z => n1 ⟨z.1, by omega⟩)).trans (i1 a k n1 n2)
                obtain ⟨m, hm, s1⟩ := zc_m hT0
                have hJ2 := zJ1_bd k2 hJ
                have e2 := (k2 75 2 (by omega) (by omega)).trans s1
                obtain ⟨j1, j2, -⟩ := hJ2 m hm e2
                refine zyCa1 hRu hIH hAt hB hwa (ix := 286) (ax := 3920) rfl rfl rfl hmewa ⟨rfl, rfl, rfl, rfl⟩ (by decide) [8] rfl (by decide) rfl ⟨5, by decide⟩ [595, 0, 0] [(0, 4294967295), (0, 4294967295), (0, 4294967295)] 2147483648 2147483649 rfl (by decide) rfl rfl rfl rfl rfl ?_ ?_
                · show zyΦwa _ _
                  exact ⟨⟨m, hm, e2, j1, j2⟩, Int32.ofNat 1, rfl, by decide⟩
                · intro E3 vo hT3 hΨ
                  obtain ⟨p1, z, ez, hz⟩ := (show zyΨbr _ _ E3 vo from hΨ)
                  refine ⟨z, ez, ?_, ?_, ⟨hJ, fun a k n1 n2 => (p1 a k (by omega) (by omega) (by omega)).trans (k2 a k n1 n2), fun h => absurd (show 5 = 2 ∨ 5 = 3 from h) (by decide)⟩, (show 10 - 5 < 10 - 0 by decide)⟩
                  · rcases hz with rfl | rfl <;> decide
                  · rcases hz with rfl | rfl <;> decide
    · cases hx
    · have hx : x ∈ [zxbrd_cx0] := hx
      have hg : ∀ k, k < 3 → ρ2 k = ρ k := hag
      have hI := hInv
      have hI : zJ1 (zyEl (zymr r c) B s.heap) ∧ zyFbd (zyEl (zymr r c) B s.heap) (zyEl (zymr r c) B H) ∧ (2 = 2 ∨ 2 = 3 → ∃ n m : Nat, m ≤ 8 ∧ (zyEl (zymr r c) B s.heap) 75 2 = some (.int (Int32.ofNat m)) ∧ n ≤ 300 ∧ zBs (zyEl (zymr r c) B H) n m ∧ (2 = 2 → n = 0)) := hI
      obtain ⟨hF, hB, hM⟩ := hXs
      have hEE : (zyEl (zymr r c) B H2) = (zyEl (zymr r c) B H) := zyfr0 hfr
      have ex := List.mem_singleton.mp hx
      subst ex
      obtain ⟨hJ, i1, i2⟩ := hI
      obtain ⟨n, m, hm, s1, hn, hbs, h0⟩ := i2 (Or.inl rfl)
      have hn0 := h0 rfl
      subst hn0
      have hJ2 := zJ1_bd i1 hJ
      have e2 := (i1 75 2 (by omega) (by omega)).trans s1
      obtain ⟨j1, j2, -⟩ := hJ2 m hm e2
      refine zyCa0 hRu hIH hAt hB hjw (ix := 252) (ax := 3840) rfl rfl rfl hmejw ⟨rfl, rfl, rfl, rfl⟩ (by decide) [0, 0] rfl (by decide) rfl ⟨3, by decide⟩ [595, 0, 0] rfl rfl rfl rfl ?_ ?_
      · show zyΦwd 300 zLv _ _
        rw [hEE]
        exact ⟨0, m, hbs, by omega, j1⟩
      · intro E3 vo hT3 hΨ
        have hΨ : zyΨwd 300 _ _ E3 vo := hΨ
        rw [hEE] at hΨ
        obtain ⟨ev, p1, p2⟩ := hΨ
        obtain ⟨n', hn', hbs'⟩ := p2 0 m hbs (by omega)
        exact ⟨ev, ⟨hJ, fun a k n1 n2 => (p1 a k (by omega) (by omega) (by omega)).trans (i1 a k n1 n2), fun _ => ⟨n', m, hm, s1, by omega, hbs', fun h => absurd (show 3 = 2 from h) (by decide)⟩⟩, (show 10 - 3 < 10 - 2 by decide)⟩
    · have hx : x ∈ [zxbrd_dx0] := hx
      have hg : ∀ k, k < 3 → ρ2 k = ρ k := hag
      have hI := hInv
      have hI : zJ1 (zyEl (zymr r c) B s.heap) ∧ zyFbd (zyEl (zymr r c) B s.heap) (zyEl (zymr r c) B H) ∧ (3 = 2 ∨ 3 = 3 → ∃ n m : Nat, m ≤ 8 ∧ (zyEl (zymr r c) B s.heap) 75 2 = some (.int (Int32.ofNat m)) ∧ n ≤ 300 ∧ zBs (zyEl (zymr r c) B H) n m ∧ (3 = 2 → n = 0)) := hI
      obtain ⟨hF, hB, hM⟩ := hXs
      have hEE : (zyEl (zymr r c) B H2) = (zyEl (zymr r c) B H) := zyfr0 hfr
      have ex := List.mem_singleton.mp hx
      subst ex
      obtain ⟨hJ, i1, i2⟩ := hI
      refine zyCa1 hRu hIH hAt hB hnb (ix := 259) (ax := 3824) rfl rfl rfl hmenb ⟨rfl, rfl, rfl, rfl⟩ (by decide) [] rfl (by decide) rfl ⟨4, by decide⟩ [595, 0, 0] [(0, 4294967295), (0, 4294967295), (0, 4294967295)] 2147483648 2147483649 rfl (by decide) rfl rfl rfl rfl rfl trivial ?_
      intro E3 vo hT3 hΨ
      obtain ⟨e3, z, ez, hz⟩ := (show zyΨie [] _ E3 vo from hΨ)
      rw [hEE] at e3
      refine ⟨z, ez, ?_, ?_, ⟨hJ, by rw [e3]; exact i1, fun h => absurd (show 4 = 2 ∨ 4 = 3 from h) (by decide)⟩, (show 10 - 4 < 10 - 3 by decide)⟩
      · rcases hz with rfl | rfl <;> decide
      · rcases hz with rfl | rfl <;> decide
    · cases hx
    · cases hx
    · cases hx
    · cases hx
    · cases hx
  · intro as E0 E E2 hT0 hΦ hlen i ρ hT hInv x hx ρ2 N2 B vo hXs hag hfr hT2 hvo
    rcases i with ⟨i, hi⟩
    have hi2 : i = 0 ∨ i = 1 ∨ i = 2 ∨ i = 3 ∨ i = 4 ∨ i = 5 ∨ i = 6 ∨ i = 7 ∨ i = 8 := by omega
    rcases hi2 with rfl | rfl | rfl | rfl | rfl | rfl | rfl | rfl | rfl
    · have hx : x ∈ [zxbrd_ar0, zxbrd_ar1] := hx
      have hg : ∀ k, k < 3 → ρ2 k = ρ k := hag
      have hI := hInv
      have hI : zJ1 E0 ∧ zyFbd E0 E ∧ (0 = 2 ∨ 0 = 3 → ∃ n m : Nat, m ≤ 8 ∧ E0 75 2 = some (.int (Int32.ofNat m)) ∧ n ≤ 300 ∧ zBs E n m ∧ (0 = 2 → n = 0)) := hI
      obtain ⟨hF, hB, hM⟩ := hXs
      have hfr : ∀ a k, zyin [(74, 2, 3)] a k = false → E2 a k = E a k := hfr
      rcases List.mem_cons.mp hx with ex | hx
      · subst ex
        obtain ⟨hJ, i1, i2⟩ := hI
        have hk : ∀ a k, ¬ (a = 74 ∧ 2 ≤ k ∧ k ≤ 3) → E2 a k = E a k := by
          intro a k n0
          apply hfr
          cases hq : zyin [(74, 2, 3)] a k with
          | false => rfl
          | true =>
            obtain ⟨p0, g1, g2, g3, g4⟩ := zyin_iff.mp hq
            simp only [List.mem_cons, List.not_mem_nil, or_false] at g1
            rcases g1 with rfl
            · exact absurd ⟨g2.symm, g3, g4⟩ n0
        exact ⟨fun a k n1 n2 => (hk a k (fun z => n1 ⟨z.1, by omega⟩)).trans (i1 a k n1 n2), ⟨_, zyvo_1 (c := 34359738360) (by decide) (show zyvo (zyXn B ρ2 N2) [34359738360] vo from hvo)⟩⟩
      · skip
        have ex := List.mem_singleton.mp hx
        subst ex
        obtain ⟨hJ, i1, i2⟩ := hI
        have hk : ∀ a k, ¬ (a = 74 ∧ 2 ≤ k ∧ k ≤ 3) → E2 a k = E a k := by
          intro a k n0
          apply hfr
          cases hq : zyin [(74, 2, 3)] a k with
          | false => rfl
          | true =>
            obtain ⟨p0, g1, g2, g3, g4⟩ := zyin_iff.mp hq
            simp only [List.mem_cons, List.not_mem_nil, or_false] at g1
            rcases g1 with rfl
            · exact absurd ⟨g2.symm, g3, g4⟩ n0
        exact ⟨fun a k n1 n2 => (hk a k (fun z => n1 ⟨z.1, by omega⟩)).trans (i1 a k n1 n2), ⟨_, zyvo_1 (c := 103079215105) (by decide) (show zyvo (zyXn B ρ2 N2) [103079215105] vo from hvo)⟩⟩
    · have hx : x ∈ [zxbrd_br0] := hx
      have hg : ∀ k, k < 4 → ρ2 k = ρ k := hag
      have hI := hInv
      have hI : zJ1 E0 ∧ zyFbd E0 E ∧ (1 = 2 ∨ 1 = 3 → ∃ n m : Nat, m ≤ 8 ∧ E0 75 2 = some (.int (Int32.ofNat m)) ∧ n ≤ 300 ∧ zBs E n m ∧ (1 = 2 → n = 0)) := hI
      obtain ⟨hF, hB, hM⟩ := hXs
      have hEE : E2 = E := zyfr0 hfr
      have ex := List.mem_singleton.mp hx
      subst ex
      obtain ⟨hJ, i1, i2⟩ := hI
      exact ⟨fun a k n1 n2 => by rw [hEE]; exact i1 a k n1 n2, ⟨_, zyvo_1 (c := 103079215105) (by decide) (show zyvo (zyXn B ρ2 N2) [103079215105] vo from hvo)⟩⟩
    · cases hx
    · cases hx
    · have hx : x ∈ [zxbrd_er0, zxbrd_er1] := hx
      have hg : ∀ k, k < 4 → ρ2 k = ρ k := hag
      have hI := hInv
      have hI : zJ1 E0 ∧ zyFbd E0 E ∧ (4 = 2 ∨ 4 = 3 → ∃ n m : Nat, m ≤ 8 ∧ E0 75 2 = some (.int (Int32.ofNat m)) ∧ n ≤ 300 ∧ zBs E n m ∧ (4 = 2 → n = 0)) := hI
      obtain ⟨hF, hB, hM⟩ := hXs
      have hEE : E2 = E := zyfr0 hfr
      rcases List.mem_cons.mp hx with ex | hx
      · subst ex
        obtain ⟨hJ, i1, i2⟩ := hI
        exact ⟨fun a k n1 n2 => by rw [hEE]; exact i1 a k n1 n2, ⟨_, zyvo_1 (c := 8) (by decide) (show zyvo (zyXn B ρ2 N2) [8] vo from hvo)⟩⟩
      · skip
        have ex := List.mem_singleton.mp hx
        subst ex
        obtain ⟨hJ, i1, i2⟩ := hI
        exact ⟨fun a k n1 n2 => by rw [hEE]; exact i1 a k n1 n2, ⟨_, zyvo_1 (c := 0) (by decide) (show zyvo (zyXn B ρ2 N2) [0] vo from hvo)⟩⟩
    · have hx : x ∈ [zxbrd_fr0, zxbrd_fr1] := hx
      have hg : ∀ k, k < 4 → ρ2 k = ρ k := hag
      have hI := hInv
      have hI : zJ1 E0 ∧ zyFbd E0 E ∧ (5 = 2 ∨ 5 = 3 → ∃ n m : Nat, m ≤ 8 ∧ E0 75 2 = some (.int (Int32.ofNat m)) ∧ n ≤ 300 ∧ zBs E n m ∧ (5 = 2 → n = 0)) := hI
      obtain ⟨hF, hB, hM⟩ := hXs
      have hEE : E2 = E := zyfr0 hfr
      rcases List.mem_cons.mp hx with ex | hx
      · subst ex
        obtain ⟨hJ, i1, i2⟩ := hI
        exact ⟨fun a k n1 n2 => by rw [hEE]; exact i1 a k n1 n2, ⟨_, zyvo_1 (c := 8) (by decide) (show zyvo (zyXn B ρ2 N2) [8] vo from hvo)⟩⟩
      · skip
        have ex := List.mem_singleton.mp hx
        subst ex
        obtain ⟨hJ, i1, i2⟩ := hI
        exact ⟨fun a k n1 n2 => by rw [hEE]; exact i1 a k n1 n2, ⟨_, zyvo_1 (c := 0) (by decide) (show zyvo (zyXn B ρ2 N2) [0] vo from hvo)⟩⟩
    · have hx : x ∈ [zxbrd_gr0, zxbrd_gr1] := hx
      have hg : ∀ k, k < 4 → ρ2 k = ρ k := hag
      have hI := hInv
      have hI : zJ1 E0 ∧ zyFbd E0 E ∧ (6 = 2 ∨ 6 = 3 → ∃ n m : Nat, m ≤ 8 ∧ E0 75 2 = some (.int (Int32.ofNat m)) ∧ n ≤ 300 ∧ zBs E n m ∧ (6 = 2 → n = 0)) := hI
      obtain ⟨hF, hB, hM⟩ := hXs
      have hEE : E2 = E := zyfr0 hfr
      rcases List.mem_cons.mp hx with ex | hx
      · subst ex
        obtain ⟨hJ, i1, i2⟩ := hI
        exact ⟨fun a k n1 n2 => by rw [hEE]; exact i1 a k n1 n2, ⟨_, zyvo_1 (c := 8) (by decide) (show zyvo (zyXn B ρ2 N2) [8] vo from hvo)⟩⟩
      · skip
        have ex := List.mem_singleton.mp hx
        subst ex
        obtain ⟨hJ, i1, i2⟩ := hI
        exact ⟨fun a k n1 n2 => by rw [hEE]; exact i1 a k n1 n2, ⟨_, zyvo_1 (c := 0) (by decide) (show zyvo (zyXn B ρ2 N2) [0] vo from hvo)⟩⟩
    · have hx : x ∈ [zxbrd_hr0, zxbrd_hr1] := hx
      have hg : ∀ k, k < 4 → ρ2 k = ρ k := hag
      have hI := hInv
      have hI : zJ1 E0 ∧ zyFbd E0 E ∧ (7 = 2 ∨ 7 = 3 → ∃ n m : Nat, m ≤ 8 ∧ E0 75 2 = some (.int (Int32.ofNat m)) ∧ n ≤ 300 ∧ zBs E n m ∧ (7 = 2 → n = 0)) := hI
      obtain ⟨hF, hB, hM⟩ := hXs
      have hEE : E2 = E := zyfr0 hfr
      rcases List.mem_cons.mp hx with ex | hx
      · subst ex
        obtain ⟨hJ, i1, i2⟩ := hI
        exact ⟨fun a k n1 n2 => by rw [hEE]; exact i1 a k n1 n2, ⟨_, zyvo_1 (c := 8) (by decide) (show zyvo (zyXn B ρ2 N2) [8] vo from hvo)⟩⟩
      · skip
        have ex := List.mem_singleton.mp hx
        subst ex
        obtain ⟨hJ, i1, i2⟩ := hI
        exact ⟨fun a k n1 n2 => by rw [hEE]; exact i1 a k n1 n2, ⟨_, zyvo_1 (c := 0) (by decide) (show zyvo (zyXn B ρ2 N2) [0] vo from hvo)⟩⟩
    · have hx : x ∈ [zxbrd_jr0, zxbrd_jr1] := hx
      have hg : ∀ k, k < 4 → ρ2 k = ρ k := hag
      have hI := hInv
      have hI : zJ1 E0 ∧ zyFbd E0 E ∧ (8 = 2 ∨ 8 = 3 → ∃ n m : Nat, m ≤ 8 ∧ E0 75 2 = some (.int (Int32.ofNat m)) ∧ n ≤ 300 ∧ zBs E n m ∧ (8 = 2 → n = 0)) := hI
      obtain ⟨hF, hB, hM⟩ := hXs
      have hEE : E2 = E := zyfr0 hfr
      rcases List.mem_cons.mp hx with ex | hx
      · subst ex
        obtain ⟨hJ, i1, i2⟩ := hI
        exact ⟨fun a k n1 n2 => by rw [hEE]; exact i1 a k n1 n2, ⟨_, zyvo_1 (c := 8) (by decide) (show zyvo (zyXn B ρ2 N2) [8] vo from hvo)⟩⟩
      · skip
        have ex := List.mem_singleton.mp hx
        subst ex
        obtain ⟨hJ, i1, i2⟩ := hI
        exact ⟨fun a k n1 n2 => by rw [hEE]; exact i1 a k n1 n2, ⟨_, zyvo_1 (c := 0) (by decide) (show zyvo (zyXn B ρ2 N2) [0] vo from hvo)⟩⟩
def zyΦfe (_ : List Int32) (_ : zyEm) : Prop := True
def zyΨfe (_ : List Int32) (E E2 : zyEm) (vo : Option Value) : Prop := (∀ k, E2 75 k = E 75 k) ∧ ∃ q : Nat, q ≤ 900 ∧ E 74 33 = some (.int (Int32.ofNat q)) ∧ ((q ≤ 880 ∧ vo = some (.int (Int32.ofNat (q + 20))) ∧ E2 74 33 = some (.int (Int32.ofNat (q + 20)))) ∨ (¬ q ≤ 880 ∧ vo = some (.int (Int32.ofNat 4294967295)) ∧ E2 74 33 = some (.int (Int32.ofNat q))))
theorem zc_t {r c : Nat} {E : zyEm} (hT : zyTy (zymr r c) E) : ∃ q, q ≤ 900 ∧ E 74 33 = some (.int (Int32.ofNat q)) := by
  obtain ⟨x, e, b1, b2⟩ := (hT 74 zymr74 33 rfl (show 33 < 49 by decide) (33, 33, 73786976312018082850) (List.mem_of_getElem? (i := 33) rfl) (Nat.le_refl _) (Nat.le_refl _)).1 rfl
  have b1 : 2147483648 ≤ zB x := b1
  have b2 : zB x ≤ 2147484548 := b2
  obtain ⟨o1, o2⟩ := zyOn b1
  exact ⟨zyN1 x, by omega, by rw [← o1]; exact e⟩
theorem zyfee_run : zyAllP (fun r c => zyrS (zymr r c) zxi312 (312, 0, 0, 1, 0) 3 zpfee (fun _ _ => []) zFfee zSfee zXfee zRfee 2) = true := by decide +kernel
theorem zyfeed_H {l : Launch} {r c : Nat} (h1 : 1 ≤ r) (h2 : r ≤ 4) (h3 : 1 ≤ c) (h4 : c ≤ 5) {en : zEn} {me : zMe} (hen : zG zxMeta 312 = some en) (hme : zG zMeth 312 = some me) : zyHc l (zymr r c) en me 3 5 zyΦfe zyΨfe := by
  have een : zG zxMeta 312 = some (zxi312, 6, 6, 11, 312, 0, 0, 1, 0) := rfl
  obtain ⟨me1, hme1, hOK⟩ := zall hen
  rw [hme] at hme1
  cases hme1
  rw [een] at hen
  cases hen
  have hr := zyAllP_iff zyfee_run h1 h2 h3 h4
  refine zycutS (mi := zymr r c) hOK rfl rfl ⟨_, rfl, rfl⟩ (ι := Fin 2) (fun i => zpfee i.val) (fun _ _ => []) (fun i => zFfee i.val) (fun i => zSfee i.val) (fun i => zXfee i.val) (fun i => zRfee i.val) (fun i y2 ct en2 me2 h => by cases h) 200000 (fun i => zyAll_iff hr i.val i.isLt) ⟨0, by decide⟩ ⟨rfl, rfl, rfl, rfl⟩ ⟨by decide, by decide⟩
    (fun i as E0 ρ E => ∃ q : Nat, q ≤ 900 ∧ E0 74 33 = some (.int (Int32.ofNat q)) ∧ E = E0 ∧ (i.val = 1 → ρ 6 = Int32.ofNat q)) (fun i as E0 ρ E => 1 - i.val) ?_ ?_ ?_
  · intro as E hlen hT hΦ
    obtain ⟨q, hq, e⟩ := zc_t hT
    exact ⟨zEnv_c (zyfull _) (zEnv_c (zyfull _) (zEnv_c (zyfull _) (zEnv_c (zyfull _) (zEnv_c (zyfull _) (zEnv_c (zyfull _) (zEnv_nil)))))), q, hq, e, rfl, fun h => absurd (show 0 = 1 from h) (by decide)⟩
  · intro as B s Wg hRu hT0 hΦ hlen i ρ H hT hInv hIH x hx ρ2 N2 H2 locs lsB stA hAt hXs hag hfr hT2
    rcases i with ⟨i, hi⟩
    have hi2 : i = 0 ∨ i = 1 := by omega
    rcases hi2 with rfl | rfl
    · have hx : x ∈ [zxfee_zx0] := hx
      have hg : ∀ k, k < 6 → ρ2 k = ρ k := hag
      have hI := hInv
      have hI : ∃ q : Nat, q ≤ 900 ∧ (zyEl (zymr r c) B s.heap) 74 33 = some (.int (Int32.ofNat q)) ∧ (zyEl (zymr r c) B H) = (zyEl (zymr r c) B s.heap) ∧ (0 = 1 → ρ 6 = Int32.ofNat q) := hI
      obtain ⟨hF, hB, hM⟩ := hXs
      have hEE : (zyEl (zymr r c) B H2) = (zyEl (zymr r c) B H) := zyfr0 hfr
      have ex := List.mem_singleton.mp hx
      subst ex
      obtain ⟨q, hq, s1, i1, -⟩ := hI
      refine zyGoKi hIH hAt hB ⟨1, by decide⟩ [595, 34359738369, 68719476737, 103079215105, 137438953473, 171798691841] [(0, 4294967295), (0, 4294967295), (0, 4294967295), (0, 4294967295), (0, 4294967295), (0, 4294967295)] 2147483648 2147484548 rfl (by decide) rfl rfl rfl (74 * 16384 + 33) zymr74 rfl rfl (show 33 < 49 by decide) (Int32.ofNat q) ?_ ?_ ⟨q, hq, s1, hEE.trans i1, fun _ => zyρi_e⟩ (show 1 - 1 < 1 - 0 by decide)
      · show zyEl (zymr r c) B H2 74 33 = _
        rw [hEE, i1]
        exact s1
      · rw [zyBn (by omega)]
        omega
    · cases hx
  · intro as E0 E E2 hT0 hΦ hlen i ρ hT hInv x hx ρ2 N2 B vo hXs hag hfr hT2 hvo
    rcases i with ⟨i, hi⟩
    have hi2 : i = 0 ∨ i = 1 := by omega
    rcases hi2 with rfl | rfl
    · cases hx
    · have hx : x ∈ [zxfee_ar0, zxfee_ar1] := hx
      have hg : ∀ k, k < 7 → ρ2 k = ρ k := hag
      have hI := hInv
      have hI : ∃ q : Nat, q ≤ 900 ∧ E0 74 33 = some (.int (Int32.ofNat q)) ∧ E = E0 ∧ (1 = 1 → ρ 6 = Int32.ofNat q) := hI
      obtain ⟨hF, hB, hM⟩ := hXs
      have hfr : ∀ a k, zyin [(74, 3, 3), (74, 33, 33), (84, 0, 899)] a k = false → E2 a k = E a k := hfr
      rcases List.mem_cons.mp hx with ex | hx
      · subst ex
        obtain ⟨q, hq, s1, i1, i2⟩ := hI
        have a2 : ρ2 6 = Int32.ofNat q := (hg 6 (by decide)).trans (i2 rfl)
        have hk : ∀ a k, ¬ (a = 74 ∧ 3 ≤ k ∧ k ≤ 3) → ¬ (a = 74 ∧ 33 ≤ k ∧ k ≤ 33) → ¬ (a = 84 ∧ 0 ≤ k ∧ k ≤ 899) → E2 a k = E a k := by
          intro a k n0 n1 n2
          apply hfr
          cases hq : zyin [(74, 3, 3), (74, 33, 33), (84, 0, 899)] a k with
          | false => rfl
          | true =>
            obtain ⟨p0, g1, g2, g3, g4⟩ := zyin_iff.mp hq
            simp only [List.mem_cons, List.not_mem_nil, or_false] at g1
            rcases g1 with rfl | rfl | rfl
            · exact absurd ⟨g2.symm, g3, g4⟩ n0
            · exact absurd ⟨g2.symm, g3, g4⟩ n1
            · exact absurd ⟨g2.symm, g3, g4⟩ n2
        have m := zyXm hM 0 rfl
        have b6 := zyXb hB 0 rfl
        have m : E2 74 33 = some (.int (ρ2 6)) := m
        have b6 : 2147484529 ≤ zB (ρ2 6) ∧ zB (ρ2 6) ≤ 2147484548 := b6
        rw [a2, zyBn (by omega)] at b6
        rw [a2] at m
        exact ⟨fun k => (hk 75 k (by omega) (by omega) (by omega)).trans (by rw [i1]), q, hq, s1, Or.inr ⟨by omega, zyvo_1 (c := 34359738360) (by decide) (show zyvo (zyXn B ρ2 N2) [34359738360] vo from hvo), m⟩⟩
      · skip
        have ex := List.mem_singleton.mp hx
        subst ex
        obtain ⟨q, hq, s1, i1, i2⟩ := hI
        have a2 : ρ2 6 = Int32.ofNat q := (hg 6 (by decide)).trans (i2 rfl)
        have hk : ∀ a k, ¬ (a = 74 ∧ 3 ≤ k ∧ k ≤ 3) → ¬ (a = 74 ∧ 33 ≤ k ∧ k ≤ 33) → ¬ (a = 84 ∧ 0 ≤ k ∧ k ≤ 899) → E2 a k = E a k := by
          intro a k n0 n1 n2
          apply hfr
          cases hq : zyin [(74, 3, 3), (74, 33, 33), (84, 0, 899)] a k with
          | false => rfl
          | true =>
            obtain ⟨p0, g1, g2, g3, g4⟩ := zyin_iff.mp hq
            simp only [List.mem_cons, List.not_mem_nil, or_false] at g1
            rcases g1 with rfl | rfl | rfl
            · exact absurd ⟨g2.symm, g3, g4⟩ n0
            · exact absurd ⟨g2.symm, g3, g4⟩ n1
            · exact absurd ⟨g2.symm, g3, g4⟩ n2
        have m := zyXm hM 0 rfl
        have b6 := zyXb hB 0 rfl
        have m : E2 74 33 = some (.int (ρ2 6 + Int32.ofNat 20)) := m
        have b6 : 2147483648 ≤ zB (ρ2 6) ∧ zB (ρ2 6) ≤ 2147484528 := b6
        rw [a2, zyBn (by omega)] at b6
        rw [a2, zyOa] at m
        have ev := zyvo_1 (c := 206158430369) (by decide) (show zyvo (zyXn B ρ2 N2) [206158430369] vo from hvo)
        have ev : vo = some (.int (ρ2 6 + Int32.ofNat 20)) := ev
        rw [a2, zyOa] at ev
        exact ⟨fun k => (hk 75 k (by omega) (by omega) (by omega)).trans (by rw [i1]), q, hq, s1, Or.inl ⟨by omega, ev, m⟩⟩
end
section
/-! THE TABLE with the last J; all public methods by it -/
theorem zyEl_no {mi : zyB} {B : zCx} {H : Heap} {a k : Nat} (h : ∀ c, zG mi a = some c → ¬ k < zyLen c) : zyEl mi B H a k = none := by
  unfold zyEl
  cases hg : zG mi a with
  | none => rfl
  | some c =>
    dsimp only
    rw [if_neg (h c hg)]
theorem zyCon_b2 {l : Launch} {mi : zyB} {J : zyJt} {en : zEn} {me : zMe} {dep na : Nat} {Φ : List Int32 → zyEm → Prop} {Ψ : List Int32 → zyEm → zyEm → Option Value → Prop} (h : zyHc l mi en me dep na Φ Ψ) {ct : zyCt} (hd : ct.2.2.2.1 = dep) (hpost : ct.2.2.2.2.2 = []) (hargs : ∀ (B : zCx) (AsV : List Value), zySt (zyX0 B J) ct.1 AsV → ∃ xs : List Int32, AsV = zyAr B xs ∧ xs.length = na ∧ ∀ (U : State) (H : Heap), zyMI mi B J U H → zyPk mi B ct.2.2.2.2.1 H → Φ xs (zyEl mi B H))
    (hΨ : ∀ (B : zCx) (xs : List Int32) (E E2 : zyEm) (vo : Option Value), zyTy mi E → J.1 E → zyTy mi E2 → Φ xs E → Ψ xs E E2 vo → J.1 E2 ∧ (∀ a c k, zG mi a = some c → k < zyLen c → zyin ct.2.1 a k = false → E2 a k = E a k) ∧ zyvo (zyX0 B J) ct.2.2.1 vo) : zyCon l mi J en me ct := by
  intro B AsV hA
  obtain ⟨xs, rfl, hl, hΦ⟩ := hargs B AsV hA
  subst hd
  refine zyMet_pt (fun a s hp => ?_)
  obtain ⟨rfl, hK, hI, hPk⟩ := hp
  have hI0 : zyMI mi B zyJ0 s s.heap := ⟨hI.1, hI.2.1, trivial, hI.2.2.2⟩
  have hφ := hΦ s s.heap hI hPk
  refine ⟨_, _, h B xs hl, ⟨rfl, hK, hI0, hφ⟩, fun o t hq => ?_⟩
  obtain ⟨vo, e1, k1, k2, k3, k4⟩ := hq
  obtain ⟨g1, g2, g3⟩ := hΨ B xs _ _ vo (zyTy_of hI) hI.2.2.1 (zyTy_of k2) hφ k3
  refine ⟨vo, e1, zyvr_of g3, k1, ⟨k2.1, k2.2.1, g1, k2.2.2.2⟩, ?_, fun a k hz => ?_, k4⟩
  · rw [hpost]
    exact fun p hp => by cases hp
  · by_cases q : ∃ c, zG mi a = some c ∧ k < zyLen c
    · obtain ⟨c, q1, q2⟩ := q
      exact g2 a c k q1 q2 hz
    · rw [zyEl_no (fun c hc hk => q ⟨c, hc, hk⟩), zyEl_no (fun c hc hk => q ⟨c, hc, hk⟩)]
theorem zyvo_i {B : zCx} {J : zyJt} {lo hi : Nat} {z : Int32} {vo : Option Value} (e : vo = some (.int z)) (h1 : lo ≤ zB z) (h2 : zB z ≤ hi) (h3 : hi < 4294967296) : zyvo (zyX0 B J) [8 * (lo * 4294967296 + hi) + 2] vo := by
  rw [e]
  exact zyv_bd h1 h2 h3
theorem zyar1 {B : zCx} {J : zyJt} {AsV : List Value} {lo hi : Nat} (h : zySt (zyX0 B J) [595, 8 * (lo * 4294967296 + hi) + 2] AsV) (hh : hi < 4294967296) : ∃ x : Int32, AsV = zyAr B [x] ∧ lo ≤ zB x ∧ zB x ≤ hi := by
  obtain ⟨v0, t0, rfl, a0, h⟩ := zySt_c h
  obtain ⟨v1, t1, rfl, a1, h⟩ := zySt_c h
  have e := zySt_n h
  subst e
  have e0 : v0 = .ref (zad B 74) := zyv_3 (v := 595) a0 (by decide)
  obtain ⟨x, rfl, b1, b2⟩ := zv_2 (zyv_zv a1 (by omega) (by omega)) (by omega)
  exact ⟨x, by rw [e0]; rfl, by omega, by omega⟩
theorem zyLnr {r c a : Nat} {cl : zyCl} (h : zG (zymr r c) a = some cl) (ha : 77 ≤ a) (hb : a ≤ 83) : zyLen cl = if a = 80 then 300 else if a = 81 then 10400 else 8 := by
  have hc : a = 77 ∨ a = 78 ∨ a = 79 ∨ a = 80 ∨ a = 81 ∨ a = 82 ∨ a = 83 := by omega
  rcases hc with rfl | rfl | rfl | rfl | rfl | rfl | rfl
  · have h : some ((20, 8, [(0, 7, 73786976312018076282)]) : zyCl) = some cl := h
    cases h
    rfl
  · have h : some ((20, 8, [(0, 7, 73786976312018076282)]) : zyCl) = some cl := h
    cases h
    rfl
  · have h : some ((20, 8, [(0, 7, 73786976312018075706)]) : zyCl) = some cl := h
    cases h
    rfl
  · have h : some ((20, 300, [(0, 299, 73786976071499907130)]) : zyCl) = some cl := h
    cases h
    rfl
  · have h : some ((20, 10400, [(0, 10399, 73786976312018075706)]) : zyCl) = some cl := h
    cases h
    rfl
  · have h : some ((20, 8, [(0, 7, 73786976312018075706)]) : zyCl) = some cl := h
    cases h
    rfl
  · have h : some ((20, 8, [(0, 7, 73786976312018075706)]) : zyCl) = some cl := h
    cases h
    rfl
section YHV
variable {l : Launch} {r c : Nat} {en : zEn} {me : zMe}
theorem zyB20 (h1 : 1 ≤ r) (h2 : r ≤ 4) (h3 : 1 ≤ c) (h4 : c ≤ 5) (hen : zG zxMeta 297 = some en) (hme : zG zMeth 297 = some me) : zyCon l (zymr r c) zyJf en me ([595, 73786976346377814530, 73786976329197944826], [(74, 8, 8), (74, 14, 17), (74, 19, 21), (74, 25, 27), (77, 0, 7), (78, 0, 7), (79, 0, 7), (80, 0, 299), (81, 0, 10399), (82, 0, 7)], [73786976312018075682], 9, [], []) := by
  refine zyCon_b2 (zywhyOf h1 h2 h3 h4 hen hme) rfl rfl (fun B AsV hA => ?_) (fun B xs E E2 vo _ hJ _ _ hΨ => ?_)
  · obtain ⟨x, y, e, b1, b2, b3, b4⟩ := zyar2 (lo := 2147483649) (hi := 2147483712) (lo2 := 2147483648) (hi2 := 4294967295) hA (by decide) (by decide)
    exact ⟨[x, y], e, rfl, fun U H hI _ => ⟨hI.2.2.1, x, y, rfl, b1, b2, b3⟩⟩
  · obtain ⟨p1, z, ez, z1, z2⟩ := hΨ
    refine ⟨zJ1_fr (fun k _ => p1 75 k (by omega) (by omega)) hJ, fun a cl k hg hk hz => p1 a k (fun n => ?_) (fun n => ?_), zyvo_i (lo := 2147483648) (hi := 2147483652) ez z1 z2 (by decide)⟩
    · have hh : zyin [(74, 8, 8), (74, 14, 17), (74, 19, 21), (74, 25, 27), (77, 0, 7), (78, 0, 7), (79, 0, 7), (80, 0, 299), (81, 0, 10399), (82, 0, 7)] a k = true := zyin_iff.mpr (by
        obtain ⟨rfl, n⟩ := n
        rcases n with n | n | n | n
        · exact ⟨(74, 8, 8), by simp, rfl, by dsimp only; omega, by dsimp only; omega⟩
        · exact ⟨(74, 14, 17), by simp, rfl, by dsimp only; omega, by dsimp only; omega⟩
        · exact ⟨(74, 19, 21), by simp, rfl, by dsimp only; omega, by dsimp only; omega⟩
        · exact ⟨(74, 25, 27), by simp, rfl, by dsimp only; omega, by dsimp only; omega⟩)
      have hz : zyin [(74, 8, 8), (74, 14, 17), (74, 19, 21), (74, 25, 27), (77, 0, 7), (78, 0, 7), (79, 0, 7), (80, 0, 299), (81, 0, 10399), (82, 0, 7)] a k = false := hz
      rw [hh] at hz
      cases hz
    · have hl := zyLnr hg n.1 (by omega)
      rw [hl] at hk
      have hh : zyin [(74, 8, 8), (74, 14, 17), (74, 19, 21), (74, 25, 27), (77, 0, 7), (78, 0, 7), (79, 0, 7), (80, 0, 299), (81, 0, 10399), (82, 0, 7)] a k = true := zyin_iff.mpr (by
        have hc : a = 77 ∨ a = 78 ∨ a = 79 ∨ a = 80 ∨ a = 81 ∨ a = 82 := by omega
        rcases hc with rfl | rfl | rfl | rfl | rfl | rfl
        · exact ⟨(77, 0, 7), by simp, rfl, Nat.zero_le _, by rw [if_neg (by decide), if_neg (by decide)] at hk; dsimp only; omega⟩
        · exact ⟨(78, 0, 7), by simp, rfl, Nat.zero_le _, by rw [if_neg (by decide), if_neg (by decide)] at hk; dsimp only; omega⟩
        · exact ⟨(79, 0, 7), by simp, rfl, Nat.zero_le _, by rw [if_neg (by decide), if_neg (by decide)] at hk; dsimp only; omega⟩
        · exact ⟨(80, 0, 299), by simp, rfl, Nat.zero_le _, by rw [if_pos rfl] at hk; dsimp only; omega⟩
        · exact ⟨(81, 0, 10399), by simp, rfl, Nat.zero_le _, by rw [if_neg (by decide), if_pos rfl] at hk; dsimp only; omega⟩
        · exact ⟨(82, 0, 7), by simp, rfl, Nat.zero_le _, by rw [if_neg (by decide), if_neg (by decide)] at hk; dsimp only; omega⟩)
      have hz : zyin [(74, 8, 8), (74, 14, 17), (74, 19, 21), (74, 25, 27), (77, 0, 7), (78, 0, 7), (79, 0, 7), (80, 0, 299), (81, 0, 10399), (82, 0, 7)] a k = false := hz
      rw [hh] at hz
      cases hz
theorem zyB21 (h1 : 1 ≤ r) (h2 : r ≤ 4) (h3 : 1 ≤ c) (h4 : c ≤ 5) (hen : zG zxMeta 245 = some en) (hme : zG zMeth 245 = some me) : zyCon l (zymr r c) zyJf en me ([595, 73786976346377814050], [(74, 19, 21), (81, 0, 10399), (82, 0, 7)], [73786976312018075658], 8, [], []) := by
  refine zyCon_b2 (zyisWishedAgain h1 h2 h3 h4 hen hme) rfl rfl (fun B AsV hA => ?_) (fun B xs E E2 vo _ hJ _ _ hΨ => ?_)
  · obtain ⟨x, e, b1, b2⟩ := zyar1 (lo := 2147483649) (hi := 2147483652) hA (by decide)
    refine ⟨[x], e, rfl, fun U H hI _ => ⟨?_, x, rfl, b2⟩⟩
    obtain ⟨m, hm, hms⟩ := zc_m (zyTy_of hI)
    obtain ⟨j1, j2, -⟩ := hI.2.2.1 m hm hms
    exact ⟨m, hm, hms, j1, j2⟩
  · obtain ⟨p1, z, ez, hz⟩ := hΨ
    refine ⟨zJ1_fr (fun k _ => p1 75 k (by omega) (by omega) (by omega)) hJ, fun a cl k hg hk hz2 => p1 a k (fun n => ?_) (fun n => ?_) (fun n => ?_), zyvo_b ez hz⟩
    · have hl := zyLnr hg (by omega) (by omega)
      rw [hl, n, if_neg (by decide), if_pos rfl] at hk
      have hh : zyin [(74, 19, 21), (81, 0, 10399), (82, 0, 7)] a k = true := zyin_iff.mpr ⟨(81, 0, 10399), by simp, n.symm, Nat.zero_le _, by dsimp only; omega⟩
      have hz2 : zyin [(74, 19, 21), (81, 0, 10399), (82, 0, 7)] a k = false := hz2
      rw [hh] at hz2
      cases hz2
    · have hl := zyLnr hg (by omega) (by omega)
      rw [hl, n, if_neg (by decide), if_neg (by decide)] at hk
      have hh : zyin [(74, 19, 21), (81, 0, 10399), (82, 0, 7)] a k = true := zyin_iff.mpr ⟨(82, 0, 7), by simp, n.symm, Nat.zero_le _, by dsimp only; omega⟩
      have hz2 : zyin [(74, 19, 21), (81, 0, 10399), (82, 0, 7)] a k = false := hz2
      rw [hh] at hz2
      cases hz2
    · have hh : zyin [(74, 19, 21), (81, 0, 10399), (82, 0, 7)] a k = true := zyin_iff.mpr ⟨(74, 19, 21), by simp, n.1.symm, n.2.1, n.2.2⟩
      have hz2 : zyin [(74, 19, 21), (81, 0, 10399), (82, 0, 7)] a k = false := hz2
      rw [hh] at hz2
      cases hz2
theorem zyB22 (h1 : 1 ≤ r) (h2 : r ≤ 4) (h3 : 1 ≤ c) (h4 : c ≤ 5) (hen : zG zxMeta 306 = some en) (hme : zG zMeth 306 = some me) : zyCon l (zymr r c) zyJf en me ([595, 73786976277658337770, 73786976277658337770], [(74, 4, 7), (74, 9, 9), (74, 14, 17), (77, 0, 7), (78, 0, 7)], [73786976312018075658], 9, [], []) := by
  refine zyCon_b2 (zydoesExplain h1 h2 h3 h4 hen hme) rfl rfl (fun B AsV hA => ?_) (fun B xs E E2 vo _ hJ _ _ hΨ => ?_)
  · obtain ⟨x, y, e, b1, b2, b3, b4⟩ := zyar2 (lo := 2147483647) (hi := 2147483709) (lo2 := 2147483647) (hi2 := 2147483709) hA (by decide) (by decide)
    exact ⟨[x, y], e, rfl, fun U H hI _ => ⟨x, y, rfl, ⟨b1, b2⟩, b3, b4⟩⟩
  · obtain ⟨p1, z, ez, z1, z2⟩ := hΨ
    refine ⟨zJ1_fr (fun k _ => p1 75 k (by omega) (by omega)) hJ, fun a cl k hg hk hz => p1 a k (fun n => ?_) (fun n => ?_), zyvo_i (lo := 2147483648) (hi := 2147483649) ez z1 z2 (by decide)⟩
    · have hh : zyin [(74, 4, 7), (74, 9, 9), (74, 14, 17), (77, 0, 7), (78, 0, 7)] a k = true := zyin_iff.mpr (by
        obtain ⟨rfl, n⟩ := n
        rcases n with n | n | n
        · exact ⟨(74, 4, 7), by simp, rfl, by dsimp only; omega, by dsimp only; omega⟩
        · exact ⟨(74, 9, 9), by simp, rfl, by dsimp only; omega, by dsimp only; omega⟩
        · exact ⟨(74, 14, 17), by simp, rfl, by dsimp only; omega, by dsimp only; omega⟩)
      have hz : zyin [(74, 4, 7), (74, 9, 9), (74, 14, 17), (77, 0, 7), (78, 0, 7)] a k = false := hz
      rw [hh] at hz
      cases hz
    · have hl := zyLnr hg n.1 (by omega)
      rw [hl] at hk
      have hh : zyin [(74, 4, 7), (74, 9, 9), (74, 14, 17), (77, 0, 7), (78, 0, 7)] a k = true := zyin_iff.mpr (by
        have hc : a = 77 ∨ a = 78 := by omega
        rcases hc with rfl | rfl
        · exact ⟨(77, 0, 7), by simp, rfl, Nat.zero_le _, by rw [if_neg (by decide), if_neg (by decide)] at hk; dsimp only; omega⟩
        · exact ⟨(78, 0, 7), by simp, rfl, Nat.zero_le _, by rw [if_neg (by decide), if_neg (by decide)] at hk; dsimp only; omega⟩)
      have hz : zyin [(74, 4, 7), (74, 9, 9), (74, 14, 17), (77, 0, 7), (78, 0, 7)] a k = false := hz
      rw [hh] at hz
      cases hz
theorem zyrefB (h1 : 1 ≤ r) (h2 : r ≤ 4) (h3 : 1 ≤ c) (h4 : c ≤ 5) : ∀ i, i < 66 → zyCo l (zymr r c) zyJf (zyir r c) i := by
  intro i
  induction i using Nat.strongRecOn with
  | ind i IH =>
    intro hi
    have IH' : ∀ d, d < i → zyCo l (zymr r c) zyJf (zyir r c) d := fun d hd => IH d hd (by omega)
    by_cases a20 : i < 20
    · exact zyrefA zyJf_r h1 h2 h3 h4 i a20
    by_cases e20 : i = 20
    · subst e20
      exact fun en me he hm => zyB20 h1 h2 h3 h4 he hm
    by_cases e21 : i = 21
    · subst e21
      exact fun en me he hm => zyB21 h1 h2 h3 h4 he hm
    by_cases e22 : i = 22
    · subst e22
      exact fun en me he hm => zyB22 h1 h2 h3 h4 he hm
    by_cases b23 : 23 ≤ i ∧ i < 42
    · exact zychk_ok (zychks_iff (zyAllP_iff zyrr23 h1 h2 h3 h4) i (by omega) (by omega)) zyJf_r.1 IH'
    by_cases b42 : 42 ≤ i ∧ i < 54
    · exact zychk_ok (zychks_iff (zyAllP_iff zyrr42 h1 h2 h3 h4) i (by omega) (by omega)) zyJf_r.1 IH'
    by_cases b54 : 54 ≤ i ∧ i < 58
    · exact zychk_ok (zychks_iff (zyAllP_iff zyrr54 h1 h2 h3 h4) i (by omega) (by omega)) zyJf_r.1 IH'
    by_cases b58 : 58 ≤ i ∧ i < 66
    · exact zychk_ok (zychks_iff (zyAllP_iff zyrr58 h1 h2 h3 h4) i (by omega) (by omega)) zyJf_r.1 IH'
    omega
end YHV
end
section
/-! WHERE c MAY HOLD ANY INTS; contracts there and over each pair's base -/
noncomputable def zymx75 : zyCl := (20, 556, [(0, 555, 34359738362)])
noncomputable def zymx : zyB := zymrX zymx75
theorem zyElx (r c : Nat) (B : zCx) (H : Heap) : zyEl (zymr r c) B H = zyEl zymx B H := zyElX (x := zymr75 r c) (y := zymx75) rfl rfl B H
/-- c as the pair's base tells -/
def zyT75 (r c : Nat) (E : zyEm) : Prop := ∀ k, k < 556 → ∀ b ∈ (zymr75 r c).2.2, b.1 ≤ k → k ≤ b.2.1 → (b.2.2 % 8 = 2 → ∃ x : Int32, E 75 k = some (.int x) ∧ b.2.2 / 34359738368 ≤ zB x ∧ zB x ≤ b.2.2 / 8 % 4294967296) ∧ (b.2.2 % 8 = 0 → E 75 k = some (.int (Int32.ofNat (b.2.2 / 8))))
def zyPr (r c : Nat) : Prop := 1 ≤ r ∧ r ≤ 4 ∧ 1 ≤ c ∧ c ≤ 5
noncomputable def zyk02 (l : List (Nat × Nat × Nat)) : Bool := List.rec (motive := fun _ => Bool) true (fun b _ ih => zand (zif (Nat.beq (Nat.mod b.2.2 8) 0) true (Nat.beq (Nat.mod b.2.2 8) 2)) ih) l
theorem zyk02_iff : ∀ {l : List (Nat × Nat × Nat)}, zyk02 l = true → ∀ b ∈ l, b.2.2 % 8 = 0 ∨ b.2.2 % 8 = 2 := by
  intro l
  induction l with
  | nil => intro _ b hb; cases hb
  | cons a t ih =>
    intro h b hb
    have h : zand (zif (Nat.beq (Nat.mod a.2.2 8) 0) true (Nat.beq (Nat.mod a.2.2 8) 2)) (zyk02 t) = true := h
    obtain ⟨g1, g2⟩ := zand_iff h
    rcases List.mem_cons.mp hb with e | e
    · rw [e]
      rcases zif_iff g1 with ⟨q, -⟩ | ⟨-, q⟩
      · exact Or.inl (zbeqT q)
      · exact Or.inr (zbeqT q)
    · exact ih g2 b e
noncomputable def zycow (l : List (Nat × Nat × Nat)) (k : Nat) : Bool := List.rec (motive := fun _ => Bool) false (fun b _ ih => zif (zand (Nat.ble b.1 k) (Nat.ble k b.2.1)) true ih) l
theorem zycow_iff {k : Nat} : ∀ {l : List (Nat × Nat × Nat)}, zycow l k = true → ∃ b ∈ l, b.1 ≤ k ∧ k ≤ b.2.1 := by
  intro l
  induction l with
  | nil => intro h; cases h
  | cons a t ih =>
    intro h
    have h : zif (zand (Nat.ble a.1 k) (Nat.ble k a.2.1)) true (zycow t k) = true := h
    rcases zif_iff h with ⟨h1, -⟩ | ⟨-, h1⟩
    · obtain ⟨q1, q2⟩ := zand_iff h1
      exact ⟨a, List.mem_cons_self, zbleT q1, zbleT q2⟩
    · obtain ⟨b, q1, q2⟩ := ih h1
      exact ⟨b, List.mem_cons_of_mem _ q1, q2⟩
theorem zyk02_all : zyAllP (fun r c => zyk02 (zymr75 r c).2.2) = true := by decide +kernel
theorem zycow_all : zyAllP (fun r c => zyAll (fun k => zycow (zymr75 r c).2.2 k) 556) = true := by decide +kernel
theorem zyT75_of {r c : Nat} {B : zCx} {J : zyJt} {U : State} {H : Heap} (hI : zyMI (zymr r c) B J U H) : zyT75 r c (zyEl zymx B H) := by
  rw [← zyElx r c]
  intro k hk b hb b1 b2
  exact zyTy_of hI 75 (zymr75 r c) k rfl (by rw [zyL75]; exact hk) b hb b1 b2
theorem zyMI_x {r c : Nat} (hp : zyPr r c) {B : zCx} {J : zyJt} {U : State} {H : Heap} (hI : zyMI (zymr r c) B J U H) : zyMI zymx B J U H := by
  refine ⟨fun a cl hg => ?_, fun a cl k hg hk => ?_, by rw [← zyElx r c]; exact hI.2.2.1, hI.2.2.2⟩
  · by_cases e : a = 75
    · subst e
      have hg : some zymx75 = some cl := hg
      cases hg
      exact hI.1 75 (zymr75 r c) rfl
    · exact hI.1 a cl (by rw [zymr_X, zGX (zymr75 r c) zymx75 a e]; exact hg)
  · by_cases e : a = 75
    · subst e
      have hg : some zymx75 = some cl := hg
      cases hg
      have hk : k < 556 := hk
      obtain ⟨b, hb, b1, b2⟩ := zycow_iff (zyAll_iff (zyAllP_iff zycow_all hp.1 hp.2.1 hp.2.2.1 hp.2.2.2) k hk)
      have ht := zyT75_of hI k hk b hb b1 b2
      have hx : ∃ x : Int32, zyEl zymx B H 75 k = some (.int x) := by
        rcases zyk02_iff (zyAllP_iff zyk02_all hp.1 hp.2.1 hp.2.2.1 hp.2.2.2) b hb with q | q
        · exact ⟨_, ht.2 q⟩
        · obtain ⟨x, h1, -⟩ := ht.1 q
          exact ⟨x, h1⟩
      obtain ⟨x, hx⟩ := hx
      refine ⟨.int x, hx, fun b3 hb3 _ _ => ?_⟩
      have hb3 : b3 ∈ [(0, 555, 34359738362)] := hb3
      rw [List.mem_singleton.mp hb3]
      exact ⟨by decide, zyv_bd (lo := 0) (hi := 4294967295) (Nat.zero_le _) (by have := zB_lt x; omega) (by decide)⟩
    · obtain ⟨w, q1, q2⟩ := hI.2.1 a cl k (by rw [zymr_X, zGX (zymr75 r c) zymx75 a e]; exact hg) hk
      exact ⟨w, by rw [← zyElx r c]; exact q1, q2⟩
theorem zyMI_r {r c : Nat} (hp : zyPr r c) {B : zCx} {J : zyJt} {U : State} {H : Heap} (hI : zyMI zymx B J U H) (hT : zyT75 r c (zyEl zymx B H)) : zyMI (zymr r c) B J U H := by
  refine ⟨fun a cl hg => ?_, fun a cl k hg hk => ?_, by rw [zyElx r c]; exact hI.2.2.1, hI.2.2.2⟩
  · by_cases e : a = 75
    · subst e
      have hg : some (zymr75 r c) = some cl := hg
      cases hg
      exact hI.1 75 zymx75 rfl
    · exact hI.1 a cl (by rw [← hg, zymr_X]; exact zGX _ _ a (fun q => e q))
  · by_cases e : a = 75
    · subst e
      have hg : some (zymr75 r c) = some cl := hg
      cases hg
      rw [zyL75] at hk
      obtain ⟨w, q1, -⟩ := hI.2.1 75 zymx75 k rfl hk
      refine ⟨w, by rw [zyElx r c]; exact q1, fun b hb b1 b2 => ?_⟩
      have ht := hT k hk b hb b1 b2
      rcases zyk02_iff (zyAllP_iff zyk02_all hp.1 hp.2.1 hp.2.2.1 hp.2.2.2) b hb with q | q
      · have e2 := ht.2 q
        rw [q1] at e2
        cases e2
        refine ⟨by omega, ?_⟩
        rw [show b.2.2 = 8 * (b.2.2 / 8) by omega]
        exact zyv_mk (by rw [show 8 * (b.2.2 / 8) / 8 = b.2.2 / 8 by omega])
      · obtain ⟨x, h1, h2, h3⟩ := ht.1 q
        rw [q1] at h1
        cases h1
        refine ⟨by omega, ?_⟩
        rw [show b.2.2 = 8 * (b.2.2 / 34359738368 * 4294967296 + b.2.2 / 8 % 4294967296) + 2 by omega]
        exact zyv_bd (by omega) (by omega) (by omega)
    · obtain ⟨w, q1, q2⟩ := hI.2.1 a cl k (by rw [← hg, zymr_X]; exact zGX _ _ a (fun q => e q)) hk
      exact ⟨w, by rw [zyElx r c]; exact q1, q2⟩
theorem zyT75_rc {r c r' c' : Nat} {E : zyEm} (hp : zyPr r c) (hp' : zyPr r' c') (h : zyT75 r c E) (h' : zyT75 r' c' E) : r = r' ∧ c = c' := by
  have a0 := (h 0 (by decide) (0, 0, Nat.mul 8 r) List.mem_cons_self (Nat.le_refl _) (Nat.le_refl _)).2 (show 8 * r % 8 = 0 by omega)
  have b0 := (h' 0 (by decide) (0, 0, Nat.mul 8 r') List.mem_cons_self (Nat.le_refl _) (Nat.le_refl _)).2 (show 8 * r' % 8 = 0 by omega)
  have a1 := (h 1 (by decide) (1, 1, Nat.mul 8 c) (List.mem_cons_of_mem _ List.mem_cons_self) (Nat.le_refl _) (Nat.le_refl _)).2 (show 8 * c % 8 = 0 by omega)
  have b1 := (h' 1 (by decide) (1, 1, Nat.mul 8 c') (List.mem_cons_of_mem _ List.mem_cons_self) (Nat.le_refl _) (Nat.le_refl _)).2 (show 8 * c' % 8 = 0 by omega)
  rw [a0] at b0
  rw [a1] at b1
  obtain ⟨p1, p2, p3, p4⟩ := hp
  obtain ⟨p5, p6, p7, p8⟩ := hp'
  have e0 := zyOi (a := 8 * r / 8) (b := 8 * r' / 8) (by omega) (by omega) (Value.int.inj (Option.some.inj b0))
  have e1 := zyOi (a := 8 * c / 8) (b := 8 * c' / 8) (by omega) (by omega) (Value.int.inj (Option.some.inj b1))
  omega
theorem zyOut_x {r c : Nat} {B : zCx} {H0 H : Heap} (h : zyOut (zymr r c) B H0 H) : zyOut zymx B H0 H := by
  intro q hq
  refine h q (fun a cl hg => ?_)
  by_cases e : a = 75
  · subst e
    exact hq 75 zymx75 rfl
  · exact hq a cl (by rw [← hg, zymr_X]; exact zGX _ _ a (fun q => e q))
theorem zyOut_r {r c : Nat} {B : zCx} {H0 H : Heap} (h : zyOut zymx B H0 H) : zyOut (zymr r c) B H0 H := by
  intro q hq
  refine h q (fun a cl hg => ?_)
  by_cases e : a = 75
  · subst e
    exact hq 75 (zymr75 r c) rfl
  · exact hq a cl (by rw [← hg, zymr_X]; exact zGX _ _ a (fun q => e q))
/-- from each pair's base to any ints in c -/
theorem zyHc_x {l : Launch} {en : zEn} {me : zMe} {dep na : Nat} {Φ : List Int32 → zyEm → Prop} {Ψ : List Int32 → zyEm → zyEm → Option Value → Prop} (h : ∀ r c, zyPr r c → zyHc l (zymr r c) en me dep na Φ Ψ) : zyHc l zymx en me dep na (fun as E => ∃ r c, zyPr r c ∧ zyT75 r c E ∧ Φ as E) (fun as E E2 vo => ∀ r c, zyPr r c → zyT75 r c E → zyT75 r c E2 ∧ Ψ as E E2 vo) := by
  intro B xs hl
  refine zyMet_pt (fun a s hp => ?_)
  obtain ⟨rfl, hK, hI, r, c, hp, hT, hφ⟩ := hp
  refine ⟨_, _, h r c hp B xs hl, ⟨rfl, hK, zyMI_r hp hI hT, by rw [zyElx r c]; exact hφ⟩, fun o t hq => ?_⟩
  obtain ⟨vo, e1, k1, k2, k3, k4⟩ := hq
  refine ⟨vo, e1, k1, zyMI_x hp k2, fun r' c' hp' hT' => ?_, zyOut_x k4⟩
  obtain ⟨rfl, rfl⟩ := zyT75_rc hp hp' hT hT'
  rw [zyElx r c, zyElx r c] at k3
  exact ⟨zyT75_of k2, k3⟩
/-- back, if c stays -/
theorem zyHc_r {l : Launch} {en : zEn} {me : zMe} {dep na : Nat} {Φ : List Int32 → zyEm → Prop} {Ψ : List Int32 → zyEm → zyEm → Option Value → Prop} (h : zyHc l zymx en me dep na Φ Ψ) (hf : ∀ as E E2 vo, Ψ as E E2 vo → ∀ k, k < 556 → E2 75 k = E 75 k) {r c : Nat} (hp : zyPr r c) : zyHc l (zymr r c) en me dep na Φ Ψ := by
  intro B xs hl
  refine zyMet_pt (fun a s hp2 => ?_)
  obtain ⟨rfl, hK, hI, hφ⟩ := hp2
  have hT := zyT75_of hI
  refine ⟨_, _, h B xs hl, ⟨rfl, hK, zyMI_x hp hI, by rw [← zyElx r c]; exact hφ⟩, fun o t hq => ?_⟩
  obtain ⟨vo, e1, k1, k2, k3, k4⟩ := hq
  have hk := hf _ _ _ _ k3
  refine ⟨vo, e1, k1, zyMI_r hp k2 (fun k hk2 b hb b1 b2 => ?_), by rw [zyElx r c, zyElx r c]; exact k3, zyOut_r k4⟩
  rw [hk k hk2]
  exact hT k hk2 b hb b1 b2
end
