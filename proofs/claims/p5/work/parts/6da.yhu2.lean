/-! put, take; step, reset, cut, pair as all -/
theorem zyrqA {r c : Nat} (h1 : 1 ≤ r) (h2 : r ≤ 4) (h3 : 1 ≤ c) (h4 : c ≤ 5) : zychks (zymr r c) [] (zyiq r c) 1 4 = true := by
  have hr : r = 1 ∨ r = 2 ∨ r = 3 ∨ r = 4 := by omega
  have hc : c = 1 ∨ c = 2 ∨ c = 3 ∨ c = 4 ∨ c = 5 := by omega
  rcases hr with rfl | rfl | rfl | rfl
  · rcases hc with rfl | rfl | rfl | rfl | rfl
    · exact zyrq1_1
    · exact zyrq1_2
    · exact zyrq1_3
    · exact zyrq1_4
    · exact zyrq1_5
  · rcases hc with rfl | rfl | rfl | rfl | rfl
    · exact zyrq2_1
    · exact zyrq2_2
    · exact zyrq2_3
    · exact zyrq2_4
    · exact zyrq2_5
  · rcases hc with rfl | rfl | rfl | rfl | rfl
    · exact zyrq3_1
    · exact zyrq3_2
    · exact zyrq3_3
    · exact zyrq3_4
    · exact zyrq3_5
  · rcases hc with rfl | rfl | rfl | rfl | rfl
    · exact zyrq4_1
    · exact zyrq4_2
    · exact zyrq4_3
    · exact zyrq4_4
    · exact zyrq4_5
theorem zyqA {l : Launch} {r c : Nat} (h1 : 1 ≤ r) (h2 : r ≤ 4) (h3 : 1 ≤ c) (h4 : c ≤ 5) : ∀ i, i < 5 → zyCo l (zymr r c) zyJ0 (zyiq r c) i := by
  intro i
  induction i using Nat.strongRecOn with
  | ind i IH =>
    intro hi
    have IH' : ∀ d, d < i → zyCo l (zymr r c) zyJ0 (zyiq r c) d := fun d hd => IH d hd (by omega)
    by_cases e0 : i = 0
    · subst e0
      exact fun en me he hm => zyrefA zyJ0_r h1 h2 h3 h4 16 (by decide) en me he hm
    · exact zychk_ok (zychks_iff (zyrqA h1 h2 h3 h4) i (by omega) (by omega)) (zyJ0_p (fun p hp => by cases hp)) IH'
section YHU2
variable {l : Launch} {r c : Nat} {en : zEn} {me : zMe}
theorem zyput_U (h1 : 1 ≤ r) (h2 : r ≤ 4) (h3 : 1 ≤ c) (h4 : c ≤ 5) (hen : zG zxMeta 275 = some en) (hme : zG zMeth 275 = some me) : zyHc l (zymr r c) en me 9 1 zyΦu zyΨu := by
  refine zyHc_T (zyqA h1 h2 h3 h4 1 (by decide) en me hen hme) (zyqA h1 h2 h3 h4 2 (by decide) en me hen hme) ⟨rfl, rfl⟩ ⟨rfl, rfl⟩ ⟨rfl, rfl⟩ (cd1 := 34359738360) (cd2 := 73786976277658337338) ⟨⟨rfl, by decide⟩, rfl, by decide⟩ ?_ ?_
  · intro a k h
    obtain ⟨p0, g1, g2, g3, g4⟩ := zyin_iff.mp h
    have g1 : p0 ∈ [(74, 2, 3)] := g1
    simp only [List.mem_cons, List.not_mem_nil, or_false] at g1
    rcases g1 with rfl <;> dsimp only at g2 g3 g4 <;> omega
  · intro a k h
    obtain ⟨p0, g1, g2, g3, g4⟩ := zyin_iff.mp h
    have g1 : p0 ∈ [(74, 2, 3), (75, 2, 2), (75, 136, 159)] := g1
    simp only [List.mem_cons, List.not_mem_nil, or_false] at g1
    rcases g1 with rfl | rfl | rfl <;> dsimp only at g2 g3 g4 <;> omega
theorem zytake_U (h1 : 1 ≤ r) (h2 : r ≤ 4) (h3 : 1 ≤ c) (h4 : c ≤ 5) (hen : zG zxMeta 276 = some en) (hme : zG zMeth 276 = some me) : zyHc l (zymr r c) en me 3 1 zyΦu zyΨu := by
  refine zyHc_T (zyqA h1 h2 h3 h4 3 (by decide) en me hen hme) (zyqA h1 h2 h3 h4 4 (by decide) en me hen hme) ⟨rfl, rfl⟩ ⟨rfl, rfl⟩ ⟨rfl, rfl⟩ (cd1 := 34359738360) (cd2 := 73786976277658337338) ⟨⟨rfl, by decide⟩, rfl, by decide⟩ ?_ ?_
  · intro a k h
    obtain ⟨p0, g1, g2, g3, g4⟩ := zyin_iff.mp h
    have g1 : p0 ∈ [(74, 2, 3)] := g1
    simp only [List.mem_cons, List.not_mem_nil, or_false] at g1
    rcases g1 with rfl <;> dsimp only at g2 g3 g4 <;> omega
  · intro a k h
    obtain ⟨p0, g1, g2, g3, g4⟩ := zyin_iff.mp h
    have g1 : p0 ∈ [(74, 2, 3), (75, 2, 2), (75, 6, 6), (75, 136, 142), (75, 144, 150), (75, 152, 158), (75, 520, 555)] := g1
    simp only [List.mem_cons, List.not_mem_nil, or_false] at g1
    rcases g1 with rfl | rfl | rfl | rfl | rfl | rfl | rfl <;> dsimp only at g2 g3 g4 <;> omega
theorem zystep_U (h1 : 1 ≤ r) (h2 : r ≤ 4) (h3 : 1 ≤ c) (h4 : c ≤ 5) (hen : zG zxMeta 279 = some en) (hme : zG zMeth 279 = some me) : zyHc l (zymr r c) en me 8 1 zyΦu zyΨu := by
  refine zyHc_mono (zystep_H h1 h2 h3 h4 hen hme) (fun xs E _ _ h => h) (fun xs E E2 vo _ _ h hΨ => ?_)
  obtain ⟨k1, k2, k3, k4⟩ := hΨ
  refine ⟨⟨k1, k2 74 33 (by omega) (by omega) (by omega), fun T hT e => ?_⟩, k3⟩
  obtain ⟨T', -, q2, q3⟩ := k4 T hT e
  exact ⟨T', q2, q3⟩
theorem zyreset_U (h1 : 1 ≤ r) (h2 : r ≤ 4) (h3 : 1 ≤ c) (h4 : c ≤ 5) (hen : zG zxMeta 280 = some en) (hme : zG zMeth 280 = some me) : zyHc l (zymr r c) en me 8 0 zyΦu zyΨu := by
  refine zyHc_mono (zyreset_H h1 h2 h3 h4 hen hme) (fun xs E _ _ h => h.1) (fun xs E E2 vo _ _ h hΨ => ?_)
  obtain ⟨k1, k2, k3, k4⟩ := hΨ
  exact ⟨⟨k1, k2 74 33 (by omega) (by omega) (by omega), fun T hT e => ⟨0, by omega, k3⟩⟩, k4⟩
theorem zycut_U (h1 : 1 ≤ r) (h2 : r ≤ 4) (h3 : 1 ≤ c) (h4 : c ≤ 5) (hen : zG zxMeta 281 = some en) (hme : zG zMeth 281 = some me) : zyHc l (zymr r c) en me 8 0 zyΦu zyΨu := by
  refine zyHc_mono (zycut_H h1 h2 h3 h4 hen hme) (fun xs E _ _ h => h.1) (fun xs E E2 vo _ _ h hΨ => ?_)
  obtain ⟨k1, k2, k4⟩ := hΨ
  exact ⟨zyKu_3 k1 (k2 74 33 (by omega) (by omega)) (k2 75 3 (by omega) (by omega)), k4⟩
theorem zypair_U (h1 : 1 ≤ r) (h2 : r ≤ 4) (h3 : 1 ≤ c) (h4 : c ≤ 5) (hen : zG zxMeta 256 = some en) (hme : zG zMeth 256 = some me) : zyHc l (zymr r c) en me 4 2 zyΦu zyΨu := by
  refine zyHc_mono (zypair_H h1 h2 h3 h4 hen hme) (fun xs E _ _ h => h.1) (fun xs E E2 vo _ _ h hΨ => ?_)
  obtain ⟨k1, k4⟩ := hΨ
  exact ⟨zyKu_3 (zJ1_fr (fun k _ => k1 75 k (by omega) (by omega)) h.1) (k1 74 33 (by omega) (by omega)) (k1 75 3 (by omega) (by omega)), k4⟩
end YHU2
