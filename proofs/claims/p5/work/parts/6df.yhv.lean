/-! THE TABLE with the last J; all public methods by it -/
theorem zyEl_no {mi : zyB} {B : zCx} {H : Heap} {a k : Nat} (h : ∀ c, zG mi a = some c → ¬ k < zyLen c) : zyEl mi B H a k = none := by
  unfold zyEl
  cases hg : zG mi a with
  | none => rfl
  | some c =>
    dsimp only
    rw [if_neg (h c hg)]
theorem zyCon_b2 {l : Launch} {mi : zyB} {J : zyJt} {en : zEn} {me : zMe} {dep na : Nat} {Φ : List Int32 → zyEm → Prop} {Ψ : List Int32 → zyEm → zyEm → Option Value → Prop} (h : zyHc l mi en me dep na Φ Ψ) {ct : zyCt} (hd : ct.2.2.2.1 = dep) (hpost : ct.2.2.2.2.2 = []) (hargs : ∀ (B : zCx) (AsV : List Value), zySt (zyX0 B J) ct.1 AsV → ∃ xs : List Int32, AsV = zyAr B xs ∧ xs.length = na ∧ ∀ (U : State) (H : Heap), zyMI mi B J U H → zyPk mi B ct.2.2.2.2.1 H → Φ xs (zyEl mi B H))
    (hΨ : ∀ (B : zCx) (xs : List Int32) (E E2 : zyEm) (vo : Option Value), zyTy mi E → J.1 E → zyTy mi E2 → Φ xs E → Ψ xs E E2 vo → J.1 E2 ∧ (∀ a c k, zG mi a = some c → k < zyLen c → zyin ct.2.1 a k = false → E2 a k = E a k) ∧ zyvo (zyX0 B J) ct.2.2.1 vo) : zyCon l mi J en me ct := by
  intro B AsV hA
  obtain ⟨xs, rfl, hl, hΦ⟩ := hargs B AsV hA
  subst hd
  refine zyMet_pt (fun a s hp => ?_)
  obtain ⟨rfl, hK, hI, hPk⟩ := hp
  have hI0 : zyMI mi B zyJ0 s s.heap := ⟨hI.1, hI.2.1, trivial, hI.2.2.2⟩
  have hφ := hΦ s s.heap hI hPk
  refine ⟨_, _, h B xs hl, ⟨rfl, hK, hI0, hφ⟩, fun o t hq => ?_⟩
  obtain ⟨vo, e1, k1, k2, k3, k4⟩ := hq
  obtain ⟨g1, g2, g3⟩ := hΨ B xs _ _ vo (zyTy_of hI) hI.2.2.1 (zyTy_of k2) hφ k3
  refine ⟨vo, e1, zyvr_of g3, k1, ⟨k2.1, k2.2.1, g1, k2.2.2.2⟩, ?_, fun a k hz => ?_, k4⟩
  · rw [hpost]
    exact fun p hp => by cases hp
  · by_cases q : ∃ c, zG mi a = some c ∧ k < zyLen c
    · obtain ⟨c, q1, q2⟩ := q
      exact g2 a c k q1 q2 hz
    · rw [zyEl_no (fun c hc hk => q ⟨c, hc, hk⟩), zyEl_no (fun c hc hk => q ⟨c, hc, hk⟩)]
theorem zyvo_i {B : zCx} {J : zyJt} {lo hi : Nat} {z : Int32} {vo : Option Value} (e : vo = some (.int z)) (h1 : lo ≤ zB z) (h2 : zB z ≤ hi) (h3 : hi < 4294967296) : zyvo (zyX0 B J) [8 * (lo * 4294967296 + hi) + 2] vo := by
  rw [e]
  exact zyv_bd h1 h2 h3
theorem zyar1 {B : zCx} {J : zyJt} {AsV : List Value} {lo hi : Nat} (h : zySt (zyX0 B J) [595, 8 * (lo * 4294967296 + hi) + 2] AsV) (hh : hi < 4294967296) : ∃ x : Int32, AsV = zyAr B [x] ∧ lo ≤ zB x ∧ zB x ≤ hi := by
  obtain ⟨v0, t0, rfl, a0, h⟩ := zySt_c h
  obtain ⟨v1, t1, rfl, a1, h⟩ := zySt_c h
  have e := zySt_n h
  subst e
  have e0 : v0 = .ref (zad B 74) := zyv_3 (v := 595) a0 (by decide)
  obtain ⟨x, rfl, b1, b2⟩ := zv_2 (zyv_zv a1 (by omega) (by omega)) (by omega)
  exact ⟨x, by rw [e0]; rfl, by omega, by omega⟩
theorem zyLnr {r c a : Nat} {cl : zyCl} (h : zG (zymr r c) a = some cl) (ha : 77 ≤ a) (hb : a ≤ 83) : zyLen cl = if a = 80 then 300 else if a = 81 then 10400 else 8 := by
  have hc : a = 77 ∨ a = 78 ∨ a = 79 ∨ a = 80 ∨ a = 81 ∨ a = 82 ∨ a = 83 := by omega
  rcases hc with rfl | rfl | rfl | rfl | rfl | rfl | rfl
  · have h : some ((20, 8, [(0, 7, 73786976312018076282)]) : zyCl) = some cl := h
    cases h
    rfl
  · have h : some ((20, 8, [(0, 7, 73786976312018076282)]) : zyCl) = some cl := h
    cases h
    rfl
  · have h : some ((20, 8, [(0, 7, 73786976312018075706)]) : zyCl) = some cl := h
    cases h
    rfl
  · have h : some ((20, 300, [(0, 299, 73786976071499907130)]) : zyCl) = some cl := h
    cases h
    rfl
  · have h : some ((20, 10400, [(0, 10399, 73786976312018075706)]) : zyCl) = some cl := h
    cases h
    rfl
  · have h : some ((20, 8, [(0, 7, 73786976312018075706)]) : zyCl) = some cl := h
    cases h
    rfl
  · have h : some ((20, 8, [(0, 7, 73786976312018075706)]) : zyCl) = some cl := h
    cases h
    rfl
section YHV
variable {l : Launch} {r c : Nat} {en : zEn} {me : zMe}
theorem zyB20 (h1 : 1 ≤ r) (h2 : r ≤ 4) (h3 : 1 ≤ c) (h4 : c ≤ 5) (hen : zG zxMeta 297 = some en) (hme : zG zMeth 297 = some me) : zyCon l (zymr r c) zyJf en me ([595, 73786976346377814530, 73786976329197944826], [(74, 8, 8), (74, 14, 17), (74, 19, 21), (74, 25, 27), (77, 0, 7), (78, 0, 7), (79, 0, 7), (80, 0, 299), (81, 0, 10399), (82, 0, 7)], [73786976312018075682], 9, [], []) := by
  refine zyCon_b2 (zywhyOf h1 h2 h3 h4 hen hme) rfl rfl (fun B AsV hA => ?_) (fun B xs E E2 vo _ hJ _ _ hΨ => ?_)
  · obtain ⟨x, y, e, b1, b2, b3, b4⟩ := zyar2 (lo := 2147483649) (hi := 2147483712) (lo2 := 2147483648) (hi2 := 4294967295) hA (by decide) (by decide)
    exact ⟨[x, y], e, rfl, fun U H hI _ => ⟨hI.2.2.1, x, y, rfl, b1, b2, b3⟩⟩
  · obtain ⟨p1, z, ez, z1, z2⟩ := hΨ
    refine ⟨zJ1_fr (fun k _ => p1 75 k (by omega) (by omega)) hJ, fun a cl k hg hk hz => p1 a k (fun n => ?_) (fun n => ?_), zyvo_i (lo := 2147483648) (hi := 2147483652) ez z1 z2 (by decide)⟩
    · have hh : zyin [(74, 8, 8), (74, 14, 17), (74, 19, 21), (74, 25, 27), (77, 0, 7), (78, 0, 7), (79, 0, 7), (80, 0, 299), (81, 0, 10399), (82, 0, 7)] a k = true := zyin_iff.mpr (by
        obtain ⟨rfl, n⟩ := n
        rcases n with n | n | n | n
        · exact ⟨(74, 8, 8), by simp, rfl, by dsimp only; omega, by dsimp only; omega⟩
        · exact ⟨(74, 14, 17), by simp, rfl, by dsimp only; omega, by dsimp only; omega⟩
        · exact ⟨(74, 19, 21), by simp, rfl, by dsimp only; omega, by dsimp only; omega⟩
        · exact ⟨(74, 25, 27), by simp, rfl, by dsimp only; omega, by dsimp only; omega⟩)
      have hz : zyin [(74, 8, 8), (74, 14, 17), (74, 19, 21), (74, 25, 27), (77, 0, 7), (78, 0, 7), (79, 0, 7), (80, 0, 299), (81, 0, 10399), (82, 0, 7)] a k = false := hz
      rw [hh] at hz
      cases hz
    · have hl := zyLnr hg n.1 (by omega)
      rw [hl] at hk
      have hh : zyin [(74, 8, 8), (74, 14, 17), (74, 19, 21), (74, 25, 27), (77, 0, 7), (78, 0, 7), (79, 0, 7), (80, 0, 299), (81, 0, 10399), (82, 0, 7)] a k = true := zyin_iff.mpr (by
        have hc : a = 77 ∨ a = 78 ∨ a = 79 ∨ a = 80 ∨ a = 81 ∨ a = 82 := by omega
        rcases hc with rfl | rfl | rfl | rfl | rfl | rfl
        · exact ⟨(77, 0, 7), by simp, rfl, Nat.zero_le _, by rw [if_neg (by decide), if_neg (by decide)] at hk; dsimp only; omega⟩
        · exact ⟨(78, 0, 7), by simp, rfl, Nat.zero_le _, by rw [if_neg (by decide), if_neg (by decide)] at hk; dsimp only; omega⟩
        · exact ⟨(79, 0, 7), by simp, rfl, Nat.zero_le _, by rw [if_neg (by decide), if_neg (by decide)] at hk; dsimp only; omega⟩
        · exact ⟨(80, 0, 299), by simp, rfl, Nat.zero_le _, by rw [if_pos rfl] at hk; dsimp only; omega⟩
        · exact ⟨(81, 0, 10399), by simp, rfl, Nat.zero_le _, by rw [if_neg (by decide), if_pos rfl] at hk; dsimp only; omega⟩
        · exact ⟨(82, 0, 7), by simp, rfl, Nat.zero_le _, by rw [if_neg (by decide), if_neg (by decide)] at hk; dsimp only; omega⟩)
      have hz : zyin [(74, 8, 8), (74, 14, 17), (74, 19, 21), (74, 25, 27), (77, 0, 7), (78, 0, 7), (79, 0, 7), (80, 0, 299), (81, 0, 10399), (82, 0, 7)] a k = false := hz
      rw [hh] at hz
      cases hz
theorem zyB21 (h1 : 1 ≤ r) (h2 : r ≤ 4) (h3 : 1 ≤ c) (h4 : c ≤ 5) (hen : zG zxMeta 245 = some en) (hme : zG zMeth 245 = some me) : zyCon l (zymr r c) zyJf en me ([595, 73786976346377814050], [(74, 19, 21), (81, 0, 10399), (82, 0, 7)], [73786976312018075658], 8, [], []) := by
  refine zyCon_b2 (zyisWishedAgain h1 h2 h3 h4 hen hme) rfl rfl (fun B AsV hA => ?_) (fun B xs E E2 vo _ hJ _ _ hΨ => ?_)
  · obtain ⟨x, e, b1, b2⟩ := zyar1 (lo := 2147483649) (hi := 2147483652) hA (by decide)
    refine ⟨[x], e, rfl, fun U H hI _ => ⟨?_, x, rfl, b2⟩⟩
    obtain ⟨m, hm, hms⟩ := zc_m (zyTy_of hI)
    obtain ⟨j1, j2, -⟩ := hI.2.2.1 m hm hms
    exact ⟨m, hm, hms, j1, j2⟩
  · obtain ⟨p1, z, ez, hz⟩ := hΨ
    refine ⟨zJ1_fr (fun k _ => p1 75 k (by omega) (by omega) (by omega)) hJ, fun a cl k hg hk hz2 => p1 a k (fun n => ?_) (fun n => ?_) (fun n => ?_), zyvo_b ez hz⟩
    · have hl := zyLnr hg (by omega) (by omega)
      rw [hl, n, if_neg (by decide), if_pos rfl] at hk
      have hh : zyin [(74, 19, 21), (81, 0, 10399), (82, 0, 7)] a k = true := zyin_iff.mpr ⟨(81, 0, 10399), by simp, n.symm, Nat.zero_le _, by dsimp only; omega⟩
      have hz2 : zyin [(74, 19, 21), (81, 0, 10399), (82, 0, 7)] a k = false := hz2
      rw [hh] at hz2
      cases hz2
    · have hl := zyLnr hg (by omega) (by omega)
      rw [hl, n, if_neg (by decide), if_neg (by decide)] at hk
      have hh : zyin [(74, 19, 21), (81, 0, 10399), (82, 0, 7)] a k = true := zyin_iff.mpr ⟨(82, 0, 7), by simp, n.symm, Nat.zero_le _, by dsimp only; omega⟩
      have hz2 : zyin [(74, 19, 21), (81, 0, 10399), (82, 0, 7)] a k = false := hz2
      rw [hh] at hz2
      cases hz2
    · have hh : zyin [(74, 19, 21), (81, 0, 10399), (82, 0, 7)] a k = true := zyin_iff.mpr ⟨(74, 19, 21), by simp, n.1.symm, n.2.1, n.2.2⟩
      have hz2 : zyin [(74, 19, 21), (81, 0, 10399), (82, 0, 7)] a k = false := hz2
      rw [hh] at hz2
      cases hz2
theorem zyB22 (h1 : 1 ≤ r) (h2 : r ≤ 4) (h3 : 1 ≤ c) (h4 : c ≤ 5) (hen : zG zxMeta 306 = some en) (hme : zG zMeth 306 = some me) : zyCon l (zymr r c) zyJf en me ([595, 73786976277658337770, 73786976277658337770], [(74, 4, 7), (74, 9, 9), (74, 14, 17), (77, 0, 7), (78, 0, 7)], [73786976312018075658], 9, [], []) := by
  refine zyCon_b2 (zydoesExplain h1 h2 h3 h4 hen hme) rfl rfl (fun B AsV hA => ?_) (fun B xs E E2 vo _ hJ _ _ hΨ => ?_)
  · obtain ⟨x, y, e, b1, b2, b3, b4⟩ := zyar2 (lo := 2147483647) (hi := 2147483709) (lo2 := 2147483647) (hi2 := 2147483709) hA (by decide) (by decide)
    exact ⟨[x, y], e, rfl, fun U H hI _ => ⟨x, y, rfl, ⟨b1, b2⟩, b3, b4⟩⟩
  · obtain ⟨p1, z, ez, z1, z2⟩ := hΨ
    refine ⟨zJ1_fr (fun k _ => p1 75 k (by omega) (by omega)) hJ, fun a cl k hg hk hz => p1 a k (fun n => ?_) (fun n => ?_), zyvo_i (lo := 2147483648) (hi := 2147483649) ez z1 z2 (by decide)⟩
    · have hh : zyin [(74, 4, 7), (74, 9, 9), (74, 14, 17), (77, 0, 7), (78, 0, 7)] a k = true := zyin_iff.mpr (by
        obtain ⟨rfl, n⟩ := n
        rcases n with n | n | n
        · exact ⟨(74, 4, 7), by simp, rfl, by dsimp only; omega, by dsimp only; omega⟩
        · exact ⟨(74, 9, 9), by simp, rfl, by dsimp only; omega, by dsimp only; omega⟩
        · exact ⟨(74, 14, 17), by simp, rfl, by dsimp only; omega, by dsimp only; omega⟩)
      have hz : zyin [(74, 4, 7), (74, 9, 9), (74, 14, 17), (77, 0, 7), (78, 0, 7)] a k = false := hz
      rw [hh] at hz
      cases hz
    · have hl := zyLnr hg n.1 (by omega)
      rw [hl] at hk
      have hh : zyin [(74, 4, 7), (74, 9, 9), (74, 14, 17), (77, 0, 7), (78, 0, 7)] a k = true := zyin_iff.mpr (by
        have hc : a = 77 ∨ a = 78 := by omega
        rcases hc with rfl | rfl
        · exact ⟨(77, 0, 7), by simp, rfl, Nat.zero_le _, by rw [if_neg (by decide), if_neg (by decide)] at hk; dsimp only; omega⟩
        · exact ⟨(78, 0, 7), by simp, rfl, Nat.zero_le _, by rw [if_neg (by decide), if_neg (by decide)] at hk; dsimp only; omega⟩)
      have hz : zyin [(74, 4, 7), (74, 9, 9), (74, 14, 17), (77, 0, 7), (78, 0, 7)] a k = false := hz
      rw [hh] at hz
      cases hz
theorem zyrefB (h1 : 1 ≤ r) (h2 : r ≤ 4) (h3 : 1 ≤ c) (h4 : c ≤ 5) : ∀ i, i < 66 → zyCo l (zymr r c) zyJf (zyir r c) i := by
  intro i
  induction i using Nat.strongRecOn with
  | ind i IH =>
    intro hi
    have IH' : ∀ d, d < i → zyCo l (zymr r c) zyJf (zyir r c) d := fun d hd => IH d hd (by omega)
    by_cases a20 : i < 20
    · exact zyrefA zyJf_r h1 h2 h3 h4 i a20
    by_cases e20 : i = 20
    · subst e20
      exact fun en me he hm => zyB20 h1 h2 h3 h4 he hm
    by_cases e21 : i = 21
    · subst e21
      exact fun en me he hm => zyB21 h1 h2 h3 h4 he hm
    by_cases e22 : i = 22
    · subst e22
      exact fun en me he hm => zyB22 h1 h2 h3 h4 he hm
    by_cases b23 : 23 ≤ i ∧ i < 42
    · exact zychk_ok (zychks_iff (zyAllP_iff zyrr23 h1 h2 h3 h4) i (by omega) (by omega)) zyJf_r.1 IH'
    by_cases b42 : 42 ≤ i ∧ i < 54
    · exact zychk_ok (zychks_iff (zyAllP_iff zyrr42 h1 h2 h3 h4) i (by omega) (by omega)) zyJf_r.1 IH'
    by_cases b54 : 54 ≤ i ∧ i < 58
    · exact zychk_ok (zychks_iff (zyAllP_iff zyrr54 h1 h2 h3 h4) i (by omega) (by omega)) zyJf_r.1 IH'
    by_cases b58 : 58 ≤ i ∧ i < 66
    · exact zychk_ok (zychks_iff (zyAllP_iff zyrr58 h1 h2 h3 h4) i (by omega) (by omega)) zyJf_r.1 IH'
    omega
end YHV
