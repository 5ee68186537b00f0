/-! ALL CONTRACTS OF THE CLASS, but for what its printer's write() promises (3, 4), which is yet to be shown -/
theorem zyclass {l : Launch} (h3 : zyCo l zymc zyJc zyic 3) (h4 : zyCo l zymc zyJc zyic 4) : ∀ i, i < 277 → zyCo l zymc zyJc zyic i := by
  intro i
  induction i using Nat.strongRecOn with
  | ind i IH =>
    intro hi
    have IH' : ∀ d, d < i → zyCo l zymc zyJc zyic d := fun d hd => IH d hd (by omega)
    by_cases e0 : i = 0
    · subst e0
      exact fun en me he hm => zyhand_lc he hm
    by_cases e1 : i = 1
    · subst e1
      exact fun en me he hm => zybuild (fr := 2) (Or.inl rfl) he hm
    by_cases e2 : i = 2
    · subst e2
      exact fun en me he hm => zybuild (fr := 19) (Or.inr rfl) he hm
    by_cases e3 : i = 3
    · subst e3
      exact h3
    by_cases e4 : i = 4
    · subst e4
      exact h4
    by_cases e62 : i = 62
    · subst e62
      exact fun en me he hm => zyCon_or (IH' 60 (by omega) en me he hm) (IH' 61 (by omega) en me he hm) (fun B AsV h => zyhalves h)
    by_cases b5 : 5 ≤ i ∧ i < 25
    · exact zychk_ok (zychks_iff zyrc5 i (by omega) (by omega)) zyJc_p IH'
    by_cases b25 : 25 ≤ i ∧ i < 26
    · exact zychk_ok (zychks_iff zyrc25 i (by omega) (by omega)) zyJc_p IH'
    by_cases b26 : 26 ≤ i ∧ i < 33
    · exact zychk_ok (zychks_iff zyrc26 i (by omega) (by omega)) zyJc_p IH'
    by_cases b33 : 33 ≤ i ∧ i < 34
    · exact zychk_ok (zychks_iff zyrc33 i (by omega) (by omega)) zyJc_p IH'
    by_cases b34 : 34 ≤ i ∧ i < 54
    · exact zychk_ok (zychks_iff zyrc34 i (by omega) (by omega)) zyJc_p IH'
    by_cases b54 : 54 ≤ i ∧ i < 55
    · exact zychk_ok (zychks_iff zyrc54 i (by omega) (by omega)) zyJc_p IH'
    by_cases b55 : 55 ≤ i ∧ i < 62
    · exact zychk_ok (zychks_iff zyrc55 i (by omega) (by omega)) zyJc_p IH'
    by_cases b63 : 63 ≤ i ∧ i < 85
    · exact zychk_ok (zychks_iff zyrc63 i (by omega) (by omega)) zyJc_p IH'
    by_cases b85 : 85 ≤ i ∧ i < 106
    · exact zychk_ok (zychks_iff zyrc85 i (by omega) (by omega)) zyJc_p IH'
    by_cases b106 : 106 ≤ i ∧ i < 189
    · exact zychk_ok (zychks_iff zyrc106 i (by omega) (by omega)) zyJc_p IH'
    by_cases b189 : 189 ≤ i ∧ i < 201
    · exact zychk_ok (zychks_iff zyrc189 i (by omega) (by omega)) zyJc_p IH'
    by_cases b201 : 201 ≤ i ∧ i < 212
    · exact zychk_ok (zychks_iff zyrc201 i (by omega) (by omega)) zyJc_p IH'
    by_cases b212 : 212 ≤ i ∧ i < 223
    · exact zychk_ok (zychks_iff zyrc212 i (by omega) (by omega)) zyJc_p IH'
    by_cases b223 : 223 ≤ i ∧ i < 234
    · exact zychk_ok (zychks_iff zyrc223 i (by omega) (by omega)) zyJc_p IH'
    by_cases b234 : 234 ≤ i ∧ i < 245
    · exact zychk_ok (zychks_iff zyrc234 i (by omega) (by omega)) zyJc_p IH'
    by_cases b245 : 245 ≤ i ∧ i < 270
    · exact zychk_ok (zychks_iff zyrc245 i (by omega) (by omega)) zyJc_p IH'
    by_cases b270 : 270 ≤ i ∧ i < 277
    · exact zychk_ok (zychks_iff zyrc270 i (by omega) (by omega)) zyJc_p IH'
    omega
theorem zyclassA {l : Launch} : ∀ i, i < 277 → zyCo l zymc zyJc zyic i := zyclass zyw3 zyw4
