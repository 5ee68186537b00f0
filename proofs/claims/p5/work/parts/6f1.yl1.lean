/-! they hold: the kernel runs them -/
theorem zylwc_r : zychks zymc zydc zylwt 22 2 = true := by decide +kernel
theorem zylwc_F : zychks zymc zydc zylwt 24 46 = true := by decide +kernel
theorem zylwc_A : zychks zymc zydc zylwt 70 46 = true := by decide +kernel
theorem zylwc_C : zychks zymc zydc zylwt 116 46 = true := by decide +kernel
theorem zylwc_B : zychks zymc zydc zylwt 162 1 = true := by decide +kernel
theorem zylwd {l : Launch} (hcl : ∀ i, i < 277 → zyCo l zymc zyJc zyic i) {i : Nat} (hi : i < 22) : zyCo l zymc zyJc zylwt i := by
  match i, hi with
  | 0, _ => exact hcl 11 (by decide)
  | 1, _ => exact hcl 12 (by decide)
  | 2, _ => exact hcl 14 (by decide)
  | 3, _ => exact hcl 16 (by decide)
  | 4, _ => exact hcl 18 (by decide)
  | 5, _ => exact hcl 19 (by decide)
  | 6, _ => exact hcl 20 (by decide)
  | 7, _ => exact hcl 21 (by decide)
  | 8, _ => exact hcl 23 (by decide)
  | 9, _ => exact hcl 24 (by decide)
  | 10, _ => exact hcl 13 (by decide)
  | 11, _ => exact hcl 15 (by decide)
  | 12, _ => exact hcl 17 (by decide)
  | 13, _ => exact hcl 22 (by decide)
  | 14, _ => exact hcl 25 (by decide)
  | 15, _ => exact hcl 29 (by decide)
  | 16, _ => exact hcl 30 (by decide)
  | 17, _ => exact hcl 31 (by decide)
  | 18, _ => exact hcl 32 (by decide)
  | 19, _ => exact hcl 33 (by decide)
  | 20, _ => exact hcl 28 (by decide)
  | 21, _ => exact hcl 36 (by decide)
  | n + 22, h => exact absurd h (by omega)
theorem zylwOK {l : Launch} (hcl : ∀ i, i < 277 → zyCo l zymc zyJc zyic i) : ∀ i, i < 163 → zyCo l zymc zyJc zylwt i := by
  intro i
  induction i using Nat.strongRecOn with
  | ind i IH =>
    intro hi
    have IH' : ∀ d, d < i → zyCo l zymc zyJc zylwt d := fun d hd => IH d hd (by omega)
    by_cases b0 : i < 22
    · exact zylwd hcl b0
    by_cases b1 : 22 ≤ i ∧ i < 24
    · exact zychk_ok (zychks_iff zylwc_r i (by omega) (by omega)) zyJc_p IH'
    by_cases b2 : 24 ≤ i ∧ i < 70
    · exact zychk_ok (zychks_iff zylwc_F i (by omega) (by omega)) zyJc_p IH'
    by_cases b3 : 70 ≤ i ∧ i < 116
    · exact zychk_ok (zychks_iff zylwc_A i (by omega) (by omega)) zyJc_p IH'
    by_cases b4 : 116 ≤ i ∧ i < 162
    · exact zychk_ok (zychks_iff zylwc_C i (by omega) (by omega)) zyJc_p IH'
    exact zychk_ok (zychks_iff zylwc_B i (by omega) (by omega)) zyJc_p IH'
