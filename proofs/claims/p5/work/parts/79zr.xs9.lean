/-! THE REFERENCE's readers: helps -/
section PB9
variable {T : Int → Int} {n p len b g : Int} {S : Int → Int}
theorem pBits_n {f : Nat} (hk : ¬ tKd T n p = 3) : pBits T n S g f p len b = .ok (p, uS (uS S (8 + g) b) (40 + g) len) := by
  cases f with
  | zero =>
    unfold pBits
    rw [if_neg hk]
  | succ f =>
    unfold pBits
    rw [if_neg hk]
theorem pBits_3 {f : Nat} (hk : tKd T n p = 3) (hn : ¬ (0 ≤ tNm T n p ∧ tNm T n p ≤ 1)) : pBits T n S g f p len b = .error (3, tFr T n p) := by
  cases f with
  | zero =>
    unfold pBits
    rw [if_pos hk, if_neg hn]
  | succ f =>
    unfold pBits
    rw [if_pos hk, if_neg hn]
theorem pBits_6 (hk : tKd T n p = 3) (hn : 0 ≤ tNm T n p ∧ tNm T n p ≤ 1) (hl : 4 ≤ len) : pBits T n S g (4 - len).toNat p len b = .error (6, tFr T n p) := by
  rw [show (4 - len).toNat = 0 by omega]
  unfold pBits
  rw [if_pos hk, if_pos hn]
theorem pBits_s (hk : tKd T n p = 3) (hn : 0 ≤ tNm T n p ∧ tNm T n p ≤ 1) (hl : len < 4) : pBits T n S g (4 - len).toNat p len b = pBits T n S g (4 - (len + 1)).toNat (tNx T n p) (len + 1) (xop 7 b (xop 8 (tNm T n p) len)) := by
  rw [show (4 - len).toNat = (4 - (len + 1)).toNat + 1 by omega]
  show (if tKd T n p = 3 then _ else _) = _
  rw [if_pos hk, if_pos hn]
end PB9
theorem xop_0b {b : Int} (h : b = 0 ∨ b = 1) : xop 7 0 (xop 8 b 0) = b := by
  rcases h with rfl | rfl <;> decide +kernel
theorem gN_of {r c A B m1 m2 : Int} (hr : 1 ≤ r ∧ r ≤ 4) (hc : 1 ≤ c ∧ c ≤ 5) (hA : A = c - 1) (hB : B = r - 1) (h1 : -2147483648 ≤ r * A → r * A < 2147483648 → m1 = r * A) (h2 : -2147483648 ≤ B * c → B * c < 2147483648 → m2 = B * c) : m1 + m2 = gN r c ∧ 0 ≤ m1 ∧ m1 ≤ 16 ∧ 0 ≤ m2 ∧ m2 ≤ 15 ∧ gN r c ≤ 31 := by
  subst hA
  subst hB
  unfold gN
  have : r = 1 ∨ r = 2 ∨ r = 3 ∨ r = 4 := by omega
  rcases this with rfl | rfl | rfl | rfl <;> omega
theorem sN_of {r c A m2 : Int} (hr : 1 ≤ r ∧ r ≤ 4) (hc : 1 ≤ c ∧ c ≤ 5) (hA : A = 4 * r) (h2 : -2147483648 ≤ A * c → A * c < 2147483648 → m2 = A * c) : m2 = sN r c ∧ 4 ≤ m2 ∧ m2 ≤ 80 := by
  subst hA
  unfold sN
  have : r = 1 ∨ r = 2 ∨ r = 3 ∨ r = 4 := by omega
  rcases this with rfl | rfl | rfl | rfl <;> omega
theorem gN_r {r c : Int} (hr : 1 ≤ r ∧ r ≤ 4) (hc : 1 ≤ c ∧ c ≤ 5) : 0 ≤ gN r c ∧ gN r c ≤ 31 := by
  unfold gN
  have : r = 1 ∨ r = 2 ∨ r = 3 ∨ r = 4 := by omega
  rcases this with rfl | rfl | rfl | rfl <;> omega
theorem sN_r {r c : Int} (hr : 1 ≤ r ∧ r ≤ 4) (hc : 1 ≤ c ∧ c ≤ 5) : 4 ≤ sN r c ∧ sN r c ≤ 80 := by
  unfold sN
  have : r = 1 ∨ r = 2 ∨ r = 3 ∨ r = 4 := by omega
  rcases this with rfl | rfl | rfl | rfl <;> omega
theorem xRD_k {T : Int → Int} {n p : Int} {E E2 : zyEm} {fp : zyR} (h : xRD T n p E) (hf : xFr fp E E2) (h1 : zyin fp 74 38 = false) (h2 : zyin fp 74 39 = false) (h3 : zyin fp 74 40 = false) (h4 : zyin fp 74 41 = false) (h5 : zyin fp 74 43 = false) : xRD T n p E2 := by
  obtain ⟨g1, g2, g3, g4, g5, g6⟩ := h
  have e1 : xE E2 74 38 = xE E 74 38 := xFr_E hf h1
  have e2 : xE E2 74 39 = xE E 74 39 := xFr_E hf h2
  have e3 : xE E2 74 40 = xE E 74 40 := xFr_E hf h3
  have e4 : xE E2 74 41 = xE E 74 41 := xFr_E hf h4
  have e5 : E2 74 43 = E 74 43 := hf 74 43 h5
  unfold xRD
  rw [e1, e2, e3, e4, e5]
  exact ⟨g1, g2, g3, g4, g5, g6⟩
theorem xRD_e {T : Int → Int} {n p : Int} {E E2 : zyEm} (h : xRD T n p E) (hf : ∀ k, k < 50 → E2 74 k = E 74 k) : xRD T n p E2 := by
  obtain ⟨g1, g2, g3, g4, g5, g6⟩ := h
  have e1 : xE E2 74 38 = xE E 74 38 := by unfold xE; rw [hf _ (by decide)]
  have e2 : xE E2 74 39 = xE E 74 39 := by unfold xE; rw [hf _ (by decide)]
  have e3 : xE E2 74 40 = xE E 74 40 := by unfold xE; rw [hf _ (by decide)]
  have e4 : xE E2 74 41 = xE E 74 41 := by unfold xE; rw [hf _ (by decide)]
  have e5 : E2 74 43 = E 74 43 := hf 43 (by decide)
  unfold xRD
  rw [e1, e2, e3, e4, e5]
  exact ⟨g1, g2, g3, g4, g5, g6⟩
theorem xTm_e {E E2 : zyEm} {r : Int} {x : Nat → Int} (h : xΨtm x E E2 r) (hw : ¬ xE E 74 36 = 0) : xE E2 74 36 = xE E 74 36 ∧ xE E2 74 37 = xE E 74 37 := by
  unfold xΨtm at h
  rw [if_neg hw] at h
  exact h
theorem xTk_e {E E2 : zyEm} {r : Int} {x : Nat → Int} (h : xΨtk x E E2 r) (hw : ¬ xE E 74 36 = 0) : xE E2 74 36 = xE E 74 36 ∧ xE E2 74 37 = xE E 74 37 := by
  unfold xΨtk at h
  rw [if_neg hw] at h
  exact h
theorem xEr_1 {E : zyEm} {R : pR} (h : xEr E R) (hw : xE E 74 36 = 0) : False := by
  have := h.1
  omega
