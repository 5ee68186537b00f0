/-! THE CLASS's plans as cells (printed by ms2.py) -/
section XTN
variable {T : Int → Int} {n p lo hi : Int} {E2 : zyEm} {r : Int}
theorem xtn_1 (h : xTN T n p lo hi E2 r) (hr : ¬ r = 0) : r = 1 ∧ tKd T n p = 3 ∧ lo ≤ tNm T n p ∧ tNm T n p ≤ hi ∧ xE E2 35 6 = tNx T n p ∧ xE E2 35 8 = tNm T n p ∧ ∀ k, pNum T n p lo hi k = k (xE E2 35 8) (xE E2 35 6) := by
  unfold xTN at h
  have h := h.2
  split at h
  · rename_i h1
    split at h
    · rename_i h2
      exact ⟨h.1, h1, h2.1, h2.2, h.2.1, h.2.2, fun k => by unfold pNum; rw [if_pos h1, if_pos h2, h.2.1, h.2.2]⟩
    · exact absurd h.1 hr
  · exact absurd h.1 hr
theorem xtn_0 (h : xTN T n p lo hi E2 r) (hr : r = 0) : ∀ k, pNum T n p lo hi k = .error (xE E2 35 2, xE E2 35 3) := by
  intro k
  unfold xTN at h
  have h := h.2
  unfold pNum
  split at h
  · rename_i h1
    split at h
    · omega
    · rename_i h2
      rw [if_pos h1, if_neg h2, h.2.1, h.2.2]
  · rename_i h1
    rw [if_neg h1, h.2.1, h.2.2]
theorem xts_1 (h : xTS T n p E2 r) (hr : ¬ r = 0) (S : Int → Int) : r = 1 ∧ tKd T n p = 5 ∧ pSem T n p S = .ok (xE E2 35 6, S) := by
  unfold xTS at h
  unfold pSem
  split at h
  · rename_i h1
    rw [if_pos h1, h.2]
    exact ⟨h.1, h1, rfl⟩
  · exact absurd h.1 hr
theorem xts_0 (h : xTS T n p E2 r) (hr : r = 0) (S : Int → Int) : pSem T n p S = .error (xE E2 35 2, xE E2 35 3) := by
  unfold xTS at h
  unfold pSem
  split at h
  · omega
  · rename_i h1
    rw [if_neg h1, h.2.1, h.2.2]
theorem xtn_r (h : xTN T n p lo hi E2 r) : r = 0 ∨ r = 1 := by
  unfold xTN at h
  have h := h.2
  split at h
  · split at h
    · exact Or.inr h.1
    · exact Or.inl h.1
  · exact Or.inl h.1
theorem xts_r (h : xTS T n p E2 r) : r = 0 ∨ r = 1 := by
  unfold xTS at h
  split at h
  · exact Or.inr h.1
  · exact Or.inl h.1
theorem xFr_n {E E2 : zyEm} (h : xFr [] E E2) : E2 = E := by
  funext a k
  exact h a k rfl
end XTN
/-- plan at place 1 -/
def xAb0 (E : zyEm) (S : Int → Int) : Prop := (1 ≤ S 0 ∧ S 0 ≤ 4 ∧ 1 ≤ S 1 ∧ S 1 ≤ 5 ∧ 0 ≤ S 2 ∧ S 2 ≤ 8 ∧ S 5 ≤ 60) ∧ (xE E 2 0 = S 0 ∧ xE E 2 1 = S 1 ∧ xE E 2 2 = sN (S 0) (S 1) ∧ xE E 2 3 = gN (S 0) (S 1)) ∧ (∀ s, 0 ≤ s → s < sN (S 0) (S 1) → xE E 4 s = pF (S 0) (S 1) s) ∧ (xE E 1 5 = S 2 ∧ ∀ b, 0 ≤ b → b < S 2 → xE E 14 b = S (136 + b) ∧ xE E 15 b = S (152 + b)) ∧ (∀ g, 0 ≤ g → g < 31 → xE E 10 g = S (8 + g) ∧ xE E 11 g = S (40 + g) ∧ xE E 12 g = S (72 + g) ∧ xE E 13 g = S (104 + g)) ∧ ((xE E 1 8 = 0 ∧ S 5 = -1) ∨ (xE E 1 8 = 1 ∧ S 5 = xE E 16 1)) ∧ ∀ k, 0 ≤ k → k < S 5 → xE E 17 k = S (460 + k)
/-- what a reader answers -/
def xOut0 (R : pR) (E2 : zyEm) (r : Int) : Prop := match R with
  | .ok (p, S) => r = 1 ∧ xE E2 35 6 = p ∧ xAb0 E2 S
  | .error (w, a) => r = 0 ∧ xE E2 35 2 = w ∧ xE E2 35 3 = a
theorem xOut0_e {w a r : Int} {E2 : zyEm} {k : Int → (Int → Int) → pR} (h1 : r = 0) (h2 : xE E2 35 2 = w) (h3 : xE E2 35 3 = a) : xOut0 (pBind (.error (w, a)) k) E2 r := ⟨h1, h2, h3⟩
theorem xOut0_f {w a r : Int} {E2 : zyEm} (h1 : r = 0) (h2 : xE E2 35 2 = w) (h3 : xE E2 35 3 = a) : xOut0 (.error (w, a)) E2 r := ⟨h1, h2, h3⟩
theorem xOut0_k {p r : Int} {S : Int → Int} {E2 : zyEm} (h1 : r = 1) (h2 : xE E2 35 6 = p) (h3 : xAb0 E2 S) : xOut0 (.ok (p, S)) E2 r := ⟨h1, h2, h3⟩
def xΦrd0 (_ : Nat → Int) (E : zyEm) : Prop := xE E 35 6 ≤ xE E 35 4 ∧ ∃ S, xAb0 E S
/-- plan at place 18 -/
def xAb17 (E : zyEm) (S : Int → Int) : Prop := (1 ≤ S 0 ∧ S 0 ≤ 4 ∧ 1 ≤ S 1 ∧ S 1 ≤ 5 ∧ 0 ≤ S 2 ∧ S 2 ≤ 8 ∧ S 5 ≤ 60) ∧ (xE E 19 0 = S 0 ∧ xE E 19 1 = S 1 ∧ xE E 19 2 = sN (S 0) (S 1) ∧ xE E 19 3 = gN (S 0) (S 1)) ∧ (∀ s, 0 ≤ s → s < sN (S 0) (S 1) → xE E 21 s = pF (S 0) (S 1) s) ∧ (xE E 18 5 = S 2 ∧ ∀ b, 0 ≤ b → b < S 2 → xE E 31 b = S (136 + b) ∧ xE E 32 b = S (152 + b)) ∧ (∀ g, 0 ≤ g → g < 31 → xE E 27 g = S (8 + g) ∧ xE E 28 g = S (40 + g) ∧ xE E 29 g = S (72 + g) ∧ xE E 30 g = S (104 + g)) ∧ ((xE E 18 8 = 0 ∧ S 5 = -1) ∨ (xE E 18 8 = 1 ∧ S 5 = xE E 33 1)) ∧ ∀ k, 0 ≤ k → k < S 5 → xE E 34 k = S (460 + k)
/-- what a reader answers -/
def xOut17 (R : pR) (E2 : zyEm) (r : Int) : Prop := match R with
  | .ok (p, S) => r = 1 ∧ xE E2 35 6 = p ∧ xAb17 E2 S
  | .error (w, a) => r = 0 ∧ xE E2 35 2 = w ∧ xE E2 35 3 = a
theorem xOut17_e {w a r : Int} {E2 : zyEm} {k : Int → (Int → Int) → pR} (h1 : r = 0) (h2 : xE E2 35 2 = w) (h3 : xE E2 35 3 = a) : xOut17 (pBind (.error (w, a)) k) E2 r := ⟨h1, h2, h3⟩
theorem xOut17_f {w a r : Int} {E2 : zyEm} (h1 : r = 0) (h2 : xE E2 35 2 = w) (h3 : xE E2 35 3 = a) : xOut17 (.error (w, a)) E2 r := ⟨h1, h2, h3⟩
theorem xOut17_k {p r : Int} {S : Int → Int} {E2 : zyEm} (h1 : r = 1) (h2 : xE E2 35 6 = p) (h3 : xAb17 E2 S) : xOut17 (.ok (p, S)) E2 r := ⟨h1, h2, h3⟩
def xΦrd17 (_ : Nat → Int) (E : zyEm) : Prop := xE E 35 6 ≤ xE E 35 4 ∧ ∃ S, xAb17 E S
