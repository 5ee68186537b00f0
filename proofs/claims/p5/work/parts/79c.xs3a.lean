/-! THE CLASS's plans as cells: what is told (printed by m7.py) -/
theorem xAb0_sk {E E2 : zyEm} {S : Int → Int} {g b : Int} (hg : 0 ≤ g ∧ g < 31) (h1 : xE E2 12 g = b) (h2 : ∀ k, 0 ≤ k → ¬ k = g → xE E2 12 k = xE E 12 k) (h : xAb0 E S) (hf : xFr [(35, 2, 3), (35, 5, 8), (12, 0, 30)] E E2) : xAb0 E2 (uS S (72 + g) b) := by
  obtain ⟨a0, a1, a2, a3, a4, a5, a6⟩ := h
  have u : ∀ j, ¬ j = 72 + g → uS S (72 + g) b j = S j := fun j h90 => by rw [uS_n h90]
  refine ⟨by rw [u (0) (by omega), u (1) (by omega), u (2) (by omega), u (5) (by omega)]; exact a0, ?_, ?_, ?_, ?_, ?_, ?_⟩
  · rw [u (0) (by omega), u (1) (by omega), xFr_E hf rfl, xFr_E hf rfl, xFr_E hf rfl, xFr_E hf rfl]
    exact a1
  · intro s s0 s1
    rw [u (0) (by omega), u (1) (by omega)] at s1 ⊢
    rw [xFr_E hf rfl]
    exact a2 s s0 s1
  · rw [u (2) (by omega), xFr_E hf rfl]
    refine ⟨a3.1, fun k k0 k1 => ?_⟩
    rw [u (136 + k) (by omega), u (152 + k) (by omega), (show xE E2 14 k = xE E 14 k from xFr_E hf rfl), (show xE E2 15 k = xE E 15 k from xFr_E hf rfl)]
    exact a3.2 k k0 k1
  · intro k k0 k1
    have w := a4 k k0 k1
    rw [u (8 + k) (by omega), u (40 + k) (by omega), u (104 + k) (by omega), (show xE E2 10 k = xE E 10 k from xFr_E hf rfl), (show xE E2 11 k = xE E 11 k from xFr_E hf rfl), (show xE E2 13 k = xE E 13 k from xFr_E hf rfl)]
    by_cases e : k = g
    · subst e
      rw [uS_e rfl, h1]
      exact ⟨w.1, w.2.1, rfl, w.2.2.2⟩
    · rw [u (72 + k) (by omega), h2 k k0 e]
      exact w
  · rw [u (5) (by omega), (show xE E2 1 8 = xE E 1 8 from xFr_E hf rfl), (show xE E2 16 1 = xE E 16 1 from xFr_E hf rfl)]
    exact a5
  · intro k k0 k1
    rw [u (5) (by omega)] at k1
    rw [u (460 + k) (by omega), (show xE E2 17 k = xE E 17 k from xFr_E hf rfl)]
    exact a6 k k0 k1
theorem xAb0_fr {E E2 : zyEm} {S : Int → Int} {g b : Int} (hg : 0 ≤ g ∧ g < 31) (h1 : xE E2 13 g = b) (h2 : ∀ k, 0 ≤ k → ¬ k = g → xE E2 13 k = xE E 13 k) (h : xAb0 E S) (hf : xFr [(35, 2, 3), (35, 5, 8), (13, 0, 30)] E E2) : xAb0 E2 (uS S (104 + g) b) := by
  obtain ⟨a0, a1, a2, a3, a4, a5, a6⟩ := h
  have u : ∀ j, ¬ j = 104 + g → uS S (104 + g) b j = S j := fun j h90 => by rw [uS_n h90]
  refine ⟨by rw [u (0) (by omega), u (1) (by omega), u (2) (by omega), u (5) (by omega)]; exact a0, ?_, ?_, ?_, ?_, ?_, ?_⟩
  · rw [u (0) (by omega), u (1) (by omega), xFr_E hf rfl, xFr_E hf rfl, xFr_E hf rfl, xFr_E hf rfl]
    exact a1
  · intro s s0 s1
    rw [u (0) (by omega), u (1) (by omega)] at s1 ⊢
    rw [xFr_E hf rfl]
    exact a2 s s0 s1
  · rw [u (2) (by omega), xFr_E hf rfl]
    refine ⟨a3.1, fun k k0 k1 => ?_⟩
    rw [u (136 + k) (by omega), u (152 + k) (by omega), (show xE E2 14 k = xE E 14 k from xFr_E hf rfl), (show xE E2 15 k = xE E 15 k from xFr_E hf rfl)]
    exact a3.2 k k0 k1
  · intro k k0 k1
    have w := a4 k k0 k1
    rw [u (8 + k) (by omega), u (40 + k) (by omega), u (72 + k) (by omega), (show xE E2 10 k = xE E 10 k from xFr_E hf rfl), (show xE E2 11 k = xE E 11 k from xFr_E hf rfl), (show xE E2 12 k = xE E 12 k from xFr_E hf rfl)]
    by_cases e : k = g
    · subst e
      rw [uS_e rfl, h1]
      exact ⟨w.1, w.2.1, w.2.2.1, rfl⟩
    · rw [u (104 + k) (by omega), h2 k k0 e]
      exact w
  · rw [u (5) (by omega), (show xE E2 1 8 = xE E 1 8 from xFr_E hf rfl), (show xE E2 16 1 = xE E 16 1 from xFr_E hf rfl)]
    exact a5
  · intro k k0 k1
    rw [u (5) (by omega)] at k1
    rw [u (460 + k) (by omega), (show xE E2 17 k = xE E 17 k from xFr_E hf rfl)]
    exact a6 k k0 k1
theorem xAb0_go {E E2 : zyEm} {S : Int → Int} {g b : Int} (hg : 0 ≤ g ∧ g < 8) (h1 : xE E2 15 g = b) (h2 : ∀ k, 0 ≤ k → ¬ k = g → xE E2 15 k = xE E 15 k) (h : xAb0 E S) (hf : xFr [(35, 2, 3), (35, 5, 8), (15, 0, 7)] E E2) : xAb0 E2 (uS S (152 + g) b) := by
  obtain ⟨a0, a1, a2, a3, a4, a5, a6⟩ := h
  have u : ∀ j, ¬ j = 152 + g → uS S (152 + g) b j = S j := fun j h90 => by rw [uS_n h90]
  refine ⟨by rw [u (0) (by omega), u (1) (by omega), u (2) (by omega), u (5) (by omega)]; exact a0, ?_, ?_, ?_, ?_, ?_, ?_⟩
  · rw [u (0) (by omega), u (1) (by omega), xFr_E hf rfl, xFr_E hf rfl, xFr_E hf rfl, xFr_E hf rfl]
    exact a1
  · intro s s0 s1
    rw [u (0) (by omega), u (1) (by omega)] at s1 ⊢
    rw [xFr_E hf rfl]
    exact a2 s s0 s1
  · rw [u (2) (by omega), xFr_E hf rfl]
    refine ⟨a3.1, fun k k0 k1 => ?_⟩
    have w := a3.2 k k0 k1
    rw [u (136 + k) (by omega), (show xE E2 14 k = xE E 14 k from xFr_E hf rfl)]
    by_cases e : k = g
    · subst e
      rw [uS_e rfl, h1]
      exact ⟨w.1, rfl⟩
    · rw [u (152 + k) (by omega), h2 k k0 e]
      exact w
  · intro k k0 k1
    rw [u (8 + k) (by omega), u (40 + k) (by omega), u (72 + k) (by omega), u (104 + k) (by omega), (show xE E2 10 k = xE E 10 k from xFr_E hf rfl), (show xE E2 11 k = xE E 11 k from xFr_E hf rfl), (show xE E2 12 k = xE E 12 k from xFr_E hf rfl), (show xE E2 13 k = xE E 13 k from xFr_E hf rfl)]
    exact a4 k k0 k1
  · rw [u (5) (by omega), (show xE E2 1 8 = xE E 1 8 from xFr_E hf rfl), (show xE E2 16 1 = xE E 16 1 from xFr_E hf rfl)]
    exact a5
  · intro k k0 k1
    rw [u (5) (by omega)] at k1
    rw [u (460 + k) (by omega), (show xE E2 17 k = xE E 17 k from xFr_E hf rfl)]
    exact a6 k k0 k1
theorem xAb0_nb {E E2 : zyEm} {S : Int → Int} {s : Int} (hb : 0 ≤ S 2 ∧ S 2 ≤ 7) (h0 : xE E2 1 5 = S 2 + 1) (h1 : xE E2 14 (S 2) = s) (h2 : ∀ k, 0 ≤ k → ¬ k = S 2 → xE E2 14 k = xE E 14 k) (h3 : xE E2 15 (S 2) = -1) (h4 : ∀ k, 0 ≤ k → ¬ k = S 2 → xE E2 15 k = xE E 15 k) (h : xAb0 E S) (hf : xFr [(35, 2, 3), (35, 5, 8), (1, 5, 5), (14, 0, 7), (15, 0, 7)] E E2) : xAb0 E2 (uS (uS (uS (uS S (136 + S 2) s) (144 + S 2) s) (152 + S 2) (-1)) 2 (S 2 + 1)) := by
  obtain ⟨a0, a1, a2, a3, a4, a5, a6⟩ := h
  have u : ∀ j, ¬ j = 136 + S 2 → ¬ j = 144 + S 2 → ¬ j = 152 + S 2 → ¬ j = 2 → uS (uS (uS (uS S (136 + S 2) s) (144 + S 2) s) (152 + S 2) (-1)) 2 (S 2 + 1) j = S j := fun j h90 h91 h92 h93 => by rw [uS_n h93, uS_n h92, uS_n h91, uS_n h90]
  refine ⟨by rw [u (0) (by omega) (by omega) (by omega) (by omega), u (1) (by omega) (by omega) (by omega) (by omega), uS_e rfl, u (5) (by omega) (by omega) (by omega) (by omega)]; omega, ?_, ?_, ?_, ?_, ?_, ?_⟩
  · rw [u (0) (by omega) (by omega) (by omega) (by omega), u (1) (by omega) (by omega) (by omega) (by omega), xFr_E hf rfl, xFr_E hf rfl, xFr_E hf rfl, xFr_E hf rfl]
    exact a1
  · intro s s0 s1
    rw [u (0) (by omega) (by omega) (by omega) (by omega), u (1) (by omega) (by omega) (by omega) (by omega)] at s1 ⊢
    rw [xFr_E hf rfl]
    exact a2 s s0 s1
  · rw [uS_e rfl]
    refine ⟨h0, fun k k0 k1 => ?_⟩
    by_cases e : k = S 2
    · subst e
      rw [uS_n (by omega), uS_n (by omega), uS_n (by omega), uS_e rfl, uS_n (by omega), uS_e rfl]
      exact ⟨h1, h3⟩
    · have w := a3.2 k k0 (by omega)
      rw [u (136 + k) (by omega) (by omega) (by omega) (by omega), u (152 + k) (by omega) (by omega) (by omega) (by omega), h2 k k0 e, h4 k k0 e]
      exact w
  · intro k k0 k1
    rw [u (8 + k) (by omega) (by omega) (by omega) (by omega), u (40 + k) (by omega) (by omega) (by omega) (by omega), u (72 + k) (by omega) (by omega) (by omega) (by omega), u (104 + k) (by omega) (by omega) (by omega) (by omega), (show xE E2 10 k = xE E 10 k from xFr_E hf rfl), (show xE E2 11 k = xE E 11 k from xFr_E hf rfl), (show xE E2 12 k = xE E 12 k from xFr_E hf rfl), (show xE E2 13 k = xE E 13 k from xFr_E hf rfl)]
    exact a4 k k0 k1
  · rw [u (5) (by omega) (by omega) (by omega) (by omega), (show xE E2 1 8 = xE E 1 8 from xFr_E hf rfl), (show xE E2 16 1 = xE E 16 1 from xFr_E hf rfl)]
    exact a5
  · intro k k0 k1
    rw [u (5) (by omega) (by omega) (by omega) (by omega)] at k1
    rw [u (460 + k) (by omega) (by omega) (by omega) (by omega), (show xE E2 17 k = xE E 17 k from xFr_E hf rfl)]
    exact a6 k k0 k1
theorem xAb0_wd {E E2 : zyEm} {S : Int → Int} {x : Int} (hs : 0 ≤ S 5 ∧ S 5 < 60) (h0 : xE E2 16 1 = S 5 + 1) (h1 : xE E2 17 (S 5) = x) (h2 : ∀ k, 0 ≤ k → ¬ k = S 5 → xE E2 17 k = xE E 17 k) (h8 : xE E2 1 8 = 1) (h : xAb0 E S) (hf : xFr [(35, 2, 3), (35, 5, 8), (1, 8, 8), (16, 1, 1), (17, 0, 59)] E E2) : xAb0 E2 (uS (uS S (460 + S 5) x) 5 (S 5 + 1)) := by
  obtain ⟨a0, a1, a2, a3, a4, a5, a6⟩ := h
  have u : ∀ j, ¬ j = 460 + S 5 → ¬ j = 5 → uS (uS S (460 + S 5) x) 5 (S 5 + 1) j = S j := fun j h90 h91 => by rw [uS_n h91, uS_n h90]
  refine ⟨by rw [u (0) (by omega) (by omega), u (1) (by omega) (by omega), u (2) (by omega) (by omega), uS_e rfl]; omega, ?_, ?_, ?_, ?_, ?_, ?_⟩
  · rw [u (0) (by omega) (by omega), u (1) (by omega) (by omega), xFr_E hf rfl, xFr_E hf rfl, xFr_E hf rfl, xFr_E hf rfl]
    exact a1
  · intro s s0 s1
    rw [u (0) (by omega) (by omega), u (1) (by omega) (by omega)] at s1 ⊢
    rw [xFr_E hf rfl]
    exact a2 s s0 s1
  · rw [u (2) (by omega) (by omega), xFr_E hf rfl]
    refine ⟨a3.1, fun k k0 k1 => ?_⟩
    rw [u (136 + k) (by omega) (by omega), u (152 + k) (by omega) (by omega), (show xE E2 14 k = xE E 14 k from xFr_E hf rfl), (show xE E2 15 k = xE E 15 k from xFr_E hf rfl)]
    exact a3.2 k k0 k1
  · intro k k0 k1
    rw [u (8 + k) (by omega) (by omega), u (40 + k) (by omega) (by omega), u (72 + k) (by omega) (by omega), u (104 + k) (by omega) (by omega), (show xE E2 10 k = xE E 10 k from xFr_E hf rfl), (show xE E2 11 k = xE E 11 k from xFr_E hf rfl), (show xE E2 12 k = xE E 12 k from xFr_E hf rfl), (show xE E2 13 k = xE E 13 k from xFr_E hf rfl)]
    exact a4 k k0 k1
  · rw [uS_e rfl]
    exact Or.inr ⟨h8, h0.symm⟩
  · intro k k0 k1
    rw [uS_e rfl] at k1
    by_cases e : k = S 5
    · subst e
      rw [uS_n (by omega), uS_e rfl]
      exact h1
    · rw [u (460 + k) (by omega) (by omega), h2 k k0 e]
      exact a6 k k0 (by omega)
theorem xAb0_w0 {E E2 : zyEm} {S : Int → Int} (h8 : xE E2 1 8 = 1) (h0 : xE E2 16 1 = 0) (h : xAb0 E S) (hf : xFr [(35, 2, 3), (35, 5, 8), (1, 8, 8), (16, 1, 1), (17, 0, 59)] E E2) : xAb0 E2 (uS S 5 0) := by
  obtain ⟨a0, a1, a2, a3, a4, a5, a6⟩ := h
  have u : ∀ j, ¬ j = 5 → uS S 5 0 j = S j := fun j h90 => by rw [uS_n h90]
  refine ⟨by rw [u (0) (by omega), u (1) (by omega), u (2) (by omega), uS_e rfl]; omega, ?_, ?_, ?_, ?_, ?_, ?_⟩
  · rw [u (0) (by omega), u (1) (by omega), xFr_E hf rfl, xFr_E hf rfl, xFr_E hf rfl, xFr_E hf rfl]
    exact a1
  · intro s s0 s1
    rw [u (0) (by omega), u (1) (by omega)] at s1 ⊢
    rw [xFr_E hf rfl]
    exact a2 s s0 s1
  · rw [u (2) (by omega), xFr_E hf rfl]
    refine ⟨a3.1, fun k k0 k1 => ?_⟩
    rw [u (136 + k) (by omega), u (152 + k) (by omega), (show xE E2 14 k = xE E 14 k from xFr_E hf rfl), (show xE E2 15 k = xE E 15 k from xFr_E hf rfl)]
    exact a3.2 k k0 k1
  · intro k k0 k1
    rw [u (8 + k) (by omega), u (40 + k) (by omega), u (72 + k) (by omega), u (104 + k) (by omega), (show xE E2 10 k = xE E 10 k from xFr_E hf rfl), (show xE E2 11 k = xE E 11 k from xFr_E hf rfl), (show xE E2 12 k = xE E 12 k from xFr_E hf rfl), (show xE E2 13 k = xE E 13 k from xFr_E hf rfl)]
    exact a4 k k0 k1
  · rw [uS_e rfl]
    exact Or.inr ⟨h8, h0.symm⟩
  · intro k k0 k1
    rw [uS_e rfl] at k1
    omega
