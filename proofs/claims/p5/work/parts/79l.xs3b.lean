/-! THE CLASS's plans as cells: what is told (printed by m7.py) -/
theorem xAb17_sk {E E2 : zyEm} {S : Int → Int} {g b : Int} (hg : 0 ≤ g ∧ g < 31) (h1 : xE E2 29 g = b) (h2 : ∀ k, 0 ≤ k → ¬ k = g → xE E2 29 k = xE E 29 k) (h : xAb17 E S) (hf : xFr [(35, 2, 3), (35, 5, 8), (29, 0, 30)] E E2) : xAb17 E2 (uS S (72 + g) b) := by
  obtain ⟨a0, a1, a2, a3, a4, a5, a6⟩ := h
  have u : ∀ j, ¬ j = 72 + g → uS S (72 + g) b j = S j := fun j h90 => by rw [uS_n h90]
  refine ⟨by rw [u (0) (by omega), u (1) (by omega), u (2) (by omega), u (5) (by omega)]; exact a0, ?_, ?_, ?_, ?_, ?_, ?_⟩
  · rw [u (0) (by omega), u (1) (by omega), xFr_E hf rfl, xFr_E hf rfl, xFr_E hf rfl, xFr_E hf rfl]
    exact a1
  · intro s s0 s1
    rw [u (0) (by omega), u (1) (by omega)] at s1 ⊢
    rw [xFr_E hf rfl]
    exact a2 s s0 s1
  · rw [u (2) (by omega), xFr_E hf rfl]
    refine ⟨a3.1, fun k k0 k1 => ?_⟩
    rw [u (136 + k) (by omega), u (152 + k) (by omega), (show xE E2 31 k = xE E 31 k from xFr_E hf rfl), (show xE E2 32 k = xE E 32 k from xFr_E hf rfl)]
    exact a3.2 k k0 k1
  · intro k k0 k1
    have w := a4 k k0 k1
    rw [u (8 + k) (by omega), u (40 + k) (by omega), u (104 + k) (by omega), (show xE E2 27 k = xE E 27 k from xFr_E hf rfl), (show xE E2 28 k = xE E 28 k from xFr_E hf rfl), (show xE E2 30 k = xE E 30 k from xFr_E hf rfl)]
    by_cases e : k = g
    · subst e
      rw [uS_e rfl, h1]
      exact ⟨w.1, w.2.1, rfl, w.2.2.2⟩
    · rw [u (72 + k) (by omega), h2 k k0 e]
      exact w
  · rw [u (5) (by omega), (show xE E2 18 8 = xE E 18 8 from xFr_E hf rfl), (show xE E2 33 1 = xE E 33 1 from xFr_E hf rfl)]
    exact a5
  · intro k k0 k1
    rw [u (5) (by omega)] at k1
    rw [u (460 + k) (by omega), (show xE E2 34 k = xE E 34 k from xFr_E hf rfl)]
    exact a6 k k0 k1
theorem xAb17_fr {E E2 : zyEm} {S : Int → Int} {g b : Int} (hg : 0 ≤ g ∧ g < 31) (h1 : xE E2 30 g = b) (h2 : ∀ k, 0 ≤ k → ¬ k = g → xE E2 30 k = xE E 30 k) (h : xAb17 E S) (hf : xFr [(35, 2, 3), (35, 5, 8), (30, 0, 30)] E E2) : xAb17 E2 (uS S (104 + g) b) := by
  obtain ⟨a0, a1, a2, a3, a4, a5, a6⟩ := h
  have u : ∀ j, ¬ j = 104 + g → uS S (104 + g) b j = S j := fun j h90 => by rw [uS_n h90]
  refine ⟨by rw [u (0) (by omega), u (1) (by omega), u (2) (by omega), u (5) (by omega)]; exact a0, ?_, ?_, ?_, ?_, ?_, ?_⟩
  · rw [u (0) (by omega), u (1) (by omega), xFr_E hf rfl, xFr_E hf rfl, xFr_E hf rfl, xFr_E hf rfl]
    exact a1
  · intro s s0 s1
    rw [u (0) (by omega), u (1) (by omega)] at s1 ⊢
    rw [xFr_E hf rfl]
    exact a2 s s0 s1
  · rw [u (2) (by omega), xFr_E hf rfl]
    refine ⟨a3.1, fun k k0 k1 => ?_⟩
    rw [u (136 + k) (by omega), u (152 + k) (by omega), (show xE E2 31 k = xE E 31 k from xFr_E hf rfl), (show xE E2 32 k = xE E 32 k from xFr_E hf rfl)]
    exact a3.2 k k0 k1
  · intro k k0 k1
    have w := a4 k k0 k1
    rw [u (8 + k) (by omega), u (40 + k) (by omega), u (72 + k) (by omega), (show xE E2 27 k = xE E 27 k from xFr_E hf rfl), (show xE E2 28 k = xE E 28 k from xFr_E hf rfl), (show xE E2 29 k = xE E 29 k from xFr_E hf rfl)]
    by_cases e : k = g
    · subst e
      rw [uS_e rfl, h1]
      exact ⟨w.1, w.2.1, w.2.2.1, rfl⟩
    · rw [u (104 + k) (by omega), h2 k k0 e]
      exact w
  · rw [u (5) (by omega), (show xE E2 18 8 = xE E 18 8 from xFr_E hf rfl), (show xE E2 33 1 = xE E 33 1 from xFr_E hf rfl)]
    exact a5
  · intro k k0 k1
    rw [u (5) (by omega)] at k1
    rw [u (460 + k) (by omega), (show xE E2 34 k = xE E 34 k from xFr_E hf rfl)]
    exact a6 k k0 k1
theorem xAb17_go {E E2 : zyEm} {S : Int → Int} {g b : Int} (hg : 0 ≤ g ∧ g < 8) (h1 : xE E2 32 g = b) (h2 : ∀ k, 0 ≤ k → ¬ k = g → xE E2 32 k = xE E 32 k) (h : xAb17 E S) (hf : xFr [(35, 2, 3), (35, 5, 8), (32, 0, 7)] E E2) : xAb17 E2 (uS S (152 + g) b) := by
  obtain ⟨a0, a1, a2, a3, a4, a5, a6⟩ := h
  have u : ∀ j, ¬ j = 152 + g → uS S (152 + g) b j = S j := fun j h90 => by rw [uS_n h90]
  refine ⟨by rw [u (0) (by omega), u (1) (by omega), u (2) (by omega), u (5) (by omega)]; exact a0, ?_, ?_, ?_, ?_, ?_, ?_⟩
  · rw [u (0) (by omega), u (1) (by omega), xFr_E hf rfl, xFr_E hf rfl, xFr_E hf rfl, xFr_E hf rfl]
    exact a1
  · intro s s0 s1
    rw [u (0) (by omega), u (1) (by omega)] at s1 ⊢
    rw [xFr_E hf rfl]
    exact a2 s s0 s1
  · rw [u (2) (by omega), xFr_E hf rfl]
    refine ⟨a3.1, fun k k0 k1 => ?_⟩
    have w := a3.2 k k0 k1
    rw [u (136 + k) (by omega), (show xE E2 31 k = xE E 31 k from xFr_E hf rfl)]
    by_cases e : k = g
    · subst e
      rw [uS_e rfl, h1]
      exact ⟨w.1, rfl⟩
    · rw [u (152 + k) (by omega), h2 k k0 e]
      exact w
  · intro k k0 k1
    rw [u (8 + k) (by omega), u (40 + k) (by omega), u (72 + k) (by omega), u (104 + k) (by omega), (show xE E2 27 k = xE E 27 k from xFr_E hf rfl), (show xE E2 28 k = xE E 28 k from xFr_E hf rfl), (show xE E2 29 k = xE E 29 k from xFr_E hf rfl), (show xE E2 30 k = xE E 30 k from xFr_E hf rfl)]
    exact a4 k k0 k1
  · rw [u (5) (by omega), (show xE E2 18 8 = xE E 18 8 from xFr_E hf rfl), (show xE E2 33 1 = xE E 33 1 from xFr_E hf rfl)]
    exact a5
  · intro k k0 k1
    rw [u (5) (by omega)] at k1
    rw [u (460 + k) (by omega), (show xE E2 34 k = xE E 34 k from xFr_E hf rfl)]
    exact a6 k k0 k1
theorem xAb17_nb {E E2 : zyEm} {S : Int → Int} {s : Int} (hb : 0 ≤ S 2 ∧ S 2 ≤ 7) (h0 : xE E2 18 5 = S 2 + 1) (h1 : xE E2 31 (S 2) = s) (h2 : ∀ k, 0 ≤ k → ¬ k = S 2 → xE E2 31 k = xE E 31 k) (h3 : xE E2 32 (S 2) = -1) (h4 : ∀ k, 0 ≤ k → ¬ k = S 2 → xE E2 32 k = xE E 32 k) (h : xAb17 E S) (hf : xFr [(35, 2, 3), (35, 5, 8), (18, 5, 5), (31, 0, 7), (32, 0, 7)] E E2) : xAb17 E2 (uS (uS (uS (uS S (136 + S 2) s) (144 + S 2) s) (152 + S 2) (-1)) 2 (S 2 + 1)) := by
  obtain ⟨a0, a1, a2, a3, a4, a5, a6⟩ := h
  have u : ∀ j, ¬ j = 136 + S 2 → ¬ j = 144 + S 2 → ¬ j = 152 + S 2 → ¬ j = 2 → uS (uS (uS (uS S (136 + S 2) s) (144 + S 2) s) (152 + S 2) (-1)) 2 (S 2 + 1) j = S j := fun j h90 h91 h92 h93 => by rw [uS_n h93, uS_n h92, uS_n h91, uS_n h90]
  refine ⟨by rw [u (0) (by omega) (by omega) (by omega) (by omega), u (1) (by omega) (by omega) (by omega) (by omega), uS_e rfl, u (5) (by omega) (by omega) (by omega) (by omega)]; omega, ?_, ?_, ?_, ?_, ?_, ?_⟩
  · rw [u (0) (by omega) (by omega) (by omega) (by omega), u (1) (by omega) (by omega) (by omega) (by omega), xFr_E hf rfl, xFr_E hf rfl, xFr_E hf rfl, xFr_E hf rfl]
    exact a1
  · intro s s0 s1
    rw [u (0) (by omega) (by omega) (by omega) (by omega), u (1) (by omega) (by omega) (by omega) (by omega)] at s1 ⊢
    rw [xFr_E hf rfl]
    exact a2 s s0 s1
  · rw [uS_e rfl]
    refine ⟨h0, fun k k0 k1 => ?_⟩
    by_cases e : k = S 2
    · subst e
      rw [uS_n (by omega), uS_n (by omega), uS_n (by omega), uS_e rfl, uS_n (by omega), uS_e rfl]
      exact ⟨h1, h3⟩
    · have w := a3.2 k k0 (by omega)
      rw [u (136 + k) (by omega) (by omega) (by omega) (by omega), u (152 + k) (by omega) (by omega) (by omega) (by omega), h2 k k0 e, h4 k k0 e]
      exact w
  · intro k k0 k1
    rw [u (8 + k) (by omega) (by omega) (by omega) (by omega), u (40 + k) (by omega) (by omega) (by omega) (by omega), u (72 + k) (by omega) (by omega) (by omega) (by omega), u (104 + k) (by omega) (by omega) (by omega) (by omega), (show xE E2 27 k = xE E 27 k from xFr_E hf rfl), (show xE E2 28 k = xE E 28 k from xFr_E hf rfl), (show xE E2 29 k = xE E 29 k from xFr_E hf rfl), (show xE E2 30 k = xE E 30 k from xFr_E hf rfl)]
    exact a4 k k0 k1
  · rw [u (5) (by omega) (by omega) (by omega) (by omega), (show xE E2 18 8 = xE E 18 8 from xFr_E hf rfl), (show xE E2 33 1 = xE E 33 1 from xFr_E hf rfl)]
    exact a5
  · intro k k0 k1
    rw [u (5) (by omega) (by omega) (by omega) (by omega)] at k1
    rw [u (460 + k) (by omega) (by omega) (by omega) (by omega), (show xE E2 34 k = xE E 34 k from xFr_E hf rfl)]
    exact a6 k k0 k1
theorem xAb17_wd {E E2 : zyEm} {S : Int → Int} {x : Int} (hs : 0 ≤ S 5 ∧ S 5 < 60) (h0 : xE E2 33 1 = S 5 + 1) (h1 : xE E2 34 (S 5) = x) (h2 : ∀ k, 0 ≤ k → ¬ k = S 5 → xE E2 34 k = xE E 34 k) (h8 : xE E2 18 8 = 1) (h : xAb17 E S) (hf : xFr [(35, 2, 3), (35, 5, 8), (18, 8, 8), (33, 1, 1), (34, 0, 59)] E E2) : xAb17 E2 (uS (uS S (460 + S 5) x) 5 (S 5 + 1)) := by
  obtain ⟨a0, a1, a2, a3, a4, a5, a6⟩ := h
  have u : ∀ j, ¬ j = 460 + S 5 → ¬ j = 5 → uS (uS S (460 + S 5) x) 5 (S 5 + 1) j = S j := fun j h90 h91 => by rw [uS_n h91, uS_n h90]
  refine ⟨by rw [u (0) (by omega) (by omega), u (1) (by omega) (by omega), u (2) (by omega) (by omega), uS_e rfl]; omega, ?_, ?_, ?_, ?_, ?_, ?_⟩
  · rw [u (0) (by omega) (by omega), u (1) (by omega) (by omega), xFr_E hf rfl, xFr_E hf rfl, xFr_E hf rfl, xFr_E hf rfl]
    exact a1
  · intro s s0 s1
    rw [u (0) (by omega) (by omega), u (1) (by omega) (by omega)] at s1 ⊢
    rw [xFr_E hf rfl]
    exact a2 s s0 s1
  · rw [u (2) (by omega) (by omega), xFr_E hf rfl]
    refine ⟨a3.1, fun k k0 k1 => ?_⟩
    rw [u (136 + k) (by omega) (by omega), u (152 + k) (by omega) (by omega), (show xE E2 31 k = xE E 31 k from xFr_E hf rfl), (show xE E2 32 k = xE E 32 k from xFr_E hf rfl)]
    exact a3.2 k k0 k1
  · intro k k0 k1
    rw [u (8 + k) (by omega) (by omega), u (40 + k) (by omega) (by omega), u (72 + k) (by omega) (by omega), u (104 + k) (by omega) (by omega), (show xE E2 27 k = xE E 27 k from xFr_E hf rfl), (show xE E2 28 k = xE E 28 k from xFr_E hf rfl), (show xE E2 29 k = xE E 29 k from xFr_E hf rfl), (show xE E2 30 k = xE E 30 k from xFr_E hf rfl)]
    exact a4 k k0 k1
  · rw [uS_e rfl]
    exact Or.inr ⟨h8, h0.symm⟩
  · intro k k0 k1
    rw [uS_e rfl] at k1
    by_cases e : k = S 5
    · subst e
      rw [uS_n (by omega), uS_e rfl]
      exact h1
    · rw [u (460 + k) (by omega) (by omega), h2 k k0 e]
      exact a6 k k0 (by omega)
theorem xAb17_w0 {E E2 : zyEm} {S : Int → Int} (h8 : xE E2 18 8 = 1) (h0 : xE E2 33 1 = 0) (h : xAb17 E S) (hf : xFr [(35, 2, 3), (35, 5, 8), (18, 8, 8), (33, 1, 1), (34, 0, 59)] E E2) : xAb17 E2 (uS S 5 0) := by
  obtain ⟨a0, a1, a2, a3, a4, a5, a6⟩ := h
  have u : ∀ j, ¬ j = 5 → uS S 5 0 j = S j := fun j h90 => by rw [uS_n h90]
  refine ⟨by rw [u (0) (by omega), u (1) (by omega), u (2) (by omega), uS_e rfl]; omega, ?_, ?_, ?_, ?_, ?_, ?_⟩
  · rw [u (0) (by omega), u (1) (by omega), xFr_E hf rfl, xFr_E hf rfl, xFr_E hf rfl, xFr_E hf rfl]
    exact a1
  · intro s s0 s1
    rw [u (0) (by omega), u (1) (by omega)] at s1 ⊢
    rw [xFr_E hf rfl]
    exact a2 s s0 s1
  · rw [u (2) (by omega), xFr_E hf rfl]
    refine ⟨a3.1, fun k k0 k1 => ?_⟩
    rw [u (136 + k) (by omega), u (152 + k) (by omega), (show xE E2 31 k = xE E 31 k from xFr_E hf rfl), (show xE E2 32 k = xE E 32 k from xFr_E hf rfl)]
    exact a3.2 k k0 k1
  · intro k k0 k1
    rw [u (8 + k) (by omega), u (40 + k) (by omega), u (72 + k) (by omega), u (104 + k) (by omega), (show xE E2 27 k = xE E 27 k from xFr_E hf rfl), (show xE E2 28 k = xE E 28 k from xFr_E hf rfl), (show xE E2 29 k = xE E 29 k from xFr_E hf rfl), (show xE E2 30 k = xE E 30 k from xFr_E hf rfl)]
    exact a4 k k0 k1
  · rw [uS_e rfl]
    exact Or.inr ⟨h8, h0.symm⟩
  · intro k k0 k1
    rw [uS_e rfl] at k1
    omega
