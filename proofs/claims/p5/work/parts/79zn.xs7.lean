/-! LETTERS: the long of a token is a word's iff the token is the word -/
theorem trn_a {T : Int → Int} {n k : Int} : ∀ (f : Nat) (q i : Int), q ≤ i → i < trn T n k f q → tk (T i) = k := by
  intro f
  induction f with
  | zero =>
    intro q i h1 h2
    have h2 : i < q := h2
    omega
  | succ f ih =>
    intro q i h1 h2
    have h2 : i < (if q < n ∧ tk (T q) = k then trn T n k f (q + 1) else q) := h2
    by_cases c : q < n ∧ tk (T q) = k
    · rw [if_pos c] at h2
      by_cases e : i = q
      · rw [e]
        exact c.2
      · exact ih (q + 1) i (by omega) h2
    · rw [if_neg c] at h2
      omega
theorem lgo_b {T : Int → Int} {p : Int} : ∀ f : Nat, (∀ i : Nat, i < f → 97 ≤ T (p + (i : Int)) ∧ T (p + (i : Int)) ≤ 122) → lgo T f p 0 < 27 ^ f := by
  intro f
  induction f with
  | zero => intro _; show (0 : Int) < 27 ^ 0; decide
  | succ f ih =>
    intro h
    rw [lgo_s, Int.pow_succ]
    have h1 := ih (fun i hi => h i (by omega))
    have h2 := h f (by omega)
    omega
theorem lgo_b8 {T : Int → Int} {p : Int} {f : Nat} (hf : f ≤ 8) (h : ∀ i : Nat, i < f → 97 ≤ T (p + (i : Int)) ∧ T (p + (i : Int)) ≤ 122) : 0 ≤ lgo T f p 0 ∧ lgo T f p 0 < 282429536481 := by
  refine ⟨lgo_p f h, ?_⟩
  have h1 := lgo_b f h
  have h2 : (27 : Int) ^ f ≤ 282429536481 := by
    have : f = 0 ∨ f = 1 ∨ f = 2 ∨ f = 3 ∨ f = 4 ∨ f = 5 ∨ f = 6 ∨ f = 7 ∨ f = 8 := by omega
    rcases this with rfl | rfl | rfl | rfl | rfl | rfl | rfl | rfl | rfl <;> decide
  omega
theorem tk2_i {s : Int} (h : tk s = 2) : 97 ≤ s ∧ s ≤ 122 := by
  unfold tk at h
  by_cases c : 97 ≤ s ∧ s ≤ 122
  · exact c
  · exfalso
    rw [if_neg c] at h
    revert h
    split
    · decide
    · split
      · decide
      · split <;> decide
theorem lLt_w {T : Int → Int} {f e : Int} {w : List Int} (hfe : f ≤ e) (hT : ∀ i : Int, f ≤ i → i < e → 97 ≤ T i ∧ T i ≤ 122) (hl : w.length ≤ 8) (hw : ∀ i : Nat, i < w.length → 97 ≤ wFn w (0 + (i : Int)) ∧ wFn w (0 + (i : Int)) ≤ 122) : lLt T f e = Int64.ofInt (lgo (wFn w) w.length 0 0) ↔ e - f = (w.length : Int) ∧ tWb T w f = true := by
  have hW := lgo_b8 hl hw
  have hT2 : ∀ i : Nat, i < (e - f).toNat → 97 ≤ T (f + (i : Int)) ∧ T (f + (i : Int)) ≤ 122 := fun i hi => hT _ (by omega) (by omega)
  have inj : ∀ a b : Int, -1 ≤ a → a < 282429536481 → 0 ≤ b → b < 282429536481 → Int64.ofInt a = Int64.ofInt b → a = b := by
    intro a b h1 h2 h3 h4 h5
    have h6 := congrArg Int64.toInt h5
    rw [Int64.toInt_ofInt_of_le (by omega) (by omega), Int64.toInt_ofInt_of_le (by omega) (by omega)] at h6
    exact h6
  unfold lLt
  by_cases c : e - f ≤ 8
  · rw [if_pos c]
    have hb := lgo_b8 (T := T) (p := f) (f := (e - f).toNat) (by omega) hT2
    unfold lVl
    constructor
    · intro h
      obtain ⟨g1, g2⟩ := lgo_i (o := 0) _ _ hT2 hw (inj _ _ (by omega) hb.2 hW.1 hW.2 h)
      refine ⟨by omega, (tWb_iff w f).mpr (fun i hi => ?_)⟩
      rw [g2 i (by omega), show (0 : Int) + (i : Int) = i by omega]
    · rintro ⟨h1, h2⟩
      have h3 := (tWb_iff w f).mp h2
      rw [show (e - f).toNat = w.length by omega]
      congr 1
      have : ∀ m : Nat, m ≤ w.length → lgo T m f 0 = lgo (wFn w) m 0 0 := by
        intro m
        induction m with
        | zero => intro _; rfl
        | succ m ih =>
          intro hm
          rw [lgo_s, lgo_s, ih (by omega), h3 m (by omega), show (0 : Int) + (m : Int) = m by omega]
      exact this _ (Nat.le_refl _)
  · rw [if_neg c]
    constructor
    · intro h
      have h2 : Int64.ofInt (-1) = Int64.ofInt (lgo (wFn w) w.length 0 0) := h
      have := inj _ _ (by omega) (by omega) hW.1 hW.2 h2
      omega
    · rintro ⟨h1, -⟩
      omega
