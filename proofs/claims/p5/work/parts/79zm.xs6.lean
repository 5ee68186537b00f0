/-! LETTERS: equal numbers, equal letters -/
theorem lgo_p {T : Int → Int} {p : Int} : ∀ f : Nat, (∀ i : Nat, i < f → 97 ≤ T (p + (i : Int)) ∧ T (p + (i : Int)) ≤ 122) → 0 ≤ lgo T f p 0 := by
  intro f
  induction f with
  | zero => intro _; exact Int.le_refl 0
  | succ f ih =>
    intro h
    rw [lgo_s]
    have h1 := ih (fun i hi => h i (by omega))
    have h2 := h f (by omega)
    omega
theorem lgo_i {T W : Int → Int} {p o : Int} : ∀ f m : Nat, (∀ i : Nat, i < f → 97 ≤ T (p + (i : Int)) ∧ T (p + (i : Int)) ≤ 122) → (∀ i : Nat, i < m → 97 ≤ W (o + (i : Int)) ∧ W (o + (i : Int)) ≤ 122) → lgo T f p 0 = lgo W m o 0 → f = m ∧ ∀ i : Nat, i < f → T (p + (i : Int)) = W (o + (i : Int)) := by
  intro f
  induction f with
  | zero =>
    intro m hT hW he
    cases m with
    | zero => exact ⟨rfl, fun i hi => by omega⟩
    | succ m =>
      exfalso
      rw [lgo_s] at he
      have h1 := lgo_p m (fun i hi => hW i (by omega))
      have h2 := hW m (by omega)
      have he : (0 : Int) = 27 * lgo W m o 0 + W (o + (m : Int)) - 96 := he
      omega
  | succ f ih =>
    intro m hT hW he
    have h3 := lgo_p f (fun i hi => hT i (by omega))
    have h4 := hT f (by omega)
    rw [lgo_s] at he
    cases m with
    | zero =>
      exfalso
      have he : 27 * lgo T f p 0 + T (p + (f : Int)) - 96 = 0 := he
      omega
    | succ m =>
      rw [lgo_s] at he
      have h1 := lgo_p m (fun i hi => hW i (by omega))
      have h2 := hW m (by omega)
      obtain ⟨g1, g2⟩ := ih m (fun i hi => hT i (by omega)) (fun i hi => hW i (by omega)) (by omega)
      refine ⟨by omega, fun i hi => ?_⟩
      by_cases c : i < f
      · exact g2 i c
      · rw [show i = f by omega]
        subst g1
        omega
/-- a word as signs -/
def wFn (w : List Int) (i : Int) : Int := w.getD i.toNat 0
theorem tWb_iff {T : Int → Int} : ∀ (w : List Int) (q : Int), tWb T w q = true ↔ ∀ i : Nat, i < w.length → T (q + (i : Int)) = wFn w (i : Int) := by
  intro w
  induction w with
  | nil => intro q; exact ⟨fun _ i hi => absurd hi (Nat.not_lt_zero _), fun _ => rfl⟩
  | cons a l ih =>
    intro q
    show (decide (T q = a) && tWb T l (q + 1)) = true ↔ _
    rw [Bool.and_eq_true, decide_eq_true_eq, ih]
    constructor
    · rintro ⟨h1, h2⟩ i hi
      cases i with
      | zero => rw [show q + ((0 : Nat) : Int) = q by omega, h1]; rfl
      | succ i =>
        have hi : i + 1 < l.length + 1 := hi
        have h3 := h2 i (by omega)
        rw [show q + ((i + 1 : Nat) : Int) = q + 1 + (i : Int) by omega, h3]
        unfold wFn
        rw [show ((i : Nat) : Int).toNat = i by omega, show (((i + 1 : Nat)) : Int).toNat = i + 1 by omega]
        rfl
    · intro h
      refine ⟨?_, fun i hi => ?_⟩
      · have h1 := h 0 (Nat.succ_pos _)
        rw [show q + ((0 : Nat) : Int) = q by omega] at h1
        rw [h1]
        rfl
      · have h1 := h (i + 1) (Nat.succ_lt_succ hi)
        rw [show q + ((i + 1 : Nat) : Int) = q + 1 + (i : Int) by omega] at h1
        rw [h1]
        unfold wFn
        rw [show ((i : Nat) : Int).toNat = i by omega, show (((i + 1 : Nat)) : Int).toNat = i + 1 by omega]
        rfl
