/-! ORBITS: a map of slots that takes different ones to different ones comes back -/
def zyit (f : Nat → Nat) : Nat → Nat → Nat
  | 0, s => s
  | k + 1, s => f (zyit f k s)
theorem zyit_s (f : Nat → Nat) : ∀ (k s : Nat), zyit f k (f s) = zyit f (k + 1) s := by
  intro k
  induction k with
  | zero => intro s; rfl
  | succ k ih =>
    intro s
    show f (zyit f k (f s)) = f (zyit f (k + 1) s)
    rw [ih]
theorem zyit_add (f : Nat → Nat) (s : Nat) : ∀ (i d : Nat), zyit f (i + d) s = zyit f i (zyit f d s) := by
  intro i
  induction i with
  | zero => intro d; rw [Nat.zero_add]; rfl
  | succ i ih =>
    intro d
    rw [show i + 1 + d = (i + d) + 1 by omega]
    show f (zyit f (i + d) s) = f (zyit f i (zyit f d s))
    rw [ih]
theorem zypig : ∀ (n : Nat) (g : Nat → Nat), (∀ i, i ≤ n → g i < n) → ∃ i j, i < j ∧ j ≤ n ∧ g i = g j := by
  intro n
  induction n with
  | zero => intro g h; exact absurd (h 0 (Nat.le_refl 0)) (Nat.not_lt_zero _)
  | succ n ih =>
    intro g h
    by_cases hv : ∃ i, i ≤ n ∧ g i = g (n + 1)
    · obtain ⟨i, h1, h2⟩ := hv
      exact ⟨i, n + 1, by omega, Nat.le_refl _, h2⟩
    · have hne : ∀ i, i ≤ n → ¬ g i = g (n + 1) := fun i hi q => hv ⟨i, hi, q⟩
      obtain ⟨i, j, h1, h2, h3⟩ := ih (fun i => if g i = n then g (n + 1) else g i) (fun i hi => by
        have a1 := h i (by omega)
        have a2 := h (n + 1) (Nat.le_refl _)
        have a3 := hne i hi
        split
        · omega
        · omega)
      refine ⟨i, j, h1, by omega, ?_⟩
      have b1 := hne i (by omega)
      have b2 := hne j h2
      by_cases c1 : g i = n
      · rw [if_pos c1] at h3
        by_cases c2 : g j = n
        · rw [c1, c2]
        · rw [if_neg c2] at h3
          exact absurd h3.symm b2
      · rw [if_neg c1] at h3
        by_cases c2 : g j = n
        · rw [if_pos c2] at h3
          exact absurd h3 b1
        · rw [if_neg c2] at h3
          exact h3
theorem zyit_lt {n : Nat} {f : Nat → Nat} (hlt : ∀ s, s < n → f s < n) {s : Nat} (hs : s < n) : ∀ k, zyit f k s < n := by
  intro k
  induction k with
  | zero => exact hs
  | succ k ih => exact hlt _ ih
theorem zyit_inj {n : Nat} {f : Nat → Nat} (hlt : ∀ s, s < n → f s < n) (hinj : ∀ a b, a < n → b < n → f a = f b → a = b) {a b : Nat} (ha : a < n) (hb : b < n) : ∀ k, zyit f k a = zyit f k b → a = b := by
  intro k
  induction k with
  | zero => intro h; exact h
  | succ k ih => intro h; exact ih (hinj _ _ (zyit_lt hlt ha k) (zyit_lt hlt hb k) h)
theorem zyorbit {n : Nat} {f : Nat → Nat} (hlt : ∀ s, s < n → f s < n) (hinj : ∀ a b, a < n → b < n → f a = f b → a = b) {s : Nat} (hs : s < n) : ∃ m, 1 ≤ m ∧ m ≤ n ∧ zyit f m s = s := by
  obtain ⟨i, j, h1, h2, h3⟩ := zypig n (fun k => zyit f k s) (fun i _ => zyit_lt hlt hs i)
  refine ⟨j - i, by omega, by omega, ?_⟩
  have e : zyit f j s = zyit f i (zyit f (j - i) s) := by
    rw [← zyit_add]
    congr 1
    omega
  rw [e] at h3
  exact (zyit_inj hlt hinj hs (zyit_lt hlt hs (j - i)) i h3).symm
/-- the first of so many that is so -/
def zylst (p : Nat → Bool) : Nat → Nat
  | 0 => 0
  | n + 1 => if zylst p n < n then zylst p n else if p n = true then n else n + 1
theorem zylst_le (p : Nat → Bool) : ∀ n, zylst p n ≤ n := by
  intro n
  induction n with
  | zero => exact Nat.le_refl 0
  | succ n ih =>
    show (if zylst p n < n then zylst p n else if p n = true then n else n + 1) ≤ n + 1
    split
    · omega
    · split <;> omega
theorem zylst_ok {p : Nat → Bool} : ∀ {n d : Nat}, d < n → p d = true → p (zylst p n) = true ∧ zylst p n ≤ d := by
  intro n
  induction n with
  | zero => intro d h; omega
  | succ n ih =>
    intro d hd hp
    show p (if zylst p n < n then zylst p n else if p n = true then n else n + 1) = true ∧ (if zylst p n < n then zylst p n else if p n = true then n else n + 1) ≤ d
    by_cases e : d < n
    · obtain ⟨i1, i2⟩ := ih e hp
      rw [if_pos (by omega)]
      exact ⟨i1, i2⟩
    · have ed : d = n := by omega
      subst ed
      by_cases c : zylst p d < d
      · rw [if_pos c]
        have hlt : ∀ n, zylst p n < n → p (zylst p n) = true := by
          intro n
          induction n with
          | zero => intro h; omega
          | succ n ih2 =>
            intro h
            have e2 : zylst p (n + 1) = if zylst p n < n then zylst p n else if p n = true then n else n + 1 := rfl
            rw [e2] at h ⊢
            by_cases c2 : zylst p n < n
            · rw [if_pos c2]; exact ih2 c2
            · rw [if_neg c2] at h ⊢
              by_cases c3 : p n = true
              · rw [if_pos c3]; exact c3
              · rw [if_neg c3] at h; omega
        exact ⟨hlt d c, by omega⟩
      · rw [if_neg c, if_pos hp]
        exact ⟨hp, Nat.le_refl _⟩
/-- how far it is -/
def zydst (f : Nat → Nat) (s v : Nat) : Nat := zylst (fun d => Nat.beq (zyit f d v) s) 100
theorem zydst_of {f : Nat → Nat} {s v d : Nat} (hd : d < 100) (h : zyit f d v = s) : zyit f (zydst f s v) v = s ∧ zydst f s v ≤ d := by
  obtain ⟨h1, h2⟩ := zylst_ok (p := fun d => Nat.beq (zyit f d v) s) hd (by rw [h]; exact Nat.beq_refl s)
  exact ⟨zbeqT h1, h2⟩
theorem zydst_step {f : Nat → Nat} {s v : Nat} (hv : ¬ v = s) (h : zyit f (zydst f s v) v = s) (hb : zydst f s v < 100) : zyit f (zydst f s (f v)) (f v) = s ∧ zydst f s (f v) + 1 ≤ zydst f s v := by
  cases hd : zydst f s v with
  | zero =>
    rw [hd] at h
    exact absurd h hv
  | succ k =>
    rw [hd, ← zyit_s] at h
    obtain ⟨h1, h2⟩ := zydst_of (v := f v) (d := k) (by omega) h
    exact ⟨h1, by omega⟩
