/-! FACTS by what came out -/
noncomputable def zqrs (g v : Nat) (k : Nat → Nat → Bool) (F : List zyF) : Bool := List.rec (motive := fun _ => Bool) false (fun f _ ih => zif (zand (Nat.beq f.1 g) (Nat.beq f.2.1 v)) (k f.2.2.1 f.2.2.2) ih) F
theorem zqrs_mem {g v : Nat} {k : Nat → Nat → Bool} : ∀ {F : List zyF}, zqrs g v k F = true → ∃ a b, (g, v, a, b) ∈ F ∧ k a b = true := by
  intro F
  induction F with
  | nil => intro h; cases h
  | cons f t ih =>
    intro h
    have h : zif (zand (Nat.beq f.1 g) (Nat.beq f.2.1 v)) (k f.2.2.1 f.2.2.2) (zqrs g v k t) = true := h
    rcases zif_iff h with ⟨h1, h2⟩ | ⟨-, h2⟩
    · obtain ⟨g1, g2⟩ := zand_iff h1
      have g1 := zbeqT g1
      have g2 := zbeqT g2
      obtain ⟨f0, f1, f2, f3⟩ := f
      dsimp only at g1 g2 h2
      subst g1
      subst g2
      exact ⟨f2, f3, List.mem_cons_self, h2⟩
    · obtain ⟨a, b, q1, q2⟩ := ih h2
      exact ⟨a, b, List.mem_cons_of_mem _ q1, q2⟩
theorem zqrs_fn {X : zyX} {id v : Nat} {k : Nat → Nat → Bool} {F : List zyF} (hF : ∀ f ∈ F, zyFm X f) (h : zqrs (1000 + id) v k F = true) : ∃ (a b : Nat) (x y z : Int32), zyV X a (.int x) ∧ zyV X b (.int y) ∧ zyV X v (.int z) ∧ (zyJ X).2 id (zyE X) x y z ∧ k a b = true := by
  obtain ⟨a, b, h1, h2⟩ := zqrs_mem h
  obtain ⟨x, y, z, q1, q2, q3, q4⟩ := zyFm_rel (hF _ h1)
  exact ⟨a, b, x, y, z, q2, q3, q1, q4, h2⟩
theorem zqrs_op {X : zyX} {g v : Nat} {k : Nat → Nat → Bool} {F : List zyF} (hF : ∀ f ∈ F, zyFm X f) (hg : g < 12) (h : zqrs g v k F = true) : ∃ (a b : Nat) (x y : Int32), zyV X a (.int x) ∧ zyV X b (.int y) ∧ zyV X v (.int (zyG g x y)) ∧ k a b = true := by
  obtain ⟨a, b, h1, h2⟩ := zqrs_mem h
  have hf := hF _ h1
  unfold zyFm at hf
  dsimp only at hf
  rw [if_neg (by omega), if_pos hg] at hf
  obtain ⟨x, y, z, q1, q2, q3, q4⟩ := hf
  exact ⟨a, b, x, y, q2, q3, by rw [← q4]; exact q1, h2⟩
