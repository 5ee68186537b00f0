/-! BY HAND: the frames. What is kept: an index with a switch faces a slot -/
def zyJc (E : Nat → Nat → Option Value) : Prop := ∀ f g : Nat, (f = 4 ∧ g = 5) ∨ (f = 21 ∧ g = 22) → ∀ i, i ≤ 79 → ∀ z y : Int32, E f i = some (.int z) → E g i = some (.int y) → 2147483648 ≤ zB y → 2147483648 ≤ zB z
theorem zyJc_in {i : Nat} (hi : i ≤ 79) : zyin zydc 4 i = true ∧ zyin zydc 5 i = true ∧ zyin zydc 21 i = true ∧ zyin zydc 22 i = true := by
  refine ⟨zyin_iff.mpr ⟨(4, 0, 79), ?_, rfl, Nat.zero_le _, hi⟩, zyin_iff.mpr ⟨(5, 0, 79), ?_, rfl, Nat.zero_le _, hi⟩, zyin_iff.mpr ⟨(21, 0, 79), ?_, rfl, Nat.zero_le _, hi⟩, zyin_iff.mpr ⟨(22, 0, 79), ?_, rfl, Nat.zero_le _, hi⟩⟩ <;> simp [zydc]
theorem zyJc_p : zyJp zydc zyJc := by
  refine ⟨fun E E2 h hE f g hfg i hi z y hz hy hp => ?_, fun E hE p hp h1 i z y hin hz hy hpos => ?_⟩
  · obtain ⟨q1, q2, q3, q4⟩ := zyJc_in hi
    refine hE f g hfg i hi z y ?_ ?_ hp
    · rcases hfg with ⟨e1, e2⟩ | ⟨e1, e2⟩
      · rw [e1] at hz ⊢
        rw [h 4 i q1]
        exact hz
      · rw [e1] at hz ⊢
        rw [h 21 i q3]
        exact hz
    · rcases hfg with ⟨e1, e2⟩ | ⟨e1, e2⟩
      · rw [e2] at hy ⊢
        rw [h 5 i q2]
        exact hy
      · rw [e2] at hy ⊢
        rw [h 22 i q4]
        exact hy
  · obtain ⟨p2, m1, m2, m3, m4⟩ := zyin_iff.mp hin
    have hp' : p = (100004, 5, 0) ∨ p = (100021, 22, 0) := by
      simp only [zydc, List.mem_cons, List.not_mem_nil, or_false] at hp
      rcases hp with e | e | e | e | e | e
      · rw [e] at h1; exact absurd h1 (by decide)
      · rw [e] at h1; exact absurd h1 (by decide)
      · rw [e] at h1; exact absurd h1 (by decide)
      · rw [e] at h1; exact absurd h1 (by decide)
      · exact Or.inl e
      · exact Or.inr e
    have hi : i ≤ 79 := by
      simp only [zydc, List.mem_cons, List.not_mem_nil, or_false] at m1
      rcases hp' with e | e <;> rw [e] at m2 <;> rcases m1 with e2 | e2 | e2 | e2 | e2 | e2 <;> rw [e2] at m2 m4 <;> first | exact m4 | (exfalso; revert m2; decide)
    rcases hp' with e | e
    · rw [e] at hz hy
      exact hE 4 5 (Or.inl ⟨rfl, rfl⟩) i hi z y hz hy hpos
    · rw [e] at hz hy
      exact hE 21 22 (Or.inr ⟨rfl, rfl⟩) i hi z y hz hy hpos
noncomputable def zyjck (m : List (Nat × Nat)) (f g : Nat) (n : Nat) : Bool := Nat.rec (motive := fun _ => Bool) true (fun i ih => zand (zylk false (fun vg => zylk false (fun vf => zand (Nat.beq (Nat.mod vg 8) 0) (zand (Nat.beq (Nat.mod vf 8) 0) (zif (Nat.ble 2147483648 (zb (Nat.div vg 8))) (Nat.ble 2147483648 (zb (Nat.div vf 8))) true))) (Nat.add (Nat.mul f 16384) i) m) (Nat.add (Nat.mul g 16384) i) m) ih) n
theorem zyjck1 {m : List (Nat × Nat)} {kf kg : Nat} (h1 : zylk false (fun vg => zylk false (fun vf => zand (Nat.beq (Nat.mod vg 8) 0) (zand (Nat.beq (Nat.mod vf 8) 0) (zif (Nat.ble 2147483648 (zb (Nat.div vg 8))) (Nat.ble 2147483648 (zb (Nat.div vf 8))) true))) kf m) kg m = true) : ∃ vf vg, zyl m kf = some vf ∧ zyl m kg = some vg ∧ vg % 8 = 0 ∧ vf % 8 = 0 ∧ (2147483648 ≤ zb (vg / 8) → 2147483648 ≤ zb (vf / 8)) := by
  rw [zylk_eq] at h1
  cases hg : zyl m kg with
  | none => rw [hg] at h1; cases h1
  | some vg =>
    rw [hg] at h1
    dsimp only at h1
    rw [zylk_eq] at h1
    cases hf : zyl m kf with
    | none => rw [hf] at h1; cases h1
    | some vf =>
      rw [hf] at h1
      obtain ⟨q1, q2⟩ := zand_iff h1
      obtain ⟨q2, q3⟩ := zand_iff q2
      refine ⟨vf, vg, rfl, rfl, zbeqT q1, zbeqT q2, fun hp => ?_⟩
      rcases zif_iff q3 with ⟨-, q4⟩ | ⟨q4, -⟩
      · exact zbleT q4
      · exact absurd hp (zbleF q4)
theorem zyjck_iff {m : List (Nat × Nat)} {f g : Nat} : ∀ {n : Nat}, zyjck m f g n = true → ∀ i, i < n → ∃ vf vg, zyl m (Nat.add (Nat.mul f 16384) i) = some vf ∧ zyl m (Nat.add (Nat.mul g 16384) i) = some vg ∧ vg % 8 = 0 ∧ vf % 8 = 0 ∧ (2147483648 ≤ zb (vg / 8) → 2147483648 ≤ zb (vf / 8)) := by
  intro n
  induction n with
  | zero => intro _ i hi; exact absurd hi (Nat.not_lt_zero i)
  | succ n ih =>
    intro h i hi
    obtain ⟨h1, h2⟩ := zand_iff (show zand _ (zyjck m f g n) = true from h)
    by_cases e : i = n
    · subst e
      exact zyjck1 h1
    · exact ih h2 i (Nat.lt_of_le_of_ne (Nat.le_of_lt_succ hi) e)
/-- where a frame's build writes -/
noncomputable def zyfpb (fr n : Nat) : zyR := [(fr, 0, 3), (Nat.add fr 1, 0, Nat.pred n), (Nat.add fr 2, 0, Nat.pred n), (Nat.add fr 3, 0, Nat.pred n), (Nat.add fr 4, 0, Nat.pred n), (Nat.add fr 5, 0, Nat.pred n), (Nat.add fr 6, 0, 30), (Nat.add fr 7, 0, 30)]
noncomputable def zyPb (fr n : Nat) : zyP := (zymc, fun _ => [], zyfpb fr n, [], 0)
noncomputable def zybtb (fr n : Nat) : zW → List Nat → zyM → Bool := fun w v m => zand (zyfitM w zymc m.1) (zand (List.rec (motive := fun _ => Bool) true (fun _ _ _ => false) v) (zyjck m.1 (Nat.add fr 2) (Nat.add fr 3) n))
noncomputable def zyκb (fr r c : Nat) : zyKt := (0, 5, [Nat.add (Nat.mul 8 fr) 3, Nat.mul 8 r, Nat.mul 8 c, 13, 13], [(0, 4294967295), (0, 4294967295), (0, 4294967295), (0, 4294967295), (0, 4294967295)], [], [])
noncomputable def zyrunb (fr r c : Nat) : Bool := zfr false (Nat.mul 4 (Nat.mul r c)) (fun n => zand (zywf 5 (zyκb fr r c)) (zand (zpad 5 (zexp [Nat.add (Nat.mul 8 fr) 3, Nat.mul 8 r, Nat.mul 8 c]) (fun l2 => zyincl (zyPb fr n) 5 (0, []) l2 [] (zyκb fr r c)))
  (zyok (zybtb fr n) (zyPb fr n) zystop0 200000 (5, (zyκb fr r c).2.2.2.1) zxi16 (16, 0, 0, 0, 0) 0 (zyκb fr r c).2.2.1 [] (3, 0, 0) [] ([], []))))
noncomputable def zyrunbs (fr r : Nat) : Bool := zand (zyrunb fr r 1) (zand (zyrunb fr r 2) (zand (zyrunb fr r 3) (zand (zyrunb fr r 4) (zyrunb fr r 5))))
