section
/-! BY HAND: the frames. What is kept: an index with a switch faces a slot -/
def zyI (E : zyEm) (a k : Nat) : Int32 := match E a k with
  | some (.int x) => x
  | _ => 0
def zySum (f : Nat → Nat) : Nat → Nat
  | 0 => 0
  | n + 1 => zySum f n + f n
theorem zySum_congr {f g : Nat → Nat} : ∀ {n : Nat}, (∀ i, i < n → f i = g i) → zySum f n = zySum g n := by
  intro n
  induction n with
  | zero => intro _; rfl
  | succ n ih =>
    intro h
    show zySum f n + f n = zySum g n + g n
    rw [ih (fun i hi => h i (by omega)), h n (by omega)]
/-! how many bytes the printer writes: of a number with its blank, of a switch, a stuck one, a free one, a place, a bobbin, a letter; o: 0 for the plan 1, 17 for the plan 18 -/
def zyNm (x : Int32) : Nat := if x < 10 then 2 else 3
def zyCsw (E : zyEm) (o s : Nat) : Nat := if zyI E (11 + o) s = 1 ∧ zyI E (10 + o) s = 0 then 0 else 7 + zyNm (Int32.ofNat s) + 2 * (zyI E (11 + o) s).toBitVec.toNat
def zyCst (E : zyEm) (o s : Nat) : Nat := if zyI E (12 + o) s = 0 then 0 else 11 + zyNm (Int32.ofNat s)
def zyCfr (E : zyEm) (o s : Nat) : Nat := if zyI E (13 + o) s = 0 then 0 else 5 + zyNm (Int32.ofNat s)
def zyCpl (E : zyEm) (o b : Nat) : Nat := if zyI E (15 + o) b = -1 then 0 else 8 + zyNm (zyI E (15 + o) b)
def zyCbo (E : zyEm) (o b : Nat) : Nat := 7 + zyNm (zyI E (14 + o) b)
def zyCwo (E : zyEm) (o i : Nat) : Nat := if zyI E (17 + o) i < 0 then 4 else 2
def zyN1 (x : Int32) : Nat := x.toBitVec.toNat
def zyCt1 (E : zyEm) (o : Nat) (id : Nat) : Nat := match id with
  | 0 => zySum (zyCsw E o) (min (zyN1 (zyI E (2 + o) 3)) 31)
  | 1 => zySum (zyCst E o) (min (zyN1 (zyI E (2 + o) 3)) 31)
  | 2 => zySum (zyCfr E o) (min (zyN1 (zyI E (2 + o) 3)) 31)
  | 3 => zySum (zyCpl E o) (min (zyN1 (zyI E (1 + o) 5)) 8)
  | 4 => 5 + zySum (zyCwo E o) (min (zyN1 (zyI E (16 + o) 1)) 60)
  | 6 => zySum (zyCbo E o) (min (zyN1 (zyI E (1 + o) 5)) 8)
  | _ => 0
def zyCta (E : zyEm) (o : Nat) : Nat := 9 + zyCt1 E o 0 + zyCt1 E o 6 + zyCt1 E o 1 + zyCt1 E o 2 + zyCt1 E o 3 + (if zyI E (1 + o) 8 = 0 then 0 else zyCt1 E o 4)
/-- 100 on: the printer's counts of the plan 1, 200 on: of the plan 18; 5: all -/
def zyRc (id : Nat) (E : zyEm) (x y z : Int32) : Prop :=
  (100 ≤ id ∧ id < 105 ∧ z = x + Int32.ofNat (zyCt1 E 0 (id - 100))) ∨ (id = 105 ∧ z = Int32.ofNat (zyCta E 0)) ∨ (200 ≤ id ∧ id < 205 ∧ z = x + Int32.ofNat (zyCt1 E 17 (id - 200))) ∨ (id = 205 ∧ z = Int32.ofNat (zyCta E 17)) ∨ (300 ≤ id ∧ ¬ id = 303 ∧ zB z = zB x + (id - 300)) ∨ (id = 303 ∧ zB z = zB x + zyNm y)
theorem zyI_eq {E E2 : zyEm} {a k : Nat} (h : E a k = E2 a k) : zyI E a k = zyI E2 a k := by
  unfold zyI
  rw [h]
theorem zyCt1_congr {E E2 : zyEm} {o id : Nat} (h : ∀ a k, (a = 1 ∧ k ≤ 9) ∨ (a = 2 ∧ k ≤ 3) ∨ (10 ≤ a ∧ a ≤ 13 ∧ k ≤ 30) ∨ (14 ≤ a ∧ a ≤ 15 ∧ k ≤ 7) ∨ (a = 16 ∧ k ≤ 1) ∨ (a = 17 ∧ k ≤ 59) → E (a + o) k = E2 (a + o) k) : zyCt1 E o id = zyCt1 E2 o id := by
  have g : ∀ a k, (a = 1 ∧ k ≤ 9) ∨ (a = 2 ∧ k ≤ 3) ∨ (10 ≤ a ∧ a ≤ 13 ∧ k ≤ 30) ∨ (14 ≤ a ∧ a ≤ 15 ∧ k ≤ 7) ∨ (a = 16 ∧ k ≤ 1) ∨ (a = 17 ∧ k ≤ 59) → zyI E (a + o) k = zyI E2 (a + o) k := fun a k hk => zyI_eq (h a k hk)
  unfold zyCt1
  split
  · rw [g 2 3 (by omega)]
    exact zySum_congr (fun i hi => by unfold zyCsw; rw [g 11 i (by omega), g 10 i (by omega)])
  · rw [g 2 3 (by omega)]
    exact zySum_congr (fun i hi => by unfold zyCst; rw [g 12 i (by omega)])
  · rw [g 2 3 (by omega)]
    exact zySum_congr (fun i hi => by unfold zyCfr; rw [g 13 i (by omega)])
  · rw [g 1 5 (by omega)]
    exact zySum_congr (fun i hi => by unfold zyCpl; rw [g 15 i (by omega)])
  · rw [g 16 1 (by omega)]
    rw [zySum_congr (g := zyCwo E2 o) (fun i hi => by unfold zyCwo; rw [g 17 i (by omega)])]
  · rw [g 1 5 (by omega)]
    exact zySum_congr (fun i hi => by unfold zyCbo; rw [g 14 i (by omega)])
  · rfl
theorem zyCta_congr {E E2 : zyEm} {o : Nat} (h : ∀ a k, (a = 1 ∧ k ≤ 9) ∨ (a = 2 ∧ k ≤ 3) ∨ (10 ≤ a ∧ a ≤ 13 ∧ k ≤ 30) ∨ (14 ≤ a ∧ a ≤ 15 ∧ k ≤ 7) ∨ (a = 16 ∧ k ≤ 1) ∨ (a = 17 ∧ k ≤ 59) → E (a + o) k = E2 (a + o) k) : zyCta E o = zyCta E2 o := by
  unfold zyCta
  rw [zyCt1_congr (id := 0) h, zyCt1_congr (id := 6) h, zyCt1_congr (id := 1) h, zyCt1_congr (id := 2) h, zyCt1_congr (id := 3) h, zyCt1_congr (id := 4) h, zyI_eq (h 1 8 (by omega))]
theorem zyFd_1 {id a k : Nat} (h1 : 100 ≤ id) (h2 : id < 200) (h : (a = 1 ∧ k ≤ 9) ∨ (a = 2 ∧ k ≤ 3) ∨ (10 ≤ a ∧ a ≤ 13 ∧ k ≤ 30) ∨ (14 ≤ a ∧ a ≤ 15 ∧ k ≤ 7) ∨ (a = 16 ∧ k ≤ 1) ∨ (a = 17 ∧ k ≤ 59)) : zyin (zyFd id) (a + 0) k = true := by
  have e1 : Nat.ble (Nat.succ id) 100 = false := by
    cases hq : Nat.ble (Nat.succ id) 100 with
    | false => rfl
    | true => have h3 : id + 1 ≤ 100 := zbleT hq; omega
  have e2 : Nat.ble (Nat.succ id) 200 = true := Nat.ble_eq_true_of_le (by omega)
  unfold zyFd
  rw [e1, e2, zif_f, zif_t]
  rw [zyin_iff]
  rcases h with ⟨rfl, e⟩ | ⟨rfl, e⟩ | ⟨q1, q2, e⟩ | ⟨q1, q2, e⟩ | ⟨rfl, e⟩ | ⟨rfl, e⟩
  · exact ⟨(1, 0, 9), by simp, rfl, Nat.zero_le _, e⟩
  · exact ⟨(2, 0, 3), by simp, rfl, Nat.zero_le _, e⟩
  · have ha : a = 10 ∨ a = 11 ∨ a = 12 ∨ a = 13 := by omega
    rcases ha with rfl | rfl | rfl | rfl
    · exact ⟨(10, 0, 30), by simp, rfl, Nat.zero_le _, e⟩
    · exact ⟨(11, 0, 30), by simp, rfl, Nat.zero_le _, e⟩
    · exact ⟨(12, 0, 30), by simp, rfl, Nat.zero_le _, e⟩
    · exact ⟨(13, 0, 30), by simp, rfl, Nat.zero_le _, e⟩
  · have ha : a = 14 ∨ a = 15 := by omega
    rcases ha with rfl | rfl
    · exact ⟨(14, 0, 7), by simp, rfl, Nat.zero_le _, e⟩
    · exact ⟨(15, 0, 7), by simp, rfl, Nat.zero_le _, e⟩
  · exact ⟨(16, 0, 1), by simp, rfl, Nat.zero_le _, e⟩
  · exact ⟨(17, 0, 59), by simp, rfl, Nat.zero_le _, e⟩
theorem zyFd_2 {id a k : Nat} (h1 : 200 ≤ id) (h2 : id < 300) (h : (a = 1 ∧ k ≤ 9) ∨ (a = 2 ∧ k ≤ 3) ∨ (10 ≤ a ∧ a ≤ 13 ∧ k ≤ 30) ∨ (14 ≤ a ∧ a ≤ 15 ∧ k ≤ 7) ∨ (a = 16 ∧ k ≤ 1) ∨ (a = 17 ∧ k ≤ 59)) : zyin (zyFd id) (a + 17) k = true := by
  have e1 : Nat.ble (Nat.succ id) 100 = false := by
    cases hq : Nat.ble (Nat.succ id) 100 with
    | false => rfl
    | true => have h3 : id + 1 ≤ 100 := zbleT hq; omega
  have e2 : Nat.ble (Nat.succ id) 200 = false := by
    cases hq : Nat.ble (Nat.succ id) 200 with
    | false => rfl
    | true => have h3 : id + 1 ≤ 200 := zbleT hq; omega
  have e3 : Nat.ble (Nat.succ id) 300 = true := Nat.ble_eq_true_of_le (by omega)
  unfold zyFd
  rw [e1, e2, e3, zif_f, zif_f, zif_t]
  rw [zyin_iff]
  rcases h with ⟨rfl, e⟩ | ⟨rfl, e⟩ | ⟨q1, q2, e⟩ | ⟨q1, q2, e⟩ | ⟨rfl, e⟩ | ⟨rfl, e⟩
  · exact ⟨(18, 0, 9), by simp, rfl, Nat.zero_le _, e⟩
  · exact ⟨(19, 0, 3), by simp, rfl, Nat.zero_le _, e⟩
  · have ha : a = 10 ∨ a = 11 ∨ a = 12 ∨ a = 13 := by omega
    rcases ha with rfl | rfl | rfl | rfl
    · exact ⟨(27, 0, 30), by simp, rfl, Nat.zero_le _, e⟩
    · exact ⟨(28, 0, 30), by simp, rfl, Nat.zero_le _, e⟩
    · exact ⟨(29, 0, 30), by simp, rfl, Nat.zero_le _, e⟩
    · exact ⟨(30, 0, 30), by simp, rfl, Nat.zero_le _, e⟩
  · have ha : a = 14 ∨ a = 15 := by omega
    rcases ha with rfl | rfl
    · exact ⟨(31, 0, 7), by simp, rfl, Nat.zero_le _, e⟩
    · exact ⟨(32, 0, 7), by simp, rfl, Nat.zero_le _, e⟩
  · exact ⟨(33, 0, 1), by simp, rfl, Nat.zero_le _, e⟩
  · exact ⟨(34, 0, 59), by simp, rfl, Nat.zero_le _, e⟩
theorem zyRc_congr {id : Nat} {E E2 : zyEm} {x y z : Int32} (h : ∀ a k, zyin (zyFd id) a k = true → E a k = E2 a k) (hr : zyRc id E x y z) : zyRc id E2 x y z := by
  rcases hr with ⟨h1, h2, h3⟩ | ⟨h1, h3⟩ | ⟨h1, h2, h3⟩ | ⟨h1, h3⟩ | h1
  · exact Or.inl ⟨h1, h2, by rw [h3, zyCt1_congr (fun a k hk => h _ _ (zyFd_1 (by omega) (by omega) hk))]⟩
  · exact Or.inr (Or.inl ⟨h1, by rw [h3, zyCta_congr (fun a k hk => h _ _ (zyFd_1 (by omega) (by omega) hk))]⟩)
  · exact Or.inr (Or.inr (Or.inl ⟨h1, h2, by rw [h3, zyCt1_congr (fun a k hk => h _ _ (zyFd_2 (by omega) (by omega) hk))]⟩))
  · exact Or.inr (Or.inr (Or.inr (Or.inl ⟨h1, by rw [h3, zyCta_congr (fun a k hk => h _ _ (zyFd_2 (by omega) (by omega) hk))]⟩)))
  · exact Or.inr (Or.inr (Or.inr (Or.inr h1)))
theorem zyRc_grow {id : Nat} {E : zyEm} {x y z : Int32} (h : 300 ≤ id) (hr : zyRc id E x y z) : zB x ≤ zB z ∧ zB z ≤ zB x + (id - 300) := by
  rcases hr with ⟨h1, h2, h3⟩ | ⟨h1, h3⟩ | ⟨h1, h2, h3⟩ | ⟨h1, h3⟩ | ⟨h1, h2, h3⟩ | ⟨h1, h3⟩
  · omega
  · omega
  · omega
  · omega
  · omega
  · have : zyNm y ≤ 3 := by unfold zyNm; split <;> omega
    omega
def zyJc0 (E : Nat → Nat → Option Value) : Prop := ∀ f g : Nat, (f = 4 ∧ g = 5) ∨ (f = 21 ∧ g = 22) → ∀ i, i ≤ 79 → ∀ z y : Int32, E f i = some (.int z) → E g i = some (.int y) → 2147483648 ≤ zB y → 2147483648 ≤ zB z
def zyJc : zyJt := (zyJc0, zyRc)
theorem zyJc_in {i : Nat} (hi : i ≤ 79) : zyin zydc 4 i = true ∧ zyin zydc 5 i = true ∧ zyin zydc 21 i = true ∧ zyin zydc 22 i = true := by
  refine ⟨zyin_iff.mpr ⟨(4, 0, 79), ?_, rfl, Nat.zero_le _, hi⟩, zyin_iff.mpr ⟨(5, 0, 79), ?_, rfl, Nat.zero_le _, hi⟩, zyin_iff.mpr ⟨(21, 0, 79), ?_, rfl, Nat.zero_le _, hi⟩, zyin_iff.mpr ⟨(22, 0, 79), ?_, rfl, Nat.zero_le _, hi⟩⟩ <;> simp [zydc]
theorem zyJc_p : zyJp zydc zyJc := by
  refine ⟨fun E E2 h hE f g hfg i hi z y hz hy hp => ?_, fun E hE p hp h1 i z y hin hz hy hpos => ?_, fun id E E2 x y z h hr => zyRc_congr (y := y) h hr, fun id E x y z h hr => zyRc_grow (y := y) h hr⟩
  · obtain ⟨q1, q2, q3, q4⟩ := zyJc_in hi
    refine hE f g hfg i hi z y ?_ ?_ hp
    · rcases hfg with ⟨e1, e2⟩ | ⟨e1, e2⟩
      · rw [e1] at hz ⊢
        rw [h 4 i q1]
        exact hz
      · rw [e1] at hz ⊢
        rw [h 21 i q3]
        exact hz
    · rcases hfg with ⟨e1, e2⟩ | ⟨e1, e2⟩
      · rw [e2] at hy ⊢
        rw [h 5 i q2]
        exact hy
      · rw [e2] at hy ⊢
        rw [h 22 i q4]
        exact hy
  · obtain ⟨p2, m1, m2, m3, m4⟩ := zyin_iff.mp hin
    have hp' : p = (100004, 5, 0) ∨ p = (100021, 22, 0) := by
      simp only [zydc, List.mem_cons, List.not_mem_nil, or_false] at hp
      rcases hp with e | e | e | e | e | e
      · rw [e] at h1; exact absurd h1 (by decide)
      · rw [e] at h1; exact absurd h1 (by decide)
      · rw [e] at h1; exact absurd h1 (by decide)
      · rw [e] at h1; exact absurd h1 (by decide)
      · exact Or.inl e
      · exact Or.inr e
    have hi : i ≤ 79 := by
      simp only [zydc, List.mem_cons, List.not_mem_nil, or_false] at m1
      rcases hp' with e | e <;> rw [e] at m2 <;> rcases m1 with e2 | e2 | e2 | e2 | e2 | e2 <;> rw [e2] at m2 m4 <;> first | exact m4 | (exfalso; revert m2; decide)
    rcases hp' with e | e
    · rw [e] at hz hy
      exact hE 4 5 (Or.inl ⟨rfl, rfl⟩) i hi z y hz hy hpos
    · rw [e] at hz hy
      exact hE 21 22 (Or.inr ⟨rfl, rfl⟩) i hi z y hz hy hpos
noncomputable def zyjck (m : List (Nat × Nat)) (f g : Nat) (n : Nat) : Bool := Nat.rec (motive := fun _ => Bool) true (fun i ih => zand (zylk false (fun vg => zylk false (fun vf => zand (Nat.beq (Nat.mod vg 8) 0) (zand (Nat.beq (Nat.mod vf 8) 0) (zif (Nat.ble 2147483648 (zb (Nat.div vg 8))) (Nat.ble 2147483648 (zb (Nat.div vf 8))) true))) (Nat.add (Nat.mul f 16384) i) m) (Nat.add (Nat.mul g 16384) i) m) ih) n
theorem zyjck1 {m : List (Nat × Nat)} {kf kg : Nat} (h1 : zylk false (fun vg => zylk false (fun vf => zand (Nat.beq (Nat.mod vg 8) 0) (zand (Nat.beq (Nat.mod vf 8) 0) (zif (Nat.ble 2147483648 (zb (Nat.div vg 8))) (Nat.ble 2147483648 (zb (Nat.div vf 8))) true))) kf m) kg m = true) : ∃ vf vg, zyl m kf = some vf ∧ zyl m kg = some vg ∧ vg % 8 = 0 ∧ vf % 8 = 0 ∧ (2147483648 ≤ zb (vg / 8) → 2147483648 ≤ zb (vf / 8)) := by
  rw [zylk_eq] at h1
  cases hg : zyl m kg with
  | none => rw [hg] at h1; cases h1
  | some vg =>
    rw [hg] at h1
    dsimp only at h1
    rw [zylk_eq] at h1
    cases hf : zyl m kf with
    | none => rw [hf] at h1; cases h1
    | some vf =>
      rw [hf] at h1
      obtain ⟨q1, q2⟩ := zand_iff h1
      obtain ⟨q2, q3⟩ := zand_iff q2
      refine ⟨vf, vg, rfl, rfl, zbeqT q1, zbeqT q2, fun hp => ?_⟩
      rcases zif_iff q3 with ⟨-, q4⟩ | ⟨q4, -⟩
      · exact zbleT q4
      · exact absurd hp (zbleF q4)
theorem zyjck_iff {m : List (Nat × Nat)} {f g : Nat} : ∀ {n : Nat}, zyjck m f g n = true → ∀ i, i < n → ∃ vf vg, zyl m (Nat.add (Nat.mul f 16384) i) = some vf ∧ zyl m (Nat.add (Nat.mul g 16384) i) = some vg ∧ vg % 8 = 0 ∧ vf % 8 = 0 ∧ (2147483648 ≤ zb (vg / 8) → 2147483648 ≤ zb (vf / 8)) := by
  intro n
  induction n with
  | zero => intro _ i hi; exact absurd hi (Nat.not_lt_zero i)
  | succ n ih =>
    intro h i hi
    obtain ⟨h1, h2⟩ := zand_iff (show zand _ (zyjck m f g n) = true from h)
    by_cases e : i = n
    · subst e
      exact zyjck1 h1
    · exact ih h2 i (Nat.lt_of_le_of_ne (Nat.le_of_lt_succ hi) e)
/-- where a frame's build writes -/
noncomputable def zyfpb (fr n : Nat) : zyR := [(fr, 0, 3), (Nat.add fr 1, 0, Nat.pred n), (Nat.add fr 2, 0, Nat.pred n), (Nat.add fr 3, 0, Nat.pred n), (Nat.add fr 4, 0, Nat.pred n), (Nat.add fr 5, 0, Nat.pred n), (Nat.add fr 6, 0, 30), (Nat.add fr 7, 0, 30)]
noncomputable def zyPb (fr n : Nat) : zyP := (zymc, fun _ => [], zyfpb fr n, [], 0)
noncomputable def zybtb (fr n : Nat) : zW → List Nat → zyM → Bool := fun w v m => zand (zyfitM w zymc m.1) (zand (List.rec (motive := fun _ => Bool) true (fun _ _ _ => false) v) (zyjck m.1 (Nat.add fr 2) (Nat.add fr 3) n))
noncomputable def zyκb (fr r c : Nat) : zyKt := (0, 5, [Nat.add (Nat.mul 8 fr) 3, Nat.mul 8 r, Nat.mul 8 c, 13, 13], [(0, 4294967295), (0, 4294967295), (0, 4294967295), (0, 4294967295), (0, 4294967295)], [], [])
noncomputable def zyrunb (fr r c : Nat) : Bool := zfr false (Nat.mul 4 (Nat.mul r c)) (fun n => zand (zywf 5 (zyκb fr r c)) (zand (zpad 5 (zexp [Nat.add (Nat.mul 8 fr) 3, Nat.mul 8 r, Nat.mul 8 c]) (fun l2 => zyincl (zyPb fr n) 5 (0, []) l2 [] (zyκb fr r c)))
  (zyok (zybtb fr n) (zyPb fr n) zystop0 200000 (5, (zyκb fr r c).2.2.2.1) zxi16 (16, 0, 0, 0, 0) 0 (zyκb fr r c).2.2.1 [] (3, 0, 0) [] ([], []))))
noncomputable def zyrunbs (fr r : Nat) : Bool := zand (zyrunb fr r 1) (zand (zyrunb fr r 2) (zand (zyrunb fr r 3) (zand (zyrunb fr r 4) (zyrunb fr r 5))))
end
section
/-! THE PRINTER: exact counts. What facts say -/
noncomputable def zyc (lo hi : Nat) : Nat := Nat.add (Nat.mul 8 (Nat.add (Nat.mul (Nat.add lo 2147483648) 4294967296) (Nat.add hi 2147483648))) 2
/-- of an element that was read: its bounds -/
noncomputable def zyfk (w : zW) (a j : Nat) (k : Nat → Nat → Bool) (F : List zyF) : Bool := List.rec (motive := fun _ => Bool) false (fun f _ ih => zif (zand (Nat.beq f.1 24) (zand (Nat.beq f.2.2.1 a) (Nat.beq f.2.2.2 (Nat.mul 8 j)))) (zbd w f.2.1 k) ih) F
theorem zyfk_iff {X : zyX} {w : zW} {a j : Nat} {k : Nat → Nat → Bool} (hE : zEnv (zyρ X) w.2) (hj : j < 2147483648) : ∀ {F : List zyF}, (∀ f ∈ F, zyFm X f) → zyfk w a j k F = true → ∃ (x : Int32) (lo hi : Nat), zyE X a j = some (.int x) ∧ lo ≤ zB x ∧ zB x ≤ hi ∧ k lo hi = true := by
  intro F
  induction F with
  | nil => intro _ h; cases h
  | cons f t ih =>
    intro hF h
    have h : zif (zand (Nat.beq f.1 24) (zand (Nat.beq f.2.2.1 a) (Nat.beq f.2.2.2 (8 * j)))) (zbd w f.2.1 k) (zyfk w a j k t) = true := h
    rcases zif_iff h with ⟨h1, h2⟩ | ⟨-, h2⟩
    · obtain ⟨g1, g2⟩ := zand_iff h1
      obtain ⟨g2, g3⟩ := zand_iff g2
      have g1 := zbeqT g1
      have g2 := zbeqT g2
      have g3 := zbeqT g3
      have hf := hF f List.mem_cons_self
      unfold zyFm at hf
      rw [if_pos g1] at hf
      obtain ⟨z, j2, q1, q2, q3, q4⟩ := hf
      obtain ⟨x, lo, hi, ex, b1, b2, h3⟩ := zybd_iff h2 hE q1
      have ex := Value.int.inj ex
      subst ex
      rw [g3] at q2
      have e1 := Value.int.inj (zyv_0 q2 (by omega))
      have e2 : Int32.ofNat j2 = Int32.ofNat j := by rw [e1, show 8 * j / 8 = j by omega]
      have e3 : (Int32.ofNat j2).toBitVec.toNat = (Int32.ofNat j).toBitVec.toNat := by rw [e2]
      rw [zN_of, zN_of] at e3
      have e4 : j2 = j := by omega
      rw [e4, g2] at q4
      exact ⟨_, lo, hi, q4, b1, b2, h3⟩
    · exact ih (fun f2 hf2 => hF f2 (List.mem_cons_of_mem _ hf2)) h2
/-- a symbol or a known int is one int -/
theorem zyv_one {ρ : Nat → Int32} {N : Nat} {ad : Nat → Nat} {v : Nat} {x y : Int32} (hv : v % 8 ≤ 1) (h1 : zyv ρ N ad v (.int x)) (h2 : zyv ρ N ad v (.int y)) : x = y := by
  by_cases h0 : v % 8 = 0
  · have e1 := Value.int.inj (zyv_0 h1 h0)
    have e2 := Value.int.inj (zyv_0 h2 h0)
    rw [e1, e2]
  · have e1 := Value.int.inj (zv_1 (zyv_zv h1 (by omega) (by omega)) (by omega))
    have e2 := Value.int.inj (zv_1 (zyv_zv h2 (by omega) (by omega)) (by omega))
    rw [e1, e2]
/-- the growth of an element over calls, back to what it was; u: a number of which isn't known how many digits it has, 13 none -/
noncomputable def zychn (w : zW) (root : Nat) (k : Nat → Nat → Bool) (F : List zyF) : Nat → Nat → Nat → Bool := List.rec (motive := fun _ => Nat → Nat → Nat → Bool) (fun v acc u => zif (Nat.beq v root) (k acc u) false)
  (fun f _ ih v acc u => zif (zand (Nat.ble 1300 f.1) (zand (Nat.beq f.2.1 v) (Nat.ble (Nat.mod v 8) 1))) (zif (Nat.beq f.1 1303) (zbd w f.2.2.2 (fun lo hi => zif (Nat.ble hi 2147483657) (zfr false (Nat.add acc 2) (fun a2 => ih f.2.2.1 a2 u)) (zif (Nat.ble 2147483658 lo) (zfr false (Nat.add acc 3) (fun a2 => ih f.2.2.1 a2 u)) (zif (Nat.beq u 13) (ih f.2.2.1 acc f.2.2.2) false)))) (zfr false (Nat.add acc (Nat.sub f.1 1300)) (fun a2 => ih f.2.2.1 a2 u))) (ih v acc u)) F
def zyund (X : zyX) (u n : Nat) : Prop := (u = 13 ∧ n = 0) ∨ ∃ y : Int32, zyV X u (.int y) ∧ n = zyNm y
theorem zyNm_lo {x : Int32} (h : zB x ≤ 2147483657) : zyNm x = 2 := by
  unfold zyNm
  have b := zB_int x
  have e : (10 : Int32).toInt = 10 := by decide
  rw [if_pos (by rw [Int32.lt_iff_toInt_lt]; omega)]
theorem zyNm_hi {x : Int32} (h : 2147483658 ≤ zB x) : zyNm x = 3 := by
  unfold zyNm
  have b := zB_int x
  have e : (10 : Int32).toInt = 10 := by decide
  rw [if_neg (by rw [Int32.lt_iff_toInt_lt]; omega)]
theorem zychn_iff {X : zyX} {w : zW} {root : Nat} {k : Nat → Nat → Bool} (hE : zEnv (zyρ X) w.2) (hJ : (zyJ X).2 = zyRc) (hr : root % 8 ≤ 1) {r : Int32} (hrt : zyV X root (.int r)) : ∀ {F : List zyF}, (∀ f ∈ F, zyFm X f) → ∀ (v acc u nu : Nat) (z : Int32), zyV X v (.int z) → zyund X u nu → zychn w root k F v acc u = true → ∃ c u2 nu2, k (acc + c) u2 = true ∧ zyund X u2 nu2 ∧ zB z + nu = zB r + c + nu2 := by
  intro F
  induction F with
  | nil =>
    intro _ v acc u nu z hv hu h
    have h : zif (Nat.beq v root) (k acc u) false = true := h
    rcases zif_iff h with ⟨h1, h2⟩ | ⟨-, h2⟩
    · have e := zbeqT h1
      subst e
      rw [zyv_one hr hv hrt]
      exact ⟨0, u, nu, h2, hu, rfl⟩
    · cases h2
  | cons f t ih =>
    intro hF v acc u nu z hv hu h
    have hFt : ∀ f2 ∈ t, zyFm X f2 := fun f2 hf2 => hF f2 (List.mem_cons_of_mem _ hf2)
    have h : zif (zand (Nat.ble 1300 f.1) (zand (Nat.beq f.2.1 v) (Nat.ble (Nat.mod v 8) 1))) (zif (Nat.beq f.1 1303) (zbd w f.2.2.2 (fun lo hi => zif (Nat.ble hi 2147483657) (zfr false (acc + 2) (fun a2 => zychn w root k t f.2.2.1 a2 u)) (zif (Nat.ble 2147483658 lo) (zfr false (acc + 3) (fun a2 => zychn w root k t f.2.2.1 a2 u)) (zif (Nat.beq u 13) (zychn w root k t f.2.2.1 acc f.2.2.2) false)))) (zfr false (acc + (f.1 - 1300)) (fun a2 => zychn w root k t f.2.2.1 a2 u))) (zychn w root k t v acc u) = true := h
    simp only [zfr_eq] at h
    rcases zif_iff h with ⟨h1, h2⟩ | ⟨-, h2⟩
    · obtain ⟨g1, g2⟩ := zand_iff h1
      obtain ⟨g2, g3⟩ := zand_iff g2
      have g1 := zbleT g1
      have g2 := zbeqT g2
      have g3 := zbleT g3
      have hf := hF f List.mem_cons_self
      obtain ⟨f0, f1, f2, f3⟩ := f
      dsimp only at *
      obtain ⟨id, rfl⟩ : ∃ id, f0 = 1000 + id := ⟨f0 - 1000, by omega⟩
      obtain ⟨x, y, z2, q1, q2, q3, q4⟩ := zyFm_rel hf
      rw [hJ] at q4
      rw [g2] at q1
      have ez := zyv_one (show v % 8 ≤ 1 from g3) hv q1
      subst ez
      rcases zif_iff h2 with ⟨h3, h4⟩ | ⟨h3, h4⟩
      · have h3 := zbeqT h3
        obtain ⟨y2, lo, hi, ey, b1, b2, h5⟩ := zybd_iff h4 hE q3
        have ey := Value.int.inj ey
        subst ey
        have hrel : zB z = zB x + zyNm y := by
          rcases q4 with ⟨a1, a2, a3⟩ | ⟨a1, a3⟩ | ⟨a1, a2, a3⟩ | ⟨a1, a3⟩ | ⟨a1, a2, a3⟩ | ⟨a1, a3⟩
          · omega
          · omega
          · omega
          · omega
          · omega
          · exact a3
        rcases zif_iff h5 with ⟨h6, h7⟩ | ⟨-, h7⟩
        · have h6 := zbleT h6
          rw [zyNm_lo (by omega)] at hrel
          obtain ⟨c, u2, nu2, c1, c2, c3⟩ := ih hFt _ _ u nu x q2 hu h7
          exact ⟨2 + c, u2, nu2, by rw [show acc + (2 + c) = acc + 2 + c by omega]; exact c1, c2, by omega⟩
        · rcases zif_iff h7 with ⟨h8, h9⟩ | ⟨-, h9⟩
          · have h8 := zbleT h8
            rw [zyNm_hi (by omega)] at hrel
            obtain ⟨c, u2, nu2, c1, c2, c3⟩ := ih hFt _ _ u nu x q2 hu h9
            exact ⟨3 + c, u2, nu2, by rw [show acc + (3 + c) = acc + 3 + c by omega]; exact c1, c2, by omega⟩
          · rcases zif_iff h9 with ⟨h10, h11⟩ | ⟨-, h11⟩
            · have h10 := zbeqT h10
              have hnu : nu = 0 := by
                rcases hu with ⟨-, e⟩ | ⟨y3, e, -⟩
                · exact e
                · rw [h10] at e
                  exact absurd (zyv_ik e) (by decide)
              obtain ⟨c, u2, nu2, c1, c2, c3⟩ := ih hFt _ _ f3 (zyNm y) x q2 (Or.inr ⟨y, q3, rfl⟩) h11
              exact ⟨c, u2, nu2, c1, c2, by omega⟩
            · cases h11
      · have h3 := zbeqF h3
        have hrel : zB z = zB x + (id - 300) := by
          rcases q4 with ⟨a1, a2, a3⟩ | ⟨a1, a3⟩ | ⟨a1, a2, a3⟩ | ⟨a1, a3⟩ | ⟨a1, a2, a3⟩ | ⟨a1, a3⟩
          · omega
          · omega
          · omega
          · omega
          · exact a3
          · omega
        obtain ⟨c, u2, nu2, c1, c2, c3⟩ := ih hFt _ _ u nu x q2 hu h4
        exact ⟨id - 300 + c, u2, nu2, by rw [show acc + (id - 300 + c) = acc + (1000 + id - 1300) + c by omega]; exact c1, c2, by omega⟩
    · exact ih hFt v acc u nu z hv hu h2
end
section
/-! THE PRINTER: one run, and loops over known indices -/
noncomputable def zyfw : zyR := [(37, 2, 2), (38, 0, 899)]
noncomputable def zynil (v : List Nat) : Bool := List.rec (motive := fun _ => Bool) true (fun _ _ _ => false) v
theorem zynil_iff {v : List Nat} (h : zynil v = true) : v = [] := by
  cases v with
  | nil => rfl
  | cons a t => cases h
theorem zyg37 : zG zymc 37 = some (4, 4, [(0, 0, 307), (1, 1, 73786976312018082850), (2, 2, 34359738362), (3, 3, 73786976312018075658)]) := rfl
theorem zyk37 : 606210 / 16384 = 37 ∧ 606210 % 16384 = 2 := by decide
theorem zyE37 {B : zCx} {s : State} (hI : zyMI zymc B zyJc s s.heap) : ∃ x : Int32, zyEl zymc B s.heap 37 2 = some (.int x) := by
  obtain ⟨w, h1, h2⟩ := hI.2.1 37 _ 2 zyg37 (by decide)
  obtain ⟨x, rfl⟩ := zyv_int (h2 (2, 2, 34359738362) (by simp) (by decide) (by decide)).2 (by decide)
  exact ⟨x, h1⟩
theorem zyM37 {P : zyP} {X : zyX} {s : State} {m : zyM} {H : Heap} {chk : Nat → Bool} (hP : P.1 = zymc) (hM : zyMem P X s m.1 H) (h : zylk false chk 606210 m.1 = true) : ∃ (cd : Nat) (v : Value), zyl m.1 606210 = some cd ∧ chk cd = true ∧ zyEl P.1 (zyb X) H 37 2 = some v ∧ zyV X cd v := by
  rw [zylk_eq] at h
  cases hq : zyl m.1 606210 with
  | none => rw [hq] at h; cases h
  | some cd =>
    rw [hq] at h
    obtain ⟨w, h1, h2⟩ := hM.2.1 37 _ 2 (by rw [hP]; exact zyg37) (by decide)
    unfold zyEt at h2
    rw [show 37 * 16384 + 2 = 606210 from rfl, hq] at h2
    exact ⟨cd, w, rfl, h, h1, h2⟩
theorem zysym_k (i : Nat) : zysym i % 8 ≤ 1 := by
  rw [zysym_def]
  omega
/-- one run -/
theorem zyonek {l : Launch} {y0 : Nat} {en : zEn} {me : zMe} (hen : zG zxMeta y0 = some en) (hme : zG zMeth y0 = some me) (hc0 : en.2.2.2.2.2.1 = 0) (hs0 : en.2.2.2.2.2.2.1 = 0) {C : Nat → List zyCt} (hCon : zyCons l (zymc, C, zyfw, zydc, 0) zyJc) {as1 : List Nat} {id dep pcode : Nat} {κ0 : zyKt} (chk : zW → List zyF → Nat → Bool) (hpc0 : κ0.1 = 0) (hkc : κ0.2.2.2.2.1 = [(606210, zysym en.2.2.1)]) (hwf : zywf en.2.2.1 κ0 = true)
    (hrun : zyok (fun w v m => zand (zyfitM w zymc m.1) (zand (zypre w zymc m.1 []) (zand (zynil v) (zylk false (fun cd => zand (Nat.ble (Nat.mod cd 8) 2) (chk w m.2 cd)) 606210 m.1)))) (zymc, C, zyfw, zydc, 0) zystop0 200000 (κ0.2.1, κ0.2.2.2.1) en.1 en.2.2.2.2 κ0.1 κ0.2.2.1 [] (dep, 0, 0) [] (κ0.2.2.2.2.1, []) = true)
    (hentry : zpad en.2.2.1 (zexp (299 :: as1)) (fun l2 => zyincl (zymc, C, zyfw, zydc, 0) en.2.2.1 (0, []) l2 [(606210, pcode)] κ0) = true) (hN : en.2.2.1 < κ0.2.1)
    (hrel : ∀ (X : zyX) (w : zW) (F : List zyF) (cd : Nat) (x z : Int32) (A : Array Value), zyJ X = zyJc → zySt (zyX0 (zyb X) zyJc) (299 :: as1) A.toList → zEnv (zyρ X) w.2 → (∀ f ∈ F, zyFm X f) → zyρ X en.2.2.1 = x → en.2.2.1 < zyN X → (∀ y, A.toList[1]? = some (.int y) → 1 < en.2.2.1 → zyρ X 1 = y) → chk w F cd = true → zyV X cd (.int z) → zyv (fun _ => 0) 0 (zad (zyb X)) pcode (.int x) → zyRc id (zyE X) x (zyAi A 1) z) : zyCon l zymc zyJc en me (299 :: as1, zyfw, [34359738362, id, 606210], dep, [(606210, pcode)], []) := by
  obtain ⟨me1, hme1, hOK⟩ := zall hen
  rw [hme] at hme1
  cases hme1
  refine zycutC (P := (zymc, C, zyfw, zydc, 0)) (J := zyJc) (K := [κ0]) (κ0 := κ0) (n := 200000) (bt := fun _ w v m => zand (zynil v) (zylk false (fun cd => zand (Nat.ble (Nat.mod cd 8) 2) (chk w m.2 cd)) 606210 m.1)) (stp := fun _ => zystop0) hOK hCon zyJc_p hc0 hs0 List.mem_cons_self hpc0 (fun κ hκ => by rw [List.mem_singleton.mp hκ]; exact hwf) (fun _ _ _ _ _ _ _ _ _ _ _ => rfl) (fun κ hκ => by rw [List.mem_singleton.mp hκ]; exact hrun) hentry (fun _ _ h => h)
    (fun B AsV κ s ρ H => zyEl zymc B s.heap 37 2 = some (.int (ρ en.2.2.1)) ∧ ∀ y, AsV[1]? = some (.int y) → 1 < en.2.2.1 → ρ 1 = y) (fun _ _ _ _ _ _ => 0) ?_ ?_ ?_
  · intro B AsV hA s lsA hK hI hPk hlv
    obtain ⟨x, hx⟩ := zyE37 hI
    refine ⟨?_, fun y hy hl => ?_⟩
    · have e := zyrho_c (B := zymc) (Y := B) (H := s.heap) (nL := en.2.2.1) (j := 0) (lsA := lsA) (kc := κ0.2.2.2.2.1) (p := (606210, zysym en.2.2.1)) (x := x) (by rw [hkc]; rfl) (by dsimp only; rw [zyk37.1, zyk37.2]; exact hx)
      rw [Nat.add_zero] at e
      show zyEl zymc B s.heap 37 2 = some (.int (zyrho zymc B s.heap en.2.2.1 lsA κ0.2.2.2.2.1 en.2.2.1))
      rw [e]
      exact hx
    · refine zyrho_l hl ?_
      obtain ⟨a0, t, rfl⟩ : ∃ a0 t, AsV = a0 :: .int y :: t := by
        match AsV, hy with
        | a0 :: b :: t, hy => cases hy; exact ⟨a0, t, rfl⟩
      have h0 : a0 = .ref (zad B 37) := zyv_3 (v := 299) hA.1 (by decide)
      subst h0
      exact hlv.2.2 (1, .int y) (List.mem_cons_of_mem _ List.mem_cons_self)
  · intro B AsV hA κ hκ s ρ H hPk hI hInv ρ2 N2 w pc ls st q m H2 locs2 lsB stA hs
    cases hs
  · intro B AsV hA κ hκ s ρ H hPk hI hInv ρ2 w v m t vo hbt hag hE hF hM hvo
    have eκ := List.mem_singleton.mp hκ
    subst eκ
    obtain ⟨b1, b2⟩ := zand_iff hbt
    have ev := zynil_iff b1
    subst ev
    cases vo with
    | some x => exact hvo.elim
    | none =>
      obtain ⟨cd, v, h1, h2, h3, h4⟩ := zyM37 (P := (zymc, C, zyfw, zydc, 0)) rfl hM b2
      obtain ⟨c0, x0, p1, p2, p3, p4, p5⟩ := hPk (606210, pcode) List.mem_cons_self
      dsimp only at p3
      rw [zyk37.1, zyk37.2] at p3
      rw [hInv.1] at p3
      cases p3
      obtain ⟨h2a, h2⟩ := zand_iff h2
      have hz : ∃ z : Int32, v = .int z := zyv_int h4 (zbleT h2a)
      obtain ⟨z, rfl⟩ := hz
      refine ⟨rfl, _, z, by rw [zyk37.1, zyk37.2]; exact hInv.1, by rw [zyk37.1, zyk37.2]; exact h3, zyv_bd (lo := 0) (hi := 4294967295) (Nat.zero_le _) (by have := zB_lt z; omega) (by decide), ?_⟩
      exact hrel (B, ρ2, w.1, ρ, κ.2.1, (zyEl zymc B s.heap, fun q => s.heap[q]?), zyJc) w m.2 cd _ z AsV.toArray rfl (by rw [show AsV.toArray.toList = AsV by simp]; exact hA) hE hF (hag.2 _ hN) (Nat.lt_of_lt_of_le hN hag.1) (fun y hy hl => by
        rw [show AsV.toArray.toList = AsV by simp] at hy
        exact (hag.2 1 (by omega)).trans (hInv.2 y hy hl)) h2 h4 p5
end
section
/-! THE PRINTER: texts, numbers -/
theorem zyaddB {X : zyX} {i c : Nat} {x z : Int32} (hx : zyρ X i = x) (hz : zyV X (Nat.add (zysym i) (Nat.mul 8 c)) (.int z)) (hb : zB x + c < 4294967296) (hc : c < 2147483648) : zB z = zB x + c := by
  have hz : zyV X (i * 34359738368 + 1 + 8 * c) (.int z) := hz
  have e := Value.int.inj (zv_1 (zyv_zv hz (by omega) (by omega)) (by omega))
  rw [show (i * 34359738368 + 1 + 8 * c) / 34359738368 = i by omega, show (i * 34359738368 + 1 + 8 * c) / 8 % 4294967296 = c by omega] at e
  have e : z = zyρ X i + Int32.ofNat c := e
  rw [hx] at e
  have e2 : zB (Int32.ofNat c) = c + 2147483648 := zB_nI hc
  rw [e, zB_add2 (by omega) (by omega), e2]
  omega
/-- so many more than a symbol -/
noncomputable def zyisp (w : zW) (i c cd : Nat) : Bool := zif (Nat.beq cd (Nat.add (zysym i) (Nat.mul 8 c))) true (zand (Nat.beq (Nat.mod cd 8) 0) (zbd w (zysym i) (fun lo hi => zand (Nat.beq lo hi) (zand (Nat.beq (Nat.add (Nat.div cd 8) 2147483648) (Nat.add lo c)) (Nat.ble (Nat.add lo c) 4294967295)))))
theorem zyisp_iff {X : zyX} {w : zW} {i c cd : Nat} {x z : Int32} (h : zyisp w i c cd = true) (hE : zEnv (zyρ X) w.2) (hi : i < zyN X) (hx : zyρ X i = x) (hz : zyV X cd (.int z)) (hb : zB x + c < 4294967296) (hc : c < 2147483648) : zB z = zB x + c := by
  unfold zyisp at h
  rcases zif_iff h with ⟨h1, -⟩ | ⟨-, h2⟩
  · have e := zbeqT h1
    subst e
    exact zyaddB hx hz hb hc
  · obtain ⟨g1, g2⟩ := zand_iff h2
    have g1 : cd % 8 = 0 := zbeqT g1
    obtain ⟨x2, lo, hi2, e2, c1, c2, hk⟩ := zybd_iff g2 hE (zyv_sym (ad := zad (zyb X)) hi hx)
    have e2 := Value.int.inj e2
    subst e2
    obtain ⟨k1, k2⟩ := zand_iff hk
    obtain ⟨k2, k3⟩ := zand_iff k2
    have k1 := zbeqT k1
    have k2 : cd / 8 + 2147483648 = lo + c := zbeqT k2
    have k3 : lo + c ≤ 4294967295 := zbleT k3
    have e := Value.int.inj (zyv_0 hz g1)
    rw [e, show zB (Int32.ofNat (cd / 8)) = cd / 8 + 2147483648 from zB_nI (by omega)]
    omega
theorem zyc_iff {ρ : Nat → Int32} {N : Nat} {ad : Nat → Nat} {lo hi : Nat} {x : Int32} (hh : hi < 2147483648) (h : zyv ρ N ad (zyc lo hi) (.int x)) : lo + 2147483648 ≤ zB x ∧ zB x ≤ hi + 2147483648 := by
  have h : zyv ρ N ad (8 * ((lo + 2147483648) * 4294967296 + (hi + 2147483648)) + 2) (.int x) := h
  obtain ⟨x2, e, b1, b2⟩ := zv_2 (zyv_zv h (by omega) (by omega)) (by omega)
  have e := Value.int.inj e
  subst e
  exact ⟨by omega, by omega⟩
noncomputable def zyκT (i : Nat) : zyKt := (0, 4, [299, Nat.add (Nat.mul 8 (Nat.add 100000 i)) 3, 13], [(0, 4294967295), (0, 4294967295), (0, 4294967295), (2147483648, 2147573648)], [(606210, zysym 3)], [])
noncomputable def zychT (len : Nat) : zW → List zyF → Nat → Bool := fun w _ cd => zyisp w 3 len cd
noncomputable def zyrunTx (i len : Nat) : Bool := zand (zywf 3 (zyκT i)) (zand (zyok (fun w v m => zand (zyfitM w zymc m.1) (zand (zypre w zymc m.1 []) (zand (zynil v) (zylk false (fun cd => zand (Nat.ble (Nat.mod cd 8) 2) (zychT len w m.2 cd)) 606210 m.1)))) (zymc, fun _ => [], zyfw, zydc, 0) zystop0 200000 ((zyκT i).2.1, (zyκT i).2.2.2.1) zxi53 (53, 0, 0, 0, 0) (zyκT i).1 (zyκT i).2.2.1 [] (6, 0, 0) [] ((zyκT i).2.2.2.2.1, []))
  (zpad 3 (zexp (299 :: [Nat.add (Nat.mul 8 (Nat.add 100000 i)) 3])) (fun l2 => zyincl (zymc, fun _ => [], zyfw, zydc, 0) 3 (0, []) l2 [(606210, zyc 0 90000)] (zyκT i))))
theorem zyrunTx_all : zand (zyrunTx 9 4) (zand (zyrunTx 10 1) (zand (zyrunTx 11 6) (zand (zyrunTx 12 6) (zand (zyrunTx 13 5) (zand (zyrunTx 14 6) (zand (zyrunTx 15 6) (zand (zyrunTx 16 4) (zand (zyrunTx 17 5) (zand (zyrunTx 18 4) (zyrunTx 19 2)))))))))) = true := by decide +kernel
noncomputable def zyctT (i len : Nat) : zyCt := (299 :: [Nat.add (Nat.mul 8 (Nat.add 100000 i)) 3], zyfw, [34359738362, Nat.add 300 len, 606210], 6, [(606210, zyc 0 90000)], [])
theorem zyno {l : Launch} {P : zyP} {J : zyJt} (h : P.2.1 = fun _ => []) : zyCons l P J := by
  intro y2 ct en2 me2 hct
  rw [h] at hct
  cases hct
theorem zytext {l : Launch} {i len : Nat} (hr : zyrunTx i len = true) (hl : ¬ len = 3) (hl6 : len ≤ 6) {en : zEn} {me : zMe} (hen : zG zxMeta 53 = some en) (hme : zG zMeth 53 = some me) : zyCon l zymc zyJc en me (zyctT i len) := by
  have een : zG zxMeta 53 = some (zxi53, 2, 3, 4, 53, 0, 0, 0, 0) := rfl
  rw [een] at hen
  cases hen
  obtain ⟨q1, q2⟩ := zand_iff hr
  obtain ⟨q2, q3⟩ := zand_iff q2
  refine zyonek (κ0 := zyκT i) (chk := zychT len) (C := fun _ => []) (pcode := zyc 0 90000) (id := 300 + len) een hme rfl rfl (zyno rfl) rfl rfl q1 q2 q3 (Nat.lt_succ_self _) ?_
  intro X w F cd x z A hJ hA hE hF hx hN _ hch hz hp
  have hb := zyc_iff (by decide) hp
  exact Or.inr (Or.inr (Or.inr (Or.inr (Or.inl ⟨by omega, by omega, by rw [zyisp_iff hch hE hN hx hz (by omega) (by omega)]; omega⟩))))
noncomputable def zyκN : zyKt := (0, 3, [299, zysym 1], [(0, 4294967295), (2147483648, 2147483747), (2147483648, 2147573648)], [(606210, zysym 2)], [])
noncomputable def zychN : zW → List zyF → Nat → Bool := fun w _ cd => zbd w (zysym 1) (fun lo hi => zif (Nat.ble hi 2147483657) (zyisp w 2 2 cd) (zif (Nat.ble 2147483658 lo) (zyisp w 2 3 cd) false))
theorem zyrunN : zand (zywf 2 zyκN) (zand (zyok (fun w v m => zand (zyfitM w zymc m.1) (zand (zypre w zymc m.1 []) (zand (zynil v) (zylk false (fun cd => zand (Nat.ble (Nat.mod cd 8) 2) (zychN w m.2 cd)) 606210 m.1)))) (zymc, fun _ => [], zyfw, zydc, 0) zystop0 200000 (zyκN.2.1, zyκN.2.2.2.1) zxi54 (54, 0, 0, 0, 0) zyκN.1 zyκN.2.2.1 [] (4, 0, 0) [] (zyκN.2.2.2.2.1, []))
  (zpad 2 (zexp (299 :: [zyc 0 99])) (fun l2 => zyincl (zymc, fun _ => [], zyfw, zydc, 0) 2 (0, []) l2 [(606210, zyc 0 90000)] zyκN))) = true := by decide +kernel
noncomputable def zyctN : zyCt := (299 :: [zyc 0 99], zyfw, [34359738362, 303, 606210], 4, [(606210, zyc 0 90000)], [])
theorem zynumber {l : Launch} {en : zEn} {me : zMe} (hen : zG zxMeta 54 = some en) (hme : zG zMeth 54 = some me) : zyCon l zymc zyJc en me zyctN := by
  have een : zG zxMeta 54 = some (zxi54, 2, 2, 4, 54, 0, 0, 0, 0) := rfl
  rw [een] at hen
  cases hen
  obtain ⟨q1, q2⟩ := zand_iff zyrunN
  obtain ⟨q2, q3⟩ := zand_iff q2
  refine zyonek (κ0 := zyκN) (chk := zychN) (C := fun _ => []) (pcode := zyc 0 90000) (id := 303) een hme rfl rfl (zyno rfl) rfl rfl q1 q2 q3 (Nat.lt_succ_self _) ?_
  intro X w F cd x z A hJ hA hE hF hx hN h1 hch hz hp
  have hb := zyc_iff (by decide) hp
  obtain ⟨b0, t0, eA, -, hA1⟩ := zySt_c hA
  obtain ⟨b1, t1, e1, hA1, -⟩ := zySt_c hA1
  obtain ⟨y, rfl⟩ := zyv_int hA1 (by decide)
  subst e1
  have hy := h1 y (by rw [eA]; rfl) (by decide)
  have ey : zyAi A 1 = y := by
    unfold zyAi
    rw [eA]
    rfl
  rw [ey]
  have hs : zyV X (zysym 1) (.int y) := zyv_sym (Nat.lt_of_lt_of_le (by decide) (Nat.le_of_lt hN)) hy
  obtain ⟨y2, lo, hi, e2, c1, c2, hk⟩ := zybd_iff hch hE hs
  have e2 := Value.int.inj e2
  subst e2
  refine Or.inr (Or.inr (Or.inr (Or.inr (Or.inr ⟨rfl, ?_⟩))))
  rcases zif_iff hk with ⟨k1, k2⟩ | ⟨-, k2⟩
  · have k1 := zbleT k1
    rw [zyNm_lo (by omega), zyisp_iff k2 hE hN hx hz (by omega) (by omega)]
  · rcases zif_iff k2 with ⟨k3, k4⟩ | ⟨-, k4⟩
    · have k3 := zbleT k3
      rw [zyNm_hi (by omega), zyisp_iff k4 hE hN hx hz (by omega) (by omega)]
    · cases k4
end
section
/-! THE PRINTER: its loops -/
noncomputable def zyAll (f : Nat → Bool) (n : Nat) : Bool := Nat.rec (motive := fun _ => Bool) true (fun i ih => zand (f i) ih) n
theorem zyAll_iff {f : Nat → Bool} : ∀ {n : Nat}, zyAll f n = true → ∀ i, i < n → f i = true := by
  intro n
  induction n with
  | zero => intro _ i hi; omega
  | succ n ih =>
    intro h i hi
    have h : zand (f n) (zyAll f n) = true := h
    obtain ⟨h1, h2⟩ := zand_iff h
    by_cases e : i = n
    · subst e; exact h1
    · exact ih h2 i (by omega)
noncomputable def zyfulls (p : Nat × Nat) (n : Nat) : List (Nat × Nat) := Nat.rec (motive := fun _ => List (Nat × Nat)) [p] (fun _ ih => (0, 4294967295) :: ih) n
/-- the cut at a loop's head: h where, tl the locals behind the index, b the most that may be written there -/
noncomputable def zyκs (h nL pl : Nat) (tl : List Nat) (b s : Nat) : zyKt := (h, Nat.succ nL, 299 :: pl :: Nat.mul 8 s :: tl, zyfulls (2147483648, Nat.add 2147483648 (Nat.add b (Nat.mul 25 s))) nL, [(606210, zysym nL)], [])
noncomputable def zyκe (nL pl : Nat) (tl : List Nat) (b : Nat) : zyKt := (0, Nat.succ nL, 299 :: pl :: 13 :: tl, zyfulls (2147483648, Nat.add 2147483648 b) nL, [(606210, zysym nL)], [])
noncomputable def zysof (κ : zyKt) : Nat := Nat.div (zyag κ.2.2.1 2) 8
/-- counts: hd ahead of the loop, then each round's, tail behind -/
noncomputable def zystL (P : zyP) (h nL pl : Nat) (tl : List Nat) (b b0 : Nat) (hd : Nat) (bx : Nat → zW → List zyF → Nat → Nat → Bool) (κ : zyKt) : zyK := fun w _ _ pc ls st _ fs m => List.rec (motive := fun _ => Bool) (List.rec (motive := fun _ => Bool) (zif (Nat.beq pc h)
  (zif (Nat.beq κ.1 0) (zand (zyincl P nL w ls m.1 (zyκs h nL pl tl b 0)) (zylk false (fun cd => zand (Nat.ble (Nat.mod cd 8) 2) (zychn w (zysym nL) (fun c u => zand (Nat.beq u 13) (Nat.beq c hd)) m.2 cd 0 13)) 606210 m.1))
    (zfr false (zysof κ) (fun s => zand (zyincl P nL w ls m.1 (zyκs h nL pl tl b (Nat.succ s))) (zylk false (fun cd => zand (Nat.ble (Nat.mod cd 8) 2) (zychn w (zysym nL) (fun c u => bx s w m.2 c u) m.2 cd 0 13)) 606210 m.1)))) false) (fun _ _ _ => false) st) (fun _ _ _ => false) fs
noncomputable def zybtL (nL : Nat) (res : Nat) (ex : Nat → zW → List zyF → Nat → Nat → Bool) (κ : zyKt) : zW → List Nat → zyM → Bool := fun w v m => zand (zynil v) (zif (Nat.beq κ.1 0) false (zfr false (zysof κ) (fun s => zylk false (fun cd => zand (Nat.ble (Nat.mod cd 8) 2) (zand (zysub w cd res) (zychn w (zysym nL) (fun c u => ex s w m.2 c u) m.2 cd 0 13))) 606210 m.1)))
theorem zysof_s {h nL pl : Nat} {tl : List Nat} {b s : Nat} : zysof (zyκs h nL pl tl b s) = s := by
  show 8 * s / 8 = s
  omega
theorem zystL_no {P : zyP} {h nL pl : Nat} {tl : List Nat} {b b0 hd : Nat} {bx : Nat → zW → List zyF → Nat → Nat → Bool} : ∀ κ w cf y pc ls st q f fs m, zystL P h nL pl tl b b0 hd bx κ w cf y pc ls st q (f :: fs) m = false := fun _ _ _ _ _ _ _ _ _ _ _ => rfl
theorem zystL_iff {P : zyP} {h nL pl : Nat} {tl : List Nat} {b b0 hd : Nat} {bx : Nat → zW → List zyF → Nat → Nat → Bool} {κ : zyKt} {w : zW} {cf : Nat → zT} {y : zY} {pc : Nat} {ls st : List Nat} {q : zQ} {m : zyM} (hh : zystL P h nL pl tl b b0 hd bx κ w cf y pc ls st q [] m = true) : st = [] ∧ pc = h ∧ ((κ.1 = 0 ∧ zyincl P nL w ls m.1 (zyκs h nL pl tl b 0) = true ∧ zylk false (fun cd => zand (Nat.ble (Nat.mod cd 8) 2) (zychn w (zysym nL) (fun c u => zand (Nat.beq u 13) (Nat.beq c hd)) m.2 cd 0 13)) 606210 m.1 = true) ∨ (¬ κ.1 = 0 ∧ zyincl P nL w ls m.1 (zyκs h nL pl tl b (zysof κ + 1)) = true ∧ zylk false (fun cd => zand (Nat.ble (Nat.mod cd 8) 2) (zychn w (zysym nL) (fun c u => bx (zysof κ) w m.2 c u) m.2 cd 0 13)) 606210 m.1 = true)) := by
  cases st with
  | cons a t => cases hh
  | nil =>
    have hh : zif (Nat.beq pc h) (zif (Nat.beq κ.1 0) (zand (zyincl P nL w ls m.1 (zyκs h nL pl tl b 0)) (zylk false (fun cd => zand (Nat.ble (Nat.mod cd 8) 2) (zychn w (zysym nL) (fun c u => zand (Nat.beq u 13) (Nat.beq c hd)) m.2 cd 0 13)) 606210 m.1))
    (zfr false (zysof κ) (fun s => zand (zyincl P nL w ls m.1 (zyκs h nL pl tl b (Nat.succ s))) (zylk false (fun cd => zand (Nat.ble (Nat.mod cd 8) 2) (zychn w (zysym nL) (fun c u => bx s w m.2 c u) m.2 cd 0 13)) 606210 m.1)))) false = true := hh
    rw [zfr_eq] at hh
    rcases zif_iff hh with ⟨h1, h2⟩ | ⟨-, h2⟩
    · refine ⟨rfl, zbeqT h1, ?_⟩
      rcases zif_iff h2 with ⟨h3, h4⟩ | ⟨h3, h4⟩
      · obtain ⟨g1, g2⟩ := zand_iff h4
        exact Or.inl ⟨zbeqT h3, g1, g2⟩
      · obtain ⟨g1, g2⟩ := zand_iff h4
        exact Or.inr ⟨zbeqF h3, g1, g2⟩
    · cases h2
theorem zyloopk {l : Launch} {y0 : Nat} {en : zEn} {me : zMe} (hen : zG zxMeta y0 = some en) (hme : zG zMeth y0 = some me) (hc0 : en.2.2.2.2.2.1 = 0) (hs0 : en.2.2.2.2.2.2.1 = 0) {C : Nat → List zyCt} (hCon : zyCons l (zymc, C, zyfw, zydc, 0) zyJc) {id dep res hh pl b b0 hd tail nS nL : Nat} {tl : List Nat} (hnL : en.2.2.1 = nL) (hh0 : ¬ hh = 0) (bx ex : Nat → zW → List zyF → Nat → Nat → Bool)
    (hwf : zywf nL (zyκe nL pl tl b0) = true) (hwfs : zyAll (fun s => zywf nL (zyκs hh nL pl tl b s)) nS = true)
    (hrune : zyok (fun w v m => zand (zyfitM w zymc m.1) (zand (zypre w zymc m.1 []) (zybtL nL res ex (zyκe nL pl tl b0) w v m))) (zymc, C, zyfw, zydc, 0) (zystL (zymc, C, zyfw, zydc, 0) hh nL pl tl b b0 hd bx (zyκe nL pl tl b0)) 200000 ((zyκe nL pl tl b0).2.1, (zyκe nL pl tl b0).2.2.2.1) en.1 en.2.2.2.2 0 (zyκe nL pl tl b0).2.2.1 [] (dep, 0, 0) [] ((zyκe nL pl tl b0).2.2.2.2.1, []) = true)
    (hruns : zyAll (fun s => zyok (fun w v m => zand (zyfitM w zymc m.1) (zand (zypre w zymc m.1 []) (zybtL nL res ex (zyκs hh nL pl tl b s) w v m))) (zymc, C, zyfw, zydc, 0) (zystL (zymc, C, zyfw, zydc, 0) hh nL pl tl b b0 hd bx (zyκs hh nL pl tl b s)) 200000 ((zyκs hh nL pl tl b s).2.1, (zyκs hh nL pl tl b s).2.2.2.1) en.1 en.2.2.2.2 hh (zyκs hh nL pl tl b s).2.2.1 [] (dep, 0, 0) [] ((zyκs hh nL pl tl b s).2.2.2.2.1, [])) nS = true)
    (hentry : zpad nL (zexp [299, pl]) (fun l2 => zyincl (zymc, C, zyfw, zydc, 0) nL (0, []) l2 [(606210, zyc 0 b0)] (zyκe nL pl tl b0)) = true)
    (inc : zyEm → Nat → Nat) (cnt : zyEm → Nat) (hnS : 0 < nS ∧ nS ≤ 1000) (hcn : ∀ E, cnt E < nS)
    (hbx : ∀ (X : zyX) (w : zW) (F : List zyF) (s c u nu : Nat), zyJ X = zyJc → zEnv (zyρ X) w.2 → (∀ f ∈ F, zyFm X f) → s < nS → bx s w F c u = true → zyund X u nu → inc (zyE X) s = c + nu ∧ s < cnt (zyE X))
    (hex : ∀ (X : zyX) (w : zW) (F : List zyF) (s c u nu : Nat), zyJ X = zyJc → zEnv (zyρ X) w.2 → (∀ f ∈ F, zyFm X f) → s < nS → ex s w F c u = true → zyund X u nu → c + nu = tail ∧ cnt (zyE X) ≤ s)
    (hrel : ∀ (E : zyEm) (x y z : Int32), zB z = zB x + hd + zySum (inc E) (cnt E) + tail → zyRc id E x y z) : zyCon l zymc zyJc en me ([299, pl], zyfw, [res, id, 606210], dep, [(606210, zyc 0 b0)], []) := by
  obtain ⟨me1, hme1, hOK⟩ := zall hen
  rw [hme] at hme1
  cases hme1
  have hK : ∀ κ, κ ∈ zyκe nL pl tl b0 :: (List.range nS).map (zyκs hh nL pl tl b) → κ = zyκe nL pl tl b0 ∨ ∃ s, s < nS ∧ κ = zyκs hh nL pl tl b s := by
    intro κ hκ
    rcases List.mem_cons.mp hκ with e | e
    · exact Or.inl e
    · obtain ⟨s, h1, h2⟩ := List.mem_map.mp e
      exact Or.inr ⟨s, List.mem_range.mp h1, h2.symm⟩
  have hKs : ∀ s, s < nS → zyκs hh nL pl tl b s ∈ zyκe nL pl tl b0 :: (List.range nS).map (zyκs hh nL pl tl b) := fun s hs => List.mem_cons_of_mem _ (List.mem_map.mpr ⟨s, List.mem_range.mpr hs, rfl⟩)
  subst hnL
  refine zycutC (P := (zymc, C, zyfw, zydc, 0)) (J := zyJc) (K := zyκe en.2.2.1 pl tl b0 :: (List.range nS).map (zyκs hh en.2.2.1 pl tl b)) (κ0 := zyκe en.2.2.1 pl tl b0) (n := 200000) (bt := zybtL en.2.2.1 res ex) (stp := zystL (zymc, C, zyfw, zydc, 0) hh en.2.2.1 pl tl b b0 hd bx) hOK hCon zyJc_p hc0 hs0 List.mem_cons_self rfl ?_ zystL_no ?_ hentry (fun _ _ h => h)
    (fun B AsV κ s ρ H => ∃ x : Int32, zyEl zymc B s.heap 37 2 = some (.int x) ∧ ((κ = zyκe en.2.2.1 pl tl b0 ∧ ρ en.2.2.1 = x) ∨ ∃ i, i < nS ∧ κ = zyκs hh en.2.2.1 pl tl b i ∧ i ≤ cnt (zyEl zymc B s.heap) ∧ zB (ρ en.2.2.1) = zB x + hd + zySum (inc (zyEl zymc B s.heap)) i)) (fun _ _ κ _ _ _ => if κ.1 = 0 then 100000 else 99999 - zysof κ) ?_ ?_ ?_
  · intro κ hκ
    rcases hK κ hκ with e | ⟨s, hs, e⟩
    · rw [e]; exact hwf
    · rw [e]; exact zyAll_iff hwfs s hs
  · intro κ hκ
    rcases hK κ hκ with e | ⟨s, hs, e⟩
    · rw [e]; exact hrune
    · rw [e]; exact zyAll_iff hruns s hs
  · intro B AsV hA s lsA hKn hI hPk hlv
    obtain ⟨x, hx⟩ := zyE37 hI
    refine ⟨x, hx, Or.inl ⟨rfl, ?_⟩⟩
    have e := zyrho_c (B := zymc) (Y := B) (H := s.heap) (nL := en.2.2.1) (j := 0) (lsA := lsA) (kc := (zyκe en.2.2.1 pl tl b0).2.2.2.2.1) (p := (606210, zysym en.2.2.1)) (x := x) rfl (by dsimp only; rw [zyk37.1, zyk37.2]; exact hx)
    rw [Nat.add_zero] at e
    exact e
  · intro B AsV hA κ hκ s ρ H hPk hI hInv ρ2 N2 w pc ls st q m H2 locs2 lsB stA hs hag hR
    obtain ⟨x, hx, hInv⟩ := hInv
    obtain ⟨est, hpc, hcase⟩ := zystL_iff hs
    have hNN : en.2.2.1 < N2 := by
      have h1 : κ.2.1 ≤ N2 := hR.1.2.2.1.1
      rcases hK κ hκ with e | ⟨i, -, e⟩
      · rw [e] at h1; exact h1
      · rw [e] at h1; exact h1
    have hag0 : ρ2 en.2.2.1 = ρ en.2.2.1 := by
      refine hag _ ?_
      rcases hK κ hκ with e | ⟨i, -, e⟩
      · rw [e]; exact Nat.lt_succ_self _
      · rw [e]; exact Nat.lt_succ_self _
    have key : ∀ (k : Nat → Nat → Bool), zylk false (fun cd => zand (Nat.ble (Nat.mod cd 8) 2) (zychn w (zysym en.2.2.1) k m.2 cd 0 13)) 606210 m.1 = true → ∃ (z : Int32) (c u nu : Nat), (∀ i, zyrho zymc B H2 en.2.2.1 lsB (zyκs hh en.2.2.1 pl tl b i).2.2.2.2.1 en.2.2.1 = z) ∧ k c u = true ∧ zyund (B, ρ2, N2, ρ, κ.2.1, (zyEl zymc B s.heap, fun q => s.heap[q]?), zyJc) u nu ∧ zB z = zB (ρ en.2.2.1) + c + nu := by
      intro k hk
      obtain ⟨cd, v, h1, h2, h3, h4⟩ := zyM37 (P := (zymc, C, zyfw, zydc, 0)) rfl hR.2.1 hk
      obtain ⟨h2a, h2⟩ := zand_iff h2
      obtain ⟨z, rfl⟩ := zyv_int h4 (zbleT h2a)
      obtain ⟨c, u, nu, c1, c2, c3⟩ := zychn_iff (r := ρ2 en.2.2.1) hR.1.1 rfl (zysym_k _) (zyv_sym hNN rfl) hR.1.2.2.2 cd 0 13 0 z h4 (Or.inl ⟨rfl, rfl⟩) h2
      refine ⟨z, c, u, nu, fun i => ?_, by rw [Nat.zero_add] at c1; exact c1, c2, by rw [← hag0]; exact c3⟩
      have e := zyrho_c (B := zymc) (Y := B) (H := H2) (nL := en.2.2.1) (j := 0) (lsA := lsB) (kc := (zyκs hh en.2.2.1 pl tl b i).2.2.2.2.1) (p := (606210, zysym en.2.2.1)) (x := z) rfl (by dsimp only; rw [zyk37.1, zyk37.2]; exact h3)
      rw [Nat.add_zero] at e
      exact e
    rcases hcase with ⟨hk0, hin, hl⟩ | ⟨hk0, hin, hl⟩
    · obtain ⟨z, c, u, nu, hz1, hz2, hz4, hz3⟩ := key _ hl
      obtain ⟨hz5, hz2⟩ := zand_iff hz2
      have hz5 := zbeqT hz5
      have hz2 := zbeqT hz2
      have hnu : nu = 0 := by
        rcases hz4 with ⟨-, e⟩ | ⟨y3, e, -⟩
        · exact e
        · rw [hz5] at e
          exact absurd (zyv_ik e) (by decide)
      rcases hInv with ⟨eκ, hρ⟩ | ⟨i, hi, eκ, -⟩
      rotate_left
      · rw [eκ] at hk0; exact absurd hk0 hh0
      refine ⟨zyκs hh en.2.2.1 pl tl b 0, hKs 0 hnS.1, est, hpc, ⟨w, rfl, hR.1.1, hin⟩, ⟨x, hx, Or.inr ⟨0, hnS.1, rfl, Nat.zero_le _, ?_⟩⟩, ?_⟩
      · rw [hz1 0, hz3, hρ, hz2, hnu]
        rfl
      · rw [if_pos hk0, if_neg (show ¬ (zyκs hh en.2.2.1 pl tl b 0).1 = 0 from hh0)]
        omega
    · obtain ⟨z, c, u, nu, hz1, hz2, hz4, hz3⟩ := key _ hl
      rcases hInv with ⟨eκ, hρ⟩ | ⟨i, hi, eκ, hic, hsum⟩
      · rw [eκ] at hk0; exact absurd rfl hk0
      have esi : zysof κ = i := by rw [eκ]; exact zysof_s
      rw [esi] at hz2 hin
      obtain ⟨q1, q2⟩ := hbx (B, ρ2, N2, ρ, κ.2.1, (zyEl zymc B s.heap, fun q => s.heap[q]?), zyJc) w m.2 i c u nu rfl hR.1.1 hR.1.2.2.2 hi hz2 hz4
      have q2 : i < cnt (zyEl zymc B s.heap) := q2
      have q1 : inc (zyEl zymc B s.heap) i = c + nu := q1
      have hcn1 := hcn (zyEl zymc B s.heap)
      refine ⟨zyκs hh en.2.2.1 pl tl b (i + 1), hKs (i + 1) (by omega), est, hpc, ⟨w, rfl, hR.1.1, hin⟩, ⟨x, hx, Or.inr ⟨i + 1, by omega, rfl, q2, ?_⟩⟩, ?_⟩
      · rw [hz1 (i + 1), hz3, hsum]
        show zB x + hd + zySum (inc (zyEl zymc B s.heap)) i + c + nu = zB x + hd + (zySum (inc (zyEl zymc B s.heap)) i + inc (zyEl zymc B s.heap) i)
        omega
      · rw [if_neg hk0, if_neg (show ¬ (zyκs hh en.2.2.1 pl tl b (i + 1)).1 = 0 from hh0), esi, zysof_s]
        omega
  · intro B AsV hA κ hκ s ρ H hPk hI hInv ρ2 w v m t vo hbt hag hE hF hM hvo
    obtain ⟨x, hx, hInv⟩ := hInv
    obtain ⟨b1, b2⟩ := zand_iff hbt
    have ev := zynil_iff b1
    subst ev
    rw [zfr_eq] at b2
    rcases zif_iff b2 with ⟨-, b3⟩ | ⟨hk0, b3⟩
    · cases b3
    have hk0 := zbeqF hk0
    rcases hInv with ⟨eκ, hρ⟩ | ⟨i, hi, eκ, hic, hsum⟩
    · rw [eκ] at hk0; exact absurd rfl hk0
    have esi : zysof κ = i := by rw [eκ]; exact zysof_s
    have hκ1 : κ.2.1 = en.2.2.1 + 1 := by rw [eκ]; rfl
    have hag0 : ρ2 en.2.2.1 = ρ en.2.2.1 := hag.2 _ (by omega)
    cases vo with
    | some x => exact hvo.elim
    | none =>
      obtain ⟨cd, v, h1, h2, h3, h4⟩ := zyM37 (P := (zymc, C, zyfw, zydc, 0)) rfl hM b3
      obtain ⟨h2a, h2⟩ := zand_iff h2
      obtain ⟨h2b, h2⟩ := zand_iff h2
      obtain ⟨z, rfl⟩ := zyv_int h4 (zbleT h2a)
      obtain ⟨c, u, nu, c1, c3, c2⟩ := zychn_iff (X := (B, ρ2, w.1, ρ, κ.2.1, (zyEl zymc B s.heap, fun q => s.heap[q]?), zyJc)) (r := ρ2 en.2.2.1) hE rfl (zysym_k _) (zyv_sym (show en.2.2.1 < w.1 by have := hag.1; omega) rfl) hF cd 0 13 0 z h4 (Or.inl ⟨rfl, rfl⟩) h2
      rw [Nat.zero_add, esi] at c1
      obtain ⟨q1, q2⟩ := hex (B, ρ2, w.1, ρ, κ.2.1, (zyEl zymc B s.heap, fun q => s.heap[q]?), zyJc) w m.2 i c u nu rfl hE hF hi c1 c3
      have q2 : cnt (zyEl zymc B s.heap) ≤ i := q2
      have ei : cnt (zyEl zymc B s.heap) = i := by omega
      refine ⟨rfl, x, z, by rw [zyk37.1, zyk37.2]; exact hx, by rw [zyk37.1, zyk37.2]; exact h3, (zysub_iff h2b hE h4).2, ?_⟩
      have c2 : zB z = zB (ρ2 en.2.2.1) + c + nu := c2
      have hfin : zB z = zB x + hd + zySum (inc (zyEl zymc B s.heap)) (cnt (zyEl zymc B s.heap)) + tail := by
        rw [c2, hag0, hsum, ei, ← q1]
        omega
      exact hrel _ _ _ _ hfin
end
section
/-! THE PRINTER: switches, stuck ones, free ones, places, the wished word -/
theorem zyeqB {x z : Int32} {n : Nat} (h : zB z = zB x + n) : z = x + Int32.ofNat n := by
  apply zN_inj
  have e1 := zB_eq x
  have e2 := zB_eq z
  have l1 := x.toBitVec.isLt
  have l2 := z.toBitVec.isLt
  rw [zN_add, zN_of]
  omega
theorem zyN1_lo {x : Int32} (h : 2147483648 ≤ zB x) : zyN1 x = zB x - 2147483648 := by
  have := (zyp h).2.2
  unfold zyN1
  omega
noncomputable def zycC : Nat → List zyCt := fun y => zif (Nat.beq y 53) [zyctT 9 4, zyctT 10 1, zyctT 11 6, zyctT 12 6, zyctT 13 5, zyctT 14 6, zyctT 15 6, zyctT 16 4, zyctT 17 5, zyctT 18 4, zyctT 19 2] (zif (Nat.beq y 54) [zyctN] [])
theorem zycC_ok {l : Launch} : ∀ y2 ct en2 me2, ct ∈ zycC y2 → zG zxMeta y2 = some en2 → zG zMeth y2 = some me2 → zyCon l zymc zyJc en2 me2 ct := by
  intro y2 ct en2 me2 hct hen hme
  unfold zycC at hct
  cases h1 : Nat.beq y2 53 with
  | true =>
    rw [h1] at hct
    have e := zbeqT h1
    subst e
    obtain ⟨q9, hr⟩ := zand_iff zyrunTx_all
    obtain ⟨q10, hr⟩ := zand_iff hr
    obtain ⟨q11, hr⟩ := zand_iff hr
    obtain ⟨q12, hr⟩ := zand_iff hr
    obtain ⟨q13, hr⟩ := zand_iff hr
    obtain ⟨q14, hr⟩ := zand_iff hr
    obtain ⟨q15, hr⟩ := zand_iff hr
    obtain ⟨q16, hr⟩ := zand_iff hr
    obtain ⟨q17, hr⟩ := zand_iff hr
    obtain ⟨q18, q19⟩ := zand_iff hr
    have hct : ct ∈ [zyctT 9 4, zyctT 10 1, zyctT 11 6, zyctT 12 6, zyctT 13 5, zyctT 14 6, zyctT 15 6, zyctT 16 4, zyctT 17 5, zyctT 18 4, zyctT 19 2] := hct
    simp only [List.mem_cons, List.not_mem_nil, or_false] at hct
    rcases hct with e | e | e | e | e | e | e | e | e | e | e <;> rw [e]
    · exact zytext q9 (by decide) (by decide) hen hme
    · exact zytext q10 (by decide) (by decide) hen hme
    · exact zytext q11 (by decide) (by decide) hen hme
    · exact zytext q12 (by decide) (by decide) hen hme
    · exact zytext q13 (by decide) (by decide) hen hme
    · exact zytext q14 (by decide) (by decide) hen hme
    · exact zytext q15 (by decide) (by decide) hen hme
    · exact zytext q16 (by decide) (by decide) hen hme
    · exact zytext q17 (by decide) (by decide) hen hme
    · exact zytext q18 (by decide) (by decide) hen hme
    · exact zytext q19 (by decide) (by decide) hen hme
  | false =>
    rw [h1] at hct
    cases h2 : Nat.beq y2 54 with
    | true =>
      rw [h2] at hct
      have e := zbeqT h2
      subst e
      have hct : ct ∈ [zyctN] := hct
      rw [List.mem_singleton.mp hct]
      exact zynumber hen hme
    | false =>
      rw [h2] at hct
      cases hct
noncomputable def zynm (s : Nat) : Nat := zif (Nat.ble (Nat.succ s) 10) 2 3
theorem zynm_eq {s : Nat} (h : s < 2147483648) : zyNm (Int32.ofNat s) = zynm s := by
  have e : zB (Int32.ofNat s) = s + 2147483648 := zB_nI h
  unfold zynm
  cases hb : Nat.ble (Nat.succ s) 10 with
  | true =>
    have h1 : s + 1 ≤ 10 := zbleT hb
    exact zyNm_lo (by omega)
  | false =>
    have h1 : ¬ s + 1 ≤ 10 := zbleF hb
    exact zyNm_hi (by omega)
/-! a loop goes on, ends: by how many there are -/
noncomputable def zygo1 (a j mx s : Nat) (w : zW) (F : List zyF) : Bool := zand (Nat.ble (Nat.succ s) mx) (zyfk w a j (fun lo _ => Nat.ble (Nat.add 2147483648 (Nat.succ s)) lo) F)
noncomputable def zyen1 (a j mx s : Nat) (w : zW) (F : List zyF) : Bool := zif (Nat.ble mx s) true (zyfk w a j (fun lo hi => zand (Nat.ble 2147483648 lo) (Nat.ble hi (Nat.add 2147483648 s))) F)
theorem zygo1_iff {X : zyX} {w : zW} {F : List zyF} {a j mx s : Nat} (hj : j < 2147483648) (hE : zEnv (zyρ X) w.2) (hF : ∀ f ∈ F, zyFm X f) (h : zygo1 a j mx s w F = true) : s < min (zyN1 (zyI (zyE X) a j)) mx := by
  obtain ⟨h1, h2⟩ := zand_iff h
  have h1 : s + 1 ≤ mx := zbleT h1
  obtain ⟨x, lo, hi, e, b1, b2, hk⟩ := zyfk_iff hE hj hF h2
  have hk : 2147483648 + (s + 1) ≤ lo := zbleT hk
  have e2 : zyI (zyE X) a j = x := by unfold zyI; rw [e]
  rw [e2, zyN1_lo (by omega)]
  omega
theorem zyen1_iff {X : zyX} {w : zW} {F : List zyF} {a j mx s : Nat} (hj : j < 2147483648) (hE : zEnv (zyρ X) w.2) (hF : ∀ f ∈ F, zyFm X f) (h : zyen1 a j mx s w F = true) : min (zyN1 (zyI (zyE X) a j)) mx ≤ s := by
  unfold zyen1 at h
  rcases zif_iff h with ⟨h1, -⟩ | ⟨-, h2⟩
  · have h1 := zbleT h1
    omega
  · obtain ⟨x, lo, hi, e, b1, b2, hk⟩ := zyfk_iff hE hj hF h2
    obtain ⟨k1, k2⟩ := zand_iff hk
    have k1 := zbleT k1
    have k2 : hi ≤ 2147483648 + s := zbleT k2
    have e2 : zyI (zyE X) a j = x := by unfold zyI; rw [e]
    rw [e2, zyN1_lo (by omega)]
    omega
noncomputable def zyu0 (f : Nat → zW → List zyF → Nat → Bool) : Nat → zW → List zyF → Nat → Nat → Bool := fun s w F c u => zand (Nat.beq u 13) (f s w F c)
theorem zyu0_iff {X : zyX} {f : Nat → zW → List zyF → Nat → Bool} {s c u nu : Nat} {w : zW} {F : List zyF} (h : zyu0 f s w F c u = true) (hu : zyund X u nu) : nu = 0 ∧ f s w F c = true := by
  obtain ⟨h1, h2⟩ := zand_iff h
  have h1 := zbeqT h1
  refine ⟨?_, h2⟩
  rcases hu with ⟨-, e⟩ | ⟨y3, e, -⟩
  · exact e
  · rw [h1] at e
    exact absurd (zyv_ik e) (by decide)
noncomputable def zybxsw (o s : Nat) (w : zW) (F : List zyF) (c : Nat) : Bool := zand (zygo1 (Nat.add 2 o) 3 31 s w F) (zyfk w (Nat.add 11 o) s (fun lo hi => zif (Nat.beq lo hi) (zif (Nat.beq lo 2147483649) (zyfk w (Nat.add 10 o) s (fun lb hb => zif (zand (Nat.beq lb 2147483648) (Nat.beq hb 2147483648)) (Nat.beq c 0) (zif (Nat.ble 2147483649 lb) (Nat.beq c (Nat.add 9 (zynm s))) (zif (Nat.ble hb 2147483647) (Nat.beq c (Nat.add 9 (zynm s))) false))) F) (zif (Nat.ble 2147483648 lo) (Nat.beq c (Nat.add (Nat.add 7 (zynm s)) (Nat.mul 2 (Nat.sub lo 2147483648)))) false)) false) F)
noncomputable def zyex0 (a j mx tail s : Nat) (w : zW) (F : List zyF) (c : Nat) : Bool := zand (Nat.beq c tail) (zyen1 a j mx s w F)
noncomputable def zybx1 (a j mx p : Nat) (v : Nat) (f : Nat → Nat → Nat → Bool) (s : Nat) (w : zW) (F : List zyF) (c : Nat) : Bool := zand (zygo1 a j mx s w F) (zyfk w p s (fun lo hi => zif (zand (Nat.beq lo v) (Nat.beq hi v)) (Nat.beq c 0) (zif (Nat.ble (Nat.succ v) lo) (f lo hi c) (zif (Nat.ble (Nat.succ hi) v) (f lo hi c) false))) F)
theorem zybxsw_iff {X : zyX} {w : zW} {F : List zyF} {o s c : Nat} (hs : s < 2147483648) (hE : zEnv (zyρ X) w.2) (hF : ∀ f ∈ F, zyFm X f) (h : zybxsw o s w F c = true) : zyCsw (zyE X) o s = c ∧ s < min (zyN1 (zyI (zyE X) (2 + o) 3)) 31 := by
  obtain ⟨h1, h2⟩ := zand_iff h
  refine ⟨?_, zygo1_iff (by decide) hE hF h1⟩
  obtain ⟨x, lo, hi, e, b1, b2, hk⟩ := zyfk_iff hE hs hF h2
  have e2 : zyI (zyE X) (11 + o) s = x := by unfold zyI; rw [show 11 + o = Nat.add 11 o from rfl, e]
  unfold zyCsw
  rw [e2, zynm_eq hs]
  have one : (1 : Int32) = Int32.ofNat 1 := rfl
  rcases zif_iff hk with ⟨k1, k2⟩ | ⟨-, k2⟩
  rotate_left
  · cases k2
  have k1 := zbeqT k1
  rcases zif_iff k2 with ⟨k3, k4⟩ | ⟨k3, k4⟩
  · have k3 := zbeqT k3
    have ex : x = 1 := by
      have e9 := zyeqB (x := 0) (z := x) (n := 1) (by rw [show zB (0 : Int32) = 2147483648 by decide]; omega)
      rw [e9]; decide
    obtain ⟨y, lb, hb, e3, c1, c2, hk5⟩ := zyfk_iff hE hs hF k4
    have e4 : zyI (zyE X) (10 + o) s = y := by unfold zyI; rw [show 10 + o = Nat.add 10 o from rfl, e3]
    rw [e4, ex]
    have hN : (1 : Int32).toBitVec.toNat = 1 := by decide
    rcases zif_iff hk5 with ⟨k5, k6⟩ | ⟨-, k6⟩
    · obtain ⟨q1, q2⟩ := zand_iff k5
      have q1 := zbeqT q1
      have q2 := zbeqT q2
      have ey : y = 0 := by
        have e9 := zyeqB (x := 0) (z := y) (n := 0) (by rw [show zB (0 : Int32) = 2147483648 by decide]; omega)
        rw [e9]; decide
      rw [if_pos ⟨rfl, ey⟩]
      exact (zbeqT k6).symm
    · have fin : ¬ y = 0 → Nat.beq c (Nat.add 9 (zynm s)) = true → (if (1 : Int32) = 1 ∧ y = 0 then 0 else 7 + zynm s + 2 * (1 : Int32).toBitVec.toNat) = c := by
        intro hy hc
        rw [if_neg (fun q => hy q.2), hN]
        have hc : c = 9 + zynm s := zbeqT hc
        omega
      have hz0 : zB (0 : Int32) = 2147483648 := by decide
      rcases zif_iff k6 with ⟨k7, k8⟩ | ⟨-, k8⟩
      · have k7 := zbleT k7
        exact fin (fun q => by rw [q] at c1; omega) k8
      · rcases zif_iff k8 with ⟨k9, k10⟩ | ⟨-, k10⟩
        · have k9 := zbleT k9
          exact fin (fun q => by rw [q] at c2; omega) k10
        · cases k10
  · have k3 := zbeqF k3
    rcases zif_iff k4 with ⟨k5, k6⟩ | ⟨-, k6⟩
    · have k5 := zbleT k5
      have hne : ¬ x = 1 := by
        intro q
        rw [q, show zB (1 : Int32) = 2147483649 by decide] at b1 b2
        omega
      rw [if_neg (fun q => hne q.1)]
      have k6 : c = 7 + zynm s + 2 * (lo - 2147483648) := zbeqT k6
      have e5 : x.toBitVec.toNat = zB x - 2147483648 := zyN1_lo (by omega)
      rw [e5, k6]
      omega
    · cases k6
end
section
/-! THE PRINTER: the loops' contracts -/
theorem zybx1_iff {X : zyX} {w : zW} {F : List zyF} {a j mx p v s c : Nat} {f : Nat → Nat → Nat → Bool} (hj : j < 2147483648) (hs : s < 2147483648) (hE : zEnv (zyρ X) w.2) (hF : ∀ f ∈ F, zyFm X f) (h : zybx1 a j mx p v f s w F c = true) : s < min (zyN1 (zyI (zyE X) a j)) mx ∧ ∃ lo hi, lo ≤ zB (zyI (zyE X) p s) ∧ zB (zyI (zyE X) p s) ≤ hi ∧ ((zB (zyI (zyE X) p s) = v ∧ c = 0) ∨ (¬ zB (zyI (zyE X) p s) = v ∧ f lo hi c = true)) := by
  obtain ⟨h1, h2⟩ := zand_iff h
  refine ⟨zygo1_iff hj hE hF h1, ?_⟩
  obtain ⟨x, lo, hi, e, b1, b2, hk⟩ := zyfk_iff hE hs hF h2
  have e2 : zyI (zyE X) p s = x := by unfold zyI; rw [e]
  rw [e2]
  refine ⟨lo, hi, b1, b2, ?_⟩
  rcases zif_iff hk with ⟨k1, k2⟩ | ⟨-, k2⟩
  · obtain ⟨q1, q2⟩ := zand_iff k1
    have q1 := zbeqT q1
    have q2 := zbeqT q2
    exact Or.inl ⟨by omega, zbeqT k2⟩
  · rcases zif_iff k2 with ⟨k3, k4⟩ | ⟨-, k4⟩
    · have k3 : v + 1 ≤ lo := zbleT k3
      exact Or.inr ⟨by omega, k4⟩
    · rcases zif_iff k4 with ⟨k5, k6⟩ | ⟨-, k6⟩
      · have k5 : hi + 1 ≤ v := zbleT k5
        exact Or.inr ⟨by omega, k6⟩
      · cases k6
/-- an element that was read: it is this code, and not below 0 -/
noncomputable def zyfkc (w : zW) (a j u : Nat) (F : List zyF) : Bool := List.rec (motive := fun _ => Bool) false (fun f _ ih => zif (zand (Nat.beq f.1 24) (zand (Nat.beq f.2.2.1 a) (zand (Nat.beq f.2.2.2 (Nat.mul 8 j)) (zand (Nat.beq f.2.1 u) (Nat.ble (Nat.mod u 8) 1))))) (zbd w u (fun lo _ => Nat.ble 2147483648 lo)) ih) F
theorem zyfkc_iff {X : zyX} {w : zW} {a j u : Nat} (hE : zEnv (zyρ X) w.2) (hj : j < 2147483648) {y : Int32} (hu : zyV X u (.int y)) : ∀ {F : List zyF}, (∀ f ∈ F, zyFm X f) → zyfkc w a j u F = true → zyE X a j = some (.int y) ∧ 2147483648 ≤ zB y := by
  intro F
  induction F with
  | nil => intro _ h; cases h
  | cons f t ih =>
    intro hF h
    have h : zif (zand (Nat.beq f.1 24) (zand (Nat.beq f.2.2.1 a) (zand (Nat.beq f.2.2.2 (8 * j)) (zand (Nat.beq f.2.1 u) (Nat.ble (Nat.mod u 8) 1))))) (zbd w u (fun lo _ => Nat.ble 2147483648 lo)) (zyfkc w a j u t) = true := h
    rcases zif_iff h with ⟨h1, h2⟩ | ⟨-, h2⟩
    · obtain ⟨g1, g2⟩ := zand_iff h1
      obtain ⟨g2, g3⟩ := zand_iff g2
      obtain ⟨g3, g4⟩ := zand_iff g3
      obtain ⟨g4, g5⟩ := zand_iff g4
      have g1 := zbeqT g1
      have g2 := zbeqT g2
      have g3 := zbeqT g3
      have g4 := zbeqT g4
      have g5 : u % 8 ≤ 1 := zbleT g5
      have hf := hF f List.mem_cons_self
      unfold zyFm at hf
      rw [if_pos g1] at hf
      obtain ⟨z, j2, q1, q2, q3, q4⟩ := hf
      rw [g4] at q1
      have e9 := zyv_one g5 q1 hu
      subst e9
      obtain ⟨x, lo, hi, ex, b1, b2, h3⟩ := zybd_iff h2 hE hu
      have ex := Value.int.inj ex
      subst ex
      rw [g3] at q2
      have e1 := Value.int.inj (zyv_0 q2 (by omega))
      have e2 : Int32.ofNat j2 = Int32.ofNat j := by rw [e1, show 8 * j / 8 = j by omega]
      have e3 : (Int32.ofNat j2).toBitVec.toNat = (Int32.ofNat j).toBitVec.toNat := by rw [e2]
      rw [zN_of, zN_of] at e3
      have e4 : j2 = j := by omega
      rw [e4, g2] at q4
      have h3 := zbleT h3
      exact ⟨q4, by omega⟩
    · exact ih (fun f2 hf2 => hF f2 (List.mem_cons_of_mem _ hf2)) h2
theorem zyB0 {x : Int32} : zB x = 2147483648 ↔ x = 0 := by
  constructor
  · intro h
    have e := zyeqB (x := 0) (z := x) (n := 0) (by rw [show zB (0 : Int32) = 2147483648 by decide]; omega)
    rw [e]; decide
  · intro h; rw [h]; decide
theorem zyBm {x : Int32} : zB x = 2147483647 ↔ x = -1 := by
  constructor
  · intro h
    have e := zyeqB (x := -1) (z := x) (n := 0) (by rw [show zB (-1 : Int32) = 2147483647 by decide]; omega)
    rw [e]; decide
  · intro h; rw [h]; decide
noncomputable def zyfst (s : Nat) : Nat → Nat → Nat → Bool := fun _ _ c => Nat.beq c (Nat.add 11 (zynm s))
noncomputable def zyffr (s : Nat) : Nat → Nat → Nat → Bool := fun _ _ c => Nat.beq c (Nat.add 5 (zynm s))
noncomputable def zybxst (o s : Nat) (w : zW) (F : List zyF) (c : Nat) : Bool := zybx1 (Nat.add 2 o) 3 31 (Nat.add 12 o) 2147483648 (zyfst s) s w F c
noncomputable def zybxfr (o s : Nat) (w : zW) (F : List zyF) (c : Nat) : Bool := zybx1 (Nat.add 2 o) 3 31 (Nat.add 13 o) 2147483648 (zyffr s) s w F c
noncomputable def zybxpl (o s : Nat) (w : zW) (F : List zyF) (c u : Nat) : Bool := zand (zygo1 (Nat.add 1 o) 5 8 s w F) (zif (Nat.beq u 13) (zyfk w (Nat.add 15 o) s (fun lo hi => zif (zand (Nat.beq lo 2147483647) (Nat.beq hi 2147483647)) (Nat.beq c 0) (zif (Nat.ble 2147483648 lo) (zif (Nat.ble hi 2147483657) (Nat.beq c 10) (zif (Nat.ble 2147483658 lo) (Nat.beq c 11) false)) false)) F)
  (zand (Nat.beq c 8) (zyfkc w (Nat.add 15 o) s u F)))
noncomputable def zybxwo (o s : Nat) (w : zW) (F : List zyF) (c : Nat) : Bool := zand (zyfk w (Nat.add 17 o) s (fun lo hi => zif (Nat.ble 2147483648 lo) (Nat.beq c 2) (zif (Nat.ble hi 2147483647) (Nat.beq c 4) false)) F) (zygo1 (Nat.add 16 o) 1 60 s w F)
noncomputable def zyLrun (cf : Nat → zT) (y : zY) (dep res hh nL pl : Nat) (tl : List Nat) (b b0 hd nS : Nat) (bx ex : Nat → zW → List zyF → Nat → Nat → Bool) : Bool := zand (zywf nL (zyκe nL pl tl b0)) (zand (zyAll (fun s => zywf nL (zyκs hh nL pl tl b s)) nS) (zand
  (zyok (fun w v m => zand (zyfitM w zymc m.1) (zand (zypre w zymc m.1 []) (zybtL nL res ex (zyκe nL pl tl b0) w v m))) (zymc, zycC, zyfw, zydc, 0) (zystL (zymc, zycC, zyfw, zydc, 0) hh nL pl tl b b0 hd bx (zyκe nL pl tl b0)) 200000 ((zyκe nL pl tl b0).2.1, (zyκe nL pl tl b0).2.2.2.1) cf y 0 (zyκe nL pl tl b0).2.2.1 [] (dep, 0, 0) [] ((zyκe nL pl tl b0).2.2.2.2.1, []))
  (zand (zyAll (fun s => zyok (fun w v m => zand (zyfitM w zymc m.1) (zand (zypre w zymc m.1 []) (zybtL nL res ex (zyκs hh nL pl tl b s) w v m))) (zymc, zycC, zyfw, zydc, 0) (zystL (zymc, zycC, zyfw, zydc, 0) hh nL pl tl b b0 hd bx (zyκs hh nL pl tl b s)) 200000 ((zyκs hh nL pl tl b s).2.1, (zyκs hh nL pl tl b s).2.2.2.1) cf y hh (zyκs hh nL pl tl b s).2.2.1 [] (dep, 0, 0) [] ((zyκs hh nL pl tl b s).2.2.2.2.1, [])) nS)
    (zpad nL (zexp [299, pl]) (fun l2 => zyincl (zymc, zycC, zyfw, zydc, 0) nL (0, []) l2 [(606210, zyc 0 b0)] (zyκe nL pl tl b0))))))
noncomputable def zyrsw (o pl : Nat) : Bool := zyLrun zxi48 (48, 0, 0, 0, 0) 7 (zyc 0 1800) 2 4 pl [13] 1000 1000 0 32 (zyu0 (zybxsw o)) (zyu0 (zyex0 (Nat.add 2 o) 3 31 0))
noncomputable def zyrst (o pl : Nat) : Bool := zyLrun zxi49 (49, 0, 0, 0, 0) 7 (zyc 0 2800) 2 3 pl [] 2000 2000 0 32 (zyu0 (zybxst o)) (zyu0 (zyex0 (Nat.add 2 o) 3 31 0))
noncomputable def zyrfr (o pl : Nat) : Bool := zyLrun zxi50 (50, 0, 0, 0, 0) 7 (zyc 0 3800) 2 3 pl [] 3000 3000 0 32 (zyu0 (zybxfr o)) (zyu0 (zyex0 (Nat.add 2 o) 3 31 0))
noncomputable def zyrpl (o pl : Nat) : Bool := zyLrun zxi51 (51, 0, 0, 0, 0) 7 (zyc 0 4300) 2 3 pl [] 4000 4000 0 9 (zybxpl o) (zyu0 (zyex0 (Nat.add 1 o) 5 8 0))
noncomputable def zyrwo (o pl : Nat) : Bool := zyLrun zxi52 (52, 0, 0, 0, 0) 7 (zyc 0 6600) 8 3 pl [] 5010 5000 4 61 (zyu0 (zybxwo o)) (zyu0 (zyex0 (Nat.add 16 o) 1 60 1))
theorem zyrsw_1 : zyrsw 0 11 = true := by decide +kernel
theorem zyrst_1 : zyrst 0 11 = true := by decide +kernel
theorem zyrfr_1 : zyrfr 0 11 = true := by decide +kernel
theorem zyrpl_1 : zyrpl 0 11 = true := by decide +kernel
theorem zyrwo_1 : zyrwo 0 131 = true := by decide +kernel
theorem zyrsw_2 : zyrsw 17 147 = true := by decide +kernel
theorem zyrst_2 : zyrst 17 147 = true := by decide +kernel
theorem zyrfr_2 : zyrfr 17 147 = true := by decide +kernel
theorem zyrpl_2 : zyrpl 17 147 = true := by decide +kernel
theorem zyrwo_2 : zyrwo 17 267 = true := by decide +kernel
end
section
/-! THE PRINTER: the loops' contracts, and all -/
theorem zyRc_mk {E : zyEm} {x y z : Int32} {k o id : Nat} (hk : k < 5) (hid : (id = 100 + k ∧ o = 0) ∨ (id = 200 + k ∧ o = 17)) (h : zB z = zB x + zyCt1 E o k) : zyRc id E x y z := by
  have e := zyeqB h
  rcases hid with ⟨rfl, rfl⟩ | ⟨rfl, rfl⟩
  · exact Or.inl ⟨by omega, by omega, by rw [e, show 100 + k - 100 = k by omega]⟩
  · exact Or.inr (Or.inr (Or.inl ⟨by omega, by omega, by rw [e, show 200 + k - 200 = k by omega]⟩))
theorem zyex0_iff {X : zyX} {w : zW} {F : List zyF} {a j mx tail s c : Nat} (hj : j < 2147483648) (hE : zEnv (zyρ X) w.2) (hF : ∀ f ∈ F, zyFm X f) (h : zyex0 a j mx tail s w F c = true) : c = tail ∧ min (zyN1 (zyI (zyE X) a j)) mx ≤ s := by
  obtain ⟨h1, h2⟩ := zand_iff h
  exact ⟨zbeqT h1, zyen1_iff hj hE hF h2⟩
section ZYP
variable {l : Launch} {o pl id : Nat} {en : zEn} {me : zMe}
theorem zysw (h : zyrsw o pl = true) (hid : (id = 100 ∧ o = 0) ∨ (id = 200 ∧ o = 17)) (hen : zG zxMeta 48 = some en) (hme : zG zMeth 48 = some me) : zyCon l zymc zyJc en me ([299, pl], zyfw, [zyc 0 1800, id, 606210], 7, [(606210, zyc 0 1000)], []) := by
  have een : zG zxMeta 48 = some (zxi48, 2, 4, 4, 48, 0, 0, 0, 0) := rfl
  rw [een] at hen
  cases hen
  obtain ⟨q1, h⟩ := zand_iff h
  obtain ⟨q2, h⟩ := zand_iff h
  obtain ⟨q3, h⟩ := zand_iff h
  obtain ⟨q4, q5⟩ := zand_iff h
  refine zyloopk (C := zycC) (nS := 32) (tail := 0) een hme rfl rfl zycC_ok rfl (by decide) _ _ q1 q2 q3 q4 q5 (fun E s => zyCsw E o s) (fun E => min (zyN1 (zyI E (2 + o) 3)) 31) (by decide) (fun E => by omega) ?_ ?_ ?_
  · intro X w F s c u nu _ hE hF hs hb hu
    obtain ⟨e0, hb⟩ := zyu0_iff hb hu
    subst e0
    exact zybxsw_iff (by omega) hE hF hb
  · intro X w F s c u nu _ hE hF hs hb hu
    obtain ⟨e0, hb⟩ := zyu0_iff hb hu
    obtain ⟨e1, e2⟩ := zyex0_iff (by decide) hE hF hb
    exact ⟨by omega, e2⟩
  · intro E x y z hz
    refine zyRc_mk (k := 0) (by decide) hid ?_
    show zB z = zB x + zySum (zyCsw E o) _
    exact hz
theorem zyst (h : zyrst o pl = true) (hid : (id = 101 ∧ o = 0) ∨ (id = 201 ∧ o = 17)) (hen : zG zxMeta 49 = some en) (hme : zG zMeth 49 = some me) : zyCon l zymc zyJc en me ([299, pl], zyfw, [zyc 0 2800, id, 606210], 7, [(606210, zyc 0 2000)], []) := by
  have een : zG zxMeta 49 = some (zxi49, 2, 3, 4, 49, 0, 0, 0, 0) := rfl
  rw [een] at hen
  cases hen
  obtain ⟨q1, h⟩ := zand_iff h
  obtain ⟨q2, h⟩ := zand_iff h
  obtain ⟨q3, h⟩ := zand_iff h
  obtain ⟨q4, q5⟩ := zand_iff h
  refine zyloopk (C := zycC) (nS := 32) (tail := 0) een hme rfl rfl zycC_ok rfl (by decide) _ _ q1 q2 q3 q4 q5 (fun E s => zyCst E o s) (fun E => min (zyN1 (zyI E (2 + o) 3)) 31) (by decide) (fun E => by omega) ?_ ?_ ?_
  · intro X w F s c u nu _ hE hF hs hb hu
    obtain ⟨e0, hb⟩ := zyu0_iff hb hu
    subst e0
    obtain ⟨h1, lo, hi, b1, b2, hc⟩ := zybx1_iff (by decide) (by omega) hE hF hb
    refine ⟨?_, h1⟩
    rw [show Nat.add 12 o = 12 + o from rfl] at hc
    unfold zyCst
    rcases hc with ⟨e1, e2⟩ | ⟨e1, e2⟩
    · rw [if_pos (zyB0.mp e1), e2]
    · rw [if_neg (fun q => e1 (zyB0.mpr q)), zynm_eq (by omega)]
      exact (zbeqT e2).symm
  · intro X w F s c u nu _ hE hF hs hb hu
    obtain ⟨e0, hb⟩ := zyu0_iff hb hu
    obtain ⟨e1, e2⟩ := zyex0_iff (by decide) hE hF hb
    exact ⟨by omega, e2⟩
  · intro E x y z hz
    refine zyRc_mk (k := 1) (by decide) hid ?_
    show zB z = zB x + zySum (zyCst E o) _
    exact hz
theorem zyfree (h : zyrfr o pl = true) (hid : (id = 102 ∧ o = 0) ∨ (id = 202 ∧ o = 17)) (hen : zG zxMeta 50 = some en) (hme : zG zMeth 50 = some me) : zyCon l zymc zyJc en me ([299, pl], zyfw, [zyc 0 3800, id, 606210], 7, [(606210, zyc 0 3000)], []) := by
  have een : zG zxMeta 50 = some (zxi50, 2, 3, 4, 50, 0, 0, 0, 0) := rfl
  rw [een] at hen
  cases hen
  obtain ⟨q1, h⟩ := zand_iff h
  obtain ⟨q2, h⟩ := zand_iff h
  obtain ⟨q3, h⟩ := zand_iff h
  obtain ⟨q4, q5⟩ := zand_iff h
  refine zyloopk (C := zycC) (nS := 32) (tail := 0) een hme rfl rfl zycC_ok rfl (by decide) _ _ q1 q2 q3 q4 q5 (fun E s => zyCfr E o s) (fun E => min (zyN1 (zyI E (2 + o) 3)) 31) (by decide) (fun E => by omega) ?_ ?_ ?_
  · intro X w F s c u nu _ hE hF hs hb hu
    obtain ⟨e0, hb⟩ := zyu0_iff hb hu
    subst e0
    obtain ⟨h1, lo, hi, b1, b2, hc⟩ := zybx1_iff (by decide) (by omega) hE hF hb
    refine ⟨?_, h1⟩
    rw [show Nat.add 13 o = 13 + o from rfl] at hc
    unfold zyCfr
    rcases hc with ⟨e1, e2⟩ | ⟨e1, e2⟩
    · rw [if_pos (zyB0.mp e1), e2]
    · rw [if_neg (fun q => e1 (zyB0.mpr q)), zynm_eq (by omega)]
      exact (zbeqT e2).symm
  · intro X w F s c u nu _ hE hF hs hb hu
    obtain ⟨e0, hb⟩ := zyu0_iff hb hu
    obtain ⟨e1, e2⟩ := zyex0_iff (by decide) hE hF hb
    exact ⟨by omega, e2⟩
  · intro E x y z hz
    refine zyRc_mk (k := 2) (by decide) hid ?_
    show zB z = zB x + zySum (zyCfr E o) _
    exact hz
theorem zyplace (h : zyrpl o pl = true) (hid : (id = 103 ∧ o = 0) ∨ (id = 203 ∧ o = 17)) (hen : zG zxMeta 51 = some en) (hme : zG zMeth 51 = some me) : zyCon l zymc zyJc en me ([299, pl], zyfw, [zyc 0 4300, id, 606210], 7, [(606210, zyc 0 4000)], []) := by
  have een : zG zxMeta 51 = some (zxi51, 2, 3, 4, 51, 0, 0, 0, 0) := rfl
  rw [een] at hen
  cases hen
  obtain ⟨q1, h⟩ := zand_iff h
  obtain ⟨q2, h⟩ := zand_iff h
  obtain ⟨q3, h⟩ := zand_iff h
  obtain ⟨q4, q5⟩ := zand_iff h
  refine zyloopk (C := zycC) (nS := 9) (tail := 0) een hme rfl rfl zycC_ok rfl (by decide) _ _ q1 q2 q3 q4 q5 (fun E s => zyCpl E o s) (fun E => min (zyN1 (zyI E (1 + o) 5)) 8) (by decide) (fun E => by omega) ?_ ?_ ?_
  · intro X w F s c u nu _ hE hF hs hb hu
    obtain ⟨h1, h2⟩ := zand_iff hb
    refine ⟨?_, zygo1_iff (by decide) hE hF h1⟩
    show zyCpl (zyE X) o s = c + nu
    unfold zyCpl
    rcases zif_iff h2 with ⟨u1, h3⟩ | ⟨u1, h3⟩
    · have u1 := zbeqT u1
      have e0 : nu = 0 := by
        rcases hu with ⟨-, e⟩ | ⟨y3, e, -⟩
        · exact e
        · rw [u1] at e
          exact absurd (zyv_ik e) (by decide)
      subst e0
      obtain ⟨x, lo, hi, e, b1, b2, hk⟩ := zyfk_iff hE (by omega) hF h3
      have e2 : zyI (zyE X) (15 + o) s = x := by unfold zyI; rw [show 15 + o = Nat.add 15 o from rfl, e]
      rw [e2]
      rcases zif_iff hk with ⟨k1, k2⟩ | ⟨-, k2⟩
      · obtain ⟨q1, q2⟩ := zand_iff k1
        have q1 := zbeqT q1
        have q2 := zbeqT q2
        rw [if_pos (zyBm.mp (by omega))]
        exact (zbeqT k2).symm
      · rcases zif_iff k2 with ⟨k3, k4⟩ | ⟨-, k4⟩
        · have k3 := zbleT k3
          rw [if_neg (fun q => by have := zyBm.mpr q; omega)]
          rcases zif_iff k4 with ⟨k5, k6⟩ | ⟨-, k6⟩
          · have k5 := zbleT k5
            have k6 := zbeqT k6
            rw [zyNm_lo (by omega), k6]
          · rcases zif_iff k6 with ⟨k7, k8⟩ | ⟨-, k8⟩
            · have k7 := zbleT k7
              have k8 := zbeqT k8
              rw [zyNm_hi (by omega), k8]
            · cases k8
        · cases k4
    · have u1 := zbeqF u1
      obtain ⟨h4, h5⟩ := zand_iff h3
      have h4 := zbeqT h4
      rcases hu with ⟨e, -⟩ | ⟨y, hy, en⟩
      · exact absurd e u1
      · obtain ⟨e1, e2⟩ := zyfkc_iff hE (by omega) hy hF h5
        have e3 : zyI (zyE X) (15 + o) s = y := by unfold zyI; rw [show 15 + o = Nat.add 15 o from rfl, e1]
        rw [e3, if_neg (fun q => by have := zyBm.mpr q; omega), h4, en]
  · intro X w F s c u nu _ hE hF hs hb hu
    obtain ⟨e0, hb⟩ := zyu0_iff hb hu
    obtain ⟨e1, e2⟩ := zyex0_iff (by decide) hE hF hb
    exact ⟨by omega, e2⟩
  · intro E x y z hz
    refine zyRc_mk (k := 3) (by decide) hid ?_
    show zB z = zB x + zySum (zyCpl E o) _
    exact hz
theorem zywish (h : zyrwo o pl = true) (hid : (id = 104 ∧ o = 0) ∨ (id = 204 ∧ o = 17)) (hen : zG zxMeta 52 = some en) (hme : zG zMeth 52 = some me) : zyCon l zymc zyJc en me ([299, pl], zyfw, [zyc 0 6600, id, 606210], 7, [(606210, zyc 0 5000)], []) := by
  have een : zG zxMeta 52 = some (zxi52, 2, 3, 4, 52, 0, 0, 0, 0) := rfl
  rw [een] at hen
  cases hen
  obtain ⟨q1, h⟩ := zand_iff h
  obtain ⟨q2, h⟩ := zand_iff h
  obtain ⟨q3, h⟩ := zand_iff h
  obtain ⟨q4, q5⟩ := zand_iff h
  refine zyloopk (C := zycC) (nS := 61) (tail := 1) een hme rfl rfl zycC_ok rfl (by decide) _ _ q1 q2 q3 q4 q5 (fun E s => zyCwo E o s) (fun E => min (zyN1 (zyI E (16 + o) 1)) 60) (by decide) (fun E => by omega) ?_ ?_ ?_
  · intro X w F s c u nu _ hE hF hs hb hu
    obtain ⟨e0, hb⟩ := zyu0_iff hb hu
    subst e0
    obtain ⟨h1, h2⟩ := zand_iff hb
    refine ⟨?_, zygo1_iff (by decide) hE hF h2⟩
    obtain ⟨x, lo, hi, e, b1, b2, hk⟩ := zyfk_iff hE (by omega) hF h1
    have e2 : zyI (zyE X) (17 + o) s = x := by unfold zyI; rw [show 17 + o = Nat.add 17 o from rfl, e]
    unfold zyCwo
    rw [e2]
    have b := zB_int x
    have e0 : (0 : Int32).toInt = 0 := by decide
    rcases zif_iff hk with ⟨k1, k2⟩ | ⟨-, k2⟩
    · have k1 := zbleT k1
      rw [if_neg (by rw [Int32.lt_iff_toInt_lt]; omega)]
      exact (zbeqT k2).symm
    · rcases zif_iff k2 with ⟨k3, k4⟩ | ⟨-, k4⟩
      · have k3 := zbleT k3
        rw [if_pos (by rw [Int32.lt_iff_toInt_lt]; omega)]
        exact (zbeqT k4).symm
      · cases k4
  · intro X w F s c u nu _ hE hF hs hb hu
    obtain ⟨e0, hb⟩ := zyu0_iff hb hu
    obtain ⟨e1, e2⟩ := zyex0_iff (by decide) hE hF hb
    exact ⟨by omega, e2⟩
  · intro E x y z hz
    refine zyRc_mk (k := 4) (by decide) hid ?_
    show zB z = zB x + (5 + zySum (zyCwo E o) _)
    have hz : zB z = zB x + 4 + zySum (fun s => zyCwo E o s) (min (zyN1 (zyI E (16 + o) 1)) 60) + 1 := hz
    rw [hz]
    show _ = zB x + (5 + zySum (fun s => zyCwo E o s) (min (zyN1 (zyI E (16 + o) 1)) 60))
    omega
end ZYP
end
section
/-! THE PRINTER: all of it -/
/-- the growth of an element over calls: known numbers, and which of the counts -/
noncomputable def zycha (w : zW) (root b0 : Nat) (k : Nat → List Nat → Nat → Bool) (F : List zyF) : Nat → Nat → List Nat → Nat → Bool := List.rec (motive := fun _ => Nat → Nat → List Nat → Nat → Bool) (fun v acc ids u => zif (Nat.beq v root) (k acc ids u) false)
  (fun f _ ih v acc ids u => zif (zand (Nat.ble 1000 f.1) (zand (Nat.beq f.2.1 v) (Nat.ble (Nat.mod v 8) 1))) (zif (Nat.ble 1300 f.1) (zif (Nat.beq f.1 1303) (zbd w f.2.2.2 (fun lo hi => zif (Nat.ble hi 2147483657) (zfr false (Nat.add acc 2) (fun a2 => ih f.2.2.1 a2 ids u)) (zif (Nat.ble 2147483658 lo) (zfr false (Nat.add acc 3) (fun a2 => ih f.2.2.1 a2 ids u)) (zif (Nat.beq u 13) (ih f.2.2.1 acc ids f.2.2.2) false)))) (zfr false (Nat.add acc (Nat.sub f.1 1300)) (fun a2 => ih f.2.2.1 a2 ids u)))
    (zif (zand (Nat.ble (Nat.add 1000 b0) f.1) (Nat.ble (Nat.succ f.1) (Nat.add 1005 b0))) (zfr false (Nat.sub f.1 (Nat.add 1000 b0)) (fun i => ih f.2.2.1 acc (i :: ids) u)) false)) (ih v acc ids u)) F
def zyidS (E : zyEm) (o : Nat) : List Nat → Nat
  | [] => 0
  | i :: t => zyCt1 E o i + zyidS E o t
theorem zyofA (a b : Nat) : Int32.ofNat (a + b) = Int32.ofNat a + Int32.ofNat b := by
  apply zN_inj
  rw [zN_add, zN_of, zN_of, zN_of]
  omega
theorem zycha_iff {X : zyX} {w : zW} {root b0 o : Nat} {k : Nat → List Nat → Nat → Bool} (hb0 : (b0 = 100 ∧ o = 0) ∨ (b0 = 200 ∧ o = 17)) (hE : zEnv (zyρ X) w.2) (hJ : (zyJ X).2 = zyRc) (hr : root % 8 ≤ 1) {r : Int32} (hrt : zyV X root (.int r)) : ∀ {F : List zyF}, (∀ f ∈ F, zyFm X f) → ∀ (v acc : Nat) (ids : List Nat) (u nu : Nat) (z : Int32), zyV X v (.int z) → zyund X u nu → zycha w root b0 k F v acc ids u = true → ∃ c ids2 u2 nu2, k (acc + c) ids2 u2 = true ∧ zyund X u2 nu2 ∧ z + Int32.ofNat (nu + zyidS (zyE X) o ids) = r + Int32.ofNat (c + nu2 + zyidS (zyE X) o ids2) := by
  intro F
  induction F with
  | nil =>
    intro _ v acc ids u nu z hv hu h
    have h : zif (Nat.beq v root) (k acc ids u) false = true := h
    rcases zif_iff h with ⟨h1, h2⟩ | ⟨-, h2⟩
    · have e := zbeqT h1
      subst e
      rw [zyv_one hr hv hrt]
      exact ⟨0, ids, u, nu, h2, hu, by rw [Nat.zero_add]⟩
    · cases h2
  | cons f t ih =>
    intro hF v acc ids u nu z hv hu h
    have hFt : ∀ f2 ∈ t, zyFm X f2 := fun f2 hf2 => hF f2 (List.mem_cons_of_mem _ hf2)
    have h : zif (zand (Nat.ble 1000 f.1) (zand (Nat.beq f.2.1 v) (Nat.ble (Nat.mod v 8) 1))) (zif (Nat.ble 1300 f.1) (zif (Nat.beq f.1 1303) (zbd w f.2.2.2 (fun lo hi => zif (Nat.ble hi 2147483657) (zfr false (acc + 2) (fun a2 => zycha w root b0 k t f.2.2.1 a2 ids u)) (zif (Nat.ble 2147483658 lo) (zfr false (acc + 3) (fun a2 => zycha w root b0 k t f.2.2.1 a2 ids u)) (zif (Nat.beq u 13) (zycha w root b0 k t f.2.2.1 acc ids f.2.2.2) false)))) (zfr false (acc + (f.1 - 1300)) (fun a2 => zycha w root b0 k t f.2.2.1 a2 ids u)))
    (zif (zand (Nat.ble (1000 + b0) f.1) (Nat.ble (f.1 + 1) (1005 + b0))) (zfr false (f.1 - (1000 + b0)) (fun i => zycha w root b0 k t f.2.2.1 acc (i :: ids) u)) false)) (zycha w root b0 k t v acc ids u) = true := h
    simp only [zfr_eq] at h
    have step : ∀ (x : Int32) (d : Nat), zB z = zB x + d → ∀ (R : Int32), x + Int32.ofNat (nu + zyidS (zyE X) o ids) = R → z + Int32.ofNat (nu + zyidS (zyE X) o ids) = R + Int32.ofNat d := by
      intro x d hd R hR
      rw [zyeqB hd, ← hR, Int32.add_assoc, Int32.add_assoc, Int32.add_comm (Int32.ofNat d)]
    rcases zif_iff h with ⟨h1, h2⟩ | ⟨-, h2⟩
    · obtain ⟨g1, g2⟩ := zand_iff h1
      obtain ⟨g2, g3⟩ := zand_iff g2
      have g1 := zbleT g1
      have g2 := zbeqT g2
      have g3 := zbleT g3
      have hf := hF f List.mem_cons_self
      obtain ⟨f0, f1, f2, f3⟩ := f
      dsimp only at *
      obtain ⟨id, rfl⟩ : ∃ id, f0 = 1000 + id := ⟨f0 - 1000, by omega⟩
      obtain ⟨x, y, z2, q1, q2, q3, q4⟩ := zyFm_rel hf
      rw [hJ] at q4
      rw [g2] at q1
      have ez := zyv_one (show v % 8 ≤ 1 from g3) hv q1
      subst ez
      have add : ∀ (R : Int32) (a b c d : Nat), a + d = b + c → R + Int32.ofNat a + Int32.ofNat d = R + Int32.ofNat (b + c) := by
        intro R a b c d e
        rw [Int32.add_assoc, ← zyofA, e]
      rcases zif_iff h2 with ⟨h2a, h2⟩ | ⟨h2a, h2⟩
      · have h2a := zbleT h2a
        rcases zif_iff h2 with ⟨h3, h4⟩ | ⟨h3, h4⟩
        · have h3 := zbeqT h3
          obtain ⟨y2, lo, hi, ey, b1, b2, h5⟩ := zybd_iff h4 hE q3
          have ey := Value.int.inj ey
          subst ey
          have hrel : zB z = zB x + zyNm y := by
            rcases q4 with ⟨a1, a2, a3⟩ | ⟨a1, a3⟩ | ⟨a1, a2, a3⟩ | ⟨a1, a3⟩ | ⟨a1, a2, a3⟩ | ⟨a1, a3⟩
            · omega
            · omega
            · omega
            · omega
            · omega
            · exact a3
          rcases zif_iff h5 with ⟨h6, h7⟩ | ⟨-, h7⟩
          · have h6 := zbleT h6
            rw [zyNm_lo (by omega)] at hrel
            obtain ⟨c, ids2, u2, nu2, c1, c2, c3⟩ := ih hFt _ _ ids u nu x q2 hu h7
            refine ⟨2 + c, ids2, u2, nu2, by rw [show acc + (2 + c) = acc + 2 + c by omega]; exact c1, c2, ?_⟩
            rw [step x 2 hrel _ c3]
            exact add _ _ _ _ _ (by omega)
          · rcases zif_iff h7 with ⟨h8, h9⟩ | ⟨-, h9⟩
            · have h8 := zbleT h8
              rw [zyNm_hi (by omega)] at hrel
              obtain ⟨c, ids2, u2, nu2, c1, c2, c3⟩ := ih hFt _ _ ids u nu x q2 hu h9
              refine ⟨3 + c, ids2, u2, nu2, by rw [show acc + (3 + c) = acc + 3 + c by omega]; exact c1, c2, ?_⟩
              rw [step x 3 hrel _ c3]
              exact add _ _ _ _ _ (by omega)
            · rcases zif_iff h9 with ⟨h10, h11⟩ | ⟨-, h11⟩
              · have h10 := zbeqT h10
                have hnu : nu = 0 := by
                  rcases hu with ⟨-, e⟩ | ⟨y3, e, -⟩
                  · exact e
                  · rw [h10] at e
                    exact absurd (zyv_ik e) (by decide)
                subst hnu
                obtain ⟨c, ids2, u2, nu2, c1, c2, c3⟩ := ih hFt _ _ ids f3 (zyNm y) x q2 (Or.inr ⟨y, q3, rfl⟩) h11
                refine ⟨c, ids2, u2, nu2, c1, c2, ?_⟩
                rw [← c3, zyeqB hrel, Int32.add_assoc, ← zyofA, show zyNm y + (0 + zyidS (zyE X) o ids) = zyNm y + zyidS (zyE X) o ids by omega]
              · cases h11
        · have h3 := zbeqF h3
          have hrel : zB z = zB x + (id - 300) := by
            rcases q4 with ⟨a1, a2, a3⟩ | ⟨a1, a3⟩ | ⟨a1, a2, a3⟩ | ⟨a1, a3⟩ | ⟨a1, a2, a3⟩ | ⟨a1, a3⟩
            · omega
            · omega
            · omega
            · omega
            · exact a3
            · omega
          obtain ⟨c, ids2, u2, nu2, c1, c2, c3⟩ := ih hFt _ _ ids u nu x q2 hu h4
          refine ⟨id - 300 + c, ids2, u2, nu2, by rw [show acc + (id - 300 + c) = acc + (1000 + id - 1300) + c by omega]; exact c1, c2, ?_⟩
          rw [step x (id - 300) hrel _ c3]
          exact add _ _ _ _ _ (by omega)
      · rcases zif_iff h2 with ⟨h3, h4⟩ | ⟨-, h4⟩
        · obtain ⟨h5, h6⟩ := zand_iff h3
          have h5 := zbleT h5
          have h6 := zbleT h6
          have hz : z = x + Int32.ofNat (zyCt1 (zyE X) o (1000 + id - (1000 + b0))) := by
            rcases hb0 with ⟨rfl, rfl⟩ | ⟨rfl, rfl⟩
            · rcases q4 with ⟨a1, a2, a3⟩ | ⟨a1, a3⟩ | ⟨a1, a2, a3⟩ | ⟨a1, a3⟩ | ⟨a1, a2, a3⟩ | ⟨a1, a3⟩
              · rw [a3, show 1000 + id - (1000 + 100) = id - 100 by omega]
              · omega
              · omega
              · omega
              · omega
              · omega
            · rcases q4 with ⟨a1, a2, a3⟩ | ⟨a1, a3⟩ | ⟨a1, a2, a3⟩ | ⟨a1, a3⟩ | ⟨a1, a2, a3⟩ | ⟨a1, a3⟩
              · omega
              · omega
              · rw [a3, show 1000 + id - (1000 + 200) = id - 200 by omega]
              · omega
              · omega
              · omega
          obtain ⟨c, ids2, u2, nu2, c1, c2, c3⟩ := ih hFt _ _ _ u nu x q2 hu h4
          refine ⟨c, ids2, u2, nu2, c1, c2, ?_⟩
          rw [← c3, hz, Int32.add_assoc, ← zyofA]
          congr 2
          show zyCt1 (zyE X) o (1000 + id - (1000 + b0)) + (nu + zyidS (zyE X) o ids) = nu + (zyCt1 (zyE X) o (1000 + id - (1000 + b0)) + zyidS (zyE X) o ids)
          omega
        · cases h4
    · exact ih hFt v acc ids u nu z hv hu h2
end
section
/-! THE PRINTER: writeAll, write -/
noncomputable def zylb (a : List Nat) : List Nat → Bool := List.rec (motive := fun _ => List Nat → Bool) (fun b => zynil b) (fun x _ ih b => List.rec (motive := fun _ => Bool) false (fun y t _ => zand (Nat.beq x y) (ih t)) b) a
theorem zylb_iff : ∀ {a b : List Nat}, zylb a b = true → a = b := by
  intro a
  induction a with
  | nil => intro b h; exact (zynil_iff h).symm
  | cons x t ih =>
    intro b h
    cases b with
    | nil => cases h
    | cons y u =>
      have h : zand (Nat.beq x y) (zylb t u) = true := h
      obtain ⟨h1, h2⟩ := zand_iff h
      rw [zbeqT h1, ih h2]
noncomputable def zycA (o b0 pl pw : Nat) : Nat → List zyCt := fun y => zif (Nat.beq y 48) [([299, pl], zyfw, [zyc 0 1800, b0, 606210], 7, [(606210, zyc 0 1000)], [])] (zif (Nat.beq y 49) [([299, pl], zyfw, [zyc 0 2800, Nat.add b0 1, 606210], 7, [(606210, zyc 0 2000)], [])] (zif (Nat.beq y 50) [([299, pl], zyfw, [zyc 0 3800, Nat.add b0 2, 606210], 7, [(606210, zyc 0 3000)], [])] (zif (Nat.beq y 51) [([299, pl], zyfw, [zyc 0 4300, Nat.add b0 3, 606210], 7, [(606210, zyc 0 4000)], [])] (zif (Nat.beq y 52) [([299, pw], zyfw, [zyc 0 6600, Nat.add b0 4, 606210], 7, [(606210, zyc 0 5000)], [])] (zycC y)))))
theorem zybeq_ne {a b : Nat} (h : ¬ a = b) : Nat.beq a b = false := by
  cases hq : Nat.beq a b with
  | false => rfl
  | true => exact absurd (zbeqT hq) h
theorem zycA_ok {l : Launch} {o b0 pl pw : Nat} (hb0 : (b0 = 100 ∧ o = 0) ∨ (b0 = 200 ∧ o = 17)) (h0 : zyrsw o pl = true) (h1 : zyrst o pl = true) (h2 : zyrfr o pl = true) (h3 : zyrpl o pl = true) (h4 : zyrwo o pw = true) : ∀ y2 ct en2 me2, ct ∈ zycA o b0 pl pw y2 → zG zxMeta y2 = some en2 → zG zMeth y2 = some me2 → zyCon l zymc zyJc en2 me2 ct := by
  intro y2 ct en2 me2 hct hen hme
  unfold zycA at hct
  by_cases e0 : y2 = 48
  · subst e0
    have hct : ct ∈ [([299, pl], zyfw, [zyc 0 1800, b0, 606210], 7, [(606210, zyc 0 1000)], [])] := hct
    rw [List.mem_singleton.mp hct]
    exact zysw h0 hb0 hen hme
  rw [zybeq_ne e0, zif_f] at hct
  by_cases e1 : y2 = 49
  · subst e1
    have hct : ct ∈ [([299, pl], zyfw, [zyc 0 2800, Nat.add b0 1, 606210], 7, [(606210, zyc 0 2000)], [])] := hct
    rw [List.mem_singleton.mp hct]
    exact zyst h1 (by rcases hb0 with ⟨rfl, e⟩ | ⟨rfl, e⟩; exact Or.inl ⟨rfl, e⟩; exact Or.inr ⟨rfl, e⟩) hen hme
  rw [zybeq_ne e1, zif_f] at hct
  by_cases e2 : y2 = 50
  · subst e2
    have hct : ct ∈ [([299, pl], zyfw, [zyc 0 3800, Nat.add b0 2, 606210], 7, [(606210, zyc 0 3000)], [])] := hct
    rw [List.mem_singleton.mp hct]
    exact zyfree h2 (by rcases hb0 with ⟨rfl, e⟩ | ⟨rfl, e⟩; exact Or.inl ⟨rfl, e⟩; exact Or.inr ⟨rfl, e⟩) hen hme
  rw [zybeq_ne e2, zif_f] at hct
  by_cases e3 : y2 = 51
  · subst e3
    have hct : ct ∈ [([299, pl], zyfw, [zyc 0 4300, Nat.add b0 3, 606210], 7, [(606210, zyc 0 4000)], [])] := hct
    rw [List.mem_singleton.mp hct]
    exact zyplace h3 (by rcases hb0 with ⟨rfl, e⟩ | ⟨rfl, e⟩; exact Or.inl ⟨rfl, e⟩; exact Or.inr ⟨rfl, e⟩) hen hme
  rw [zybeq_ne e3, zif_f] at hct
  by_cases e4 : y2 = 52
  · subst e4
    have hct : ct ∈ [([299, pw], zyfw, [zyc 0 6600, Nat.add b0 4, 606210], 7, [(606210, zyc 0 5000)], [])] := hct
    rw [List.mem_singleton.mp hct]
    exact zywish h4 (by rcases hb0 with ⟨rfl, e⟩ | ⟨rfl, e⟩; exact Or.inl ⟨rfl, e⟩; exact Or.inr ⟨rfl, e⟩) hen hme
  rw [zybeq_ne e4, zif_f] at hct
  exact zycC_ok y2 ct en2 me2 hct hen hme
noncomputable def zyκA (pl : Nat) : zyKt := (0, 3, [299, pl, 13], [(0, 4294967295), (0, 4294967295), (0, 4294967295)], [], [])
noncomputable def zyκB (pl b : Nat) : zyKt := (46, 4, [299, pl, Nat.mul 8 b], zyfulls (2147483648, Nat.add 2147483648 (Nat.add 1800 (Nat.mul 25 b))) 3, [(606210, zysym 3)], [])
noncomputable def zybxbo (o s : Nat) (w : zW) (F : List zyF) (c u : Nat) : Bool := zand (zygo1 (Nat.add 1 o) 5 8 s w F) (zif (Nat.beq u 13) (zyfk w (Nat.add 14 o) s (fun lo hi => zif (Nat.ble hi 2147483657) (Nat.beq c 9) (zif (Nat.ble 2147483658 lo) (Nat.beq c 10) false)) F) (zand (Nat.beq c 7) (zyfkc w (Nat.add 14 o) s u F)))
theorem zybxbo_iff {X : zyX} {w : zW} {F : List zyF} {o s c u nu : Nat} (hs : s < 2147483648) (hE : zEnv (zyρ X) w.2) (hF : ∀ f ∈ F, zyFm X f) (h : zybxbo o s w F c u = true) (hu : zyund X u nu) : zyCbo (zyE X) o s = c + nu ∧ s < min (zyN1 (zyI (zyE X) (1 + o) 5)) 8 := by
  obtain ⟨h1, h2⟩ := zand_iff h
  refine ⟨?_, zygo1_iff (by decide) hE hF h1⟩
  unfold zyCbo
  rcases zif_iff h2 with ⟨u1, h3⟩ | ⟨u1, h3⟩
  · have u1 := zbeqT u1
    have e0 : nu = 0 := by
      rcases hu with ⟨-, e⟩ | ⟨y3, e, -⟩
      · exact e
      · rw [u1] at e
        exact absurd (zyv_ik e) (by decide)
    subst e0
    obtain ⟨x, lo, hi, e, b1, b2, hk⟩ := zyfk_iff hE hs hF h3
    have e2 : zyI (zyE X) (14 + o) s = x := by unfold zyI; rw [show 14 + o = Nat.add 14 o from rfl, e]
    rw [e2]
    rcases zif_iff hk with ⟨k5, k6⟩ | ⟨-, k6⟩
    · have k5 := zbleT k5
      have k6 := zbeqT k6
      rw [zyNm_lo (by omega), k6]
    · rcases zif_iff k6 with ⟨k7, k8⟩ | ⟨-, k8⟩
      · have k7 := zbleT k7
        have k8 := zbeqT k8
        rw [zyNm_hi (by omega), k8]
      · cases k8
  · have u1 := zbeqF u1
    obtain ⟨h4, h5⟩ := zand_iff h3
    have h4 := zbeqT h4
    rcases hu with ⟨e, -⟩ | ⟨y, hy, en⟩
    · exact absurd e u1
    · obtain ⟨e1, e2⟩ := zyfkc_iff hE hs hy hF h5
      have e3 : zyI (zyE X) (14 + o) s = y := by unfold zyI; rw [show 14 + o = Nat.add 14 o from rfl, e1]
      rw [e3, h4, en]
noncomputable def zystA (P : zyP) (o b0 pl : Nat) (κ : zyKt) : zyK := fun w _ _ pc ls st _ fs m => List.rec (motive := fun _ => Bool) (List.rec (motive := fun _ => Bool) (zif (Nat.beq pc 46)
  (zif (Nat.beq κ.1 0) (zand (zyincl P 3 w ls m.1 (zyκB pl 0)) (zylk false (fun cd => zand (Nat.ble (Nat.mod cd 8) 2) (zycha w 0 b0 (fun c ids u => zand (Nat.beq u 13) (zand (Nat.beq c 9) (zylb ids [0]))) m.2 cd 0 [] 13)) 606210 m.1))
    (zfr false (zysof κ) (fun s => zand (zyincl P 3 w ls m.1 (zyκB pl (Nat.succ s))) (zylk false (fun cd => zand (Nat.ble (Nat.mod cd 8) 2) (zycha w (zysym 3) b0 (fun c ids u => zand (zylb ids []) (zybxbo o s w m.2 c u)) m.2 cd 0 [] 13)) 606210 m.1)))) false) (fun _ _ _ => false) st) (fun _ _ _ => false) fs
noncomputable def zyends (o s : Nat) (w : zW) (F : List zyF) (c : Nat) (ids : List Nat) (u : Nat) : Bool := zand (zand (Nat.beq u 13) (Nat.beq c 0)) (zand (zyen1 (Nat.add 1 o) 5 8 s w F) (zyfk w (Nat.add 1 o) 8 (fun lo hi => zif (Nat.ble 2147483649 lo) (zylb ids [1, 2, 3, 4]) (zif (zand (Nat.beq lo 2147483648) (Nat.beq hi 2147483648)) (zylb ids [1, 2, 3]) false)) F))
noncomputable def zybtA (o b0 : Nat) (κ : zyKt) : zW → List Nat → zyM → Bool := fun w v m => zand (zynil v) (zif (Nat.beq κ.1 0) false (zfr false (zysof κ) (fun s => zylk false (fun cd => zand (Nat.ble (Nat.mod cd 8) 2) (zand (zysub w cd (zyc 0 6600)) (zycha w (zysym 3) b0 (zyends o s w m.2) m.2 cd 0 [] 13))) 606210 m.1)))
noncomputable def zyPA (o b0 pl pw : Nat) : zyP := (zymc, zycA o b0 pl pw, zyfw, zydc, 0)
noncomputable def zyrunA (o b0 pl pw : Nat) : Bool := zand (zywf 3 (zyκA pl)) (zand (zyAll (fun s => zywf 3 (zyκB pl s)) 9) (zand
  (zyok (fun w v m => zand (zyfitM w zymc m.1) (zand (zypre w zymc m.1 []) (zybtA o b0 (zyκA pl) w v m))) (zyPA o b0 pl pw) (zystA (zyPA o b0 pl pw) o b0 pl (zyκA pl)) 200000 (3, (zyκA pl).2.2.2.1) zxi47 (47, 0, 0, 0, 0) 0 (zyκA pl).2.2.1 [] (9, 0, 0) [] ([], []))
  (zand (zyAll (fun s => zyok (fun w v m => zand (zyfitM w zymc m.1) (zand (zypre w zymc m.1 []) (zybtA o b0 (zyκB pl s) w v m))) (zyPA o b0 pl pw) (zystA (zyPA o b0 pl pw) o b0 pl (zyκB pl s)) 200000 (4, (zyκB pl s).2.2.2.1) zxi47 (47, 0, 0, 0, 0) 46 (zyκB pl s).2.2.1 [] (9, 0, 0) [] ((zyκB pl s).2.2.2.2.1, [])) 9)
    (zpad 3 (zexp [299, pl]) (fun l2 => zyincl (zyPA o b0 pl pw) 3 (0, []) l2 [] (zyκA pl))))))
theorem zyrunA_1 : zyrunA 0 100 11 131 = true := by decide +kernel
theorem zyrunA_2 : zyrunA 17 200 147 267 = true := by decide +kernel
end
section
/-! THE PRINTER: writeAll's contract -/
theorem zystA_iff {P : zyP} {o b0 pl : Nat} {κ : zyKt} {w : zW} {cf : Nat → zT} {y : zY} {pc : Nat} {ls st : List Nat} {q : zQ} {m : zyM} (hh : zystA P o b0 pl κ w cf y pc ls st q [] m = true) : st = [] ∧ pc = 46 ∧ ((κ.1 = 0 ∧ zyincl P 3 w ls m.1 (zyκB pl 0) = true ∧ zylk false (fun cd => zand (Nat.ble (Nat.mod cd 8) 2) (zycha w 0 b0 (fun c ids u => zand (Nat.beq u 13) (zand (Nat.beq c 9) (zylb ids [0]))) m.2 cd 0 [] 13)) 606210 m.1 = true) ∨
    (¬ κ.1 = 0 ∧ zyincl P 3 w ls m.1 (zyκB pl (zysof κ + 1)) = true ∧ zylk false (fun cd => zand (Nat.ble (Nat.mod cd 8) 2) (zycha w (zysym 3) b0 (fun c ids u => zand (zylb ids []) (zybxbo o (zysof κ) w m.2 c u)) m.2 cd 0 [] 13)) 606210 m.1 = true)) := by
  cases st with
  | cons a t => cases hh
  | nil =>
    have hh : zif (Nat.beq pc 46) (zif (Nat.beq κ.1 0) (zand (zyincl P 3 w ls m.1 (zyκB pl 0)) (zylk false (fun cd => zand (Nat.ble (Nat.mod cd 8) 2) (zycha w 0 b0 (fun c ids u => zand (Nat.beq u 13) (zand (Nat.beq c 9) (zylb ids [0]))) m.2 cd 0 [] 13)) 606210 m.1))
    (zfr false (zysof κ) (fun s => zand (zyincl P 3 w ls m.1 (zyκB pl (Nat.succ s))) (zylk false (fun cd => zand (Nat.ble (Nat.mod cd 8) 2) (zycha w (zysym 3) b0 (fun c ids u => zand (zylb ids []) (zybxbo o s w m.2 c u)) m.2 cd 0 [] 13)) 606210 m.1)))) false = true := hh
    rw [zfr_eq] at hh
    rcases zif_iff hh with ⟨h1, h2⟩ | ⟨-, h2⟩
    · refine ⟨rfl, zbeqT h1, ?_⟩
      rcases zif_iff h2 with ⟨h3, h4⟩ | ⟨h3, h4⟩
      · obtain ⟨g1, g2⟩ := zand_iff h4
        exact Or.inl ⟨zbeqT h3, g1, g2⟩
      · obtain ⟨g1, g2⟩ := zand_iff h4
        exact Or.inr ⟨zbeqF h3, g1, g2⟩
    · cases h2
theorem zysofB {pl s : Nat} : zysof (zyκB pl s) = s := by
  show 8 * s / 8 = s
  omega
theorem zyund0 {X : zyX} {u nu : Nat} (hu : zyund X u nu) (h : u = 13) : nu = 0 := by
  rcases hu with ⟨-, e⟩ | ⟨y3, e, -⟩
  · exact e
  · rw [h] at e
    exact absurd (zyv_ik e) (by decide)
theorem zywall {l : Launch} {o b0 pl pw : Nat} (hb0 : (b0 = 100 ∧ o = 0) ∨ (b0 = 200 ∧ o = 17)) (h0 : zyrsw o pl = true) (h1 : zyrst o pl = true) (h2 : zyrfr o pl = true) (h3 : zyrpl o pl = true) (h4 : zyrwo o pw = true) (hr : zyrunA o b0 pl pw = true) {en : zEn} {me : zMe} (hen : zG zxMeta 47 = some en) (hme : zG zMeth 47 = some me) : zyCon l zymc zyJc en me ([299, pl], zyfw, [zyc 0 6600, b0 + 5, 606210], 9, [], []) := by
  have een : zG zxMeta 47 = some (zxi47, 2, 3, 4, 47, 0, 0, 0, 0) := rfl
  obtain ⟨me1, hme1, hOK⟩ := zall hen
  rw [hme] at hme1
  cases hme1
  rw [een] at hen
  cases hen
  obtain ⟨q1, hr⟩ := zand_iff hr
  obtain ⟨q2, hr⟩ := zand_iff hr
  obtain ⟨q3, hr⟩ := zand_iff hr
  obtain ⟨q4, q5⟩ := zand_iff hr
  have hK : ∀ κ, κ ∈ zyκA pl :: (List.range 9).map (zyκB pl) → κ = zyκA pl ∨ ∃ s, s < 9 ∧ κ = zyκB pl s := by
    intro κ hκ
    rcases List.mem_cons.mp hκ with e | e
    · exact Or.inl e
    · obtain ⟨s, h1, h2⟩ := List.mem_map.mp e
      exact Or.inr ⟨s, List.mem_range.mp h1, h2.symm⟩
  have hKs : ∀ s, s < 9 → zyκB pl s ∈ zyκA pl :: (List.range 9).map (zyκB pl) := fun s hs => List.mem_cons_of_mem _ (List.mem_map.mpr ⟨s, List.mem_range.mpr hs, rfl⟩)
  refine zycutC (P := zyPA o b0 pl pw) (J := zyJc) (K := zyκA pl :: (List.range 9).map (zyκB pl)) (κ0 := zyκA pl) (n := 200000) (bt := zybtA o b0) (stp := zystA (zyPA o b0 pl pw) o b0 pl) hOK (zycA_ok hb0 h0 h1 h2 h3 h4) zyJc_p rfl rfl List.mem_cons_self rfl ?_ (fun _ _ _ _ _ _ _ _ _ _ _ => rfl) ?_ q5 (fun _ _ h => h)
    (fun B AsV κ s ρ H => (κ = zyκA pl) ∨ ∃ i, i < 9 ∧ κ = zyκB pl i ∧ i ≤ min (zyN1 (zyI (zyEl zymc B s.heap) (1 + o) 5)) 8 ∧ ρ 3 = Int32.ofNat (9 + zyCt1 (zyEl zymc B s.heap) o 0 + zySum (zyCbo (zyEl zymc B s.heap) o) i)) (fun _ _ κ _ _ _ => if κ.1 = 0 then 100000 else 99999 - zysof κ) ?_ ?_ ?_
  · intro κ hκ
    rcases hK κ hκ with e | ⟨s, hs, e⟩
    · rw [e]; exact q1
    · rw [e]; exact zyAll_iff q2 s hs
  · intro κ hκ
    rcases hK κ hκ with e | ⟨s, hs, e⟩
    · rw [e]; exact q3
    · rw [e]; exact zyAll_iff q4 s hs
  · intro B AsV hA s lsA hKn hI hPk hlv
    exact Or.inl rfl
  · intro B AsV hA κ hκ s ρ H hPk hI hInv ρ2 N2 w pc ls st q m H2 locs2 lsB stA hs hag hR
    obtain ⟨est, hpc, hcase⟩ := zystA_iff hs
    have key : ∀ (root : Nat) (r : Int32) (k : Nat → List Nat → Nat → Bool), root % 8 ≤ 1 → zyV (B, ρ2, N2, ρ, κ.2.1, (zyEl zymc B s.heap, fun q => s.heap[q]?), zyJc) root (.int r) → zylk false (fun cd => zand (Nat.ble (Nat.mod cd 8) 2) (zycha w root b0 k m.2 cd 0 [] 13)) 606210 m.1 = true → ∃ (z : Int32) (c u nu : Nat) (ids : List Nat), (∀ i, zyrho zymc B H2 3 lsB (zyκB pl i).2.2.2.2.1 3 = z) ∧ k c ids u = true ∧ zyund (B, ρ2, N2, ρ, κ.2.1, (zyEl zymc B s.heap, fun q => s.heap[q]?), zyJc) u nu ∧ z = r + Int32.ofNat (c + nu + zyidS (zyEl zymc B s.heap) o ids) := by
      intro root r k hroot hrt hk
      obtain ⟨cd, v, h1, h2, h3, h4⟩ := zyM37 (P := zyPA o b0 pl pw) rfl hR.2.1 hk
      obtain ⟨h2a, h2⟩ := zand_iff h2
      obtain ⟨z, rfl⟩ := zyv_int h4 (zbleT h2a)
      obtain ⟨c, ids, u, nu, c1, c2, c3⟩ := zycha_iff hb0 hR.1.1 rfl hroot hrt hR.1.2.2.2 cd 0 [] 13 0 z h4 (Or.inl ⟨rfl, rfl⟩) h2
      refine ⟨z, c, u, nu, ids, fun i => ?_, by rw [Nat.zero_add] at c1; exact c1, c2, ?_⟩
      · exact zyrho_c (B := zymc) (Y := B) (H := H2) (nL := 3) (j := 0) (lsA := lsB) (kc := (zyκB pl i).2.2.2.2.1) (p := (606210, zysym 3)) (x := z) rfl (by dsimp only; rw [zyk37.1, zyk37.2]; exact h3)
      · have c3 : z + Int32.ofNat (0 + 0) = r + Int32.ofNat (c + nu + zyidS (zyEl zymc B s.heap) o ids) := c3
        rw [← c3]
        exact (Int32.add_zero z).symm
    rcases hcase with ⟨hk0, hin, hl⟩ | ⟨hk0, hin, hl⟩
    · obtain ⟨z, c, u, nu, ids, hz1, hz2, hz4, hz3⟩ := key 0 0 _ (by decide) zyv_zero hl
      obtain ⟨hz5, hz2⟩ := zand_iff hz2
      obtain ⟨hz2, hz6⟩ := zand_iff hz2
      have hnu := zyund0 hz4 (zbeqT hz5)
      have hz2 := zbeqT hz2
      have hz6 := zylb_iff hz6
      refine ⟨zyκB pl 0, hKs 0 (by decide), est, hpc, ⟨w, rfl, hR.1.1, hin⟩, Or.inr ⟨0, by decide, rfl, Nat.zero_le _, ?_⟩, ?_⟩
      · have e := hz1 0
        rw [hz3, hz2, hnu, hz6, Int32.zero_add] at e
        exact e
      · rw [if_pos hk0, if_neg (show ¬ (zyκB pl 0).1 = 0 from fun q => by cases q)]
        omega
    · rcases hInv with eκ | ⟨i, hi, eκ, hic, hsum⟩
      · rw [eκ] at hk0; exact absurd rfl hk0
      have hN3 : 3 < N2 := by
        have h1 : κ.2.1 ≤ N2 := hR.1.2.2.1.1
        rw [eκ] at h1
        exact h1
      have hag0 : ρ2 3 = ρ 3 := hag 3 (by rw [eκ]; exact Nat.lt_succ_self 3)
      obtain ⟨z, c, u, nu, ids, hz1, hz2, hz4, hz3⟩ := key (zysym 3) (ρ2 3) _ (zysym_k _) (zyv_sym hN3 rfl) hl
      obtain ⟨hz6, hz2⟩ := zand_iff hz2
      have hz6 := zylb_iff hz6
      have esi : zysof κ = i := by rw [eκ]; exact zysofB
      rw [esi] at hz2 hin
      obtain ⟨p1, p2⟩ := zybxbo_iff (by omega) hR.1.1 hR.1.2.2.2 hz2 hz4
      have p2 : i < min (zyN1 (zyI (zyEl zymc B s.heap) (1 + o) 5)) 8 := p2
      have p1 : zyCbo (zyEl zymc B s.heap) o i = c + nu := p1
      refine ⟨zyκB pl (i + 1), hKs (i + 1) (by omega), est, hpc, ⟨w, rfl, hR.1.1, hin⟩, Or.inr ⟨i + 1, by omega, rfl, p2, ?_⟩, ?_⟩
      · have e := hz1 (i + 1)
        rw [hz3, hag0, hsum, hz6, ← zyofA] at e
        have e2 : 9 + zyCt1 (zyEl zymc B s.heap) o 0 + zySum (zyCbo (zyEl zymc B s.heap) o) i + (c + nu + zyidS (zyEl zymc B s.heap) o []) = 9 + zyCt1 (zyEl zymc B s.heap) o 0 + zySum (zyCbo (zyEl zymc B s.heap) o) (i + 1) := by
          show _ + (c + nu + 0) = 9 + zyCt1 (zyEl zymc B s.heap) o 0 + (zySum (zyCbo (zyEl zymc B s.heap) o) i + zyCbo (zyEl zymc B s.heap) o i)
          omega
        rw [e2] at e
        exact e
      · rw [if_neg hk0, if_neg (show ¬ (zyκB pl (i + 1)).1 = 0 from fun q => by cases q), esi, zysofB]
        omega
  · intro B AsV hA κ hκ s ρ H hPk hI hInv ρ2 w v m t vo hbt hag hE hF hM hvo
    obtain ⟨b1, b2⟩ := zand_iff hbt
    have ev := zynil_iff b1
    subst ev
    rw [zfr_eq] at b2
    rcases zif_iff b2 with ⟨-, b3⟩ | ⟨hk0, b3⟩
    · cases b3
    have hk0 := zbeqF hk0
    rcases hInv with eκ | ⟨i, hi, eκ, hic, hsum⟩
    · rw [eκ] at hk0; exact absurd rfl hk0
    have esi : zysof κ = i := by rw [eκ]; exact zysofB
    have hκ1 : κ.2.1 = 4 := by rw [eκ]; rfl
    have hag0 : ρ2 3 = ρ 3 := hag.2 _ (by omega)
    cases vo with
    | some x => exact hvo.elim
    | none =>
      obtain ⟨x, hx⟩ := zyE37 hI
      obtain ⟨cd, v, h1, h2, h3, h4⟩ := zyM37 (P := zyPA o b0 pl pw) rfl hM b3
      obtain ⟨h2a, h2⟩ := zand_iff h2
      obtain ⟨h2b, h2⟩ := zand_iff h2
      obtain ⟨z, rfl⟩ := zyv_int h4 (zbleT h2a)
      obtain ⟨c, ids, u, nu, c1, c3, c2⟩ := zycha_iff (X := (B, ρ2, w.1, ρ, κ.2.1, (zyEl zymc B s.heap, fun q => s.heap[q]?), zyJc)) (r := ρ2 3) hb0 hE rfl (zysym_k _) (zyv_sym (show 3 < w.1 by have := hag.1; omega) rfl) hF cd 0 [] 13 0 z h4 (Or.inl ⟨rfl, rfl⟩) h2
      rw [Nat.zero_add, esi] at c1
      obtain ⟨d1, d2⟩ := zand_iff c1
      obtain ⟨d1, d3⟩ := zand_iff d1
      obtain ⟨d2, d4⟩ := zand_iff d2
      have hnu := zyund0 c3 (zbeqT d1)
      have d3 := zbeqT d3
      have e5 := zyen1_iff (by decide) hE hF d2
      have e5 : min (zyN1 (zyI (zyEl zymc B s.heap) (1 + o) 5)) 8 ≤ i := e5
      have ei : min (zyN1 (zyI (zyEl zymc B s.heap) (1 + o) 5)) 8 = i := by omega
      have c2 : z + Int32.ofNat (0 + 0) = ρ2 3 + Int32.ofNat (c + nu + zyidS (zyEl zymc B s.heap) o ids) := c2
      have hz : z = Int32.ofNat (9 + zyCt1 (zyEl zymc B s.heap) o 0 + zySum (zyCbo (zyEl zymc B s.heap) o) i + zyidS (zyEl zymc B s.heap) o ids) := by
        rw [show z + Int32.ofNat (0 + 0) = z from Int32.add_zero z, hag0, hsum, ← zyofA, d3, hnu] at c2
        rw [c2]
        exact congrArg Int32.ofNat (by omega)
      obtain ⟨hw, lo, hi2, f1, f2, f3, f4⟩ := zyfk_iff hE (by decide) hF d4
      have f5 : zyI (zyEl zymc B s.heap) (1 + o) 8 = hw := by
        unfold zyI
        rw [show zyEl zymc B s.heap (1 + o) 8 = some (.int hw) from f1]
      have hz6 : zyCt1 (zyEl zymc B s.heap) o 6 = zySum (zyCbo (zyEl zymc B s.heap) o) i := by
        show zySum (zyCbo (zyEl zymc B s.heap) o) (min (zyN1 (zyI (zyEl zymc B s.heap) (1 + o) 5)) 8) = _
        rw [ei]
      have htot : z = Int32.ofNat (zyCta (zyEl zymc B s.heap) o) := by
        rw [hz]
        refine congrArg Int32.ofNat ?_
        unfold zyCta
        rw [hz6, f5]
        rcases zif_iff f4 with ⟨k1, k2⟩ | ⟨-, k2⟩
        · have k1 := zbleT k1
          rw [zylb_iff k2, if_neg (fun q => by have := zyB0.mpr q; omega)]
          show _ + (zyCt1 (zyEl zymc B s.heap) o 1 + (zyCt1 (zyEl zymc B s.heap) o 2 + (zyCt1 (zyEl zymc B s.heap) o 3 + (zyCt1 (zyEl zymc B s.heap) o 4 + 0)))) = _
          omega
        · rcases zif_iff k2 with ⟨k3, k4⟩ | ⟨-, k4⟩
          · obtain ⟨k5, k6⟩ := zand_iff k3
            have k5 := zbeqT k5
            have k6 := zbeqT k6
            rw [zylb_iff k4, if_pos (zyB0.mp (by omega))]
            show _ + (zyCt1 (zyEl zymc B s.heap) o 1 + (zyCt1 (zyEl zymc B s.heap) o 2 + (zyCt1 (zyEl zymc B s.heap) o 3 + 0))) = _
            omega
          · cases k4
      refine ⟨rfl, x, z, by rw [zyk37.1, zyk37.2]; exact hx, by rw [zyk37.1, zyk37.2]; exact h3, (zysub_iff h2b hE h4).2, ?_⟩
      rcases hb0 with ⟨rfl, rfl⟩ | ⟨rfl, rfl⟩
      · exact Or.inr (Or.inl ⟨rfl, htot⟩)
      · exact Or.inr (Or.inr (Or.inr (Or.inl ⟨rfl, htot⟩)))
end
section
/-! THE PRINTER: write -/
noncomputable def zyf1 (kd : Nat) (k : Nat → List zyF → Bool) (F : List zyF) : Bool := List.rec (motive := fun _ => Bool) false (fun f t ih => zif (Nat.beq f.1 kd) (k f.2.1 t) ih) F
theorem zyf1_iff {kd : Nat} {k : Nat → List zyF → Bool} : ∀ {F : List zyF}, zyf1 kd k F = true → ∃ (f : zyF) (t : List zyF), f ∈ F ∧ (∀ g ∈ t, g ∈ F) ∧ f.1 = kd ∧ k f.2.1 t = true := by
  intro F
  induction F with
  | nil => intro h; cases h
  | cons f t ih =>
    intro h
    have h : zif (Nat.beq f.1 kd) (k f.2.1 t) (zyf1 kd k t) = true := h
    rcases zif_iff h with ⟨h1, h2⟩ | ⟨-, h2⟩
    · exact ⟨f, t, List.mem_cons_self, fun g hg => List.mem_cons_of_mem _ hg, zbeqT h1, h2⟩
    · obtain ⟨f2, t2, q1, q2, q3, q4⟩ := ih h2
      exact ⟨f2, t2, List.mem_cons_of_mem _ q1, fun g hg => List.mem_cons_of_mem _ (q2 g hg), q3, q4⟩
noncomputable def zybtw (b0 : Nat) : zW → List Nat → zyM → Bool := fun w v m => zif (zylb v [0]) (zyfitM w zymc m.1) (zand (zylb v [8]) (zyf1 (Nat.add 1005 b0) (fun v2 t => zyf1 (Nat.add 1005 b0) (fun v1 _ => zand (zand (Nat.ble (Nat.mod v1 8) 1) (Nat.ble (Nat.mod v2 8) 1)) (zand (zbd w v1 (fun lo hi => zand (Nat.ble 2147483648 lo) (Nat.ble hi 2147484548))) (zcut w v2 2147483648 2147484548 (fun w3 => zyfitM w3 zymc m.1)))) t) m.2))
noncomputable def zyPw (b0 pl : Nat) : zyP := (zymc, fun y => zif (Nat.beq y 47) [([299, pl], zyfw, [zyc 0 6600, Nat.add b0 5, 606210], 9, [], [])] [], [(37, 1, 3), (38, 0, 899)], zydc, 0)
noncomputable def zyκW (pl : Nat) : zyKt := (0, 3, [299, pl], [(0, 4294967295), (0, 4294967295), (0, 4294967295)], [(606210, zysym 2)], [])
noncomputable def zyrunW (b0 pl : Nat) : Bool := zand (zywf 2 (zyκW pl)) (zand (zyok (zybtw b0) (zyPw b0 pl) zystop0 200000 (3, (zyκW pl).2.2.2.1) zxi46 (46, 0, 0, 2, 0) 0 (zyκW pl).2.2.1 [] (10, 0, 0) [] ((zyκW pl).2.2.2.2.1, [])) (zpad 2 (zexp [299, pl]) (fun l2 => zyincl (zyPw b0 pl) 2 (0, []) l2 [] (zyκW pl))))
theorem zyrunW_1 : zyrunW 100 11 = true := by decide +kernel
theorem zyrunW_2 : zyrunW 200 147 = true := by decide +kernel
theorem zywrite {l : Launch} {o b0 pl : Nat} (hb0 : (b0 = 100 ∧ o = 0) ∨ (b0 = 200 ∧ o = 17)) (hr : zyrunW b0 pl = true) (hall : ∀ en me, zG zxMeta 47 = some en → zG zMeth 47 = some me → zyCon l zymc zyJc en me ([299, pl], zyfw, [zyc 0 6600, b0 + 5, 606210], 9, [], [])) {en : zEn} {me : zMe} (hen : zG zxMeta 46 = some en) (hme : zG zMeth 46 = some me) : zyCon l zymc zyJc en me ([299, pl], [(37, 1, 3), (38, 0, 899)], [73786976312018075658], 10, [], []) := by
  have een : zG zxMeta 46 = some (zxi46, 2, 2, 4, 46, 0, 0, 2, 0) := rfl
  obtain ⟨me1, hme1, hOK⟩ := zall hen
  rw [hme] at hme1
  cases hme1
  rw [een] at hen
  cases hen
  obtain ⟨q1, hr⟩ := zand_iff hr
  obtain ⟨q2, q3⟩ := zand_iff hr
  have hCon : zyCons l (zyPw b0 pl) zyJc := by
    intro y2 ct en2 me2 hct hen2 hme2
    have hct : ct ∈ zif (Nat.beq y2 47) [([299, pl], zyfw, [zyc 0 6600, Nat.add b0 5, 606210], 9, [], [])] [] := hct
    by_cases e : y2 = 47
    · subst e
      have hct : ct ∈ [([299, pl], zyfw, [zyc 0 6600, Nat.add b0 5, 606210], 9, [], [])] := hct
      rw [List.mem_singleton.mp hct]
      exact hall en2 me2 hen2 hme2
    · rw [zybeq_ne e] at hct
      cases hct
  intro B AsV hA
  refine zycutF (P := zyPw b0 pl) (J := zyJc) (K := [zyκW pl]) (κ0 := zyκW pl) (n := 200000) (bt := fun _ => zybtw b0) (stp := fun _ => zystop0) (dep := 10) (pre := []) hOK hCon zyJc_p rfl rfl List.mem_cons_self rfl (fun κ hκ => by rw [List.mem_singleton.mp hκ]; exact q1) (fun _ _ _ _ _ _ _ _ _ _ _ => rfl) (fun κ hκ => by rw [List.mem_singleton.mp hκ]; exact q2) hA q3 (fun _ _ _ _ => True) (fun _ _ _ _ => 0) (fun _ _ _ _ _ _ _ => trivial) (fun κ hκ s ρ H _ _ _ ρ2 N2 w pc ls st q m H2 locs2 lsB stA hs => by cases hs) ?_
  intro κ hκ s ρ H hPre hK hI hInv ρ2 w v m H2 vo hbt hag hE hF hM hvo t ht hW
  subst ht
  have fin : ∀ (w3 : zW) (u : Nat) (n : Int32), v = [8 * u] → Int32.ofNat u = n → (n = 0 ∨ n = 1) → zEnv ρ2 w3.2 → zyfitM w3 zymc m.1 = true → zyQk zymc B zyJc ([299, pl], [(37, 1, 3), (38, 0, 899)], [73786976312018075658], 10, [], []) AsV.toArray s (.returned vo) t := by
    intro w3 u n ev en hn hE3 hfit
    subst ev
    cases vo with
    | none => exact hvo.elim
    | some x =>
      have ex : x = .int n := by
        rw [← en]
        have e9 := zyv_0 hvo (show 8 * u % 8 = 0 by omega)
        rw [show 8 * u / 8 = u by omega] at e9
        exact e9
      subst ex
      refine ⟨_, rfl, zyvr_of ?_, hK.warm hW, (hM.base (w := w3) hE3 hfit).moved hW.alike, (fun p hp => by cases hp), fun a k hf => hM.2.2.1 a k hf, fun q hq => hM.2.2.2.2.2 q hq⟩
      rcases hn with rfl | rfl
      · exact zyv_bd (lo := 2147483648) (hi := 2147483649) (by decide) (by decide) (by decide)
      · exact zyv_bd (lo := 2147483648) (hi := 2147483649) (by decide) (by decide) (by decide)
  have hbt : zybtw b0 w v m = true := hbt
  unfold zybtw at hbt
  rcases zif_iff hbt with ⟨h1, h2⟩ | ⟨-, h2⟩
  · exact fin w 0 0 (zylb_iff h1) rfl (Or.inl rfl) hE h2
  · obtain ⟨h3, h4⟩ := zand_iff h2
    obtain ⟨f2, t2, m2, s2, k2, h5⟩ := zyf1_iff h4
    obtain ⟨f1, t1, m1, -, k1, h6⟩ := zyf1_iff h5
    obtain ⟨c1, c2⟩ := zand_iff h6
    obtain ⟨c1, c3⟩ := zand_iff c1
    obtain ⟨c5, c4⟩ := zand_iff c2
    have c1 := zbleT c1
    have c3 := zbleT c3
    have r2 := hF f2 m2
    have r1 := hF f1 (s2 f1 m1)
    obtain ⟨f20, f21, f22, f23⟩ := f2
    obtain ⟨f10, f11, f12, f13⟩ := f1
    dsimp only at *
    have k2 : f20 = 1000 + (b0 + 5) := by rw [k2]; show 1005 + b0 = _; omega
    have k1 : f10 = 1000 + (b0 + 5) := by rw [k1]; show 1005 + b0 = _; omega
    rw [k2] at r2
    rw [k1] at r1
    obtain ⟨x2, y2, z2, a1, a2, a3, a4⟩ := zyFm_rel r2
    obtain ⟨x1, y1, z1, d1, d2, d3, d4⟩ := zyFm_rel r1
    have a4 : zyRc (b0 + 5) (zyEl zymc B s.heap) x2 y2 z2 := a4
    have d4 : zyRc (b0 + 5) (zyEl zymc B s.heap) x1 y1 z1 := d4
    have huni : ∀ x y z : Int32, zyRc (b0 + 5) (zyEl zymc B s.heap) x y z → z = Int32.ofNat (zyCta (zyEl zymc B s.heap) o) := by
      intro x y z hz
      rcases hb0 with ⟨rfl, rfl⟩ | ⟨rfl, rfl⟩
      · rcases hz with ⟨e1, e2, e3⟩ | ⟨e1, e3⟩ | ⟨e1, e2, e3⟩ | ⟨e1, e3⟩ | ⟨e1, e2, e3⟩ | ⟨e1, e3⟩
        · omega
        · exact e3
        · omega
        · omega
        · omega
        · omega
      · rcases hz with ⟨e1, e2, e3⟩ | ⟨e1, e3⟩ | ⟨e1, e2, e3⟩ | ⟨e1, e3⟩ | ⟨e1, e2, e3⟩ | ⟨e1, e3⟩
        · omega
        · omega
        · omega
        · exact e3
        · omega
        · omega
    have ez : z2 = z1 := by rw [huni _ _ _ a4, huni _ _ _ d4]
    obtain ⟨z9, lo, hi, e9, b1, b2, hk⟩ := zybd_iff c5 hE d1
    have e9 := Value.int.inj e9
    subst e9
    obtain ⟨g1, g2⟩ := zand_iff hk
    have g1 := zbleT g1
    have g2 := zbleT g2
    obtain ⟨w3, e3, hE3, hfit⟩ := zycut_iff c4 hE a1 (by rw [ez]; omega) (by rw [ez]; omega)
    exact fin w3 1 1 (zylb_iff h3) rfl (Or.inr rfl) hE3 hfit
/-! both contracts of the table -/
theorem zyw3 {l : Launch} : zyCo l zymc zyJc zyic 3 := by
  intro en me hen hme
  exact zywrite (o := 0) (b0 := 100) (pl := 11) (Or.inl ⟨rfl, rfl⟩) zyrunW_1 (fun en me h1 h2 => zywall (Or.inl ⟨rfl, rfl⟩) zyrsw_1 zyrst_1 zyrfr_1 zyrpl_1 zyrwo_1 zyrunA_1 h1 h2) hen hme
theorem zyw4 {l : Launch} : zyCo l zymc zyJc zyic 4 := by
  intro en me hen hme
  exact zywrite (o := 17) (b0 := 200) (pl := 147) (Or.inr ⟨rfl, rfl⟩) zyrunW_2 (fun en me h1 h2 => zywall (Or.inr ⟨rfl, rfl⟩) zyrsw_2 zyrst_2 zyrfr_2 zyrpl_2 zyrwo_2 zyrunA_2 h1 h2) hen hme
end
