/-! BY HAND: the frames. What is kept: an index with a switch faces a slot -/
def zyI (E : zyEm) (a k : Nat) : Int32 := match E a k with
  | some (.int x) => x
  | _ => 0
def zySum (f : Nat → Nat) : Nat → Nat
  | 0 => 0
  | n + 1 => zySum f n + f n
theorem zySum_congr {f g : Nat → Nat} : ∀ {n : Nat}, (∀ i, i < n → f i = g i) → zySum f n = zySum g n := by
  intro n
  induction n with
  | zero => intro _; rfl
  | succ n ih =>
    intro h
    show zySum f n + f n = zySum g n + g n
    rw [ih (fun i hi => h i (by omega)), h n (by omega)]
/-! how many bytes the printer writes: of a number with its blank, of a switch, a stuck one, a free one, a place, a bobbin, a letter; o: 0 for the plan 1, 17 for the plan 18 -/
def zyNm (x : Int32) : Nat := if x < 10 then 2 else 3
def zyCsw (E : zyEm) (o s : Nat) : Nat := if zyI E (11 + o) s = 1 ∧ zyI E (10 + o) s = 0 then 0 else 7 + zyNm (Int32.ofNat s) + 2 * (zyI E (11 + o) s).toBitVec.toNat
def zyCst (E : zyEm) (o s : Nat) : Nat := if zyI E (12 + o) s = 0 then 0 else 11 + zyNm (Int32.ofNat s)
def zyCfr (E : zyEm) (o s : Nat) : Nat := if zyI E (13 + o) s = 0 then 0 else 5 + zyNm (Int32.ofNat s)
def zyCpl (E : zyEm) (o b : Nat) : Nat := if zyI E (15 + o) b = -1 then 0 else 8 + zyNm (zyI E (15 + o) b)
def zyCbo (E : zyEm) (o b : Nat) : Nat := 7 + zyNm (zyI E (14 + o) b)
def zyCwo (E : zyEm) (o i : Nat) : Nat := if zyI E (17 + o) i < 0 then 4 else 2
def zyN1 (x : Int32) : Nat := x.toBitVec.toNat
def zyCt1 (E : zyEm) (o : Nat) (id : Nat) : Nat := match id with
  | 0 => zySum (zyCsw E o) (min (zyN1 (zyI E (2 + o) 3)) 31)
  | 1 => zySum (zyCst E o) (min (zyN1 (zyI E (2 + o) 3)) 31)
  | 2 => zySum (zyCfr E o) (min (zyN1 (zyI E (2 + o) 3)) 31)
  | 3 => zySum (zyCpl E o) (min (zyN1 (zyI E (1 + o) 5)) 8)
  | 4 => 5 + zySum (zyCwo E o) (min (zyN1 (zyI E (16 + o) 1)) 60)
  | 6 => zySum (zyCbo E o) (min (zyN1 (zyI E (1 + o) 5)) 8)
  | _ => 0
def zyCta (E : zyEm) (o : Nat) : Nat := 9 + zyCt1 E o 0 + zyCt1 E o 6 + zyCt1 E o 1 + zyCt1 E o 2 + zyCt1 E o 3 + (if zyI E (1 + o) 8 = 0 then 0 else zyCt1 E o 4)
/-- 100 on: the printer's counts of the plan 1, 200 on: of the plan 18; 5: all -/
def zyRc (id : Nat) (E : zyEm) (x y z : Int32) : Prop :=
  (100 ≤ id ∧ id < 105 ∧ z = x + Int32.ofNat (zyCt1 E 0 (id - 100))) ∨ (id = 105 ∧ z = Int32.ofNat (zyCta E 0)) ∨ (200 ≤ id ∧ id < 205 ∧ z = x + Int32.ofNat (zyCt1 E 17 (id - 200))) ∨ (id = 205 ∧ z = Int32.ofNat (zyCta E 17)) ∨ (300 ≤ id ∧ ¬ id = 303 ∧ zB z = zB x + (id - 300)) ∨ (id = 303 ∧ zB z = zB x + zyNm y)
theorem zyI_eq {E E2 : zyEm} {a k : Nat} (h : E a k = E2 a k) : zyI E a k = zyI E2 a k := by
  unfold zyI
  rw [h]
theorem zyCt1_congr {E E2 : zyEm} {o id : Nat} (h : ∀ a k, (a = 1 ∧ k ≤ 9) ∨ (a = 2 ∧ k ≤ 3) ∨ (10 ≤ a ∧ a ≤ 13 ∧ k ≤ 30) ∨ (14 ≤ a ∧ a ≤ 15 ∧ k ≤ 7) ∨ (a = 16 ∧ k ≤ 1) ∨ (a = 17 ∧ k ≤ 59) → E (a + o) k = E2 (a + o) k) : zyCt1 E o id = zyCt1 E2 o id := by
  have g : ∀ a k, (a = 1 ∧ k ≤ 9) ∨ (a = 2 ∧ k ≤ 3) ∨ (10 ≤ a ∧ a ≤ 13 ∧ k ≤ 30) ∨ (14 ≤ a ∧ a ≤ 15 ∧ k ≤ 7) ∨ (a = 16 ∧ k ≤ 1) ∨ (a = 17 ∧ k ≤ 59) → zyI E (a + o) k = zyI E2 (a + o) k := fun a k hk => zyI_eq (h a k hk)
  unfold zyCt1
  split
  · rw [g 2 3 (by omega)]
    exact zySum_congr (fun i hi => by unfold zyCsw; rw [g 11 i (by omega), g 10 i (by omega)])
  · rw [g 2 3 (by omega)]
    exact zySum_congr (fun i hi => by unfold zyCst; rw [g 12 i (by omega)])
  · rw [g 2 3 (by omega)]
    exact zySum_congr (fun i hi => by unfold zyCfr; rw [g 13 i (by omega)])
  · rw [g 1 5 (by omega)]
    exact zySum_congr (fun i hi => by unfold zyCpl; rw [g 15 i (by omega)])
  · rw [g 16 1 (by omega)]
    rw [zySum_congr (g := zyCwo E2 o) (fun i hi => by unfold zyCwo; rw [g 17 i (by omega)])]
  · rw [g 1 5 (by omega)]
    exact zySum_congr (fun i hi => by unfold zyCbo; rw [g 14 i (by omega)])
  · rfl
theorem zyCta_congr {E E2 : zyEm} {o : Nat} (h : ∀ a k, (a = 1 ∧ k ≤ 9) ∨ (a = 2 ∧ k ≤ 3) ∨ (10 ≤ a ∧ a ≤ 13 ∧ k ≤ 30) ∨ (14 ≤ a ∧ a ≤ 15 ∧ k ≤ 7) ∨ (a = 16 ∧ k ≤ 1) ∨ (a = 17 ∧ k ≤ 59) → E (a + o) k = E2 (a + o) k) : zyCta E o = zyCta E2 o := by
  unfold zyCta
  rw [zyCt1_congr (id := 0) h, zyCt1_congr (id := 6) h, zyCt1_congr (id := 1) h, zyCt1_congr (id := 2) h, zyCt1_congr (id := 3) h, zyCt1_congr (id := 4) h, zyI_eq (h 1 8 (by omega))]
theorem zyFd_1 {id a k : Nat} (h1 : 100 ≤ id) (h2 : id < 200) (h : (a = 1 ∧ k ≤ 9) ∨ (a = 2 ∧ k ≤ 3) ∨ (10 ≤ a ∧ a ≤ 13 ∧ k ≤ 30) ∨ (14 ≤ a ∧ a ≤ 15 ∧ k ≤ 7) ∨ (a = 16 ∧ k ≤ 1) ∨ (a = 17 ∧ k ≤ 59)) : zyin (zyFd id) (a + 0) k = true := by
  have e1 : Nat.ble (Nat.succ id) 100 = false := by
    cases hq : Nat.ble (Nat.succ id) 100 with
    | false => rfl
    | true => have h3 : id + 1 ≤ 100 := zbleT hq; omega
  have e2 : Nat.ble (Nat.succ id) 200 = true := Nat.ble_eq_true_of_le (by omega)
  unfold zyFd
  rw [e1, e2, zif_f, zif_t]
  rw [zyin_iff]
  rcases h with ⟨rfl, e⟩ | ⟨rfl, e⟩ | ⟨q1, q2, e⟩ | ⟨q1, q2, e⟩ | ⟨rfl, e⟩ | ⟨rfl, e⟩
  · exact ⟨(1, 0, 9), by simp, rfl, Nat.zero_le _, e⟩
  · exact ⟨(2, 0, 3), by simp, rfl, Nat.zero_le _, e⟩
  · have ha : a = 10 ∨ a = 11 ∨ a = 12 ∨ a = 13 := by omega
    rcases ha with rfl | rfl | rfl | rfl
    · exact ⟨(10, 0, 30), by simp, rfl, Nat.zero_le _, e⟩
    · exact ⟨(11, 0, 30), by simp, rfl, Nat.zero_le _, e⟩
    · exact ⟨(12, 0, 30), by simp, rfl, Nat.zero_le _, e⟩
    · exact ⟨(13, 0, 30), by simp, rfl, Nat.zero_le _, e⟩
  · have ha : a = 14 ∨ a = 15 := by omega
    rcases ha with rfl | rfl
    · exact ⟨(14, 0, 7), by simp, rfl, Nat.zero_le _, e⟩
    · exact ⟨(15, 0, 7), by simp, rfl, Nat.zero_le _, e⟩
  · exact ⟨(16, 0, 1), by simp, rfl, Nat.zero_le _, e⟩
  · exact ⟨(17, 0, 59), by simp, rfl, Nat.zero_le _, e⟩
theorem zyFd_2 {id a k : Nat} (h1 : 200 ≤ id) (h2 : id < 300) (h : (a = 1 ∧ k ≤ 9) ∨ (a = 2 ∧ k ≤ 3) ∨ (10 ≤ a ∧ a ≤ 13 ∧ k ≤ 30) ∨ (14 ≤ a ∧ a ≤ 15 ∧ k ≤ 7) ∨ (a = 16 ∧ k ≤ 1) ∨ (a = 17 ∧ k ≤ 59)) : zyin (zyFd id) (a + 17) k = true := by
  have e1 : Nat.ble (Nat.succ id) 100 = false := by
    cases hq : Nat.ble (Nat.succ id) 100 with
    | false => rfl
    | true => have h3 : id + 1 ≤ 100 := zbleT hq; omega
  have e2 : Nat.ble (Nat.succ id) 200 = false := by
    cases hq : Nat.ble (Nat.succ id) 200 with
    | false => rfl
    | true => have h3 : id + 1 ≤ 200 := zbleT hq; omega
  have e3 : Nat.ble (Nat.succ id) 300 = true := Nat.ble_eq_true_of_le (by omega)
  unfold zyFd
  rw [e1, e2, e3, zif_f, zif_f, zif_t]
  rw [zyin_iff]
  rcases h with ⟨rfl, e⟩ | ⟨rfl, e⟩ | ⟨q1, q2, e⟩ | ⟨q1, q2, e⟩ | ⟨rfl, e⟩ | ⟨rfl, e⟩
  · exact ⟨(18, 0, 9), by simp, rfl, Nat.zero_le _, e⟩
  · exact ⟨(19, 0, 3), by simp, rfl, Nat.zero_le _, e⟩
  · have ha : a = 10 ∨ a = 11 ∨ a = 12 ∨ a = 13 := by omega
    rcases ha with rfl | rfl | rfl | rfl
    · exact ⟨(27, 0, 30), by simp, rfl, Nat.zero_le _, e⟩
    · exact ⟨(28, 0, 30), by simp, rfl, Nat.zero_le _, e⟩
    · exact ⟨(29, 0, 30), by simp, rfl, Nat.zero_le _, e⟩
    · exact ⟨(30, 0, 30), by simp, rfl, Nat.zero_le _, e⟩
  · have ha : a = 14 ∨ a = 15 := by omega
    rcases ha with rfl | rfl
    · exact ⟨(31, 0, 7), by simp, rfl, Nat.zero_le _, e⟩
    · exact ⟨(32, 0, 7), by simp, rfl, Nat.zero_le _, e⟩
  · exact ⟨(33, 0, 1), by simp, rfl, Nat.zero_le _, e⟩
  · exact ⟨(34, 0, 59), by simp, rfl, Nat.zero_le _, e⟩
theorem zyRc_congr {id : Nat} {E E2 : zyEm} {x y z : Int32} (h : ∀ a k, zyin (zyFd id) a k = true → E a k = E2 a k) (hr : zyRc id E x y z) : zyRc id E2 x y z := by
  rcases hr with ⟨h1, h2, h3⟩ | ⟨h1, h3⟩ | ⟨h1, h2, h3⟩ | ⟨h1, h3⟩ | h1
  · exact Or.inl ⟨h1, h2, by rw [h3, zyCt1_congr (fun a k hk => h _ _ (zyFd_1 (by omega) (by omega) hk))]⟩
  · exact Or.inr (Or.inl ⟨h1, by rw [h3, zyCta_congr (fun a k hk => h _ _ (zyFd_1 (by omega) (by omega) hk))]⟩)
  · exact Or.inr (Or.inr (Or.inl ⟨h1, h2, by rw [h3, zyCt1_congr (fun a k hk => h _ _ (zyFd_2 (by omega) (by omega) hk))]⟩))
  · exact Or.inr (Or.inr (Or.inr (Or.inl ⟨h1, by rw [h3, zyCta_congr (fun a k hk => h _ _ (zyFd_2 (by omega) (by omega) hk))]⟩)))
  · exact Or.inr (Or.inr (Or.inr (Or.inr h1)))
theorem zyRc_grow {id : Nat} {E : zyEm} {x y z : Int32} (h : 300 ≤ id) (hr : zyRc id E x y z) : zB x ≤ zB z ∧ zB z ≤ zB x + (id - 300) := by
  rcases hr with ⟨h1, h2, h3⟩ | ⟨h1, h3⟩ | ⟨h1, h2, h3⟩ | ⟨h1, h3⟩ | ⟨h1, h2, h3⟩ | ⟨h1, h3⟩
  · omega
  · omega
  · omega
  · omega
  · omega
  · have : zyNm y ≤ 3 := by unfold zyNm; split <;> omega
    omega
def zyJc0 (E : Nat → Nat → Option Value) : Prop := ∀ f g : Nat, (f = 4 ∧ g = 5) ∨ (f = 21 ∧ g = 22) → ∀ i, i ≤ 79 → ∀ z y : Int32, E f i = some (.int z) → E g i = some (.int y) → 2147483648 ≤ zB y → 2147483648 ≤ zB z
def zyJc : zyJt := (zyJc0, zyRc)
theorem zyJc_in {i : Nat} (hi : i ≤ 79) : zyin zydc 4 i = true ∧ zyin zydc 5 i = true ∧ zyin zydc 21 i = true ∧ zyin zydc 22 i = true := by
  refine ⟨zyin_iff.mpr ⟨(4, 0, 79), ?_, rfl, Nat.zero_le _, hi⟩, zyin_iff.mpr ⟨(5, 0, 79), ?_, rfl, Nat.zero_le _, hi⟩, zyin_iff.mpr ⟨(21, 0, 79), ?_, rfl, Nat.zero_le _, hi⟩, zyin_iff.mpr ⟨(22, 0, 79), ?_, rfl, Nat.zero_le _, hi⟩⟩ <;> simp [zydc]
theorem zyJc_p : zyJp zydc zyJc := by
  refine ⟨fun E E2 h hE f g hfg i hi z y hz hy hp => ?_, fun E hE p hp h1 i z y hin hz hy hpos => ?_, fun id E E2 x y z h hr => zyRc_congr (y := y) h hr, fun id E x y z h hr => zyRc_grow (y := y) h hr⟩
  · obtain ⟨q1, q2, q3, q4⟩ := zyJc_in hi
    refine hE f g hfg i hi z y ?_ ?_ hp
    · rcases hfg with ⟨e1, e2⟩ | ⟨e1, e2⟩
      · rw [e1] at hz ⊢
        rw [h 4 i q1]
        exact hz
      · rw [e1] at hz ⊢
        rw [h 21 i q3]
        exact hz
    · rcases hfg with ⟨e1, e2⟩ | ⟨e1, e2⟩
      · rw [e2] at hy ⊢
        rw [h 5 i q2]
        exact hy
      · rw [e2] at hy ⊢
        rw [h 22 i q4]
        exact hy
  · obtain ⟨p2, m1, m2, m3, m4⟩ := zyin_iff.mp hin
    have hp' : p = (100004, 5, 0) ∨ p = (100021, 22, 0) := by
      simp only [zydc, List.mem_cons, List.not_mem_nil, or_false] at hp
      rcases hp with e | e | e | e | e | e
      · rw [e] at h1; exact absurd h1 (by decide)
      · rw [e] at h1; exact absurd h1 (by decide)
      · rw [e] at h1; exact absurd h1 (by decide)
      · rw [e] at h1; exact absurd h1 (by decide)
      · exact Or.inl e
      · exact Or.inr e
    have hi : i ≤ 79 := by
      simp only [zydc, List.mem_cons, List.not_mem_nil, or_false] at m1
      rcases hp' with e | e <;> rw [e] at m2 <;> rcases m1 with e2 | e2 | e2 | e2 | e2 | e2 <;> rw [e2] at m2 m4 <;> first | exact m4 | (exfalso; revert m2; decide)
    rcases hp' with e | e
    · rw [e] at hz hy
      exact hE 4 5 (Or.inl ⟨rfl, rfl⟩) i hi z y hz hy hpos
    · rw [e] at hz hy
      exact hE 21 22 (Or.inr ⟨rfl, rfl⟩) i hi z y hz hy hpos
noncomputable def zyjck (m : List (Nat × Nat)) (f g : Nat) (n : Nat) : Bool := Nat.rec (motive := fun _ => Bool) true (fun i ih => zand (zylk false (fun vg => zylk false (fun vf => zand (Nat.beq (Nat.mod vg 8) 0) (zand (Nat.beq (Nat.mod vf 8) 0) (zif (Nat.ble 2147483648 (zb (Nat.div vg 8))) (Nat.ble 2147483648 (zb (Nat.div vf 8))) true))) (Nat.add (Nat.mul f 16384) i) m) (Nat.add (Nat.mul g 16384) i) m) ih) n
theorem zyjck1 {m : List (Nat × Nat)} {kf kg : Nat} (h1 : zylk false (fun vg => zylk false (fun vf => zand (Nat.beq (Nat.mod vg 8) 0) (zand (Nat.beq (Nat.mod vf 8) 0) (zif (Nat.ble 2147483648 (zb (Nat.div vg 8))) (Nat.ble 2147483648 (zb (Nat.div vf 8))) true))) kf m) kg m = true) : ∃ vf vg, zyl m kf = some vf ∧ zyl m kg = some vg ∧ vg % 8 = 0 ∧ vf % 8 = 0 ∧ (2147483648 ≤ zb (vg / 8) → 2147483648 ≤ zb (vf / 8)) := by
  rw [zylk_eq] at h1
  cases hg : zyl m kg with
  | none => rw [hg] at h1; cases h1
  | some vg =>
    rw [hg] at h1
    dsimp only at h1
    rw [zylk_eq] at h1
    cases hf : zyl m kf with
    | none => rw [hf] at h1; cases h1
    | some vf =>
      rw [hf] at h1
      obtain ⟨q1, q2⟩ := zand_iff h1
      obtain ⟨q2, q3⟩ := zand_iff q2
      refine ⟨vf, vg, rfl, rfl, zbeqT q1, zbeqT q2, fun hp => ?_⟩
      rcases zif_iff q3 with ⟨-, q4⟩ | ⟨q4, -⟩
      · exact zbleT q4
      · exact absurd hp (zbleF q4)
theorem zyjck_iff {m : List (Nat × Nat)} {f g : Nat} : ∀ {n : Nat}, zyjck m f g n = true → ∀ i, i < n → ∃ vf vg, zyl m (Nat.add (Nat.mul f 16384) i) = some vf ∧ zyl m (Nat.add (Nat.mul g 16384) i) = some vg ∧ vg % 8 = 0 ∧ vf % 8 = 0 ∧ (2147483648 ≤ zb (vg / 8) → 2147483648 ≤ zb (vf / 8)) := by
  intro n
  induction n with
  | zero => intro _ i hi; exact absurd hi (Nat.not_lt_zero i)
  | succ n ih =>
    intro h i hi
    obtain ⟨h1, h2⟩ := zand_iff (show zand _ (zyjck m f g n) = true from h)
    by_cases e : i = n
    · subst e
      exact zyjck1 h1
    · exact ih h2 i (Nat.lt_of_le_of_ne (Nat.le_of_lt_succ hi) e)
/-- where a frame's build writes -/
noncomputable def zyfpb (fr n : Nat) : zyR := [(fr, 0, 3), (Nat.add fr 1, 0, Nat.pred n), (Nat.add fr 2, 0, Nat.pred n), (Nat.add fr 3, 0, Nat.pred n), (Nat.add fr 4, 0, Nat.pred n), (Nat.add fr 5, 0, Nat.pred n), (Nat.add fr 6, 0, 30), (Nat.add fr 7, 0, 30)]
noncomputable def zyPb (fr n : Nat) : zyP := (zymc, fun _ => [], zyfpb fr n, [], 0)
noncomputable def zybtb (fr n : Nat) : zW → List Nat → zyM → Bool := fun w v m => zand (zyfitM w zymc m.1) (zand (List.rec (motive := fun _ => Bool) true (fun _ _ _ => false) v) (zyjck m.1 (Nat.add fr 2) (Nat.add fr 3) n))
noncomputable def zyκb (fr r c : Nat) : zyKt := (0, 5, [Nat.add (Nat.mul 8 fr) 3, Nat.mul 8 r, Nat.mul 8 c, 13, 13], [(0, 4294967295), (0, 4294967295), (0, 4294967295), (0, 4294967295), (0, 4294967295)], [], [])
noncomputable def zyrunb (fr r c : Nat) : Bool := zfr false (Nat.mul 4 (Nat.mul r c)) (fun n => zand (zywf 5 (zyκb fr r c)) (zand (zpad 5 (zexp [Nat.add (Nat.mul 8 fr) 3, Nat.mul 8 r, Nat.mul 8 c]) (fun l2 => zyincl (zyPb fr n) 5 (0, []) l2 [] (zyκb fr r c)))
  (zyok (zybtb fr n) (zyPb fr n) zystop0 200000 (5, (zyκb fr r c).2.2.2.1) zxi16 (16, 0, 0, 0, 0) 0 (zyκb fr r c).2.2.1 [] (3, 0, 0) [] ([], []))))
noncomputable def zyrunbs (fr r : Nat) : Bool := zand (zyrunb fr r 1) (zand (zyrunb fr r 2) (zand (zyrunb fr r 3) (zand (zyrunb fr r 4) (zyrunb fr r 5))))
