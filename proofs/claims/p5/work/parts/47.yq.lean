/-! WHAT FACTS SAY, asked one after the other. And contracts state by state -/
theorem zyMet_pt {l : Launch} {y : MethodName} {ws : List Cond} {rm : Room} {Pc : Array Value → State → Prop} {Qc : Array Value → State → Outcome → State → Prop} {mc ms : Nat} {free : Addr → Prop} (h : ∀ a s, Pc a s → ∃ (Pc2 : Array Value → State → Prop) (Qc2 : Array Value → State → Outcome → State → Prop), Met l y ws rm Pc2 Qc2 mc ms free ∧ Pc2 a s ∧ ∀ o t, Qc2 a s o t → Qc a s o t) : Met l y ws rm Pc Qc mc ms free := by
  intro p e ha hc hk s m args below hf happ hP hK
  obtain ⟨Pc2, Qc2, hM, hp, hq⟩ := h args s hP
  obtain ⟨n, o, h1, h2, h3, h4⟩ := hM p e ha hc hk s m args below hf happ hp hK
  exact ⟨n, o, h1, h2, h3, hq _ _ h4.1, h4.2⟩
/-- an element that was read -/
noncomputable def zqE (a j : Nat) (k : Nat → Bool) (F : List zyF) : Bool := List.rec (motive := fun _ => Bool) false (fun f _ ih => zif (zand (Nat.beq f.1 24) (zand (Nat.beq f.2.2.1 a) (Nat.beq f.2.2.2 j))) (k f.2.1) ih) F
/-- what came out of two ints, of a call -/
noncomputable def zqop (g a b : Nat) (k : Nat → Bool) (F : List zyF) : Bool := List.rec (motive := fun _ => Bool) false (fun f _ ih => zif (zand (Nat.beq f.1 g) (zand (Nat.beq f.2.2.1 a) (Nat.beq f.2.2.2 b))) (k f.2.1) ih) F
noncomputable def zqhas (g a b : Nat) (F : List zyF) : Bool := List.rec (motive := fun _ => Bool) false (fun f _ ih => zif (zand (Nat.beq f.1 g) (zand (Nat.beq f.2.2.1 a) (Nat.beq f.2.2.2 b))) true ih) F
/-- less, equal: by bounds, or as was met -/
noncomputable def zqlt (w : zW) (F : List zyF) (a b : Nat) (kt kf : Bool) : Bool := zbd w a (fun la ha => zbd w b (fun lb hb => zif (Nat.ble (Nat.succ ha) lb) kt (zif (Nat.ble hb la) kf (zif (zqhas 20 a b F) kt (zif (zqhas 21 a b F) kf false)))))
noncomputable def zqeq (w : zW) (F : List zyF) (a b : Nat) (kt kf : Bool) : Bool := zbd w a (fun la ha => zbd w b (fun lb hb => zif (zand (Nat.beq la ha) (zand (Nat.beq lb hb) (Nat.beq la lb))) kt (zif (Nat.ble (Nat.succ ha) lb) kf (zif (Nat.ble (Nat.succ hb) la) kf (zif (zqhas 22 a b F) kt (zif (zqhas 23 a b F) kf false))))))
theorem zqE_iff {X : zyX} {a j : Nat} {k : Nat → Bool} : ∀ {F : List zyF}, (∀ f ∈ F, zyFm X f) → zqE a j k F = true → ∃ (v jx : Nat) (x : Int32), zyV X v (.int x) ∧ zyV X j (.int (Int32.ofNat jx)) ∧ jx < 2147483648 ∧ zyE X a jx = some (.int x) ∧ k v = true := by
  intro F
  induction F with
  | nil => intro _ h; cases h
  | cons f t ih =>
    intro hF h
    have h : zif (zand (Nat.beq f.1 24) (zand (Nat.beq f.2.2.1 a) (Nat.beq f.2.2.2 j))) (k f.2.1) (zqE a j k t) = true := h
    rcases zif_iff h with ⟨h1, h2⟩ | ⟨-, h2⟩
    · obtain ⟨g1, g2⟩ := zand_iff h1
      obtain ⟨g2, g3⟩ := zand_iff g2
      have g1 := zbeqT g1
      have g2 := zbeqT g2
      have g3 := zbeqT g3
      have hf := hF f List.mem_cons_self
      unfold zyFm at hf
      rw [if_pos g1, g2, g3] at hf
      obtain ⟨z, j2, q1, q2, q3, q4⟩ := hf
      exact ⟨_, j2, z, q1, q2, q3, q4, h2⟩
    · exact ih (fun f2 hf2 => hF f2 (List.mem_cons_of_mem _ hf2)) h2
theorem zqop_mem {g a b : Nat} {k : Nat → Bool} : ∀ {F : List zyF}, zqop g a b k F = true → ∃ v, (g, v, a, b) ∈ F ∧ k v = true := by
  intro F
  induction F with
  | nil => intro h; cases h
  | cons f t ih =>
    intro h
    have h : zif (zand (Nat.beq f.1 g) (zand (Nat.beq f.2.2.1 a) (Nat.beq f.2.2.2 b))) (k f.2.1) (zqop g a b k t) = true := h
    rcases zif_iff h with ⟨h1, h2⟩ | ⟨-, h2⟩
    · obtain ⟨g1, g2⟩ := zand_iff h1
      obtain ⟨g2, g3⟩ := zand_iff g2
      have g1 := zbeqT g1
      have g2 := zbeqT g2
      have g3 := zbeqT g3
      obtain ⟨f0, f1, f2, f3⟩ := f
      dsimp only at g1 g2 g3 h2
      subst g1
      subst g2
      subst g3
      exact ⟨f1, List.mem_cons_self, h2⟩
    · obtain ⟨v, q1, q2⟩ := ih h2
      exact ⟨v, List.mem_cons_of_mem _ q1, q2⟩
theorem zqhas_mem {g a b : Nat} : ∀ {F : List zyF}, zqhas g a b F = true → ∃ v, (g, v, a, b) ∈ F := by
  intro F
  induction F with
  | nil => intro h; cases h
  | cons f t ih =>
    intro h
    have h : zif (zand (Nat.beq f.1 g) (zand (Nat.beq f.2.2.1 a) (Nat.beq f.2.2.2 b))) true (zqhas g a b t) = true := h
    rcases zif_iff h with ⟨h1, -⟩ | ⟨-, h2⟩
    · obtain ⟨g1, g2⟩ := zand_iff h1
      obtain ⟨g2, g3⟩ := zand_iff g2
      have g1 := zbeqT g1
      have g2 := zbeqT g2
      have g3 := zbeqT g3
      obtain ⟨f0, f1, f2, f3⟩ := f
      dsimp only at g1 g2 g3
      subst g1
      subst g2
      subst g3
      exact ⟨f1, List.mem_cons_self⟩
    · obtain ⟨v, q1⟩ := ih h2
      exact ⟨v, List.mem_cons_of_mem _ q1⟩
theorem zqop_iff {X : zyX} {g a b : Nat} {k : Nat → Bool} {F : List zyF} (hF : ∀ f ∈ F, zyFm X f) (hg : g < 12) (h : zqop g a b k F = true) : ∃ (v : Nat) (x y : Int32), zyV X a (.int x) ∧ zyV X b (.int y) ∧ zyV X v (.int (zyG g x y)) ∧ k v = true := by
  obtain ⟨v, h1, h2⟩ := zqop_mem h
  have hf := hF _ h1
  unfold zyFm at hf
  dsimp only at hf
  rw [if_neg (by omega), if_pos hg] at hf
  obtain ⟨x, y, z, q1, q2, q3, q4⟩ := hf
  exact ⟨v, x, y, q2, q3, by rw [← q4]; exact q1, h2⟩
theorem zqfn_iff {X : zyX} {id a b : Nat} {k : Nat → Bool} {F : List zyF} (hF : ∀ f ∈ F, zyFm X f) (h : zqop (1000 + id) a b k F = true) : ∃ (v : Nat) (x y z : Int32), zyV X a (.int x) ∧ zyV X b (.int y) ∧ zyV X v (.int z) ∧ (zyJ X).2 id (zyE X) x y z ∧ k v = true := by
  obtain ⟨v, h1, h2⟩ := zqop_mem h
  obtain ⟨x, y, z, q1, q2, q3, q4⟩ := zyFm_rel (hF _ h1)
  exact ⟨v, x, y, z, q2, q3, q1, q4, h2⟩
theorem zqhas_c {X : zyX} {g a b : Nat} {F : List zyF} (hF : ∀ f ∈ F, zyFm X f) (hg : 20 ≤ g ∧ g ≤ 23) (h : zqhas g a b F = true) : ∃ x y : Int32, zyV X a (.int x) ∧ zyV X b (.int y) ∧ (g = 20 → x < y) ∧ (g = 21 → ¬ x < y) ∧ (g = 22 → x = y) ∧ (g = 23 → ¬ x = y) := by
  obtain ⟨v, h1⟩ := zqhas_mem h
  have hf := hF _ h1
  unfold zyFm at hf
  dsimp only at hf
  rw [if_neg (by omega), if_neg (by omega), if_pos (by omega)] at hf
  exact hf
/-- over symbols and known ints alone: a code is one int -/
theorem zqlt_iff {X : zyX} {w : zW} {F : List zyF} {a b : Nat} {kt kf : Bool} {x y : Int32} (hE : zEnv (zyρ X) w.2) (hF : ∀ f ∈ F, zyFm X f) (ha : a % 8 ≤ 1) (hb : b % 8 ≤ 1) (hx : zyV X a (.int x)) (hy : zyV X b (.int y)) (h : zqlt w F a b kt kf = true) : (x < y ∧ kt = true) ∨ (¬ x < y ∧ kf = true) := by
  obtain ⟨x2, la, hha, e1, a1, a2, h⟩ := zybd_iff h hE hx
  have e1 := Value.int.inj e1
  subst e1
  obtain ⟨y2, lb, hhb, e2, b1, b2, h⟩ := zybd_iff h hE hy
  have e2 := Value.int.inj e2
  subst e2
  have bx := zB_int x
  have by' := zB_int y
  rcases zif_iff h with ⟨h1, h2⟩ | ⟨-, h⟩
  · have h1 : hha + 1 ≤ lb := zbleT h1
    exact Or.inl ⟨by rw [Int32.lt_iff_toInt_lt]; omega, h2⟩
  rcases zif_iff h with ⟨h1, h2⟩ | ⟨-, h⟩
  · have h1 := zbleT h1
    exact Or.inr ⟨by rw [Int32.lt_iff_toInt_lt]; omega, h2⟩
  rcases zif_iff h with ⟨h1, h2⟩ | ⟨-, h⟩
  · obtain ⟨x3, y3, q1, q2, q3, -⟩ := zqhas_c hF (by decide) h1
    rw [zyv_one ha hx q1, zyv_one hb hy q2]
    exact Or.inl ⟨q3 rfl, h2⟩
  rcases zif_iff h with ⟨h1, h2⟩ | ⟨-, h⟩
  · obtain ⟨x3, y3, q1, q2, -, q3, -⟩ := zqhas_c hF (by decide) h1
    rw [zyv_one ha hx q1, zyv_one hb hy q2]
    exact Or.inr ⟨q3 rfl, h2⟩
  · cases h
theorem zqeq_iff {X : zyX} {w : zW} {F : List zyF} {a b : Nat} {kt kf : Bool} {x y : Int32} (hE : zEnv (zyρ X) w.2) (hF : ∀ f ∈ F, zyFm X f) (ha : a % 8 ≤ 1) (hb : b % 8 ≤ 1) (hx : zyV X a (.int x)) (hy : zyV X b (.int y)) (h : zqeq w F a b kt kf = true) : (x = y ∧ kt = true) ∨ (¬ x = y ∧ kf = true) := by
  obtain ⟨x2, la, hha, e1, a1, a2, h⟩ := zybd_iff h hE hx
  have e1 := Value.int.inj e1
  subst e1
  obtain ⟨y2, lb, hhb, e2, b1, b2, h⟩ := zybd_iff h hE hy
  have e2 := Value.int.inj e2
  subst e2
  rcases zif_iff h with ⟨h1, h2⟩ | ⟨-, h⟩
  · obtain ⟨g1, g2⟩ := zand_iff h1
    obtain ⟨g2, g3⟩ := zand_iff g2
    have g1 := zbeqT g1
    have g2 := zbeqT g2
    have g3 := zbeqT g3
    refine Or.inl ⟨?_, h2⟩
    apply zN_inj
    have e3 := zB_eq x
    have e4 := zB_eq y
    have l1 := x.toBitVec.isLt
    have l2 := y.toBitVec.isLt
    omega
  rcases zif_iff h with ⟨h1, h2⟩ | ⟨-, h⟩
  · have h1 : hha + 1 ≤ lb := zbleT h1
    exact Or.inr ⟨fun q => by rw [q] at a2; omega, h2⟩
  rcases zif_iff h with ⟨h1, h2⟩ | ⟨-, h⟩
  · have h1 : hhb + 1 ≤ la := zbleT h1
    exact Or.inr ⟨fun q => by rw [q] at a1; omega, h2⟩
  rcases zif_iff h with ⟨h1, h2⟩ | ⟨-, h⟩
  · obtain ⟨x3, y3, q1, q2, -, -, q3, -⟩ := zqhas_c hF (by decide) h1
    rw [zyv_one ha hx q1, zyv_one hb hy q2]
    exact Or.inl ⟨q3 rfl, h2⟩
  rcases zif_iff h with ⟨h1, h2⟩ | ⟨-, h⟩
  · obtain ⟨x3, y3, q1, q2, -, -, -, q3⟩ := zqhas_c hF (by decide) h1
    rw [zyv_one ha hx q1, zyv_one hb hy q2]
    exact Or.inr ⟨q3 rfl, h2⟩
  · cases h
