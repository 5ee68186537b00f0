/-! SEMANTIC CONTRACTS: nothing is kept, all is said of the elements before and behind; phases that begin anew, what is awaited at their ends written down (expectations) -/
def zyJ0 : zyJt := (fun _ => True, zyRr)
theorem zyJ0_p {dj : zyR} (h : ∀ p ∈ dj, p.1 < 100000) : zyJp dj zyJ0 := ⟨fun _ _ _ _ => trivial, fun _ _ p hp h0 => absurd h0 (by have := h p hp; omega), fun _ _ _ _ _ _ h hr => zyRr_congr h hr, fun _ _ _ _ _ h hr => zyRr_grow h hr⟩
theorem zyJ0_r : zyJr zyJ0 := by
  refine ⟨zyJ0_p ?_, rfl⟩
  intro p hp
  have hp : p ∈ [(75, 2, 5), (75, 160, 519), (81, 0, 10399), (74, 19, 19), (74, 21, 21)] := hp
  simp only [List.mem_cons, List.not_mem_nil, or_false] at hp
  rcases hp with rfl | rfl | rfl | rfl | rfl <;> decide
/-- the int that a code says -/
def zyw (ρ : Nat → Int32) (v : Nat) : Int32 := if v % 8 = 1 then (if v / 8 % 4294967296 = 0 then ρ (v / 34359738368) else ρ (v / 34359738368) + Int32.ofNat (v / 8 % 4294967296)) else Int32.ofNat (v / 8)
theorem zyw_of {ρ : Nat → Int32} {N : Nat} {ad : Nat → Nat} {v : Nat} {x : Int32} (h : zyv ρ N ad v (.int x)) (hk : v % 8 ≤ 1) : x = zyw ρ v := by
  unfold zyw
  rcases h with ⟨h, -, -⟩ | ⟨-, -, z, h⟩ | ⟨-, h | h⟩
  · rcases h with ⟨h1, h2⟩ | ⟨h1, h2⟩ | ⟨h1, -⟩ | ⟨h1, -⟩ | ⟨h1, -⟩ | ⟨h1, -⟩ | ⟨h1, -⟩
    · rw [if_neg (by omega)]
      exact Value.int.inj h2
    · rw [if_pos h1]
      have h2 := Value.int.inj h2
      by_cases e : v / 8 % 4294967296 = 0
      · rw [if_pos e, h2, e]
        exact Int32.add_zero _
      · rw [if_neg e]
        exact h2
    · omega
    · omega
    · omega
    · omega
    · omega
  · cases h
  · cases h
  · cases h
theorem zyw_v {ρ : Nat → Int32} {N : Nat} {ad : Nat → Nat} {v : Nat} (hk : v % 8 = 0 ∨ (v % 8 = 1 ∧ v / 34359738368 < N)) : zyv ρ N ad v (.int (zyw ρ v)) := by
  unfold zyw
  rcases hk with h | ⟨h1, h2⟩
  · rw [if_neg (by omega)]
    exact Or.inl ⟨Or.inl ⟨h, rfl⟩, fun q => by omega, fun q => by omega⟩
  · rw [if_pos h1]
    refine Or.inl ⟨Or.inr (Or.inl ⟨h1, ?_⟩), fun _ => h2, fun q => by omega⟩
    by_cases e : v / 8 % 4294967296 = 0
    · rw [if_pos e, e]
      exact congrArg Value.int (Int32.add_zero _).symm
    · rw [if_neg e]
theorem zyw_sym (ρ : Nat → Int32) (i : Nat) : zyw ρ (zysym i) = ρ i := by
  rw [zysym_def]
  unfold zyw
  rw [if_pos (by omega), if_pos (by omega), show (i * 34359738368 + 1) / 34359738368 = i by omega]
/-- what a fact says of symbols -/
def zyFp (ρ : Nat → Int32) (E : zyEm) (f : zyF) : Prop :=
  if f.1 = 24 then ∃ j : Nat, zyw ρ f.2.2.2 = Int32.ofNat j ∧ j < 2147483648 ∧ E f.2.2.1 j = some (.int (zyw ρ f.2.1))
  else if f.1 < 12 then zyw ρ f.2.1 = zyG f.1 (zyw ρ f.2.2.1) (zyw ρ f.2.2.2)
  else if f.1 < 1000 then (f.1 = 20 → zyw ρ f.2.2.1 < zyw ρ f.2.2.2) ∧ (f.1 = 21 → ¬ zyw ρ f.2.2.1 < zyw ρ f.2.2.2) ∧ (f.1 = 22 → zyw ρ f.2.2.1 = zyw ρ f.2.2.2) ∧ (f.1 = 23 → ¬ zyw ρ f.2.2.1 = zyw ρ f.2.2.2)
  else zyRr (f.1 - 1000) E (zyw ρ f.2.2.1) (zyw ρ f.2.2.2) (zyw ρ f.2.1)
noncomputable def zyxfk (f : zyF) : Bool := zif (Nat.beq f.1 24) (zand (zyk1b f.2.1) (zyk1b f.2.2.2)) (zand (zyk1b f.2.1) (zand (zyk1b f.2.2.1) (zyk1b f.2.2.2)))
theorem zyFp_of {X : zyX} {f : zyF} (hJ : (zyJ X).2 = zyRr) (h : zyFm X f) (hk : zyxfk f = true) : zyFp (zyρ X) (zyE X) f := by
  unfold zyFm at h
  unfold zyFp
  by_cases e : f.1 = 24
  · rw [if_pos e] at h ⊢
    obtain ⟨z, j, h1, h2, h3, h4⟩ := h
    rcases zif_iff hk with ⟨-, q⟩ | ⟨q, -⟩
    · obtain ⟨q1, q2⟩ := zand_iff q
      exact ⟨j, (zyw_of h2 (zbleT q2)).symm, h3, by rw [← zyw_of h1 (zbleT q1)]; exact h4⟩
    · exact absurd e (zbeqF q)
  · rw [if_neg e] at h ⊢
    obtain ⟨q1, q2, q3⟩ : zyk1b f.2.1 = true ∧ zyk1b f.2.2.1 = true ∧ zyk1b f.2.2.2 = true := by
      rcases zif_iff hk with ⟨q, -⟩ | ⟨-, q⟩
      · exact absurd (zbeqT q) e
      · obtain ⟨q1, q⟩ := zand_iff q
        exact ⟨q1, zand_iff q⟩
    have q1 := zbleT q1
    have q2 := zbleT q2
    have q3 := zbleT q3
    by_cases e2 : f.1 < 12
    · rw [if_pos e2] at h ⊢
      obtain ⟨x, y, z, h1, h2, h3, h4⟩ := h
      rw [← zyw_of h1 q1, ← zyw_of h2 q2, ← zyw_of h3 q3]
      exact h4
    · rw [if_neg e2] at h ⊢
      by_cases e3 : f.1 < 1000
      · rw [if_pos e3] at h ⊢
        obtain ⟨x, y, h2, h3, h4⟩ := h
        rw [← zyw_of h2 q2, ← zyw_of h3 q3]
        exact h4
      · rw [if_neg e3] at h ⊢
        obtain ⟨x, y, z, h1, h2, h3, h4⟩ := h
        rw [← zyw_of h1 q1, ← zyw_of h2 q2, ← zyw_of h3 q3, ← hJ]
        exact h4
theorem zyFp_e {ρ : Nat → Int32} {E : zyEm} {v a j : Nat} (h : zyFp ρ E (24, v, a, j)) : ∃ n : Nat, zyw ρ j = Int32.ofNat n ∧ n < 2147483648 ∧ E a n = some (.int (zyw ρ v)) := h
theorem zyFp_op {ρ : Nat → Int32} {E : zyEm} {g v a b : Nat} (hg : g < 12) (h : zyFp ρ E (g, v, a, b)) : zyw ρ v = zyG g (zyw ρ a) (zyw ρ b) := by
  unfold zyFp at h
  rw [if_neg (by dsimp only; omega), if_pos hg] at h
  exact h
theorem zyFp_20 {ρ : Nat → Int32} {E : zyEm} {v a b : Nat} (h : zyFp ρ E (20, v, a, b)) : zyw ρ a < zyw ρ b := h.1 rfl
theorem zyFp_21 {ρ : Nat → Int32} {E : zyEm} {v a b : Nat} (h : zyFp ρ E (21, v, a, b)) : ¬ zyw ρ a < zyw ρ b := h.2.1 rfl
theorem zyFp_22 {ρ : Nat → Int32} {E : zyEm} {v a b : Nat} (h : zyFp ρ E (22, v, a, b)) : zyw ρ a = zyw ρ b := h.2.2.1 rfl
theorem zyFp_23 {ρ : Nat → Int32} {E : zyEm} {v a b : Nat} (h : zyFp ρ E (23, v, a, b)) : ¬ zyw ρ a = zyw ρ b := h.2.2.2 rfl
theorem zyFp_r {ρ : Nat → Int32} {E : zyEm} {id v a b : Nat} (h : zyFp ρ E (1000 + id, v, a, b)) : zyRr id E (zyw ρ a) (zyw ρ b) (zyw ρ v) := by
  unfold zyFp at h
  rw [if_neg (by dsimp only; omega), if_neg (by dsimp only; omega), if_neg (by dsimp only; omega)] at h
  rw [show id = 1000 + id - 1000 by omega]
  exact h
/-! what is awaited at an end: pc, locals (13: anything), stack, facts, bounds of codes, elements -/
abbrev zyXp : Type := Nat × List Nat × List Nat × List zyF × List (Nat × Nat × Nat) × List (Nat × Nat)
noncomputable def zyfq (f g : zyF) : Bool := zand (Nat.beq f.1 g.1) (zand (Nat.beq f.2.1 g.2.1) (zand (Nat.beq f.2.2.1 g.2.2.1) (Nat.beq f.2.2.2 g.2.2.2)))
theorem zyfq_iff {f g : zyF} (h : zyfq f g = true) : f = g := by
  obtain ⟨h1, h⟩ := zand_iff h
  obtain ⟨h2, h⟩ := zand_iff h
  obtain ⟨h3, h4⟩ := zand_iff h
  obtain ⟨f0, f1, f2, f3⟩ := f
  obtain ⟨g0, g1, g2, g3⟩ := g
  have h1 := zbeqT h1
  have h2 := zbeqT h2
  have h3 := zbeqT h3
  have h4 := zbeqT h4
  dsimp only at h1 h2 h3 h4
  rw [h1, h2, h3, h4]
noncomputable def zyfmB (f : zyF) (F : List zyF) : Bool := List.rec (motive := fun _ => Bool) false (fun g _ ih => zif (zyfq g f) true ih) F
theorem zyfmB_iff {f : zyF} : ∀ {F : List zyF}, zyfmB f F = true → f ∈ F := by
  intro F
  induction F with
  | nil => intro h; cases h
  | cons g t ih =>
    intro h
    have h : zif (zyfq g f) true (zyfmB f t) = true := h
    rcases zif_iff h with ⟨h1, -⟩ | ⟨-, h1⟩
    · rw [zyfq_iff h1]
      exact List.mem_cons_self
    · exact List.mem_cons_of_mem _ (ih h1)
noncomputable def zyfsB (F need : List zyF) : Bool := List.rec (motive := fun _ => Bool) true (fun f _ ih => zand (zand (zyxfk f) (zyfmB f F)) ih) need
theorem zyfsB_iff {F : List zyF} : ∀ {need : List zyF}, zyfsB F need = true → ∀ f ∈ need, zyxfk f = true ∧ f ∈ F := by
  intro need
  induction need with
  | nil => intro _ f hf; cases hf
  | cons g t ih =>
    intro h f hf
    have h : zand (zand (zyxfk g) (zyfmB g F)) (zyfsB F t) = true := h
    obtain ⟨h1, h2⟩ := zand_iff h
    obtain ⟨h1, h3⟩ := zand_iff h1
    rcases List.mem_cons.mp hf with e | e
    · rw [e]
      exact ⟨h1, zyfmB_iff h3⟩
    · exact ih h2 f e
noncomputable def zybsB (w : zW) (need : List (Nat × Nat × Nat)) : Bool := List.rec (motive := fun _ => Bool) true (fun b _ ih => zand (zand (zif (Nat.beq (Nat.mod b.1 8) 0) true (zand (Nat.beq (Nat.mod b.1 8) 1) (Nat.ble (Nat.succ (Nat.div b.1 34359738368)) w.1))) (zbd w b.1 (fun lo hi => zand (Nat.ble b.2.1 lo) (Nat.ble hi b.2.2)))) ih) need
theorem zybsB_iff {w : zW} {ρ : Nat → Int32} (hE : zEnv ρ w.2) : ∀ {need : List (Nat × Nat × Nat)}, zybsB w need = true → ∀ b ∈ need, b.2.1 ≤ zB (zyw ρ b.1) ∧ zB (zyw ρ b.1) ≤ b.2.2 := by
  intro need
  induction need with
  | nil => intro _ f hf; cases hf
  | cons g t ih =>
    intro h b hb
    have h : zand (zand (zif (Nat.beq (Nat.mod g.1 8) 0) true (zand (Nat.beq (Nat.mod g.1 8) 1) (Nat.ble (Nat.succ (Nat.div g.1 34359738368)) w.1))) (zbd w g.1 (fun lo hi => zand (Nat.ble g.2.1 lo) (Nat.ble hi g.2.2)))) (zybsB w t) = true := h
    obtain ⟨h1, h2⟩ := zand_iff h
    obtain ⟨h1, h3⟩ := zand_iff h1
    rcases List.mem_cons.mp hb with e | e
    · rw [e]
      have hk : g.1 % 8 = 0 ∨ (g.1 % 8 = 1 ∧ g.1 / 34359738368 < w.1) := by
        rcases zif_iff h1 with ⟨q, -⟩ | ⟨-, q⟩
        · exact Or.inl (zbeqT q)
        · obtain ⟨q1, q2⟩ := zand_iff q
          exact Or.inr ⟨zbeqT q1, zbleT q2⟩
      obtain ⟨x, lo, hi, e1, b1, b2, b3⟩ := zybd_iff (N := w.1) (ad := fun _ => 0) h3 hE (zyw_v hk)
      have e1 := Value.int.inj e1
      obtain ⟨b3, b4⟩ := zand_iff b3
      have b3 := zbleT b3
      have b4 := zbleT b4
      rw [e1]
      exact ⟨by omega, by omega⟩
    · exact ih h2 b e
noncomputable def zymsB (B : zyB) (m : List (Nat × Nat)) (need : List (Nat × Nat)) : Bool := List.rec (motive := fun _ => Bool) true (fun p _ ih => zand (zand (zand (zyk1b p.2) (zget B (Nat.div p.1 16384) (fun c => Nat.ble (Nat.succ (Nat.mod p.1 16384)) (zylenB c)))) (zylk false (fun v => Nat.beq v p.2) p.1 m)) ih) need
theorem zymsB_iff {P : zyP} {X : zyX} {U : State} {m : List (Nat × Nat)} {H : Heap} (hM : zyMem P X U m H) : ∀ {need : List (Nat × Nat)}, zymsB P.1 m need = true → ∀ p ∈ need, zyEl P.1 (zyb X) H (p.1 / 16384) (p.1 % 16384) = some (.int (zyw (zyρ X) p.2)) := by
  intro need
  induction need with
  | nil => intro _ f hf; cases hf
  | cons g t ih =>
    intro h p hp
    have h : zand (zand (zand (zyk1b g.2) (zget P.1 (Nat.div g.1 16384) (fun c => Nat.ble (Nat.succ (Nat.mod g.1 16384)) (zylenB c)))) (zylk false (fun v => Nat.beq v g.2) g.1 m)) (zymsB P.1 m t) = true := h
    obtain ⟨h1, h2⟩ := zand_iff h
    obtain ⟨h1, h3⟩ := zand_iff h1
    obtain ⟨h1, h4⟩ := zand_iff h1
    rcases List.mem_cons.mp hp with e | e
    · rw [e]
      obtain ⟨c, hc, h4⟩ := zget_iff h4
      have h4 := zbleT h4
      rw [zylen_eq] at h4
      obtain ⟨w, g1, g2⟩ := hM.2.1 _ c _ hc h4
      rw [zylk_eq] at h3
      unfold zyEt at g2
      have e1 : Nat.div g.1 16384 * 16384 + Nat.mod g.1 16384 = g.1 := by
        show g.1 / 16384 * 16384 + g.1 % 16384 = g.1
        omega
      rw [e1] at g2
      cases hq : zyl m g.1 with
      | none => rw [hq] at h3; cases h3
      | some v =>
        rw [hq] at h3 g2
        have h3 : v = g.2 := zbeqT h3
        rw [h3] at g2
        have g2 : zyV X g.2 w := g2
        obtain ⟨x, rfl⟩ := zyv_int g2 (by have := zbleT h1; have : g.2 % 8 ≤ 1 := this; omega)
        rw [← zyw_of g2 (zbleT h1)]
        exact g1
    · exact ih h2 p e
noncomputable def zylsB (ex : List Nat) : List Nat → Bool := List.rec (motive := fun _ => List Nat → Bool) (fun ls => zynil ls) (fun e _ ih ls => List.rec (motive := fun _ => Bool) false (fun a u _ => zand (zif (Nat.beq e 13) true (Nat.beq e a)) (ih u)) ls) ex
theorem zylsB_iff : ∀ {ex ls : List Nat}, zylsB ex ls = true → ex.length = ls.length ∧ ∀ (i c : Nat), ex[i]? = some c → ¬ c = 13 → ls[i]? = some c := by
  intro ex
  induction ex with
  | nil =>
    intro ls h
    cases ls with
    | nil => exact ⟨rfl, fun i c hc => by simp at hc⟩
    | cons a t => cases h
  | cons e t ih =>
    intro ls h
    cases ls with
    | nil => cases h
    | cons a u =>
      have h : zand (zif (Nat.beq e 13) true (Nat.beq e a)) (zylsB t u) = true := h
      obtain ⟨h1, h2⟩ := zand_iff h
      obtain ⟨g1, g2⟩ := ih h2
      refine ⟨by rw [List.length_cons, List.length_cons, g1], fun i c hc hn => ?_⟩
      cases i with
      | zero =>
        have hc : some e = some c := hc
        cases hc
        rcases zif_iff h1 with ⟨q, -⟩ | ⟨-, q⟩
        · exact absurd (zbeqT q) hn
        · rw [zbeqT q]
          rfl
      | succ i =>
        rw [List.getElem?_cons_succ] at hc ⊢
        exact g2 i c hc hn
noncomputable def zyxpB (B : zyB) (x : zyXp) (w : zW) (pc : Nat) (ls st : List Nat) (m : zyM) : Bool := zand (Nat.beq pc x.1) (zand (zylsB x.2.1 ls) (zand (zylb st x.2.2.1) (zand (zyfsB m.2 x.2.2.2.1) (zand (zybsB w x.2.2.2.2.1) (zand (zymsB B m.1 x.2.2.2.2.2) (zyfitM w B m.1))))))
noncomputable def zyanyB (f : zyXp → Bool) (xs : List zyXp) : Bool := List.rec (motive := fun _ => Bool) false (fun x _ ih => zif (f x) true ih) xs
theorem zyanyB_iff {f : zyXp → Bool} : ∀ {xs : List zyXp}, zyanyB f xs = true → ∃ x ∈ xs, f x = true := by
  intro xs
  induction xs with
  | nil => intro h; cases h
  | cons x t ih =>
    intro h
    have h : zif (f x) true (zyanyB f t) = true := h
    rcases zif_iff h with ⟨h1, -⟩ | ⟨-, h1⟩
    · exact ⟨x, List.mem_cons_self, h1⟩
    · obtain ⟨y, q1, q2⟩ := ih h1
      exact ⟨y, List.mem_cons_of_mem _ q1, q2⟩
noncomputable def zystx (B : zyB) (xs : List zyXp) : zyK := fun w _ _ pc ls st _ fs m => List.rec (motive := fun _ => Bool) (zyanyB (fun x => zyxpB B x w pc ls st m) xs) (fun _ _ _ => false) fs
noncomputable def zybtx (B : zyB) (xs : List zyXp) : zW → List Nat → zyM → Bool := fun w v m => zyanyB (fun x => zyxpB B x w x.1 [] v m) xs
/-- what an end says -/
def zyXs (x : zyXp) (ρ : Nat → Int32) (E E2 : zyEm) : Prop := (∀ f ∈ x.2.2.2.1, zyFp ρ E f) ∧ (∀ b ∈ x.2.2.2.2.1, b.2.1 ≤ zB (zyw ρ b.1) ∧ zB (zyw ρ b.1) ≤ b.2.2) ∧ ∀ p ∈ x.2.2.2.2.2, E2 (p.1 / 16384) (p.1 % 16384) = some (.int (zyw ρ p.2))
theorem zyxp_iff {P : zyP} {X : zyX} {U : State} {x : zyXp} {w : zW} {pc : Nat} {ls st : List Nat} {m : zyM} {H : Heap} (hJ : (zyJ X).2 = zyRr) (hE : zEnv (zyρ X) w.2) (hF : ∀ f ∈ m.2, zyFm X f) (hM : zyMem P X U m.1 H) (h : zyxpB P.1 x w pc ls st m = true) : pc = x.1 ∧ (x.2.1.length = ls.length ∧ ∀ (i c : Nat), x.2.1[i]? = some c → ¬ c = 13 → ls[i]? = some c) ∧ st = x.2.2.1 ∧ zyXs x (zyρ X) (zyE X) (zyEl P.1 (zyb X) H) ∧ zyMI P.1 (zyb X) (zyJ X) U H := by
  obtain ⟨h1, h⟩ := zand_iff h
  obtain ⟨h2, h⟩ := zand_iff h
  obtain ⟨h3, h⟩ := zand_iff h
  obtain ⟨h4, h⟩ := zand_iff h
  obtain ⟨h5, h⟩ := zand_iff h
  obtain ⟨h6, h7⟩ := zand_iff h
  refine ⟨zbeqT h1, zylsB_iff h2, zylb_iff h3, ⟨fun f hf => ?_, zybsB_iff hE h5, zymsB_iff hM h6⟩, hM.base hE h7⟩
  obtain ⟨q1, q2⟩ := zyfsB_iff h4 f hf
  exact zyFp_of hJ (hF f q2) q1
theorem zyXf {l : List zyF} {ρ : Nat → Int32} {E : zyEm} {f : zyF} (h : ∀ f ∈ l, zyFp ρ E f) (j : Nat) (hj : l[j]? = some f) : zyFp ρ E f := h f (List.mem_of_getElem? hj)
theorem zyXb {l : List (Nat × Nat × Nat)} {ρ : Nat → Int32} {b : Nat × Nat × Nat} (h : ∀ b ∈ l, b.2.1 ≤ zB (zyw ρ b.1) ∧ zB (zyw ρ b.1) ≤ b.2.2) (j : Nat) (hj : l[j]? = some b) : b.2.1 ≤ zB (zyw ρ b.1) ∧ zB (zyw ρ b.1) ≤ b.2.2 := h b (List.mem_of_getElem? hj)
theorem zyXm {l : List (Nat × Nat)} {ρ : Nat → Int32} {E2 : zyEm} {p : Nat × Nat} (h : ∀ p ∈ l, E2 (p.1 / 16384) (p.1 % 16384) = some (.int (zyw ρ p.2))) (j : Nat) (hj : l[j]? = some p) : E2 (p.1 / 16384) (p.1 % 16384) = some (.int (zyw ρ p.2)) := h p (List.mem_of_getElem? hj)
/-- elements as the base tells -/
def zyTy (mi : zyB) (E : zyEm) : Prop := ∀ a c k, zG mi a = some c → k < zyLen c → ∀ r ∈ c.2.2, r.1 ≤ k → k ≤ r.2.1 → (r.2.2 % 8 = 2 → ∃ x : Int32, E a k = some (.int x) ∧ r.2.2 / 34359738368 ≤ zB x ∧ zB x ≤ r.2.2 / 8 % 4294967296) ∧ (r.2.2 % 8 = 0 → E a k = some (.int (Int32.ofNat (r.2.2 / 8))))
theorem zyTy_of {mi : zyB} {B : zCx} {J : zyJt} {U : State} {H : Heap} (h : zyMI mi B J U H) : zyTy mi (zyEl mi B H) := by
  intro a c k hg hk r hr r1 r2
  obtain ⟨w, h1, h2⟩ := h.2.1 a c k hg hk
  obtain ⟨-, h3⟩ := h2 r hr r1 r2
  refine ⟨fun q => ?_, fun q => ?_⟩
  · obtain ⟨x, e, b1, b2⟩ := zv_2 (zyv_zv h3 (by omega) (by omega)) q
    rw [e] at h1
    exact ⟨x, h1, b1, b2⟩
  · rw [h1, zyv_0 h3 q]
