/-! THE EXECUTOR: bytecode over lists of numbers. A value is a number, its kind the rest by 8: 0 an int, 1 a symbol and an int, 2 an int of which bounds are known, 3 a place in the memory, 4 a long, 5 null (5) or nothing (13), 7 a reference or null. Bounds are kept 2^31 higher than they are. All answers are Bool: false where it can't go on. -/
abbrev zT : Type := Instr × Nat × Nat
abbrev zA : Type := List (List (List Nat))
abbrev zCl : Type := Nat × Nat × zA
abbrev zM : Type := List (List (List zCl))
abbrev zW : Type := Nat × List (Nat × Nat)
abbrev zQ : Type := Nat × Nat × Nat
abbrev zY : Type := Nat × Nat × Nat × Nat × Nat
abbrev zFr : Type := (Nat → zT) × zY × Nat × List Nat × List Nat × zQ
abbrev zEn : Type := (Nat → zT) × Nat × Nat × Nat × zY
abbrev zK : Type := zW → (Nat → zT) → zY → Nat → List Nat → List Nat → zQ → List zFr → zM → Bool
noncomputable def zif {α : Type} (c : Bool) (t e : α) : α := Bool.rec (motive := fun _ => α) e t c
theorem zif_t {α : Type} (t e : α) : zif true t e = t := rfl
theorem zif_f {α : Type} (t e : α) : zif false t e = e := rfl
/-- a number 2^31 higher, by the round of 2^32 -/
def zb (u : Nat) : Nat := Nat.mod (Nat.add u 2147483648) 4294967296
/-- the number is worked out before it is used -/
noncomputable def zfr {β : Type} (j : β) (r : Nat) (k : Nat → β) : β := Nat.rec (motive := fun _ => β) j (fun m _ => k m) (Nat.succ r)
theorem zfr_eq {β : Type} (j : β) (r : Nat) (k : Nat → β) : zfr j r k = k r := by cases r <;> rfl
noncomputable def znth {α : Type} (k : α → Bool) (l : List α) : Nat → Bool := List.rec (motive := fun _ => Nat → Bool) (fun _ => false) (fun a _ ih n => Nat.rec (motive := fun _ => Bool) (k a) (fun i _ => ih i) n) l
noncomputable def zupd {α : Type} (f : α → (α → Bool) → Bool) (l : List α) : Nat → (List α → Bool) → Bool := List.rec (motive := fun _ => Nat → (List α → Bool) → Bool) (fun _ _ => false) (fun a t ih n k => Nat.rec (motive := fun _ => Bool) (f a (fun b => k (b :: t))) (fun i _ => ih i (fun u => k (a :: u))) n) l
noncomputable def zget {α : Type} (c : List (List (List α))) (j : Nat) (k : α → Bool) : Bool := znth (fun b => znth (fun a => znth k a (Nat.mod j 8)) b (Nat.mod (Nat.div j 8) 8)) c (Nat.div j 64)
noncomputable def zset {α : Type} (c : List (List (List α))) (j : Nat) (v : α) (k : List (List (List α)) → Bool) : Bool := zupd (fun b k1 => zupd (fun a k2 => zupd (fun _ k3 => k3 v) a (Nat.mod j 8) k2) b (Nat.mod (Nat.div j 8) 8) k1) c (Nat.div j 64) k
/-- what stands at a place -/
def zG {α : Type} (c : List (List (List α))) (j : Nat) : Option α := c[j / 64]?.bind fun b => b[j / 8 % 8]?.bind fun a => a[j % 8]?
def zS {α : Type} (c : List (List (List α))) (j : Nat) (v : α) : List (List (List α)) := match c[j / 64]? with
  | none => c
  | some b => match b[j / 8 % 8]? with
    | none => c
    | some a => c.set (j / 64) (b.set (j / 8 % 8) (a.set (j % 8) v))
theorem znth_iff {α : Type} {k : α → Bool} {l : List α} : ∀ {n : Nat}, znth k l n = true → ∃ a, l[n]? = some a ∧ k a = true := by
  induction l with
  | nil => intro n h; cases h
  | cons a t ih =>
    intro n h
    cases n with
    | zero => exact ⟨a, rfl, h⟩
    | succ n =>
      obtain ⟨b, h1, h2⟩ := ih (n := n) h
      exact ⟨b, by simpa using h1, h2⟩
theorem zupd_iff {α : Type} {f : α → (α → Bool) → Bool} {l : List α} : ∀ {n : Nat} {k : List α → Bool}, zupd f l n k = true → ∃ a, l[n]? = some a ∧ f a (fun b => k (l.set n b)) = true := by
  induction l with
  | nil => intro n k h; cases h
  | cons a t ih =>
    intro n k h
    cases n with
    | zero => exact ⟨a, rfl, h⟩
    | succ n =>
      obtain ⟨b, h1, h2⟩ := ih (n := n) (k := fun u => k (a :: u)) h
      exact ⟨b, by simpa using h1, h2⟩
theorem zget_iff {α : Type} {c : List (List (List α))} {j : Nat} {k : α → Bool} (h : zget c j k = true) : ∃ v, zG c j = some v ∧ k v = true := by
  obtain ⟨b, h1, h2⟩ := znth_iff h
  obtain ⟨a, h3, h4⟩ := znth_iff h2
  obtain ⟨v, h5, h6⟩ := znth_iff h4
  exact ⟨v, by
    show c[j / 64]?.bind _ = _
    rw [show c[j / 64]? = some b from h1, Option.bind_some, show b[j / 8 % 8]? = some a from h3, Option.bind_some]
    exact h5, h6⟩
theorem zset_iff {α : Type} {c : List (List (List α))} {j : Nat} {v : α} {k : List (List (List α)) → Bool} (h : zset c j v k = true) : (∃ o, zG c j = some o) ∧ k (zS c j v) = true := by
  obtain ⟨b, h1, h2⟩ := zupd_iff h
  obtain ⟨a, h3, h4⟩ := zupd_iff h2
  obtain ⟨o, h5, h6⟩ := zupd_iff h4
  have h1' : c[j / 64]? = some b := h1
  have h3' : b[j / 8 % 8]? = some a := h3
  refine ⟨⟨o, ?_⟩, ?_⟩
  · show c[j / 64]?.bind _ = _
    rw [h1', Option.bind_some, h3', Option.bind_some]
    exact h5
  · have e : zS c j v = c.set (j / 64) (b.set (j / 8 % 8) (a.set (j % 8) v)) := by
      unfold zS
      rw [h1']
      dsimp only
      rw [h3']
    rw [e]
    exact h6
theorem zG_set {α : Type} {c : List (List (List α))} {j : Nat} {v : α} {o : α} (h : zG c j = some o) (i : Nat) : zG (zS c j v) i = if i = j then some v else zG c i := by
  unfold zG at h
  cases h1 : c[j / 64]? with
  | none => rw [h1] at h; cases h
  | some b =>
    rw [h1, Option.bind_some] at h
    cases h3 : b[j / 8 % 8]? with
    | none => rw [h3] at h; cases h
    | some a =>
      rw [h3, Option.bind_some] at h
      have e : zS c j v = c.set (j / 64) (b.set (j / 8 % 8) (a.set (j % 8) v)) := by
        unfold zS
        rw [h1]
        dsimp only
        rw [h3]
      have l1 : j / 64 < c.length := (List.getElem?_eq_some_iff.mp h1).1
      have l2 : j / 8 % 8 < b.length := (List.getElem?_eq_some_iff.mp h3).1
      have l3 : j % 8 < a.length := (List.getElem?_eq_some_iff.mp h).1
      rw [e]
      unfold zG
      by_cases g1 : i / 64 = j / 64
      · rw [g1, List.getElem?_set_self l1, h1, Option.bind_some, Option.bind_some]
        by_cases g2 : i / 8 % 8 = j / 8 % 8
        · rw [g2, List.getElem?_set_self l2, h3, Option.bind_some, Option.bind_some]
          by_cases g3 : i % 8 = j % 8
          · rw [g3, List.getElem?_set_self l3, if_pos (by omega)]
          · rw [List.getElem?_set_ne (fun q => g3 q.symm), if_neg (fun q => g3 (by rw [q]))]
        · rw [List.getElem?_set_ne (fun q => g2 q.symm), if_neg (fun q => g2 (by rw [q]))]
      · rw [List.getElem?_set_ne (fun q => g1 q.symm), if_neg (fun q => g1 (by rw [q]))]
