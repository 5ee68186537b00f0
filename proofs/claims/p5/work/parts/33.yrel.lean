/-! THE MACHINE's SIDE of the second executor. X: the context as before, the symbols' ints, how many there are, those at the frame's entry, how many, what stood where at the entry, what holds of the whole beside -/
abbrev zyEm : Type := Nat → Nat → Option Value
abbrev zyJt : Type := (zyEm → Prop) × (Nat → zyEm → Int32 → Int32 → Int32 → Prop)
abbrev zyX : Type := zCx × (Nat → Int32) × Nat × (Nat → Int32) × Nat × ((Nat → Nat → Option Value) × (Nat → Option Cell)) × zyJt
abbrev zyb (X : zyX) : zCx := X.1
abbrev zyρ (X : zyX) : Nat → Int32 := X.2.1
abbrev zyN (X : zyX) : Nat := X.2.2.1
abbrev zyρ0 (X : zyX) : Nat → Int32 := X.2.2.2.1
abbrev zyN0 (X : zyX) : Nat := X.2.2.2.2.1
abbrev zyE (X : zyX) : Nat → Nat → Option Value := X.2.2.2.2.2.1.1
abbrev zyHE (X : zyX) : Nat → Option Cell := X.2.2.2.2.2.1.2
abbrev zyJ (X : zyX) : zyJt := X.2.2.2.2.2.2
def zyre (X : zyX) (ρ : Nat → Int32) (N : Nat) : zyX := (X.1, ρ, N, X.2.2.2)
abbrev zyV (X : zyX) (v : Nat) (w : Value) : Prop := zyv (zyρ X) (zyN X) (zad (zyb X)) v w
/-- stacks -/
def zySt (X : zyX) : List Nat → List Value → Prop
  | [], [] => True
  | a :: s, b :: t => zyV X a b ∧ zySt X s t
  | [], _ :: _ => False
  | _ :: _, [] => False
theorem zySt_c {X : zyX} {a : Nat} {s : List Nat} {q : List Value} (h : zySt X (a :: s) q) : ∃ b t, q = b :: t ∧ zyV X a b ∧ zySt X s t := by
  cases q with
  | nil => exact h.elim
  | cons b t => exact ⟨b, t, rfl, h.1, h.2⟩
theorem zySt_n {X : zyX} {q : List Value} (h : zySt X [] q) : q = [] := by
  cases q with
  | nil => rfl
  | cons b t => exact h.elim
theorem zySt_words {X : zyX} : ∀ {s : List Nat} {q : List Value}, zySt X s q → (q.map fun v => v.category).sum = zwords s := by
  intro s
  induction s with
  | nil => intro q h; rw [zySt_n h]; rfl
  | cons a s ih =>
    intro q h
    obtain ⟨b, t, rfl, h1, h2⟩ := zySt_c h
    have e : zwords (a :: s) = Nat.add (zif (Nat.beq (Nat.mod a 8) 4) 2 1) (zwords s) := rfl
    rw [List.map_cons, List.sum_cons, ih h2, zyv_cat h1, e]
    cases hb : Nat.beq (Nat.mod a 8) 4 with
    | true =>
      have hb' : a % 8 = 4 := zbeqT hb
      rw [if_pos hb']; rfl
    | false =>
      have hb' : ¬ a % 8 = 4 := zbeqF hb
      rw [if_neg hb']; rfl
theorem zySt_len {X : zyX} : ∀ {s : List Nat} {q : List Value}, zySt X s q → q.length = s.length := by
  intro s
  induction s with
  | nil => intro q h; rw [zySt_n h]; rfl
  | cons a s ih =>
    intro q h
    obtain ⟨b, t, rfl, h1, h2⟩ := zySt_c h
    rw [List.length_cons, List.length_cons, ih h2]
theorem zySt_app {X : zyX} : ∀ {s1 s2 : List Nat} {q1 q2 : List Value}, zySt X s1 q1 → zySt X s2 q2 → zySt X (s1 ++ s2) (q1 ++ q2) := by
  intro s1
  induction s1 with
  | nil => intro s2 q1 q2 h1 h2; rw [zySt_n h1]; exact h2
  | cons a s ih =>
    intro s2 q1 q2 h1 h2
    obtain ⟨b, t, rfl, h3, h4⟩ := zySt_c h1
    exact ⟨h3, ih h4 h2⟩
/-- locals -/
def zyLs (X : zyX) (nL : Nat) (ls : List Nat) (lsA : Array Slot) : Prop := ls.length = nL ∧ lsA.size = nL ∧ lv_wf lsA ∧ ∀ (i c : Nat), ls[i]? = some c → ¬ c = 13 → ∃ w, lsA[i]? = some (.val w) ∧ zyV X c w
theorem zylv_has {X : zyX} {nL : Nat} {ls : List Nat} {lsA : Array Slot} (h : zyLs X nL ls lsA) : lv_has lsA nL (zlv lsA) := ⟨h.2.1, h.2.2.1, fun q hq => zlv_mem.mp hq⟩
theorem zyLs_1 {X : zyX} {nL i v : Nat} {w : Value} {ls : List Nat} {lsA lsB : Array Slot} (h : zyLs X nL ls lsA) (hv : zyV X v w) (hlow : ∀ j c, j + 1 = i → ls[j]? = some c → ¬ c % 8 = 4)
    (hl : lv_has lsB nL ((i, w) :: (zlv lsA).filter (fun q => !(q.1 == i) && !(q.1 + 1 == i && q.2.category == 2)))) : zyLs X nL (ls.set i v) lsB := by
  obtain ⟨h1, h2, h3, h4⟩ := h
  obtain ⟨g1, g2, g3⟩ := hl
  refine ⟨by rw [List.length_set]; exact h1, g1, g2, fun j c hc hn => ?_⟩
  by_cases e : j = i
  · subst e
    have hj : j < ls.length := by
      have := (List.getElem?_eq_some_iff.mp hc).1
      rwa [List.length_set] at this
    rw [List.getElem?_set_self hj] at hc
    cases hc
    exact ⟨w, g3 (j, w) List.mem_cons_self, hv⟩
  · rw [List.getElem?_set_ne (fun q => e q.symm)] at hc
    obtain ⟨u, hu, hz⟩ := h4 j c hc hn
    refine ⟨u, g3 (j, u) (List.mem_cons_of_mem _ (List.mem_filter.mpr ⟨zlv_mem.mpr hu, ?_⟩)), hz⟩
    have n1 : (j == i) = false := by simpa using e
    have n2 : (j + 1 == i && u.category == 2) = false := by
      by_cases q : j + 1 = i
      · have : u.category = 1 := by rw [zyv_cat hz, if_neg (hlow j c q hc)]
        rw [this]; simp
      · have : (j + 1 == i) = false := by simpa using q
        rw [this]; rfl
    show (!(j == i) && !(j + 1 == i && u.category == 2)) = true
    rw [n1, n2]; rfl
theorem zyLs_2 {X : zyX} {nL i v : Nat} {w : Value} {ls : List Nat} {lsA lsB : Array Slot} (h : zyLs X nL ls lsA) (hv : zyV X v w) (hlow : ∀ j c, j + 1 = i → ls[j]? = some c → ¬ c % 8 = 4)
    (hl : lv_has lsB nL ((i, w) :: (zlv lsA).filter (fun q => !(q.1 == i) && (!(q.1 == i + 1) && !(q.1 + 1 == i && q.2.category == 2))))) : zyLs X nL ((ls.set i v).set (i + 1) 13) lsB := by
  obtain ⟨h1, h2, h3, h4⟩ := h
  obtain ⟨g1, g2, g3⟩ := hl
  refine ⟨by rw [List.length_set, List.length_set]; exact h1, g1, g2, fun j c hc hn => ?_⟩
  by_cases e2 : j = i + 1
  · subst e2
    have hj : i + 1 < (ls.set i v).length := by
      have := (List.getElem?_eq_some_iff.mp hc).1
      rwa [List.length_set] at this
    rw [List.getElem?_set_self hj] at hc
    cases hc
    exact absurd rfl hn
  rw [List.getElem?_set_ne (fun q => e2 q.symm)] at hc
  by_cases e : j = i
  · subst e
    have hj : j < ls.length := by
      have := (List.getElem?_eq_some_iff.mp hc).1
      rwa [List.length_set] at this
    rw [List.getElem?_set_self hj] at hc
    cases hc
    exact ⟨w, g3 (j, w) List.mem_cons_self, hv⟩
  · rw [List.getElem?_set_ne (fun q => e q.symm)] at hc
    obtain ⟨u, hu, hz⟩ := h4 j c hc hn
    refine ⟨u, g3 (j, u) (List.mem_cons_of_mem _ (List.mem_filter.mpr ⟨zlv_mem.mpr hu, ?_⟩)), hz⟩
    have n1 : (j == i) = false := by simpa using e
    have n3 : (j == i + 1) = false := by simpa using e2
    have n2 : (j + 1 == i && u.category == 2) = false := by
      by_cases q : j + 1 = i
      · have : u.category = 1 := by rw [zyv_cat hz, if_neg (hlow j c q hc)]
        rw [this]; simp
      · have : (j + 1 == i) = false := by simpa using q
        rw [this]; rfl
    show (!(j == i) && (!(j == i + 1) && !(j + 1 == i && u.category == 2))) = true
    rw [n1, n2, n3]; rfl
/-- memory -/
noncomputable def zyLen (c : zyCl) : Nat := if c.1 < 12 then zxCn c.1 else c.2.1
/-- what stands at a place's index -/
noncomputable def zyEl (B : zyB) (X : zCx) (H : Heap) (a k : Nat) : Option Value := match zG B a with
  | none => none
  | some c => if k < zyLen c then H[zad X a]?.bind (fun cell => cell.slots[if c.1 < 12 then zdI X c.1 k else k]?) else none
def zySh (X : zCx) (U : State) (a : Nat) (c : zyCl) (H : Heap) : Prop :=
  (c.1 < 12 ∧ ∃ cell : Cell, H[zad X a]? = some cell ∧ cell.cls = zdC X c.1 ∧ cell.vm = .none) ∨ (∃ (ty : FieldType) (cA : ClassId) (f : Nat → Value), zty c.1 = some ty ∧ H[zad X a]? = some (arrV cA c.2.1 f) ∧ ArrOfT U cA ty ∧ c.2.1 ≤ 16384)
noncomputable def zyl (l : List (Nat × Nat)) (key : Nat) : Option Nat := zylk none some key l
theorem zylk_eq {β : Type} {j : β} {f : Nat → β} {key : Nat} : ∀ {l : List (Nat × Nat)}, zylk j f key l = match zyl l key with
    | some v => f v
    | none => j := by
  intro l
  induction l with
  | nil => rfl
  | cons p t ih =>
    have e1 : zylk j f key (p :: t) = zif (Nat.beq p.1 key) (f p.2) (zylk j f key t) := rfl
    have e2 : zyl (p :: t) key = zif (Nat.beq p.1 key) (some p.2) (zyl t key) := rfl
    rw [e1, e2]
    cases Nat.beq p.1 key with
    | true => rfl
    | false => exact ih
theorem zyl_c (p : Nat × Nat) (t : List (Nat × Nat)) (key : Nat) : zyl (p :: t) key = if p.1 = key then some p.2 else zyl t key := by
  have e2 : zyl (p :: t) key = zif (Nat.beq p.1 key) (some p.2) (zyl t key) := rfl
  rw [e2]
  cases hb : Nat.beq p.1 key with
  | true => rw [if_pos (zbeqT hb)]; rfl
  | false => rw [if_neg (zbeqF hb)]; rfl
/-- an element as the base and what is known beyond it tell -/
def zyEt (X : zyX) (c : zyCl) (m : List (Nat × Nat)) (a k : Nat) (w : Value) : Prop := match zyl m (a * 16384 + k) with
  | some v => zyV X v w
  | none => ∀ r ∈ c.2.2, r.1 ≤ k → k ≤ r.2.1 → ¬ r.2.2 % 8 = 1 ∧ zyV X r.2.2 w
def zyMem (P : zyP) (X : zyX) (U : State) (m : List (Nat × Nat)) (H : Heap) : Prop :=
  (∀ a c, zG P.1 a = some c → a < 90000 ∧ zySh (zyb X) U a c H) ∧ (∀ a c k, zG P.1 a = some c → k < zyLen c → ∃ w, zyEl P.1 (zyb X) H a k = some w ∧ zyEt X c m a k w) ∧
  (∀ a k, zyin P.2.2.1 a k = false → zyEl P.1 (zyb X) H a k = zyE X a k) ∧ (zyJ X).1 (zyEl P.1 (zyb X) H) ∧ (∀ q, q < zbs (zyb X) → H[q]? = (zH0 (zyb X))[q]?) ∧ ∀ q, (∀ a c, zG P.1 a = some c → ¬ q = zad (zyb X) a) → H[q]? = zyHE X q
/-- a fact -/
def zyFm (X : zyX) (f : zyF) : Prop :=
  if f.1 = 24 then ∃ (z : Int32) (j : Nat), zyV X f.2.1 (.int z) ∧ zyV X f.2.2.2 (.int (Int32.ofNat j)) ∧ j < 2147483648 ∧ zyE X f.2.2.1 j = some (.int z)
  else if f.1 < 12 then ∃ x y z : Int32, zyV X f.2.1 (.int z) ∧ zyV X f.2.2.1 (.int x) ∧ zyV X f.2.2.2 (.int y) ∧ z = zyG f.1 x y
  else if f.1 < 1000 then ∃ x y : Int32, zyV X f.2.2.1 (.int x) ∧ zyV X f.2.2.2 (.int y) ∧ (f.1 = 20 → x < y) ∧ (f.1 = 21 → ¬ x < y) ∧ (f.1 = 22 → x = y) ∧ (f.1 = 23 → ¬ x = y)
  else ∃ x y z : Int32, zyV X f.2.1 (.int z) ∧ zyV X f.2.2.1 (.int x) ∧ zyV X f.2.2.2 (.int y) ∧ (zyJ X).2 (f.1 - 1000) (zyE X) x y z
def zyXt (X : zyX) : Prop := zyN0 X ≤ zyN X ∧ ∀ k, k < zyN0 X → zyρ X k = zyρ0 X k
theorem zySh.moved {X : zCx} {u U : State} {a : Nat} {c : zyCl} {H : Heap} (hvm : u.vm.Alike U.vm) (h : zySh X u a c H) : zySh X U a c H := by
  rcases h with h | ⟨ty, cA, f, h1, h2, h3, h4⟩
  · exact Or.inl h
  · exact Or.inr ⟨ty, cA, f, h1, h2, arrOfT_moved hvm h3, h4⟩
theorem zyMem.moved {P : zyP} {X : zyX} {u U : State} {m : List (Nat × Nat)} {H : Heap} (hvm : u.vm.Alike U.vm) (h : zyMem P X u m H) : zyMem P X U m H := ⟨fun a c h1 => ⟨(h.1 a c h1).1, (h.1 a c h1).2.moved hvm⟩, h.2⟩
theorem zyEt.up {X : zyX} {ρ2 : Nat → Int32} {N2 : Nat} {c : zyCl} {m : List (Nat × Nat)} {a k : Nat} {w : Value} (hN : zyN X ≤ N2) (hr : ∀ k, k < zyN X → ρ2 k = zyρ X k) (h : zyEt X c m a k w) : zyEt (zyre X ρ2 N2) c m a k w := by
  unfold zyEt at h ⊢
  cases hl : zyl m (a * 16384 + k) with
  | some v => rw [hl] at h; exact zyv_up h hr hN
  | none => rw [hl] at h; exact fun r h1 h2 h3 => ⟨(h r h1 h2 h3).1, zyv_up (h r h1 h2 h3).2 hr hN⟩
theorem zyMem.up {P : zyP} {X : zyX} {ρ2 : Nat → Int32} {N2 : Nat} {U : State} {m : List (Nat × Nat)} {H : Heap} (hN : zyN X ≤ N2) (hr : ∀ k, k < zyN X → ρ2 k = zyρ X k) (h : zyMem P X U m H) : zyMem P (zyre X ρ2 N2) U m H :=
  ⟨h.1, fun a c k h1 h2 => by
    obtain ⟨w, g1, g2⟩ := h.2.1 a c k h1 h2
    exact ⟨w, g1, g2.up hN hr⟩, h.2.2⟩
theorem zyFm.up {X : zyX} {ρ2 : Nat → Int32} {N2 : Nat} {f : zyF} (hN : zyN X ≤ N2) (hr : ∀ k, k < zyN X → ρ2 k = zyρ X k) (h : zyFm X f) : zyFm (zyre X ρ2 N2) f := by
  unfold zyFm at h ⊢
  split at h
  · obtain ⟨z, j, h1, h2, h3⟩ := h
    rw [if_pos (by assumption)]
    exact ⟨z, j, zyv_up h1 hr hN, zyv_up h2 hr hN, h3⟩
  · rw [if_neg (by assumption)]
    split at h
    · obtain ⟨x, y, z, h1, h2, h3, h4⟩ := h
      rw [if_pos (by assumption)]
      exact ⟨x, y, z, zyv_up h1 hr hN, zyv_up h2 hr hN, zyv_up h3 hr hN, h4⟩
    · rw [if_neg (by assumption)]
      split at h
      · obtain ⟨x, y, h1, h2, h3⟩ := h
        rw [if_pos (by assumption)]
        exact ⟨x, y, zyv_up h1 hr hN, zyv_up h2 hr hN, h3⟩
      · obtain ⟨x, y, z, h1, h2, h3, h4⟩ := h
        rw [if_neg (by assumption)]
        exact ⟨x, y, z, zyv_up h1 hr hN, zyv_up h2 hr hN, zyv_up h3 hr hN, h4⟩
theorem zySt.up {X : zyX} {ρ2 : Nat → Int32} {N2 : Nat} (hN : zyN X ≤ N2) (hr : ∀ k, k < zyN X → ρ2 k = zyρ X k) : ∀ {s : List Nat} {q : List Value}, zySt X s q → zySt (zyre X ρ2 N2) s q := by
  intro s
  induction s with
  | nil => intro q h; rw [zySt_n h]; trivial
  | cons a s ih =>
    intro q h
    obtain ⟨b, t, rfl, h1, h2⟩ := zySt_c h
    exact ⟨zyv_up h1 hr hN, ih h2⟩
theorem zyLs.up {X : zyX} {ρ2 : Nat → Int32} {N2 nL : Nat} {ls : List Nat} {lsA : Array Slot} (hN : zyN X ≤ N2) (hr : ∀ k, k < zyN X → ρ2 k = zyρ X k) (h : zyLs X nL ls lsA) : zyLs (zyre X ρ2 N2) nL ls lsA :=
  ⟨h.1, h.2.1, h.2.2.1, fun i c h1 h2 => by
    obtain ⟨w, g1, g2⟩ := h.2.2.2 i c h1 h2
    exact ⟨w, g1, zyv_up g2 hr hN⟩⟩
/-- lists -/
theorem zyrem_l {key k2 : Nat} : ∀ {l : List (Nat × Nat)}, zyl (l.filter (fun p => !(Nat.beq p.1 key))) k2 = if k2 = key then none else zyl l k2 := by
  intro l
  induction l with
  | nil => split <;> rfl
  | cons p t ih =>
    cases hb : Nat.beq p.1 key with
    | true =>
      have e := zbeqT hb
      rw [List.filter_cons_of_neg (by rw [hb]; decide), ih, zyl_c]
      by_cases q : k2 = key
      · rw [if_pos q, if_pos q]
      · rw [if_neg q, if_neg q, if_neg (by omega)]
    | false =>
      have e := zbeqF hb
      rw [List.filter_cons_of_pos (by rw [hb]; decide), zyl_c, zyl_c, ih]
      by_cases q : p.1 = k2
      · rw [if_pos q, if_pos q, if_neg (by omega)]
      · rw [if_neg q, if_neg q]
theorem zydel_eq {key : Nat} : ∀ {l : List (Nat × Nat)} {k : List (Nat × Nat) → Bool}, zydel key l k = k (l.filter (fun p => !(Nat.beq p.1 key))) := by
  intro l
  induction l with
  | nil => intro k; rfl
  | cons p t ih =>
    intro k
    have e : zydel key (p :: t) k = zif (Nat.beq p.1 key) (zydel key t k) (zydel key t (fun u => k (p :: u))) := rfl
    rw [e]
    cases hb : Nat.beq p.1 key with
    | true => rw [zif_t, ih, List.filter_cons_of_neg (by rw [hb]; decide)]
    | false => rw [zif_f, ih, List.filter_cons_of_pos (by rw [hb]; decide)]
def zyset (key v : Nat) (l : List (Nat × Nat)) : List (Nat × Nat) := (key, v) :: l.filter (fun p => !(Nat.beq p.1 key))
theorem zyput_eq {key v : Nat} {m : zyM} {k : zyM → Bool} : zyput key v m k = k (zyset key v m.1, m.2) := by
  unfold zyput
  rw [zydel_eq]
  rfl
theorem zyset_l {key v k2 : Nat} {l : List (Nat × Nat)} : zyl (zyset key v l) k2 = if k2 = key then some v else zyl l k2 := by
  unfold zyset
  rw [zyl_c, zyrem_l]
  by_cases q : k2 = key
  · rw [if_pos q.symm, if_pos q]
  · rw [if_neg (fun z => q z.symm), if_neg q, if_neg q]
theorem zyin_iff {a k : Nat} : ∀ {l : zyR}, zyin l a k = true ↔ ∃ p ∈ l, p.1 = a ∧ p.2.1 ≤ k ∧ k ≤ p.2.2 := by
  intro l
  induction l with
  | nil => exact ⟨fun h => (by cases h), fun ⟨p, h, _⟩ => (by cases h)⟩
  | cons p t ih =>
    have e : zyin (p :: t) a k = zif (zand (Nat.beq p.1 a) (zand (Nat.ble p.2.1 k) (Nat.ble k p.2.2))) true (zyin t a k) := rfl
    rw [e]
    constructor
    · intro h
      rcases zif_iff h with ⟨h1, -⟩ | ⟨-, h2⟩
      · obtain ⟨g1, g2⟩ := zand_iff h1
        obtain ⟨g2, g3⟩ := zand_iff g2
        exact ⟨p, List.mem_cons_self, zbeqT g1, zbleT g2, zbleT g3⟩
      · obtain ⟨p2, g1, g2⟩ := ih.mp h2
        exact ⟨p2, List.mem_cons_of_mem _ g1, g2⟩
    · rintro ⟨p2, h1, h2, h3, h4⟩
      cases hc : zand (Nat.beq p.1 a) (zand (Nat.ble p.2.1 k) (Nat.ble k p.2.2)) with
      | true => rfl
      | false =>
        rw [zif_f]
        rcases List.mem_cons.mp h1 with q | q
        · subst q
          have : zand (Nat.beq p2.1 a) (zand (Nat.ble p2.2.1 k) (Nat.ble k p2.2.2)) = true := by
            rw [show Nat.beq p2.1 a = true from by rw [h2]; exact Nat.beq_refl a, Nat.ble_eq_true_of_le h3, Nat.ble_eq_true_of_le h4]
            rfl
          rw [this] at hc
          cases hc
        · exact ih.mpr ⟨p2, q, h2, h3, h4⟩
theorem zycov_iff {a lo hi : Nat} : ∀ {l : zyR}, zycov l a lo hi = true → ∀ k, lo ≤ k → k ≤ hi → zyin l a k = true := by
  intro l
  induction l with
  | nil => intro h; cases h
  | cons p t ih =>
    intro h k h1 h2
    have e : zycov (p :: t) a lo hi = zif (zand (Nat.beq p.1 a) (zand (Nat.ble p.2.1 lo) (Nat.ble hi p.2.2))) true (zycov t a lo hi) := rfl
    rw [e] at h
    rcases zif_iff h with ⟨g1, -⟩ | ⟨-, g2⟩
    · obtain ⟨g1, g2⟩ := zand_iff g1
      obtain ⟨g2, g3⟩ := zand_iff g2
      have g2 := zbleT g2
      have g3 := zbleT g3
      exact zyin_iff.mpr ⟨p, List.mem_cons_self, zbeqT g1, by omega, by omega⟩
    · obtain ⟨p2, g1, g3⟩ := zyin_iff.mp (ih g2 k h1 h2)
      exact zyin_iff.mpr ⟨p2, List.mem_cons_of_mem _ g1, g3⟩
theorem zyapt_iff {a lo hi : Nat} : ∀ {l : zyR}, zyapt l a lo hi = true → ∀ k, lo ≤ k → k ≤ hi → zyin l a k = false := by
  intro l
  induction l with
  | nil => intro _ k _ _; rfl
  | cons p t ih =>
    intro h k h1 h2
    have e : zyapt (p :: t) a lo hi = zand (zif (Nat.beq p.1 a) (zif (Nat.ble (hi + 1) p.2.1) true (Nat.ble (p.2.2 + 1) lo)) true) (zyapt t a lo hi) := rfl
    rw [e] at h
    obtain ⟨g1, g2⟩ := zand_iff h
    cases hc : zyin (p :: t) a k with
    | false => rfl
    | true =>
      exfalso
      obtain ⟨p2, q1, q2, q3, q4⟩ := zyin_iff.mp hc
      rcases List.mem_cons.mp q1 with q | q
      · subst q
        rcases zif_iff g1 with ⟨-, g3⟩ | ⟨g3, -⟩
        · rcases zif_iff g3 with ⟨g4, -⟩ | ⟨-, g4⟩
          · have := zbleT g4
            omega
          · have := zbleT g4
            omega
        · exact zbeqF g3 q2
      · have := ih g2 k h1 h2
        rw [zyin_iff.mpr ⟨p2, q, q2, q3, q4⟩] at this
        cases this
theorem zyrw_iff {f : Nat → Bool} {lo hi : Nat} : ∀ {l : zyR}, zyrw f lo hi l = true → ∃ r ∈ l, r.1 ≤ lo ∧ hi ≤ r.2.1 ∧ f r.2.2 = true := by
  intro l
  induction l with
  | nil => intro h; cases h
  | cons p t ih =>
    intro h
    have e : zyrw f lo hi (p :: t) = zif (zand (Nat.ble p.1 lo) (Nat.ble hi p.2.1)) (f p.2.2) (zyrw f lo hi t) := rfl
    rw [e] at h
    rcases zif_iff h with ⟨g1, g2⟩ | ⟨-, g2⟩
    · obtain ⟨q1, q2⟩ := zand_iff g1
      exact ⟨p, List.mem_cons_self, zbleT q1, zbleT q2, g2⟩
    · obtain ⟨r, q1, q2⟩ := ih g2
      exact ⟨r, List.mem_cons_of_mem _ q1, q2⟩
theorem zyall_iff {f : Nat → Bool} {lo hi : Nat} : ∀ {l : zyR}, zyall f lo hi l = true → ∀ r ∈ l, ∀ k, lo ≤ k → k ≤ hi → r.1 ≤ k → k ≤ r.2.1 → f r.2.2 = true := by
  intro l
  induction l with
  | nil => intro _ r h; cases h
  | cons p t ih =>
    intro h r hr k h1 h2 h3 h4
    have e : zyall f lo hi (p :: t) = zand (zif (Nat.ble (hi + 1) p.1) true (zif (Nat.ble (p.2.1 + 1) lo) true (f p.2.2))) (zyall f lo hi t) := rfl
    rw [e] at h
    obtain ⟨g1, g2⟩ := zand_iff h
    rcases List.mem_cons.mp hr with q | q
    · subst q
      rcases zif_iff g1 with ⟨g3, -⟩ | ⟨-, g3⟩
      · have := zbleT g3
        omega
      rcases zif_iff g3 with ⟨g4, -⟩ | ⟨-, g4⟩
      · have := zbleT g4
        omega
      · exact g4
    · exact ih g2 r q k h1 h2 h3 h4
/-- what was known of a range goes, the rest stays -/
theorem zyflush_iff {w : zW} {rows : zyR} {lo hi base : Nat} : ∀ {l : List (Nat × Nat)} {k : List (Nat × Nat) → Bool}, zyflush w rows lo hi base l k = true → ∃ u, k u = true ∧ (∀ key, (base + lo ≤ key ∧ key ≤ base + hi → zyl u key = none) ∧ (¬ (base + lo ≤ key ∧ key ≤ base + hi) → zyl u key = zyl l key)) ∧
    ∀ key v, base + lo ≤ key → key ≤ base + hi → zyl l key = some v → ∀ r ∈ rows, r.1 ≤ key - base → key - base ≤ r.2.1 → zysub w v r.2.2 = true := by
  intro l
  induction l with
  | nil =>
    intro k h
    exact ⟨[], h, fun key => ⟨fun _ => rfl, fun _ => rfl⟩, fun key v _ _ hq => by cases hq⟩
  | cons p t ih =>
    intro k h
    have e : zyflush w rows lo hi base (p :: t) k = zif (zand (Nat.ble (base + lo) p.1) (Nat.ble p.1 (base + hi))) (zif (zyall (fun c => zysub w p.2 c) (p.1 - base) (p.1 - base) rows) (zyflush w rows lo hi base t k) false) (zyflush w rows lo hi base t (fun u => k (p :: u))) := rfl
    rw [e] at h
    rcases zif_iff h with ⟨h1, h2⟩ | ⟨h1, h2⟩
    · obtain ⟨g1, g2⟩ := zand_iff h1
      have g1 := zbleT g1
      have g2 := zbleT g2
      rcases zif_iff h2 with ⟨h3, h4⟩ | ⟨-, h4⟩
      · obtain ⟨u, q1, q2, q3⟩ := ih h4
        refine ⟨u, q1, fun key => ⟨(q2 key).1, fun z => ?_⟩, fun key v z1 z2 z3 => ?_⟩
        · rw [(q2 key).2 z, zyl_c, if_neg (fun z2 => z ⟨by omega, by omega⟩)]
        · rw [zyl_c] at z3
          by_cases q : p.1 = key
          · rw [if_pos q] at z3
            cases z3
            rw [q] at h3
            exact fun r hr r1 r2 => zyall_iff h3 r hr (key - base) (Nat.le_refl _) (Nat.le_refl _) r1 r2
          · rw [if_neg q] at z3
            exact q3 key v z1 z2 z3
      · cases h4
    · obtain ⟨u, q1, q2, q3⟩ := ih h2
      have hn : ¬ (base + lo ≤ p.1 ∧ p.1 ≤ base + hi) := by
        rintro ⟨z1, z2⟩
        rw [Nat.ble_eq_true_of_le z1, Nat.ble_eq_true_of_le z2] at h1
        cases h1
      refine ⟨p :: u, q1, fun key => ⟨fun z => ?_, fun z => ?_⟩, fun key v z1 z2 z3 => ?_⟩
      · rw [zyl_c, if_neg (fun q => hn (by omega)), (q2 key).1 z]
      · rw [zyl_c, zyl_c, (q2 key).2 z]
      · rw [zyl_c, if_neg (fun q => hn (by omega))] at z3
        exact q3 key v z1 z2 z3
