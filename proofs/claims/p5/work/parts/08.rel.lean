/-! THE MACHINE's SIDE: what states of the executor mean. X: the symbols' ints, the addresses of what lay there before (the script at 99999, texts from 100000 on, their bytes from 200000 on), the classes, their slots, where new cells begin, the heap before, the script's length -/
abbrev zCx : Type := (Nat → Int32) × (Nat → Nat) × (Nat → ClassId) × (Nat → Nat → Nat) × Nat × Heap × Nat
abbrev zρ (X : zCx) : Nat → Int32 := X.1
abbrev zhi (X : zCx) : Nat → Nat := X.2.1
abbrev zdC (X : zCx) : Nat → ClassId := X.2.2.1
abbrev zdI (X : zCx) : Nat → Nat → Nat := X.2.2.2.1
abbrev zbs (X : zCx) : Nat := X.2.2.2.2.1
abbrev zH0 (X : zCx) : Heap := X.2.2.2.2.2.1
abbrev zLn (X : zCx) : Nat := X.2.2.2.2.2.2
def zad (X : zCx) (p : Nat) : Nat := if p < 90000 then zbs X + p else zhi X p
abbrev zV (X : zCx) (v : Nat) (w : Value) : Prop := zv (zρ X) (zad X) v w
abbrev zUp (X : zCx) : Nat → Prop := fun q => zbs X ≤ q
def zStr (X : zCx) (U : State) (i : Nat) : Prop := vk_R (zskey i).1 (zskey i).2.1 (zskey i).2.2 (zhi X (100000 + i)) U ∧ va_O "java/lang/String" (zhi X (100000 + i)) (zUp X) U (zH0 X) ∧ va_OF "java/lang/String" "coder" "B" (.int 0) (zhi X (100000 + i)) (zUp X) U (zH0 X) ∧
  va_OF "java/lang/String" "value" "[B" (.ref (zhi X (200000 + i))) (zhi X (100000 + i)) (zUp X) U (zH0 X) ∧ va_T .byte (zhi X (200000 + i)) (zxTl i) (fun j => .int (Int32.ofNat ((zxT i).getD j 0))) (zUp X) U (zH0 X)
def zScr (X : zCx) (U : State) : Prop := zhi X 99999 < zbs X ∧ zLn X < 2147483648 ∧ (zLn X = 0 ∨ ∃ scr : Cell, (zH0 X)[zhi X 99999]? = some scr ∧ U.isArrayOf scr .int ∧ scr.vm ≠ .unknown ∧ scr.slots.size = zLn X ∧ ∀ j, j < zLn X → scr.slots[j]? = some (.int (zρ X j)))
def zKn (X : zCx) (U : State) : Prop := (∀ w ∈ lw_tbl, zgood w = true → ∀ A : Array Value, w.before A U = true) ∧ (∀ (c : Nat) (q : vw_C), vwCl[c]? = some q → u_Kn U q.1 q.2.1 q.2.2 (zdC X c) (zdI X c)) ∧
  zScr X U ∧ (∀ i, i < 30 → zStr X U i) ∧ va_Z "java/lang/String" "COMPACT_STRINGS" "Z" (.int 1) (zUp X) U (zH0 X) ∧ va_Zq "jdk/internal/util/Preconditions" "SIOOBE_FORMATTER" "Ljava/util/function/BiFunction;" (zUp X) U (zH0 X)
theorem zgood_warm {w : Cond} (hg : zgood w = true) {s U : State} (hW : s.WarmedH U.vm) {A : Array Value} (h : ∀ A : Array Value, w.before A s = true) : w.before A U = true := by
  have key : ∀ w : Cond, goodWord w = true → (∀ A : Array Value, w.before A s = true) → w.before A U = true := fun w hw h => word_at hW (good_of_word hw) (h #[])
  unfold zgood at hg
  split at hg
  · exact va_Nw.use rfl (va_Nw.warmF hW (h #[]))
  · exact va_Nw.use rfl (va_Nw.warmM hW (h #[]))
  · exact key _ hg h
theorem zKn.warm {X : zCx} {s U : State} (hW : s.WarmedH U.vm) (h : zKn X s) : zKn X U := by
  obtain ⟨h1, h2, ⟨h3, h3', h4⟩, h7, h8, h9⟩ := h
  have ha := hW.alike
  exact ⟨fun w hw hg A => zgood_warm hg hW (h1 w hw hg), fun c q hq => u_Kn_moved ha (h2 c q hq), ⟨h3, h3', h4.imp id (fun ⟨scr, g4, g5, g6⟩ => ⟨scr, g4, State.isArrayOf_alike ha g5, g6⟩)⟩,
    fun i hi => ⟨(h7 i hi).1.warm hW, (h7 i hi).2.1.moved ha, (h7 i hi).2.2.1.moved ha, (h7 i hi).2.2.2.1.moved ha, (h7 i hi).2.2.2.2.moved ha⟩, h8.moved ha, h9.moved ha⟩
theorem zKn.same {X : zCx} {s U : State} (hv : U.vm = s.vm) (h : zKn X s) : zKn X U := by
  obtain ⟨h1, h2, ⟨h3, h3', h4⟩, h7, h8, h9⟩ := h
  have ha : s.vm.Alike U.vm := by rw [hv]; exact Vm.Alike.refl _
  refine ⟨fun w hw hg A => ?_, fun c q hq => u_Kn_moved ha (h2 c q hq), ⟨h3, h3', h4.imp id (fun ⟨scr, g4, g5, g6⟩ => ⟨scr, g4, State.isArrayOf_alike ha g5, g6⟩)⟩,
    fun i hi => ⟨(h7 i hi).1.same hv, (h7 i hi).2.1.moved ha, (h7 i hi).2.2.1.moved ha, (h7 i hi).2.2.2.1.moved ha, (h7 i hi).2.2.2.2.moved ha⟩, h8.moved ha, h9.moved ha⟩
  have h0 := h1 w hw hg A
  unfold zgood at hg
  split at hg
  · exact va_tabs rfl hv.symm h0
  · exact va_tabs rfl hv.symm h0
  · rename_i w' _ _
    rcases good_of_word hg with q | ⟨ty, q⟩
    · rw [Bool.and_eq_true] at q
      exact va_tabs q.1 hv.symm h0
    · subst q
      simp only [Cond.before, Cond.holds, Cond.value, hv] at h0 ⊢
      exact h0
/-- stacks -/
def zSt (X : zCx) : List Nat → List Value → Prop
  | [], [] => True
  | a :: s, b :: t => zV X a b ∧ zSt X s t
  | [], _ :: _ => False
  | _ :: _, [] => False
theorem zSt_c {X : zCx} {a : Nat} {s : List Nat} {q : List Value} (h : zSt X (a :: s) q) : ∃ b t, q = b :: t ∧ zV X a b ∧ zSt X s t := by
  cases q with
  | nil => exact h.elim
  | cons b t => exact ⟨b, t, rfl, h.1, h.2⟩
theorem zSt_n {X : zCx} {q : List Value} (h : zSt X [] q) : q = [] := by
  cases q with
  | nil => rfl
  | cons b t => exact h.elim
theorem zSt_words {X : zCx} : ∀ {s : List Nat} {q : List Value}, zSt X s q → (q.map fun v => v.category).sum = zwords s := by
  intro s
  induction s with
  | nil => intro q h; rw [zSt_n h]; rfl
  | cons a s ih =>
    intro q h
    obtain ⟨b, t, rfl, h1, h2⟩ := zSt_c h
    have e : zwords (a :: s) = Nat.add (zif (Nat.beq (Nat.mod a 8) 4) 2 1) (zwords s) := rfl
    rw [List.map_cons, List.sum_cons, ih h2, zv_cat h1, e]
    cases hb : Nat.beq (Nat.mod a 8) 4 with
    | true =>
      have hb' : a % 8 = 4 := zbeqT hb
      rw [if_pos hb']; rfl
    | false =>
      have hb' : ¬ a % 8 = 4 := zbeqF hb
      rw [if_neg hb']; rfl
theorem zSt_len {X : zCx} : ∀ {s : List Nat} {q : List Value}, zSt X s q → q.length = s.length := by
  intro s
  induction s with
  | nil => intro q h; rw [zSt_n h]; rfl
  | cons a s ih =>
    intro q h
    obtain ⟨b, t, rfl, h1, h2⟩ := zSt_c h
    rw [List.length_cons, List.length_cons, ih h2]
theorem zSt_app {X : zCx} : ∀ {s1 s2 : List Nat} {q1 q2 : List Value}, zSt X s1 q1 → zSt X s2 q2 → zSt X (s1 ++ s2) (q1 ++ q2) := by
  intro s1
  induction s1 with
  | nil => intro s2 q1 q2 h1 h2; rw [zSt_n h1]; exact h2
  | cons a s ih =>
    intro s2 q1 q2 h1 h2
    obtain ⟨b, t, rfl, h3, h4⟩ := zSt_c h1
    exact ⟨h3, ih h4 h2⟩
/-- locals -/
def zLs (X : zCx) (nL : Nat) (ls : List Nat) (lsA : Array Slot) : Prop := ls.length = nL ∧ lsA.size = nL ∧ lv_wf lsA ∧ ∀ (i c : Nat), ls[i]? = some c → ¬ c = 13 → ∃ w, lsA[i]? = some (.val w) ∧ zV X c w
def zlv (lsA : Array Slot) : List (Nat × Value) := (List.range lsA.size).filterMap (fun i => match (lsA[i]? : Option Slot) with
  | some (Slot.val w) => some (i, w)
  | _ => none)
theorem zlv_mem {lsA : Array Slot} {i : Nat} {w : Value} : (i, w) ∈ zlv lsA ↔ lsA[i]? = some (.val w) := by
  unfold zlv
  rw [List.mem_filterMap]
  constructor
  · rintro ⟨j, -, h⟩
    split at h
    · rename_i u hu
      cases h
      exact hu
    · cases h
  · intro h
    refine ⟨i, List.mem_range.mpr (Array.getElem?_eq_some_iff.mp h).1, ?_⟩
    rw [h]
theorem zlv_has {X : zCx} {nL : Nat} {ls : List Nat} {lsA : Array Slot} (h : zLs X nL ls lsA) : lv_has lsA nL (zlv lsA) := ⟨h.2.1, h.2.2.1, fun q hq => zlv_mem.mp hq⟩
theorem zLs_1 {X : zCx} {nL i v : Nat} {w : Value} {ls : List Nat} {lsA lsB : Array Slot} (h : zLs X nL ls lsA) (hv : zV X v w) (hlow : ∀ j c, j + 1 = i → ls[j]? = some c → ¬ c % 8 = 4)
    (hl : lv_has lsB nL ((i, w) :: (zlv lsA).filter (fun q => !(q.1 == i) && !(q.1 + 1 == i && q.2.category == 2)))) : zLs X nL (ls.set i v) lsB := by
  obtain ⟨h1, h2, h3, h4⟩ := h
  obtain ⟨g1, g2, g3⟩ := hl
  refine ⟨by rw [List.length_set]; exact h1, g1, g2, fun j c hc hn => ?_⟩
  by_cases e : j = i
  · subst e
    have hj : j < ls.length := by
      have := (List.getElem?_eq_some_iff.mp hc).1
      rwa [List.length_set] at this
    rw [List.getElem?_set_self hj] at hc
    cases hc
    exact ⟨w, g3 (j, w) List.mem_cons_self, hv⟩
  · rw [List.getElem?_set_ne (fun q => e q.symm)] at hc
    obtain ⟨u, hu, hz⟩ := h4 j c hc hn
    refine ⟨u, g3 (j, u) (List.mem_cons_of_mem _ (List.mem_filter.mpr ⟨zlv_mem.mpr hu, ?_⟩)), hz⟩
    have n1 : (j == i) = false := by simpa using e
    have n2 : (j + 1 == i && u.category == 2) = false := by
      by_cases q : j + 1 = i
      · have : u.category = 1 := by rw [zv_cat hz, if_neg (hlow j c q hc)]
        rw [this]; simp
      · have : (j + 1 == i) = false := by simpa using q
        rw [this]; rfl
    show (!(j == i) && !(j + 1 == i && u.category == 2)) = true
    rw [n1, n2]; rfl
theorem zLs_2 {X : zCx} {nL i v : Nat} {w : Value} {ls : List Nat} {lsA lsB : Array Slot} (h : zLs X nL ls lsA) (hv : zV X v w) (hlow : ∀ j c, j + 1 = i → ls[j]? = some c → ¬ c % 8 = 4)
    (hl : lv_has lsB nL ((i, w) :: (zlv lsA).filter (fun q => !(q.1 == i) && (!(q.1 == i + 1) && !(q.1 + 1 == i && q.2.category == 2))))) : zLs X nL ((ls.set i v).set (i + 1) 13) lsB := by
  obtain ⟨h1, h2, h3, h4⟩ := h
  obtain ⟨g1, g2, g3⟩ := hl
  refine ⟨by rw [List.length_set, List.length_set]; exact h1, g1, g2, fun j c hc hn => ?_⟩
  by_cases e2 : j = i + 1
  · subst e2
    have hj : i + 1 < (ls.set i v).length := by
      have := (List.getElem?_eq_some_iff.mp hc).1
      rwa [List.length_set] at this
    rw [List.getElem?_set_self hj] at hc
    cases hc
    exact absurd rfl hn
  rw [List.getElem?_set_ne (fun q => e2 q.symm)] at hc
  by_cases e : j = i
  · subst e
    have hj : j < ls.length := by
      have := (List.getElem?_eq_some_iff.mp hc).1
      rwa [List.length_set] at this
    rw [List.getElem?_set_self hj] at hc
    cases hc
    exact ⟨w, g3 (j, w) List.mem_cons_self, hv⟩
  · rw [List.getElem?_set_ne (fun q => e q.symm)] at hc
    obtain ⟨u, hu, hz⟩ := h4 j c hc hn
    refine ⟨u, g3 (j, u) (List.mem_cons_of_mem _ (List.mem_filter.mpr ⟨zlv_mem.mpr hu, ?_⟩)), hz⟩
    have n1 : (j == i) = false := by simpa using e
    have n3 : (j == i + 1) = false := by simpa using e2
    have n2 : (j + 1 == i && u.category == 2) = false := by
      by_cases q : j + 1 = i
      · have : u.category = 1 := by rw [zv_cat hz, if_neg (hlow j c q hc)]
        rw [this]; simp
      · have : (j + 1 == i) = false := by simpa using q
        rw [this]; rfl
    show (!(j == i) && (!(j == i + 1) && !(j + 1 == i && u.category == 2))) = true
    rw [n1, n2, n3]; rfl
/-- memory -/
def zty (k : Nat) : Option FieldType := match k with
  | 20 => some .int
  | 21 => some .long
  | 22 => some .byte
  | 23 => some .boolean
  | _ => none
def zCell (X : zCx) (U : State) (a : Nat) (c : zCl) (H : Heap) : Prop :=
  (c.1 < 12 ∧ ∃ cell : Cell, H[a]? = some cell ∧ cell.cls = zdC X c.1 ∧ cell.vm = .none ∧ ∀ k v, k < zxCn c.1 → zG c.2.2 k = some v → ∃ w, zV X v w ∧ cell.slots[zdI X c.1 k]? = some w) ∨
  (∃ (ty : FieldType) (cA : ClassId) (f : Nat → Value), zty c.1 = some ty ∧ H[a]? = some (arrV cA c.2.1 f) ∧ ArrOfT U cA ty ∧ c.2.1 ≤ 20000 ∧ ∀ j v, j < c.2.1 → zG c.2.2 j = some v → zV X v (f j))
def zMem (X : zCx) (U : State) (n : Nat) (m : zM) (H : Heap) : Prop := H.size = zbs X + n ∧ n ≤ 90000 ∧ (∀ a c, zG m a = some c → ¬ c.1 = 99 → a < n ∧ zCell X U (zbs X + a) c H) ∧ ∀ q, q < zbs X → H[q]? = (zH0 X)[q]?
theorem zCell.kept {X : zCx} {U : State} {a : Nat} {c : zCl} {H H1 : Heap} (h : zCell X U a c H) (hq : H1[a]? = H[a]?) : zCell X U a c H1 := by
  rcases h with ⟨h0, cell, h1, h2⟩ | ⟨ty, cA, f, h1, h2, h3⟩
  · exact Or.inl ⟨h0, cell, hq.trans h1, h2⟩
  · exact Or.inr ⟨ty, cA, f, h1, hq.trans h2, h3⟩
theorem zCell.moved {X : zCx} {u U : State} {a : Nat} {c : zCl} {H : Heap} (hvm : u.vm.Alike U.vm) (h : zCell X u a c H) : zCell X U a c H := by
  rcases h with h | ⟨ty, cA, f, h1, h2, h3, h4⟩
  · exact Or.inl h
  · exact Or.inr ⟨ty, cA, f, h1, h2, arrOfT_moved hvm h3, h4⟩
theorem zMem.moved {X : zCx} {u U : State} {n : Nat} {m : zM} {H : Heap} (hvm : u.vm.Alike U.vm) (h : zMem X u n m H) : zMem X U n m H := ⟨h.1, h.2.1, fun a c h1 h2 => ⟨(h.2.2.1 a c h1 h2).1, (h.2.2.1 a c h1 h2).2.moved hvm⟩, h.2.2.2⟩
theorem zMem.get {X : zCx} {U : State} {n : Nat} {m : zM} {H : Heap} (h : zMem X U n m H) {a : Nat} {c : zCl} (hg : zG m a = some c) (hn : ¬ c.1 = 99) : zad X a = zbs X + a ∧ a < n ∧ zCell X U (zad X a) c H := by
  obtain ⟨h1, h2⟩ := h.2.2.1 a c hg hn
  have e : zad X a = zbs X + a := by
    unfold zad
    rw [if_pos (Nat.lt_of_lt_of_le h1 h.2.1)]
  exact ⟨e, h1, by rw [e]; exact h2⟩
theorem zMem.set {X : zCx} {U : State} {n : Nat} {m : zM} {H H1 : Heap} (h : zMem X U n m H) {a : Nat} {c c2 : zCl} (hg : zG m a = some c) (hn : ¬ c.1 = 99) (hz : H1.size = H.size) (hq : ∀ q, q ≠ zad X a → H1[q]? = H[q]?) (hc : zCell X U (zad X a) c2 H1) : zMem X U n (zS m a c2) H1 := by
  obtain ⟨e, hl, -⟩ := h.get hg hn
  refine ⟨hz.trans h.1, h.2.1, fun b x hb hx => ?_, fun q hq2 => ?_⟩
  · rw [zG_set hg b] at hb
    by_cases q : b = a
    · rw [if_pos q] at hb
      cases hb
      rw [q]
      exact ⟨hl, by rw [← e]; exact hc⟩
    · rw [if_neg q] at hb
      obtain ⟨g1, g2⟩ := h.2.2.1 b x hb hx
      exact ⟨g1, g2.kept (hq _ (by rw [e]; omega))⟩
  · rw [hq q (by rw [e]; omega)]
    exact h.2.2.2 q hq2
theorem zMem.new {X : zCx} {U : State} {n : Nat} {m : zM} {H H1 : Heap} (h : zMem X U n m H) {c c2 : zCl} (hg : zG m n = some c) (hz : H1.size = H.size + 1) (hq : ∀ q, q < H.size → H1[q]? = H[q]?) (hn : n + 1 ≤ 90000) (hc : zCell X U (zbs X + n) c2 H1) : zMem X U (n + 1) (zS m n c2) H1 := by
  refine ⟨by rw [hz, h.1]; omega, hn, fun b x hb hx => ?_, fun q hq2 => ?_⟩
  · rw [zG_set hg b] at hb
    by_cases q : b = n
    · rw [if_pos q] at hb
      cases hb
      rw [q]
      exact ⟨by omega, hc⟩
    · rw [if_neg q] at hb
      obtain ⟨g1, g2⟩ := h.2.2.1 b x hb hx
      exact ⟨by omega, g2.kept (hq _ (by rw [h.1]; omega))⟩
  · rw [hq q (by rw [h.1]; omega)]
    exact h.2.2.2 q hq2
