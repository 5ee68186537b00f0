/-! THE EXECUTOR: bytecode over lists. A memory is a list of cells (number of its class, or of its kind of array; values); addresses are places in it. A symbol is '.retAddr (2 * k)', an int of which only bounds are known '.retAddr (2 * j + 1)'. -/
abbrev zxM : Type := List (Nat × List Value)
abbrev zxL : Type := List (Nat × Value)
abbrev zxE : Type := List (Int × Int)
abbrev zxF : Type := Nat × Nat × zxL × List Value × Nat × Nat × Nat
abbrev zxS : Type := zxE × List zxF × zxM
/-- the number is worked out before it is used -/
noncomputable def zxfn {α : Type} (n : Nat) (k : Nat → α) : α := Nat.rec (motive := fun _ => α) (k 0) (fun m _ => k (Nat.succ m)) n
theorem zxfn_eq {α : Type} (n : Nat) (k : Nat → α) : zxfn n k = k n := by cases n <;> rfl
noncomputable def zxfi {α : Type} (x : Int32) (k : Int32 → α) : α := zxfn x.toBitVec.toNat (fun n => k (Int32.ofNat n))
theorem zxfi_eq {α : Type} (x : Int32) (k : Int32 → α) : zxfi x k = k x := by
  unfold zxfi
  rw [zxfn_eq]
  congr 1
  apply Int32.toBitVec_inj.mp
  simp
noncomputable def zxfl {α : Type} (x : Int64) (k : Int64 → α) : α := zxfn x.toBitVec.toNat (fun n => k (Int64.ofNat n))
theorem zxfl_eq {α : Type} (x : Int64) (k : Int64 → α) : zxfl x k = k x := by
  unfold zxfl
  rw [zxfn_eq]
  congr 1
  apply Int64.toBitVec_inj.mp
  simp
noncomputable def zxnth {α : Type} (l : List α) : Nat → Option α := List.rec (motive := fun _ => Nat → Option α) (fun _ => none) (fun a _ ih n => Nat.rec (motive := fun _ => Option α) (some a) (fun k _ => ih k) n) l
theorem zxnth_eq {α : Type} (l : List α) : ∀ n, zxnth l n = l[n]? := by
  induction l with
  | nil => intro n; simp [zxnth]
  | cons a t ih =>
    intro n
    cases n with
    | zero => rfl
    | succ n => exact (ih n).trans (by simp)
/-- the list with another value at a place, laid out before it is used -/
noncomputable def zxset {α β : Type} (l : List α) : Nat → α → (List α → β) → β := List.rec (motive := fun _ => Nat → α → (List α → β) → β) (fun _ _ k => k []) (fun a t ih n v k => Nat.rec (motive := fun _ => β) (k (v :: t)) (fun n' _ => ih n' v (fun t' => k (a :: t'))) n) l
theorem zxset_eq {α β : Type} (l : List α) : ∀ (n : Nat) (v : α) (k : List α → β), zxset l n v k = k (l.set n v) := by
  induction l with
  | nil => intro n v k; rfl
  | cons a t ih =>
    intro n v k
    cases n with
    | zero => rfl
    | succ n => exact (ih n v _).trans (by simp)
noncomputable def zxapp {α β : Type} (l : List α) : α → (List α → β) → β := List.rec (motive := fun _ => α → (List α → β) → β) (fun v k => k [v]) (fun a _ ih v k => ih v (fun t' => k (a :: t'))) l
theorem zxapp_eq {α β : Type} (l : List α) : ∀ (v : α) (k : List α → β), zxapp l v k = k (l ++ [v]) := by
  induction l with
  | nil => intro v k; rfl
  | cons a t ih => intro v k; exact (ih v _).trans (by simp)
noncomputable def zxrep {α : Type} (n : Nat) (v : α) : List α := Nat.rec (motive := fun _ => List α) [] (fun _ t => v :: t) n
theorem zxrep_eq {α : Type} (n : Nat) (v : α) : zxrep n v = List.replicate n v := by
  induction n with
  | zero => rfl
  | succ n ih => show v :: zxrep n v = _; rw [ih]; rfl
noncomputable def zxlen {α β : Type} (l : List α) : Nat → (Nat → β) → β := List.rec (motive := fun _ => Nat → (Nat → β) → β) (fun n k => k n) (fun _ _ ih n k => zxfn (n + 1) (fun n' => ih n' k)) l
theorem zxlen_eq {α β : Type} (l : List α) : ∀ (n : Nat) (k : Nat → β), zxlen l n k = k (n + l.length) := by
  induction l with
  | nil => intro n k; rfl
  | cons a t ih =>
    intro n k
    show zxfn (n + 1) (fun n' => zxlen t n' k) = _
    rw [zxfn_eq, ih]
    congr 1
    simp; omega
noncomputable def zxget (l : zxL) : Nat → Option Value := List.rec (motive := fun _ => Nat → Option Value) (fun _ => none) (fun p _ ih i => bif Nat.beq p.1 i then some p.2 else ih i) l
theorem zxget_mem {l : zxL} {i : Nat} {v : Value} (h : zxget l i = some v) : (i, v) ∈ l := by
  induction l with
  | nil => cases h
  | cons p t ih =>
    have h' : (bif Nat.beq p.1 i then some p.2 else zxget t i) = some v := h
    cases hb : Nat.beq p.1 i with
    | true =>
      rw [hb] at h'
      have e : p.2 = v := Option.some.inj h'
      have e1 : p.1 = i := Nat.eq_of_beq_eq_true hb
      rw [← e, ← e1]
      exact List.mem_cons_self
    | false =>
      rw [hb] at h'
      exact List.mem_cons_of_mem _ (ih h')
/-- storing in the locals: as the kit's lists have it -/
def zxput1 (l : zxL) (i : Nat) (v : Value) : zxL := (i, v) :: l.filter (fun q => !(q.1 == i) && !(q.1 + 1 == i && q.2.category == 2))
def zxput2 (l : zxL) (i : Nat) (v : Value) : zxL := (i, v) :: l.filter (fun q => !(q.1 == i) && (!(q.1 == i + 1) && !(q.1 + 1 == i && q.2.category == 2)))
noncomputable def zxfil {α β : Type} (p : α → Bool) (l : List α) : (List α → β) → β := List.rec (motive := fun _ => (List α → β) → β) (fun k => k []) (fun a _ ih k => bif p a then ih (fun t => k (a :: t)) else ih k) l
theorem zxfil_eq {α β : Type} (p : α → Bool) (l : List α) : ∀ k : List α → β, zxfil p l k = k (l.filter p) := by
  induction l with
  | nil => intro k; rfl
  | cons a t ih =>
    intro k
    show (bif p a then zxfil p t (fun t => k (a :: t)) else zxfil p t k) = _
    cases h : p a with
    | true => rw [cond_true, ih, List.filter_cons_of_pos h]
    | false => rw [cond_false, ih, List.filter_cons_of_neg (by rw [h]; decide)]
noncomputable def zxput1k {β : Type} (l : zxL) (i : Nat) (v : Value) (k : zxL → β) : β := zxfil (fun q => !(Nat.beq q.1 i) && !(Nat.beq (Nat.succ q.1) i && Nat.beq q.2.category 2)) l (fun t => k ((i, v) :: t))
noncomputable def zxput2k {β : Type} (l : zxL) (i : Nat) (v : Value) (k : zxL → β) : β := zxfil (fun q => !(Nat.beq q.1 i) && (!(Nat.beq q.1 (Nat.succ i)) && !(Nat.beq (Nat.succ q.1) i && Nat.beq q.2.category 2))) l (fun t => k ((i, v) :: t))
theorem zxbeq (a b : Nat) : Nat.beq a b = (a == b) := by rw [Bool.eq_iff_iff, Nat.beq_eq, beq_iff_eq]
theorem zxput1k_eq {β : Type} (l : zxL) (i : Nat) (v : Value) (k : zxL → β) : zxput1k l i v k = k (zxput1 l i v) := by
  unfold zxput1k zxput1
  rw [zxfil_eq]
  simp only [zxbeq]
theorem zxput2k_eq {β : Type} (l : zxL) (i : Nat) (v : Value) (k : zxL → β) : zxput2k l i v k = k (zxput2 l i v) := by
  unfold zxput2k zxput2
  rw [zxfil_eq]
  simp only [zxbeq]
/-- bounds of an int whose value isn't known: coded in an odd number -/
def zxlo (n : Nat) : Int := ((n / 2 / 4294967296 : Nat) : Int) - 2147483648
def zxhi (n : Nat) : Int := ((n / 2 % 4294967296 : Nat) : Int) - 2147483648
def zxiv (e : zxE) (v : Value) : Option (Int × Int) := match v with
  | .int x => some (x.toInt, x.toInt)
  | .retAddr n => bif Nat.beq (n % 2) 0 then e[n / 2]? else some (zxlo n, zxhi n)
  | _ => none
def zxany : Value := .retAddr 18446744073709551615
/-- the int that a value is, where only one can be -/
noncomputable def zxc (e : zxE) (v : Value) : Option Int32 := match v with
  | .int x => some x
  | .retAddr n => bif Nat.beq (n % 2) 0 then (match zxnth e (n / 2) with
    | some b => bif decide (b.1 = b.2) then some (Int32.ofInt b.1) else none
    | none => none) else none
  | _ => none
/-- a symbol's bounds made narrower -/
noncomputable def zxcut (e : zxE) (v : Value) (lo hi : Int) : zxE := match v with
  | .retAddr n => bif Nat.beq (n % 2) 0 then (match zxnth e (n / 2) with
    | some b => zxset e (n / 2) (max b.1 lo, min b.2 hi) id
    | none => e) else e
  | _ => e
noncomputable def zxfI {α : Type} (x : Int) (k : Int → α) : α := Int.rec (motive := fun _ => α) (fun n => zxfn n (fun n => k (Int.ofNat n))) (fun n => zxfn n (fun n => k (Int.negSucc n))) x
theorem zxfI_eq {α : Type} (x : Int) (k : Int → α) : zxfI x k = k x := by
  cases x with
  | ofNat n => exact zxfn_eq n (fun n => k (Int.ofNat n))
  | negSucc n => exact zxfn_eq n (fun n => k (Int.negSucc n))
/-- bounds are worked out before they are kept -/
noncomputable def zxcutk {α : Type} (e : zxE) (v : Value) (lo hi : Int) (k : zxE → α) : α := match v with
  | .retAddr n => bif Nat.beq (n % 2) 0 then (match zxnth e (n / 2) with
    | some b => zxfI (max b.1 lo) (fun l => zxfI (min b.2 hi) (fun h => zxset e (n / 2) (l, h) k))
    | none => k e) else k e
  | _ => k e
theorem zxcutk_eq {α : Type} (e : zxE) (v : Value) (lo hi : Int) (k : zxE → α) : zxcutk e v lo hi k = k (zxcut e v lo hi) := by
  unfold zxcutk zxcut
  cases v with
  | retAddr n =>
    dsimp only
    cases Nat.beq (n % 2) 0 with
    | false => rfl
    | true =>
      dsimp only [cond_true]
      cases zxnth e (n / 2) with
      | none => rfl
      | some b => dsimp only; rw [zxfI_eq, zxfI_eq, zxset_eq, zxset_eq]; rfl
  | _ => rfl
abbrev zxO : Type := Option (List (Bool × zxE))
/-- what may come of 'a < b', with what is known then -/
noncomputable def zxlt (e : zxE) (a b : Value) : zxO := match zxiv e a with
  | none => none
  | some p => match zxiv e b with
    | none => none
    | some q => bif decide (p.2 < q.1) then some [(true, e)] else bif decide (q.2 ≤ p.1) then some [(false, e)] else
      zxcutk e a p.1 (q.2 - 1) (fun e1 => zxcutk e1 b (p.1 + 1) q.2 (fun e2 => zxcutk e a q.1 p.2 (fun e3 => zxcutk e3 b q.1 p.2 (fun e4 => some [(true, e2), (false, e4)]))))
noncomputable def zxne (e : zxE) (a b : Value) (p q : Int × Int) : List (Bool × zxE) :=
  bif decide (q.1 = q.2) then (bif decide (p.1 = q.1) then zxcutk e a (q.1 + 1) p.2 (fun e1 => [(false, e1)]) else bif decide (p.2 = q.1) then zxcutk e a p.1 (q.1 - 1) (fun e1 => [(false, e1)]) else zxcutk e a p.1 (q.1 - 1) (fun e1 => zxcutk e a (q.1 + 1) p.2 (fun e2 => [(false, e1), (false, e2)])))
  else bif decide (p.1 = p.2) then (bif decide (q.1 = p.1) then zxcutk e b (p.1 + 1) q.2 (fun e1 => [(false, e1)]) else bif decide (q.2 = p.1) then zxcutk e b q.1 (p.1 - 1) (fun e1 => [(false, e1)]) else zxcutk e b q.1 (p.1 - 1) (fun e1 => zxcutk e b (p.1 + 1) q.2 (fun e2 => [(false, e1), (false, e2)])))
  else [(false, e)]
noncomputable def zxeq (e : zxE) (a b : Value) : zxO := match zxiv e a with
  | none => none
  | some p => match zxiv e b with
    | none => none
    | some q => bif decide (p.2 < q.1) || decide (q.2 < p.1) then some [(false, e)] else bif decide (p.1 = p.2) && (decide (q.1 = q.2)) then some [(true, e)] else
      zxcutk e a q.1 q.2 (fun e1 => zxcutk e1 b p.1 p.2 (fun e2 => some ((true, e2) :: zxne e a b p q)))
/-- the frame goes on elsewhere with another stack -/
abbrev zxto (f : zxF) (pc : Nat) (st : List Value) : zxF := (f.1, pc, f.2.2.1, st, f.2.2.2.2)
noncomputable def zxbr (o : zxO) (neg : Bool) (t n : Nat) (f : zxF) (st : List Value) (fs : List zxF) (m : zxM) : Option (List zxS) := match o with
  | none => none
  | some l => some (l.map fun q => (q.2, zxto f (bif xor q.1 neg then t else n) st :: fs, m))
abbrev zxP : Type := Option (zxL × List Value)
noncomputable def zxld (ls : zxL) (i : Nat) (st : List Value) (k : Nat) : zxP := match zxget ls i with
  | none => none
  | some v => match v with
    | .int _ => bif Nat.beq k 0 then some (ls, v :: st) else none
    | .retAddr _ => bif Nat.beq k 0 then some (ls, v :: st) else none
    | .long _ => bif Nat.beq k 1 then some (ls, v :: st) else none
    | .ref _ => bif Nat.beq k 2 then some (ls, v :: st) else none
    | _ => none
noncomputable def zxst (ls : zxL) (i : Nat) (st : List Value) (k : Nat) : zxP := match st with
  | [] => none
  | v :: r => match v with
    | .int _ => bif Nat.beq k 0 then zxput1k ls i v (fun l => some (l, r)) else none
    | .retAddr _ => bif Nat.beq k 0 then zxput1k ls i v (fun l => some (l, r)) else none
    | .long _ => bif Nat.beq k 1 then zxput2k ls i v (fun l => some (l, r)) else none
    | .ref _ => bif Nat.beq k 2 then zxput1k ls i v (fun l => some (l, r)) else none
    | _ => none
noncomputable def zxbin (e : zxE) (ls : zxL) (st : List Value) (op : Int32 → Int32 → Int32) : zxP := match st with
  | b :: a :: r => match zxc e a with
    | none => none
    | some x => match zxc e b with
      | none => none
      | some y => zxfi (op x y) (fun z => some (ls, .int z :: r))
  | _ => none
noncomputable def zxdiv (e : zxE) (ls : zxL) (st : List Value) (op : Int32 → Int32 → Int32) : zxP := match st with
  | b :: a :: r => match zxc e a with
    | none => none
    | some x => match zxc e b with
      | none => none
      | some y => bif decide (y = 0) then none else zxfi (op x y) (fun z => some (ls, .int z :: r))
  | _ => none
noncomputable def zxun (e : zxE) (ls : zxL) (st : List Value) (op : Int32 → Int32) : zxP := match st with
  | a :: r => match zxc e a with
    | none => none
    | some x => zxfi (op x) (fun z => some (ls, .int z :: r))
  | _ => none
noncomputable def zxlbin (ls : zxL) (st : List Value) (op : Int64 → Int64 → Int64) : zxP := match st with
  | .long y :: .long x :: r => zxfl (op x y) (fun z => some (ls, .long z :: r))
  | _ => none
noncomputable def zxldiv (ls : zxL) (st : List Value) (op : Int64 → Int64 → Int64) : zxP := match st with
  | .long y :: .long x :: r => bif decide (y = 0) then none else zxfl (op x y) (fun z => some (ls, .long z :: r))
  | _ => none
noncomputable def zxlsh (e : zxE) (ls : zxL) (st : List Value) (op : Int64 → Int32 → Int64) : zxP := match st with
  | b :: .long x :: r => match zxc e b with
    | none => none
    | some y => zxfl (op x y) (fun z => some (ls, .long z :: r))
  | _ => none
/-- instructions that touch neither memory nor links and go on behind themselves, where their operands are known -/
noncomputable def zxpure (e : zxE) (i : Instr) (ls : zxL) (st : List Value) : zxP := match i with
  | .iconst n => some (ls, .int (Int32.ofInt n) :: st)
  | .bipush n => some (ls, .int (Int8.ofInt n).toInt32 :: st)
  | .sipush n => some (ls, .int (Int16.ofInt n).toInt32 :: st)
  | .lconst n => some (ls, .long (Int64.ofNat n.val) :: st)
  | .iload_n k => zxld ls k.val st 0
  | .iload k => zxld ls k st 0
  | .lload_n k => zxld ls k.val st 1
  | .lload k => zxld ls k st 1
  | .aload_n k => zxld ls k.val st 2
  | .aload k => zxld ls k st 2
  | .istore_n k => zxst ls k.val st 0
  | .istore k => zxst ls k st 0
  | .lstore_n k => zxst ls k.val st 1
  | .lstore k => zxst ls k st 1
  | .astore_n k => zxst ls k.val st 2
  | .astore k => zxst ls k st 2
  | .iinc k n => (match zxget ls k with
    | none => none
    | some v => match zxc e v with
      | none => none
      | some x => zxfi (x + Int32.ofInt n) (fun z => zxput1k ls k (.int z) (fun l => some (l, st))))
  | .iadd => zxbin e ls st (fun x y => x + y)
  | .isub => zxbin e ls st (fun x y => x - y)
  | .imul => zxbin e ls st (fun x y => x * y)
  | .iand => zxbin e ls st (fun x y => x &&& y)
  | .ior => zxbin e ls st (fun x y => x ||| y)
  | .ixor => zxbin e ls st (fun x y => x ^^^ y)
  | .ishl => zxbin e ls st (fun x y => x <<< (y &&& 31))
  | .ishr => zxbin e ls st (fun x y => x >>> (y &&& 31))
  | .idiv => zxdiv e ls st (fun x y => x / y)
  | .irem => zxdiv e ls st (fun x y => x - x / y * y)
  | .ineg => zxun e ls st (fun x => -x)
  | .i2b => zxun e ls st (fun x => x.toInt8.toInt32)
  | .i2l => (match st with
    | a :: r => match zxc e a with
      | none => none
      | some x => zxfl x.toInt64 (fun z => some (ls, .long z :: r))
    | _ => none)
  | .l2i => (match st with
    | .long x :: r => zxfi x.toInt32 (fun z => some (ls, .int z :: r))
    | _ => none)
  | .ladd => zxlbin ls st (fun x y => x + y)
  | .lsub => zxlbin ls st (fun x y => x - y)
  | .lmul => zxlbin ls st (fun x y => x * y)
  | .land => zxlbin ls st (fun x y => x &&& y)
  | .lor => zxlbin ls st (fun x y => x ||| y)
  | .ldiv => zxldiv ls st (fun x y => x / y)
  | .lrem => zxldiv ls st (fun x y => x - x / y * y)
  | .lshl => zxlsh e ls st (fun x y => x <<< (y.toInt64 &&& 63))
  | .lshr => zxlsh e ls st (fun x y => x >>> (y.toInt64 &&& 63))
  | .lcmp => (match st with
    | .long y :: .long x :: r => zxfi (lg_cmp x y) (fun z => some (ls, .int z :: r))
    | _ => none)
  | .dup => (match st with
    | a :: r => bif Nat.beq a.category 1 then some (ls, a :: a :: r) else none
    | _ => none)
  | .dup2 => (match st with
    | a :: b :: r => bif Nat.beq a.category 1 && Nat.beq b.category 1 then some (ls, a :: b :: a :: b :: r) else none
    | _ => none)
  | .pop => (match st with
    | a :: r => bif Nat.beq a.category 1 then some (ls, r) else none
    | _ => none)
  | _ => none
/-! what a program is, here: decoded instructions with what their links name, methods with their room, kinds of fields, texts -/
/-- the rest of a state, by name -/
noncomputable def zxgo (e : zxE) (f : zxF) (ln : Nat) (ls : zxL) (st : List Value) (fs : List zxF) (m : zxM) : Option (List zxS) := zxfn (f.2.1 + ln) (fun pc => some [(e, (f.1, pc, ls, st, f.2.2.2.2) :: fs, m)])
/-- a symbol is split in two at c: below c, and from c on -/
noncomputable def zxsplit (e : zxE) (v : Value) (c : Int) (fs : List zxF) (m : zxM) : Option (List zxS) := match zxiv e v with
  | none => none
  | some p => zxcutk e v p.1 (c - 1) (fun e1 => zxcutk e v c p.2 (fun e2 => some [(e1, fs, m), (e2, fs, m)]))
/-- all ints from lo on, n of them, at the place of the value that isn't known -/
noncomputable def zxeach (e : zxE) (lo : Int) (n : Nat) (mk : Value → List zxF) (m : zxM) : List zxS := Nat.rec (motive := fun _ => Int → List zxS) (fun _ => []) (fun _ ih lo => (e, mk (.int (Int32.ofInt lo)), m) :: ih (lo + 1)) n lo
/-- a value is made known: a symbol by halves, bounds by each -/
noncomputable def zxknow (e : zxE) (v : Value) (mk : Value → List zxF) (m : zxM) : Option (List zxS) := match v with
  | .retAddr n => match zxiv e v with
    | none => none
    | some p => bif decide (p.2 - p.1 ≤ 4096) && decide (p.1 ≤ p.2) then (bif Nat.beq (n % 2) 0 then zxsplit e v ((p.1 + p.2) / 2 + 1) (mk v) m else some (zxeach e p.1 (p.2 - p.1 + 1).toNat mk m)) else none
  | _ => none
/-- what is known of the answer of an instruction over two ints that aren't known -/
noncomputable def zxabs (e : zxE) (i : Instr) (a b : Value) : Option Value := match zxiv e a with
  | none => none
  | some p => match i with
    | .iadd => some zxany
    | .isub => some zxany
    | .imul => some zxany
    | .ior => some zxany
    | .ixor => some zxany
    | .ishl => some zxany
    | .ishr => some zxany
    | .iand => (match b with
      | .int y => bif decide (0 ≤ y.toInt) then some (.retAddr (2 * (2147483648 * 4294967296 + (y.toInt + 2147483648).toNat) + 1)) else none
      | _ => none)
    | .irem => (match b with
      | .int y => bif decide (0 < y.toInt) && decide (0 ≤ p.1) then some (.retAddr (2 * (2147483648 * 4294967296 + (y.toInt + 2147483647).toNat) + 1)) else none
      | _ => none)
    | _ => none
/-- a symbol of few values -/
noncomputable def zxfew (e : zxE) (v : Value) : Bool := match v with
  | .retAddr n => bif Nat.beq (n % 2) 0 then (match zxnth e (n / 2) with
    | some p => decide (p.2 - p.1 ≤ 200) && decide (p.1 < p.2)
    | none => false) else false
  | _ => false
/-- an instruction over two ints that aren't both known -/
noncomputable def zxsym (e : zxE) (i : Instr) (f : zxF) (fs : List zxF) (m : zxM) : Option (List zxS) := match f.2.2.2.1 with
  | b :: a :: r => bif zxfew e a then zxknow e a (fun v => zxto f f.2.1 (b :: v :: r) :: fs) m else bif zxfew e b then zxknow e b (fun v => zxto f f.2.1 (v :: a :: r) :: fs) m else
    match zxiv e b with
    | none => none
    | some _ => match zxabs e i a b with
      | none => none
      | some v => zxgo e f 1 f.2.2.1 (v :: r) fs m
  | _ => none
