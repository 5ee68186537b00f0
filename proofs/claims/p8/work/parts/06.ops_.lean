section
/-! values, bounds, comparisons -/
noncomputable def zand (a b : Bool) : Bool := Bool.rec (motive := fun _ => Bool) false b a
theorem zand_iff {a b : Bool} (h : zand a b = true) : a = true ∧ b = true := by cases a <;> cases b <;> first | exact ⟨rfl, rfl⟩ | cases h
theorem zif_iff {c t e : Bool} (h : zif c t e = true) : (c = true ∧ t = true) ∨ (c = false ∧ e = true) := by
  cases c
  · exact Or.inr ⟨rfl, h⟩
  · exact Or.inl ⟨rfl, h⟩
noncomputable def zpop {β : Type} (j : β) (k : Nat → List Nat → β) (st : List Nat) : β := List.rec (motive := fun _ => β) j (fun a t _ => k a t) st
theorem zpop_iff {k : Nat → List Nat → Bool} {st : List Nat} (h : zpop false k st = true) : ∃ a t, st = a :: t ∧ k a t = true := by
  cases st with
  | nil => cases h
  | cons a t => exact ⟨a, t, rfl, h⟩
/-- the bounds of a symbol and an int, where none goes over -/
noncomputable def zsh {β : Type} (j : Nat → Nat → β) (k : β) (c : Nat) (p : Nat × Nat) : β := Prod.rec (motive := fun _ => β) (fun lo hi => zif (Nat.ble 2147483648 (Nat.add lo (zb c))) (zif (Nat.ble (Nat.add hi (zb c)) 6442450943) (j (Nat.sub (Nat.add lo (zb c)) 2147483648) (Nat.sub (Nat.add hi (zb c)) 2147483648)) k) k) p
noncomputable def zbd (w : zW) (v : Nat) (k : Nat → Nat → Bool) : Bool :=
  zif (Nat.beq (Nat.mod v 8) 0) (zfr false (zb (Nat.div v 8)) (fun b => k b b))
  (zif (Nat.beq (Nat.mod v 8) 1) (znth (fun p => zsh k (k 0 4294967295) (Nat.mod (Nat.div v 8) 4294967296) p) w.2 (Nat.div v 34359738368))
  (zif (Nat.beq (Nat.mod v 8) 2) (zfr false (Nat.div v 34359738368) (fun lo => zfr false (Nat.mod (Nat.div v 8) 4294967296) (fun hi => k lo hi))) false))
/-- a symbol's bounds made narrower -/
noncomputable def zcut (w : zW) (v lo hi : Nat) (k : zW → Bool) : Bool :=
  zif (Nat.beq (Nat.mod v 8) 1) (znth (fun p => zsh (fun _ _ => zupd (fun _ k2 => zfr false (Nat.max p.1 (Nat.sub (Nat.add lo 2147483648) (zb (Nat.mod (Nat.div v 8) 4294967296)))) (fun l => zfr false (Nat.min p.2 (Nat.sub (Nat.add hi 2147483648) (zb (Nat.mod (Nat.div v 8) 4294967296)))) (fun h => k2 (l, h)))) w.2 (Nat.div v 34359738368) (fun e => k (w.1, e))) (k w) (Nat.mod (Nat.div v 8) 4294967296) p) w.2 (Nat.div v 34359738368)) (k w)
/-- 'a < b': what may be, with what is known then; 'not' first -/
noncomputable def zlt (w : zW) (a b : Nat) (k : Bool → zW → Bool) : Bool :=
  zbd w a (fun la ha => zbd w b (fun lb hb => zif (Nat.ble hb la) (k false w) (zif (Nat.ble (Nat.succ ha) lb) (k true w)
    (zand (zcut w a lb ha (fun w1 => zcut w1 b lb ha (fun w2 => k false w2))) (zcut w a la (Nat.pred hb) (fun w1 => zcut w1 b (Nat.succ la) hb (fun w2 => k true w2)))))))
/-- 'a isn't c', a within bounds -/
noncomputable def zne (w : zW) (a la ha c : Nat) (k : Bool → zW → Bool) : Bool :=
  zif (Nat.beq la c) (zcut w a (Nat.succ c) ha (fun w1 => k false w1)) (zif (Nat.beq ha c) (zcut w a la (Nat.pred c) (fun w1 => k false w1)) (zand (zcut w a la (Nat.pred c) (fun w1 => k false w1)) (zcut w a (Nat.succ c) ha (fun w1 => k false w1))))
noncomputable def zeq (w : zW) (a b : Nat) (k : Bool → zW → Bool) : Bool :=
  zbd w a (fun la ha => zbd w b (fun lb hb => zif (Nat.ble (Nat.succ ha) lb) (k false w) (zif (Nat.ble (Nat.succ hb) la) (k false w)
    (zif (Nat.beq lb hb) (zif (Nat.beq la ha) (k true w) (zand (zcut w a lb hb (fun w1 => k true w1)) (zne w a la ha lb k)))
    (zif (Nat.beq la ha) (zand (zcut w b la ha (fun w1 => k true w1)) (zne w b lb hb la k)) (zand (k true w) (k false w)))))))
/-- the int that a value is, where only one can be; else j -/
noncomputable def zkn (w : zW) (v : Nat) (j : Bool) (k : Nat → Bool) : Bool :=
  zif (Nat.beq (Nat.mod v 8) 0) (k (Nat.div v 8)) (zif (Nat.beq (Nat.mod v 8) 1) (zbd w v (fun lo hi => zif (Nat.beq lo hi) (zfr false (zb lo) k) j)) j)
/-- a symbol by halves, where it has few values -/
noncomputable def zhalf (w : zW) (v n : Nat) (j : Bool) (k : zW → Bool) : Bool :=
  zif (Nat.beq (Nat.mod v 8) 1) (zbd w v (fun lo hi => zif (Nat.ble (Nat.sub hi lo) n) (zif (Nat.ble (Nat.succ lo) hi) (zfr false (Nat.div (Nat.add lo hi) 2) (fun c => zand (zcut w v lo c k) (zcut w v (Nat.succ c) hi k))) j) j)) j
/-- each int from a bound on, n of them -/
noncomputable def zeach (k : Nat → Bool) (n : Nat) : Nat → Bool := Nat.rec (motive := fun _ => Nat → Bool) (fun _ => true) (fun _ ih b => zand (k (zb b)) (ih (Nat.succ b))) n
abbrev zOp : Type := Nat → Nat → zK → zK
noncomputable def zo_no : zOp := fun _ _ _ _ _ _ _ _ _ _ _ _ => false
noncomputable def zo_push (v : Nat) : zOp := fun nx _ k w cf y _ ls st q fs m => k w cf y nx ls (v :: st) q fs m
/-- is it of this kind: 0 an int, 1 a long, 2 a reference -/
noncomputable def zkd (g v : Nat) : Bool := zif (Nat.beq g 0) (Nat.ble (Nat.mod v 8) 2) (zif (Nat.beq g 1) (Nat.beq (Nat.mod v 8) 4) (Nat.beq (Nat.mod v 8) 3))
noncomputable def zo_load (g i : Nat) : zOp := fun nx _ k w cf y _ ls st q fs m => znth (fun v => zif (zkd g v) (k w cf y nx ls (v :: st) q fs m) false) ls i
/-- no long lies just below -/
noncomputable def zlow (ls : List Nat) (i : Nat) (b : Bool) : Bool := Nat.rec (motive := fun _ => Bool) b (fun i' _ => znth (fun v => zif (Nat.beq (Nat.mod v 8) 4) false b) ls i') i
noncomputable def zo_store (g i : Nat) : zOp := fun nx _ k w cf y _ ls st q fs m => zpop false (fun v r => zif (zkd g v) (zlow ls i (zif (Nat.beq g 1)
    (zupd (fun _ k2 => k2 v) ls i (fun l1 => zupd (fun _ k2 => k2 13) l1 (Nat.succ i) (fun l2 => k w cf y nx l2 r q fs m)))
    (zupd (fun _ k2 => k2 v) ls i (fun l1 => k w cf y nx l1 r q fs m)))) false) st
/-- a symbol and an int, and an int more -/
noncomputable def zaff (v u : Nat) : Nat := Nat.add (Nat.mul 8 (Nat.add (Nat.mul (Nat.div v 34359738368) 4294967296) (Nat.mod (Nat.add (Nat.mod (Nat.div v 8) 4294967296) u) 4294967296))) 1
noncomputable def zo_iinc (i : Nat) (u : Nat) : zOp := fun nx _ k w cf y _ ls st q fs m => znth (fun v => zif (Nat.beq (Nat.mod v 8) 0)
    (zfr false (Nat.mul 8 (Nat.mod (Nat.add (Nat.div v 8) u) 4294967296)) (fun v2 => zupd (fun _ k2 => k2 v2) ls i (fun l1 => k w cf y nx l1 st q fs m)))
    (zif (Nat.beq (Nat.mod v 8) 1) (zfr false (zaff v u) (fun v2 => zupd (fun _ k2 => k2 v2) ls i (fun l1 => k w cf y nx l1 st q fs m))) false)) ls i
/-- what is known of an answer: 1 a sum, 2 a difference, 3 anything, 4 the bits of a mask, 5 a rest, 6 either's bits -/
noncomputable def zabs (g : Nat) (la a b : Nat) (k : Nat → Bool) : Bool :=
  zif (Nat.beq g 1) (zif (zand (Nat.beq (Nat.mod a 8) 1) (Nat.beq (Nat.mod b 8) 0)) (zfr false (zaff a (Nat.div b 8)) k) (zif (zand (Nat.beq (Nat.mod a 8) 0) (Nat.beq (Nat.mod b 8) 1)) (zfr false (zaff b (Nat.div a 8)) k) (k 34359738362)))
  (zif (Nat.beq g 2) (zif (zand (Nat.beq (Nat.mod a 8) 1) (Nat.beq (Nat.mod b 8) 0)) (zfr false (zaff a (Nat.sub 4294967296 (Nat.mod (Nat.div b 8) 4294967296))) k) (k 34359738362))
  (zif (Nat.beq g 3) (k 34359738362)
  (zif (Nat.beq g 4) (zif (zand (Nat.beq (Nat.mod b 8) 0) (Nat.ble (Nat.succ (Nat.div b 8)) 2147483648)) (zfr false (Nat.add (Nat.mul 8 (Nat.add 9223372036854775808 (Nat.add 2147483648 (Nat.div b 8)))) 2) k) false)
  (zif (Nat.beq g 5) (zif (zand (Nat.beq (Nat.mod b 8) 0) (zand (Nat.ble (Nat.succ (Nat.div b 8)) 2147483648) (zand (Nat.ble 1 (Nat.div b 8)) (Nat.ble 2147483648 la)))) (zfr false (Nat.add (Nat.mul 8 (Nat.add 9223372036854775808 (Nat.add 2147483647 (Nat.div b 8)))) 2) k) false)
  (zif (Nat.beq g 6) (zif (zand (Nat.beq (Nat.mod b 8) 0) (zand (Nat.ble (Nat.succ (Nat.div b 8)) 2147483648) (Nat.ble 2147483648 la))) (k 73786976329197944826) (k 34359738362))
  false)))))
/-- ints by their numbers -/
noncomputable def zf_add (u v : Nat) : Nat := Nat.mod (Nat.add u v) 4294967296
noncomputable def zf_sub (u v : Nat) : Nat := Nat.mod (Nat.add u (Nat.sub 4294967296 (Nat.mod v 4294967296))) 4294967296
noncomputable def zf_mul (u v : Nat) : Nat := Nat.mod (Nat.mul u v) 4294967296
noncomputable def zf_and (u v : Nat) : Nat := Nat.mod (Nat.land u v) 4294967296
noncomputable def zf_or (u v : Nat) : Nat := Nat.mod (Nat.lor u v) 4294967296
noncomputable def zf_xor (u v : Nat) : Nat := Nat.mod (Nat.xor u v) 4294967296
noncomputable def zf_32 (f : Int32 → Int32 → Int32) (u v : Nat) : Nat := (f (Int32.ofNat u) (Int32.ofNat v)).toBitVec.toNat
/-- an instruction over two ints: known ones; else by halves, else what is known of the answer -/
noncomputable def zslow (f : Nat → Nat → Nat) (g : Nat) (dv : Bool) (a b : Nat) (w : zW) (again : zW → Bool) (k : Nat → Bool) : Bool :=
  zhalf w a 200 (zhalf w b 200 (zkn w a (zbd w a (fun la _ => zbd w b (fun _ _ => zabs g la a b k)))
    (fun ua => zkn w b (zbd w a (fun la _ => zbd w b (fun _ _ => zabs g la a b k))) (fun ub => zif (zand dv (Nat.beq (Nat.mod ub 4294967296) 0)) false (zfr false (Nat.mul 8 (f ua ub)) k)))) again) again
noncomputable def zo_bin (f : Nat → Nat → Nat) (g : Nat) : zOp := fun nx _ k w cf y pc ls st q fs m => zpop false (fun b t => zpop false (fun a r =>
  zif (Nat.beq (Nat.mod (Nat.lor a b) 8) 0) (zfr false (Nat.mul 8 (f (Nat.div a 8) (Nat.div b 8))) (fun v => k w cf y nx ls (v :: r) q fs m))
    (zslow f g false a b w (fun w2 => k w2 cf y pc ls st q fs m) (fun v => k w cf y nx ls (v :: r) q fs m))) t) st
noncomputable def zo_div (f : Nat → Nat → Nat) (g : Nat) : zOp := fun nx _ k w cf y pc ls st q fs m => zpop false (fun b t => zpop false (fun a r =>
  zif (zand (Nat.beq (Nat.mod (Nat.lor a b) 8) 0) (Nat.ble 1 (Nat.mod (Nat.div b 8) 4294967296))) (zfr false (Nat.mul 8 (f (Nat.div a 8) (Nat.div b 8))) (fun v => k w cf y nx ls (v :: r) q fs m))
    (zslow f g true a b w (fun w2 => k w2 cf y pc ls st q fs m) (fun v => k w cf y nx ls (v :: r) q fs m))) t) st
/-- over one int; what isn't known stays so where g is 1 -/
noncomputable def zo_un (f : Nat → Nat) (g : Nat) : zOp := fun nx _ k w cf y pc ls st q fs m => zpop false (fun a r =>
  zhalf w a 200 (zkn w a (zif (Nat.beq g 1) (zbd w a (fun _ _ => k w cf y nx ls (34359738362 :: r) q fs m)) false) (fun u => zfr false (f u) (fun v => k w cf y nx ls (v :: r) q fs m))) (fun w2 => k w2 cf y pc ls st q fs m)) st
noncomputable def zo_lun (f : Nat → Nat) : zOp := fun nx _ k w cf y _ ls st q fs m => zpop false (fun a r => zif (Nat.beq (Nat.mod a 8) 4) (zfr false (f (Nat.div a 8)) (fun v => k w cf y nx ls (v :: r) q fs m)) false) st
noncomputable def zo_lbin (dv : Bool) (f : Nat → Nat → Nat) : zOp := fun nx _ k w cf y _ ls st q fs m => zpop false (fun b t => zpop false (fun a r =>
  zif (zand (Nat.beq (Nat.mod a 8) 4) (Nat.beq (Nat.mod b 8) 4)) (zif (zand dv (Nat.beq (Nat.mod (Nat.div b 8) 18446744073709551616) 0)) false (zfr false (f (Nat.div a 8) (Nat.div b 8)) (fun v => k w cf y nx ls (v :: r) q fs m))) false) t) st
noncomputable def zo_lsh (f : Nat → Nat → Nat) : zOp := fun nx _ k w cf y _ ls st q fs m => zpop false (fun b t => zpop false (fun a r =>
  zif (zand (Nat.beq (Nat.mod a 8) 4) (Nat.beq (Nat.mod b 8) 0)) (zfr false (f (Nat.div a 8) (Nat.div b 8)) (fun v => k w cf y nx ls (v :: r) q fs m)) false) t) st
noncomputable def zf_64 (f : Int64 → Int64 → Int64) (u v : Nat) : Nat := Nat.add (Nat.mul 8 (f (Int64.ofNat u) (Int64.ofNat v)).toBitVec.toNat) 4
noncomputable def zf_64s (f : Int64 → Int32 → Int64) (u v : Nat) : Nat := Nat.add (Nat.mul 8 (f (Int64.ofNat u) (Int32.ofNat v)).toBitVec.toNat) 4
noncomputable def zf_cmp (u v : Nat) : Nat := Nat.mul 8 (lg_cmp (Int64.ofNat u) (Int64.ofNat v)).toBitVec.toNat
/-- one word wide -/
noncomputable def z1 (v : Nat) : Bool := Nat.ble (Nat.mod v 8) 3
noncomputable def zo_dup : zOp := fun nx _ k w cf y _ ls st q fs m => zpop false (fun a _ => zif (z1 a) (k w cf y nx ls (a :: st) q fs m) false) st
noncomputable def zo_dup2 : zOp := fun nx _ k w cf y _ ls st q fs m => zpop false (fun a t => zpop false (fun b _ => zif (zand (z1 a) (z1 b)) (k w cf y nx ls (a :: b :: st) q fs m) false) t) st
noncomputable def zo_pop : zOp := fun nx _ k w cf y _ ls st q fs m => zpop false (fun a r => zif (z1 a) (k w cf y nx ls r q fs m) false) st
noncomputable def zo_goto : zOp := fun _ ax k w cf y _ ls st q fs m => k w cf y ax ls st q fs m
/-- a branch: by '<' (g 0) or '=' (g 1), turned (tn) or not, the other way round (sw) or not -/
noncomputable def zo_cmp (g : Bool) (sw tn : Bool) : zOp := fun nx ax k w cf y _ ls st q fs m => zpop false (fun b t => zpop false (fun a r =>
  zif g (zeq w a b (fun o w2 => zif (zif tn (zif o false true) o) (k w2 cf y ax ls r q fs m) (k w2 cf y nx ls r q fs m)))
    (zlt w (zif sw b a) (zif sw a b) (fun o w2 => zif (zif tn (zif o false true) o) (k w2 cf y ax ls r q fs m) (k w2 cf y nx ls r q fs m)))) t) st
noncomputable def zo_cmp0 (g : Bool) (sw tn : Bool) : zOp := fun nx ax k w cf y _ ls st q fs m => zpop false (fun a r =>
  zif g (zeq w a 0 (fun o w2 => zif (zif tn (zif o false true) o) (k w2 cf y ax ls r q fs m) (k w2 cf y nx ls r q fs m)))
    (zlt w (zif sw 0 a) (zif sw a 0) (fun o w2 => zif (zif tn (zif o false true) o) (k w2 cf y ax ls r q fs m) (k w2 cf y nx ls r q fs m)))) st
noncomputable def zo_getf : zOp := fun nx ax k w cf y _ ls st q fs m => zpop false (fun a r => zif (Nat.beq (Nat.mod a 8) 3) (zif (Nat.ble 100000 (Nat.div a 8)) (zif (Nat.ble (Nat.succ (Nat.sub (Nat.div a 8) 100000)) zxTn) (zif (Nat.beq ax 832) (zfr false (Nat.add a 800000) (fun v => k w cf y nx ls (v :: r) q fs m)) (zif (Nat.beq ax 833) (k w cf y nx ls (0 :: r) q fs m) false)) false) (zget m (Nat.div a 8) (fun c => Prod.rec (motive := fun _ => Bool) (fun tg c2 => zif (Nat.beq tg (Nat.div ax 64)) (Prod.rec (motive := fun _ => Bool) (fun _ ct => zget ct (Nat.mod ax 64) (fun v => k w cf y nx ls (v :: r) q fs m)) c2) false) c))) false) st
/-- the cell at a place, changed -/
noncomputable def zcell (m : zM) (a : Nat) (f : Nat → Nat → zA → ((Nat × Nat × zA) → Bool) → Bool) (k : zM → Bool) : Bool := zupd (fun b k1 => zupd (fun c k2 => zupd (fun x k3 => Prod.rec (motive := fun _ => Bool) (fun tg x2 => Prod.rec (motive := fun _ => Bool) (fun ln ct => f tg ln ct k3) x2) x) c (Nat.mod a 8) k2) b (Nat.mod (Nat.div a 8) 8) k1) m (Nat.div a 64) k
theorem zcell_iff {m : zM} {a : Nat} {f : Nat → Nat → zA → ((Nat × Nat × zA) → Bool) → Bool} {k : zM → Bool} (h : zcell m a f k = true) : ∃ tg ln ct, zG m a = some (tg, ln, ct) ∧ f tg ln ct (fun x => k (zS m a x)) = true := by
  obtain ⟨b, h1, h2⟩ := zupd_iff h
  obtain ⟨c, h3, h4⟩ := zupd_iff h2
  obtain ⟨⟨tg, ln, ct⟩, h5, h6⟩ := zupd_iff h4
  have h1' : m[a / 64]? = some b := h1
  have h3' : b[a / 8 % 8]? = some c := h3
  refine ⟨tg, ln, ct, ?_, ?_⟩
  · show m[a / 64]?.bind _ = _
    rw [h1', Option.bind_some, h3', Option.bind_some]
    exact h5
  · have e : ∀ x, zS m a x = m.set (a / 64) (b.set (a / 8 % 8) (c.set (a % 8) x)) := by
      intro x
      unfold zS
      rw [h1']
      dsimp only
      rw [h3']
    have e2 : (fun x => k (zS m a x)) = fun x => k (m.set (a / 64) (b.set (a / 8 % 8) (c.set (a % 8) x))) := funext fun x => by rw [e x]
    rw [e2]
    exact h6
/-- may it be put there: 0 an int, 1 a boolean, 2 a long, 3 a reference -/
noncomputable def zfit (g v : Nat) : Bool := zif (Nat.beq g 0) (Nat.ble (Nat.mod v 8) 2) (zif (Nat.beq g 1) (zif (Nat.beq v 0) true (Nat.beq v 8)) (zif (Nat.beq g 2) (Nat.beq (Nat.mod v 8) 4) (zif (Nat.beq g 3) (Nat.beq (Nat.mod v 8) 3) false)))
noncomputable def zo_putf : zOp := fun nx ax k w cf y _ ls st q fs m => zpop false (fun v t => zpop false (fun a r => zif (zand (Nat.beq (Nat.mod a 8) 3) (zand (zfit (Nat.mod (zxK ax) 8) v) (zif (Nat.ble (zxK ax) 7) true (Nat.beq y.2.2.2.2 (Nat.succ (Nat.div ax 64))))))
  (zcell m (Nat.div a 8) (fun tg ln ct k2 => zif (Nat.beq tg (Nat.div ax 64)) (zset ct (Nat.mod ax 64) v (fun c2 => k2 (tg, ln, c2))) false) (fun m2 => k w cf y nx ls r q fs m2)) false) t) st
/-- a row of n times v, in eights -/
noncomputable def zrow {α : Type} (v : α) (n : Nat) : List α := Nat.rec (motive := fun _ => List α) [] (fun _ t => v :: t) n
noncomputable def zrep (v n : Nat) : zA := zrow (zrow (zrow v 8) 8) (Nat.div (Nat.add n 63) 64)
noncomputable def zo_new : zOp := fun nx ax k w cf y _ ls st q fs m => Prod.rec (motive := fun _ => Bool) (fun d q2 => Prod.rec (motive := fun _ => Bool) (fun nc ns => Prod.rec (motive := fun _ => Bool) (fun sz e =>
  zif (zand (Nat.ble (Nat.succ nc) (y.2.1)) (zand (Nat.ble (Nat.add ns (zxCn ax)) (y.2.2.1)) (zand (Nat.ble (Nat.succ ax) 12) (Nat.ble (Nat.succ sz) 90000))))
    (zcell m sz (fun tg _ _ k2 => zif (Nat.beq tg 99) (k2 (ax, zxCn ax, zxD ax)) false) (fun m2 => zfr false (Nat.succ nc) (fun nc2 => zfr false (Nat.add ns (zxCn ax)) (fun ns2 => zfr false (Nat.succ sz) (fun sz2 => zfr false (Nat.add (Nat.mul 8 sz) 3) (fun v => k (sz2, e) cf y nx ls (v :: st) (d, nc2, ns2) fs m2)))))) false) w) q2) q
/-- kinds of arrays: 20 int, 21 long, 22 byte, 23 boolean -/
noncomputable def zo_newa (kd : Nat) : zOp := fun nx _ k w cf y _ ls st q fs m => zpop false (fun n r => Prod.rec (motive := fun _ => Bool) (fun d q2 => Prod.rec (motive := fun _ => Bool) (fun nc ns => Prod.rec (motive := fun _ => Bool) (fun sz e => zfr false (Nat.div n 8) (fun N =>
  zif (zand (Nat.beq (Nat.mod n 8) 0) (zand (Nat.ble N 20000) (zand (Nat.ble (Nat.succ nc) (y.2.1)) (zand (Nat.ble (Nat.add ns N) (y.2.2.1)) (Nat.ble (Nat.succ sz) 90000)))))
    (zcell m sz (fun tg _ _ k2 => zif (Nat.beq tg 99) (k2 (kd, N, zrep (zif (Nat.beq kd 21) 4 0) N)) false) (fun m2 => zfr false (Nat.succ nc) (fun nc2 => zfr false (Nat.add ns N) (fun ns2 => zfr false (Nat.succ sz) (fun sz2 => zfr false (Nat.add (Nat.mul 8 sz) 3) (fun v => k (sz2, e) cf y nx ls (v :: r) (d, nc2, ns2) fs m2)))))) false)) w) q2) q) st
/-- the script lies at 99999; its i-th int is the symbol i; L = 0: nothing is known of it -/
noncomputable def zo_alen (L : Nat) : zOp := fun nx _ k w cf y _ ls st q fs m => zpop false (fun a r => zif (Nat.beq (Nat.mod a 8) 3) (zif (Nat.beq (Nat.div a 8) 99999) (zif (Nat.beq L 0) false (k w cf y nx ls (Nat.mul 8 L :: r) q fs m))
  (zif (Nat.ble 200000 (Nat.div a 8)) (zif (Nat.ble (Nat.succ (Nat.sub (Nat.div a 8) 200000)) zxTn) (zfr false (Nat.mul 8 (zxTl (Nat.sub (Nat.div a 8) 200000))) (fun v => k w cf y nx ls (v :: r) q fs m)) false) (zget m (Nat.div a 8) (fun c => Prod.rec (motive := fun _ => Bool) (fun tg c2 => zif (zand (Nat.ble 20 tg) (Nat.ble tg 23)) (Prod.rec (motive := fun _ => Bool) (fun ln _ => k w cf y nx ls (Nat.mul 8 ln :: r) q fs m) c2) false) c)))) false) st
/-- an index is made known: a symbol by halves, bounds by each -/
noncomputable def zindex (w : zW) (j : Nat) (again : zW → Bool) (put : Nat → Bool) (k : Nat → Bool) : Bool :=
  zif (Nat.beq (Nat.mod j 8) 0) (k (Nat.div j 8)) (zhalf w j 4096 (zkn w j (zif (Nat.beq (Nat.mod j 8) 2) (zbd w j (fun lo hi => zif (Nat.ble (Nat.sub hi lo) 64) (zif (Nat.ble lo hi) (zeach put (Nat.succ (Nat.sub hi lo)) lo) false) false)) false) k) again)
noncomputable def zo_ald (L k1 k2 : Nat) : zOp := fun nx _ k w cf y pc ls st q fs m => zpop false (fun j t => zpop false (fun a r => zif (Nat.beq (Nat.mod a 8) 3) (zindex w j (fun w2 => k w2 cf y pc ls st q fs m) (fun u => k w cf y pc ls (Nat.mul 8 u :: t) q fs m) (fun n => zif (Nat.beq (Nat.div a 8) 99999)
    (zif (zand (Nat.ble (Nat.succ n) L) (Nat.beq k1 20)) (zfr false (Nat.add (Nat.mul 34359738368 n) 1) (fun v => k w cf y nx ls (v :: r) q fs m)) false)
    (zif (Nat.ble 200000 (Nat.div a 8)) (zif (zand (Nat.beq k1 22) (Nat.ble (Nat.succ (Nat.sub (Nat.div a 8) 200000)) zxTn)) (znth (fun c => k w cf y nx ls (Nat.mul 8 c :: r) q fs m) (zxT (Nat.sub (Nat.div a 8) 200000)) n) false) (zget m (Nat.div a 8) (fun c => Prod.rec (motive := fun _ => Bool) (fun tg c2 => zif (zif (Nat.beq tg k1) true (Nat.beq tg k2)) (Prod.rec (motive := fun _ => Bool) (fun ln ct => zif (Nat.ble (Nat.succ n) ln) (zget ct n (fun v => k w cf y nx ls (v :: r) q fs m)) false) c2) false) c))))) false) t) st
/-- what comes into an array of a kind -/
noncomputable def zinto (w : zW) (kd v : Nat) (k : Nat → Bool) : Bool :=
  zif (Nat.beq kd 20) (zif (Nat.ble (Nat.mod v 8) 2) (k v) false)
  (zif (Nat.beq kd 21) (zif (Nat.beq (Nat.mod v 8) 4) (k v) false)
  (zif (Nat.beq kd 22) (zif (Nat.beq (Nat.mod v 8) 0) (zfr false (Nat.mul 8 (Int32.ofNat (Nat.div v 8)).toInt8.toInt32.toBitVec.toNat) k) (zif (Nat.ble (Nat.mod v 8) 2) (zbd w v (fun _ _ => k 34359738362)) false))
  (zif (Nat.beq kd 23) (zif (zif (Nat.beq v 0) true (Nat.beq v 8)) (k v) false) false)))
noncomputable def zo_ast (k1 k2 : Nat) : zOp := fun nx _ k w cf y pc ls st q fs m => zpop false (fun v t => zpop false (fun j t2 => zpop false (fun a r => zif (Nat.beq (Nat.mod a 8) 3) (zindex w j (fun w2 => k w2 cf y pc ls st q fs m) (fun u => k w cf y pc ls (v :: Nat.mul 8 u :: t2) q fs m) (fun n =>
    zcell m (Nat.div a 8) (fun tg ln ct kk => zif (zand (zif (Nat.beq tg k1) true (Nat.beq tg k2)) (Nat.ble (Nat.succ n) ln)) (zinto w tg v (fun v2 => zset ct n v2 (fun c2 => kk (tg, ln, c2)))) false) (fun m2 => k w cf y nx ls r q fs m2))) false) t2) t) st
/-- n values off the stack, the first that was pushed first -/
noncomputable def zargs (n : Nat) : List Nat → List Nat → (List Nat → List Nat → Bool) → Bool := Nat.rec (motive := fun _ => List Nat → List Nat → (List Nat → List Nat → Bool) → Bool) (fun st acc k => k acc st) (fun _ ih st acc k => zpop false (fun v r => ih r (v :: acc) k) st) n
/-- a long has two places -/
noncomputable def zexp (as : List Nat) : List Nat := List.rec (motive := fun _ => List Nat) [] (fun v _ ih => zif (Nat.beq (Nat.mod v 8) 4) (v :: 13 :: ih) (v :: ih)) as
noncomputable def zpad (n : Nat) : List Nat → (List Nat → Bool) → Bool := Nat.rec (motive := fun _ => List Nat → (List Nat → Bool) → Bool) (fun l k => List.rec (motive := fun _ => Bool) (k []) (fun _ _ _ => false) l) (fun _ ih l k => List.rec (motive := fun _ => Bool) (ih [] (fun u => k (13 :: u))) (fun a t _ => ih t (fun u => k (a :: u))) l) n
/-- words on the stack -/
noncomputable def zwords (st : List Nat) : Nat := List.rec (motive := fun _ => Nat) 0 (fun v _ ih => Nat.add (zif (Nat.beq (Nat.mod v 8) 4) 2 1) ih) st
/-- the receiver is there, and of a class (its number and 1; 0: none is asked for) -/
noncomputable def zrcv (c : Nat) (as : List Nat) (m : zM) (k : Bool) : Bool := zif (Nat.beq c 0) k (zpop false (fun a _ => zif (Nat.beq (Nat.mod a 8) 3) (zif (Nat.ble 100000 (Nat.div a 8)) (zif (zand (Nat.beq c 14) (Nat.ble (Nat.succ (Nat.sub (Nat.div a 8) 100000)) zxTn)) k false) (zget m (Nat.div a 8) (fun x => Prod.rec (motive := fun _ => Bool) (fun tg _ => zif (zand (Nat.beq (Nat.succ tg) c) (Nat.ble (Nat.succ tg) 12)) k false) x))) false) as)
noncomputable def zcall (y2 kd : Nat) : zOp := fun nx _ k w cf y _ ls st q fs m => zget zKd y2 (fun g => zif (Nat.beq g kd) (zget zxMeta y2 (fun en => Prod.rec (motive := fun _ => Bool) (fun cf2 e2 => Prod.rec (motive := fun _ => Bool) (fun na e3 => Prod.rec (motive := fun _ => Bool) (fun ml e4 => Prod.rec (motive := fun _ => Bool) (fun ow yt => zargs na st [] (fun as r => Prod.rec (motive := fun _ => Bool) (fun d q2 => Prod.rec (motive := fun _ => Bool) (fun nc ns =>
  zif (zand (Nat.ble (zwords r) 8) (zand (Nat.ble 1 d) (zand (Nat.ble (Nat.add nc yt.2.1) y.2.1) (Nat.ble (Nat.add ns yt.2.2.1) y.2.2.1))))
    (zrcv (zif (Nat.beq kd 2) 0 (Nat.succ ow)) as m (zpad ml (zexp as) (fun l2 => zfr false (Nat.pred d) (fun d2 => zfr false (Nat.add nc yt.2.1) (fun nc2 => zfr false (Nat.add ns yt.2.2.1) (fun ns2 =>
      k w cf2 yt 0 l2 [] (d2, 0, 0) ((cf, y, nx, ls, r, d, nc2, ns2) :: fs) m)))))) false) q2) q)) e4) e3) e2) en)) false)
/-- Object's constructor, which is walked apart -/
noncomputable def zjdk : zOp := fun nx _ k w cf y _ ls st q fs m => zpop false (fun a r => zif (zand (Nat.beq (Nat.mod a 8) 3) (zand (Nat.ble (zwords r) 8) (Nat.ble 1 q.1))) (k w cf y nx ls r q fs m) false) st
/-- a call's link: 16 times its method and how: 0 virtual, 1 the same of a nest mate, 2 a constructor, 3 the same of a nest mate, 4 static, 5 the same of a nest mate; 15 the JDK's -/
noncomputable def zo_inv : zOp := fun nx ax => zif (Nat.beq (Nat.mod ax 16) 15) (zjdk nx ax) (zcall (Nat.div ax 16) (Nat.div (Nat.mod ax 16) 2) nx ax)
/-- back to the caller, or to the end -/
noncomputable def zback (bt : zW → List Nat → zM → Bool) (v : List Nat) (k : zK) (w : zW) (fs : List zFr) (m : zM) : Bool := List.rec (motive := fun _ => Bool) (bt w v m) (fun fr t _ => Prod.rec (motive := fun _ => Bool) (fun cf f1 => Prod.rec (motive := fun _ => Bool) (fun y f2 => Prod.rec (motive := fun _ => Bool) (fun pc f3 => Prod.rec (motive := fun _ => Bool) (fun ls f4 => Prod.rec (motive := fun _ => Bool) (fun st q => k w cf y pc ls (List.rec (motive := fun _ => List Nat) st (fun a _ _ => a :: st) v) q t m) f4) f3) f2) f1) fr) fs
/-- may a method of this kind answer so: 1 an int, 2 a boolean, 3 a long, 4 a byte, 5 a char -/
noncomputable def zans (g v : Nat) : Bool := zif (Nat.beq g 1) (Nat.ble (Nat.mod v 8) 2) (zif (Nat.beq g 2) (zif (Nat.beq v 0) true (Nat.beq v 8)) (zif (Nat.beq g 3) (Nat.beq (Nat.mod v 8) 4) (zand (zif (Nat.beq g 4) true (Nat.beq g 5)) (zand (Nat.beq (Nat.mod v 8) 0) (Nat.ble (Nat.div v 8) 127)))))
noncomputable def zo_ret (bt : zW → List Nat → zM → Bool) (lg : Bool) : zOp := fun _ _ k w _ y _ _ st _ fs m => zpop false (fun v r => zpop (zif (zand (zif lg (Nat.beq y.2.2.2.1 3) (zif (Nat.beq y.2.2.2.1 3) false true)) (zans y.2.2.2.1 v)) (zback bt [v] k w fs m) false) (fun _ _ => false) r) st
noncomputable def zo_retv (bt : zW → List Nat → zM → Bool) : zOp := fun _ _ k w _ y _ _ st _ fs m => zpop (zif (Nat.beq y.2.2.2.1 0) (zback bt [] k w fs m) false) (fun _ _ => false) st
/-- a switch: bounds 2^31 higher; where it goes for what lies outside, inside -/
noncomputable def zo_tab (d lo hi : Int) (offs : Array Int) : zOp := fun _ _ k w cf y pc ls st q fs m => zpop false (fun v r => zif (zand (decide (0 ≤ lo)) (decide (0 ≤ hi))) (zfr false (lo + 2147483648).toNat (fun l => zfr false (hi + 2147483648).toNat (fun h => zbd w v (fun a b =>
  zif (zif (Nat.ble (Nat.succ b) l) true (Nat.ble (Nat.succ h) a)) (zfr false ((pc : Int) + d).toNat (fun t => zif (decide ((t : Int) = (pc : Int) + d)) (k w cf y t ls r q fs m) false))
  (zif (Nat.ble (Nat.succ a) l) (zand (zcut w v a (Nat.pred l) (fun w2 => k w2 cf y pc ls st q fs m)) (zcut w v l b (fun w2 => k w2 cf y pc ls st q fs m)))
  (zif (Nat.ble (Nat.succ h) b) (zand (zcut w v (Nat.succ h) b (fun w2 => k w2 cf y pc ls st q fs m)) (zcut w v a h (fun w2 => k w2 cf y pc ls st q fs m)))
  (zindex w v (fun w2 => k w2 cf y pc ls st q fs m) (fun u => k w cf y pc ls (Nat.mul 8 u :: r) q fs m) (fun u => zfr false (zb u) (fun c => znth (fun o => zfr false ((pc : Int) + o).toNat (fun t => zif (decide ((t : Int) = (pc : Int) + o)) (k w cf y t ls r q fs m) false)) offs.toList (Nat.sub c l)))))))))) false) st
noncomputable def zo_look (d : Int) (ps : Array (Int × Int)) : zOp := fun _ _ k w cf y pc ls st q fs m => zpop false (fun v r => zindex w v (fun w2 => k w2 cf y pc ls st q fs m) (fun u => k w cf y pc ls (Nat.mul 8 u :: r) q fs m) (fun u => zif ((ps.toList.zip (ps.toList.drop 1)).all (fun (a, next) => a.1 < next.1))
  (zfr false ((pc : Int) + Op.lookupswitch.offset ps.toList d (Int32.ofNat u).toInt).toNat (fun t => zif (decide ((t : Int) = (pc : Int) + Op.lookupswitch.offset ps.toList d (Int32.ofNat u).toInt)) (k w cf y t ls r q fs m) false)) false)) st
/-- a constant: an int (2^31 higher), or a text (its number and 2^32) -/
noncomputable def zo_ldc : zOp := fun nx ax k w cf y _ ls st q fs m => zif (Nat.ble ax 4294967295) (zfr false (Nat.mul 8 (zb ax)) (fun v => k w cf y nx ls (v :: st) q fs m)) (zfr false (Nat.add (Nat.mul 8 (Nat.add (Nat.sub ax 4294967296) 100000)) 3) (fun v => k w cf y nx ls (v :: st) q fs m))
noncomputable def zo_ldc2 : zOp := fun nx ax k w cf y _ ls st q fs m => zfr false (Nat.add (Nat.mul 8 ax) 4) (fun v => k w cf y nx ls (v :: st) q fs m)
/-- a static of the JDK's: 1 the number 1, 2 a reference or null -/
noncomputable def zo_gets : zOp := fun nx ax k w cf y _ ls st q fs m => zif (Nat.beq ax 1) (k w cf y nx ls (8 :: st) q fs m) (zif (Nat.beq ax 2) (k w cf y nx ls (7 :: st) q fs m) false)
/-- each instruction's part, over closed texts -/
noncomputable def zop (bt : zW → List Nat → zM → Bool) (L : Nat) (i : Instr) : zOp := Instr.rec (motive := fun _ => zOp)
  zo_no
  zo_no
  zo_no
  (fun i => zo_load 2 i)
  (fun i => zo_load 2 i.val)
  (fun _ => zo_no)
  zo_no
  (zo_alen L)
  (fun i => zo_store 2 i)
  (fun i => zo_store 2 i.val)
  zo_no
  (zo_ald L 22 23)
  (zo_ast 22 23)
  (fun n => zo_push (Nat.mul 8 (Int8.ofInt n).toInt32.toBitVec.toNat))
  zo_no
  zo_no
  (fun _ => zo_no)
  zo_no
  zo_no
  zo_no
  zo_no
  zo_no
  zo_no
  (fun _ => zo_no)
  (fun _ => zo_no)
  zo_no
  (fun _ => zo_no)
  (fun _ => zo_no)
  zo_no
  zo_no
  zo_no
  zo_no
  (fun _ => zo_no)
  (fun _ => zo_no)
  zo_no
  (zo_dup)
  zo_no
  zo_no
  (zo_dup2)
  zo_no
  zo_no
  zo_no
  zo_no
  zo_no
  zo_no
  zo_no
  zo_no
  (fun _ => zo_no)
  (fun _ => zo_no)
  zo_no
  (fun _ => zo_no)
  (fun _ => zo_no)
  zo_no
  zo_no
  zo_no
  zo_no
  (fun _ => zo_no)
  (fun _ => zo_no)
  zo_no
  (fun _ => zo_getf)
  (fun _ => zo_gets)
  (fun _ => zo_goto)
  (fun _ => zo_no)
  (zo_un (fun u => Nat.mul 8 (Int32.ofNat u).toInt8.toInt32.toBitVec.toNat) 1)
  (zo_un (fun u => Nat.mul 8 ((Int32.ofNat u).toUInt32 % 65536).toInt32.toBitVec.toNat) 0)
  zo_no
  zo_no
  (zo_un (fun u => Nat.add (Nat.mul 8 (Int32.ofNat u).toInt64.toBitVec.toNat) 4) 0)
  zo_no
  (zo_bin zf_add 1)
  (zo_ald L 20 20)
  (zo_bin zf_and 4)
  (zo_ast 20 20)
  (fun n => zo_push (Nat.mul 8 (Int32.ofInt n).toBitVec.toNat))
  (zo_div (zf_32 (fun x y => x / y)) 0)
  (fun _ _ => zo_no)
  (fun c _ => Jvm.ClassFile.Cond.rec (motive := fun _ => zOp) (zo_cmp true false false) (zo_cmp true false true) (zo_cmp false false false) (zo_cmp false false true) (zo_cmp false true false) (zo_cmp false true true) c)
  (fun c _ => Jvm.ClassFile.Cond.rec (motive := fun _ => zOp) (zo_cmp0 true false false) (zo_cmp0 true false true) (zo_cmp0 false false false) (zo_cmp0 false false true) (zo_cmp0 false true false) (zo_cmp0 false true true) c)
  (fun _ => zo_no)
  (fun _ => zo_no)
  (fun i n => zo_iinc i (Int32.ofInt n).toBitVec.toNat)
  (fun i => zo_load 0 i)
  (fun i => zo_load 0 i.val)
  (zo_bin zf_mul 3)
  (zo_un (fun u => Nat.mul 8 (-(Int32.ofNat u)).toBitVec.toNat) 0)
  (fun _ => zo_no)
  (fun _ => zo_no)
  (fun _ _ => zo_no)
  (fun _ => zo_inv)
  (fun _ => zo_inv)
  (fun _ => zo_inv)
  (zo_bin zf_or 3)
  (zo_div (zf_32 (fun x y => x - x / y * y)) 5)
  (zo_ret bt false)
  (zo_bin (zf_32 (fun x y => x <<< (y &&& 31))) 3)
  (zo_bin (zf_32 (fun x y => x >>> (y &&& 31))) 3)
  (fun i => zo_store 0 i)
  (fun i => zo_store 0 i.val)
  (zo_bin zf_sub 2)
  zo_no
  (zo_bin zf_xor 6)
  (fun _ => zo_no)
  (fun _ => zo_no)
  zo_no
  zo_no
  (zo_lun (fun u => Nat.mul 8 (Int64.ofNat u).toInt32.toBitVec.toNat))
  (zo_lbin false (zf_64 (fun x y => x + y)))
  (zo_ald L 21 21)
  (zo_lbin false (zf_64 (fun x y => x &&& y)))
  (zo_ast 21 21)
  (zo_lbin false zf_cmp)
  (fun n => zo_push (Nat.add (Nat.mul 8 n.val) 4))
  (fun _ => zo_ldc)
  (fun _ => zo_ldc)
  (fun _ => zo_ldc2)
  (zo_lbin true (zf_64 (fun x y => x / y)))
  (fun i => zo_load 1 i)
  (fun i => zo_load 1 i.val)
  (zo_lbin false (zf_64 (fun x y => x * y)))
  zo_no
  (zo_look)
  (zo_lbin false (zf_64 (fun x y => x ||| y)))
  (zo_lbin true (zf_64 (fun x y => x - x / y * y)))
  (zo_ret bt true)
  (zo_lsh (zf_64s (fun x y => x <<< (y.toInt64 &&& 63))))
  (zo_lsh (zf_64s (fun x y => x >>> (y.toInt64 &&& 63))))
  (fun i => zo_store 1 i)
  (fun i => zo_store 1 i.val)
  (zo_lbin false (zf_64 (fun x y => x - y)))
  zo_no
  zo_no
  zo_no
  zo_no
  (fun _ _ => zo_no)
  (fun _ => zo_new)
  (fun a => ArrayType.rec (motive := fun _ => zOp) (zo_newa 23) zo_no zo_no zo_no (zo_newa 22) zo_no (zo_newa 20) (zo_newa 21) a)
  zo_no
  (zo_pop)
  zo_no
  (fun _ => zo_putf)
  (fun _ => zo_no)
  (fun _ => zo_no)
  (zo_retv bt)
  zo_no
  zo_no
  (fun n => zo_push (Nat.mul 8 (Int16.ofInt n).toInt32.toBitVec.toNat))
  zo_no
  (zo_tab) i
/-- n steps at most; 'stop' says where it may end -/
noncomputable def zok (bt : zW → List Nat → zM → Bool) (L : Nat) (stop : zK) (n : Nat) : zK := Nat.rec (motive := fun _ => zK) stop (fun _ k w cf y pc ls st q fs m => zif (stop w cf y pc ls st q fs m) true (Prod.rec (motive := fun _ => Bool) (fun i r => Prod.rec (motive := fun _ => Bool) (fun nx ax => zop bt L i nx ax k w cf y pc ls st q fs m) r) (cf pc))) n
end
section
/-! WHAT VALUES MEAN: ρ the symbols' ints, ad the addresses of places -/
def zB (x : Int32) : Nat := (x.toInt + 2147483648).toNat
theorem zI (x : Int32) : x.toInt = if x.toBitVec.toNat < 2147483648 then (x.toBitVec.toNat : Int) else (x.toBitVec.toNat : Int) - 4294967296 := by
  have h := BitVec.toInt_eq_toNat_cond x.toBitVec
  have e : x.toInt = x.toBitVec.toInt := rfl
  rw [e, h]
  have := x.toBitVec.isLt
  split <;> split <;> omega
theorem zB_eq (x : Int32) : zB x = (x.toBitVec.toNat + 2147483648) % 4294967296 := by
  unfold zB
  rw [zI]
  have := x.toBitVec.isLt
  split <;> omega
theorem zB_lt (x : Int32) : zB x < 4294967296 := by rw [zB_eq]; omega
theorem zB_inj {x y : Int32} (h : zB x = zB y) : x = y := by
  rw [zB_eq, zB_eq] at h
  have h1 := x.toBitVec.isLt
  have h2 := y.toBitVec.isLt
  apply Int32.toBitVec_inj.mp
  apply BitVec.eq_of_toNat_eq
  omega
theorem zB_slt (x y : Int32) : x < y ↔ zB x < zB y := by
  rw [Int32.lt_iff_toInt_lt]
  unfold zB
  have h1 := Int32.le_toInt x
  have h2 := Int32.le_toInt y
  omega
theorem zB_sle (x y : Int32) : x ≤ y ↔ zB x ≤ zB y := by
  rw [Int32.le_iff_toInt_le]
  unfold zB
  have h1 := Int32.le_toInt x
  have h2 := Int32.le_toInt y
  omega
theorem zN_of (u : Nat) : (Int32.ofNat u).toBitVec.toNat = u % 4294967296 := by simp
theorem zB_of (u : Nat) : zB (Int32.ofNat u) = zb u := by
  rw [zB_eq, zN_of]
  show _ = (u + 2147483648) % 4294967296
  omega
theorem zb_B (x : Int32) : Int32.ofNat (zb (zB x)) = x := by
  apply zB_inj
  rw [zB_of, zB_eq]
  have h1 := x.toBitVec.isLt
  show ((((x.toBitVec.toNat + 2147483648) % 4294967296 + 2147483648) % 4294967296) + 2147483648) % 4294967296 = _
  omega
theorem zN_inj {x y : Int32} (h : x.toBitVec.toNat = y.toBitVec.toNat) : x = y := Int32.toBitVec_inj.mp (BitVec.eq_of_toNat_eq h)
theorem zN_self (x : Int32) : Int32.ofNat x.toBitVec.toNat = x := zN_inj (by rw [zN_of]; exact Nat.mod_eq_of_lt x.toBitVec.isLt)
theorem zN_add (x y : Int32) : (x + y).toBitVec.toNat = (x.toBitVec.toNat + y.toBitVec.toNat) % 4294967296 := by
  rw [Int32.toBitVec_add, BitVec.toNat_add]
theorem zB_add (x : Int32) (c : Nat) (h1 : 2147483648 ≤ zB x + zb c) (h2 : zB x + zb c ≤ 6442450943) : zB (x + Int32.ofNat c) = zB x + zb c - 2147483648 := by
  rw [zB_eq, zN_add, zN_of]
  rw [zB_eq] at h1 h2 ⊢
  have h3 := x.toBitVec.isLt
  have h4 : zb c = (c + 2147483648) % 4294967296 := rfl
  rw [h4] at h1 h2 ⊢
  omega
def zv (ρ : Nat → Int32) (ad : Nat → Nat) (v : Nat) (w : Value) : Prop :=
  (v % 8 = 0 ∧ w = .int (Int32.ofNat (v / 8))) ∨ (v % 8 = 1 ∧ w = .int (ρ (v / 34359738368) + Int32.ofNat (v / 8 % 4294967296))) ∨
  (v % 8 = 2 ∧ ∃ x : Int32, w = .int x ∧ v / 34359738368 ≤ zB x ∧ zB x ≤ v / 8 % 4294967296) ∨ (v % 8 = 3 ∧ w = .ref (ad (v / 8))) ∨
  (v % 8 = 4 ∧ w = .long (Int64.ofNat (v / 8))) ∨ (v = 5 ∧ w = .null) ∨ (v = 7 ∧ (w = .null ∨ ∃ a, w = .ref a))
def zEnv (ρ : Nat → Int32) (e : List (Nat × Nat)) : Prop := ∀ (k : Nat) (p : Nat × Nat), e[k]? = some p → p.1 ≤ zB (ρ k) ∧ zB (ρ k) ≤ p.2
theorem zn_m (a b : Nat) : Nat.mod a b = a % b := rfl
theorem zn_d (a b : Nat) : Nat.div a b = a / b := rfl
theorem zn_a (a b : Nat) : Nat.add a b = a + b := rfl
theorem zn_s (a b : Nat) : Nat.sub a b = a - b := rfl
theorem zn_u (a b : Nat) : Nat.mul a b = a * b := rfl
theorem zn_c (a : Nat) : Nat.succ a = a + 1 := rfl
theorem zn_p (a : Nat) : Nat.pred a = a - 1 := rfl
theorem zn_x (a b : Nat) : Nat.max a b = max a b := rfl
theorem zn_i (a b : Nat) : Nat.min a b = min a b := rfl
theorem zb_def (u : Nat) : zb u = (u + 2147483648) % 4294967296 := rfl
theorem zsh_def {β : Type} (j : Nat → Nat → β) (k : β) (c lo hi : Nat) : zsh j k c (lo, hi) = zif (Nat.ble 2147483648 (Nat.add lo (zb c))) (zif (Nat.ble (Nat.add hi (zb c)) 6442450943) (j (Nat.sub (Nat.add lo (zb c)) 2147483648) (Nat.sub (Nat.add hi (zb c)) 2147483648)) k) k := rfl
theorem zbeqT {a b : Nat} (h : Nat.beq a b = true) : a = b := Nat.eq_of_beq_eq_true h
theorem zbeqF {a b : Nat} (h : Nat.beq a b = false) : ¬ a = b := Nat.ne_of_beq_eq_false h
theorem zbleT {a b : Nat} (h : Nat.ble a b = true) : a ≤ b := Nat.le_of_ble_eq_true h
theorem zbleF {a b : Nat} (h : Nat.ble a b = false) : ¬ a ≤ b := fun q => by rw [Nat.ble_eq_true_of_le q] at h; cases h
section ZV
variable {ρ : Nat → Int32} {ad : Nat → Nat}
theorem zv_int {v : Nat} {w : Value} (h : zv ρ ad v w) (hk : v % 8 ≤ 2) : ∃ x : Int32, w = .int x := by
  rcases h with ⟨h, e⟩ | ⟨h, e⟩ | ⟨h, x, e, -⟩ | ⟨h, e⟩ | ⟨h, e⟩ | ⟨h, e⟩ | ⟨h, e⟩
  · exact ⟨_, e⟩
  · exact ⟨_, e⟩
  · exact ⟨x, e⟩
  all_goals omega
theorem zv_0 {v : Nat} {w : Value} (h : zv ρ ad v w) (hk : v % 8 = 0) : w = .int (Int32.ofNat (v / 8)) := by
  rcases h with ⟨h, e⟩ | ⟨h, e⟩ | ⟨h, x, e, -⟩ | ⟨h, e⟩ | ⟨h, e⟩ | ⟨h, e⟩ | ⟨h, e⟩
  · exact e
  all_goals omega
theorem zv_1 {v : Nat} {w : Value} (h : zv ρ ad v w) (hk : v % 8 = 1) : w = .int (ρ (v / 34359738368) + Int32.ofNat (v / 8 % 4294967296)) := by
  rcases h with ⟨h, e⟩ | ⟨h, e⟩ | ⟨h, x, e, -⟩ | ⟨h, e⟩ | ⟨h, e⟩ | ⟨h, e⟩ | ⟨h, e⟩
  · omega
  · exact e
  all_goals omega
theorem zv_2 {v : Nat} {w : Value} (h : zv ρ ad v w) (hk : v % 8 = 2) : ∃ x : Int32, w = .int x ∧ v / 34359738368 ≤ zB x ∧ zB x ≤ v / 8 % 4294967296 := by
  rcases h with ⟨h, e⟩ | ⟨h, e⟩ | ⟨h, x, e, q⟩ | ⟨h, e⟩ | ⟨h, e⟩ | ⟨h, e⟩ | ⟨h, e⟩
  · omega
  · omega
  · exact ⟨x, e, q⟩
  all_goals omega
theorem zv_3 {v : Nat} {w : Value} (h : zv ρ ad v w) (hk : v % 8 = 3) : w = .ref (ad (v / 8)) := by
  rcases h with ⟨h, e⟩ | ⟨h, e⟩ | ⟨h, x, e, q⟩ | ⟨h, e⟩ | ⟨h, e⟩ | ⟨h, e⟩ | ⟨h, e⟩
  · omega
  · omega
  · omega
  · exact e
  all_goals omega
theorem zv_4 {v : Nat} {w : Value} (h : zv ρ ad v w) (hk : v % 8 = 4) : w = .long (Int64.ofNat (v / 8)) := by
  rcases h with ⟨h, e⟩ | ⟨h, e⟩ | ⟨h, x, e, q⟩ | ⟨h, e⟩ | ⟨h, e⟩ | ⟨h, e⟩ | ⟨h, e⟩
  · omega
  · omega
  · omega
  · omega
  · exact e
  all_goals omega
/-- an int's number -/
theorem zv_mk {u : Nat} {x : Int32} (h : Int32.ofNat u = x) : zv ρ ad (8 * u) (.int x) := Or.inl ⟨by omega, by rw [← h, show 8 * u / 8 = u by omega]⟩
theorem zv_mkx (x : Int32) : zv ρ ad (8 * x.toBitVec.toNat) (.int x) := zv_mk (zN_self x)
theorem zv_mkl {u : Nat} {x : Int64} (h : Int64.ofNat u = x) : zv ρ ad (8 * u + 4) (.long x) := Or.inr (Or.inr (Or.inr (Or.inr (Or.inl ⟨by omega, by rw [← h, show (8 * u + 4) / 8 = u by omega]⟩))))
theorem zL_self (x : Int64) : Int64.ofNat x.toBitVec.toNat = x := by
  apply Int64.toBitVec_inj.mp
  apply BitVec.eq_of_toNat_eq
  simp
theorem zv_mklx (x : Int64) : zv ρ ad (8 * x.toBitVec.toNat + 4) (.long x) := zv_mkl (zL_self x)
theorem zv_ref (p : Nat) : zv ρ ad (8 * p + 3) (.ref (ad p)) := Or.inr (Or.inr (Or.inr (Or.inl ⟨by omega, by rw [show (8 * p + 3) / 8 = p by omega]⟩)))
theorem zv_any (x : Int32) : zv ρ ad 34359738362 (.int x) := Or.inr (Or.inr (Or.inl ⟨by decide, x, rfl, Nat.zero_le _, by have := zB_lt x; show _ ≤ 4294967295; omega⟩))
theorem zv_bd {lo hi : Nat} {x : Int32} (h1 : lo ≤ zB x) (h2 : zB x ≤ hi) (h3 : hi < 4294967296) : zv ρ ad (8 * (lo * 4294967296 + hi) + 2) (.int x) := Or.inr (Or.inr (Or.inl ⟨by omega, x, rfl, by omega, by omega⟩))
theorem zv_cat {v : Nat} {w : Value} (h : zv ρ ad v w) : w.category = if v % 8 = 4 then 2 else 1 := by
  rcases h with ⟨h, e⟩ | ⟨h, e⟩ | ⟨h, x, e, q⟩ | ⟨h, e⟩ | ⟨h, e⟩ | ⟨h, e⟩ | ⟨h, e⟩
  · rw [e, if_neg (by omega)]; rfl
  · rw [e, if_neg (by omega)]; rfl
  · rw [e, if_neg (by omega)]; rfl
  · rw [e, if_neg (by omega)]; rfl
  · rw [e, if_pos h]; rfl
  · rw [e, if_neg (by omega)]; rfl
  · rw [if_neg (by omega)]
    rcases e with e | ⟨a, e⟩ <;> rw [e] <;> rfl
theorem zsh_iff {j : Nat → Nat → Bool} {k : Bool} {c : Nat} {p : Nat × Nat} (h : zsh j k c p = true) : (2147483648 ≤ p.1 + zb c ∧ p.2 + zb c ≤ 6442450943 ∧ j (p.1 + zb c - 2147483648) (p.2 + zb c - 2147483648) = true) ∨ k = true := by
  obtain ⟨lo, hi⟩ := p
  rw [zsh_def] at h
  simp only [zn_a, zn_s] at h
  rcases zif_iff h with ⟨h1, h2⟩ | ⟨-, h2⟩
  · rcases zif_iff h2 with ⟨h3, h4⟩ | ⟨-, h4⟩
    · exact Or.inl ⟨zbleT h1, zbleT h3, h4⟩
    · exact Or.inr h4
  · exact Or.inr h2
theorem zbd_iff {w : zW} {v : Nat} {k : Nat → Nat → Bool} {x' : Value} (h : zbd w v k = true) (hE : zEnv ρ w.2) (hv : zv ρ ad v x') : ∃ (x : Int32) (lo hi : Nat), x' = .int x ∧ lo ≤ zB x ∧ zB x ≤ hi ∧ k lo hi = true := by
  unfold zbd at h
  simp only [zfr_eq, zn_m, zn_d, zn_a, zn_s, zn_u, zn_c, zn_p, zn_x, zn_i] at h
  rcases zif_iff h with ⟨h1, h2⟩ | ⟨h1, h2⟩
  · have e := zv_0 hv (zbeqT h1)
    exact ⟨Int32.ofNat (v / 8), zb (v / 8), zb (v / 8), e, Nat.le_of_eq (zB_of _).symm, Nat.le_of_eq (zB_of _), h2⟩
  rcases zif_iff h2 with ⟨h1, h2⟩ | ⟨h1, h2⟩
  · have e := zv_1 hv (zbeqT h1)
    obtain ⟨p, hp, h3⟩ := znth_iff h2
    obtain ⟨b1, b2⟩ := hE _ _ hp
    rcases zsh_iff h3 with ⟨g1, g2, g3⟩ | g
    · have e2 := zB_add (ρ (v / 34359738368)) (v / 8 % 4294967296) (Nat.le_trans g1 (Nat.add_le_add_right b1 _)) (Nat.le_trans (Nat.add_le_add_right b2 _) g2)
      refine ⟨_, _, _, e, ?_, ?_, g3⟩
      · rw [e2]
        have : p.1 ≤ zB (ρ (v / 34359738368)) := b1
        exact Nat.sub_le_sub_right (Nat.add_le_add_right b1 _) _
      · rw [e2]
        exact Nat.sub_le_sub_right (Nat.add_le_add_right b2 _) _
    · exact ⟨_, _, _, e, Nat.zero_le _, by have := zB_lt (ρ (v / 34359738368) + Int32.ofNat (v / 8 % 4294967296)); omega, g⟩
  rcases zif_iff h2 with ⟨h1, h2⟩ | ⟨h1, h2⟩
  · obtain ⟨x, e, g1, g2⟩ := zv_2 hv (zbeqT h1)
    exact ⟨x, _, _, e, g1, g2, h2⟩
  · cases h2
theorem zcut_iff {w : zW} {v lo hi : Nat} {k : zW → Bool} {x : Int32} (h : zcut w v lo hi k = true) (hE : zEnv ρ w.2) (hv : zv ρ ad v (.int x)) (h1 : lo ≤ zB x) (h2 : zB x ≤ hi) : ∃ w2 : zW, w2.1 = w.1 ∧ zEnv ρ w2.2 ∧ k w2 = true := by
  unfold zcut at h
  simp only [zfr_eq, zn_m, zn_d, zn_a, zn_s, zn_u, zn_c, zn_p, zn_x, zn_i] at h
  rcases zif_iff h with ⟨g1, g2⟩ | ⟨g1, g2⟩
  · have e := zv_1 hv (zbeqT g1)
    have e := Value.int.inj e
    obtain ⟨p, hp, g3⟩ := znth_iff g2
    obtain ⟨b1, b2⟩ := hE _ _ hp
    rcases zsh_iff g3 with ⟨c1, c2, c3⟩ | c
    · have e2 := zB_add (ρ (v / 34359738368)) (v / 8 % 4294967296) (Nat.le_trans c1 (Nat.add_le_add_right b1 _)) (Nat.le_trans (Nat.add_le_add_right b2 _) c2)
      rw [← e] at e2
      obtain ⟨o, ho, c4⟩ := zupd_iff c3
      refine ⟨(w.1, w.2.set (v / 34359738368) (max p.1 (lo + 2147483648 - zb (v / 8 % 4294967296)), min p.2 (hi + 2147483648 - zb (v / 8 % 4294967296)))), rfl, ?_, c4⟩
      intro j q hq
      by_cases hj : j = v / 34359738368
      · subst hj
        have hl : v / 34359738368 < w.2.length := (List.getElem?_eq_some_iff.mp hp).1
        rw [List.getElem?_set_self hl] at hq
        cases hq
        dsimp only
        constructor
        · omega
        · omega
      · rw [List.getElem?_set_ne (fun z => hj z.symm)] at hq
        exact hE j q hq
    · exact ⟨w, rfl, hE, c⟩
  · exact ⟨w, rfl, hE, g2⟩
theorem zlt_iff {w : zW} {a b : Nat} {k : Bool → zW → Bool} {x' y' : Value} (h : zlt w a b k = true) (hE : zEnv ρ w.2) (ha : zv ρ ad a x') (hb : zv ρ ad b y') : ∃ (x y : Int32), x' = .int x ∧ y' = .int y ∧ ((x < y ∧ ∃ w2 : zW, w2.1 = w.1 ∧ zEnv ρ w2.2 ∧ k true w2 = true) ∨ (¬ x < y ∧ ∃ w2 : zW, w2.1 = w.1 ∧ zEnv ρ w2.2 ∧ k false w2 = true)) := by
  unfold zlt at h
  simp only [zfr_eq, zn_m, zn_d, zn_a, zn_s, zn_u, zn_c, zn_p, zn_x, zn_i] at h
  obtain ⟨x, la, ha', rfl, a1, a2, h⟩ := zbd_iff h hE ha
  obtain ⟨y, lb, hb', rfl, b1, b2, h⟩ := zbd_iff h hE hb
  refine ⟨x, y, rfl, rfl, ?_⟩
  rw [zB_slt]
  rcases zif_iff h with ⟨h1, h2⟩ | ⟨h1, h2⟩
  · have := zbleT h1
    exact Or.inr ⟨by omega, w, rfl, hE, h2⟩
  rcases zif_iff h2 with ⟨h3, h4⟩ | ⟨h3, h4⟩
  · have := zbleT h3
    exact Or.inl ⟨by omega, w, rfl, hE, h4⟩
  obtain ⟨g1, g2⟩ := zand_iff h4
  by_cases hc : zB x < zB y
  · refine Or.inl ⟨hc, ?_⟩
    obtain ⟨w1, e1, E1, g3⟩ := zcut_iff g2 hE ha a1 (by omega)
    obtain ⟨w2, e2, E2, g4⟩ := zcut_iff g3 E1 hb (by omega) b2
    exact ⟨w2, e2.trans e1, E2, g4⟩
  · refine Or.inr ⟨hc, ?_⟩
    obtain ⟨w1, e1, E1, g3⟩ := zcut_iff g1 hE ha (by omega) a2
    obtain ⟨w2, e2, E2, g4⟩ := zcut_iff g3 E1 hb b1 (by omega)
    exact ⟨w2, e2.trans e1, E2, g4⟩
theorem zne_iff {w : zW} {a la ha c : Nat} {k : Bool → zW → Bool} {x : Int32} (h : zne w a la ha c k = true) (hE : zEnv ρ w.2) (hv : zv ρ ad a (.int x)) (h1 : la ≤ zB x) (h2 : zB x ≤ ha) (h3 : ¬ zB x = c) : ∃ w2 : zW, w2.1 = w.1 ∧ zEnv ρ w2.2 ∧ k false w2 = true := by
  unfold zne at h
  simp only [zfr_eq, zn_m, zn_d, zn_a, zn_s, zn_u, zn_c, zn_p, zn_x, zn_i] at h
  rcases zif_iff h with ⟨g1, g2⟩ | ⟨g1, g2⟩
  · have := zbeqT g1
    exact zcut_iff g2 hE hv (by omega) h2
  rcases zif_iff g2 with ⟨g3, g4⟩ | ⟨g3, g4⟩
  · have := zbeqT g3
    exact zcut_iff g4 hE hv h1 (by omega)
  obtain ⟨g5, g6⟩ := zand_iff g4
  by_cases hc : zB x < c
  · exact zcut_iff g5 hE hv h1 (by omega)
  · exact zcut_iff g6 hE hv (by omega) h2
theorem zeq_iff {w : zW} {a b : Nat} {k : Bool → zW → Bool} {x' y' : Value} (h : zeq w a b k = true) (hE : zEnv ρ w.2) (ha : zv ρ ad a x') (hb : zv ρ ad b y') : ∃ (x y : Int32), x' = .int x ∧ y' = .int y ∧ ((x = y ∧ ∃ w2 : zW, w2.1 = w.1 ∧ zEnv ρ w2.2 ∧ k true w2 = true) ∨ (¬ x = y ∧ ∃ w2 : zW, w2.1 = w.1 ∧ zEnv ρ w2.2 ∧ k false w2 = true)) := by
  unfold zeq at h
  simp only [zfr_eq, zn_m, zn_d, zn_a, zn_s, zn_u, zn_c, zn_p, zn_x, zn_i] at h
  obtain ⟨x, la, ha', rfl, a1, a2, h⟩ := zbd_iff h hE ha
  obtain ⟨y, lb, hb', rfl, b1, b2, h⟩ := zbd_iff h hE hb
  refine ⟨x, y, rfl, rfl, ?_⟩
  have key : x = y ↔ zB x = zB y := ⟨fun e => by rw [e], zB_inj⟩
  rw [key]
  rcases zif_iff h with ⟨h1, h2⟩ | ⟨h1, h2⟩
  · have := zbleT h1
    exact Or.inr ⟨by omega, w, rfl, hE, h2⟩
  rcases zif_iff h2 with ⟨h3, h4⟩ | ⟨h3, h4⟩
  · have := zbleT h3
    exact Or.inr ⟨by omega, w, rfl, hE, h4⟩
  rcases zif_iff h4 with ⟨h5, h6⟩ | ⟨h5, h6⟩
  · have e1 := zbeqT h5
    rcases zif_iff h6 with ⟨h7, h8⟩ | ⟨h7, h8⟩
    · have e2 := zbeqT h7
      have := zbleF h1
      have := zbleF h3
      exact Or.inl ⟨by omega, w, rfl, hE, h8⟩
    obtain ⟨g1, g2⟩ := zand_iff h8
    by_cases hc : zB x = zB y
    · exact Or.inl ⟨hc, zcut_iff g1 hE ha (by omega) (by omega)⟩
    · exact Or.inr ⟨hc, zne_iff g2 hE ha a1 a2 (by omega)⟩
  rcases zif_iff h6 with ⟨h7, h8⟩ | ⟨h7, h8⟩
  · have e2 := zbeqT h7
    obtain ⟨g1, g2⟩ := zand_iff h8
    by_cases hc : zB x = zB y
    · exact Or.inl ⟨hc, zcut_iff g1 hE hb (by omega) (by omega)⟩
    · exact Or.inr ⟨hc, zne_iff g2 hE hb b1 b2 (by omega)⟩
  obtain ⟨g1, g2⟩ := zand_iff h8
  by_cases hc : zB x = zB y
  · exact Or.inl ⟨hc, w, rfl, hE, g1⟩
  · exact Or.inr ⟨hc, w, rfl, hE, g2⟩
theorem zkn_iff {w : zW} {v : Nat} {j : Bool} {k : Nat → Bool} {x' : Value} (h : zkn w v j k = true) (hE : zEnv ρ w.2) (hv : zv ρ ad v x') : (∃ u : Nat, x' = .int (Int32.ofNat u) ∧ k u = true) ∨ j = true := by
  unfold zkn at h
  simp only [zfr_eq, zn_m, zn_d, zn_a, zn_s, zn_u, zn_c, zn_p, zn_x, zn_i] at h
  rcases zif_iff h with ⟨h1, h2⟩ | ⟨h1, h2⟩
  · exact Or.inl ⟨_, zv_0 hv (zbeqT h1), h2⟩
  rcases zif_iff h2 with ⟨h3, h4⟩ | ⟨h3, h4⟩
  · obtain ⟨x, lo, hi, e, g1, g2, h5⟩ := zbd_iff h4 hE hv
    rcases zif_iff h5 with ⟨h6, h7⟩ | ⟨h6, h7⟩
    · have := zbeqT h6
      refine Or.inl ⟨zb lo, ?_, h7⟩
      rw [e, show lo = zB x by omega, zb_B]
    · exact Or.inr h7
  · exact Or.inr h4
theorem zhalf_iff {w : zW} {v n : Nat} {j : Bool} {k : zW → Bool} {x' : Value} (h : zhalf w v n j k = true) (hE : zEnv ρ w.2) (hv : zv ρ ad v x') : (∃ w2 : zW, w2.1 = w.1 ∧ zEnv ρ w2.2 ∧ k w2 = true) ∨ j = true := by
  unfold zhalf at h
  simp only [zfr_eq, zn_m, zn_d, zn_a, zn_s, zn_u, zn_c, zn_p, zn_x, zn_i] at h
  rcases zif_iff h with ⟨h1, h2⟩ | ⟨h1, h2⟩
  · obtain ⟨x, lo, hi, rfl, g1, g2, h5⟩ := zbd_iff h2 hE hv
    rcases zif_iff h5 with ⟨-, h7⟩ | ⟨-, h7⟩
    · rcases zif_iff h7 with ⟨-, h8⟩ | ⟨-, h8⟩
      · obtain ⟨c1, c2⟩ := zand_iff (a := zcut w v lo ((lo + hi) / 2) k) h8
        by_cases hc : zB x ≤ (lo + hi) / 2
        · exact Or.inl (zcut_iff c1 hE hv g1 hc)
        · exact Or.inl (zcut_iff c2 hE hv (by omega) g2)
      · exact Or.inr h8
    · exact Or.inr h7
  · exact Or.inr h2
theorem zeach_iff {k : Nat → Bool} : ∀ {n b : Nat}, zeach k n b = true → ∀ c, b ≤ c → c < b + n → k (zb c) = true := by
  intro n
  induction n with
  | zero => intro b h c h1 h2; omega
  | succ n ih =>
    intro b h c h1 h2
    obtain ⟨g1, g2⟩ := zand_iff (a := k (zb b)) h
    by_cases e : c = b
    · rw [e]; exact g1
    · exact ih (b := b + 1) g2 c (by omega) (by omega)
end ZV
end
section
/-! THE MACHINE's SIDE: what states of the executor mean. X: the symbols' ints, the addresses of what lay there before (the script at 99999, texts from 100000 on, their bytes from 200000 on), the classes, their slots, where new cells begin, the heap before, the script's length -/
abbrev zCx : Type := (Nat → Int32) × (Nat → Nat) × (Nat → ClassId) × (Nat → Nat → Nat) × Nat × Heap × Nat
abbrev zρ (X : zCx) : Nat → Int32 := X.1
abbrev zhi (X : zCx) : Nat → Nat := X.2.1
abbrev zdC (X : zCx) : Nat → ClassId := X.2.2.1
abbrev zdI (X : zCx) : Nat → Nat → Nat := X.2.2.2.1
abbrev zbs (X : zCx) : Nat := X.2.2.2.2.1
abbrev zH0 (X : zCx) : Heap := X.2.2.2.2.2.1
abbrev zLn (X : zCx) : Nat := X.2.2.2.2.2.2
def zad (X : zCx) (p : Nat) : Nat := if p < 90000 then zbs X + p else zhi X p
abbrev zV (X : zCx) (v : Nat) (w : Value) : Prop := zv (zρ X) (zad X) v w
abbrev zUp (X : zCx) : Nat → Prop := fun q => zbs X ≤ q
def zStr (X : zCx) (U : State) (i : Nat) : Prop := vk_R (zskey i).1 (zskey i).2.1 (zskey i).2.2 (zhi X (100000 + i)) U ∧ va_O "java/lang/String" (zhi X (100000 + i)) (zUp X) U (zH0 X) ∧ va_OF "java/lang/String" "coder" "B" (.int 0) (zhi X (100000 + i)) (zUp X) U (zH0 X) ∧
  va_OF "java/lang/String" "value" "[B" (.ref (zhi X (200000 + i))) (zhi X (100000 + i)) (zUp X) U (zH0 X) ∧ va_T .byte (zhi X (200000 + i)) (zxTl i) (fun j => .int (Int32.ofNat ((zxT i).getD j 0))) (zUp X) U (zH0 X)
def zScr (X : zCx) (U : State) : Prop := zhi X 99999 < zbs X ∧ zLn X < 2147483648 ∧ (zLn X = 0 ∨ ∃ scr : Cell, (zH0 X)[zhi X 99999]? = some scr ∧ U.isArrayOf scr .int ∧ scr.vm ≠ .unknown ∧ scr.slots.size = zLn X ∧ ∀ j, j < zLn X → scr.slots[j]? = some (.int (zρ X j)))
def zKn (X : zCx) (U : State) : Prop := (∀ w ∈ lw_tbl, zgood w = true → ∀ A : Array Value, w.before A U = true) ∧ (∀ (c : Nat) (q : vw_C), vwCl[c]? = some q → u_Kn U q.1 q.2.1 q.2.2 (zdC X c) (zdI X c)) ∧
  zScr X U ∧ (∀ i, i < 30 → zStr X U i) ∧ va_Z "java/lang/String" "COMPACT_STRINGS" "Z" (.int 1) (zUp X) U (zH0 X) ∧ va_Zq "jdk/internal/util/Preconditions" "SIOOBE_FORMATTER" "Ljava/util/function/BiFunction;" (zUp X) U (zH0 X)
theorem zgood_warm {w : Cond} (hg : zgood w = true) {s U : State} (hW : s.WarmedH U.vm) {A : Array Value} (h : ∀ A : Array Value, w.before A s = true) : w.before A U = true := by
  have key : ∀ w : Cond, goodWord w = true → (∀ A : Array Value, w.before A s = true) → w.before A U = true := fun w hw h => word_at hW (good_of_word hw) (h #[])
  unfold zgood at hg
  split at hg
  · exact va_Nw.use rfl (va_Nw.warmF hW (h #[]))
  · exact va_Nw.use rfl (va_Nw.warmM hW (h #[]))
  · exact key _ hg h
theorem zKn.warm {X : zCx} {s U : State} (hW : s.WarmedH U.vm) (h : zKn X s) : zKn X U := by
  obtain ⟨h1, h2, ⟨h3, h3', h4⟩, h7, h8, h9⟩ := h
  have ha := hW.alike
  exact ⟨fun w hw hg A => zgood_warm hg hW (h1 w hw hg), fun c q hq => u_Kn_moved ha (h2 c q hq), ⟨h3, h3', h4.imp id (fun ⟨scr, g4, g5, g6⟩ => ⟨scr, g4, State.isArrayOf_alike ha g5, g6⟩)⟩,
    fun i hi => ⟨(h7 i hi).1.warm hW, (h7 i hi).2.1.moved ha, (h7 i hi).2.2.1.moved ha, (h7 i hi).2.2.2.1.moved ha, (h7 i hi).2.2.2.2.moved ha⟩, h8.moved ha, h9.moved ha⟩
theorem zKn.same {X : zCx} {s U : State} (hv : U.vm = s.vm) (h : zKn X s) : zKn X U := by
  obtain ⟨h1, h2, ⟨h3, h3', h4⟩, h7, h8, h9⟩ := h
  have ha : s.vm.Alike U.vm := by rw [hv]; exact Vm.Alike.refl _
  refine ⟨fun w hw hg A => ?_, fun c q hq => u_Kn_moved ha (h2 c q hq), ⟨h3, h3', h4.imp id (fun ⟨scr, g4, g5, g6⟩ => ⟨scr, g4, State.isArrayOf_alike ha g5, g6⟩)⟩,
    fun i hi => ⟨(h7 i hi).1.same hv, (h7 i hi).2.1.moved ha, (h7 i hi).2.2.1.moved ha, (h7 i hi).2.2.2.1.moved ha, (h7 i hi).2.2.2.2.moved ha⟩, h8.moved ha, h9.moved ha⟩
  have h0 := h1 w hw hg A
  unfold zgood at hg
  split at hg
  · exact va_tabs rfl hv.symm h0
  · exact va_tabs rfl hv.symm h0
  · rename_i w' _ _
    rcases good_of_word hg with q | ⟨ty, q⟩
    · rw [Bool.and_eq_true] at q
      exact va_tabs q.1 hv.symm h0
    · subst q
      simp only [Cond.before, Cond.holds, Cond.value, hv] at h0 ⊢
      exact h0
/-- stacks -/
def zSt (X : zCx) : List Nat → List Value → Prop
  | [], [] => True
  | a :: s, b :: t => zV X a b ∧ zSt X s t
  | [], _ :: _ => False
  | _ :: _, [] => False
theorem zSt_c {X : zCx} {a : Nat} {s : List Nat} {q : List Value} (h : zSt X (a :: s) q) : ∃ b t, q = b :: t ∧ zV X a b ∧ zSt X s t := by
  cases q with
  | nil => exact h.elim
  | cons b t => exact ⟨b, t, rfl, h.1, h.2⟩
theorem zSt_n {X : zCx} {q : List Value} (h : zSt X [] q) : q = [] := by
  cases q with
  | nil => rfl
  | cons b t => exact h.elim
theorem zSt_words {X : zCx} : ∀ {s : List Nat} {q : List Value}, zSt X s q → (q.map fun v => v.category).sum = zwords s := by
  intro s
  induction s with
  | nil => intro q h; rw [zSt_n h]; rfl
  | cons a s ih =>
    intro q h
    obtain ⟨b, t, rfl, h1, h2⟩ := zSt_c h
    have e : zwords (a :: s) = Nat.add (zif (Nat.beq (Nat.mod a 8) 4) 2 1) (zwords s) := rfl
    rw [List.map_cons, List.sum_cons, ih h2, zv_cat h1, e]
    cases hb : Nat.beq (Nat.mod a 8) 4 with
    | true =>
      have hb' : a % 8 = 4 := zbeqT hb
      rw [if_pos hb']; rfl
    | false =>
      have hb' : ¬ a % 8 = 4 := zbeqF hb
      rw [if_neg hb']; rfl
theorem zSt_len {X : zCx} : ∀ {s : List Nat} {q : List Value}, zSt X s q → q.length = s.length := by
  intro s
  induction s with
  | nil => intro q h; rw [zSt_n h]; rfl
  | cons a s ih =>
    intro q h
    obtain ⟨b, t, rfl, h1, h2⟩ := zSt_c h
    rw [List.length_cons, List.length_cons, ih h2]
theorem zSt_app {X : zCx} : ∀ {s1 s2 : List Nat} {q1 q2 : List Value}, zSt X s1 q1 → zSt X s2 q2 → zSt X (s1 ++ s2) (q1 ++ q2) := by
  intro s1
  induction s1 with
  | nil => intro s2 q1 q2 h1 h2; rw [zSt_n h1]; exact h2
  | cons a s ih =>
    intro s2 q1 q2 h1 h2
    obtain ⟨b, t, rfl, h3, h4⟩ := zSt_c h1
    exact ⟨h3, ih h4 h2⟩
/-- locals -/
def zLs (X : zCx) (nL : Nat) (ls : List Nat) (lsA : Array Slot) : Prop := ls.length = nL ∧ lsA.size = nL ∧ lv_wf lsA ∧ ∀ (i c : Nat), ls[i]? = some c → ¬ c = 13 → ∃ w, lsA[i]? = some (.val w) ∧ zV X c w
def zlv (lsA : Array Slot) : List (Nat × Value) := (List.range lsA.size).filterMap (fun i => match (lsA[i]? : Option Slot) with
  | some (Slot.val w) => some (i, w)
  | _ => none)
theorem zlv_mem {lsA : Array Slot} {i : Nat} {w : Value} : (i, w) ∈ zlv lsA ↔ lsA[i]? = some (.val w) := by
  unfold zlv
  rw [List.mem_filterMap]
  constructor
  · rintro ⟨j, -, h⟩
    split at h
    · rename_i u hu
      cases h
      exact hu
    · cases h
  · intro h
    refine ⟨i, List.mem_range.mpr (Array.getElem?_eq_some_iff.mp h).1, ?_⟩
    rw [h]
theorem zlv_has {X : zCx} {nL : Nat} {ls : List Nat} {lsA : Array Slot} (h : zLs X nL ls lsA) : lv_has lsA nL (zlv lsA) := ⟨h.2.1, h.2.2.1, fun q hq => zlv_mem.mp hq⟩
theorem zLs_1 {X : zCx} {nL i v : Nat} {w : Value} {ls : List Nat} {lsA lsB : Array Slot} (h : zLs X nL ls lsA) (hv : zV X v w) (hlow : ∀ j c, j + 1 = i → ls[j]? = some c → ¬ c % 8 = 4)
    (hl : lv_has lsB nL ((i, w) :: (zlv lsA).filter (fun q => !(q.1 == i) && !(q.1 + 1 == i && q.2.category == 2)))) : zLs X nL (ls.set i v) lsB := by
  obtain ⟨h1, h2, h3, h4⟩ := h
  obtain ⟨g1, g2, g3⟩ := hl
  refine ⟨by rw [List.length_set]; exact h1, g1, g2, fun j c hc hn => ?_⟩
  by_cases e : j = i
  · subst e
    have hj : j < ls.length := by
      have := (List.getElem?_eq_some_iff.mp hc).1
      rwa [List.length_set] at this
    rw [List.getElem?_set_self hj] at hc
    cases hc
    exact ⟨w, g3 (j, w) List.mem_cons_self, hv⟩
  · rw [List.getElem?_set_ne (fun q => e q.symm)] at hc
    obtain ⟨u, hu, hz⟩ := h4 j c hc hn
    refine ⟨u, g3 (j, u) (List.mem_cons_of_mem _ (List.mem_filter.mpr ⟨zlv_mem.mpr hu, ?_⟩)), hz⟩
    have n1 : (j == i) = false := by simpa using e
    have n2 : (j + 1 == i && u.category == 2) = false := by
      by_cases q : j + 1 = i
      · have : u.category = 1 := by rw [zv_cat hz, if_neg (hlow j c q hc)]
        rw [this]; simp
      · have : (j + 1 == i) = false := by simpa using q
        rw [this]; rfl
    show (!(j == i) && !(j + 1 == i && u.category == 2)) = true
    rw [n1, n2]; rfl
theorem zLs_2 {X : zCx} {nL i v : Nat} {w : Value} {ls : List Nat} {lsA lsB : Array Slot} (h : zLs X nL ls lsA) (hv : zV X v w) (hlow : ∀ j c, j + 1 = i → ls[j]? = some c → ¬ c % 8 = 4)
    (hl : lv_has lsB nL ((i, w) :: (zlv lsA).filter (fun q => !(q.1 == i) && (!(q.1 == i + 1) && !(q.1 + 1 == i && q.2.category == 2))))) : zLs X nL ((ls.set i v).set (i + 1) 13) lsB := by
  obtain ⟨h1, h2, h3, h4⟩ := h
  obtain ⟨g1, g2, g3⟩ := hl
  refine ⟨by rw [List.length_set, List.length_set]; exact h1, g1, g2, fun j c hc hn => ?_⟩
  by_cases e2 : j = i + 1
  · subst e2
    have hj : i + 1 < (ls.set i v).length := by
      have := (List.getElem?_eq_some_iff.mp hc).1
      rwa [List.length_set] at this
    rw [List.getElem?_set_self hj] at hc
    cases hc
    exact absurd rfl hn
  rw [List.getElem?_set_ne (fun q => e2 q.symm)] at hc
  by_cases e : j = i
  · subst e
    have hj : j < ls.length := by
      have := (List.getElem?_eq_some_iff.mp hc).1
      rwa [List.length_set] at this
    rw [List.getElem?_set_self hj] at hc
    cases hc
    exact ⟨w, g3 (j, w) List.mem_cons_self, hv⟩
  · rw [List.getElem?_set_ne (fun q => e q.symm)] at hc
    obtain ⟨u, hu, hz⟩ := h4 j c hc hn
    refine ⟨u, g3 (j, u) (List.mem_cons_of_mem _ (List.mem_filter.mpr ⟨zlv_mem.mpr hu, ?_⟩)), hz⟩
    have n1 : (j == i) = false := by simpa using e
    have n3 : (j == i + 1) = false := by simpa using e2
    have n2 : (j + 1 == i && u.category == 2) = false := by
      by_cases q : j + 1 = i
      · have : u.category = 1 := by rw [zv_cat hz, if_neg (hlow j c q hc)]
        rw [this]; simp
      · have : (j + 1 == i) = false := by simpa using q
        rw [this]; rfl
    show (!(j == i) && (!(j == i + 1) && !(j + 1 == i && u.category == 2))) = true
    rw [n1, n2, n3]; rfl
/-- memory -/
def zty (k : Nat) : Option FieldType := match k with
  | 20 => some .int
  | 21 => some .long
  | 22 => some .byte
  | 23 => some .boolean
  | _ => none
def zCell (X : zCx) (U : State) (a : Nat) (c : zCl) (H : Heap) : Prop :=
  (c.1 < 12 ∧ ∃ cell : Cell, H[a]? = some cell ∧ cell.cls = zdC X c.1 ∧ cell.vm = .none ∧ ∀ k v, k < zxCn c.1 → zG c.2.2 k = some v → ∃ w, zV X v w ∧ cell.slots[zdI X c.1 k]? = some w) ∨
  (∃ (ty : FieldType) (cA : ClassId) (f : Nat → Value), zty c.1 = some ty ∧ H[a]? = some (arrV cA c.2.1 f) ∧ ArrOfT U cA ty ∧ c.2.1 ≤ 20000 ∧ ∀ j v, j < c.2.1 → zG c.2.2 j = some v → zV X v (f j))
def zMem (X : zCx) (U : State) (n : Nat) (m : zM) (H : Heap) : Prop := H.size = zbs X + n ∧ n ≤ 90000 ∧ (∀ a c, zG m a = some c → ¬ c.1 = 99 → a < n ∧ zCell X U (zbs X + a) c H) ∧ ∀ q, q < zbs X → H[q]? = (zH0 X)[q]?
theorem zCell.kept {X : zCx} {U : State} {a : Nat} {c : zCl} {H H1 : Heap} (h : zCell X U a c H) (hq : H1[a]? = H[a]?) : zCell X U a c H1 := by
  rcases h with ⟨h0, cell, h1, h2⟩ | ⟨ty, cA, f, h1, h2, h3⟩
  · exact Or.inl ⟨h0, cell, hq.trans h1, h2⟩
  · exact Or.inr ⟨ty, cA, f, h1, hq.trans h2, h3⟩
theorem zCell.moved {X : zCx} {u U : State} {a : Nat} {c : zCl} {H : Heap} (hvm : u.vm.Alike U.vm) (h : zCell X u a c H) : zCell X U a c H := by
  rcases h with h | ⟨ty, cA, f, h1, h2, h3, h4⟩
  · exact Or.inl h
  · exact Or.inr ⟨ty, cA, f, h1, h2, arrOfT_moved hvm h3, h4⟩
theorem zMem.moved {X : zCx} {u U : State} {n : Nat} {m : zM} {H : Heap} (hvm : u.vm.Alike U.vm) (h : zMem X u n m H) : zMem X U n m H := ⟨h.1, h.2.1, fun a c h1 h2 => ⟨(h.2.2.1 a c h1 h2).1, (h.2.2.1 a c h1 h2).2.moved hvm⟩, h.2.2.2⟩
theorem zMem.get {X : zCx} {U : State} {n : Nat} {m : zM} {H : Heap} (h : zMem X U n m H) {a : Nat} {c : zCl} (hg : zG m a = some c) (hn : ¬ c.1 = 99) : zad X a = zbs X + a ∧ a < n ∧ zCell X U (zad X a) c H := by
  obtain ⟨h1, h2⟩ := h.2.2.1 a c hg hn
  have e : zad X a = zbs X + a := by
    unfold zad
    rw [if_pos (Nat.lt_of_lt_of_le h1 h.2.1)]
  exact ⟨e, h1, by rw [e]; exact h2⟩
theorem zMem.set {X : zCx} {U : State} {n : Nat} {m : zM} {H H1 : Heap} (h : zMem X U n m H) {a : Nat} {c c2 : zCl} (hg : zG m a = some c) (hn : ¬ c.1 = 99) (hz : H1.size = H.size) (hq : ∀ q, q ≠ zad X a → H1[q]? = H[q]?) (hc : zCell X U (zad X a) c2 H1) : zMem X U n (zS m a c2) H1 := by
  obtain ⟨e, hl, -⟩ := h.get hg hn
  refine ⟨hz.trans h.1, h.2.1, fun b x hb hx => ?_, fun q hq2 => ?_⟩
  · rw [zG_set hg b] at hb
    by_cases q : b = a
    · rw [if_pos q] at hb
      cases hb
      rw [q]
      exact ⟨hl, by rw [← e]; exact hc⟩
    · rw [if_neg q] at hb
      obtain ⟨g1, g2⟩ := h.2.2.1 b x hb hx
      exact ⟨g1, g2.kept (hq _ (by rw [e]; omega))⟩
  · rw [hq q (by rw [e]; omega)]
    exact h.2.2.2 q hq2
theorem zMem.new {X : zCx} {U : State} {n : Nat} {m : zM} {H H1 : Heap} (h : zMem X U n m H) {c c2 : zCl} (hg : zG m n = some c) (hz : H1.size = H.size + 1) (hq : ∀ q, q < H.size → H1[q]? = H[q]?) (hn : n + 1 ≤ 90000) (hc : zCell X U (zbs X + n) c2 H1) : zMem X U (n + 1) (zS m n c2) H1 := by
  refine ⟨by rw [hz, h.1]; omega, hn, fun b x hb hx => ?_, fun q hq2 => ?_⟩
  · rw [zG_set hg b] at hb
    by_cases q : b = n
    · rw [if_pos q] at hb
      cases hb
      rw [q]
      exact ⟨by omega, hc⟩
    · rw [if_neg q] at hb
      obtain ⟨g1, g2⟩ := h.2.2.1 b x hb hx
      exact ⟨by omega, g2.kept (hq _ (by rw [h.1]; omega))⟩
  · rw [hq q (by rw [h.1]; omega)]
    exact h.2.2.2 q hq2
end
section
/-! what is known of answers -/
theorem zN_sub (x y : Int32) : (x - y).toBitVec.toNat = (x.toBitVec.toNat + (4294967296 - y.toBitVec.toNat)) % 4294967296 := by
  rw [Int32.toBitVec_sub, BitVec.toNat_sub]
  have h1 := x.toBitVec.isLt
  have h2 := y.toBitVec.isLt
  omega
theorem zN_mul (x y : Int32) : (x * y).toBitVec.toNat = (x.toBitVec.toNat * y.toBitVec.toNat) % 4294967296 := by
  rw [Int32.toBitVec_mul, BitVec.toNat_mul]
theorem zf_add_ok (u v : Nat) : Int32.ofNat (zf_add u v) = Int32.ofNat u + Int32.ofNat v := by
  apply zN_inj
  rw [zN_add, zN_of, zN_of, zN_of]
  show (u + v) % 4294967296 % 4294967296 = _
  omega
theorem zf_sub_ok (u v : Nat) : Int32.ofNat (zf_sub u v) = Int32.ofNat u - Int32.ofNat v := by
  apply zN_inj
  rw [zN_sub, zN_of, zN_of, zN_of]
  show (u + (4294967296 - v % 4294967296)) % 4294967296 % 4294967296 = _
  omega
theorem zf_mul_ok (u v : Nat) : Int32.ofNat (zf_mul u v) = Int32.ofNat u * Int32.ofNat v := by
  apply zN_inj
  rw [zN_mul, zN_of, zN_of, zN_of]
  show (u * v) % 4294967296 % 4294967296 = _
  rw [Nat.mod_mod, ← Nat.mul_mod]
theorem zN_and (x y : Int32) : (x &&& y).toBitVec.toNat = x.toBitVec.toNat &&& y.toBitVec.toNat := by rw [Int32.toBitVec_and, BitVec.toNat_and]
theorem zN_or (x y : Int32) : (x ||| y).toBitVec.toNat = x.toBitVec.toNat ||| y.toBitVec.toNat := by rw [Int32.toBitVec_or, BitVec.toNat_or]
theorem zN_xor (x y : Int32) : (x ^^^ y).toBitVec.toNat = x.toBitVec.toNat ^^^ y.toBitVec.toNat := by rw [Int32.toBitVec_xor, BitVec.toNat_xor]
theorem zf_and_ok (u v : Nat) : Int32.ofNat (zf_and u v) = Int32.ofNat u &&& Int32.ofNat v := by
  apply zN_inj
  rw [zN_and, zN_of, zN_of, zN_of]
  show (u &&& v) % 2 ^ 32 % 2 ^ 32 = (u % 2 ^ 32) &&& (v % 2 ^ 32)
  rw [Nat.mod_mod, Nat.and_mod_two_pow]
theorem zf_or_ok (u v : Nat) : Int32.ofNat (zf_or u v) = Int32.ofNat u ||| Int32.ofNat v := by
  apply zN_inj
  rw [zN_or, zN_of, zN_of, zN_of]
  show (u ||| v) % 2 ^ 32 % 2 ^ 32 = (u % 2 ^ 32) ||| (v % 2 ^ 32)
  rw [Nat.mod_mod, Nat.or_mod_two_pow]
theorem zf_xor_ok (u v : Nat) : Int32.ofNat (zf_xor u v) = Int32.ofNat u ^^^ Int32.ofNat v := by
  apply zN_inj
  rw [zN_xor, zN_of, zN_of, zN_of]
  show (u ^^^ v) % 2 ^ 32 % 2 ^ 32 = (u % 2 ^ 32) ^^^ (v % 2 ^ 32)
  rw [Nat.mod_mod, Nat.xor_mod_two_pow]
theorem zf_32_ok (f : Int32 → Int32 → Int32) (u v : Nat) : Int32.ofNat (zf_32 f u v) = f (Int32.ofNat u) (Int32.ofNat v) := zN_self _
/-- an abstract answer of kind g is right for f -/
def zAbs (g : Nat) (f : Int32 → Int32 → Int32) : Prop := ∀ (ρ : Nat → Int32) (ad : Nat → Nat) (la a b : Nat) (x y : Int32) (k : Nat → Bool), zabs g la a b k = true → zv ρ ad a (.int x) → zv ρ ad b (.int y) → la ≤ zB x → ∃ v, zv ρ ad v (.int (f x y)) ∧ k v = true
theorem zaff_ok {ρ : Nat → Int32} {ad : Nat → Nat} {a u : Nat} {x : Int32} (h : a % 8 = 1) (ha : zv ρ ad a (.int x)) : zv ρ ad (zaff a u) (.int (x + Int32.ofNat u)) := by
  have e := Value.int.inj (zv_1 ha h)
  have d : zaff a u = 8 * (a / 34359738368 * 4294967296 + (a / 8 % 4294967296 + u) % 4294967296) + 1 := rfl
  rw [d]
  refine Or.inr (Or.inl ⟨by omega, ?_⟩)
  have e1 : (8 * (a / 34359738368 * 4294967296 + (a / 8 % 4294967296 + u) % 4294967296) + 1) / 34359738368 = a / 34359738368 := by omega
  have e2 : (8 * (a / 34359738368 * 4294967296 + (a / 8 % 4294967296 + u) % 4294967296) + 1) / 8 % 4294967296 = (a / 8 % 4294967296 + u) % 4294967296 := by omega
  rw [e1, e2, e]
  congr 1
  apply zN_inj
  rw [zN_add, zN_add, zN_add, zN_of, zN_of, zN_of]
  omega
theorem zabs_1 {la a b : Nat} {k : Nat → Bool} : zabs 1 la a b k = zif (zand (Nat.beq (Nat.mod a 8) 1) (Nat.beq (Nat.mod b 8) 0)) (zfr false (zaff a (Nat.div b 8)) k) (zif (zand (Nat.beq (Nat.mod a 8) 0) (Nat.beq (Nat.mod b 8) 1)) (zfr false (zaff b (Nat.div a 8)) k) (k 34359738362)) := rfl
theorem zAbs_1 : zAbs 1 (fun x y => x + y) := by
  intro ρ ad la a b x y k h ha hb hla
  rw [zabs_1] at h
  simp only [zfr_eq, zn_m, zn_d] at h
  rcases zif_iff h with ⟨h1, h2⟩ | ⟨-, h2⟩
  · obtain ⟨g1, g2⟩ := zand_iff h1
    refine ⟨_, ?_, h2⟩
    have e := Value.int.inj (zv_0 hb (zbeqT g2))
    rw [e]
    exact zaff_ok (zbeqT g1) ha
  rcases zif_iff h2 with ⟨h1, h3⟩ | ⟨-, h3⟩
  · obtain ⟨g1, g2⟩ := zand_iff h1
    refine ⟨_, ?_, h3⟩
    have e := Value.int.inj (zv_0 ha (zbeqT g1))
    show zv ρ ad _ (.int (x + y))
    rw [e, Int32.add_comm]
    exact zaff_ok (zbeqT g2) hb
  · exact ⟨_, zv_any _, h3⟩
theorem zabs_2 {la a b : Nat} {k : Nat → Bool} : zabs 2 la a b k = zif (zand (Nat.beq (Nat.mod a 8) 1) (Nat.beq (Nat.mod b 8) 0)) (zfr false (zaff a (Nat.sub 4294967296 (Nat.mod (Nat.div b 8) 4294967296))) k) (k 34359738362) := rfl
theorem zAbs_2 : zAbs 2 (fun x y => x - y) := by
  intro ρ ad la a b x y k h ha hb hla
  rw [zabs_2] at h
  simp only [zfr_eq, zn_m, zn_d, zn_s] at h
  rcases zif_iff h with ⟨h1, h2⟩ | ⟨-, h2⟩
  · obtain ⟨g1, g2⟩ := zand_iff h1
    refine ⟨_, ?_, h2⟩
    have e := Value.int.inj (zv_0 hb (zbeqT g2))
    have e2 : x - y = x + Int32.ofNat (4294967296 - b / 8 % 4294967296) := by
      rw [e]
      apply zN_inj
      rw [zN_sub, zN_add, zN_of, zN_of]
      omega
    show zv ρ ad _ (.int (x - y))
    rw [e2]
    exact zaff_ok (zbeqT g1) ha
  · exact ⟨_, zv_any _, h2⟩
theorem zabs_3 {la a b : Nat} {k : Nat → Bool} : zabs 3 la a b k = k 34359738362 := rfl
theorem zAbs_3 (f : Int32 → Int32 → Int32) : zAbs 3 f := by
  intro ρ ad la a b x y k h ha hb hla
  rw [zabs_3] at h
  exact ⟨_, zv_any _, h⟩
theorem zabs_0 {la a b : Nat} {k : Nat → Bool} : zabs 0 la a b k = false := rfl
theorem zAbs_0 (f : Int32 → Int32 → Int32) : zAbs 0 f := by
  intro ρ ad la a b x y k h ha hb hla
  rw [zabs_0] at h
  cases h
theorem zabs_4 {la a b : Nat} {k : Nat → Bool} : zabs 4 la a b k = zif (zand (Nat.beq (Nat.mod b 8) 0) (Nat.ble (Nat.succ (Nat.div b 8)) 2147483648)) (zfr false (Nat.add (Nat.mul 8 (Nat.add 9223372036854775808 (Nat.add 2147483648 (Nat.div b 8)))) 2) k) false := rfl
theorem zAbs_4 : zAbs 4 (fun x y => x &&& y) := by
  intro ρ ad la a b x y k h ha hb hla
  rw [zabs_4] at h
  simp only [zfr_eq, zn_m, zn_d, zn_c, zn_a, zn_u] at h
  rcases zif_iff h with ⟨h1, h2⟩ | ⟨-, h2⟩
  · obtain ⟨g1, g2⟩ := zand_iff h1
    have g3 := zbleT g2
    have e := Value.int.inj (zv_0 hb (zbeqT g1))
    refine ⟨_, ?_, h2⟩
    have hN : y.toBitVec.toNat = b / 8 := by rw [e, zN_of]; omega
    have hle : (x &&& y).toBitVec.toNat ≤ b / 8 := by rw [zN_and, hN]; exact Nat.and_le_right
    have hB : zB (x &&& y) = (x &&& y).toBitVec.toNat + 2147483648 := by rw [zB_eq]; omega
    have e3 : 8 * (9223372036854775808 + (2147483648 + b / 8)) + 2 = 8 * (2147483648 * 4294967296 + (2147483648 + b / 8)) + 2 := by omega
    rw [e3]
    exact zv_bd (by rw [hB]; omega) (by rw [hB]; omega) (by omega)
  · cases h2
theorem zabs_5 {la a b : Nat} {k : Nat → Bool} : zabs 5 la a b k = zif (zand (Nat.beq (Nat.mod b 8) 0) (zand (Nat.ble (Nat.succ (Nat.div b 8)) 2147483648) (zand (Nat.ble 1 (Nat.div b 8)) (Nat.ble 2147483648 la)))) (zfr false (Nat.add (Nat.mul 8 (Nat.add 9223372036854775808 (Nat.add 2147483647 (Nat.div b 8)))) 2) k) false := rfl
theorem zAbs_5 : zAbs 5 (fun x y => x - x / y * y) := by
  intro ρ ad la a b x y k h ha hb hla
  rw [zabs_5] at h
  simp only [zfr_eq, zn_m, zn_d, zn_c, zn_a, zn_u] at h
  rcases zif_iff h with ⟨h1, h2⟩ | ⟨-, h2⟩
  · obtain ⟨g1, g2⟩ := zand_iff h1
    obtain ⟨g2, g3⟩ := zand_iff g2
    obtain ⟨g3, g4⟩ := zand_iff g3
    have g2 := zbleT g2
    have g3 := zbleT g3
    have g4 := zbleT g4
    have e := Value.int.inj (zv_0 hb (zbeqT g1))
    have hx : x.toBitVec.toNat < 2147483648 := by
      have h5 := zB_eq x
      have h6 := x.toBitVec.isLt
      omega
    have e1 : x = nI x.toBitVec.toNat := (zN_self x).symm
    refine ⟨_, ?_, h2⟩
    have e2 : x - x / y * y = nI (x.toBitVec.toNat % (b / 8)) := by
      rw [e, e1]
      have hr := pk_rem (a := x.toBitVec.toNat) (d := b / 8) (by omega) (by omega) (by omega)
      rw [← e1] at hr ⊢
      exact hr
    show zv ρ ad _ (.int (x - x / y * y))
    rw [e2]
    have hlt : x.toBitVec.toNat % (b / 8) < b / 8 := Nat.mod_lt _ (by omega)
    have hB : zB (nI (x.toBitVec.toNat % (b / 8))) = x.toBitVec.toNat % (b / 8) + 2147483648 := by
      show zB (Int32.ofNat _) = _
      rw [zB_of, zb_def]
      omega
    have e3 : 8 * (9223372036854775808 + (2147483647 + b / 8)) + 2 = 8 * (2147483648 * 4294967296 + (2147483647 + b / 8)) + 2 := by omega
    rw [e3]
    exact zv_bd (by rw [hB]; omega) (by rw [hB]; omega) (by omega)
  · cases h2
theorem zabs_6 {la a b : Nat} {k : Nat → Bool} : zabs 6 la a b k = zif (zand (Nat.beq (Nat.mod b 8) 0) (zand (Nat.ble (Nat.succ (Nat.div b 8)) 2147483648) (Nat.ble 2147483648 la))) (k 73786976329197944826) (k 34359738362) := rfl
theorem zAbs_6 : zAbs 6 (fun x y => x ^^^ y) := by
  intro ρ ad la a b x y k h ha hb hla
  rw [zabs_6] at h
  simp only [zn_m, zn_d, zn_c] at h
  rcases zif_iff h with ⟨h1, h2⟩ | ⟨-, h2⟩
  · obtain ⟨g1, g2⟩ := zand_iff h1
    obtain ⟨g2, g3⟩ := zand_iff g2
    have g2 := zbleT g2
    have g3 := zbleT g3
    have e := Value.int.inj (zv_0 hb (zbeqT g1))
    have hx : x.toBitVec.toNat < 2147483648 := by
      have h5 := zB_eq x
      have h6 := x.toBitVec.isLt
      omega
    have hy : y.toBitVec.toNat < 2147483648 := by rw [e, zN_of]; omega
    refine ⟨_, ?_, h2⟩
    have hlt : (x ^^^ y).toBitVec.toNat < 2 ^ 31 := by
      rw [zN_xor]
      exact Nat.xor_lt_two_pow (by omega) (by omega)
    have hB : zB (x ^^^ y) = (x ^^^ y).toBitVec.toNat + 2147483648 := by rw [zB_eq]; omega
    have e3 : 73786976329197944826 = 8 * (2147483648 * 4294967296 + 4294967295) + 2 := by decide
    rw [e3]
    exact zv_bd (by rw [hB]; omega) (by rw [hB]; omega) (by omega)
  · exact ⟨_, zv_any _, h2⟩
theorem zslow_iff {f : Nat → Nat → Nat} {g : Nat} {dv : Bool} {a b : Nat} {w : zW} {again : zW → Bool} {k : Nat → Bool} {F : Int32 → Int32 → Int32} {ρ : Nat → Int32} {ad : Nat → Nat} {x' y' : Value} (h : zslow f g dv a b w again k = true) (hE : zEnv ρ w.2) (ha : zv ρ ad a x') (hb : zv ρ ad b y') (hf : ∀ u v, Int32.ofNat (f u v) = F (Int32.ofNat u) (Int32.ofNat v)) (hg : zAbs g F) (hdv : dv = true → g = 5 ∨ g = 0) :
    (∃ w2 : zW, w2.1 = w.1 ∧ zEnv ρ w2.2 ∧ again w2 = true) ∨ ∃ (x y : Int32) (v : Nat), x' = .int x ∧ y' = .int y ∧ (dv = true → ¬ y = 0) ∧ zv ρ ad v (.int (F x y)) ∧ k v = true := by
  unfold zslow at h
  simp only [zfr_eq, zn_m, zn_u] at h
  have slow : (zbd w a (fun la _ => zbd w b (fun _ _ => zabs g la a b k))) = true → ∃ (x y : Int32) (v : Nat), x' = .int x ∧ y' = .int y ∧ (dv = true → ¬ y = 0) ∧ zv ρ ad v (.int (F x y)) ∧ k v = true := by
    intro h
    obtain ⟨x, la, ha', rfl, a1, a2, h⟩ := zbd_iff h hE ha
    obtain ⟨y, lb, hb', rfl, b1, b2, h⟩ := zbd_iff h hE hb
    obtain ⟨v, h1, h2⟩ := hg ρ ad la a b x y k h ha hb a1
    refine ⟨x, y, v, rfl, rfl, fun q => ?_, h1, h2⟩
    rcases hdv q with e | e
    · subst e
      rw [zabs_5] at h
      simp only [zfr_eq, zn_m, zn_d, zn_c, zn_a, zn_u] at h
      rcases zif_iff h with ⟨h1, -⟩ | ⟨-, h2⟩
      · obtain ⟨g1, g2⟩ := zand_iff h1
        obtain ⟨g2, g3⟩ := zand_iff g2
        obtain ⟨g3, -⟩ := zand_iff g3
        have g2 := zbleT g2
        have g3 := zbleT g3
        have e := Value.int.inj (zv_0 hb (zbeqT g1))
        intro z
        rw [z] at e
        have e5 : (0 : Int32).toBitVec.toNat = (Int32.ofNat (b / 8)).toBitVec.toNat := by rw [e]
        rw [zN_of] at e5
        have e6 : (0 : Int32).toBitVec.toNat = 0 := by decide
        omega
      · cases h2
    · subst e
      rw [zabs_0] at h
      cases h
  rcases zhalf_iff h hE ha with q | h
  · exact Or.inl q
  rcases zhalf_iff h hE hb with q | h
  · exact Or.inl q
  rcases zkn_iff h hE ha with ⟨ua, rfl, h⟩ | h
  · rcases zkn_iff h hE hb with ⟨ub, rfl, h⟩ | h
    · rcases zif_iff h with ⟨-, h2⟩ | ⟨h1, h2⟩
      · cases h2
      · refine Or.inr ⟨_, _, _, rfl, rfl, fun q z => ?_, zv_mk (hf ua ub), h2⟩
        rw [q] at h1
        have h3 : Nat.beq (ub % 4294967296) 0 = false := h1
        have e5 : (Int32.ofNat ub).toBitVec.toNat = (0 : Int32).toBitVec.toNat := by rw [z]
        rw [zN_of] at e5
        exact zbeqF h3 e5
    · exact Or.inr (slow h)
  · exact Or.inr (slow h)
end
section
/-! THE MACHINE's STEPS, op by op: 'the rest goes well' gives 'this goes well' -/
def zRl (X : zCx) (s : State) (nL : Nat) (d : Nat × Nat × Nat) (w : zW) (ls st : List Nat) (q : zQ) (m : zM) (H : Heap) (locs : List Loc) (lsA : Array Slot) (stA : List Value) : Prop :=
  zEnv (zρ X) w.2 ∧ zMem X s w.1 m H ∧ (∀ x ∈ locs, zbs X ≤ x.base) ∧ zLs X nL ls lsA ∧ zSt X st stA ∧ q.1 = d.1 ∧ q.2.1 ≤ d.2.1 ∧ q.2.2 ≤ d.2.2
def zKS (p : Program) (l : Launch) (e : Env) (R : Room) (s : State) (mt : MethodId) (args : Array Value) (below : List Frame) (meth : Method) (c : Code) (Q : State → Prop) (X : zCx) (cf : Nat → zT) (y : zY) (fs : List zFr) (nL : Nat) (d : Nat × Nat × Nat) (k : zK) : Prop :=
  ∀ (w : zW) (pc : Nat) (ls st : List Nat) (q : zQ) (m : zM) (H : Heap) (locs : List Loc) (lsA : Array Slot) (stA : List Value), k w cf y pc ls st q fs m = true → zRl X s nL d w ls st q m H locs lsA stA → W p l e R s mt args below meth c H locs q.2.1 q.2.2 Q (F0 mt pc lsA stA)
section ZR
variable {p : Program} {l : Launch} {e : Env} {R : Room} {s : State} {mt : MethodId} {args : Array Value} {below : List Frame} {meth : Method} {c : Code} {Q : State → Prop} {X : zCx} {cf : Nat → zT} {y : zY} {fs : List zFr} {nL : Nat} {d : Nat × Nat × Nat} {k : zK}
variable {w : zW} {pc nx ax : Nat} {ls st : List Nat} {q : zQ} {m : zM} {H : Heap} {locs : List Loc} {lsA : Array Slot} {stA : List Value}
theorem zgo (hKS : zKS p l e R s mt args below meth c Q X cf y fs nL d k) {w2 : zW} {pc2 : Nat} {st2 : List Nat} {stB : List Value} (h : k w2 cf y pc2 ls st2 q fs m = true) (hR : zRl X s nL d w ls st q m H locs lsA stA) (e1 : w2.1 = w.1) (hE : zEnv (zρ X) w2.2) (h2 : zSt X st2 stB) : W p l e R s mt args below meth c H locs q.2.1 q.2.2 Q (F0 mt pc2 lsA stB) :=
  hKS _ _ _ _ _ _ _ _ _ _ h ⟨hE, by rw [e1]; exact hR.2.1, hR.2.2.1, hR.2.2.2.1, h2, hR.2.2.2.2.2⟩
theorem zw_push {v : Nat} {x : Value} (hKS : zKS p l e R s mt args below meth c Q X cf y fs nL d k) (h : zo_push v nx ax k w cf y pc ls st q fs m = true) (hR : zRl X s nL d w ls st q m H locs lsA stA) (hv : zV X v x)
    (row : W p l e R s mt args below meth c H locs q.2.1 q.2.2 Q (F0 mt nx lsA (x :: stA)) → W p l e R s mt args below meth c H locs q.2.1 q.2.2 Q (F0 mt pc lsA stA)) : W p l e R s mt args below meth c H locs q.2.1 q.2.2 Q (F0 mt pc lsA stA) :=
  row (zgo hKS (st2 := v :: st) h hR rfl hR.1 ⟨hv, hR.2.2.2.2.1⟩)
theorem zkd_iff {g v : Nat} (h : zkd g v = true) : (g = 0 → v % 8 ≤ 2) ∧ (g = 1 → v % 8 = 4) ∧ (g = 2 → v % 8 = 3) ∧ ¬ v = 13 := by
  unfold zkd at h
  simp only [zn_m] at h
  rcases zif_iff h with ⟨h1, h2⟩ | ⟨h1, h2⟩
  · have e := zbeqT h1
    have g2 := zbleT h2
    exact ⟨fun _ => g2, fun q => by omega, fun q => by omega, by omega⟩
  rcases zif_iff h2 with ⟨h3, h4⟩ | ⟨h3, h4⟩
  · have e := zbeqT h3
    have g2 := zbeqT h4
    exact ⟨fun q => by omega, fun _ => g2, fun q => by omega, by omega⟩
  · have e := zbeqF h1
    have e2 := zbeqF h3
    have g2 := zbeqT h4
    exact ⟨fun q => absurd q e, fun q => absurd q e2, fun _ => g2, by omega⟩
theorem zw_load {g i : Nat} (hKS : zKS p l e R s mt args below meth c Q X cf y fs nL d k) (h : zo_load g i nx ax k w cf y pc ls st q fs m = true) (hR : zRl X s nL d w ls st q m H locs lsA stA)
    (row : ∀ x : Value, lsA[i]? = some (.val x) → (g = 0 → ∃ n, x = .int n) → (g = 1 → ∃ n, x = .long n) → (g = 2 → ∃ a, x = .ref a) → W p l e R s mt args below meth c H locs q.2.1 q.2.2 Q (F0 mt nx lsA (x :: stA)) → W p l e R s mt args below meth c H locs q.2.1 q.2.2 Q (F0 mt pc lsA stA)) : W p l e R s mt args below meth c H locs q.2.1 q.2.2 Q (F0 mt pc lsA stA) := by
  unfold zo_load at h
  obtain ⟨v, hv, h2⟩ := znth_iff h
  rcases zif_iff h2 with ⟨h3, h4⟩ | ⟨-, h4⟩
  · obtain ⟨k0, k1, k2, k3⟩ := zkd_iff h3
    obtain ⟨x, hx, hz⟩ := hR.2.2.2.1.2.2.2 i v hv k3
    exact row x hx (fun q => zv_int hz (k0 q)) (fun q => ⟨_, zv_4 hz (k1 q)⟩) (fun q => ⟨_, zv_3 hz (k2 q)⟩) (zgo hKS h4 hR rfl hR.1 ⟨hz, hR.2.2.2.2.1⟩)
  · cases h4
theorem zlow_iff {i : Nat} {b : Bool} (h : zlow ls i b = true) : b = true ∧ ∀ j c, j + 1 = i → ls[j]? = some c → ¬ c % 8 = 4 := by
  cases i with
  | zero => exact ⟨h, fun j c q => by omega⟩
  | succ i =>
    have h' : znth (fun v => zif (Nat.beq (Nat.mod v 8) 4) false b) ls i = true := h
    obtain ⟨v, hv, h2⟩ := znth_iff h'
    rcases zif_iff h2 with ⟨-, h4⟩ | ⟨h3, h4⟩
    · cases h4
    · refine ⟨h4, fun j c q hc => ?_⟩
      have : j = i := by omega
      subst this
      rw [hv] at hc
      cases hc
      exact zbeqF h3
theorem zw_store {g i : Nat} (hg : ¬ g = 1) (hKS : zKS p l e R s mt args below meth c Q X cf y fs nL d k) (h : zo_store g i nx ax k w cf y pc ls st q fs m = true) (hR : zRl X s nL d w ls st q m H locs lsA stA)
    (row : ∀ (x : Value) (r : List Value), stA = x :: r → i < nL → (g = 0 → ∃ n, x = .int n) → (g = 2 → ∃ a, x = .ref a) → (∀ lsB, lv_has lsB nL ((i, x) :: (zlv lsA).filter (fun q => !(q.1 == i) && !(q.1 + 1 == i && q.2.category == 2))) → W p l e R s mt args below meth c H locs q.2.1 q.2.2 Q (F0 mt nx lsB r)) → W p l e R s mt args below meth c H locs q.2.1 q.2.2 Q (F0 mt pc lsA stA)) : W p l e R s mt args below meth c H locs q.2.1 q.2.2 Q (F0 mt pc lsA stA) := by
  unfold zo_store at h
  obtain ⟨v, r, rfl, h2⟩ := zpop_iff h
  rcases zif_iff h2 with ⟨h3, h4⟩ | ⟨-, h4⟩
  · obtain ⟨k0, k1, k2, k3⟩ := zkd_iff h3
    obtain ⟨h5, hlow⟩ := zlow_iff h4
    rcases zif_iff h5 with ⟨h6, -⟩ | ⟨-, h7⟩
    · exact absurd (zbeqT h6) hg
    · obtain ⟨o, ho, h8⟩ := zupd_iff h7
      obtain ⟨hE, hM, hL, hLs, hS, hd⟩ := hR
      obtain ⟨x, t, rfl, hz, hS2⟩ := zSt_c hS
      have hi : i < nL := by rw [← hLs.1]; exact (List.getElem?_eq_some_iff.mp ho).1
      refine row x t rfl hi (fun q => zv_int hz (k0 q)) (fun q => ⟨_, zv_3 hz (k2 q)⟩) (fun lsB hB => ?_)
      exact hKS _ _ _ _ _ _ _ _ _ _ h8 ⟨hE, hM, hL, zLs_1 hLs hz hlow hB, hS2, hd⟩
  · cases h4
theorem zw_storeL {i : Nat} (hKS : zKS p l e R s mt args below meth c Q X cf y fs nL d k) (h : zo_store 1 i nx ax k w cf y pc ls st q fs m = true) (hR : zRl X s nL d w ls st q m H locs lsA stA)
    (row : ∀ (x : Int64) (r : List Value), stA = .long x :: r → i + 1 < nL → (∀ lsB, lv_has lsB nL ((i, .long x) :: (zlv lsA).filter (fun q => !(q.1 == i) && (!(q.1 == i + 1) && !(q.1 + 1 == i && q.2.category == 2)))) → W p l e R s mt args below meth c H locs q.2.1 q.2.2 Q (F0 mt nx lsB r)) → W p l e R s mt args below meth c H locs q.2.1 q.2.2 Q (F0 mt pc lsA stA)) : W p l e R s mt args below meth c H locs q.2.1 q.2.2 Q (F0 mt pc lsA stA) := by
  unfold zo_store at h
  obtain ⟨v, r, rfl, h2⟩ := zpop_iff h
  rcases zif_iff h2 with ⟨h3, h4⟩ | ⟨-, h4⟩
  · obtain ⟨k0, k1, k2, k3⟩ := zkd_iff h3
    obtain ⟨h5, hlow⟩ := zlow_iff h4
    rcases zif_iff h5 with ⟨-, h7⟩ | ⟨h6, -⟩
    · obtain ⟨o, ho, h8⟩ := zupd_iff h7
      obtain ⟨o2, ho2, h9⟩ := zupd_iff h8
      obtain ⟨hE, hM, hL, hLs, hS, hd⟩ := hR
      obtain ⟨x, t, rfl, hz, hS2⟩ := zSt_c hS
      have hz4 := zv_4 hz (k1 rfl)
      have hi : i + 1 < nL := by
        rw [← hLs.1]
        have h10 : i + 1 < (ls.set i v).length := (List.getElem?_eq_some_iff.mp ho2).1
        rwa [List.length_set] at h10
      rw [hz4] at hz
      refine row _ t (by rw [hz4]) hi (fun lsB hB => ?_)
      exact hKS _ _ _ _ _ _ _ _ _ _ h9 ⟨hE, hM, hL, zLs_2 hLs hz hlow hB, hS2, hd⟩
    · exact absurd rfl (zbeqF h6)
  · cases h4
theorem zw_iinc {i u : Nat} (hKS : zKS p l e R s mt args below meth c Q X cf y fs nL d k) (h : zo_iinc i u nx ax k w cf y pc ls st q fs m = true) (hR : zRl X s nL d w ls st q m H locs lsA stA)
    (row : ∀ (x : Int32), lsA[i]? = some (.val (.int x)) → i < nL → (∀ lsB, lv_has lsB nL ((i, .int (x + Int32.ofNat u)) :: (zlv lsA).filter (fun q => !(q.1 == i) && !(q.1 + 1 == i && q.2.category == 2))) → W p l e R s mt args below meth c H locs q.2.1 q.2.2 Q (F0 mt nx lsB stA)) → W p l e R s mt args below meth c H locs q.2.1 q.2.2 Q (F0 mt pc lsA stA)) : W p l e R s mt args below meth c H locs q.2.1 q.2.2 Q (F0 mt pc lsA stA) := by
  unfold zo_iinc at h
  simp only [zfr_eq, zn_m, zn_d, zn_a, zn_u] at h
  obtain ⟨v, hv, h2⟩ := znth_iff h
  obtain ⟨hE, hM, hL, hLs, hS, hd⟩ := hR
  have hi : i < nL := by rw [← hLs.1]; exact (List.getElem?_eq_some_iff.mp hv).1
  have fin : ∀ v2 : Nat, ¬ v = 13 → v % 8 ≤ 1 → (∀ x : Int32, zV X v (.int x) → zV X v2 (.int (x + Int32.ofNat u))) → zupd (fun _ k2 => k2 v2) ls i (fun l1 => k w cf y nx l1 st q fs m) = true → W p l e R s mt args below meth c H locs q.2.1 q.2.2 Q (F0 mt pc lsA stA) := by
    intro v2 hn h8 hx h5
    obtain ⟨o, ho, h6⟩ := zupd_iff h5
    obtain ⟨x', hx', hz⟩ := hLs.2.2.2 i v hv hn
    obtain ⟨x, rfl⟩ := zv_int hz (by omega)
    refine row x hx' hi (fun lsB hB => ?_)
    refine hKS _ _ _ _ _ _ _ _ _ _ h6 ⟨hE, hM, hL, zLs_1 hLs (hx x hz) (fun j c hj hc h4 => ?_) hB, hS, hd⟩
    obtain ⟨xj, hxj, hzj⟩ := hLs.2.2.2 j c hc (by omega)
    have hw := hLs.2.2.1.1 j xj hxj (by rw [zv_cat hzj, if_pos h4])
    rw [hj, hx'] at hw
    cases hw
  rcases zif_iff h2 with ⟨h3, h4⟩ | ⟨h3, h4⟩
  · have e8 := zbeqT h3
    refine fin _ (by omega) (by omega) (fun x hx => ?_) h4
    have e1 := Value.int.inj (zv_0 hx e8)
    rw [e1, ← zf_add_ok]
    exact zv_mk rfl
  rcases zif_iff h4 with ⟨h5, h6⟩ | ⟨h5, h6⟩
  · have e8 := zbeqT h5
    exact fin _ (by omega) (by omega) (fun x hx => zaff_ok e8 hx) h6
  · cases h6
theorem zw_bin {f : Nat → Nat → Nat} {g : Nat} {F : Int32 → Int32 → Int32} (hf : ∀ u v, Int32.ofNat (f u v) = F (Int32.ofNat u) (Int32.ofNat v)) (hg : zAbs g F) (hKS : zKS p l e R s mt args below meth c Q X cf y fs nL d k) (h : zo_bin f g nx ax k w cf y pc ls st q fs m = true) (hR : zRl X s nL d w ls st q m H locs lsA stA)
    (row : ∀ (x z : Int32) (r : List Value), stA = .int z :: .int x :: r → W p l e R s mt args below meth c H locs q.2.1 q.2.2 Q (F0 mt nx lsA (.int (F x z) :: r)) → W p l e R s mt args below meth c H locs q.2.1 q.2.2 Q (F0 mt pc lsA stA)) : W p l e R s mt args below meth c H locs q.2.1 q.2.2 Q (F0 mt pc lsA stA) := by
  unfold zo_bin at h
  simp only [zfr_eq, zn_m, zn_d, zn_u] at h
  obtain ⟨b, t, es, h'⟩ := zpop_iff h
  clear h
  have h := h'
  clear h'
  subst es
  obtain ⟨a, r, es, h'⟩ := zpop_iff h
  clear h
  have h := h'
  clear h'
  subst es
  obtain ⟨y', stB, rfl, hb, hS2⟩ := zSt_c hR.2.2.2.2.1
  obtain ⟨x', stC, rfl, ha, hS3⟩ := zSt_c hS2
  rcases zif_iff h with ⟨h1, h2⟩ | ⟨-, h2⟩
  · have e0 : (a ||| b) % 2 ^ 3 = 0 := zbeqT h1
    rw [Nat.or_mod_two_pow] at e0
    have e1 : a % 8 = 0 := by
      have := Nat.left_le_or (n := a % 2 ^ 3) (m := b % 2 ^ 3)
      omega
    have e2 : b % 8 = 0 := by
      have := Nat.right_le_or (n := a % 2 ^ 3) (m := b % 2 ^ 3)
      omega
    have ea := zv_0 ha e1
    have eb := zv_0 hb e2
    subst ea
    subst eb
    exact row _ _ stC rfl (zgo hKS h2 hR rfl hR.1 ⟨zv_mk (hf _ _), hS3⟩)
  · rcases zslow_iff (F := F) h2 hR.1 ha hb hf hg (fun q => by cases q) with ⟨w2, e1, E2, h3⟩ | ⟨x, z, v, rfl, rfl, -, hv, h3⟩
    · exact zgo hKS h3 hR e1 E2 hR.2.2.2.2.1
    · exact row _ _ stC rfl (zgo hKS h3 hR rfl hR.1 ⟨hv, hS3⟩)
theorem zw_div {f : Nat → Nat → Nat} {g : Nat} {F : Int32 → Int32 → Int32} (hf : ∀ u v, Int32.ofNat (f u v) = F (Int32.ofNat u) (Int32.ofNat v)) (hg : zAbs g F) (hg5 : g = 5 ∨ g = 0) (hKS : zKS p l e R s mt args below meth c Q X cf y fs nL d k) (h : zo_div f g nx ax k w cf y pc ls st q fs m = true) (hR : zRl X s nL d w ls st q m H locs lsA stA)
    (row : ∀ (x z : Int32) (r : List Value), stA = .int z :: .int x :: r → ¬ z = 0 → W p l e R s mt args below meth c H locs q.2.1 q.2.2 Q (F0 mt nx lsA (.int (F x z) :: r)) → W p l e R s mt args below meth c H locs q.2.1 q.2.2 Q (F0 mt pc lsA stA)) : W p l e R s mt args below meth c H locs q.2.1 q.2.2 Q (F0 mt pc lsA stA) := by
  unfold zo_div at h
  simp only [zfr_eq, zn_m, zn_d, zn_u] at h
  obtain ⟨b, t, es, h'⟩ := zpop_iff h
  clear h
  have h := h'
  clear h'
  subst es
  obtain ⟨a, r, es, h'⟩ := zpop_iff h
  clear h
  have h := h'
  clear h'
  subst es
  obtain ⟨y', stB, rfl, hb, hS2⟩ := zSt_c hR.2.2.2.2.1
  obtain ⟨x', stC, rfl, ha, hS3⟩ := zSt_c hS2
  rcases zif_iff h with ⟨h1, h2⟩ | ⟨-, h2⟩
  · obtain ⟨h1, h5⟩ := zand_iff h1
    have e0 : (a ||| b) % 2 ^ 3 = 0 := zbeqT h1
    rw [Nat.or_mod_two_pow] at e0
    have e1 : a % 8 = 0 := by
      have := Nat.left_le_or (n := a % 2 ^ 3) (m := b % 2 ^ 3)
      omega
    have e2 : b % 8 = 0 := by
      have := Nat.right_le_or (n := a % 2 ^ 3) (m := b % 2 ^ 3)
      omega
    have ea := zv_0 ha e1
    have eb := zv_0 hb e2
    subst ea
    subst eb
    refine row _ _ stC rfl (fun z => ?_) (zgo hKS h2 hR rfl hR.1 ⟨zv_mk (hf _ _), hS3⟩)
    have h6 := zbleT h5
    have e5 : (Int32.ofNat (b / 8)).toBitVec.toNat = (0 : Int32).toBitVec.toNat := by rw [z]
    rw [zN_of] at e5
    have e6 : (0 : Int32).toBitVec.toNat = 0 := by decide
    omega
  · rcases zslow_iff (F := F) h2 hR.1 ha hb hf hg (fun _ => hg5) with ⟨w2, e1, E2, h3⟩ | ⟨x, z, v, rfl, rfl, hz, hv, h3⟩
    · exact zgo hKS h3 hR e1 E2 hR.2.2.2.2.1
    · exact row _ _ stC rfl (hz rfl) (zgo hKS h3 hR rfl hR.1 ⟨hv, hS3⟩)
theorem zw_un {f : Nat → Nat} {g : Nat} {F : Int32 → Value} (hf : ∀ u, zV X (f u) (F (Int32.ofNat u))) (hg : g = 1 → ∀ x, ∃ z, F x = .int z) (hKS : zKS p l e R s mt args below meth c Q X cf y fs nL d k) (h : zo_un f g nx ax k w cf y pc ls st q fs m = true) (hR : zRl X s nL d w ls st q m H locs lsA stA)
    (row : ∀ (x : Int32) (r : List Value), stA = .int x :: r → W p l e R s mt args below meth c H locs q.2.1 q.2.2 Q (F0 mt nx lsA (F x :: r)) → W p l e R s mt args below meth c H locs q.2.1 q.2.2 Q (F0 mt pc lsA stA)) : W p l e R s mt args below meth c H locs q.2.1 q.2.2 Q (F0 mt pc lsA stA) := by
  unfold zo_un at h
  simp only [zfr_eq] at h
  obtain ⟨a, r, es, h'⟩ := zpop_iff h
  clear h
  have h := h'
  clear h'
  subst es
  obtain ⟨x', stB, rfl, ha, hS2⟩ := zSt_c hR.2.2.2.2.1
  rcases zhalf_iff h hR.1 ha with ⟨w2, e1, E2, h3⟩ | h
  · exact zgo hKS h3 hR e1 E2 hR.2.2.2.2.1
  rcases zkn_iff h hR.1 ha with ⟨u, rfl, h⟩ | h
  · exact row _ stB rfl (zgo hKS h hR rfl hR.1 ⟨hf u, hS2⟩)
  rcases zif_iff h with ⟨h1, h2⟩ | ⟨-, h2⟩
  · obtain ⟨x, lo, hi, rfl, -, -, h3⟩ := zbd_iff h2 hR.1 ha
    obtain ⟨z, hz⟩ := hg (zbeqT h1) x
    refine row x stB rfl ?_
    rw [hz]
    exact zgo hKS h3 hR rfl hR.1 ⟨zv_any z, hS2⟩
  · cases h2
theorem zw_lun {f : Nat → Nat} {F : Int64 → Value} (hf : ∀ u, zV X (f u) (F (Int64.ofNat u))) (hKS : zKS p l e R s mt args below meth c Q X cf y fs nL d k) (h : zo_lun f nx ax k w cf y pc ls st q fs m = true) (hR : zRl X s nL d w ls st q m H locs lsA stA)
    (row : ∀ (x : Int64) (r : List Value), stA = .long x :: r → W p l e R s mt args below meth c H locs q.2.1 q.2.2 Q (F0 mt nx lsA (F x :: r)) → W p l e R s mt args below meth c H locs q.2.1 q.2.2 Q (F0 mt pc lsA stA)) : W p l e R s mt args below meth c H locs q.2.1 q.2.2 Q (F0 mt pc lsA stA) := by
  unfold zo_lun at h
  simp only [zfr_eq, zn_m, zn_d] at h
  obtain ⟨a, r, es, h'⟩ := zpop_iff h
  clear h
  have h := h'
  clear h'
  subst es
  obtain ⟨x', stB, rfl, ha, hS2⟩ := zSt_c hR.2.2.2.2.1
  rcases zif_iff h with ⟨h1, h2⟩ | ⟨-, h2⟩
  · have e := zv_4 ha (zbeqT h1)
    subst e
    exact row _ stB rfl (zgo hKS h2 hR rfl hR.1 ⟨hf _, hS2⟩)
  · cases h2
theorem zw_lbin {f : Nat → Nat → Nat} {dv : Bool} {F : Int64 → Int64 → Value} (hf : ∀ u v, zV X (f u v) (F (Int64.ofNat u) (Int64.ofNat v))) (hKS : zKS p l e R s mt args below meth c Q X cf y fs nL d k) (h : zo_lbin dv f nx ax k w cf y pc ls st q fs m = true) (hR : zRl X s nL d w ls st q m H locs lsA stA)
    (row : ∀ (x z : Int64) (r : List Value), stA = .long z :: .long x :: r → (dv = true → ¬ z = 0) → W p l e R s mt args below meth c H locs q.2.1 q.2.2 Q (F0 mt nx lsA (F x z :: r)) → W p l e R s mt args below meth c H locs q.2.1 q.2.2 Q (F0 mt pc lsA stA)) : W p l e R s mt args below meth c H locs q.2.1 q.2.2 Q (F0 mt pc lsA stA) := by
  unfold zo_lbin at h
  simp only [zfr_eq, zn_m, zn_d] at h
  obtain ⟨b, t, es, h'⟩ := zpop_iff h
  clear h
  have h := h'
  clear h'
  subst es
  obtain ⟨a, r, es, h'⟩ := zpop_iff h
  clear h
  have h := h'
  clear h'
  subst es
  obtain ⟨y', stB, rfl, hb, hS2⟩ := zSt_c hR.2.2.2.2.1
  obtain ⟨x', stC, rfl, ha, hS3⟩ := zSt_c hS2
  rcases zif_iff h with ⟨h1, h2⟩ | ⟨-, h2⟩
  · obtain ⟨g1, g2⟩ := zand_iff h1
    have ea := zv_4 ha (zbeqT g1)
    have eb := zv_4 hb (zbeqT g2)
    subst ea
    subst eb
    rcases zif_iff h2 with ⟨-, h3⟩ | ⟨h4, h3⟩
    · cases h3
    · refine row _ _ stC rfl (fun z z0 => ?_) (zgo hKS h3 hR rfl hR.1 ⟨hf _ _, hS3⟩)
      rw [z] at h4
      have h5 : Nat.beq (b / 8 % 18446744073709551616) 0 = false := h4
      have e5 : (Int64.ofNat (b / 8)).toBitVec.toNat = (0 : Int64).toBitVec.toNat := by rw [z0]
      have e6 : (Int64.ofNat (b / 8)).toBitVec.toNat = b / 8 % 18446744073709551616 := by simp
      rw [e6] at e5
      exact zbeqF h5 e5
  · cases h2
theorem zw_lsh {f : Nat → Nat → Nat} {F : Int64 → Int32 → Value} (hf : ∀ u v, zV X (f u v) (F (Int64.ofNat u) (Int32.ofNat v))) (hKS : zKS p l e R s mt args below meth c Q X cf y fs nL d k) (h : zo_lsh f nx ax k w cf y pc ls st q fs m = true) (hR : zRl X s nL d w ls st q m H locs lsA stA)
    (row : ∀ (x : Int64) (z : Int32) (r : List Value), stA = .int z :: .long x :: r → W p l e R s mt args below meth c H locs q.2.1 q.2.2 Q (F0 mt nx lsA (F x z :: r)) → W p l e R s mt args below meth c H locs q.2.1 q.2.2 Q (F0 mt pc lsA stA)) : W p l e R s mt args below meth c H locs q.2.1 q.2.2 Q (F0 mt pc lsA stA) := by
  unfold zo_lsh at h
  simp only [zfr_eq, zn_m, zn_d] at h
  obtain ⟨b, t, es, h'⟩ := zpop_iff h
  clear h
  have h := h'
  clear h'
  subst es
  obtain ⟨a, r, es, h'⟩ := zpop_iff h
  clear h
  have h := h'
  clear h'
  subst es
  obtain ⟨y', stB, rfl, hb, hS2⟩ := zSt_c hR.2.2.2.2.1
  obtain ⟨x', stC, rfl, ha, hS3⟩ := zSt_c hS2
  rcases zif_iff h with ⟨h1, h2⟩ | ⟨-, h2⟩
  · obtain ⟨g1, g2⟩ := zand_iff h1
    have ea := zv_4 ha (zbeqT g1)
    have eb := zv_0 hb (zbeqT g2)
    subst ea
    subst eb
    exact row _ _ stC rfl (zgo hKS h2 hR rfl hR.1 ⟨hf _ _, hS3⟩)
  · cases h2
theorem z1_iff {v : Nat} {x : Value} (h : z1 v = true) (hv : zV X v x) : x.category = 1 := by
  have h2 : v % 8 ≤ 3 := zbleT h
  rw [zv_cat hv, if_neg (by omega)]
theorem zw_dup (hKS : zKS p l e R s mt args below meth c Q X cf y fs nL d k) (h : zo_dup nx ax k w cf y pc ls st q fs m = true) (hR : zRl X s nL d w ls st q m H locs lsA stA)
    (row : ∀ (x : Value) (r : List Value), stA = x :: r → x.category = 1 → W p l e R s mt args below meth c H locs q.2.1 q.2.2 Q (F0 mt nx lsA (x :: x :: r)) → W p l e R s mt args below meth c H locs q.2.1 q.2.2 Q (F0 mt pc lsA stA)) : W p l e R s mt args below meth c H locs q.2.1 q.2.2 Q (F0 mt pc lsA stA) := by
  unfold zo_dup at h
  obtain ⟨a, r, es, h'⟩ := zpop_iff h
  clear h
  have h := h'
  clear h'
  subst es
  obtain ⟨x', stB, rfl, ha, hS2⟩ := zSt_c hR.2.2.2.2.1
  rcases zif_iff h with ⟨h1, h2⟩ | ⟨-, h2⟩
  · exact row _ stB rfl (z1_iff h1 ha) (zgo hKS h2 hR rfl hR.1 ⟨ha, ha, hS2⟩)
  · cases h2
theorem zw_dup2 (hKS : zKS p l e R s mt args below meth c Q X cf y fs nL d k) (h : zo_dup2 nx ax k w cf y pc ls st q fs m = true) (hR : zRl X s nL d w ls st q m H locs lsA stA)
    (row : ∀ (x z : Value) (r : List Value), stA = x :: z :: r → x.category = 1 → z.category = 1 → W p l e R s mt args below meth c H locs q.2.1 q.2.2 Q (F0 mt nx lsA (x :: z :: x :: z :: r)) → W p l e R s mt args below meth c H locs q.2.1 q.2.2 Q (F0 mt pc lsA stA)) : W p l e R s mt args below meth c H locs q.2.1 q.2.2 Q (F0 mt pc lsA stA) := by
  unfold zo_dup2 at h
  obtain ⟨a, t, es, h'⟩ := zpop_iff h
  clear h
  have h := h'
  clear h'
  subst es
  obtain ⟨b, r, es, h'⟩ := zpop_iff h
  clear h
  have h := h'
  clear h'
  subst es
  obtain ⟨x', stB, rfl, ha, hS2⟩ := zSt_c hR.2.2.2.2.1
  obtain ⟨y', stC, rfl, hb, hS3⟩ := zSt_c hS2
  rcases zif_iff h with ⟨h1, h2⟩ | ⟨-, h2⟩
  · obtain ⟨g1, g2⟩ := zand_iff h1
    exact row _ _ stC rfl (z1_iff g1 ha) (z1_iff g2 hb) (zgo hKS h2 hR rfl hR.1 ⟨ha, hb, ha, hb, hS3⟩)
  · cases h2
theorem zw_pop (hKS : zKS p l e R s mt args below meth c Q X cf y fs nL d k) (h : zo_pop nx ax k w cf y pc ls st q fs m = true) (hR : zRl X s nL d w ls st q m H locs lsA stA)
    (row : ∀ (x : Value) (r : List Value), stA = x :: r → x.category = 1 → W p l e R s mt args below meth c H locs q.2.1 q.2.2 Q (F0 mt nx lsA r) → W p l e R s mt args below meth c H locs q.2.1 q.2.2 Q (F0 mt pc lsA stA)) : W p l e R s mt args below meth c H locs q.2.1 q.2.2 Q (F0 mt pc lsA stA) := by
  unfold zo_pop at h
  obtain ⟨a, r, es, h'⟩ := zpop_iff h
  clear h
  have h := h'
  clear h'
  subst es
  obtain ⟨x', stB, rfl, ha, hS2⟩ := zSt_c hR.2.2.2.2.1
  rcases zif_iff h with ⟨h1, h2⟩ | ⟨-, h2⟩
  · exact row _ stB rfl (z1_iff h1 ha) (zgo hKS h2 hR rfl hR.1 hS2)
  · cases h2
theorem zw_goto (hKS : zKS p l e R s mt args below meth c Q X cf y fs nL d k) (h : zo_goto nx ax k w cf y pc ls st q fs m = true) (hR : zRl X s nL d w ls st q m H locs lsA stA)
    (row : W p l e R s mt args below meth c H locs q.2.1 q.2.2 Q (F0 mt ax lsA stA) → W p l e R s mt args below meth c H locs q.2.1 q.2.2 Q (F0 mt pc lsA stA)) : W p l e R s mt args below meth c H locs q.2.1 q.2.2 Q (F0 mt pc lsA stA) :=
  row (zgo hKS (st2 := st) h hR rfl hR.1 hR.2.2.2.2.1)
/-- a branch's two ways, by what holds: P (as it stands) or not -/
theorem zbr {o tn : Bool} {w2 : zW} {r : List Nat} {stB : List Value} (hKS : zKS p l e R s mt args below meth c Q X cf y fs nL d k) (h : zif (zif tn (zif o false true) o) (k w2 cf y ax ls r q fs m) (k w2 cf y nx ls r q fs m) = true) (hR : zRl X s nL d w ls st q m H locs lsA stA) (e1 : w2.1 = w.1) (hE : zEnv (zρ X) w2.2) (h2 : zSt X r stB) :
    (o = !tn → W p l e R s mt args below meth c H locs q.2.1 q.2.2 Q (F0 mt ax lsA stB)) ∧ (o = tn → W p l e R s mt args below meth c H locs q.2.1 q.2.2 Q (F0 mt nx lsA stB)) := by
  cases o <;> cases tn
  · exact ⟨fun z => absurd z (by decide), fun _ => zgo hKS (st2 := r) h hR e1 hE h2⟩
  · exact ⟨fun _ => zgo hKS (st2 := r) h hR e1 hE h2, fun z => absurd z (by decide)⟩
  · exact ⟨fun _ => zgo hKS (st2 := r) h hR e1 hE h2, fun z => absurd z (by decide)⟩
  · exact ⟨fun z => absurd z (by decide), fun _ => zgo hKS (st2 := r) h hR e1 hE h2⟩
theorem zw_cmp {g sw tn : Bool} (hKS : zKS p l e R s mt args below meth c Q X cf y fs nL d k) (h : zo_cmp g sw tn nx ax k w cf y pc ls st q fs m = true) (hR : zRl X s nL d w ls st q m H locs lsA stA)
    (row : ∀ (x z : Int32) (r : List Value), stA = .int z :: .int x :: r → ((if g then x = z else if sw then z < x else x < z) → W p l e R s mt args below meth c H locs q.2.1 q.2.2 Q (F0 mt (if tn then nx else ax) lsA r)) → (¬ (if g then x = z else if sw then z < x else x < z) → W p l e R s mt args below meth c H locs q.2.1 q.2.2 Q (F0 mt (if tn then ax else nx) lsA r)) → W p l e R s mt args below meth c H locs q.2.1 q.2.2 Q (F0 mt pc lsA stA)) : W p l e R s mt args below meth c H locs q.2.1 q.2.2 Q (F0 mt pc lsA stA) := by
  unfold zo_cmp at h
  obtain ⟨b, t, es, h'⟩ := zpop_iff h
  clear h
  have h := h'
  clear h'
  subst es
  obtain ⟨a, r, es, h'⟩ := zpop_iff h
  clear h
  have h := h'
  clear h'
  subst es
  obtain ⟨y', stB, rfl, hb, hS2⟩ := zSt_c hR.2.2.2.2.1
  obtain ⟨x', stC, rfl, ha, hS3⟩ := zSt_c hS2
  have fin : ∀ (P : Prop) (x z : Int32), x' = .int x → y' = .int z → (P ↔ (if g then x = z else if sw then z < x else x < z)) → ((P ∧ ∃ w2 : zW, w2.1 = w.1 ∧ zEnv (zρ X) w2.2 ∧ zif (zif tn (zif true false true) true) (k w2 cf y ax ls r q fs m) (k w2 cf y nx ls r q fs m) = true) ∨ (¬ P ∧ ∃ w2 : zW, w2.1 = w.1 ∧ zEnv (zρ X) w2.2 ∧ zif (zif tn (zif false false true) false) (k w2 cf y ax ls r q fs m) (k w2 cf y nx ls r q fs m) = true)) → W p l e R s mt args below meth c H locs q.2.1 q.2.2 Q (F0 mt pc lsA (y' :: x' :: stC)) := by
    intro P x z ex ez hP hh
    subst ex
    subst ez
    rcases hh with ⟨hp, w2, e1, E2, h3⟩ | ⟨hp, w2, e1, E2, h3⟩
    · obtain ⟨b1, b2⟩ := zbr (o := true) hKS h3 hR e1 E2 hS3
      refine row x z stC rfl (fun _ => ?_) (fun n => absurd (hP.mp hp) n)
      cases tn
      · exact b1 rfl
      · exact b2 rfl
    · obtain ⟨b1, b2⟩ := zbr (o := false) hKS h3 hR e1 E2 hS3
      refine row x z stC rfl (fun n => absurd (hP.mpr n) hp) (fun _ => ?_)
      cases tn
      · exact b2 rfl
      · exact b1 rfl
  cases g with
  | true =>
    rw [zif_t] at h
    obtain ⟨x, z, e1, e2, hh⟩ := zeq_iff h hR.1 ha hb
    exact fin (x = z) x z e1 e2 (by rw [if_pos rfl]) hh
  | false =>
    cases sw with
    | true =>
      simp only [zif_t, zif_f] at h
      obtain ⟨z, x, e2, e1, hh⟩ := zlt_iff h hR.1 hb ha
      exact fin (z < x) x z e1 e2 (by rw [if_neg (by decide), if_pos rfl]) hh
    | false =>
      simp only [zif_f] at h
      obtain ⟨x, z, e1, e2, hh⟩ := zlt_iff h hR.1 ha hb
      exact fin (x < z) x z e1 e2 (by rw [if_neg (by decide), if_neg (by decide)]) hh
theorem zv_zero : zV X 0 (.int 0) := Or.inl ⟨by omega, rfl⟩
theorem zw_cmp0 {g sw tn : Bool} (hKS : zKS p l e R s mt args below meth c Q X cf y fs nL d k) (h : zo_cmp0 g sw tn nx ax k w cf y pc ls st q fs m = true) (hR : zRl X s nL d w ls st q m H locs lsA stA)
    (row : ∀ (x : Int32) (r : List Value), stA = .int x :: r → ((if g then x = 0 else if sw then 0 < x else x < 0) → W p l e R s mt args below meth c H locs q.2.1 q.2.2 Q (F0 mt (if tn then nx else ax) lsA r)) → (¬ (if g then x = 0 else if sw then 0 < x else x < 0) → W p l e R s mt args below meth c H locs q.2.1 q.2.2 Q (F0 mt (if tn then ax else nx) lsA r)) → W p l e R s mt args below meth c H locs q.2.1 q.2.2 Q (F0 mt pc lsA stA)) : W p l e R s mt args below meth c H locs q.2.1 q.2.2 Q (F0 mt pc lsA stA) := by
  unfold zo_cmp0 at h
  obtain ⟨a, r, es, h'⟩ := zpop_iff h
  clear h
  have h := h'
  clear h'
  subst es
  obtain ⟨x', stC, rfl, ha, hS3⟩ := zSt_c hR.2.2.2.2.1
  have hb : zV X 0 (.int 0) := zv_zero
  have fin : ∀ (P : Prop) (x : Int32), x' = .int x → (P ↔ (if g then x = 0 else if sw then 0 < x else x < 0)) → ((P ∧ ∃ w2 : zW, w2.1 = w.1 ∧ zEnv (zρ X) w2.2 ∧ zif (zif tn (zif true false true) true) (k w2 cf y ax ls r q fs m) (k w2 cf y nx ls r q fs m) = true) ∨ (¬ P ∧ ∃ w2 : zW, w2.1 = w.1 ∧ zEnv (zρ X) w2.2 ∧ zif (zif tn (zif false false true) false) (k w2 cf y ax ls r q fs m) (k w2 cf y nx ls r q fs m) = true)) → W p l e R s mt args below meth c H locs q.2.1 q.2.2 Q (F0 mt pc lsA (x' :: stC)) := by
    intro P x ex hP hh
    subst ex
    rcases hh with ⟨hp, w2, e1, E2, h3⟩ | ⟨hp, w2, e1, E2, h3⟩
    · obtain ⟨b1, b2⟩ := zbr (o := true) hKS h3 hR e1 E2 hS3
      refine row x stC rfl (fun _ => ?_) (fun n => absurd (hP.mp hp) n)
      cases tn
      · exact b1 rfl
      · exact b2 rfl
    · obtain ⟨b1, b2⟩ := zbr (o := false) hKS h3 hR e1 E2 hS3
      refine row x stC rfl (fun n => absurd (hP.mpr n) hp) (fun _ => ?_)
      cases tn
      · exact b2 rfl
      · exact b1 rfl
  cases g with
  | true =>
    rw [zif_t] at h
    obtain ⟨x, z, e1, e2, hh⟩ := zeq_iff h hR.1 ha hb
    have e3 := (Value.int.inj e2).symm
    subst e3
    exact fin (x = 0) x e1 (by rw [if_pos rfl]) hh
  | false =>
    cases sw with
    | true =>
      simp only [zif_t, zif_f] at h
      obtain ⟨z, x, e2, e1, hh⟩ := zlt_iff h hR.1 hb ha
      have e3 := (Value.int.inj e2).symm
      subst e3
      exact fin (0 < x) x e1 (by rw [if_neg (by decide), if_pos rfl]) hh
    | false =>
      simp only [zif_f] at h
      obtain ⟨x, z, e1, e2, hh⟩ := zlt_iff h hR.1 ha hb
      have e3 := (Value.int.inj e2).symm
      subst e3
      exact fin (x < 0) x e1 (by rw [if_neg (by decide), if_neg (by decide)]) hh
end ZR
end
section
/-! THE MACHINE's STEPS: fields, arrays, making -/
def zTs : List Cond := lw_tbl.filter zgood
section ZM
variable {p : Program} {l : Launch} {e : Env} {R : Room} {s : State} {mt : MethodId} {args : Array Value} {below : List Frame} {meth : Method} {c : Code} {Q : State → Prop} {X : zCx} {cf : Nat → zT} {y : zY} {fs : List zFr} {nL : Nat} {d : Nat × Nat × Nat} {k : zK}
variable {w : zW} {pc nx ax : Nat} {ls st : List Nat} {q : zQ} {m : zM} {H : Heap} {locs : List Loc} {lsA : Array Slot} {stA : List Value} {own : String} {cc : ByteArray} {idx pp : Nat}
theorem zword (hK : zKn X s) {v : Cond} (h : v ∈ lw_tbl) (hg : zgood v = true) : v.before args s = true := hK.1 v h hg args
theorem zTs_ok (hK : zKn X s) : ∀ v ∈ zTs, v.before args s = true := fun v h => hK.1 v (List.mem_filter.mp h).1 (List.mem_filter.mp h).2 args
theorem zTs_in {cI : Nat} (h : cI < 12) : ∀ v ∈ u_ws (zcn cI) (zTX cI) (zxCn cI), v ∈ zTs := by
  intro v hv
  obtain ⟨j, hj, rfl⟩ := List.mem_map.mp hv
  obtain ⟨h1, h2⟩ := zlays cI h j (List.mem_range.mp hj)
  exact List.mem_filter.mpr ⟨h1, h2⟩
theorem zapart (hK : zKn X s) {cI : Nat} (h : cI < 12) : ∀ a b, a < zxCn cI → b < zxCn cI → a ≠ b → zdI X cI a ≠ zdI X cI b :=
  va_apart (own := "") (args := #[]) (s := s) (D := (zdC X, zdI X)) (cl := vwCl) (tys := []) (ci := cI) (zTs_ok hK) (zTs_in h) (ztyX cI) (ztys cI h) (znms cI h) ⟨hK.2.1, fun k q h => by simp at h⟩ (zvw cI h)
theorem zlowH (hM : zMem X s w.1 m H) : ∀ a : Nat, a < (zH0 X).size → ¬ zUp X a → H[a]? = (zH0 X)[a]? := fun a _ h => hM.2.2.2 a (Nat.not_le.mp h)
theorem zhigh {a : Nat} (h : 90000 ≤ a) : zad X a = zhi X a := by
  unfold zad
  rw [if_neg (by omega)]
theorem zw_getf (hexec : p.tables.exec = Jvm.exec) (hb : c.code = cc) (hown : s.vm.findClass own = some mt.cls) (hK : zKn X s) (hlk : zlf own idx ax pp = true) (hdg : decode cc pc = .ok (.getfield idx, 3)) (hnx : nx = pc + 3)
    (hKS : zKS p l e R s mt args below meth c Q X cf y fs nL d k) (h : zo_getf nx ax k w cf y pc ls st q fs m = true) (hR : zRl X s nL d w ls st q m H locs lsA stA) : W p l e R s mt args below meth c H locs q.2.1 q.2.2 Q (F0 mt pc lsA stA) := by
  subst hnx
  unfold zo_getf at h
  simp only [zfr_eq, zn_m, zn_d, zn_a, zn_s, zn_c] at h
  obtain ⟨a, r, es, h'⟩ := zpop_iff h
  clear h
  have h := h'
  clear h'
  subst es
  obtain ⟨x', stB, rfl, ha, hS2⟩ := zSt_c hR.2.2.2.2.1
  rcases zif_iff h with ⟨h1, h⟩ | ⟨-, h⟩
  rotate_left
  · cases h
  have ea := zv_3 ha (zbeqT h1)
  have e8 : a % 8 = 3 := zbeqT h1
  subst ea
  have hlow := zlowH (w := w) hR.2.1
  rcases zif_iff h with ⟨h2, h⟩ | ⟨h2, h⟩
  · have h2 := zbleT h2
    rcases zif_iff h with ⟨h3, h⟩ | ⟨-, h⟩
    rotate_left
    · cases h
    have h3 : a / 8 - 100000 + 1 ≤ 30 := zbleT h3
    obtain ⟨i, hi⟩ : ∃ i, a / 8 = 100000 + i := ⟨a / 8 - 100000, by omega⟩
    obtain ⟨-, -, hCo, hVa, -⟩ := hK.2.2.2.1 i (by omega)
    rw [hi, zhigh (by omega)] at ha ⊢
    unfold zlf at hlk
    rcases zif_iff h with ⟨h4, h⟩ | ⟨h4, h⟩
    · rw [if_pos (zbeqT h4), decide_eq_true_eq] at hlk
      have hln := zword (args := args) hK (zwd_mem hlk) rfl
      obtain ⟨cf0, kk, fi, f, cell, g1, g2, g3, g4, g5, g6⟩ := hVa.kept hlow
      refine W.getf hexec hb hown hln g1 g2 g3 g4 (v := .ref (zhi X (200000 + i))) g5 rfl rfl hdg (zgo hKS h hR rfl hR.1 ⟨?_, hS2⟩)
      have e9 : a + 800000 = 8 * (200000 + i) + 3 := by omega
      rw [e9, ← zhigh (X := X) (a := 200000 + i) (by omega)]
      exact zv_ref _
    · rcases zif_iff h with ⟨h5, h⟩ | ⟨-, h⟩
      rotate_left
      · cases h
      rw [if_neg (zbeqF h4), if_pos (zbeqT h5), decide_eq_true_eq] at hlk
      have hln := zword (args := args) hK (zwd_mem hlk) rfl
      obtain ⟨cf0, kk, fi, f, cell, g1, g2, g3, g4, g5, g6⟩ := hCo.kept hlow
      exact W.getf hexec hb hown hln g1 g2 g3 g4 (v := .int 0) g5 rfl rfl hdg (zgo hKS h hR rfl hR.1 ⟨zv_zero, hS2⟩)
  · obtain ⟨⟨tg, ln, ct⟩, hg, h⟩ := zget_iff h
    dsimp only at h
    rcases zif_iff h with ⟨h3, h⟩ | ⟨-, h⟩
    rotate_left
    · cases h
    have h3 : tg = ax / 64 := zbeqT h3
    obtain ⟨v, hv, h⟩ := zget_iff h
    unfold zlf at hlk
    by_cases n1 : ax = 832
    · obtain ⟨-, -, hc⟩ := hR.2.1.get hg (by dsimp only; omega)
      exfalso
      rcases hc with ⟨q1, -⟩ | ⟨ty, cA, f, q1, -⟩
      · have : tg < 12 := q1
        omega
      · have : zty tg = some ty := q1
        rw [h3, n1] at this
        cases this
    by_cases n2 : ax = 833
    · obtain ⟨-, -, hc⟩ := hR.2.1.get hg (by dsimp only; omega)
      exfalso
      rcases hc with ⟨q1, -⟩ | ⟨ty, cA, f, q1, -⟩
      · have : tg < 12 := q1
        omega
      · have : zty tg = some ty := q1
        rw [h3, n2] at this
        cases this
    rw [if_neg n1, if_neg n2] at hlk
    simp only [Bool.and_eq_true, Bool.or_eq_true, decide_eq_true_eq] at hlk
    obtain ⟨⟨hc12, hkN⟩, hlk⟩ := hlk
    have hfin := h
    subst h3
    obtain ⟨-, -, hc⟩ := hR.2.1.get hg (by dsimp only; omega)
    rcases hc with ⟨q1, cell, q2, q3, q4, q5⟩ | ⟨ty, cA, f, q1, -⟩
    rotate_left
    · exfalso
      have q1 : zty (ax / 64) = some ty := q1
      unfold zty at q1
      split at q1 <;> first | omega | cases q1
    obtain ⟨x, hx, hsl⟩ := q5 (ax % 64) v hkN hv
    obtain ⟨hSl, hfc, kC, hkC, hkind⟩ := hK.2.1 (ax / 64) _ (zvw _ hc12)
    obtain ⟨cf0, kf, fi, f, hi, hse⟩ := hSl (ax % 64) hkN
    have hstat := (u_facts (args := args) hfc hkC (u_lays (zTs_ok hK) (zTs_in hc12) hkN) hi).1
    rcases hlk with hlk | hlk
    · exact W.getf hexec hb hown (zword (args := args) hK (zwd_mem hlk) rfl) hi hstat q2 (by rw [q4]; exact fun z => by cases z) (v := x) (by rw [hse]; exact hsl) rfl rfl hdg (zgo hKS hfin hR rfl hR.1 ⟨hx, hS2⟩)
    · exact va_Wgetf hexec hb hown (zword (args := args) hK (zwd_mem hlk) rfl) hi hstat q2 (by rw [q4]; exact fun z => by cases z) (v := x) (by rw [hse]; exact hsl) rfl rfl hdg (zgo hKS hfin hR rfl hR.1 ⟨hx, hS2⟩)
theorem zfit_iff {g v : Nat} {x : Value} {ty : FieldType} (h : zfit g v = true) (hv : zV X v x) (ht : zkt ty = g) : narrow ty x = x ∧ fits ty x = true := by
  unfold zfit at h
  simp only [zn_m] at h
  rcases zif_iff h with ⟨h1, h⟩ | ⟨h1, h⟩
  · have e1 := zbeqT h1
    obtain ⟨n, rfl⟩ := zv_int hv (zbleT h)
    rw [e1] at ht
    cases ty <;> first | exact ⟨rfl, rfl⟩ | (exfalso; revert ht; decide) | (cases ht)
  rcases zif_iff h with ⟨h2, h⟩ | ⟨h2, h⟩
  · have e1 := zbeqT h2
    rw [e1] at ht
    have hx : x = .int 0 ∨ x = .int 1 := by
      rcases zif_iff h with ⟨h3, -⟩ | ⟨-, h3⟩
      · have e2 := zbeqT h3
        subst e2
        exact Or.inl (zv_0 hv rfl)
      · have e2 := zbeqT h3
        subst e2
        exact Or.inr (zv_0 hv rfl)
    cases ty <;> first | (rcases hx with rfl | rfl <;> exact ⟨by decide, by decide⟩) | (cases ht)
  rcases zif_iff h with ⟨h3, h⟩ | ⟨h3, h⟩
  · have e1 := zbeqT h3
    rw [e1] at ht
    have hx := zv_4 hv (zbeqT h)
    subst hx
    cases ty <;> first | exact ⟨rfl, rfl⟩ | (cases ht)
  rcases zif_iff h with ⟨h4, h⟩ | ⟨h4, h⟩
  · have e1 := zbeqT h4
    rw [e1] at ht
    have hx := zv_3 hv (zbeqT h)
    subst hx
    cases ty <;> first | exact ⟨rfl, rfl⟩ | (cases ht)
  · cases h
theorem zw_putf (hexec : p.tables.exec = Jvm.exec) (hb : c.code = cc) (hown : s.vm.findClass own = some mt.cls) (hK : zKn X s) (hlt : ax < 768) (hlk : zlf own idx ax pp = true) (hin : ¬ y.2.2.2.2 = 0 → meth.name = "<init>" ∧ own = zcn (y.2.2.2.2 - 1)) (hdg : decode cc pc = .ok (.putfield idx, 3)) (hnx : nx = pc + 3)
    (hKS : zKS p l e R s mt args below meth c Q X cf y fs nL d k) (h : zo_putf nx ax k w cf y pc ls st q fs m = true) (hR : zRl X s nL d w ls st q m H locs lsA stA) : W p l e R s mt args below meth c H locs q.2.1 q.2.2 Q (F0 mt pc lsA stA) := by
  subst hnx
  unfold zo_putf at h
  simp only [zfr_eq, zn_m, zn_d, zn_c] at h
  obtain ⟨v, t, es, h'⟩ := zpop_iff h
  clear h
  have h := h'
  clear h'
  subst es
  obtain ⟨a, r, es, h'⟩ := zpop_iff h
  clear h
  have h := h'
  clear h'
  subst es
  obtain ⟨x, stB, rfl, hv, hS2⟩ := zSt_c hR.2.2.2.2.1
  obtain ⟨a', stC, rfl, ha, hS3⟩ := zSt_c hS2
  rcases zif_iff h with ⟨h1, h⟩ | ⟨-, h⟩
  rotate_left
  · cases h
  obtain ⟨h1, h2⟩ := zand_iff h1
  obtain ⟨h2, h3⟩ := zand_iff h2
  have ea := zv_3 ha (zbeqT h1)
  subst ea
  obtain ⟨tg, ln, ct, hg, h⟩ := zcell_iff h
  rcases zif_iff h with ⟨h4, h⟩ | ⟨-, h⟩
  rotate_left
  · cases h
  have h4 : tg = ax / 64 := zbeqT h4
  subst h4
  obtain ⟨⟨o, ho⟩, h⟩ := zset_iff h
  unfold zlf at hlk
  rw [if_neg (by omega), if_neg (by omega)] at hlk
  simp only [Bool.and_eq_true, Bool.or_eq_true, decide_eq_true_eq] at hlk
  obtain ⟨⟨hc12, hkN⟩, hlk⟩ := hlk
  obtain ⟨ead, -, hc⟩ := hR.2.1.get hg (by dsimp only; omega)
  rcases hc with ⟨q1, cell, q2, q3, q4, q5⟩ | ⟨ty, cA, f, q1, -⟩
  rotate_left
  · exfalso
    have q1 : zty (ax / 64) = some ty := q1
    unfold zty at q1
    split at q1 <;> first | omega | cases q1
  obtain ⟨z1, z2, z3, -⟩ := zkks (ax / 64) hc12 (ax % 64) hkN
  have e64 : 64 * (ax / 64) + ax % 64 = ax := by omega
  rw [e64] at z1 z2
  obtain ⟨hnar, hfit⟩ := zfit_iff h2 hv z1
  obtain ⟨x0, hx0, hsl⟩ := q5 (ax % 64) o hkN ho
  obtain ⟨hSl, hfc, kC, hkC, hkind⟩ := hK.2.1 (ax / 64) _ (zvw _ hc12)
  obtain ⟨cf0, kf, fi, f, hi, hse⟩ := hSl (ax % 64) hkN
  have hul := u_lays (zTs_ok (args := args) hK) (zTs_in hc12) hkN
  have hstat := (u_facts (args := args) hfc hkC hul hi).1
  have hft := u_fits hfc hkC hkind hul hi (ztys (ax / 64) hc12 (ax % 64) hkN) hnar hfit
  have hlay := zTs_ok (args := args) hK _ (zTs_in hc12 _ (u_in_lay hkN))
  have hfin : hasFlag f.accessFlags Acc.final = false ∨ (mt.cls = cf0 ∧ meth.name = "<init>") := by
    cases hfl : (zTX (ax / 64) (ax % 64)).2.2.2 with
    | false =>
      unfold u_lay at hlay
      rw [if_neg (by rw [hfl]; decide)] at hlay
      exact Or.inl (u_store hfc hkC hkind hlay hi (ztys (ax / 64) hc12 (ax % 64) hkN) hnar hfit).1
    | true =>
      unfold u_lay at hlay
      rw [if_pos hfl] at hlay
      rw [hfl] at z2
      have z2 := zbleT z2.symm
      have h3 : Nat.beq y.2.2.2.2 (ax / 64 + 1) = true := by
        rcases zif_iff h3 with ⟨h5, -⟩ | ⟨-, h5⟩
        · have := zbleT h5
          omega
        · exact h5
      have h3 := zbeqT h3
      obtain ⟨hi1, hi2⟩ := hin (by omega)
      refine Or.inr ⟨?_, hi1⟩
      obtain ⟨_, _, c', _, _, _, -, -, hf', -, -, -, hown2, -⟩ := Cond.laysFinal_spec hlay
      have e1 : c' = cf0 := by have := hi.symm.trans hf'; simp at this; exact this.1.symm
      rw [z3] at hown2
      rw [hi2, h3, show ax / 64 + 1 - 1 = ax / 64 by omega] at hown
      rw [← e1]
      exact Option.some.inj (hown.symm.trans hown2)
  have hal : zad X (a / 8) < H.size := (Array.getElem?_eq_some_iff.mp q2).1
  have hslt : f.slot < cell.slots.size := by rw [hse]; exact k2_hasslot hsl
  have go : W p l e R s mt args below meth c (H.setIfInBounds (zad X (a / 8)) (cell.setSlot f.slot x)) (locs ++ [⟨zad X (a / 8), f.slot⟩]) q.2.1 q.2.2 Q (F0 mt (pc + 3) lsA stC) := by
    refine hKS _ _ _ _ _ _ _ _ _ _ h ⟨hR.1, hR.2.1.set hg (by dsimp only; omega) (by simp) (fun b hb => by simp [Array.getElem?_setIfInBounds, Ne.symm hb]) ?_, fun z hz => ?_, hR.2.2.2.1, hS3, hR.2.2.2.2.2⟩
    · refine Or.inl ⟨q1, cell.setSlot f.slot x, by simp [Array.getElem?_setIfInBounds, hal], q3, q4, fun j u hj hu => ?_⟩
      have hu : zG (zS ct (ax % 64) v) j = some u := hu
      rw [zG_set ho j] at hu
      have hj : j < zxCn (ax / 64) := hj
      by_cases hjk : j = ax % 64
      · rw [if_pos hjk] at hu
        cases hu
        refine ⟨x, hv, ?_⟩
        rw [hjk]
        show (cell.setSlot f.slot x).slots[zdI X (ax / 64) (ax % 64)]? = some x
        rw [hse]
        rw [hse] at hslt
        simp [Cell.setSlot, hslt]
      · rw [if_neg hjk] at hu
        obtain ⟨xu, hxu, hsu⟩ := q5 j u hj hu
        refine ⟨xu, hxu, ?_⟩
        have hne := zapart hK hc12 j (ax % 64) hj hkN hjk
        show (cell.setSlot f.slot x).slots[zdI X (ax / 64) j]? = some xu
        rw [hse]
        simp only [Cell.setSlot]
        rw [Array.getElem?_setIfInBounds_ne (fun q => hne q.symm)]
        exact hsu
    · rcases List.mem_append.mp hz with h6 | h6
      · exact hR.2.2.1 z h6
      · rw [List.mem_singleton] at h6
        rw [h6]
        show zbs X ≤ zad X (a / 8)
        rw [ead]; omega
  rcases hlk with hlk | hlk
  · exact W.putf hexec hb hown (zword (args := args) hK (zwd_mem hlk) rfl) hi hstat hfin q2 (by rw [q4]; exact fun z => by cases z) hslt hft.1 (by rw [q3, q4]; exact hft.2) rfl rfl hdg go
  · exact va_Wputf hexec hb hown (zword (args := args) hK (zwd_mem hlk) rfl) hi hstat hfin q2 (by rw [q4]; exact fun z => by cases z) hslt hft.1 (by rw [q3, q4]; exact hft.2) rfl rfl hdg go
theorem zw_new (hexec : p.tables.exec = Jvm.exec) (hb : c.code = cc) (hown : s.vm.findClass own = some mt.cls) (hK : zKn X s) (hlk : zwd pp = some (.classLink own idx (zcn ax))) (hmc : y.2.1 ≤ R.cells) (hms : y.2.2.1 ≤ R.slots) (hd1 : d.2.1 = y.2.1) (hd2 : d.2.2 = y.2.2.1) (hdg : decode cc pc = .ok (.new idx, 3)) (hnx : nx = pc + 3)
    (hKS : zKS p l e R s mt args below meth c Q X cf y fs nL d k) (h : zo_new nx ax k w cf y pc ls st q fs m = true) (hR : zRl X s nL d w ls st q m H locs lsA stA) : W p l e R s mt args below meth c H locs q.2.1 q.2.2 Q (F0 mt pc lsA stA) := by
  subst hnx
  obtain ⟨d0, nc, ns⟩ := q
  obtain ⟨sz, e0⟩ := w
  unfold zo_new at h
  dsimp only at h
  simp only [zfr_eq, zn_a, zn_c, zn_u] at h
  rcases zif_iff h with ⟨h1, h⟩ | ⟨-, h⟩
  rotate_left
  · cases h
  obtain ⟨h1, h2⟩ := zand_iff h1
  obtain ⟨h2, h3⟩ := zand_iff h2
  obtain ⟨h3, h4⟩ := zand_iff h3
  have h1 := zbleT h1
  have h2 := zbleT h2
  have h3 := zbleT h3
  have h4 := zbleT h4
  have hc12 : ax < 12 := by omega
  obtain ⟨tg, ln, ct, hg, h⟩ := zcell_iff h
  rcases zif_iff h with ⟨h5, h⟩ | ⟨-, h⟩
  rotate_left
  · cases h
  obtain ⟨hSl, hfc, kC0, hkC0, hkind⟩ := hK.2.1 ax _ (zvw _ hc12)
  obtain ⟨hi1, hi2⟩ := zins ax hc12
  have hMem : zMem X s sz m H := hR.2.1
  refine W.newcK hexec hb hown (zword (args := args) hK (zwd_mem hlk) rfl) (zword (args := args) hK hi1 rfl) (zword (args := args) hK hi2 rfl) (n := zxCn ax) rfl hdg (by dsimp only; omega) (by dsimp only; omega) hfc rfl fun H1 kC hkC e1 z1 o1 => ?_
  have hob := u_born (ztyX ax) (zTs_ok (args := args) hK) (zTs_in hc12) ⟨hSl, hfc, kC0, hkC0, hkind⟩ hkC e1 (ztys ax hc12)
  have hsz : H.size = zbs X + sz := hMem.1
  have hR2 : zRl X s nL d (sz + 1, e0) ls ((8 * sz + 3) :: st) (d0, nc + 1, ns + zxCn ax) (zS m sz (ax, zxCn ax, zxD ax)) H1 locs lsA (.ref H.size :: stA) := by
    refine ⟨hR.1, hMem.new hg z1 o1 (by omega) ?_, hR.2.2.1, hR.2.2.2.1, ⟨?_, hR.2.2.2.2.1⟩, hR.2.2.2.2.2.1, by dsimp only; omega, by dsimp only; omega⟩
    · obtain ⟨cell, t1, t2, t3, t4⟩ := hob
      refine Or.inl ⟨hc12, cell, by rw [← hsz]; exact t1, t2, t3, fun j u hj hu => ?_⟩
      obtain ⟨-, -, -, z4⟩ := zkks ax hc12 j hj
      have hu : zG (zxD ax) j = some u := hu
      rw [z4] at hu
      refine ⟨_, ?_, t4 j hj⟩
      have hk9 := (zkks ax hc12 j hj).1
      show zV X u (defaultValue (ztyX ax j))
      generalize ztyX ax j = tyj at hu hk9 ⊢
      have hu := Option.some.inj hu
      subst hu
      cases tyj with
      | int => exact zv_zero
      | boolean => exact zv_zero
      | long => exact Or.inr (Or.inr (Or.inr (Or.inr (Or.inl ⟨rfl, rfl⟩))))
      | object C => exact Or.inr (Or.inr (Or.inr (Or.inr (Or.inr (Or.inl ⟨rfl, rfl⟩)))))
      | array C => exact Or.inr (Or.inr (Or.inr (Or.inr (Or.inr (Or.inl ⟨rfl, rfl⟩)))))
      | byte => exact zv_zero
      | short => exact zv_zero
      | char => exact zv_zero
      | float =>
        exfalso
        have h9 : zkt FieldType.float = 9 := rfl
        omega
      | double =>
        exfalso
        have h9 : zkt FieldType.double = 9 := rfl
        omega
    · have e3 : zad X sz = H.size := by
        unfold zad
        rw [if_pos (by omega), hsz]
      rw [← e3]
      exact zv_ref sz
  exact hKS _ _ _ _ _ _ _ _ _ _ h hR2
theorem zsmall {u : Nat} (h : u < 2147483648) : ¬ Int32.ofNat u < 0 ∧ (Int32.ofNat u).toNatClampNeg = u := ⟨nI_pos (n := u) h, nI_clamp (n := u) h⟩
theorem zrow_get {α : Type} (v : α) : ∀ (n j : Nat), j < n → (zrow v n)[j]? = some v := by
  intro n
  induction n with
  | zero => intro j h; omega
  | succ n ih =>
    intro j h
    have e1 : zrow v (n + 1) = v :: zrow v n := rfl
    rw [e1]
    cases j with
    | zero => rfl
    | succ j => rw [List.getElem?_cons_succ]; exact ih j (by omega)
theorem zrep_get {v n j u : Nat} (h : j < n) (hu : zG (zrep v n) j = some u) : u = v := by
  unfold zG zrep at hu
  simp only [zn_d, zn_a] at hu
  rw [zrow_get _ _ (j / 64) (by omega), Option.bind_some, zrow_get _ _ (j / 8 % 8) (by omega), Option.bind_some, zrow_get _ _ (j % 8) (by omega)] at hu
  exact (Option.some.inj hu).symm
theorem zw_newa {kd : Nat} {at_ : ArrayType} {ty : FieldType} (hexec : p.tables.exec = Jvm.exec) (hb : c.code = cc) (hK : zKn X s) (hty : newarray.typeOf at_ = ty) (hkd : zty kd = some ty) (hac : Cond.arrayClass ty ∈ lw_tbl) (hcb : componentBytes ty ≤ 8) (hdef : zV X (zif (Nat.beq kd 21) 4 0) (defaultValue ty)) (hmc : y.2.1 ≤ R.cells) (hms : y.2.2.1 ≤ R.slots) (hd1 : d.2.1 = y.2.1) (hd2 : d.2.2 = y.2.2.1) (hdg : decode cc pc = .ok (.newarray at_, 2)) (hnx : nx = pc + 2)
    (hKS : zKS p l e R s mt args below meth c Q X cf y fs nL d k) (h : zo_newa kd nx ax k w cf y pc ls st q fs m = true) (hR : zRl X s nL d w ls st q m H locs lsA stA) : W p l e R s mt args below meth c H locs q.2.1 q.2.2 Q (F0 mt pc lsA stA) := by
  subst hnx
  subst hty
  obtain ⟨d0, nc, ns⟩ := q
  obtain ⟨sz, e0⟩ := w
  unfold zo_newa at h
  dsimp only at h
  simp only [zfr_eq, zn_m, zn_d, zn_a, zn_c, zn_u] at h
  obtain ⟨n, r, es, h'⟩ := zpop_iff h
  clear h
  have h := h'
  clear h'
  subst es
  obtain ⟨x, stB, rfl, hv, hS2⟩ := zSt_c hR.2.2.2.2.1
  rcases zif_iff h with ⟨h1, h⟩ | ⟨-, h⟩
  rotate_left
  · cases h
  obtain ⟨h0, h1⟩ := zand_iff h1
  obtain ⟨h1, h2⟩ := zand_iff h1
  obtain ⟨h2, h3⟩ := zand_iff h2
  obtain ⟨h3, h4⟩ := zand_iff h3
  have h1 := zbleT h1
  have h2 := zbleT h2
  have h3 := zbleT h3
  have h4 := zbleT h4
  have ex := zv_0 hv (zbeqT h0)
  subst ex
  obtain ⟨tg, ln, ct, hg, h⟩ := zcell_iff h
  rcases zif_iff h with ⟨h5, h⟩ | ⟨-, h⟩
  rotate_left
  · cases h
  obtain ⟨p1, p2⟩ := zsmall (u := n / 8) (by omega)
  have hMem : zMem X s sz m H := hR.2.1
  have hsz : H.size = zbs X + sz := hMem.1
  have hbig : n / 8 * componentBytes (newarray.typeOf at_) ≤ 536870912 := by
    have := Nat.mul_le_mul h1 hcb
    omega
  refine va_newaK hexec hb (zword (args := args) hK hac rfl) rfl hdg rfl p1 p2 hbig (by dsimp only; omega) (by dsimp only; omega) rfl fun H1 cA e1 z1 o1 hAr _ => ?_
  have hR2 : zRl X s nL d (sz + 1, e0) ls ((8 * sz + 3) :: r) (d0, nc + 1, ns + n / 8) (zS m sz (kd, n / 8, zrep (zif (Nat.beq kd 21) 4 0) (n / 8))) H1 locs lsA (.ref H.size :: stB) := by
    refine ⟨hR.1, hMem.new hg z1 o1 (by omega) ?_, hR.2.2.1, hR.2.2.2.1, ⟨?_, hS2⟩, hR.2.2.2.2.2.1, by dsimp only; omega, by dsimp only; omega⟩
    · refine Or.inr ⟨_, cA, _, hkd, by rw [← hsz]; exact e1, hAr, h1, fun j u hj hu => ?_⟩
      rw [zrep_get hj hu]
      exact hdef
    · have e3 : zad X sz = H.size := by
        unfold zad
        rw [if_pos (by omega), hsz]
      rw [← e3]
      exact zv_ref sz
  exact hKS _ _ _ _ _ _ _ _ _ _ h hR2
theorem zty_kd {g : Nat} {ty : FieldType} (h : zty g = some ty) : 20 ≤ g ∧ g ≤ 23 := by
  unfold zty at h
  split at h <;> first | exact ⟨by omega, by omega⟩ | cases h
theorem zw_alen (hexec : p.tables.exec = Jvm.exec) (hb : c.code = cc) (hK : zKn X s) (hdg : decode cc pc = .ok (.arraylength, 1)) (hnx : nx = pc + 1)
    (hKS : zKS p l e R s mt args below meth c Q X cf y fs nL d k) (h : zo_alen (zLn X) nx ax k w cf y pc ls st q fs m = true) (hR : zRl X s nL d w ls st q m H locs lsA stA) : W p l e R s mt args below meth c H locs q.2.1 q.2.2 Q (F0 mt pc lsA stA) := by
  subst hnx
  unfold zo_alen at h
  simp only [zfr_eq, zn_m, zn_d, zn_u, zn_s, zn_c] at h
  obtain ⟨a, r, es, h'⟩ := zpop_iff h
  clear h
  have h := h'
  clear h'
  subst es
  obtain ⟨x, stB, rfl, ha, hS2⟩ := zSt_c hR.2.2.2.2.1
  rcases zif_iff h with ⟨h1, h⟩ | ⟨-, h⟩
  rotate_left
  · cases h
  have ea := zv_3 ha (zbeqT h1)
  subst ea
  have hlow := zlowH (w := w) hR.2.1
  rcases zif_iff h with ⟨h2, h⟩ | ⟨h2, h⟩
  · have e2 := zbeqT h2
    rcases zif_iff h with ⟨-, h⟩ | ⟨hL0, h⟩
    · cases h
    have hL0 := zbeqF hL0
    obtain ⟨s1, s2, s0⟩ := hK.2.2.1
    obtain ⟨scr, s3, s4, s5, s6, s7⟩ := s0.resolve_left hL0
    rw [e2, zhigh (by omega)]
    have hc : H[zhi X 99999]? = some scr := by rw [hR.2.1.2.2.2 _ s1]; exact s3
    exact W.alen (n := Int32.ofNat (zLn X)) hexec hb hc s4 (by rw [s6]) rfl rfl hdg (zgo hKS h hR rfl hR.1 ⟨zv_mk rfl, hS2⟩)
  rcases zif_iff h with ⟨h3, h⟩ | ⟨h3, h⟩
  · have h3 := zbleT h3
    rcases zif_iff h with ⟨h4, h⟩ | ⟨-, h⟩
    rotate_left
    · cases h
    have h4 : a / 8 - 200000 + 1 ≤ 30 := zbleT h4
    obtain ⟨i, hi⟩ : ∃ i, a / 8 = 200000 + i := ⟨a / 8 - 200000, by omega⟩
    obtain ⟨-, -, -, -, hT⟩ := hK.2.2.2.1 i (by omega)
    obtain ⟨cell, t1, t2, t3, t4, t5, t6, t7⟩ := hT.kept hlow
    rw [hi, zhigh (by omega)]
    rw [hi, show 200000 + i - 200000 = i by omega] at h
    exact W.alen (n := Int32.ofNat (zxTl i)) hexec hb t1 t2 t5 rfl rfl hdg (zgo hKS h hR rfl hR.1 ⟨zv_mk rfl, hS2⟩)
  · obtain ⟨⟨tg, ln, ct⟩, hg, h⟩ := zget_iff h
    dsimp only at h
    rcases zif_iff h with ⟨h5, h⟩ | ⟨-, h⟩
    rotate_left
    · cases h
    obtain ⟨h5, h6⟩ := zand_iff h5
    have h5 := zbleT h5
    have h6 := zbleT h6
    obtain ⟨-, -, hc⟩ := hR.2.1.get hg (by dsimp only; omega)
    rcases hc with ⟨q1, -⟩ | ⟨ty, cA, f, q1, q2, q3, q4, -⟩
    · have : tg < 12 := q1
      omega
    · exact W.alen (n := Int32.ofNat ln) hexec hb q2 (q3 _ _) (by rw [arrV_size]) rfl rfl hdg (zgo hKS h hR rfl hR.1 ⟨zv_mk rfl, hS2⟩)
theorem zindex_iff {j : Nat} {again : zW → Bool} {put k2 : Nat → Bool} {ρ : Nat → Int32} {ad : Nat → Nat} {x' : Value} (h : zindex w j again put k2 = true) (hE : zEnv ρ w.2) (hv : zv ρ ad j x') :
    (∃ w2 : zW, w2.1 = w.1 ∧ zEnv ρ w2.2 ∧ again w2 = true) ∨ (∃ u : Nat, x' = .int (Int32.ofNat u) ∧ put u = true) ∨ ∃ u : Nat, x' = .int (Int32.ofNat u) ∧ k2 u = true := by
  unfold zindex at h
  simp only [zn_m, zn_d, zn_c, zn_s] at h
  rcases zif_iff h with ⟨h1, h⟩ | ⟨h1, h⟩
  · exact Or.inr (Or.inr ⟨_, zv_0 hv (zbeqT h1), h⟩)
  rcases zhalf_iff h hE hv with h | h
  · exact Or.inl h
  rcases zkn_iff h hE hv with ⟨u, e1, h⟩ | h
  · exact Or.inr (Or.inr ⟨u, e1, h⟩)
  rcases zif_iff h with ⟨h2, h⟩ | ⟨-, h⟩
  · obtain ⟨x, lo, hi, rfl, b1, b2, h⟩ := zbd_iff h hE hv
    rcases zif_iff h with ⟨h3, h⟩ | ⟨-, h⟩
    · rcases zif_iff h with ⟨h4, h⟩ | ⟨-, h⟩
      · have h5 := zeach_iff h (zB x) b1 (by have := zbleT h4; omega)
        exact Or.inr (Or.inl ⟨zb (zB x), by rw [zb_B], h5⟩)
      · cases h
    · cases h
  · cases h
theorem zw_ald {k1 k2 : Nat} (hk1 : 20 ≤ k1 ∧ k1 ≤ 23) (hk2 : 20 ≤ k2 ∧ k2 ≤ 23) (hK : zKn X s) (hKS : zKS p l e R s mt args below meth c Q X cf y fs nL d k) (h : zo_ald (zLn X) k1 k2 nx ax k w cf y pc ls st q fs m = true) (hR : zRl X s nL d w ls st q m H locs lsA stA)
    (row : ∀ (g : Nat) (ty : FieldType) (a : Addr) (cell : Cell) (j : Int32) (v : Value) (r : List Value), (g = k1 ∨ g = k2) → zty g = some ty → H[a]? = some cell → s.isArrayOf cell ty → cell.vm ≠ .unknown → ¬ (j < 0 ∨ cell.slots.size ≤ j.toNatClampNeg) → cell.slots[j.toNatClampNeg]? = some v → W p l e R s mt args below meth c H locs q.2.1 q.2.2 Q (F0 mt nx lsA (v :: r)) → W p l e R s mt args below meth c H locs q.2.1 q.2.2 Q (F0 mt pc lsA (.int j :: .ref a :: r))) : W p l e R s mt args below meth c H locs q.2.1 q.2.2 Q (F0 mt pc lsA stA) := by
  unfold zo_ald at h
  simp only [zfr_eq, zn_m, zn_d, zn_u, zn_s, zn_c, zn_a] at h
  obtain ⟨j, t, es, h'⟩ := zpop_iff h
  clear h
  have h := h'
  clear h'
  subst es
  obtain ⟨a, r, es, h'⟩ := zpop_iff h
  clear h
  have h := h'
  clear h'
  subst es
  obtain ⟨j', stB, rfl, hj, hS2⟩ := zSt_c hR.2.2.2.2.1
  obtain ⟨a', stC, rfl, ha, hS3⟩ := zSt_c hS2
  rcases zif_iff h with ⟨h1, h⟩ | ⟨-, h⟩
  rotate_left
  · cases h
  have ea := zv_3 ha (zbeqT h1)
  have hlow := zlowH (w := w) hR.2.1
  rcases zindex_iff h hR.1 hj with ⟨w2, e1, E2, h⟩ | ⟨u, rfl, h⟩ | ⟨u, rfl, h⟩
  · exact zgo hKS h hR e1 E2 hR.2.2.2.2.1
  · exact zgo hKS h hR rfl hR.1 ⟨zv_mk rfl, ha, hS3⟩
  subst ea
  rcases zif_iff h with ⟨h2, h⟩ | ⟨h2, h⟩
  · have e2 := zbeqT h2
    rcases zif_iff h with ⟨h3, h⟩ | ⟨-, h⟩
    rotate_left
    · cases h
    obtain ⟨h3, h4⟩ := zand_iff h3
    have h3 := zbleT h3
    have h4 := zbeqT h4
    obtain ⟨s1, s2, s0⟩ := hK.2.2.1
    obtain ⟨scr, s3, s4, s5, s6, s7⟩ := s0.resolve_left (by omega)
    obtain ⟨p1, p2⟩ := zsmall (u := u) (by omega)
    rw [e2, zhigh (by omega)]
    have hc : H[zhi X 99999]? = some scr := by rw [hR.2.1.2.2.2 _ s1]; exact s3
    refine row 20 .int _ scr _ (.int (zρ X u)) stC (Or.inl h4.symm) rfl hc s4 s5 (by rw [s6, p2]; exact fun z => z.elim p1 (by omega)) (by rw [p2]; exact s7 u (by omega)) (zgo hKS h hR rfl hR.1 ⟨?_, hS3⟩)
    refine Or.inr (Or.inl ⟨by omega, ?_⟩)
    have e5 : (34359738368 * u + 1) / 34359738368 = u := by omega
    have e6 : (34359738368 * u + 1) / 8 % 4294967296 = 0 := by omega
    rw [e5, e6]
    congr 1
    show zρ X u = zρ X u + 0
    rw [Int32.add_zero]
  rcases zif_iff h with ⟨h3, h⟩ | ⟨h3, h⟩
  · have h3 := zbleT h3
    rcases zif_iff h with ⟨h4, h⟩ | ⟨-, h⟩
    rotate_left
    · cases h
    obtain ⟨h4, h5⟩ := zand_iff h4
    have h4 := zbeqT h4
    have h5 : a / 8 - 200000 + 1 ≤ 30 := zbleT h5
    obtain ⟨i, hi⟩ : ∃ i, a / 8 = 200000 + i := ⟨a / 8 - 200000, by omega⟩
    obtain ⟨-, -, -, -, hT⟩ := hK.2.2.2.1 i (by omega)
    obtain ⟨cell, t1, t2, t3, t4, t5, t6, t7⟩ := hT.kept hlow
    rw [hi, show 200000 + i - 200000 = i by omega] at h
    obtain ⟨cv, hcv, h⟩ := znth_iff h
    rw [hi, zhigh (by omega)]
    have hTl : u < zxTl i := by
      have hu : u < (zxT i).length := (List.getElem?_eq_some_iff.mp hcv).1
      have htab : ∀ i, i < 30 → (zxT i).length = zxTl i ∧ zxTl i ≤ 20 := by decide +kernel
      rw [← (htab i (by omega)).1]
      exact hu
    have hle : zxTl i ≤ 20 := by
      have htab : ∀ i, i < 30 → (zxT i).length = zxTl i ∧ zxTl i ≤ 20 := by decide +kernel
      exact (htab i (by omega)).2
    obtain ⟨p1, p2⟩ := zsmall (u := u) (by omega)
    refine row 22 .byte _ cell _ (.int (Int32.ofNat cv)) stC (Or.inl h4.symm) rfl t1 t2 t3 (by rw [p2]; exact fun z => z.elim p1 (by omega)) (by rw [p2, t6 u hTl]; show some (Value.int (Int32.ofNat ((zxT i).getD u 0))) = _; rw [List.getD_eq_getElem?_getD, hcv]; rfl) (zgo hKS h hR rfl hR.1 ⟨zv_mk rfl, hS3⟩)
  · obtain ⟨⟨tg, ln, ct⟩, hg, h⟩ := zget_iff h
    dsimp only at h
    rcases zif_iff h with ⟨h5, h⟩ | ⟨-, h⟩
    rotate_left
    · cases h
    have h5 : tg = k1 ∨ tg = k2 := by
      rcases zif_iff h5 with ⟨h6, -⟩ | ⟨-, h6⟩
      · exact Or.inl (zbeqT h6)
      · exact Or.inr (zbeqT h6)
    rcases zif_iff h with ⟨h6, h⟩ | ⟨-, h⟩
    rotate_left
    · cases h
    have h6 := zbleT h6
    obtain ⟨v, hv, h⟩ := zget_iff h
    have h99 : ¬ tg = 99 := by omega
    obtain ⟨-, -, hc⟩ := hR.2.1.get hg h99
    rcases hc with ⟨q1, -⟩ | ⟨ty, cA, f, q1, q2, q3, q4, q5⟩
    · exfalso
      have q1 : tg < 12 := q1
      omega
    · have q4 : ln ≤ 20000 := q4
      obtain ⟨p1, p2⟩ := zsmall (u := u) (by omega)
      refine row tg ty _ _ _ (f u) stC h5 q1 q2 (q3 _ _) (fun z => by cases z) (by rw [arrV_size, p2]; exact fun z => z.elim p1 (by dsimp only; omega)) (by rw [p2, arrV_read _ _ (by dsimp only; omega)]) (zgo hKS h hR rfl hR.1 ⟨q5 u v (by dsimp only; omega) hv, hS3⟩)
theorem zinto_iff {kd v : Nat} {k2 : Nat → Bool} {x : Value} (h : zinto w kd v k2 = true) (hE : zEnv (zρ X) w.2) (hv : zV X v x) :
    ∃ (v2 : Nat) (x2 : Value), zV X v2 x2 ∧ k2 v2 = true ∧ ((kd = 20 ∧ ∃ n, x = .int n ∧ x2 = .int n) ∨ (kd = 21 ∧ ∃ n, x = .long n ∧ x2 = .long n) ∨ (kd = 22 ∧ ∃ n, x = .int n ∧ x2 = narrow .byte (.int n)) ∨ (kd = 23 ∧ ∃ n, x = .int n ∧ x2 = narrow .boolean (.int n))) := by
  unfold zinto at h
  simp only [zfr_eq, zn_m, zn_d, zn_u] at h
  rcases zif_iff h with ⟨h1, h⟩ | ⟨h1, h⟩
  · rcases zif_iff h with ⟨h2, h⟩ | ⟨-, h⟩
    · obtain ⟨n, rfl⟩ := zv_int hv (zbleT h2)
      exact ⟨v, _, hv, h, Or.inl ⟨zbeqT h1, n, rfl, rfl⟩⟩
    · cases h
  rcases zif_iff h with ⟨h2, h⟩ | ⟨h2, h⟩
  · rcases zif_iff h with ⟨h3, h⟩ | ⟨-, h⟩
    · have e1 := zv_4 hv (zbeqT h3)
      exact ⟨v, _, hv, h, Or.inr (Or.inl ⟨zbeqT h2, _, e1, e1⟩)⟩
    · cases h
  rcases zif_iff h with ⟨h3, h⟩ | ⟨h3, h⟩
  · rcases zif_iff h with ⟨h4, h⟩ | ⟨-, h⟩
    · have e1 := zv_0 hv (zbeqT h4)
      refine ⟨_, _, zv_mkx _, h, Or.inr (Or.inr (Or.inl ⟨zbeqT h3, _, e1, ?_⟩))⟩
      rfl
    rcases zif_iff h with ⟨h5, h⟩ | ⟨-, h⟩
    · obtain ⟨n, lo, hi, e1, -, -, h⟩ := zbd_iff h hE hv
      exact ⟨_, .int n.toInt8.toInt32, zv_any _, h, Or.inr (Or.inr (Or.inl ⟨zbeqT h3, n, e1, rfl⟩))⟩
    · cases h
  rcases zif_iff h with ⟨h4, h⟩ | ⟨-, h⟩
  · rcases zif_iff h with ⟨h5, h⟩ | ⟨-, h⟩
    · have hx : x = .int 0 ∨ x = .int 1 := by
        rcases zif_iff h5 with ⟨h6, -⟩ | ⟨-, h6⟩
        · have e2 := zbeqT h6
          subst e2
          exact Or.inl (zv_0 hv rfl)
        · have e2 := zbeqT h6
          subst e2
          exact Or.inr (zv_0 hv rfl)
      refine ⟨v, x, hv, h, Or.inr (Or.inr (Or.inr ⟨zbeqT h4, ?_⟩))⟩
      rcases hx with rfl | rfl
      · exact ⟨0, rfl, by decide⟩
      · exact ⟨1, rfl, by decide⟩
    · cases h
  · cases h
theorem zw_ast {k1 k2 : Nat} (hKS : zKS p l e R s mt args below meth c Q X cf y fs nL d k) (h : zo_ast k1 k2 nx ax k w cf y pc ls st q fs m = true) (hR : zRl X s nL d w ls st q m H locs lsA stA)
    (row : ∀ (g : Nat) (ty : FieldType) (a : Addr) (cell : Cell) (j : Int32) (x x2 : Value) (r : List Value), (g = k1 ∨ g = k2) → zty g = some ty → ((g = 20 ∧ ∃ n, x = .int n ∧ x2 = .int n) ∨ (g = 21 ∧ ∃ n, x = .long n ∧ x2 = .long n) ∨ (g = 22 ∧ ∃ n, x = .int n ∧ x2 = narrow .byte (.int n)) ∨ (g = 23 ∧ ∃ n, x = .int n ∧ x2 = narrow .boolean (.int n))) → H[a]? = some cell → s.isArrayOf cell ty → cell.vm ≠ .unknown → ¬ (j < 0 ∨ cell.slots.size ≤ j.toNatClampNeg) →
      (∀ H' : Heap, H'[a]? = some (cell.setSlot j.toNatClampNeg x2) → H'.size = H.size → (∀ q, q ≠ a → H'[q]? = H[q]?) → W p l e R s mt args below meth c H' (locs ++ [⟨a, j.toNatClampNeg⟩]) q.2.1 q.2.2 Q (F0 mt nx lsA r)) → W p l e R s mt args below meth c H locs q.2.1 q.2.2 Q (F0 mt pc lsA (x :: .int j :: .ref a :: r))) : W p l e R s mt args below meth c H locs q.2.1 q.2.2 Q (F0 mt pc lsA stA) := by
  unfold zo_ast at h
  simp only [zfr_eq, zn_m, zn_d, zn_u, zn_c] at h
  obtain ⟨v, t, es, h'⟩ := zpop_iff h
  clear h
  have h := h'
  clear h'
  subst es
  obtain ⟨j, t2, es, h'⟩ := zpop_iff h
  clear h
  have h := h'
  clear h'
  subst es
  obtain ⟨a, r, es, h'⟩ := zpop_iff h
  clear h
  have h := h'
  clear h'
  subst es
  obtain ⟨x, stB, rfl, hv, hS2⟩ := zSt_c hR.2.2.2.2.1
  obtain ⟨j', stC, rfl, hj, hS3⟩ := zSt_c hS2
  obtain ⟨a', stD, rfl, ha, hS4⟩ := zSt_c hS3
  rcases zif_iff h with ⟨h1, h⟩ | ⟨-, h⟩
  rotate_left
  · cases h
  have ea := zv_3 ha (zbeqT h1)
  rcases zindex_iff h hR.1 hj with ⟨w2, e1, E2, h⟩ | ⟨u, rfl, h⟩ | ⟨u, rfl, h⟩
  · exact zgo hKS h hR e1 E2 hR.2.2.2.2.1
  · exact zgo hKS h hR rfl hR.1 ⟨hv, zv_mk rfl, ha, hS4⟩
  subst ea
  obtain ⟨tg, ln, ct, hg, h⟩ := zcell_iff h
  rcases zif_iff h with ⟨h5, h⟩ | ⟨-, h⟩
  rotate_left
  · cases h
  obtain ⟨h5, h6⟩ := zand_iff h5
  have h5 : tg = k1 ∨ tg = k2 := by
    rcases zif_iff h5 with ⟨h6, -⟩ | ⟨-, h6⟩
    · exact Or.inl (zbeqT h6)
    · exact Or.inr (zbeqT h6)
  have h6 := zbleT h6
  obtain ⟨v2, x2, hv2, h, hst⟩ := zinto_iff h hR.1 hv
  obtain ⟨⟨o, ho⟩, h⟩ := zset_iff h
  have h99 : ¬ tg = 99 := by rcases hst with ⟨q, -⟩ | ⟨q, -⟩ | ⟨q, -⟩ | ⟨q, -⟩ <;> omega
  have h20 : 20 ≤ tg := by rcases hst with ⟨q, -⟩ | ⟨q, -⟩ | ⟨q, -⟩ | ⟨q, -⟩ <;> omega
  obtain ⟨ead, -, hc⟩ := hR.2.1.get hg h99
  rcases hc with ⟨q1, -⟩ | ⟨ty, cA, f, q1, q2, q3, q4, q5⟩
  · have : tg < 12 := q1
    omega
  have q4 : ln ≤ 20000 := q4
  obtain ⟨p1, p2⟩ := zsmall (u := u) (by omega)
  refine row tg ty _ _ _ x x2 stD h5 q1 hst q2 (q3 _ _) (fun z => by cases z) (by rw [arrV_size, p2]; exact fun z => z.elim p1 (by dsimp only; omega)) (fun H1 f1 f2 f3 => ?_)
  rw [p2, arrV_store] at f1
  refine hKS _ _ _ _ _ _ _ _ _ _ h ⟨hR.1, hR.2.1.set hg h99 f2 f3 (Or.inr ⟨ty, cA, _, q1, f1, q3, q4, fun i b hi hb => ?_⟩), fun z hz => ?_, hR.2.2.2.1, hS4, hR.2.2.2.2.2⟩
  · have hb : zG (zS ct u v2) i = some b := hb
    rw [zG_set ho i] at hb
    by_cases hiu : i = u
    · rw [if_pos hiu] at hb
      cases hb
      show zV X v2 (updV f u x2 i)
      rw [hiu]
      have e7 : updV f u x2 u = x2 := by unfold updV; rw [if_pos rfl]
      rw [e7]
      exact hv2
    · rw [if_neg hiu] at hb
      show zV X b (updV f u x2 i)
      have e7 : updV f u x2 i = f i := by unfold updV; rw [if_neg hiu]
      rw [e7]
      exact q5 i b hi hb
  · rcases List.mem_append.mp hz with h7 | h7
    · exact hR.2.2.1 z h7
    · rw [List.mem_singleton] at h7
      rw [h7]
      show zbs X ≤ zad X (a / 8)
      rw [ead]; omega
end ZM
end
section
/-! THE MACHINE's STEPS: switches, constants, statics, Object's constructor -/
section ZN
variable {p : Program} {l : Launch} {e : Env} {R : Room} {s : State} {mt : MethodId} {args : Array Value} {below : List Frame} {meth : Method} {c : Code} {Q : State → Prop} {X : zCx} {cf : Nat → zT} {y : zY} {fs : List zFr} {nL : Nat} {d : Nat × Nat × Nat} {k : zK}
variable {w : zW} {pc nx ax : Nat} {ls st : List Nat} {q : zQ} {m : zM} {H : Heap} {locs : List Loc} {lsA : Array Slot} {stA : List Value} {own : String} {cc : ByteArray} {idx pp : Nat}
theorem zB_int (x : Int32) : (zB x : Int) = x.toInt + 2147483648 := by
  unfold zB
  have := Int32.le_toInt x
  omega
theorem zw_tab {df lo hi : Int} {offs : Array Int} {len : Nat} (hexec : p.tables.exec = Jvm.exec) (hb : c.code = cc) (hdg : decode cc pc = .ok (.tableswitch df lo hi offs, len))
    (hKS : zKS p l e R s mt args below meth c Q X cf y fs nL d k) (h : zo_tab df lo hi offs nx ax k w cf y pc ls st q fs m = true) (hR : zRl X s nL d w ls st q m H locs lsA stA) : W p l e R s mt args below meth c H locs q.2.1 q.2.2 Q (F0 mt pc lsA stA) := by
  unfold zo_tab at h
  simp only [zfr_eq, zn_c, zn_p, zn_s, zn_u] at h
  obtain ⟨v, r, es, h'⟩ := zpop_iff h
  clear h
  have h := h'
  clear h'
  subst es
  obtain ⟨x', stB, rfl, hv, hS2⟩ := zSt_c hR.2.2.2.2.1
  rcases zif_iff h with ⟨h0, h⟩ | ⟨-, h⟩
  rotate_left
  · cases h
  obtain ⟨h01, h02⟩ := zand_iff h0
  rw [decide_eq_true_eq] at h01 h02
  obtain ⟨x, a, b, rfl, b1, b2, h⟩ := zbd_iff h hR.1 hv
  have hBi := zB_int x
  rcases zif_iff h with ⟨h1, h⟩ | ⟨h1, h⟩
  · rcases zif_iff h with ⟨h2, h⟩ | ⟨-, h⟩
    rotate_left
    · cases h
    rw [decide_eq_true_eq] at h2
    refine lv_tableOut hexec hb hdg ?_ h2.symm (zgo hKS h hR rfl hR.1 hS2)
    rcases zif_iff h1 with ⟨h3, -⟩ | ⟨-, h3⟩
    · have := zbleT h3
      left
      omega
    · have := zbleT h3
      right
      omega
  have h3 : ¬ b + 1 ≤ (lo + 2147483648).toNat ∧ ¬ (hi + 2147483648).toNat + 1 ≤ a := by
    cases hq1 : Nat.ble (b + 1) (lo + 2147483648).toNat with
    | true => rw [hq1] at h1; cases h1
    | false =>
      rw [hq1] at h1
      exact ⟨zbleF hq1, zbleF h1⟩
  rcases zif_iff h with ⟨h4, h⟩ | ⟨h4, h⟩
  · obtain ⟨g1, g2⟩ := zand_iff h
    by_cases hc : zB x < (lo + 2147483648).toNat
    · obtain ⟨w2, e1, E2, g3⟩ := zcut_iff g1 hR.1 hv b1 (by omega)
      exact zgo hKS g3 hR e1 E2 hR.2.2.2.2.1
    · obtain ⟨w2, e1, E2, g3⟩ := zcut_iff g2 hR.1 hv (by omega) b2
      exact zgo hKS g3 hR e1 E2 hR.2.2.2.2.1
  rcases zif_iff h with ⟨h5, h⟩ | ⟨h5, h⟩
  · obtain ⟨g1, g2⟩ := zand_iff h
    by_cases hc : zB x ≤ (hi + 2147483648).toNat
    · obtain ⟨w2, e1, E2, g3⟩ := zcut_iff g2 hR.1 hv b1 hc
      exact zgo hKS g3 hR e1 E2 hR.2.2.2.2.1
    · obtain ⟨w2, e1, E2, g3⟩ := zcut_iff g1 hR.1 hv (by omega) b2
      exact zgo hKS g3 hR e1 E2 hR.2.2.2.2.1
  have h4 := zbleF h4
  have h5 := zbleF h5
  rcases zindex_iff h hR.1 hv with ⟨w2, e1, E2, h⟩ | ⟨u, e1, h⟩ | ⟨u, e1, h⟩
  · exact zgo hKS h hR e1 E2 hR.2.2.2.2.1
  · refine zgo hKS h hR rfl hR.1 ⟨?_, hS2⟩
    rw [e1]
    exact zv_mk rfl
  · obtain ⟨o, ho, h⟩ := znth_iff h
    rcases zif_iff h with ⟨h2, h⟩ | ⟨-, h⟩
    rotate_left
    · cases h
    rw [decide_eq_true_eq] at h2
    have e2 := Value.int.inj e1
    have e3 : zb u = zB x := by rw [e2, zB_of]
    rw [e3] at ho
    refine lv_tableIn hexec hb hdg (by omega) (by omega) (off := o) ?_ h2.symm (zgo hKS h hR rfl hR.1 hS2)
    rw [← Array.getElem?_toList]
    have e4 : (x.toInt - lo).toNat = zB x - (lo + 2147483648).toNat := by omega
    rw [e4]
    exact ho
theorem zw_look {df : Int} {ps : Array (Int × Int)} {len : Nat} (hexec : p.tables.exec = Jvm.exec) (hb : c.code = cc) (hdg : decode cc pc = .ok (.lookupswitch df ps, len))
    (hKS : zKS p l e R s mt args below meth c Q X cf y fs nL d k) (h : zo_look df ps nx ax k w cf y pc ls st q fs m = true) (hR : zRl X s nL d w ls st q m H locs lsA stA) : W p l e R s mt args below meth c H locs q.2.1 q.2.2 Q (F0 mt pc lsA stA) := by
  unfold zo_look at h
  simp only [zfr_eq, zn_u] at h
  obtain ⟨v, r, es, h'⟩ := zpop_iff h
  clear h
  have h := h'
  clear h'
  subst es
  obtain ⟨x', stB, rfl, hv, hS2⟩ := zSt_c hR.2.2.2.2.1
  rcases zindex_iff h hR.1 hv with ⟨w2, e1, E2, h⟩ | ⟨u, rfl, h⟩ | ⟨u, rfl, h⟩
  · exact zgo hKS h hR e1 E2 hR.2.2.2.2.1
  · exact zgo hKS h hR rfl hR.1 ⟨zv_mk rfl, hS2⟩
  · rcases zif_iff h with ⟨h1, h⟩ | ⟨-, h⟩
    rotate_left
    · cases h
    rcases zif_iff h with ⟨h2, h⟩ | ⟨-, h⟩
    rotate_left
    · cases h
    rw [decide_eq_true_eq] at h2
    exact lv_lookup hexec hb hdg h1 rfl h2.symm (zgo hKS h hR rfl hR.1 hS2)
theorem zw_ldcS {lw : Bool} (hexec : p.tables.exec = Jvm.exec) (hb : c.code = cc) (hown : s.vm.findClass own = some mt.cls) (hK : zKn X s) {i : Nat} (hi : i < 30) (hs1 : (zskey i).1 = own) (hs2 : (zskey i).2.1 = idx) (hdg : decode cc pc = .ok (if lw then .ldc_w idx else .ldc idx, if lw then 3 else 2))
    (kk : W p l e R s mt args below meth c H locs q.2.1 q.2.2 Q (F0 mt (pc + if lw then 3 else 2) lsA (.ref (zhi X (100000 + i)) :: stA))) : W p l e R s mt args below meth c H locs q.2.1 q.2.2 Q (F0 mt pc lsA stA) := by
  obtain ⟨⟨hZ1, hZ2⟩, -⟩ := hK.2.2.2.1 i hi
  rw [hs1, hs2] at hZ1 hZ2
  cases lw with
  | false => exact va_ldcS hexec hb hown ⟨hZ1, hZ2⟩ hdg kk
  | true =>
    intro T hT X0
    obtain ⟨t, a1, b1⟩ := kk T hT X0
    exact ⟨t, X0.ldcStringW hexec hown hZ1 hZ2 (g := F0 mt pc lsA stA) rfl (by rw [hb]; exact hdg) t a1, b1⟩
theorem zw_ldc {lw : Bool} (hexec : p.tables.exec = Jvm.exec) (hb : c.code = cc) (hown : s.vm.findClass own = some mt.cls) (hK : zKn X s)
    (hlk : (if ax ≤ 4294967295 then decide (zwd pp = some (.constant own idx (Int32.ofNat (zb ax)))) else decide ((zskey (ax - 4294967296)).1 = own ∧ (zskey (ax - 4294967296)).2.1 = idx ∧ ax - 4294967296 < 30)) = true)
    (hdg : decode cc pc = .ok (if lw then .ldc_w idx else .ldc idx, if lw then 3 else 2)) (hnx : nx = pc + if lw then 3 else 2)
    (hKS : zKS p l e R s mt args below meth c Q X cf y fs nL d k) (h : zo_ldc nx ax k w cf y pc ls st q fs m = true) (hR : zRl X s nL d w ls st q m H locs lsA stA) : W p l e R s mt args below meth c H locs q.2.1 q.2.2 Q (F0 mt pc lsA stA) := by
  subst hnx
  unfold zo_ldc at h
  simp only [zfr_eq, zn_a, zn_s, zn_u] at h
  rcases zif_iff h with ⟨h1, h⟩ | ⟨h1, h⟩
  · rw [if_pos (zbleT h1), decide_eq_true_eq] at hlk
    have hw := zword (args := args) hK (zwd_mem hlk) rfl
    have kk := zgo hKS h hR rfl hR.1 (stB := .int (Int32.ofNat (zb ax)) :: stA) ⟨zv_mk rfl, hR.2.2.2.2.1⟩
    cases lw with
    | false => exact lv_ldc hexec hb hown hw hdg kk
    | true => exact lv_ldcw hexec hb hown hw hdg kk
  · rw [if_neg (zbleF h1), decide_eq_true_eq] at hlk
    obtain ⟨g1, g2, g3⟩ := hlk
    have e1 := zhigh (X := X) (a := 100000 + (ax - 4294967296)) (by omega)
    refine zw_ldcS (lw := lw) hexec hb hown hK g3 g1 g2 hdg (zgo hKS h hR rfl hR.1 ⟨?_, hR.2.2.2.2.1⟩)
    rw [← e1, show ax - 4294967296 + 100000 = 100000 + (ax - 4294967296) by omega]
    exact zv_ref _
theorem zw_ldc2 (hexec : p.tables.exec = Jvm.exec) (hb : c.code = cc) (hown : s.vm.findClass own = some mt.cls) (hK : zKn X s) (hlk : zwd pp = some (.constantLong own idx (Int64.ofNat ax))) (hdg : decode cc pc = .ok (.ldc2_w idx, 3)) (hnx : nx = pc + 3)
    (hKS : zKS p l e R s mt args below meth c Q X cf y fs nL d k) (h : zo_ldc2 nx ax k w cf y pc ls st q fs m = true) (hR : zRl X s nL d w ls st q m H locs lsA stA) : W p l e R s mt args below meth c H locs q.2.1 q.2.2 Q (F0 mt pc lsA stA) := by
  subst hnx
  unfold zo_ldc2 at h
  simp only [zfr_eq, zn_a, zn_u] at h
  exact lv_ldc2 hexec hb hown (zword (args := args) hK (zwd_mem hlk) rfl) hdg (zgo hKS h hR rfl hR.1 ⟨zv_mkl rfl, hR.2.2.2.2.1⟩)
theorem zw_gets (hexec : p.tables.exec = Jvm.exec) (hb : c.code = cc) (hown : s.vm.findClass own = some mt.cls) (hK : zKn X s) (hlk : ((decide (ax = 1) && decide (zwd pp = some (.fieldLink own idx "java/lang/String" "COMPACT_STRINGS" "Z"))) || (decide (ax = 2) && decide (zwd pp = some (.fieldLink own idx "jdk/internal/util/Preconditions" "SIOOBE_FORMATTER" "Ljava/util/function/BiFunction;")))) = true) (hdg : decode cc pc = .ok (.getstatic idx, 3)) (hnx : nx = pc + 3)
    (hKS : zKS p l e R s mt args below meth c Q X cf y fs nL d k) (h : zo_gets nx ax k w cf y pc ls st q fs m = true) (hR : zRl X s nL d w ls st q m H locs lsA stA) : W p l e R s mt args below meth c H locs q.2.1 q.2.2 Q (F0 mt pc lsA stA) := by
  subst hnx
  unfold zo_gets at h
  simp only [Bool.and_eq_true, Bool.or_eq_true, decide_eq_true_eq] at hlk
  have hlow := zlowH (w := w) hR.2.1
  have key : ∀ (C n ds : String) (v : Value), va_Z C n ds v (zUp X) s (zH0 X) → (Cond.fieldLink own idx C n ds).before args s = true → W p l e R s mt args below meth c H locs q.2.1 q.2.2 Q (F0 mt (pc + 3) lsA (v :: stA)) → W p l e R s mt args below meth c H locs q.2.1 q.2.2 Q (F0 mt pc lsA stA) := by
    intro C n ds v hZ hl kk
    obtain ⟨cf0, kf, fi, f, a, cell, h1, h2, h3, h4, h5, h6, h7, h8⟩ := hZ.kept hlow
    exact W.gets hexec hb hown hl h1 h2 h3 h4 h5 (fun e => by rw [e] at h6; cases h6) h7 rfl hdg kk
  rcases zif_iff h with ⟨h1, h⟩ | ⟨h1, h⟩
  · have e1 := zbeqT h1
    rcases hlk with ⟨-, g2⟩ | ⟨g1, -⟩
    · exact key _ _ _ (.int 1) hK.2.2.2.2.1 (zword (args := args) hK (zwd_mem g2) rfl) (zgo hKS h hR rfl hR.1 ⟨Or.inl ⟨rfl, rfl⟩, hR.2.2.2.2.1⟩)
    · omega
  rcases zif_iff h with ⟨h2, h⟩ | ⟨-, h⟩
  · have e1 := zbeqT h2
    rcases hlk with ⟨g1, -⟩ | ⟨-, g2⟩
    · omega
    · rcases hK.2.2.2.2.2 with hz | ⟨t, hz⟩
      · exact key _ _ _ .null hz (zword (args := args) hK (zwd_mem g2) rfl) (zgo hKS h hR rfl hR.1 ⟨Or.inr (Or.inr (Or.inr (Or.inr (Or.inr (Or.inr ⟨rfl, Or.inl rfl⟩))))), hR.2.2.2.2.1⟩)
      · exact key _ _ _ (.ref t) hz (zword (args := args) hK (zwd_mem g2) rfl) (zgo hKS h hR rfl hR.1 ⟨Or.inr (Or.inr (Or.inr (Or.inr (Or.inr (Or.inr ⟨rfl, Or.inr ⟨t, rfl⟩⟩))))), hR.2.2.2.2.1⟩)
  · cases h
theorem zw_obj (hexec : p.tables.exec = Jvm.exec) (hb : c.code = cc) (hml : c.maxLocals = nL) (hown : s.vm.findClass own = some mt.cls) (hK : zKn X s) (hlk : zwd pp = some (.methodLink own idx objectInit)) (hfr : d.1 ≤ R.frames) (hlo : 64 * d.1 ≤ R.locals) (hdg : decode cc pc = .ok (.invokespecial idx, 3)) (hnx : nx = pc + 3)
    (hKS : zKS p l e R s mt args below meth c Q X cf y fs nL d k) (h : zjdk nx ax k w cf y pc ls st q fs m = true) (hR : zRl X s nL d w ls st q m H locs lsA stA) : W p l e R s mt args below meth c H locs q.2.1 q.2.2 Q (F0 mt pc lsA stA) := by
  subst hnx
  unfold zjdk at h
  simp only [zn_m] at h
  obtain ⟨a, r, es, h'⟩ := zpop_iff h
  clear h
  have h := h'
  clear h'
  subst es
  obtain ⟨x, stB, rfl, ha, hS2⟩ := zSt_c hR.2.2.2.2.1
  rcases zif_iff h with ⟨h1, h⟩ | ⟨-, h⟩
  rotate_left
  · cases h
  obtain ⟨h1, h2⟩ := zand_iff h1
  obtain ⟨h2, h3⟩ := zand_iff h2
  have h2 := zbleT h2
  have h3 := zbleT h3
  have e1 := zv_3 ha (zbeqT h1)
  subst e1
  have hd1 : q.1 = d.1 := hR.2.2.2.2.2.1
  have hw := zSt_words hS2
  refine W.objInit hexec hb hown (zword (args := args) hK (zwd_mem hlk) rfl) (zword (args := args) hK zob1 rfl) (zword (args := args) hK zob2 rfl) rfl (by show lsA.size = _; rw [hml]; exact hR.2.2.2.1.2.1) rfl hdg (by omega) (by rw [hw]; show 2 * 0 + _ + 12 ≤ _; omega) (zgo hKS h hR rfl hR.1 hS2)
end ZN
/-! CALLS -/
theorem zargs_iff {k : List Nat → List Nat → Bool} : ∀ {n : Nat} {st acc : List Nat}, zargs n st acc k = true → ∃ as r, st = as ++ r ∧ as.length = n ∧ k (as.reverse ++ acc) r = true := by
  intro n
  induction n with
  | zero => intro st acc h; exact ⟨[], st, rfl, rfl, h⟩
  | succ n ih =>
    intro st acc h
    have h' : zpop false (fun v r => zargs n r (v :: acc) k) st = true := h
    obtain ⟨v, r, rfl, h2⟩ := zpop_iff h'
    obtain ⟨as, r2, rfl, h3, h4⟩ := ih h2
    refine ⟨v :: as, r2, rfl, by rw [List.length_cons, h3], ?_⟩
    rw [List.reverse_cons, List.append_assoc]
    exact h4
theorem zpad_iff : ∀ {n : Nat} {l : List Nat} {k : List Nat → Bool}, zpad n l k = true → ∃ l2 : List Nat, l2.length = n ∧ l.length ≤ n ∧ (∀ i c : Nat, l2[i]? = some c → l[i]? = some c ∨ c = 13) ∧ k l2 = true := by
  intro n
  induction n with
  | zero =>
    intro l k h
    cases l with
    | nil => exact ⟨[], rfl, Nat.le_refl _, fun i c hc => by simp at hc, h⟩
    | cons a t => cases h
  | succ n ih =>
    intro l k h
    cases l with
    | nil =>
      obtain ⟨l2, h1, h2, h3, h4⟩ := ih (l := []) (k := fun u => k (13 :: u)) h
      refine ⟨13 :: l2, by rw [List.length_cons, h1], Nat.zero_le _, fun i c hc => ?_, h4⟩
      cases i with
      | zero => rw [List.getElem?_cons_zero] at hc; cases hc; exact Or.inr rfl
      | succ i =>
        rw [List.getElem?_cons_succ] at hc
        rcases h3 i c hc with q | q
        · simp at q
        · exact Or.inr q
    | cons a t =>
      obtain ⟨l2, h1, h2, h3, h4⟩ := ih (l := t) (k := fun u => k (a :: u)) h
      refine ⟨a :: l2, by rw [List.length_cons, h1], by rw [List.length_cons]; omega, fun i c hc => ?_, h4⟩
      cases i with
      | zero => rw [List.getElem?_cons_zero] at hc; cases hc; exact Or.inl rfl
      | succ i =>
        rw [List.getElem?_cons_succ] at hc
        rcases h3 i c hc with q | q
        · exact Or.inl (by rw [List.getElem?_cons_succ]; exact q)
        · exact Or.inr q
theorem zexp_len {X : zCx} : ∀ {as : List Nat} {vs : List Value}, zSt X as vs → (lg_sl vs).length = (zexp as).length := by
  intro as
  induction as with
  | nil => intro vs h; rw [zSt_n h]; rfl
  | cons a t ih =>
    intro vs h
    obtain ⟨b, u, rfl, h1, h2⟩ := zSt_c h
    have e1 : zexp (a :: t) = zif (Nat.beq (Nat.mod a 8) 4) (a :: 13 :: zexp t) (a :: zexp t) := rfl
    have e2 : lg_sl (b :: u) = (if b.category = 2 then [.val b, .second] else [.val b]) ++ lg_sl u := rfl
    rw [e1, e2, zv_cat h1]
    cases hb : Nat.beq (Nat.mod a 8) 4 with
    | true =>
      have this : a % 8 = 4 := zbeqT hb
      rw [if_pos this, if_pos rfl]
      show ([Slot.val b, Slot.second] ++ lg_sl u).length = (a :: 13 :: zexp t).length
      simp [ih h2]
    | false =>
      have this : ¬ a % 8 = 4 := zbeqF hb
      rw [if_neg this, if_neg (by decide)]
      show ([Slot.val b] ++ lg_sl u).length = (a :: zexp t).length
      simp [ih h2]
theorem zexp_args {X : zCx} : ∀ {as : List Nat} {vs : List Value} {o : Nat}, zSt X as vs → ∀ i c, (zexp as)[i]? = some c → ¬ c = 13 → ∃ v, (o + i, v) ∈ lv_args o vs ∧ zV X c v := by
  intro as
  induction as with
  | nil => intro vs o h i c hc; simp [zexp] at hc
  | cons a t ih =>
    intro vs o h i c hc hn
    obtain ⟨b, u, rfl, h1, h2⟩ := zSt_c h
    have e1 : zexp (a :: t) = zif (Nat.beq (Nat.mod a 8) 4) (a :: 13 :: zexp t) (a :: zexp t) := rfl
    have e2 : lv_args o (b :: u) = (o, b) :: lv_args (if b.category = 2 then o + 2 else o + 1) u := rfl
    rw [e1] at hc
    rw [e2, zv_cat h1]
    cases hb : Nat.beq (Nat.mod a 8) 4 with
    | true =>
      have this : a % 8 = 4 := zbeqT hb
      rw [if_pos this, if_pos rfl]
      rw [hb] at hc
      have hc : (a :: 13 :: zexp t)[i]? = some c := hc
      match i, hc with
      | 0, hc => rw [List.getElem?_cons_zero] at hc; cases hc; exact ⟨b, List.mem_cons_self, h1⟩
      | 1, hc => rw [List.getElem?_cons_succ, List.getElem?_cons_zero] at hc; cases hc; exact absurd rfl hn
      | i + 2, hc =>
        rw [List.getElem?_cons_succ, List.getElem?_cons_succ] at hc
        obtain ⟨v, q1, q2⟩ := ih (o := o + 2) h2 i c hc hn
        exact ⟨v, List.mem_cons_of_mem _ (by rw [show o + (i + 2) = o + 2 + i by omega]; exact q1), q2⟩
    | false =>
      have this : ¬ a % 8 = 4 := zbeqF hb
      rw [if_neg this, if_neg (by decide)]
      rw [hb] at hc
      have hc : (a :: zexp t)[i]? = some c := hc
      match i, hc with
      | 0, hc => rw [List.getElem?_cons_zero] at hc; cases hc; exact ⟨b, List.mem_cons_self, h1⟩
      | i + 1, hc =>
        rw [List.getElem?_cons_succ] at hc
        obtain ⟨v, q1, q2⟩ := ih (o := o + 1) h2 i c hc hn
        exact ⟨v, List.mem_cons_of_mem _ (by rw [show o + (i + 1) = o + 1 + i by omega]; exact q1), q2⟩
theorem zSt_split {X : zCx} : ∀ {s1 s2 : List Nat} {q : List Value}, zSt X (s1 ++ s2) q → ∃ q1 q2, q = q1 ++ q2 ∧ zSt X s1 q1 ∧ zSt X s2 q2 := by
  intro s1
  induction s1 with
  | nil => intro s2 q h; exact ⟨[], q, rfl, trivial, h⟩
  | cons a t ih =>
    intro s2 q h
    obtain ⟨b, u, rfl, h1, h2⟩ := zSt_c h
    obtain ⟨q1, q2, rfl, h3, h4⟩ := ih h2
    exact ⟨b :: q1, q2, rfl, ⟨h1, h3⟩, h4⟩
theorem zSt_rev {X : zCx} : ∀ {s1 : List Nat} {q1 : List Value}, zSt X s1 q1 → zSt X s1.reverse q1.reverse := by
  intro s1
  induction s1 with
  | nil => intro q1 h; rw [zSt_n h]; exact trivial
  | cons a t ih =>
    intro q1 h
    obtain ⟨b, u, rfl, h1, h2⟩ := zSt_c h
    rw [List.reverse_cons, List.reverse_cons]
    exact zSt_app (ih h2) ⟨h1, trivial⟩
/-- an answer -/
def zvo (X : zCx) (v : List Nat) (o : Option Value) : Prop := match v, o with
  | [], none => True
  | [a], some x => zV X a x
  | _, _ => False
def zQc (X : zCx) (K : zW → List Nat → zM → Prop) : Array Value → State → Outcome → State → Prop := fun _ _ o t => ∃ (w : zW) (v : List Nat) (m : zM) (vo : Option Value), o = .returned vo ∧ zvo X v vo ∧ zKn X t ∧ zMem X t w.1 m t.heap ∧ zEnv (zρ X) w.2 ∧ K w v m
theorem zcont {p : Program} {l : Launch} {e : Env} {R : Room} {s : State} {mt : MethodId} {args a : Array Value} {below : List Frame} {meth : Method} {c : Code} {Q : State → Prop} {X : zCx} {H : Heap} {locs : List Loc} {cells slots mc ms pc : Nat} {lsA : Array Slot} {st0 rest : List Value} {K : zW → List Nat → zM → Prop}
    (hr : va_Run p l e R s mt args below meth c H locs cells slots mc ms (F0 mt pc lsA st0) rest (zQc X K a) (fun q => zbs X ≤ q)) (hl : ∀ x ∈ locs, zbs X ≤ x.base)
    (kk : ∀ (w : zW) (v : List Nat) (m : zM) (vo : Option Value) (H2 : Heap) (locs2 : List Loc), zvo X v vo → zMem X s w.1 m H2 → zEnv (zρ X) w.2 → K w v m → (∀ x ∈ locs2, zbs X ≤ x.base) → W p l e R s mt args below meth c H2 locs2 (cells + mc) (slots + ms) Q (F0 mt (pc + 3) lsA (vo.toList ++ rest))) :
    W p l e R s mt args below meth c H locs cells slots Q (F0 mt pc lsA st0) := by
  intro T hT X0
  obtain ⟨v, st₀, t, T', L, h0, X', hL, e1, e2, ⟨w, vv, m, vo, ho, hvo, hKn, hMem, hE, hK⟩, st⟩ := hr T hT X0
  cases ho
  have hal : t.vm.Alike s.vm := by
    have := X'.warmed.alike
    rw [e2] at this
    exact this.symm
  obtain ⟨t2, a1, b1⟩ := kk w vv m v T'.heap (locs ++ L) hvo (by rw [e1]; exact hMem.moved hal) hE hK (fun x hx => by
    rcases List.mem_append.mp hx with h | h
    · exact hl x h
    · exact hL x h) T' rfl X'
  exact ⟨t2, st t2 a1, b1⟩
theorem zMet_ofW {l : Launch} {y : MethodName} {rm : Room} {Pc : Array Value → State → Prop} {Qc : Array Value → State → Outcome → State → Prop} {mc ms : Nat} {free : Addr → Prop} {cc : ByteArray} {maxL : Nat} {ret : Option FieldType} (hy : plainFor y = true)
    (body : ∀ p e s m args below meth c s₁, BodyLoose p l y (headSpec [Cond.code y cc maxL ret] rm) cc maxL ret e s m args below meth c s₁ → c.maxLocals = maxL → Pc args s →
      W p l e (headSpec [Cond.code y cc maxL ret] rm).room s m args below meth c s.heap [] 0 0 (MQ below Qc args s mc ms free) (entryFrame m args maxL)) : Met l y [Cond.code y cc maxL ret] rm Pc Qc mc ms free := by
  refine MetFree.of_bodySF (code := cc) (maxLocals := maxL) (ret := ret) hy ?_ ?_
  · intro args s m h hn
    obtain ⟨meth, c, h1, h2, h3, h4, h5, h6, -, -⟩ := Cond.code_spec hn (atoms_spec (ws := [Cond.code y cc maxL ret]) h _ List.mem_cons_self)
    exact ⟨meth, c, h1, h2, h3, h4, h5, h6⟩
  · intro p e s m args below meth c s₁ B hml hP _
    have hh0 : s₁.heap = s.heap := by rw [B.state]; rfl
    obtain ⟨t, a1, o, b1, b2, b3⟩ := body p e s m args below meth c s₁ B hml hP s₁ hh0 (Stand.of_body B)
    exact ⟨t, o, a1, b1, b2, ⟨b3.1, b3.2⟩⟩
end
section
/-! THE EXECUTOR IS RIGHT: by induction on its steps -/
def zRi (me : zMe) (pc : Nat) (vo : Option Value) : Prop :=
  (decode me.2.1 pc = .ok (.ireturn, 1) ∧ ∃ (x : Int32) (ty : FieldType), vo = some (.int x) ∧ me.2.2.1 = some ty ∧ narrow ty (.int x) = .int x) ∨
  (decode me.2.1 pc = .ok (.lreturn, 1) ∧ ∃ x : Int64, vo = some (.long x) ∧ me.2.2.1 = some .long) ∨ (decode me.2.1 pc = .ok (.return_, 1) ∧ vo = none ∧ me.2.2.1 = none)
def zCt (X : zCx) (en : zEn) (me : zMe) (d : Nat) (p : Program) (R : Room) (s : State) (mt : MethodId) (meth : Method) (c : Code) : Prop :=
  p.tables.exec = Jvm.exec ∧ c.code = me.2.1 ∧ c.maxLocals = en.2.2.1 ∧ s.vm.findClass me.2.2.2 = some mt.cls ∧ zKn X s ∧ (¬ en.2.2.2.2.2.2.2.2 = 0 → meth.name = "<init>") ∧ d ≤ R.frames ∧ 64 * d ≤ R.locals ∧ en.2.2.2.2.2.1 ≤ R.cells ∧ en.2.2.2.2.2.2.1 ≤ R.slots
def zHr (bt : zW → List Nat → zM → Bool) (L : Nat) (stop : zK) (n : Nat) (X : zCx) (en : zEn) (me : zMe) (fs : List zFr) (p : Program) (l : Launch) (e : Env) (R : Room) (s : State) (mt : MethodId) (args : Array Value) (below : List Frame) (meth : Method) (c : Code) (Q : State → Prop) : Prop :=
  ∀ (n' : Nat) (w : zW) (v : List Nat) (m : zM) (H : Heap) (locs : List Loc) (lsA : Array Slot) (pc : Nat) (vo : Option Value) (cells slots : Nat), n' < n → zback bt v (zok bt L stop n') w fs m = true → zEnv (zρ X) w.2 → zMem X s w.1 m H → (∀ x ∈ locs, zbs X ≤ x.base) → cells ≤ en.2.2.2.2.2.1 → slots ≤ en.2.2.2.2.2.2.1 → zvo X v vo → zRi me pc vo →
    W p l e R s mt args below meth c H locs cells slots Q (F0 mt pc lsA vo.toList)
def zHs (stop : zK) (X : zCx) (en : zEn) (d : Nat) (fs : List zFr) (p : Program) (l : Launch) (e : Env) (R : Room) (s : State) (mt : MethodId) (args : Array Value) (below : List Frame) (meth : Method) (c : Code) (Q : State → Prop) : Prop :=
  ∀ (w : zW) (pc : Nat) (ls st : List Nat) (q : zQ) (m : zM) (H : Heap) (locs : List Loc) (lsA : Array Slot) (stA : List Value), stop w en.1 en.2.2.2.2 pc ls st q fs m = true → zRl X s en.2.2.1 (d, en.2.2.2.2.2.1, en.2.2.2.2.2.2.1) w ls st q m H locs lsA stA →
    W p l e R s mt args below meth c H locs q.2.1 q.2.2 Q (F0 mt pc lsA stA)
def zMain (l : Launch) (bt : zW → List Nat → zM → Bool) (L : Nat) (stop : zK) (n : Nat) : Prop :=
  ∀ (X : zCx) (y0 : Nat) (en : zEn) (me : zMe), zLn X = L → zOK y0 en me →
  ∀ (w : zW) (pc : Nat) (ls st : List Nat) (q : zQ) (fs : List zFr) (m : zM), zok bt L stop n w en.1 en.2.2.2.2 pc ls st q fs m = true →
  ∀ (p : Program) (e : Env) (R : Room) (s : State) (mt : MethodId) (args : Array Value) (below : List Frame) (meth : Method) (c : Code) (Q : State → Prop) (H : Heap) (locs : List Loc) (lsA : Array Slot) (stA : List Value),
    zCt X en me q.1 p R s mt meth c → zRl X s en.2.2.1 (q.1, en.2.2.2.2.2.1, en.2.2.2.2.2.2.1) w ls st q m H locs lsA stA → zHr bt L stop n X en me fs p l e R s mt args below meth c Q → zHs stop X en q.1 fs p l e R s mt args below meth c Q →
    W p l e R s mt args below meth c H locs q.2.1 q.2.2 Q (F0 mt pc lsA stA)
theorem zback_c {bt : zW → List Nat → zM → Bool} {v : List Nat} {k : zK} {w : zW} {cf : Nat → zT} {y : zY} {pc : Nat} {ls st : List Nat} {q : zQ} {fs : List zFr} {m : zM} : zback bt v k w ((cf, y, pc, ls, st, q) :: fs) m = k w cf y pc ls (List.rec (motive := fun _ => List Nat) st (fun a _ _ => a :: st) v) q fs m := rfl
/-- a callee's contract out of its run -/
theorem zmet {l : Launch} {bt : zW → List Nat → zM → Bool} {L : Nat} {stop : zK} {n : Nat} (hM : zMain l bt L stop n) (hst : ∀ w cf y pc ls st q f fs m, stop w cf y pc ls st q (f :: fs) m = false) {X : zCx} {y0 : Nat} {en : zEn} {me : zMe} (hL : zLn X = L) (hOK : zOK y0 en me)
    {w : zW} {l2 : List Nat} {d : Nat} {fr : zFr} {fs : List zFr} {m : zM} {as : List Nat} {AsV : List Value} (h : zok bt L stop n w en.1 en.2.2.2.2 0 l2 [] (d, 0, 0) (fr :: fs) m = true) (hE : zEnv (zρ X) w.2) (hA : zSt X as AsV) (hl : l2.length = en.2.2.1) (hle : (zexp as).length ≤ en.2.2.1) (hl2 : ∀ i c : Nat, l2[i]? = some c → (zexp as)[i]? = some c ∨ c = 13) :
    Met l me.1 [Cond.code me.1 me.2.1 en.2.2.1 me.2.2.1] { frames := d, cells := en.2.2.2.2.2.1, slots := en.2.2.2.2.2.2.1, locals := 64 * d } (va_Pc AsV (fun U => zKn X U ∧ zMem X U w.1 m U.heap)) (zQc X (fun w2 v m2 => ∃ n', n' < n ∧ zback bt v (zok bt L stop n') w2 (fr :: fs) m2 = true)) en.2.2.2.2.2.1 en.2.2.2.2.2.2.1 (fun q => zbs X ≤ q) := by
  obtain ⟨hrow, hnum, hrk, hcn, hcls, hml40, hpl, g, hin, hg1, hgw⟩ := hOK
  refine zMet_ofW hpl ?_
  intro p e s mt args below meth c s₁ B hml hv
  obtain ⟨rfl, hK, hMem⟩ := hv
  have hown : s.vm.findClass me.2.2.2 = some mt.cls := by rw [← hcls]; exact findClass_of_methodNamed B.named
  have hlen := zexp_len hA
  have hent := lv_entry AsV (n := en.2.2.1) (by rw [hlen]; exact hle)
  rw [lg_entry_eq]
  generalize (lg_sl AsV ++ List.replicate (en.2.2.1 - (lg_sl AsV).length) Slot.unset).toArray = lsA at hent ⊢
  have hlocks := B.notSynchronized
  refine hM X y0 en me hL ⟨hrow, hnum, hrk, hcn, hcls, hml40, hpl, g, hin, hg1, hgw⟩ w 0 l2 [] (d, 0, 0) (fr :: fs) m h p e _ s mt _ below meth c _ s.heap [] lsA [] ⟨B.exec, B.bytes, hml, hown, hK, ?_, Nat.le_refl _, Nat.le_refl _, Nat.le_refl _, Nat.le_refl _⟩ ⟨hE, hMem, (fun x hx => by cases hx), ⟨hl, hent.1, hent.2.1, ?_⟩, trivial, rfl, Nat.zero_le _, Nat.zero_le _⟩ ?_ ?_
  · intro hne
    have hg : g = 1 := by
      by_cases q : g = 1
      · exact q
      · rw [if_neg q] at hin
        exact absurd hin hne
    rw [(name_of_methodNamed B.named B.method).1]
    exact (hg1 hg).1
  · intro i cc hc hn
    rcases hl2 i cc hc with h1 | h1
    · obtain ⟨v, h2, h3⟩ := zexp_args (o := 0) hA i cc h1 hn
      rw [Nat.zero_add] at h2
      exact ⟨v, hent.2.2 _ h2, h3⟩
    · exact absurd h1 hn
  · intro n' w2 v m2 H locs lsB pc vo cells slots hn' hbk hE2 hM2 hlo hc hs hvo hri
    have hq : ∀ t : State, t.heap = H → s.WarmedH t.vm → zQc X (fun w2 v m2 => ∃ n', n' < n ∧ zback bt v (zok bt L stop n') w2 (fr :: fs) m2 = true) AsV.toArray s (.returned vo) t := fun t ht hW => ⟨w2, v, m2, vo, rfl, hvo, hK.warm hW, by rw [ht]; exact hM2.moved hW.alike, hE2, n', hn', hbk⟩
    refine W.widen hc hs ?_
    rcases hri with ⟨hd, x, ty, rfl, hty, hnar⟩ | ⟨hd, x, rfl, hty⟩ | ⟨hd, rfl, hty⟩
    · exact W.zret B.exec B.bytes (by rw [B.returns]; exact hty) hnar hq hlo hd hlocks
    · exact W.lret B.exec B.bytes (by rw [B.returns]; exact hty) hq hlo hd hlocks
    · exact W.vret B.exec B.bytes (by rw [B.returns]; exact hty) hq hlo hd hlocks
  · intro w2 pc ls st q m2 H locs lsB stA hs
    rw [hst] at hs
    cases hs
section ZC
variable {p : Program} {l : Launch} {e : Env} {R : Room} {s : State} {mt : MethodId} {args : Array Value} {below : List Frame} {meth : Method} {c : Code} {Q : State → Prop} {X : zCx} {cf : Nat → zT} {y : zY} {fs : List zFr} {nL : Nat} {d : Nat × Nat × Nat}
variable {w : zW} {pc nx ax : Nat} {ls st : List Nat} {q : zQ} {m : zM} {H : Heap} {locs : List Loc} {lsA : Array Slot} {stA : List Value} {own : String} {cc : ByteArray} {idx pp : Nat}
variable {bt : zW → List Nat → zM → Bool} {L : Nat} {stop : zK} {n : Nat}
theorem zrcv_iff {cI : Nat} {as : List Nat} {b : Bool} {AsV : List Value} (hK : zKn X s) (hM : zMem X s w.1 m H) (hA : zSt X as AsV) (h : zrcv (cI + 1) as m b = true) : b = true ∧ ∃ (a : Addr) (As : List Value), AsV = .ref a :: As ∧ ∃ cellB : Cell, H[a]? = some cellB ∧ cellB.vm.isStatics = false ∧ s.vm.findClass (zcn cI) = some cellB.cls := by
  unfold zrcv at h
  simp only [zn_m, zn_d, zn_c, zn_s] at h
  rcases zif_iff h with ⟨h1, h9⟩ | ⟨-, h9⟩
  · exact absurd (zbeqT h1) (by omega)
  clear h
  have h := h9
  clear h9
  obtain ⟨a, t, es, h'⟩ := zpop_iff h
  clear h
  have h := h'
  clear h'
  subst es
  obtain ⟨x, u, rfl, hx, hA2⟩ := zSt_c hA
  rcases zif_iff h with ⟨h1, h⟩ | ⟨-, h⟩
  rotate_left
  · cases h
  have ex := zv_3 hx (zbeqT h1)
  subst ex
  have hlow := zlowH (w := w) hM
  rcases zif_iff h with ⟨h2, h⟩ | ⟨h2, h⟩
  · have h2 := zbleT h2
    rcases zif_iff h with ⟨h3, h⟩ | ⟨-, h⟩
    rotate_left
    · cases h
    obtain ⟨h3, h4⟩ := zand_iff h3
    have h3 := zbeqT h3
    have h4 : a / 8 - 100000 + 1 ≤ 30 := zbleT h4
    obtain ⟨i, hi⟩ : ∃ i, a / 8 = 100000 + i := ⟨a / 8 - 100000, by omega⟩
    obtain ⟨-, hO, -⟩ := hK.2.2.2.1 i (by omega)
    obtain ⟨cell, g1, g2, g3, -⟩ := hO.kept hlow
    refine ⟨h, _, u, rfl, cell, ?_, g2, ?_⟩
    · rw [hi, zhigh (by omega)]
      exact g1
    · have : cI = 13 := by omega
      rw [this]
      exact g3
  · obtain ⟨⟨tg, ln, ct⟩, hg, h⟩ := zget_iff h
    dsimp only at h
    rcases zif_iff h with ⟨h3, h⟩ | ⟨-, h⟩
    rotate_left
    · cases h
    obtain ⟨h3, h5⟩ := zand_iff h3
    have h3 := zbeqT h3
    have h5 := zbleT h5
    have htg : tg = cI := by omega
    have hfin := h
    subst htg
    obtain ⟨-, -, hc⟩ := hM.get hg (by dsimp only; omega)
    rcases hc with ⟨q1, cell, q2, q3, q4, q5⟩ | ⟨ty, cA, f, q1, -⟩
    · have q1 : tg < 12 := q1
      refine ⟨hfin, _, u, rfl, cell, q2, by rw [q4]; rfl, ?_⟩
      rw [q3]
      exact (hK.2.1 tg _ (zvw _ q1)).2.1
    · have := zty_kd (show zty tg = some ty from q1)
      omega
theorem zw_call {y2 kd : Nat} (hIH : ∀ k, k < n + 1 → zMain l bt L stop k) (hst : ∀ w cf y pc ls st q f fs m, stop w cf y pc ls st q (f :: fs) m = false) (hL : zLn X = L) (hK : zKn X s) (hfr : d.1 ≤ R.frames) (hlo : 64 * d.1 ≤ R.locals) (hmc : d.2.1 ≤ R.cells) (hms : d.2.2 ≤ R.slots) (hd1 : d.2.1 = y.2.1) (hd2 : d.2.2 = y.2.2.1) (hnx : nx = pc + 3)
    (hKS : ∀ k, k ≤ n → zKS p l e R s mt args below meth c Q X cf y fs nL d (zok bt L stop k)) (h : zcall y2 kd nx ax (zok bt L stop n) w cf y pc ls st q fs m = true) (hR : zRl X s nL d w ls st q m H locs lsA stA)
    (row : ∀ (en2 : zEn) (me2 : zMe) (AsV rest : List Value) (rm : Room) (Pc : Array Value → State → Prop) (K : zW → List Nat → zM → Prop), zG zMeth y2 = some me2 → zOK y2 en2 me2 → zKi kd en2 me2 → stA = AsV.reverse ++ rest → AsV.length = en2.2.1 → (rest.map fun v => v.category).sum ≤ 8 →
      Met l me2.1 [Cond.code me2.1 me2.2.1 en2.2.2.1 me2.2.2.1] rm Pc (zQc X K) en2.2.2.2.2.2.1 en2.2.2.2.2.2.2.1 (fun q => zbs X ≤ q) → rm.cells = en2.2.2.2.2.2.1 → rm.slots = en2.2.2.2.2.2.2.1 → rm.frames + 1 ≤ R.frames → 8 + (en2.2.2.1 + 11) + rm.locals ≤ R.locals → FrameBlind Pc → (∀ U : State, U.heap = H → s.WarmedH U.vm → Pc AsV.toArray U) →
      (¬ kd = 2 → ∃ (a : Addr) (As : List Value), AsV = .ref a :: As ∧ ∃ cellB : Cell, H[a]? = some cellB ∧ cellB.vm.isStatics = false ∧ s.vm.findClass me2.2.2.2 = some cellB.cls) → (q.2.1 + en2.2.2.2.2.2.1 ≤ R.cells ∧ q.2.2 + en2.2.2.2.2.2.2.1 ≤ R.slots) →
      va_Run p l e R s mt args below meth c H locs q.2.1 q.2.2 en2.2.2.2.2.2.1 en2.2.2.2.2.2.2.1 (F0 mt pc lsA stA) rest (zQc X K AsV.toArray) (fun q => zbs X ≤ q)) : W p l e R s mt args below meth c H locs q.2.1 q.2.2 Q (F0 mt pc lsA stA) := by
  subst hnx
  unfold zcall at h
  obtain ⟨gk, hgk, h⟩ := zget_iff h
  rcases zif_iff h with ⟨h0, h⟩ | ⟨-, h⟩
  rotate_left
  · cases h
  have h0 := zbeqT h0
  subst h0
  obtain ⟨en2, hen2, h⟩ := zget_iff h
  obtain ⟨me2, hme2, hOK⟩ := zall hen2
  have hKi : zKi gk en2 me2 := by
    obtain ⟨me3, hm3, hk3⟩ := zallk hen2 hgk
    rw [hme2] at hm3
    cases hm3
    exact hk3
  obtain ⟨cf2, na, ml, ow, yt⟩ := en2
  dsimp only at h
  obtain ⟨asr, r, rfl, hlen, h⟩ := zargs_iff h
  rw [List.append_nil] at h
  obtain ⟨d0, nc, ns⟩ := q
  dsimp only at h
  simp only [zfr_eq, zn_a, zn_c, zn_p] at h
  obtain ⟨qA, rest, rfl, hSa, hSr⟩ := zSt_split hR.2.2.2.2.1
  rcases zif_iff h with ⟨h1, h⟩ | ⟨-, h⟩
  rotate_left
  · cases h
  obtain ⟨h1, h2⟩ := zand_iff h1
  obtain ⟨h2, h3⟩ := zand_iff h2
  obtain ⟨h3, h4⟩ := zand_iff h3
  have h1 := zbleT h1
  have h2 := zbleT h2
  have h3 := zbleT h3
  have h4 := zbleT h4
  have hd0 : d0 = d.1 := hR.2.2.2.2.2.1
  have hA := zSt_rev hSa
  have hrcv : (zpad ml (zexp asr.reverse) (fun l2 => zok bt L stop n w cf2 yt 0 l2 [] (d0 - 1, 0, 0) ((cf, y, pc + 3, ls, r, d0, nc + yt.2.1, ns + yt.2.2.1) :: fs) m)) = true ∧ (¬ gk = 2 → ∃ (a : Addr) (As : List Value), qA.reverse = .ref a :: As ∧ ∃ cellB : Cell, H[a]? = some cellB ∧ cellB.vm.isStatics = false ∧ s.vm.findClass me2.2.2.2 = some cellB.cls) := by
    by_cases hk : gk = 2
    · subst hk
      exact ⟨h, fun q => absurd rfl q⟩
    · have e0 : Nat.beq gk 2 = false := by
        cases hq : Nat.beq gk 2 with
        | false => rfl
        | true => exact absurd (zbeqT hq) hk
      rw [e0] at h
      have h' : zrcv (ow + 1) asr.reverse m (zpad ml (zexp asr.reverse) (fun l2 => zok bt L stop n w cf2 yt 0 l2 [] (d0 - 1, 0, 0) ((cf, y, pc + 3, ls, r, d0, nc + yt.2.1, ns + yt.2.2.1) :: fs) m)) = true := h
      obtain ⟨g1, g2⟩ := zrcv_iff hK hR.2.1 hA h'
      refine ⟨g1, fun _ => ?_⟩
      have e1 : zcn ow = me2.2.2.2 := hOK.2.2.2.1
      rw [← e1]
      exact g2
  obtain ⟨hpd, hrec⟩ := hrcv
  obtain ⟨l2, hl2, hle, hl3, h⟩ := zpad_iff hpd
  have hMet := zmet (hIH n (Nat.lt_succ_self n)) hst hL hOK (w := w) (l2 := l2) (d := d0 - 1) (as := asr.reverse) (AsV := qA.reverse) h hR.1 hA hl2 hle hl3
  have hml40 : ml ≤ 40 := hOK.2.2.2.2.2.1
  have hrun := row (cf2, na, ml, ow, yt) me2 qA.reverse rest _ _ _ hme2 hOK hKi (by rw [List.reverse_reverse]) (by rw [List.length_reverse, zSt_len hSa]; exact hlen) (by rw [zSt_words hSr]; exact h1) hMet rfl rfl (by dsimp only; omega) (by dsimp only; omega)
    (fun a U g mk hp => ⟨hp.1, zKn.same (s := U) rfl hp.2.1, (hp.2.2).moved (u := U) (Vm.Alike.refl U.vm)⟩) (fun U hU hW => ⟨rfl, hK.warm hW, by rw [hU]; exact hR.2.1.moved hW.alike⟩) hrec (by dsimp only; omega)
  refine zcont hrun hR.2.2.1 (fun w2 v m2 vo H2 locs2 hvo hMem2 hE2 hKk hlo2 => ?_)
  obtain ⟨n', hn', hb⟩ := hKk
  rw [zback_c] at hb
  refine hKS n' (by omega) w2 (pc + 3) ls _ (d0, nc + yt.2.1, ns + yt.2.2.1) m2 H2 locs2 lsA _ hb ⟨hE2, hMem2, hlo2, hR.2.2.2.1, ?_, hR.2.2.2.2.2.1, by dsimp only; omega, by dsimp only; omega⟩
  match v, vo, hvo with
  | [], none, _ => exact hSr
  | [a], some x, hz => exact ⟨hz, hSr⟩
theorem zrk_1 {r : Option FieldType} : (zrk r = 0 → r = none) ∧ (zrk r = 1 → r = some .int) ∧ (zrk r = 2 → r = some .boolean) ∧ (zrk r = 3 → r = some .long) ∧ (zrk r = 4 → r = some .byte) ∧ (zrk r = 5 → r = some .char) := by
  unfold zrk
  split <;> simp
theorem znb : ∀ u, u < 128 → narrow .byte (.int (Int32.ofNat u)) = .int (Int32.ofNat u) := by decide +kernel
theorem zans_iff {g v : Nat} {x : Value} {r : Option FieldType} (h : zans g v = true) (hv : zV X v x) (hr : zrk r = g) (hg : ¬ g = 3) : ∃ (n : Int32) (ty : FieldType), x = .int n ∧ r = some ty ∧ narrow ty (.int n) = .int n := by
  obtain ⟨-, r1, r2, -, r4, r5⟩ := zrk_1 (r := r)
  unfold zans at h
  simp only [zn_m, zn_d] at h
  rcases zif_iff h with ⟨h1, h⟩ | ⟨h1, h⟩
  · have e1 := zbeqT h1
    obtain ⟨n, rfl⟩ := zv_int hv (zbleT h)
    exact ⟨n, .int, rfl, r1 (hr.trans e1), rfl⟩
  rcases zif_iff h with ⟨h2, h⟩ | ⟨h2, h⟩
  · have e1 := zbeqT h2
    have hx : x = .int 0 ∨ x = .int 1 := by
      rcases zif_iff h with ⟨h3, -⟩ | ⟨-, h3⟩
      · have e2 := zbeqT h3
        subst e2
        exact Or.inl (zv_0 hv rfl)
      · have e2 := zbeqT h3
        subst e2
        exact Or.inr (zv_0 hv rfl)
    rcases hx with rfl | rfl
    · exact ⟨0, .boolean, rfl, r2 (hr.trans e1), by decide⟩
    · exact ⟨1, .boolean, rfl, r2 (hr.trans e1), by decide⟩
  rcases zif_iff h with ⟨h3, h⟩ | ⟨h3, h⟩
  · exact absurd (zbeqT h3) hg
  obtain ⟨h4, h5⟩ := zand_iff h
  obtain ⟨h5, h6⟩ := zand_iff h5
  have e0 := zv_0 hv (zbeqT h5)
  have h6 := zbleT h6
  rcases zif_iff h4 with ⟨h7, -⟩ | ⟨-, h7⟩
  · exact ⟨_, .byte, e0, r4 (hr.trans (zbeqT h7)), znb _ (by omega)⟩
  · exact ⟨_, .char, e0, r5 (hr.trans (zbeqT h7)), (pk_charN (q := v / 8) (by omega)).1⟩
theorem zw_ret {lg : Bool} {en : zEn} {me : zMe} (hrk : zrk me.2.2.1 = en.2.2.2.2.2.2.2.1) (hdg : decode me.2.1 pc = .ok (if lg then .lreturn else .ireturn, 1)) (hHr : zHr bt L stop (n + 1) X en me fs p l e R s mt args below meth c Q) (hd1 : d.2.1 = en.2.2.2.2.2.1) (hd2 : d.2.2 = en.2.2.2.2.2.2.1)
    (h : zo_ret bt lg nx ax (zok bt L stop n) w cf en.2.2.2.2 pc ls st q fs m = true) (hR : zRl X s nL d w ls st q m H locs lsA stA) : W p l e R s mt args below meth c H locs q.2.1 q.2.2 Q (F0 mt pc lsA stA) := by
  unfold zo_ret at h
  obtain ⟨v, r, es, h'⟩ := zpop_iff h
  clear h
  have h := h'
  clear h'
  subst es
  cases r with
  | cons a t => cases h
  | nil =>
    have h : zif (zand (zif lg (Nat.beq en.2.2.2.2.2.2.2.1 3) (zif (Nat.beq en.2.2.2.2.2.2.2.1 3) false true)) (zans en.2.2.2.2.2.2.2.1 v)) (zback bt [v] (zok bt L stop n) w fs m) false = true := h
    obtain ⟨x, stB, rfl, hv, hS2⟩ := zSt_c hR.2.2.2.2.1
    have e1 := zSt_n hS2
    subst e1
    rcases zif_iff h with ⟨h1, h⟩ | ⟨-, h⟩
    rotate_left
    · cases h
    obtain ⟨h1, h2⟩ := zand_iff h1
    refine hHr n w [v] m H locs lsA pc (some x) q.2.1 q.2.2 (Nat.lt_succ_self n) h hR.1 hR.2.1 hR.2.2.1 (by rw [← hd1]; exact hR.2.2.2.2.2.2.1) (by rw [← hd2]; exact hR.2.2.2.2.2.2.2) hv ?_
    cases lg with
    | false =>
      have h3 : ¬ en.2.2.2.2.2.2.2.1 = 3 := by
        rcases zif_iff (c := Nat.beq en.2.2.2.2.2.2.2.1 3) (t := false) (e := true) h1 with ⟨-, h3⟩ | ⟨h3, -⟩
        · cases h3
        · exact zbeqF h3
      obtain ⟨k, ty, e1, e2, e3⟩ := zans_iff h2 hv hrk h3
      exact Or.inl ⟨hdg, k, ty, by rw [e1], e2, e3⟩
    | true =>
      have h3 : en.2.2.2.2.2.2.2.1 = 3 := zbeqT h1
      obtain ⟨-, -, -, r3, -⟩ := zrk_1 (r := me.2.2.1)
      rw [h3] at h2
      have e4 := zv_4 hv (zbeqT h2)
      exact Or.inr (Or.inl ⟨hdg, _, by rw [e4], r3 (hrk.trans h3)⟩)
theorem zw_retv {en : zEn} {me : zMe} (hrk : zrk me.2.2.1 = en.2.2.2.2.2.2.2.1) (hdg : decode me.2.1 pc = .ok (.return_, 1)) (hHr : zHr bt L stop (n + 1) X en me fs p l e R s mt args below meth c Q) (hd1 : d.2.1 = en.2.2.2.2.2.1) (hd2 : d.2.2 = en.2.2.2.2.2.2.1)
    (h : zo_retv bt nx ax (zok bt L stop n) w cf en.2.2.2.2 pc ls st q fs m = true) (hR : zRl X s nL d w ls st q m H locs lsA stA) : W p l e R s mt args below meth c H locs q.2.1 q.2.2 Q (F0 mt pc lsA stA) := by
  unfold zo_retv at h
  cases st with
  | cons a t => cases h
  | nil =>
    have h : zif (Nat.beq en.2.2.2.2.2.2.2.1 0) (zback bt [] (zok bt L stop n) w fs m) false = true := h
    have e1 := zSt_n hR.2.2.2.2.1
    subst e1
    rcases zif_iff h with ⟨h1, h⟩ | ⟨-, h⟩
    rotate_left
    · cases h
    exact hHr n w [] m H locs lsA pc none q.2.1 q.2.2 (Nat.lt_succ_self n) h hR.1 hR.2.1 hR.2.2.1 (by rw [← hd1]; exact hR.2.2.2.2.2.2.1) (by rw [← hd2]; exact hR.2.2.2.2.2.2.2) trivial (Or.inr (Or.inr ⟨hdg, rfl, zrk_1.1 (hrk.trans (zbeqT h1))⟩))
end ZC
end
section
theorem zdec {me : zMe} {pc nx k : Nat} {i : Instr} (hk : zln i = k) (hk0 : ¬ k = 0) (hlen : zln i = 0 ∨ nx = pc + zln i) (hdec : decode me.2.1 pc = .ok (i, nx - pc)) : nx = pc + k ∧ decode me.2.1 pc = .ok (i, k) := by
  rcases hlen with h | h
  · exact absurd (hk.symm.trans h) hk0
  · rw [hk] at h
    refine ⟨h, ?_⟩
    rw [hdec, h, Nat.add_sub_cancel_left]
theorem zinv_k {nx ax kd : Nat} {k : zK} {w : zW} {cf : Nat → zT} {y : zY} {pc : Nat} {ls st : List Nat} {q : zQ} {fs : List zFr} {m : zM} (hx : ax % 16 < 15) (hk : ax % 16 / 2 = kd) (h : zo_inv nx ax k w cf y pc ls st q fs m = true) : zcall (ax / 16) kd nx ax k w cf y pc ls st q fs m = true := by
  unfold zo_inv at h
  simp only [zn_m, zn_d] at h
  have e1 : Nat.beq (ax % 16) 15 = false := by
    cases hq : Nat.beq (ax % 16) 15 with
    | false => rfl
    | true => exact absurd (zbeqT hq) (by omega)
  rw [e1, hk] at h
  exact h
theorem zrow_v {p : Program} {l : Launch} {e : Env} {R : Room} {s : State} {mt : MethodId} {args : Array Value} {below : List Frame} {meth : Method} {c : Code} {X : zCx} {nL pc idx cells slots : Nat} {H : Heap} {locs : List Loc} {lsA : Array Slot} {stA rest AsV : List Value} {own : String} {cc : ByteArray} {en2 : zEn} {me2 : zMe} {rm : Room} {Pc : Array Value → State → Prop} {K : zW → List Nat → zM → Prop}
    (hexec : p.tables.exec = Jvm.exec) (hb : c.code = cc) (hml : c.maxLocals = nL) (hown : s.vm.findClass own = some mt.cls) (hK : zKn X s) (hw : Cond.methodLink own idx me2.1 ∈ lw_tbl) (hcls2 : me2.1.cls = me2.2.2.2) (hKi : zKi 0 en2 me2)
    (hsA : stA = AsV.reverse ++ rest) (hAl : AsV.length = en2.2.1) (hrw : (rest.map fun v => v.category).sum ≤ 8) (hMet : Met l me2.1 [Cond.code me2.1 me2.2.1 en2.2.2.1 me2.2.2.1] rm Pc (zQc X K) en2.2.2.2.2.2.1 en2.2.2.2.2.2.2.1 (fun q => zbs X ≤ q)) (hr1 : rm.cells = en2.2.2.2.2.2.1) (hr2 : rm.slots = en2.2.2.2.2.2.2.1) (hr3 : rm.frames + 1 ≤ R.frames) (hr4 : 8 + (en2.2.2.1 + 11) + rm.locals ≤ R.locals) (hbl : FrameBlind Pc) (hpre : ∀ U : State, U.heap = H → s.WarmedH U.vm → Pc AsV.toArray U) (hrc : ∃ (a : Addr) (As : List Value), AsV = .ref a :: As ∧ ∃ cellB : Cell, H[a]? = some cellB ∧ cellB.vm.isStatics = false ∧ s.vm.findClass me2.2.2.2 = some cellB.cls)
    (hcs : cells + en2.2.2.2.2.2.1 ≤ R.cells ∧ slots + en2.2.2.2.2.2.2.1 ≤ R.slots) (hsz : lsA.size = nL) (hd : decode cc pc = .ok (.invokevirtual idx, 3)) : va_Run p l e R s mt args below meth c H locs cells slots en2.2.2.2.2.2.1 en2.2.2.2.2.2.2.1 (F0 mt pc lsA stA) rest (zQc X K AsV.toArray) (fun q => zbs X ≤ q) := by
  obtain ⟨-, hg12, hgw2⟩ := hKi
  rcases hgw2 with z | ⟨hnm, hcode, hini, hkd, hsel, hpar⟩
  · exact absurd z (by decide)
  have hcodeB := zword (args := args) hK hcode rfl
  have hiniB := zword (args := args) hK hini rfl
  have hws : ∀ w ∈ [Cond.code me2.1 me2.2.1 en2.2.2.1 me2.2.2.1], ∀ (a' : Array Value) (U : State), s.WarmedH U.vm → w.before a' U = true := fun w hw a' U hW => by
    rw [List.mem_singleton] at hw
    rw [hw]
    exact (hK.warm hW).1 _ hcode rfl a'
  have hS : CallFix p mt c cc nL s args [] own := ⟨hexec, hb, hml, hown, fun _ h => by cases h⟩
  have hlen : ∀ sig, parseMethodDescriptor me2.1.desc = some sig → en2.2.1 = sig.parameters.length + 1 := fun sig h => by
    rw [h] at hpar
    exact (Option.some.inj hpar).symm
  rw [if_neg (by decide)] at hkd
  obtain ⟨a, As, rfl, hcell⟩ := hrc
  rw [← hcls2] at hcell
  exact va_runV (As := As) (n := As.length) hS hMet ⟨⟨hr1, hr2, hr3, hr4, hws, List.mem_cons_self, hcodeB, hiniB, hnm, (fun sig h => by have := hlen sig h; rw [← hAl, List.length_cons] at this; omega), zword (args := args) hK hw rfl⟩, zword (args := args) hK hkd rfl, zword (args := args) hK (hsel rfl) rfl⟩ ⟨hbl, hcell, hpre⟩ rfl rfl hsz (by rw [hsA, List.reverse_cons, List.append_assoc]; rfl) (lv_room hrw) hd hcs
theorem zrow_vN {p : Program} {l : Launch} {e : Env} {R : Room} {s : State} {mt : MethodId} {args : Array Value} {below : List Frame} {meth : Method} {c : Code} {X : zCx} {nL pc idx cells slots : Nat} {H : Heap} {locs : List Loc} {lsA : Array Slot} {stA rest AsV : List Value} {own : String} {cc : ByteArray} {en2 : zEn} {me2 : zMe} {rm : Room} {Pc : Array Value → State → Prop} {K : zW → List Nat → zM → Prop}
    (hexec : p.tables.exec = Jvm.exec) (hb : c.code = cc) (hml : c.maxLocals = nL) (hown : s.vm.findClass own = some mt.cls) (hK : zKn X s) (hw : Cond.methodLinkNest own idx me2.1 "HornBraider" ∈ lw_tbl) (hcls2 : me2.1.cls = me2.2.2.2) (hKi : zKi 0 en2 me2)
    (hsA : stA = AsV.reverse ++ rest) (hAl : AsV.length = en2.2.1) (hrw : (rest.map fun v => v.category).sum ≤ 8) (hMet : Met l me2.1 [Cond.code me2.1 me2.2.1 en2.2.2.1 me2.2.2.1] rm Pc (zQc X K) en2.2.2.2.2.2.1 en2.2.2.2.2.2.2.1 (fun q => zbs X ≤ q)) (hr1 : rm.cells = en2.2.2.2.2.2.1) (hr2 : rm.slots = en2.2.2.2.2.2.2.1) (hr3 : rm.frames + 1 ≤ R.frames) (hr4 : 8 + (en2.2.2.1 + 11) + rm.locals ≤ R.locals) (hbl : FrameBlind Pc) (hpre : ∀ U : State, U.heap = H → s.WarmedH U.vm → Pc AsV.toArray U) (hrc : ∃ (a : Addr) (As : List Value), AsV = .ref a :: As ∧ ∃ cellB : Cell, H[a]? = some cellB ∧ cellB.vm.isStatics = false ∧ s.vm.findClass me2.2.2.2 = some cellB.cls)
    (hcs : cells + en2.2.2.2.2.2.1 ≤ R.cells ∧ slots + en2.2.2.2.2.2.2.1 ≤ R.slots) (hsz : lsA.size = nL) (hd : decode cc pc = .ok (.invokevirtual idx, 3)) : va_Run p l e R s mt args below meth c H locs cells slots en2.2.2.2.2.2.1 en2.2.2.2.2.2.2.1 (F0 mt pc lsA stA) rest (zQc X K AsV.toArray) (fun q => zbs X ≤ q) := by
  obtain ⟨-, hg12, hgw2⟩ := hKi
  rcases hgw2 with z | ⟨hnm, hcode, hini, hkd, hsel, hpar⟩
  · exact absurd z (by decide)
  have hcodeB := zword (args := args) hK hcode rfl
  have hiniB := zword (args := args) hK hini rfl
  have hws : ∀ w ∈ [Cond.code me2.1 me2.2.1 en2.2.2.1 me2.2.2.1], ∀ (a' : Array Value) (U : State), s.WarmedH U.vm → w.before a' U = true := fun w hw a' U hW => by
    rw [List.mem_singleton] at hw
    rw [hw]
    exact (hK.warm hW).1 _ hcode rfl a'
  have hS : CallFix p mt c cc nL s args [] own := ⟨hexec, hb, hml, hown, fun _ h => by cases h⟩
  have hlen : ∀ sig, parseMethodDescriptor me2.1.desc = some sig → en2.2.1 = sig.parameters.length + 1 := fun sig h => by
    rw [h] at hpar
    exact (Option.some.inj hpar).symm
  rw [if_neg (by decide)] at hkd
  obtain ⟨a, As, rfl, hcell⟩ := hrc
  rw [← hcls2] at hcell
  exact va_runVN (As := As) (n := As.length) hS hMet ⟨⟨⟨hr1, hr2, hr3, hr4, hws, List.mem_cons_self⟩, hcodeB, hiniB, hnm, (fun sig h => by have := hlen sig h; rw [← hAl, List.length_cons] at this; omega), zword (args := args) hK hw rfl⟩, zword (args := args) hK hkd rfl, zword (args := args) hK (hsel rfl) rfl⟩ ⟨hbl, hcell, hpre⟩ rfl rfl hsz (by rw [hsA, List.reverse_cons, List.append_assoc]; rfl) (lv_room hrw) hd hcs
theorem zrow_i {p : Program} {l : Launch} {e : Env} {R : Room} {s : State} {mt : MethodId} {args : Array Value} {below : List Frame} {meth : Method} {c : Code} {X : zCx} {nL pc idx cells slots : Nat} {H : Heap} {locs : List Loc} {lsA : Array Slot} {stA rest AsV : List Value} {own : String} {cc : ByteArray} {en2 : zEn} {me2 : zMe} {rm : Room} {Pc : Array Value → State → Prop} {K : zW → List Nat → zM → Prop}
    (hexec : p.tables.exec = Jvm.exec) (hb : c.code = cc) (hml : c.maxLocals = nL) (hown : s.vm.findClass own = some mt.cls) (hK : zKn X s) (hw : Cond.methodLink own idx me2.1 ∈ lw_tbl) (hcls2 : me2.1.cls = me2.2.2.2) (hKi : zKi 1 en2 me2)
    (hsA : stA = AsV.reverse ++ rest) (hAl : AsV.length = en2.2.1) (hrw : (rest.map fun v => v.category).sum ≤ 8) (hMet : Met l me2.1 [Cond.code me2.1 me2.2.1 en2.2.2.1 me2.2.2.1] rm Pc (zQc X K) en2.2.2.2.2.2.1 en2.2.2.2.2.2.2.1 (fun q => zbs X ≤ q)) (hr1 : rm.cells = en2.2.2.2.2.2.1) (hr2 : rm.slots = en2.2.2.2.2.2.2.1) (hr3 : rm.frames + 1 ≤ R.frames) (hr4 : 8 + (en2.2.2.1 + 11) + rm.locals ≤ R.locals) (hbl : FrameBlind Pc) (hpre : ∀ U : State, U.heap = H → s.WarmedH U.vm → Pc AsV.toArray U) (hrc : ∃ (a : Addr) (As : List Value), AsV = .ref a :: As ∧ ∃ cellB : Cell, H[a]? = some cellB ∧ cellB.vm.isStatics = false ∧ s.vm.findClass me2.2.2.2 = some cellB.cls)
    (hcs : cells + en2.2.2.2.2.2.1 ≤ R.cells ∧ slots + en2.2.2.2.2.2.2.1 ≤ R.slots) (hsz : lsA.size = nL) (hd : decode cc pc = .ok (.invokespecial idx, 3)) : va_Run p l e R s mt args below meth c H locs cells slots en2.2.2.2.2.2.1 en2.2.2.2.2.2.2.1 (F0 mt pc lsA stA) rest (zQc X K AsV.toArray) (fun q => zbs X ≤ q) := by
  obtain ⟨-, hg12, hgw2⟩ := hKi
  rcases hgw2 with z | ⟨hnm, hcode, hini, hkd, hsel, hpar⟩
  · exact absurd z (by decide)
  have hcodeB := zword (args := args) hK hcode rfl
  have hiniB := zword (args := args) hK hini rfl
  have hws : ∀ w ∈ [Cond.code me2.1 me2.2.1 en2.2.2.1 me2.2.2.1], ∀ (a' : Array Value) (U : State), s.WarmedH U.vm → w.before a' U = true := fun w hw a' U hW => by
    rw [List.mem_singleton] at hw
    rw [hw]
    exact (hK.warm hW).1 _ hcode rfl a'
  have hS : CallFix p mt c cc nL s args [] own := ⟨hexec, hb, hml, hown, fun _ h => by cases h⟩
  have hlen : ∀ sig, parseMethodDescriptor me2.1.desc = some sig → en2.2.1 = sig.parameters.length + 1 := fun sig h => by
    rw [h] at hpar
    exact (Option.some.inj hpar).symm
  rw [if_neg (by decide)] at hkd
  obtain ⟨hnmI, hretI⟩ := hg12 rfl
  rw [hretI] at hMet hcodeB hws
  obtain ⟨b, As, rfl, hcell⟩ := hrc
  exact va_runI (b := b) (As := As) (n := As.length) hS hMet ⟨⟨hr1, hr2, hr3, hr4, hws, List.mem_cons_self, hcodeB, hiniB, hnm, (fun sig h => by have := hlen sig h; rw [← hAl, List.length_cons] at this; omega), zword (args := args) hK hw rfl⟩, hnmI, zword (args := args) hK hkd rfl⟩ ⟨hbl, hpre⟩ rfl rfl hsz (by rw [hsA, List.reverse_cons, List.append_assoc]; rfl) (lv_room hrw) hd hcs
theorem zrow_iN {p : Program} {l : Launch} {e : Env} {R : Room} {s : State} {mt : MethodId} {args : Array Value} {below : List Frame} {meth : Method} {c : Code} {X : zCx} {nL pc idx cells slots : Nat} {H : Heap} {locs : List Loc} {lsA : Array Slot} {stA rest AsV : List Value} {own : String} {cc : ByteArray} {en2 : zEn} {me2 : zMe} {rm : Room} {Pc : Array Value → State → Prop} {K : zW → List Nat → zM → Prop}
    (hexec : p.tables.exec = Jvm.exec) (hb : c.code = cc) (hml : c.maxLocals = nL) (hown : s.vm.findClass own = some mt.cls) (hK : zKn X s) (hw : Cond.methodLinkNest own idx me2.1 "HornBraider" ∈ lw_tbl) (hcls2 : me2.1.cls = me2.2.2.2) (hKi : zKi 1 en2 me2)
    (hsA : stA = AsV.reverse ++ rest) (hAl : AsV.length = en2.2.1) (hrw : (rest.map fun v => v.category).sum ≤ 8) (hMet : Met l me2.1 [Cond.code me2.1 me2.2.1 en2.2.2.1 me2.2.2.1] rm Pc (zQc X K) en2.2.2.2.2.2.1 en2.2.2.2.2.2.2.1 (fun q => zbs X ≤ q)) (hr1 : rm.cells = en2.2.2.2.2.2.1) (hr2 : rm.slots = en2.2.2.2.2.2.2.1) (hr3 : rm.frames + 1 ≤ R.frames) (hr4 : 8 + (en2.2.2.1 + 11) + rm.locals ≤ R.locals) (hbl : FrameBlind Pc) (hpre : ∀ U : State, U.heap = H → s.WarmedH U.vm → Pc AsV.toArray U) (hrc : ∃ (a : Addr) (As : List Value), AsV = .ref a :: As ∧ ∃ cellB : Cell, H[a]? = some cellB ∧ cellB.vm.isStatics = false ∧ s.vm.findClass me2.2.2.2 = some cellB.cls)
    (hcs : cells + en2.2.2.2.2.2.1 ≤ R.cells ∧ slots + en2.2.2.2.2.2.2.1 ≤ R.slots) (hsz : lsA.size = nL) (hd : decode cc pc = .ok (.invokespecial idx, 3)) : va_Run p l e R s mt args below meth c H locs cells slots en2.2.2.2.2.2.1 en2.2.2.2.2.2.2.1 (F0 mt pc lsA stA) rest (zQc X K AsV.toArray) (fun q => zbs X ≤ q) := by
  obtain ⟨-, hg12, hgw2⟩ := hKi
  rcases hgw2 with z | ⟨hnm, hcode, hini, hkd, hsel, hpar⟩
  · exact absurd z (by decide)
  have hcodeB := zword (args := args) hK hcode rfl
  have hiniB := zword (args := args) hK hini rfl
  have hws : ∀ w ∈ [Cond.code me2.1 me2.2.1 en2.2.2.1 me2.2.2.1], ∀ (a' : Array Value) (U : State), s.WarmedH U.vm → w.before a' U = true := fun w hw a' U hW => by
    rw [List.mem_singleton] at hw
    rw [hw]
    exact (hK.warm hW).1 _ hcode rfl a'
  have hS : CallFix p mt c cc nL s args [] own := ⟨hexec, hb, hml, hown, fun _ h => by cases h⟩
  have hlen : ∀ sig, parseMethodDescriptor me2.1.desc = some sig → en2.2.1 = sig.parameters.length + 1 := fun sig h => by
    rw [h] at hpar
    exact (Option.some.inj hpar).symm
  rw [if_neg (by decide)] at hkd
  obtain ⟨hnmI, hretI⟩ := hg12 rfl
  rw [hretI] at hMet hcodeB hws
  obtain ⟨b, As, rfl, hcell⟩ := hrc
  exact va_runIN (b := b) (As := As) (n := As.length) hS hMet ⟨⟨⟨hr1, hr2, hr3, hr4, hws, List.mem_cons_self⟩, hcodeB, hiniB, hnm, (fun sig h => by have := hlen sig h; rw [← hAl, List.length_cons] at this; omega), zword (args := args) hK hw rfl⟩, hnmI, zword (args := args) hK hkd rfl⟩ ⟨hbl, hpre⟩ rfl rfl hsz (by rw [hsA, List.reverse_cons, List.append_assoc]; rfl) (lv_room hrw) hd hcs
theorem zrow_s {p : Program} {l : Launch} {e : Env} {R : Room} {s : State} {mt : MethodId} {args : Array Value} {below : List Frame} {meth : Method} {c : Code} {X : zCx} {nL pc idx cells slots : Nat} {H : Heap} {locs : List Loc} {lsA : Array Slot} {stA rest AsV : List Value} {own : String} {cc : ByteArray} {en2 : zEn} {me2 : zMe} {rm : Room} {Pc : Array Value → State → Prop} {K : zW → List Nat → zM → Prop}
    (hexec : p.tables.exec = Jvm.exec) (hb : c.code = cc) (hml : c.maxLocals = nL) (hown : s.vm.findClass own = some mt.cls) (hK : zKn X s) (hw : Cond.methodLink own idx me2.1 ∈ lw_tbl) (hcls2 : me2.1.cls = me2.2.2.2) (hKi : zKi 2 en2 me2)
    (hsA : stA = AsV.reverse ++ rest) (hAl : AsV.length = en2.2.1) (hrw : (rest.map fun v => v.category).sum ≤ 8) (hMet : Met l me2.1 [Cond.code me2.1 me2.2.1 en2.2.2.1 me2.2.2.1] rm Pc (zQc X K) en2.2.2.2.2.2.1 en2.2.2.2.2.2.2.1 (fun q => zbs X ≤ q)) (hr1 : rm.cells = en2.2.2.2.2.2.1) (hr2 : rm.slots = en2.2.2.2.2.2.2.1) (hr3 : rm.frames + 1 ≤ R.frames) (hr4 : 8 + (en2.2.2.1 + 11) + rm.locals ≤ R.locals) (hbl : FrameBlind Pc) (hpre : ∀ U : State, U.heap = H → s.WarmedH U.vm → Pc AsV.toArray U)
    (hcs : cells + en2.2.2.2.2.2.1 ≤ R.cells ∧ slots + en2.2.2.2.2.2.2.1 ≤ R.slots) (hsz : lsA.size = nL) (hd : decode cc pc = .ok (.invokestatic idx, 3)) : va_Run p l e R s mt args below meth c H locs cells slots en2.2.2.2.2.2.1 en2.2.2.2.2.2.2.1 (F0 mt pc lsA stA) rest (zQc X K AsV.toArray) (fun q => zbs X ≤ q) := by
  obtain ⟨-, hg12, hgw2⟩ := hKi
  rcases hgw2 with z | ⟨hnm, hcode, hini, hkd, hsel, hpar⟩
  · exact absurd z (by decide)
  have hcodeB := zword (args := args) hK hcode rfl
  have hiniB := zword (args := args) hK hini rfl
  have hws : ∀ w ∈ [Cond.code me2.1 me2.2.1 en2.2.2.1 me2.2.2.1], ∀ (a' : Array Value) (U : State), s.WarmedH U.vm → w.before a' U = true := fun w hw a' U hW => by
    rw [List.mem_singleton] at hw
    rw [hw]
    exact (hK.warm hW).1 _ hcode rfl a'
  have hS : CallFix p mt c cc nL s args [] own := ⟨hexec, hb, hml, hown, fun _ h => by cases h⟩
  have hlen : ∀ sig, parseMethodDescriptor me2.1.desc = some sig → en2.2.1 = sig.parameters.length := fun sig h => by
    rw [h] at hpar
    exact (Option.some.inj hpar).symm
  rw [if_pos rfl] at hkd
  exact va_runS hS hMet ⟨⟨hr1, hr2, hr3, hr4, hws, List.mem_cons_self, hcodeB, hiniB, hnm, hlen, zword (args := args) hK hw rfl⟩, zword (args := args) hK hkd rfl⟩ ⟨hbl, hpre⟩ rfl hAl hsz hsA (lv_room hrw) hd hcs
theorem zrow_sN {p : Program} {l : Launch} {e : Env} {R : Room} {s : State} {mt : MethodId} {args : Array Value} {below : List Frame} {meth : Method} {c : Code} {X : zCx} {nL pc idx cells slots : Nat} {H : Heap} {locs : List Loc} {lsA : Array Slot} {stA rest AsV : List Value} {own : String} {cc : ByteArray} {en2 : zEn} {me2 : zMe} {rm : Room} {Pc : Array Value → State → Prop} {K : zW → List Nat → zM → Prop}
    (hexec : p.tables.exec = Jvm.exec) (hb : c.code = cc) (hml : c.maxLocals = nL) (hown : s.vm.findClass own = some mt.cls) (hK : zKn X s) (hw : Cond.methodLinkNest own idx me2.1 "HornBraider" ∈ lw_tbl) (hcls2 : me2.1.cls = me2.2.2.2) (hKi : zKi 2 en2 me2)
    (hsA : stA = AsV.reverse ++ rest) (hAl : AsV.length = en2.2.1) (hrw : (rest.map fun v => v.category).sum ≤ 8) (hMet : Met l me2.1 [Cond.code me2.1 me2.2.1 en2.2.2.1 me2.2.2.1] rm Pc (zQc X K) en2.2.2.2.2.2.1 en2.2.2.2.2.2.2.1 (fun q => zbs X ≤ q)) (hr1 : rm.cells = en2.2.2.2.2.2.1) (hr2 : rm.slots = en2.2.2.2.2.2.2.1) (hr3 : rm.frames + 1 ≤ R.frames) (hr4 : 8 + (en2.2.2.1 + 11) + rm.locals ≤ R.locals) (hbl : FrameBlind Pc) (hpre : ∀ U : State, U.heap = H → s.WarmedH U.vm → Pc AsV.toArray U)
    (hcs : cells + en2.2.2.2.2.2.1 ≤ R.cells ∧ slots + en2.2.2.2.2.2.2.1 ≤ R.slots) (hsz : lsA.size = nL) (hd : decode cc pc = .ok (.invokestatic idx, 3)) : va_Run p l e R s mt args below meth c H locs cells slots en2.2.2.2.2.2.1 en2.2.2.2.2.2.2.1 (F0 mt pc lsA stA) rest (zQc X K AsV.toArray) (fun q => zbs X ≤ q) := by
  obtain ⟨-, hg12, hgw2⟩ := hKi
  rcases hgw2 with z | ⟨hnm, hcode, hini, hkd, hsel, hpar⟩
  · exact absurd z (by decide)
  have hcodeB := zword (args := args) hK hcode rfl
  have hiniB := zword (args := args) hK hini rfl
  have hws : ∀ w ∈ [Cond.code me2.1 me2.2.1 en2.2.2.1 me2.2.2.1], ∀ (a' : Array Value) (U : State), s.WarmedH U.vm → w.before a' U = true := fun w hw a' U hW => by
    rw [List.mem_singleton] at hw
    rw [hw]
    exact (hK.warm hW).1 _ hcode rfl a'
  have hS : CallFix p mt c cc nL s args [] own := ⟨hexec, hb, hml, hown, fun _ h => by cases h⟩
  have hlen : ∀ sig, parseMethodDescriptor me2.1.desc = some sig → en2.2.1 = sig.parameters.length := fun sig h => by
    rw [h] at hpar
    exact (Option.some.inj hpar).symm
  rw [if_pos rfl] at hkd
  exact va_runSN hS hMet ⟨⟨⟨hr1, hr2, hr3, hr4, hws, List.mem_cons_self⟩, hcodeB, hiniB, hnm, hlen, zword (args := args) hK hw rfl⟩, zword (args := args) hK hkd rfl, trivial⟩ ⟨hbl, hpre⟩ rfl hAl hsz hsA (lv_room hrw) hd hcs
/-- one instruction -/
theorem zstep {p : Program} {l : Launch} {e : Env} {R : Room} {s : State} {mt : MethodId} {args : Array Value} {below : List Frame} {meth : Method} {c : Code} {Q : State → Prop} {X : zCx} {fs : List zFr} {w : zW} {pc nx ax d0 : Nat} {i : Instr} {ls st : List Nat} {q : zQ} {m : zM} {H : Heap} {locs : List Loc} {lsA : Array Slot} {stA : List Value}
    {bt : zW → List Nat → zM → Bool} {stop : zK} {n y0 : Nat} {en : zEn} {me : zMe} (hIH : ∀ k, k < n + 1 → zMain l bt (zLn X) stop k) (hst : ∀ w cf y pc ls st q f fs m, stop w cf y pc ls st q (f :: fs) m = false) (hOK : zOK y0 en me) (hC : zCt X en me d0 p R s mt meth c)
    (hKSa : ∀ k, k ≤ n → zKS p l e R s mt args below meth c Q X en.1 en.2.2.2.2 fs en.2.2.1 (d0, en.2.2.2.2.2.1, en.2.2.2.2.2.2.1) (zok bt (zLn X) stop k)) (hHr : zHr bt (zLn X) stop (n + 1) X en me fs p l e R s mt args below meth c Q) (hrow : i = .nop ∨ zrowP me pc (i, nx, ax))
    (h : zop bt (zLn X) i nx ax (zok bt (zLn X) stop n) w en.1 en.2.2.2.2 pc ls st q fs m = true) (hR : zRl X s en.2.2.1 (d0, en.2.2.2.2.2.1, en.2.2.2.2.2.2.1) w ls st q m H locs lsA stA) : W p l e R s mt args below meth c H locs q.2.1 q.2.2 Q (F0 mt pc lsA stA) := by
  rcases hrow with hn | ⟨hlen, hdec, pp, hlk⟩
  · subst hn
    exact absurd (show false = true from h) (by decide)
  have hKS := hKSa n (Nat.le_refl n)
  obtain ⟨hexec, hb, hml, hown, hK, hin, hfr, hlo, hmc, hms⟩ := hC
  obtain ⟨-, -, hrk, hcn, -, -, -, g, hing, -, -⟩ := hOK
  have hinC : ¬ en.2.2.2.2.2.2.2.2 = 0 → me.2.2.2 = zcn (en.2.2.2.2.2.2.2.2 - 1) := by
    intro z
    have e1 : en.2.2.2.2.2.2.2.2 = en.2.2.2.1 + 1 := by
      by_cases hg : g = 1
      · rw [if_pos hg] at hing
        exact hing
      · rw [if_neg hg] at hing
        exact absurd hing z
    rw [e1, Nat.add_sub_cancel, hcn]
  dsimp only at hlen hdec hlk
  cases i with
  | aaload => exact absurd (show false = true from h) (by decide)
  | aastore => exact absurd (show false = true from h) (by decide)
  | aconst_null => exact absurd (show false = true from h) (by decide)
  | aload v =>
    obtain ⟨hnx, hd⟩ := zdec (k := 2) rfl (by decide) hlen hdec
    subst hnx
    exact zw_load (ax := ax) hKS h hR (fun x hx k0 k1 k2 kk => by obtain ⟨z, rfl⟩ := k2 rfl; exact lv_aload hexec hb hd hx kk)
  | aload_n v =>
    obtain ⟨hnx, hd⟩ := zdec (k := 1) rfl (by decide) hlen hdec
    subst hnx
    exact zw_load (ax := ax) hKS h hR (fun x hx k0 k1 k2 kk => by obtain ⟨z, rfl⟩ := k2 rfl; exact lv_aload_n hexec hb hd rfl hx kk)
  | anewarray _ => exact absurd (show false = true from h) (by decide)
  | areturn => exact absurd (show false = true from h) (by decide)
  | arraylength =>
    obtain ⟨hnx, hd⟩ := zdec (k := 1) rfl (by decide) hlen hdec
    subst hnx
    exact zw_alen (ax := ax) hexec hb hK hd rfl hKS h hR
  | astore v =>
    obtain ⟨hnx, hd⟩ := zdec (k := 2) rfl (by decide) hlen hdec
    subst hnx
    exact zw_store (ax := ax) (by decide) hKS h hR (fun x r hs hi k0 k2 kk => by obtain ⟨z, rfl⟩ := k2 rfl; subst hs; exact lv_astore hexec hb hd (zlv_has hR.2.2.2.1) hi rfl kk)
  | astore_n v =>
    obtain ⟨hnx, hd⟩ := zdec (k := 1) rfl (by decide) hlen hdec
    subst hnx
    exact zw_store (ax := ax) (by decide) hKS h hR (fun x r hs hi k0 k2 kk => by obtain ⟨z, rfl⟩ := k2 rfl; subst hs; exact lv_astore_n hexec hb hd rfl (zlv_has hR.2.2.2.1) hi rfl kk)
  | athrow => exact absurd (show false = true from h) (by decide)
  | baload =>
    obtain ⟨hnx, hd⟩ := zdec (k := 1) rfl (by decide) hlen hdec
    subst hnx
    exact zw_ald (ax := ax) (by decide) (by decide) hK hKS h hR (fun g ty a cell j v r hg hty hc ha hv hi hx kk => by
      rcases hg with rfl | rfl
      · cases hty; exact W.bald hexec hb hc ha hv hi hx rfl rfl hd kk
      · cases hty; exact W.zald hexec hb hc ha hv hi hx rfl rfl hd kk)
  | bastore =>
    obtain ⟨hnx, hd⟩ := zdec (k := 1) rfl (by decide) hlen hdec
    subst hnx
    exact zw_ast (ax := ax) hKS h hR (fun g ty a cell j x x2 r hg hty hst2 hc ha hv hi kk => by
      rcases hg with rfl | rfl
      · cases hty
        rcases hst2 with ⟨z, hst2⟩ | ⟨z, hst2⟩ | ⟨z, hst2⟩ | ⟨z, hst2⟩ <;> first | (exfalso; omega) | (obtain ⟨u, rfl, rfl⟩ := hst2; exact W.bast hexec hb hc ha hv hi rfl rfl hd kk)
      · cases hty
        rcases hst2 with ⟨z, hst2⟩ | ⟨z, hst2⟩ | ⟨z, hst2⟩ | ⟨z, hst2⟩ <;> first | (exfalso; omega) | (obtain ⟨u, rfl, rfl⟩ := hst2; exact W.zast hexec hb hc ha hv hi rfl rfl hd kk))
  | bipush v =>
    obtain ⟨hnx, hd⟩ := zdec (k := 2) rfl (by decide) hlen hdec
    subst hnx
    exact zw_push (ax := ax) hKS h hR (zv_mkx (Int8.ofInt v).toInt32) (fun kk => lv_bipush hexec hb hd rfl kk)
  | caload => exact absurd (show false = true from h) (by decide)
  | castore => exact absurd (show false = true from h) (by decide)
  | checkcast _ => exact absurd (show false = true from h) (by decide)
  | d2f => exact absurd (show false = true from h) (by decide)
  | d2i => exact absurd (show false = true from h) (by decide)
  | d2l => exact absurd (show false = true from h) (by decide)
  | dadd => exact absurd (show false = true from h) (by decide)
  | daload => exact absurd (show false = true from h) (by decide)
  | dastore => exact absurd (show false = true from h) (by decide)
  | dcmp _ => exact absurd (show false = true from h) (by decide)
  | dconst _ => exact absurd (show false = true from h) (by decide)
  | ddiv => exact absurd (show false = true from h) (by decide)
  | dload _ => exact absurd (show false = true from h) (by decide)
  | dload_n _ => exact absurd (show false = true from h) (by decide)
  | dmul => exact absurd (show false = true from h) (by decide)
  | dneg => exact absurd (show false = true from h) (by decide)
  | drem => exact absurd (show false = true from h) (by decide)
  | dreturn => exact absurd (show false = true from h) (by decide)
  | dstore _ => exact absurd (show false = true from h) (by decide)
  | dstore_n _ => exact absurd (show false = true from h) (by decide)
  | dsub => exact absurd (show false = true from h) (by decide)
  | dup =>
    obtain ⟨hnx, hd⟩ := zdec (k := 1) rfl (by decide) hlen hdec
    subst hnx
    exact zw_dup (ax := ax) hKS h hR (fun x r hs hc kk => by subst hs; exact lv_dup hexec hb hd hc kk)
  | dup_x1 => exact absurd (show false = true from h) (by decide)
  | dup_x2 => exact absurd (show false = true from h) (by decide)
  | dup2 =>
    obtain ⟨hnx, hd⟩ := zdec (k := 1) rfl (by decide) hlen hdec
    subst hnx
    exact zw_dup2 (ax := ax) hKS h hR (fun x z r hs hc hc2 kk => by subst hs; exact lv_dup2_11 hexec hb hd hc hc2 kk)
  | dup2_x1 => exact absurd (show false = true from h) (by decide)
  | dup2_x2 => exact absurd (show false = true from h) (by decide)
  | f2d => exact absurd (show false = true from h) (by decide)
  | f2i => exact absurd (show false = true from h) (by decide)
  | f2l => exact absurd (show false = true from h) (by decide)
  | fadd => exact absurd (show false = true from h) (by decide)
  | faload => exact absurd (show false = true from h) (by decide)
  | fastore => exact absurd (show false = true from h) (by decide)
  | fcmp _ => exact absurd (show false = true from h) (by decide)
  | fconst _ => exact absurd (show false = true from h) (by decide)
  | fdiv => exact absurd (show false = true from h) (by decide)
  | fload _ => exact absurd (show false = true from h) (by decide)
  | fload_n _ => exact absurd (show false = true from h) (by decide)
  | fmul => exact absurd (show false = true from h) (by decide)
  | fneg => exact absurd (show false = true from h) (by decide)
  | frem => exact absurd (show false = true from h) (by decide)
  | freturn => exact absurd (show false = true from h) (by decide)
  | fstore _ => exact absurd (show false = true from h) (by decide)
  | fstore_n _ => exact absurd (show false = true from h) (by decide)
  | fsub => exact absurd (show false = true from h) (by decide)
  | getfield ix =>
    obtain ⟨hnx, hd⟩ := zdec (k := 3) rfl (by decide) hlen hdec
    subst hnx
    exact zw_getf (ax := ax) hexec hb hown hK hlk hd rfl hKS h hR
  | getstatic ix =>
    obtain ⟨hnx, hd⟩ := zdec (k := 3) rfl (by decide) hlen hdec
    subst hnx
    exact zw_gets (ax := ax) hexec hb hown hK hlk hd rfl hKS h hR
  | goto o =>
    obtain ⟨hnx, hd⟩ := zdec (k := 3) rfl (by decide) hlen hdec
    subst hnx
    exact zw_goto (ax := ax) (nx := pc + 3) hKS h hR (fun kk => lv_goto hexec hb hd (of_decide_eq_true hlk) kk)
  | goto_w _ => exact absurd (show false = true from h) (by decide)
  | i2b =>
    obtain ⟨hnx, hd⟩ := zdec (k := 1) rfl (by decide) hlen hdec
    subst hnx
    exact zw_un (ax := ax) (F := fun x => .int x.toInt8.toInt32) (fun u => zv_mkx _) (fun _ x => ⟨_, rfl⟩) hKS h hR (fun x r hs kk => by subst hs; exact lv_i2b hexec hb hd rfl kk)
  | i2c =>
    obtain ⟨hnx, hd⟩ := zdec (k := 1) rfl (by decide) hlen hdec
    subst hnx
    exact zw_un (ax := ax) (F := fun x => .int (x.toUInt32 % 65536).toInt32) (fun u => zv_mkx _) (fun z => absurd z (by decide)) hKS h hR (fun x r hs kk => by subst hs; exact lv_i2c hexec hb hd rfl kk)
  | i2d => exact absurd (show false = true from h) (by decide)
  | i2f => exact absurd (show false = true from h) (by decide)
  | i2l =>
    obtain ⟨hnx, hd⟩ := zdec (k := 1) rfl (by decide) hlen hdec
    subst hnx
    exact zw_un (ax := ax) (F := fun x => .long x.toInt64) (fun u => zv_mklx _) (fun z => absurd z (by decide)) hKS h hR (fun x r hs kk => by subst hs; exact lv_i2l hexec hb hd rfl kk)
  | i2s => exact absurd (show false = true from h) (by decide)
  | iadd =>
    obtain ⟨hnx, hd⟩ := zdec (k := 1) rfl (by decide) hlen hdec
    subst hnx
    exact zw_bin (ax := ax) zf_add_ok zAbs_1 hKS h hR (fun x z r hs kk => by subst hs; exact lv_iadd hexec hb hd kk)
  | iaload =>
    obtain ⟨hnx, hd⟩ := zdec (k := 1) rfl (by decide) hlen hdec
    subst hnx
    exact zw_ald (ax := ax) (by decide) (by decide) hK hKS h hR (fun g ty a cell j v r hg hty hc ha hv hi hx kk => by
      rcases hg with rfl | rfl
      · cases hty; exact W.iald hexec hb hc ha hv hi hx rfl rfl hd kk
      · cases hty; exact W.iald hexec hb hc ha hv hi hx rfl rfl hd kk)
  | iand =>
    obtain ⟨hnx, hd⟩ := zdec (k := 1) rfl (by decide) hlen hdec
    subst hnx
    exact zw_bin (ax := ax) zf_and_ok zAbs_4 hKS h hR (fun x z r hs kk => by subst hs; exact lv_iand hexec hb hd kk)
  | iastore =>
    obtain ⟨hnx, hd⟩ := zdec (k := 1) rfl (by decide) hlen hdec
    subst hnx
    exact zw_ast (ax := ax) hKS h hR (fun g ty a cell j x x2 r hg hty hst2 hc ha hv hi kk => by
      rcases hg with rfl | rfl
      · cases hty
        rcases hst2 with ⟨z, hst2⟩ | ⟨z, hst2⟩ | ⟨z, hst2⟩ | ⟨z, hst2⟩ <;> first | (exfalso; omega) | (obtain ⟨u, rfl, rfl⟩ := hst2; exact W.iast hexec hb hc ha hv hi rfl rfl hd kk)
      · cases hty
        rcases hst2 with ⟨z, hst2⟩ | ⟨z, hst2⟩ | ⟨z, hst2⟩ | ⟨z, hst2⟩ <;> first | (exfalso; omega) | (obtain ⟨u, rfl, rfl⟩ := hst2; exact W.iast hexec hb hc ha hv hi rfl rfl hd kk))
  | iconst v =>
    obtain ⟨hnx, hd⟩ := zdec (k := 1) rfl (by decide) hlen hdec
    subst hnx
    exact zw_push (ax := ax) hKS h hR (zv_mkx (Int32.ofInt v)) (fun kk => lv_iconst hexec hb hd rfl kk)
  | idiv =>
    obtain ⟨hnx, hd⟩ := zdec (k := 1) rfl (by decide) hlen hdec
    subst hnx
    exact zw_div (ax := ax) (zf_32_ok _) (zAbs_0 _) (Or.inr rfl) hKS h hR (fun x z r hs hz kk => by subst hs; exact lv_idiv hexec hb hd hz kk)
  | if_acmp _ _ => exact absurd (show false = true from h) (by decide)
  | if_icmp cnd o =>
    obtain ⟨hnx, hd⟩ := zdec (k := 3) rfl (by decide) hlen hdec
    subst hnx
    cases cnd with
    | eq => exact zw_cmp (ax := ax) hKS h hR (fun x z0 r hs kt kf => by subst hs; simp only [reduceIte, Bool.false_eq_true] at kt kf; exact lv_icmp_eq hexec hb hd (of_decide_eq_true hlk) (fun z => kt z) (fun z => kf z))
    | ne => exact zw_cmp (ax := ax) hKS h hR (fun x z0 r hs kt kf => by subst hs; simp only [reduceIte, Bool.false_eq_true] at kt kf; exact lv_icmp_ne hexec hb hd (of_decide_eq_true hlk) (fun z => kf z) (fun z => kt z))
    | lt => exact zw_cmp (ax := ax) hKS h hR (fun x z0 r hs kt kf => by subst hs; simp only [reduceIte, Bool.false_eq_true] at kt kf; exact lv_icmp_lt hexec hb hd (of_decide_eq_true hlk) (fun z => kt z) (fun z => kf z))
    | ge => exact zw_cmp (ax := ax) hKS h hR (fun x z0 r hs kt kf => by subst hs; simp only [reduceIte, Bool.false_eq_true] at kt kf; exact lv_icmp_ge hexec hb hd (of_decide_eq_true hlk) (fun z => kf (Int32.not_lt.mpr z)) (fun z => kt (Int32.not_le.mp z)))
    | gt => exact zw_cmp (ax := ax) hKS h hR (fun x z0 r hs kt kf => by subst hs; simp only [reduceIte, Bool.false_eq_true] at kt kf; exact lv_icmp_gt hexec hb hd (of_decide_eq_true hlk) (fun z => kt z) (fun z => kf z))
    | le => exact zw_cmp (ax := ax) hKS h hR (fun x z0 r hs kt kf => by subst hs; simp only [reduceIte, Bool.false_eq_true] at kt kf; exact lv_icmp_le hexec hb hd (of_decide_eq_true hlk) (fun z => kf (Int32.not_lt.mpr z)) (fun z => kt (Int32.not_le.mp z)))
  | ifCond cnd o =>
    obtain ⟨hnx, hd⟩ := zdec (k := 3) rfl (by decide) hlen hdec
    subst hnx
    cases cnd with
    | eq => exact zw_cmp0 (ax := ax) hKS h hR (fun x r hs kt kf => by subst hs; simp only [reduceIte, Bool.false_eq_true] at kt kf; exact lv_if_eq hexec hb hd (of_decide_eq_true hlk) (fun z => kt z) (fun z => kf z))
    | ne => exact zw_cmp0 (ax := ax) hKS h hR (fun x r hs kt kf => by subst hs; simp only [reduceIte, Bool.false_eq_true] at kt kf; exact lv_if_ne hexec hb hd (of_decide_eq_true hlk) (fun z => kf z) (fun z => kt z))
    | lt => exact zw_cmp0 (ax := ax) hKS h hR (fun x r hs kt kf => by subst hs; simp only [reduceIte, Bool.false_eq_true] at kt kf; exact lv_if_lt hexec hb hd (of_decide_eq_true hlk) (fun z => kt z) (fun z => kf z))
    | ge => exact zw_cmp0 (ax := ax) hKS h hR (fun x r hs kt kf => by subst hs; simp only [reduceIte, Bool.false_eq_true] at kt kf; exact lv_if_ge hexec hb hd (of_decide_eq_true hlk) (fun z => kf (Int32.not_lt.mpr z)) (fun z => kt (Int32.not_le.mp z)))
    | gt => exact zw_cmp0 (ax := ax) hKS h hR (fun x r hs kt kf => by subst hs; simp only [reduceIte, Bool.false_eq_true] at kt kf; exact lv_if_gt hexec hb hd (of_decide_eq_true hlk) (fun z => kt z) (fun z => kf z))
    | le => exact zw_cmp0 (ax := ax) hKS h hR (fun x r hs kt kf => by subst hs; simp only [reduceIte, Bool.false_eq_true] at kt kf; exact lv_if_le hexec hb hd (of_decide_eq_true hlk) (fun z => kf (Int32.not_lt.mpr z)) (fun z => kt (Int32.not_le.mp z)))
  | ifnonnull _ => exact absurd (show false = true from h) (by decide)
  | ifnull _ => exact absurd (show false = true from h) (by decide)
  | iinc v z =>
    obtain ⟨hnx, hd⟩ := zdec (k := 3) rfl (by decide) hlen hdec
    subst hnx
    exact zw_iinc (ax := ax) hKS h hR (fun x hx hi kk => by
      obtain ⟨j, hj⟩ := List.getElem?_of_mem (zlv_mem.mpr hx)
      exact lv_iinc hexec hb hd (zlv_has hR.2.2.2.1) hj (by rw [zN_self]) hi rfl kk)
  | iload v =>
    obtain ⟨hnx, hd⟩ := zdec (k := 2) rfl (by decide) hlen hdec
    subst hnx
    exact zw_load (ax := ax) hKS h hR (fun x hx k0 k1 k2 kk => by obtain ⟨z, rfl⟩ := k0 rfl; exact lv_iload hexec hb hd hx kk)
  | iload_n v =>
    obtain ⟨hnx, hd⟩ := zdec (k := 1) rfl (by decide) hlen hdec
    subst hnx
    exact zw_load (ax := ax) hKS h hR (fun x hx k0 k1 k2 kk => by obtain ⟨z, rfl⟩ := k0 rfl; exact lv_iload_n hexec hb hd rfl hx kk)
  | imul =>
    obtain ⟨hnx, hd⟩ := zdec (k := 1) rfl (by decide) hlen hdec
    subst hnx
    exact zw_bin (ax := ax) zf_mul_ok (zAbs_3 _) hKS h hR (fun x z r hs kk => by subst hs; exact lv_imul hexec hb hd kk)
  | ineg =>
    obtain ⟨hnx, hd⟩ := zdec (k := 1) rfl (by decide) hlen hdec
    subst hnx
    exact zw_un (ax := ax) (F := fun x => .int (-x)) (fun u => zv_mkx _) (fun z => absurd z (by decide)) hKS h hR (fun x r hs kk => by subst hs; exact lv_ineg hexec hb hd kk)
  | instanceof _ => exact absurd (show false = true from h) (by decide)
  | invokedynamic _ => exact absurd (show false = true from h) (by decide)
  | invokeinterface _ _ => exact absurd (show false = true from h) (by decide)
  | invokespecial ix =>
    obtain ⟨hnx, hd⟩ := zdec (k := 3) rfl (by decide) hlen hdec
    subst hnx
    unfold zlk at hlk
    rw [Bool.or_eq_true] at hlk
    rcases hlk with hlk | hlk
    · rw [Bool.and_eq_true, decide_eq_true_eq, decide_eq_true_eq] at hlk
      obtain ⟨e31, hlk⟩ := hlk
      subst e31
      exact zw_obj (ax := 31) (nx := pc + 3) hexec hb hml hown hK hlk hfr hlo hd rfl hKS h hR
    · have hlk2 : zlc me.2.2.2 ix ax pp 2 = true := hlk
      unfold zlc at hlk2
      cases hme2 : zG zMeth (ax / 16) with
      | none => rw [hme2] at hlk2; cases hlk2
      | some me2 =>
        rw [hme2] at hlk2
        simp only [Bool.or_eq_true, Bool.and_eq_true, decide_eq_true_eq] at hlk2
        rcases hlk2 with ⟨hkd, hw⟩ | ⟨hkd, hw⟩
        · have h2 : zcall (ax / 16) 1 (pc + 3) ax (zok bt (zLn X) stop n) w en.1 en.2.2.2.2 pc ls st q fs m = true := zinv_k (kd := 1) (by omega) (by omega) h
          refine zw_call hIH hst rfl hK hfr hlo hmc hms rfl rfl rfl hKSa h2 hR (fun en2 me3 AsV rest rm Pc K hm3 hO2 hKi hsA hAl hrw hMet hr1 hr2 hr3 hr4 hbl hpre hrc hcs => ?_)
          rw [hme2] at hm3
          cases hm3
          have hcls2 := hO2.2.2.2.2.1
          exact zrow_i hexec hb hml hown hK (zwd_mem hw) hcls2 hKi hsA hAl hrw hMet hr1 hr2 hr3 hr4 hbl hpre (hrc (by decide)) hcs hR.2.2.2.1.2.1 hd
        · have h2 : zcall (ax / 16) 1 (pc + 3) ax (zok bt (zLn X) stop n) w en.1 en.2.2.2.2 pc ls st q fs m = true := zinv_k (kd := 1) (by omega) (by omega) h
          refine zw_call hIH hst rfl hK hfr hlo hmc hms rfl rfl rfl hKSa h2 hR (fun en2 me3 AsV rest rm Pc K hm3 hO2 hKi hsA hAl hrw hMet hr1 hr2 hr3 hr4 hbl hpre hrc hcs => ?_)
          rw [hme2] at hm3
          cases hm3
          have hcls2 := hO2.2.2.2.2.1
          exact zrow_iN hexec hb hml hown hK (zwd_mem hw) hcls2 hKi hsA hAl hrw hMet hr1 hr2 hr3 hr4 hbl hpre (hrc (by decide)) hcs hR.2.2.2.1.2.1 hd
  | invokestatic ix =>
    obtain ⟨hnx, hd⟩ := zdec (k := 3) rfl (by decide) hlen hdec
    subst hnx
    have hlk2 : zlc me.2.2.2 ix ax pp 4 = true := hlk
    unfold zlc at hlk2
    cases hme2 : zG zMeth (ax / 16) with
    | none => rw [hme2] at hlk2; cases hlk2
    | some me2 =>
      rw [hme2] at hlk2
      simp only [Bool.or_eq_true, Bool.and_eq_true, decide_eq_true_eq] at hlk2
      rcases hlk2 with ⟨hkd, hw⟩ | ⟨hkd, hw⟩
      · have h2 : zcall (ax / 16) 2 (pc + 3) ax (zok bt (zLn X) stop n) w en.1 en.2.2.2.2 pc ls st q fs m = true := zinv_k (kd := 2) (by omega) (by omega) h
        refine zw_call hIH hst rfl hK hfr hlo hmc hms rfl rfl rfl hKSa h2 hR (fun en2 me3 AsV rest rm Pc K hm3 hO2 hKi hsA hAl hrw hMet hr1 hr2 hr3 hr4 hbl hpre hrc hcs => ?_)
        rw [hme2] at hm3
        cases hm3
        have hcls2 := hO2.2.2.2.2.1
        exact zrow_s hexec hb hml hown hK (zwd_mem hw) hcls2 hKi hsA hAl hrw hMet hr1 hr2 hr3 hr4 hbl hpre hcs hR.2.2.2.1.2.1 hd
      · have h2 : zcall (ax / 16) 2 (pc + 3) ax (zok bt (zLn X) stop n) w en.1 en.2.2.2.2 pc ls st q fs m = true := zinv_k (kd := 2) (by omega) (by omega) h
        refine zw_call hIH hst rfl hK hfr hlo hmc hms rfl rfl rfl hKSa h2 hR (fun en2 me3 AsV rest rm Pc K hm3 hO2 hKi hsA hAl hrw hMet hr1 hr2 hr3 hr4 hbl hpre hrc hcs => ?_)
        rw [hme2] at hm3
        cases hm3
        have hcls2 := hO2.2.2.2.2.1
        exact zrow_sN hexec hb hml hown hK (zwd_mem hw) hcls2 hKi hsA hAl hrw hMet hr1 hr2 hr3 hr4 hbl hpre hcs hR.2.2.2.1.2.1 hd
  | invokevirtual ix =>
    obtain ⟨hnx, hd⟩ := zdec (k := 3) rfl (by decide) hlen hdec
    subst hnx
    have hlk2 : zlc me.2.2.2 ix ax pp 0 = true := hlk
    unfold zlc at hlk2
    cases hme2 : zG zMeth (ax / 16) with
    | none => rw [hme2] at hlk2; cases hlk2
    | some me2 =>
      rw [hme2] at hlk2
      simp only [Bool.or_eq_true, Bool.and_eq_true, decide_eq_true_eq] at hlk2
      rcases hlk2 with ⟨hkd, hw⟩ | ⟨hkd, hw⟩
      · have h2 : zcall (ax / 16) 0 (pc + 3) ax (zok bt (zLn X) stop n) w en.1 en.2.2.2.2 pc ls st q fs m = true := zinv_k (kd := 0) (by omega) (by omega) h
        refine zw_call hIH hst rfl hK hfr hlo hmc hms rfl rfl rfl hKSa h2 hR (fun en2 me3 AsV rest rm Pc K hm3 hO2 hKi hsA hAl hrw hMet hr1 hr2 hr3 hr4 hbl hpre hrc hcs => ?_)
        rw [hme2] at hm3
        cases hm3
        have hcls2 := hO2.2.2.2.2.1
        exact zrow_v hexec hb hml hown hK (zwd_mem hw) hcls2 hKi hsA hAl hrw hMet hr1 hr2 hr3 hr4 hbl hpre (hrc (by decide)) hcs hR.2.2.2.1.2.1 hd
      · have h2 : zcall (ax / 16) 0 (pc + 3) ax (zok bt (zLn X) stop n) w en.1 en.2.2.2.2 pc ls st q fs m = true := zinv_k (kd := 0) (by omega) (by omega) h
        refine zw_call hIH hst rfl hK hfr hlo hmc hms rfl rfl rfl hKSa h2 hR (fun en2 me3 AsV rest rm Pc K hm3 hO2 hKi hsA hAl hrw hMet hr1 hr2 hr3 hr4 hbl hpre hrc hcs => ?_)
        rw [hme2] at hm3
        cases hm3
        have hcls2 := hO2.2.2.2.2.1
        exact zrow_vN hexec hb hml hown hK (zwd_mem hw) hcls2 hKi hsA hAl hrw hMet hr1 hr2 hr3 hr4 hbl hpre (hrc (by decide)) hcs hR.2.2.2.1.2.1 hd
  | ior =>
    obtain ⟨hnx, hd⟩ := zdec (k := 1) rfl (by decide) hlen hdec
    subst hnx
    exact zw_bin (ax := ax) zf_or_ok (zAbs_3 _) hKS h hR (fun x z r hs kk => by subst hs; exact lv_ior hexec hb hd kk)
  | irem =>
    obtain ⟨hnx, hd⟩ := zdec (k := 1) rfl (by decide) hlen hdec
    subst hnx
    exact zw_div (ax := ax) (zf_32_ok _) zAbs_5 (Or.inl rfl) hKS h hR (fun x z r hs hz kk => by subst hs; exact lv_irem hexec hb hd hz kk)
  | ireturn =>
    obtain ⟨hnx, hd⟩ := zdec (k := 1) rfl (by decide) hlen hdec
    subst hnx
    exact zw_ret (ax := ax) (cf := en.1) (nx := pc + 1) (lg := false) hrk hd hHr rfl rfl h hR
  | ishl =>
    obtain ⟨hnx, hd⟩ := zdec (k := 1) rfl (by decide) hlen hdec
    subst hnx
    exact zw_bin (ax := ax) (zf_32_ok _) (zAbs_3 _) hKS h hR (fun x z r hs kk => by subst hs; exact lv_ishl hexec hb hd kk)
  | ishr =>
    obtain ⟨hnx, hd⟩ := zdec (k := 1) rfl (by decide) hlen hdec
    subst hnx
    exact zw_bin (ax := ax) (zf_32_ok _) (zAbs_3 _) hKS h hR (fun x z r hs kk => by subst hs; exact lv_ishr hexec hb hd kk)
  | istore v =>
    obtain ⟨hnx, hd⟩ := zdec (k := 2) rfl (by decide) hlen hdec
    subst hnx
    exact zw_store (ax := ax) (by decide) hKS h hR (fun x r hs hi k0 k2 kk => by obtain ⟨z, rfl⟩ := k0 rfl; subst hs; exact lv_istore hexec hb hd (zlv_has hR.2.2.2.1) hi rfl kk)
  | istore_n v =>
    obtain ⟨hnx, hd⟩ := zdec (k := 1) rfl (by decide) hlen hdec
    subst hnx
    exact zw_store (ax := ax) (by decide) hKS h hR (fun x r hs hi k0 k2 kk => by obtain ⟨z, rfl⟩ := k0 rfl; subst hs; exact lv_istore_n hexec hb hd rfl (zlv_has hR.2.2.2.1) hi rfl kk)
  | isub =>
    obtain ⟨hnx, hd⟩ := zdec (k := 1) rfl (by decide) hlen hdec
    subst hnx
    exact zw_bin (ax := ax) zf_sub_ok zAbs_2 hKS h hR (fun x z r hs kk => by subst hs; exact lv_isub hexec hb hd kk)
  | iushr => exact absurd (show false = true from h) (by decide)
  | ixor =>
    obtain ⟨hnx, hd⟩ := zdec (k := 1) rfl (by decide) hlen hdec
    subst hnx
    exact zw_bin (ax := ax) zf_xor_ok zAbs_6 hKS h hR (fun x z r hs kk => by subst hs; exact lv_ixor hexec hb hd kk)
  | jsr _ => exact absurd (show false = true from h) (by decide)
  | jsr_w _ => exact absurd (show false = true from h) (by decide)
  | l2d => exact absurd (show false = true from h) (by decide)
  | l2f => exact absurd (show false = true from h) (by decide)
  | l2i =>
    obtain ⟨hnx, hd⟩ := zdec (k := 1) rfl (by decide) hlen hdec
    subst hnx
    exact zw_lun (ax := ax) (F := fun x => .int x.toInt32) (fun u => zv_mkx _) hKS h hR (fun x r hs kk => by subst hs; exact lv_l2i hexec hb hd rfl kk)
  | ladd =>
    obtain ⟨hnx, hd⟩ := zdec (k := 1) rfl (by decide) hlen hdec
    subst hnx
    exact zw_lbin (ax := ax) (F := fun x z => .long (x + z)) (fun u v => zv_mklx _) hKS h hR (fun x z r hs _ kk => by subst hs; exact lv_ladd hexec hb hd kk)
  | laload =>
    obtain ⟨hnx, hd⟩ := zdec (k := 1) rfl (by decide) hlen hdec
    subst hnx
    exact zw_ald (ax := ax) (by decide) (by decide) hK hKS h hR (fun g ty a cell j v r hg hty hc ha hv hi hx kk => by
      rcases hg with rfl | rfl
      · cases hty; exact W.lald hexec hb hc ha hv hi hx rfl rfl hd kk
      · cases hty; exact W.lald hexec hb hc ha hv hi hx rfl rfl hd kk)
  | land =>
    obtain ⟨hnx, hd⟩ := zdec (k := 1) rfl (by decide) hlen hdec
    subst hnx
    exact zw_lbin (ax := ax) (F := fun x z => .long (x &&& z)) (fun u v => zv_mklx _) hKS h hR (fun x z r hs _ kk => by subst hs; exact lv_land hexec hb hd kk)
  | lastore =>
    obtain ⟨hnx, hd⟩ := zdec (k := 1) rfl (by decide) hlen hdec
    subst hnx
    exact zw_ast (ax := ax) hKS h hR (fun g ty a cell j x x2 r hg hty hst2 hc ha hv hi kk => by
      rcases hg with rfl | rfl
      · cases hty
        rcases hst2 with ⟨z, hst2⟩ | ⟨z, hst2⟩ | ⟨z, hst2⟩ | ⟨z, hst2⟩ <;> first | (exfalso; omega) | (obtain ⟨u, rfl, rfl⟩ := hst2; exact W.last hexec hb hc ha hv hi rfl rfl hd kk)
      · cases hty
        rcases hst2 with ⟨z, hst2⟩ | ⟨z, hst2⟩ | ⟨z, hst2⟩ | ⟨z, hst2⟩ <;> first | (exfalso; omega) | (obtain ⟨u, rfl, rfl⟩ := hst2; exact W.last hexec hb hc ha hv hi rfl rfl hd kk))
  | lcmp =>
    obtain ⟨hnx, hd⟩ := zdec (k := 1) rfl (by decide) hlen hdec
    subst hnx
    exact zw_lbin (ax := ax) (F := fun x z => .int (lg_cmp x z)) (fun u v => zv_mkx _) hKS h hR (fun x z r hs _ kk => by subst hs; exact W.lcmp hexec hb hd kk)
  | lconst v =>
    obtain ⟨hnx, hd⟩ := zdec (k := 1) rfl (by decide) hlen hdec
    subst hnx
    exact zw_push (ax := ax) hKS h hR (zv_mkl (u := v.val) rfl) (fun kk => lv_lconst hexec hb hd rfl kk)
  | ldc ix =>
    obtain ⟨hnx, hd⟩ := zdec (k := 2) rfl (by decide) hlen hdec
    subst hnx
    exact zw_ldc (ax := ax) (lw := false) hexec hb hown hK hlk hd rfl hKS h hR
  | ldc_w ix =>
    obtain ⟨hnx, hd⟩ := zdec (k := 3) rfl (by decide) hlen hdec
    subst hnx
    exact zw_ldc (ax := ax) (lw := true) hexec hb hown hK hlk hd rfl hKS h hR
  | ldc2_w ix =>
    obtain ⟨hnx, hd⟩ := zdec (k := 3) rfl (by decide) hlen hdec
    subst hnx
    exact zw_ldc2 (ax := ax) hexec hb hown hK (of_decide_eq_true hlk) hd rfl hKS h hR
  | ldiv =>
    obtain ⟨hnx, hd⟩ := zdec (k := 1) rfl (by decide) hlen hdec
    subst hnx
    exact zw_lbin (ax := ax) (F := fun x z => .long (x / z)) (fun u v => zv_mklx _) hKS h hR (fun x z r hs hz kk => by subst hs; exact lv_ldiv hexec hb hd (hz rfl) kk)
  | lload v =>
    obtain ⟨hnx, hd⟩ := zdec (k := 2) rfl (by decide) hlen hdec
    subst hnx
    exact zw_load (ax := ax) hKS h hR (fun x hx k0 k1 k2 kk => by obtain ⟨z, rfl⟩ := k1 rfl; exact lv_lload hexec hb hd hx kk)
  | lload_n v =>
    obtain ⟨hnx, hd⟩ := zdec (k := 1) rfl (by decide) hlen hdec
    subst hnx
    exact zw_load (ax := ax) hKS h hR (fun x hx k0 k1 k2 kk => by obtain ⟨z, rfl⟩ := k1 rfl; exact lv_lload_n hexec hb hd rfl hx kk)
  | lmul =>
    obtain ⟨hnx, hd⟩ := zdec (k := 1) rfl (by decide) hlen hdec
    subst hnx
    exact zw_lbin (ax := ax) (F := fun x z => .long (x * z)) (fun u v => zv_mklx _) hKS h hR (fun x z r hs _ kk => by subst hs; exact lv_lmul hexec hb hd kk)
  | lneg => exact absurd (show false = true from h) (by decide)
  | lookupswitch df prs =>
    exact zw_look (ax := ax) (nx := nx) hexec hb hdec hKS h hR
  | lor =>
    obtain ⟨hnx, hd⟩ := zdec (k := 1) rfl (by decide) hlen hdec
    subst hnx
    exact zw_lbin (ax := ax) (F := fun x z => .long (x ||| z)) (fun u v => zv_mklx _) hKS h hR (fun x z r hs _ kk => by subst hs; exact lv_lor hexec hb hd kk)
  | lrem =>
    obtain ⟨hnx, hd⟩ := zdec (k := 1) rfl (by decide) hlen hdec
    subst hnx
    exact zw_lbin (ax := ax) (F := fun x z => .long (x - x / z * z)) (fun u v => zv_mklx _) hKS h hR (fun x z r hs hz kk => by subst hs; exact lv_lrem hexec hb hd (hz rfl) kk)
  | lreturn =>
    obtain ⟨hnx, hd⟩ := zdec (k := 1) rfl (by decide) hlen hdec
    subst hnx
    exact zw_ret (ax := ax) (cf := en.1) (nx := pc + 1) (lg := true) hrk hd hHr rfl rfl h hR
  | lshl =>
    obtain ⟨hnx, hd⟩ := zdec (k := 1) rfl (by decide) hlen hdec
    subst hnx
    exact zw_lsh (ax := ax) (F := fun x z => .long (x <<< (z.toInt64 &&& 63))) (fun u v => zv_mklx _) hKS h hR (fun x z r hs kk => by subst hs; exact lv_lshl hexec hb hd rfl kk)
  | lshr =>
    obtain ⟨hnx, hd⟩ := zdec (k := 1) rfl (by decide) hlen hdec
    subst hnx
    exact zw_lsh (ax := ax) (F := fun x z => .long (x >>> (z.toInt64 &&& 63))) (fun u v => zv_mklx _) hKS h hR (fun x z r hs kk => by subst hs; exact lv_lshr hexec hb hd rfl kk)
  | lstore v =>
    obtain ⟨hnx, hd⟩ := zdec (k := 2) rfl (by decide) hlen hdec
    subst hnx
    exact zw_storeL (ax := ax) hKS h hR (fun x r hs hi kk => by subst hs; exact lv_lstore hexec hb hd (zlv_has hR.2.2.2.1) hi rfl kk)
  | lstore_n v =>
    obtain ⟨hnx, hd⟩ := zdec (k := 1) rfl (by decide) hlen hdec
    subst hnx
    exact zw_storeL (ax := ax) hKS h hR (fun x r hs hi kk => by subst hs; exact lv_lstore_n hexec hb hd rfl (zlv_has hR.2.2.2.1) hi rfl kk)
  | lsub =>
    obtain ⟨hnx, hd⟩ := zdec (k := 1) rfl (by decide) hlen hdec
    subst hnx
    exact zw_lbin (ax := ax) (F := fun x z => .long (x - z)) (fun u v => zv_mklx _) hKS h hR (fun x z r hs _ kk => by subst hs; exact lv_lsub hexec hb hd kk)
  | lushr => exact absurd (show false = true from h) (by decide)
  | lxor => exact absurd (show false = true from h) (by decide)
  | monitorenter => exact absurd (show false = true from h) (by decide)
  | monitorexit => exact absurd (show false = true from h) (by decide)
  | multianewarray _ _ => exact absurd (show false = true from h) (by decide)
  | new ix =>
    obtain ⟨hnx, hd⟩ := zdec (k := 3) rfl (by decide) hlen hdec
    subst hnx
    exact zw_new (ax := ax) hexec hb hown hK (of_decide_eq_true hlk) hmc hms rfl rfl hd rfl hKS h hR
  | newarray aty =>
    obtain ⟨hnx, hd⟩ := zdec (k := 2) rfl (by decide) hlen hdec
    subst hnx
    cases aty with
    | boolean => exact zw_newa (ax := ax) (ty := .boolean) hexec hb hK rfl rfl zacZ (by decide) zv_zero hmc hms rfl rfl hd rfl hKS h hR
    | char => exact absurd (show false = true from h) (by decide)
    | float => exact absurd (show false = true from h) (by decide)
    | double => exact absurd (show false = true from h) (by decide)
    | byte => exact zw_newa (ax := ax) (ty := .byte) hexec hb hK rfl rfl zacB (by decide) zv_zero hmc hms rfl rfl hd rfl hKS h hR
    | short => exact absurd (show false = true from h) (by decide)
    | int => exact zw_newa (ax := ax) (ty := .int) hexec hb hK rfl rfl zacI (by decide) zv_zero hmc hms rfl rfl hd rfl hKS h hR
    | long => exact zw_newa (ax := ax) (ty := .long) hexec hb hK rfl rfl zacJ (by decide) (zv_mkl (u := 0) rfl) hmc hms rfl rfl hd rfl hKS h hR
  | nop => exact absurd (show false = true from h) (by decide)
  | pop =>
    obtain ⟨hnx, hd⟩ := zdec (k := 1) rfl (by decide) hlen hdec
    subst hnx
    exact zw_pop (ax := ax) hKS h hR (fun x r hs hc kk => by subst hs; exact lv_pop hexec hb hd hc kk)
  | pop2 => exact absurd (show false = true from h) (by decide)
  | putfield ix =>
    obtain ⟨hnx, hd⟩ := zdec (k := 3) rfl (by decide) hlen hdec
    subst hnx
    have hlk2 := hlk
    unfold zlk at hlk2
    rw [Bool.and_eq_true, decide_eq_true_eq] at hlk2
    exact zw_putf (ax := ax) hexec hb hown hK hlk2.1 hlk2.2 (fun z => ⟨hin z, hinC z⟩) hd rfl hKS h hR
  | putstatic _ => exact absurd (show false = true from h) (by decide)
  | ret _ => exact absurd (show false = true from h) (by decide)
  | return_ =>
    obtain ⟨hnx, hd⟩ := zdec (k := 1) rfl (by decide) hlen hdec
    subst hnx
    exact zw_retv (ax := ax) (cf := en.1) (nx := pc + 1) hrk hd hHr rfl rfl h hR
  | saload => exact absurd (show false = true from h) (by decide)
  | sastore => exact absurd (show false = true from h) (by decide)
  | sipush v =>
    obtain ⟨hnx, hd⟩ := zdec (k := 3) rfl (by decide) hlen hdec
    subst hnx
    exact zw_push (ax := ax) hKS h hR (zv_mkx (Int16.ofInt v).toInt32) (fun kk => lv_sipush hexec hb hd rfl kk)
  | swap => exact absurd (show false = true from h) (by decide)
  | tableswitch df lo hi offs =>
    exact zw_tab (ax := ax) (nx := nx) hexec hb hdec hKS h hR

theorem zmain {l : Launch} {bt : zW → List Nat → zM → Bool} {L : Nat} {stop : zK} (hst : ∀ w cf y pc ls st q f fs m, stop w cf y pc ls st q (f :: fs) m = false) : ∀ n, zMain l bt L stop n := by
  intro n
  induction n using Nat.strongRecOn with
  | ind n IH =>
    intro X y0 en me hL hOK w pc ls st q fs m h p e R s mt args below meth c Q H locs lsA stA hC hR hHr hHs
    subst hL
    cases n with
    | zero => exact hHs w pc ls st q m H locs lsA stA h hR
    | succ n =>
      have h' : zif (stop w en.1 en.2.2.2.2 pc ls st q fs m) true (Prod.rec (motive := fun _ => Bool) (fun i r => Prod.rec (motive := fun _ => Bool) (fun nx ax => zop bt (zLn X) i nx ax (zok bt (zLn X) stop n) w en.1 en.2.2.2.2 pc ls st q fs m) r) (en.1 pc)) = true := h
      rcases zif_iff h' with ⟨h1, -⟩ | ⟨-, h2⟩
      · exact hHs w pc ls st q m H locs lsA stA h1 hR
      · have hrow := hOK.1 pc
        generalize en.1 pc = t at h2 hrow
        obtain ⟨i, nx, ax⟩ := t
        refine zstep (d0 := q.1) (y0 := y0) IH hst hOK hC (fun k hk w2 pc2 ls2 st2 q2 m2 H2 locs2 lsA2 stA2 hz hR2 => ?_) hHr hrow h2 hR
        have e1 : q2.1 = q.1 := hR2.2.2.2.2.2.1
        refine IH k (by omega) X y0 en me rfl hOK w2 pc2 ls2 st2 q2 fs m2 hz p e R s mt args below meth c Q H2 locs2 lsA2 stA2 (by rw [e1]; exact hC) (by rw [e1]; exact hR2) (fun n' w3 v m3 H3 locs3 lsA3 pc3 vo cells slots hn' => hHr n' w3 v m3 H3 locs3 lsA3 pc3 vo cells slots (by omega)) (by rw [e1]; exact hHs)
end
section
/-! WHAT IS GIVEN AT THE LAW'S START, as the executor's knowledge -/
noncomputable def zfp (p : Nat) : Option Cond := (flatC narrow_1)[p]?
theorem zfp_use {A : Array Value} {s : State} (h : (Jvm.Cond.and given_1 narrow_1).before A s = true) {p : Nat} {w : Cond} (hp : zfp p = some w) : w.before A s = true := by
  rw [Cond.before_and, Bool.and_eq_true] at h
  exact flat_of_before _ h.2 w (List.mem_of_getElem? hp)
noncomputable def ztpos : List Nat := [7, 15, 25, 35, 44, 52, 60, 68, 77, 85, 94, 99, 110, 121, 131, 141, 151, 160, 170, 179, 185, 195, 207, 219, 230, 241, 252, 262, 273, 283]
noncomputable def ztref : List Nat := [3023, 3101, 3106, 3119, 3124, 3125, 3126, 3135, 3140, 4081, 4096, 4101, 4102, 4107, 4108, 4109, 4114, 4119, 4124, 4132, 9064, 9083, 9084, 9089, 9090, 9091, 9092, 9093, 9098, 9099]
def ztm (i : Nat) : Term := .string (zskey i).1 (zskey i).2.1
set_option maxRecDepth 100000 in
theorem ztx1 : ∀ i, i < 30 → zfp (zat ztpos i) = some (.exactly (ztm i) "java/lang/String") ∧ zfp (zat ztpos i + 1) = some (.eq (.field (ztm i) "java/lang/String" "coder" "B") (.int 0)) ∧ zfp (zat ztpos i + 2) = some (.arrayOf (.field (ztm i) "java/lang/String" "value" "[B") .byte) ∧
  zfp (zat ztpos i + 3) = some (.eq (.length (.field (ztm i) "java/lang/String" "value" "[B")) (.int (Int32.ofNat (zxTl i)))) ∧ zwd (zat ztref i) = some (.stringRef (zskey i).1 (zskey i).2.1 (zskey i).2.2) ∧ zxTl i < 100 := by decide +kernel
set_option maxRecDepth 100000 in
theorem ztx2 : ∀ i, i < 30 → ∀ j, j < zxTl i → zfp (zat ztpos i + 4 + j) = some (.eq (.elem (.field (ztm i) "java/lang/String" "value" "[B") (.int (Int32.ofNat j))) (.int (Int32.ofNat ((zxT i).getD j 0)))) := by decide +kernel
set_option maxRecDepth 100000 in
theorem ztx3 : zfp 2 = some (.eq (.static "java/lang/String" "COMPACT_STRINGS" "Z") (.int 1)) ∧ zfp 3 = some (.isRef (.static "jdk/internal/util/Preconditions" "SIOOBE_FORMATTER" "Ljava/util/function/BiFunction;")) ∧
  zwd 3037 = some (.laysStatic "java/lang/String" "COMPACT_STRINGS" "Z") ∧ zwd 1014 = some (.initialized "java/lang/String") ∧ zwd 3053 = some (.laysStatic "jdk/internal/util/Preconditions" "SIOOBE_FORMATTER" "Ljava/util/function/BiFunction;") ∧ zwd 1016 = some (.initialized "jdk/internal/util/Preconditions") := by decide +kernel
theorem zgood_any {w : Cond} (hg : zgood w = true) {s : State} {A0 : Array Value} (h : w.before A0 s = true) (A : Array Value) : w.before A s = true := by
  have key : ∀ w : Cond, goodWord w = true → w.before A0 s = true → w.before A s = true := fun w hw h => word_at (State.WarmedH.refl s) (good_of_word hw) h
  unfold zgood at hg
  split at hg
  · exact va_tabs rfl rfl h
  · exact va_tabs rfl rfl h
  · exact key _ hg h
theorem ztext {s : State} {A0 : Array Value} (hts : ∀ w ∈ lw_tbl, w.before A0 s = true) (hgv : (Jvm.Cond.and given_1 narrow_1).before A0 s = true) (i : Nat) : ∃ q : Nat × Nat, i < 30 → vk_R (zskey i).1 (zskey i).2.1 (zskey i).2.2 q.1 s ∧ va_O "java/lang/String" q.1 (fun a => s.heap.size ≤ a) s s.heap ∧ va_OF "java/lang/String" "coder" "B" (.int 0) q.1 (fun a => s.heap.size ≤ a) s s.heap ∧
    va_OF "java/lang/String" "value" "[B" (.ref q.2) q.1 (fun a => s.heap.size ≤ a) s s.heap ∧ va_T .byte q.2 (zxTl i) (fun j => .int (Int32.ofNat ((zxT i).getD j 0))) (fun a => s.heap.size ≤ a) s s.heap := by
  by_cases hi : i < 30
  rotate_left
  · exact ⟨(0, 0), fun h => absurd h hi⟩
  obtain ⟨h1, h2, h3, h4, h5, h6⟩ := ztx1 i hi
  have hmap : ∀ j : Nat, ((zxT i).map Int32.ofNat).getD j 0 = Int32.ofNat ((zxT i).getD j 0) := fun j => by
    rw [List.getD_eq_getElem?_getD, List.getD_eq_getElem?_getD, List.getElem?_map]
    cases (zxT i)[j]? <;> rfl
  obtain ⟨adK, adV, hS, hE⟩ := vk_Sof (args := A0) (s := s) (N := 1) (tm := fun _ => ztm i) (len := [zxTl i]) (byt := [(zxT i).map Int32.ofNat]) (A := fun a => s.heap.size ≤ a)
    (fun k hk => by
      have e : k = 0 := by omega
      subst e
      show zxTl i < _
      omega)
    (fun k _ => zfp_use hgv h1) (fun k _ => zfp_use hgv h2) (fun k _ => zfp_use hgv h3)
    (fun k hk => by
      have e : k = 0 := by omega
      subst e
      exact zfp_use hgv h4)
    (fun k hk j hj => by
      have e : k = 0 := by omega
      subst e
      have hj : j < zxTl i := hj
      have e2 := ztx2 i hi j hj
      rw [← hmap j] at e2
      exact zfp_use hgv e2)
    (fun k j hk hj hne => absurd (by omega) hne) (fun a ha z => by omega)
  obtain ⟨g1, g2, g3, g4⟩ := hS.1 0 (by omega)
  refine ⟨(adK 0, adV 0), fun _ => ⟨vk_R.of (A := A0) (hts _ (zwd_mem h5)) (hE 0 (by omega)), g1, g2, g3, ?_⟩⟩
  have e3 : (fun j => Value.int (Int32.ofNat ((zxT i).getD j 0))) = fun j => Value.int ((([(zxT i).map Int32.ofNat] : List (List Int32)).getD 0 []).getD j 0) := funext fun j => by
    show _ = Value.int (((zxT i).map Int32.ofNat).getD j 0)
    rw [hmap]
  rw [e3]
  exact g4
def zhif (b : Nat) (ad : Nat → Nat × Nat) (q : Nat) : Nat := if q = 99999 then b else if q < 200000 then (ad (q - 100000)).1 else (ad (q - 200000)).2
theorem zhif_0 (b : Nat) (ad : Nat → Nat × Nat) : zhif b ad 99999 = b := by
  unfold zhif
  rw [if_pos rfl]
theorem zhif_1 (b : Nat) (ad : Nat → Nat × Nat) {i : Nat} (hi : i < 30) : zhif b ad (100000 + i) = (ad i).1 := by
  unfold zhif
  rw [if_neg (by omega), if_pos (by omega), Nat.add_sub_cancel_left]
theorem zhif_2 (b : Nat) (ad : Nat → Nat × Nat) {i : Nat} : zhif b ad (200000 + i) = (ad i).2 := by
  unfold zhif
  rw [if_neg (by omega), if_neg (by omega), Nat.add_sub_cancel_left]
/-- the executor's knowledge at the start -/
theorem zknow {s : State} {b : Nat} (xs : Nat → Int32) (hts : ∀ w ∈ lw_tbl, w.before #[Value.ref b] s = true) (hbl : b < s.heap.size) (hgv : (Jvm.Cond.and given_1 narrow_1).before #[Value.ref b] s = true) :
    ∃ X : zCx, zρ X = xs ∧ zbs X = s.heap.size ∧ zH0 X = s.heap ∧ zLn X = 0 ∧ zhi X 99999 = b ∧ zKn X s := by
  obtain ⟨ad, had⟩ := Classical.axiomOfChoice (ztext hts hgv)
  have hc : ∀ c : Nat, ∃ q : ClassId × (Nat → Nat), c < 12 → u_Kn s (zcn c) (zTX c) (zxCn c) q.1 q.2 := by
    intro c
    by_cases h : c < 12
    · obtain ⟨cC, iS, hk⟩ := u_known (ws := zTs) (s := s) (args := #[Value.ref b]) (fun w hw => hts w (List.mem_filter.mp hw).1) (zTs_in h) (hts _ (zins c h).1)
      exact ⟨(cC, iS), fun _ => hk⟩
    · exact ⟨((show ClassId from 0), fun _ => 0), fun z => absurd z h⟩
  obtain ⟨cd, hcd⟩ := Classical.axiomOfChoice hc
  refine ⟨(xs, zhif b ad, fun c => (cd c).1, fun c => (cd c).2, s.heap.size, s.heap, 0), rfl, rfl, rfl, rfl, ?_, ?_⟩
  · exact zhif_0 b ad
  obtain ⟨t1, t2, t3, t4, t5, t6⟩ := ztx3
  have hA : ∀ a : Nat, a < s.heap.size → ¬ (fun q => s.heap.size ≤ q) a := fun a ha z => Nat.not_le.mpr ha z
  refine ⟨fun w hw hg A => zgood_any hg (hts w hw) A, fun c q hq => ?_, ⟨?_, ?_, ?_⟩, fun i hi => ?_, ?_, ?_⟩
  · have h12 : c < 12 := by
      rcases Nat.lt_or_ge c 12 with h | h
      · exact h
      · exfalso
        have : vwCl[c]? = none := List.getElem?_eq_none (by show 12 ≤ c; exact h)
        rw [this] at hq
        cases hq
    rw [zvw c h12] at hq
    cases hq
    exact hcd c h12
  · show zhif b ad 99999 < s.heap.size
    rw [zhif_0]
    exact hbl
  · show (0 : Nat) < 2147483648
    omega
  · exact Or.inl rfl
  · have e1 := zhif_1 b ad hi
    have e2 := zhif_2 b ad (i := i)
    obtain ⟨g1, g2, g3, g4, g5⟩ := had i hi
    rw [← e1] at g1 g2 g3 g4
    rw [← e2] at g4 g5
    exact ⟨g1, g2, g3, g4, g5⟩
  · exact va_Zof (hts _ (zwd_mem t3)) (hts _ (zwd_mem t4)) (va_eqt (zfp_use hgv t1)) hA
  · exact va_Zqof (hts _ (zwd_mem t5)) (hts _ (zwd_mem t6)) (zfp_use hgv t2) hA
end
