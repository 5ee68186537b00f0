/-! values, bounds, comparisons -/
noncomputable def zand (a b : Bool) : Bool := Bool.rec (motive := fun _ => Bool) false b a
theorem zand_iff {a b : Bool} (h : zand a b = true) : a = true ∧ b = true := by cases a <;> cases b <;> first | exact ⟨rfl, rfl⟩ | cases h
theorem zif_iff {c t e : Bool} (h : zif c t e = true) : (c = true ∧ t = true) ∨ (c = false ∧ e = true) := by
  cases c
  · exact Or.inr ⟨rfl, h⟩
  · exact Or.inl ⟨rfl, h⟩
noncomputable def zpop {β : Type} (j : β) (k : Nat → List Nat → β) (st : List Nat) : β := List.rec (motive := fun _ => β) j (fun a t _ => k a t) st
theorem zpop_iff {k : Nat → List Nat → Bool} {st : List Nat} (h : zpop false k st = true) : ∃ a t, st = a :: t ∧ k a t = true := by
  cases st with
  | nil => cases h
  | cons a t => exact ⟨a, t, rfl, h⟩
/-- the bounds of a symbol and an int, where none goes over -/
noncomputable def zsh {β : Type} (j : Nat → Nat → β) (k : β) (c : Nat) (p : Nat × Nat) : β := Prod.rec (motive := fun _ => β) (fun lo hi => zif (Nat.ble 2147483648 (Nat.add lo (zb c))) (zif (Nat.ble (Nat.add hi (zb c)) 6442450943) (j (Nat.sub (Nat.add lo (zb c)) 2147483648) (Nat.sub (Nat.add hi (zb c)) 2147483648)) k) k) p
noncomputable def zbd (w : zW) (v : Nat) (k : Nat → Nat → Bool) : Bool :=
  zif (Nat.beq (Nat.mod v 8) 0) (zfr false (zb (Nat.div v 8)) (fun b => k b b))
  (zif (Nat.beq (Nat.mod v 8) 1) (znth (fun p => zsh k (k 0 4294967295) (Nat.mod (Nat.div v 8) 4294967296) p) w.2 (Nat.div v 34359738368))
  (zif (Nat.beq (Nat.mod v 8) 2) (zfr false (Nat.div v 34359738368) (fun lo => zfr false (Nat.mod (Nat.div v 8) 4294967296) (fun hi => k lo hi))) false))
/-- a symbol's bounds made narrower -/
noncomputable def zcut (w : zW) (v lo hi : Nat) (k : zW → Bool) : Bool :=
  zif (Nat.beq (Nat.mod v 8) 1) (znth (fun p => zsh (fun _ _ => zupd (fun _ k2 => zfr false (Nat.max p.1 (Nat.sub (Nat.add lo 2147483648) (zb (Nat.mod (Nat.div v 8) 4294967296)))) (fun l => zfr false (Nat.min p.2 (Nat.sub (Nat.add hi 2147483648) (zb (Nat.mod (Nat.div v 8) 4294967296)))) (fun h => k2 (l, h)))) w.2 (Nat.div v 34359738368) (fun e => k (w.1, e))) (k w) (Nat.mod (Nat.div v 8) 4294967296) p) w.2 (Nat.div v 34359738368)) (k w)
/-- 'a < b': what may be, with what is known then; 'not' first -/
noncomputable def zlt (w : zW) (a b : Nat) (k : Bool → zW → Bool) : Bool :=
  zbd w a (fun la ha => zbd w b (fun lb hb => zif (Nat.ble hb la) (k false w) (zif (Nat.ble (Nat.succ ha) lb) (k true w)
    (zand (zcut w a lb ha (fun w1 => zcut w1 b lb ha (fun w2 => k false w2))) (zcut w a la (Nat.pred hb) (fun w1 => zcut w1 b (Nat.succ la) hb (fun w2 => k true w2)))))))
/-- 'a isn't c', a within bounds -/
noncomputable def zne (w : zW) (a la ha c : Nat) (k : Bool → zW → Bool) : Bool :=
  zif (Nat.beq la c) (zcut w a (Nat.succ c) ha (fun w1 => k false w1)) (zif (Nat.beq ha c) (zcut w a la (Nat.pred c) (fun w1 => k false w1)) (zand (zcut w a la (Nat.pred c) (fun w1 => k false w1)) (zcut w a (Nat.succ c) ha (fun w1 => k false w1))))
noncomputable def zeq (w : zW) (a b : Nat) (k : Bool → zW → Bool) : Bool :=
  zbd w a (fun la ha => zbd w b (fun lb hb => zif (Nat.ble (Nat.succ ha) lb) (k false w) (zif (Nat.ble (Nat.succ hb) la) (k false w)
    (zif (Nat.beq lb hb) (zif (Nat.beq la ha) (k true w) (zand (zcut w a lb hb (fun w1 => k true w1)) (zne w a la ha lb k)))
    (zif (Nat.beq la ha) (zand (zcut w b la ha (fun w1 => k true w1)) (zne w b lb hb la k)) (zand (k true w) (k false w)))))))
/-- the int that a value is, where only one can be; else j -/
noncomputable def zkn (w : zW) (v : Nat) (j : Bool) (k : Nat → Bool) : Bool :=
  zif (Nat.beq (Nat.mod v 8) 0) (k (Nat.div v 8)) (zif (Nat.beq (Nat.mod v 8) 1) (zbd w v (fun lo hi => zif (Nat.beq lo hi) (zfr false (zb lo) k) j)) j)
/-- a symbol by halves, where it has few values -/
noncomputable def zhalf (w : zW) (v n : Nat) (j : Bool) (k : zW → Bool) : Bool :=
  zif (Nat.beq (Nat.mod v 8) 1) (zbd w v (fun lo hi => zif (Nat.ble (Nat.sub hi lo) n) (zif (Nat.ble (Nat.succ lo) hi) (zfr false (Nat.div (Nat.add lo hi) 2) (fun c => zand (zcut w v lo c k) (zcut w v (Nat.succ c) hi k))) j) j)) j
/-- each int from a bound on, n of them -/
noncomputable def zeach (k : Nat → Bool) (n : Nat) : Nat → Bool := Nat.rec (motive := fun _ => Nat → Bool) (fun _ => true) (fun _ ih b => zand (k (zb b)) (ih (Nat.succ b))) n
abbrev zOp : Type := Nat → Nat → zK → zK
noncomputable def zo_no : zOp := fun _ _ _ _ _ _ _ _ _ _ _ _ => false
noncomputable def zo_push (v : Nat) : zOp := fun nx _ k w cf y _ ls st q fs m => k w cf y nx ls (v :: st) q fs m
/-- is it of this kind: 0 an int, 1 a long, 2 a reference -/
noncomputable def zkd (g v : Nat) : Bool := zif (Nat.beq g 0) (Nat.ble (Nat.mod v 8) 2) (zif (Nat.beq g 1) (Nat.beq (Nat.mod v 8) 4) (Nat.beq (Nat.mod v 8) 3))
noncomputable def zo_load (g i : Nat) : zOp := fun nx _ k w cf y _ ls st q fs m => znth (fun v => zif (zkd g v) (k w cf y nx ls (v :: st) q fs m) false) ls i
/-- no long lies just below -/
noncomputable def zlow (ls : List Nat) (i : Nat) (b : Bool) : Bool := Nat.rec (motive := fun _ => Bool) b (fun i' _ => znth (fun v => zif (Nat.beq (Nat.mod v 8) 4) false b) ls i') i
noncomputable def zo_store (g i : Nat) : zOp := fun nx _ k w cf y _ ls st q fs m => zpop false (fun v r => zif (zkd g v) (zlow ls i (zif (Nat.beq g 1)
    (zupd (fun _ k2 => k2 v) ls i (fun l1 => zupd (fun _ k2 => k2 13) l1 (Nat.succ i) (fun l2 => k w cf y nx l2 r q fs m)))
    (zupd (fun _ k2 => k2 v) ls i (fun l1 => k w cf y nx l1 r q fs m)))) false) st
/-- a symbol and an int, and an int more -/
noncomputable def zaff (v u : Nat) : Nat := Nat.add (Nat.mul 8 (Nat.add (Nat.mul (Nat.div v 34359738368) 4294967296) (Nat.mod (Nat.add (Nat.mod (Nat.div v 8) 4294967296) u) 4294967296))) 1
noncomputable def zo_iinc (i : Nat) (u : Nat) : zOp := fun nx _ k w cf y _ ls st q fs m => znth (fun v => zif (Nat.beq (Nat.mod v 8) 0)
    (zfr false (Nat.mul 8 (Nat.mod (Nat.add (Nat.div v 8) u) 4294967296)) (fun v2 => zupd (fun _ k2 => k2 v2) ls i (fun l1 => k w cf y nx l1 st q fs m)))
    (zif (Nat.beq (Nat.mod v 8) 1) (zfr false (zaff v u) (fun v2 => zupd (fun _ k2 => k2 v2) ls i (fun l1 => k w cf y nx l1 st q fs m))) false)) ls i
/-- what is known of an answer: 1 a sum, 2 a difference, 3 anything, 4 the bits of a mask, 5 a rest, 6 either's bits -/
noncomputable def zabs (g : Nat) (la a b : Nat) (k : Nat → Bool) : Bool :=
  zif (Nat.beq g 1) (zif (zand (Nat.beq (Nat.mod a 8) 1) (Nat.beq (Nat.mod b 8) 0)) (zfr false (zaff a (Nat.div b 8)) k) (zif (zand (Nat.beq (Nat.mod a 8) 0) (Nat.beq (Nat.mod b 8) 1)) (zfr false (zaff b (Nat.div a 8)) k) (k 34359738362)))
  (zif (Nat.beq g 2) (zif (zand (Nat.beq (Nat.mod a 8) 1) (Nat.beq (Nat.mod b 8) 0)) (zfr false (zaff a (Nat.sub 4294967296 (Nat.mod (Nat.div b 8) 4294967296))) k) (k 34359738362))
  (zif (Nat.beq g 3) (k 34359738362)
  (zif (Nat.beq g 4) (zif (zand (Nat.beq (Nat.mod b 8) 0) (Nat.ble (Nat.succ (Nat.div b 8)) 2147483648)) (zfr false (Nat.add (Nat.mul 8 (Nat.add 9223372036854775808 (Nat.add 2147483648 (Nat.div b 8)))) 2) k) false)
  (zif (Nat.beq g 5) (zif (zand (Nat.beq (Nat.mod b 8) 0) (zand (Nat.ble (Nat.succ (Nat.div b 8)) 2147483648) (zand (Nat.ble 1 (Nat.div b 8)) (Nat.ble 2147483648 la)))) (zfr false (Nat.add (Nat.mul 8 (Nat.add 9223372036854775808 (Nat.add 2147483647 (Nat.div b 8)))) 2) k) false)
  (zif (Nat.beq g 6) (zif (zand (Nat.beq (Nat.mod b 8) 0) (zand (Nat.ble (Nat.succ (Nat.div b 8)) 2147483648) (Nat.ble 2147483648 la))) (k 73786976329197944826) (k 34359738362))
  false)))))
/-- ints by their numbers -/
noncomputable def zf_add (u v : Nat) : Nat := Nat.mod (Nat.add u v) 4294967296
noncomputable def zf_sub (u v : Nat) : Nat := Nat.mod (Nat.add u (Nat.sub 4294967296 (Nat.mod v 4294967296))) 4294967296
noncomputable def zf_mul (u v : Nat) : Nat := Nat.mod (Nat.mul u v) 4294967296
noncomputable def zf_and (u v : Nat) : Nat := Nat.mod (Nat.land u v) 4294967296
noncomputable def zf_or (u v : Nat) : Nat := Nat.mod (Nat.lor u v) 4294967296
noncomputable def zf_xor (u v : Nat) : Nat := Nat.mod (Nat.xor u v) 4294967296
noncomputable def zf_32 (f : Int32 → Int32 → Int32) (u v : Nat) : Nat := (f (Int32.ofNat u) (Int32.ofNat v)).toBitVec.toNat
/-- an instruction over two ints: known ones; else by halves, else what is known of the answer -/
noncomputable def zslow (f : Nat → Nat → Nat) (g : Nat) (dv : Bool) (a b : Nat) (w : zW) (again : zW → Bool) (k : Nat → Bool) : Bool :=
  zhalf w a 200 (zhalf w b 200 (zkn w a (zbd w a (fun la _ => zbd w b (fun _ _ => zabs g la a b k)))
    (fun ua => zkn w b (zbd w a (fun la _ => zbd w b (fun _ _ => zabs g la a b k))) (fun ub => zif (zand dv (Nat.beq (Nat.mod ub 4294967296) 0)) false (zfr false (Nat.mul 8 (f ua ub)) k)))) again) again
noncomputable def zo_bin (f : Nat → Nat → Nat) (g : Nat) : zOp := fun nx _ k w cf y pc ls st q fs m => zpop false (fun b t => zpop false (fun a r =>
  zif (Nat.beq (Nat.mod (Nat.lor a b) 8) 0) (zfr false (Nat.mul 8 (f (Nat.div a 8) (Nat.div b 8))) (fun v => k w cf y nx ls (v :: r) q fs m))
    (zslow f g false a b w (fun w2 => k w2 cf y pc ls st q fs m) (fun v => k w cf y nx ls (v :: r) q fs m))) t) st
noncomputable def zo_div (f : Nat → Nat → Nat) (g : Nat) : zOp := fun nx _ k w cf y pc ls st q fs m => zpop false (fun b t => zpop false (fun a r =>
  zif (zand (Nat.beq (Nat.mod (Nat.lor a b) 8) 0) (Nat.ble 1 (Nat.mod (Nat.div b 8) 4294967296))) (zfr false (Nat.mul 8 (f (Nat.div a 8) (Nat.div b 8))) (fun v => k w cf y nx ls (v :: r) q fs m))
    (zslow f g true a b w (fun w2 => k w2 cf y pc ls st q fs m) (fun v => k w cf y nx ls (v :: r) q fs m))) t) st
/-- over one int; what isn't known stays so where g is 1 -/
noncomputable def zo_un (f : Nat → Nat) (g : Nat) : zOp := fun nx _ k w cf y pc ls st q fs m => zpop false (fun a r =>
  zhalf w a 200 (zkn w a (zif (Nat.beq g 1) (zbd w a (fun _ _ => k w cf y nx ls (34359738362 :: r) q fs m)) false) (fun u => zfr false (f u) (fun v => k w cf y nx ls (v :: r) q fs m))) (fun w2 => k w2 cf y pc ls st q fs m)) st
noncomputable def zo_lun (f : Nat → Nat) : zOp := fun nx _ k w cf y _ ls st q fs m => zpop false (fun a r => zif (Nat.beq (Nat.mod a 8) 4) (zfr false (f (Nat.div a 8)) (fun v => k w cf y nx ls (v :: r) q fs m)) false) st
noncomputable def zo_lbin (dv : Bool) (f : Nat → Nat → Nat) : zOp := fun nx _ k w cf y _ ls st q fs m => zpop false (fun b t => zpop false (fun a r =>
  zif (zand (Nat.beq (Nat.mod a 8) 4) (Nat.beq (Nat.mod b 8) 4)) (zif (zand dv (Nat.beq (Nat.mod (Nat.div b 8) 18446744073709551616) 0)) false (zfr false (f (Nat.div a 8) (Nat.div b 8)) (fun v => k w cf y nx ls (v :: r) q fs m))) false) t) st
noncomputable def zo_lsh (f : Nat → Nat → Nat) : zOp := fun nx _ k w cf y _ ls st q fs m => zpop false (fun b t => zpop false (fun a r =>
  zif (zand (Nat.beq (Nat.mod a 8) 4) (Nat.beq (Nat.mod b 8) 0)) (zfr false (f (Nat.div a 8) (Nat.div b 8)) (fun v => k w cf y nx ls (v :: r) q fs m)) false) t) st
noncomputable def zf_64 (f : Int64 → Int64 → Int64) (u v : Nat) : Nat := Nat.add (Nat.mul 8 (f (Int64.ofNat u) (Int64.ofNat v)).toBitVec.toNat) 4
noncomputable def zf_64s (f : Int64 → Int32 → Int64) (u v : Nat) : Nat := Nat.add (Nat.mul 8 (f (Int64.ofNat u) (Int32.ofNat v)).toBitVec.toNat) 4
noncomputable def zf_cmp (u v : Nat) : Nat := Nat.mul 8 (lg_cmp (Int64.ofNat u) (Int64.ofNat v)).toBitVec.toNat
/-- one word wide -/
noncomputable def z1 (v : Nat) : Bool := Nat.ble (Nat.mod v 8) 3
noncomputable def zo_dup : zOp := fun nx _ k w cf y _ ls st q fs m => zpop false (fun a _ => zif (z1 a) (k w cf y nx ls (a :: st) q fs m) false) st
noncomputable def zo_dup2 : zOp := fun nx _ k w cf y _ ls st q fs m => zpop false (fun a t => zpop false (fun b _ => zif (zand (z1 a) (z1 b)) (k w cf y nx ls (a :: b :: st) q fs m) false) t) st
noncomputable def zo_pop : zOp := fun nx _ k w cf y _ ls st q fs m => zpop false (fun a r => zif (z1 a) (k w cf y nx ls r q fs m) false) st
noncomputable def zo_goto : zOp := fun _ ax k w cf y _ ls st q fs m => k w cf y ax ls st q fs m
/-- a branch: by '<' (g 0) or '=' (g 1), turned (tn) or not, the other way round (sw) or not -/
noncomputable def zo_cmp (g : Bool) (sw tn : Bool) : zOp := fun nx ax k w cf y _ ls st q fs m => zpop false (fun b t => zpop false (fun a r =>
  zif g (zeq w a b (fun o w2 => zif (zif tn (zif o false true) o) (k w2 cf y ax ls r q fs m) (k w2 cf y nx ls r q fs m)))
    (zlt w (zif sw b a) (zif sw a b) (fun o w2 => zif (zif tn (zif o false true) o) (k w2 cf y ax ls r q fs m) (k w2 cf y nx ls r q fs m)))) t) st
noncomputable def zo_cmp0 (g : Bool) (sw tn : Bool) : zOp := fun nx ax k w cf y _ ls st q fs m => zpop false (fun a r =>
  zif g (zeq w a 0 (fun o w2 => zif (zif tn (zif o false true) o) (k w2 cf y ax ls r q fs m) (k w2 cf y nx ls r q fs m)))
    (zlt w (zif sw 0 a) (zif sw a 0) (fun o w2 => zif (zif tn (zif o false true) o) (k w2 cf y ax ls r q fs m) (k w2 cf y nx ls r q fs m)))) st
noncomputable def zo_getf : zOp := fun nx ax k w cf y _ ls st q fs m => zpop false (fun a r => zif (Nat.beq (Nat.mod a 8) 3) (zif (Nat.ble 100000 (Nat.div a 8)) (zif (Nat.ble (Nat.succ (Nat.sub (Nat.div a 8) 100000)) zxTn) (zif (Nat.beq ax 832) (zfr false (Nat.add a 800000) (fun v => k w cf y nx ls (v :: r) q fs m)) (zif (Nat.beq ax 833) (k w cf y nx ls (0 :: r) q fs m) false)) false) (zget m (Nat.div a 8) (fun c => Prod.rec (motive := fun _ => Bool) (fun tg c2 => zif (Nat.beq tg (Nat.div ax 64)) (Prod.rec (motive := fun _ => Bool) (fun _ ct => zget ct (Nat.mod ax 64) (fun v => k w cf y nx ls (v :: r) q fs m)) c2) false) c))) false) st
/-- the cell at a place, changed -/
noncomputable def zcell (m : zM) (a : Nat) (f : Nat → Nat → zA → ((Nat × Nat × zA) → Bool) → Bool) (k : zM → Bool) : Bool := zupd (fun b k1 => zupd (fun c k2 => zupd (fun x k3 => Prod.rec (motive := fun _ => Bool) (fun tg x2 => Prod.rec (motive := fun _ => Bool) (fun ln ct => f tg ln ct k3) x2) x) c (Nat.mod a 8) k2) b (Nat.mod (Nat.div a 8) 8) k1) m (Nat.div a 64) k
theorem zcell_iff {m : zM} {a : Nat} {f : Nat → Nat → zA → ((Nat × Nat × zA) → Bool) → Bool} {k : zM → Bool} (h : zcell m a f k = true) : ∃ tg ln ct, zG m a = some (tg, ln, ct) ∧ f tg ln ct (fun x => k (zS m a x)) = true := by
  obtain ⟨b, h1, h2⟩ := zupd_iff h
  obtain ⟨c, h3, h4⟩ := zupd_iff h2
  obtain ⟨⟨tg, ln, ct⟩, h5, h6⟩ := zupd_iff h4
  have h1' : m[a / 64]? = some b := h1
  have h3' : b[a / 8 % 8]? = some c := h3
  refine ⟨tg, ln, ct, ?_, ?_⟩
  · show m[a / 64]?.bind _ = _
    rw [h1', Option.bind_some, h3', Option.bind_some]
    exact h5
  · have e : ∀ x, zS m a x = m.set (a / 64) (b.set (a / 8 % 8) (c.set (a % 8) x)) := by
      intro x
      unfold zS
      rw [h1']
      dsimp only
      rw [h3']
    have e2 : (fun x => k (zS m a x)) = fun x => k (m.set (a / 64) (b.set (a / 8 % 8) (c.set (a % 8) x))) := funext fun x => by rw [e x]
    rw [e2]
    exact h6
/-- may it be put there: 0 an int, 1 a boolean, 2 a long, 3 a reference -/
noncomputable def zfit (g v : Nat) : Bool := zif (Nat.beq g 0) (Nat.ble (Nat.mod v 8) 2) (zif (Nat.beq g 1) (zif (Nat.beq v 0) true (Nat.beq v 8)) (zif (Nat.beq g 2) (Nat.beq (Nat.mod v 8) 4) (zif (Nat.beq g 3) (Nat.beq (Nat.mod v 8) 3) false)))
noncomputable def zo_putf : zOp := fun nx ax k w cf y _ ls st q fs m => zpop false (fun v t => zpop false (fun a r => zif (zand (Nat.beq (Nat.mod a 8) 3) (zand (zfit (Nat.mod (zxK ax) 8) v) (zif (Nat.ble (zxK ax) 7) true (Nat.beq y.2.2.2.2 (Nat.succ (Nat.div ax 64))))))
  (zcell m (Nat.div a 8) (fun tg ln ct k2 => zif (Nat.beq tg (Nat.div ax 64)) (zset ct (Nat.mod ax 64) v (fun c2 => k2 (tg, ln, c2))) false) (fun m2 => k w cf y nx ls r q fs m2)) false) t) st
/-- a row of n times v, in eights -/
noncomputable def zrow {α : Type} (v : α) (n : Nat) : List α := Nat.rec (motive := fun _ => List α) [] (fun _ t => v :: t) n
noncomputable def zrep (v n : Nat) : zA := zrow (zrow (zrow v 8) 8) (Nat.div (Nat.add n 63) 64)
noncomputable def zo_new : zOp := fun nx ax k w cf y _ ls st q fs m => Prod.rec (motive := fun _ => Bool) (fun d q2 => Prod.rec (motive := fun _ => Bool) (fun nc ns => Prod.rec (motive := fun _ => Bool) (fun sz e =>
  zif (zand (Nat.ble (Nat.succ nc) (y.2.1)) (zand (Nat.ble (Nat.add ns (zxCn ax)) (y.2.2.1)) (zand (Nat.ble (Nat.succ ax) 12) (Nat.ble (Nat.succ sz) 90000))))
    (zcell m sz (fun tg _ _ k2 => zif (Nat.beq tg 99) (k2 (ax, zxCn ax, zxD ax)) false) (fun m2 => zfr false (Nat.succ nc) (fun nc2 => zfr false (Nat.add ns (zxCn ax)) (fun ns2 => zfr false (Nat.succ sz) (fun sz2 => zfr false (Nat.add (Nat.mul 8 sz) 3) (fun v => k (sz2, e) cf y nx ls (v :: st) (d, nc2, ns2) fs m2)))))) false) w) q2) q
/-- kinds of arrays: 20 int, 21 long, 22 byte, 23 boolean -/
noncomputable def zo_newa (kd : Nat) : zOp := fun nx _ k w cf y _ ls st q fs m => zpop false (fun n r => Prod.rec (motive := fun _ => Bool) (fun d q2 => Prod.rec (motive := fun _ => Bool) (fun nc ns => Prod.rec (motive := fun _ => Bool) (fun sz e => zfr false (Nat.div n 8) (fun N =>
  zif (zand (Nat.beq (Nat.mod n 8) 0) (zand (Nat.ble N 20000) (zand (Nat.ble (Nat.succ nc) (y.2.1)) (zand (Nat.ble (Nat.add ns N) (y.2.2.1)) (Nat.ble (Nat.succ sz) 90000)))))
    (zcell m sz (fun tg _ _ k2 => zif (Nat.beq tg 99) (k2 (kd, N, zrep (zif (Nat.beq kd 21) 4 0) N)) false) (fun m2 => zfr false (Nat.succ nc) (fun nc2 => zfr false (Nat.add ns N) (fun ns2 => zfr false (Nat.succ sz) (fun sz2 => zfr false (Nat.add (Nat.mul 8 sz) 3) (fun v => k (sz2, e) cf y nx ls (v :: r) (d, nc2, ns2) fs m2)))))) false)) w) q2) q) st
/-- the script lies at 99999; its i-th int is the symbol i; L = 0: nothing is known of it -/
noncomputable def zo_alen (L : Nat) : zOp := fun nx _ k w cf y _ ls st q fs m => zpop false (fun a r => zif (Nat.beq (Nat.mod a 8) 3) (zif (Nat.beq (Nat.div a 8) 99999) (zif (Nat.beq L 0) false (k w cf y nx ls (Nat.mul 8 L :: r) q fs m))
  (zif (Nat.ble 200000 (Nat.div a 8)) (zif (Nat.ble (Nat.succ (Nat.sub (Nat.div a 8) 200000)) zxTn) (zfr false (Nat.mul 8 (zxTl (Nat.sub (Nat.div a 8) 200000))) (fun v => k w cf y nx ls (v :: r) q fs m)) false) (zget m (Nat.div a 8) (fun c => Prod.rec (motive := fun _ => Bool) (fun tg c2 => zif (zand (Nat.ble 20 tg) (Nat.ble tg 23)) (Prod.rec (motive := fun _ => Bool) (fun ln _ => k w cf y nx ls (Nat.mul 8 ln :: r) q fs m) c2) false) c)))) false) st
/-- an index is made known: a symbol by halves, bounds by each -/
noncomputable def zindex (w : zW) (j : Nat) (again : zW → Bool) (put : Nat → Bool) (k : Nat → Bool) : Bool :=
  zif (Nat.beq (Nat.mod j 8) 0) (k (Nat.div j 8)) (zhalf w j 4096 (zkn w j (zif (Nat.beq (Nat.mod j 8) 2) (zbd w j (fun lo hi => zif (Nat.ble (Nat.sub hi lo) 64) (zif (Nat.ble lo hi) (zeach put (Nat.succ (Nat.sub hi lo)) lo) false) false)) false) k) again)
noncomputable def zo_ald (L k1 k2 : Nat) : zOp := fun nx _ k w cf y pc ls st q fs m => zpop false (fun j t => zpop false (fun a r => zif (Nat.beq (Nat.mod a 8) 3) (zindex w j (fun w2 => k w2 cf y pc ls st q fs m) (fun u => k w cf y pc ls (Nat.mul 8 u :: t) q fs m) (fun n => zif (Nat.beq (Nat.div a 8) 99999)
    (zif (zand (Nat.ble (Nat.succ n) L) (Nat.beq k1 20)) (zfr false (Nat.add (Nat.mul 34359738368 n) 1) (fun v => k w cf y nx ls (v :: r) q fs m)) false)
    (zif (Nat.ble 200000 (Nat.div a 8)) (zif (zand (Nat.beq k1 22) (Nat.ble (Nat.succ (Nat.sub (Nat.div a 8) 200000)) zxTn)) (znth (fun c => k w cf y nx ls (Nat.mul 8 c :: r) q fs m) (zxT (Nat.sub (Nat.div a 8) 200000)) n) false) (zget m (Nat.div a 8) (fun c => Prod.rec (motive := fun _ => Bool) (fun tg c2 => zif (zif (Nat.beq tg k1) true (Nat.beq tg k2)) (Prod.rec (motive := fun _ => Bool) (fun ln ct => zif (Nat.ble (Nat.succ n) ln) (zget ct n (fun v => k w cf y nx ls (v :: r) q fs m)) false) c2) false) c))))) false) t) st
/-- what comes into an array of a kind -/
noncomputable def zinto (w : zW) (kd v : Nat) (k : Nat → Bool) : Bool :=
  zif (Nat.beq kd 20) (zif (Nat.ble (Nat.mod v 8) 2) (k v) false)
  (zif (Nat.beq kd 21) (zif (Nat.beq (Nat.mod v 8) 4) (k v) false)
  (zif (Nat.beq kd 22) (zif (Nat.beq (Nat.mod v 8) 0) (zfr false (Nat.mul 8 (Int32.ofNat (Nat.div v 8)).toInt8.toInt32.toBitVec.toNat) k) (zif (Nat.ble (Nat.mod v 8) 2) (zbd w v (fun _ _ => k 34359738362)) false))
  (zif (Nat.beq kd 23) (zif (zif (Nat.beq v 0) true (Nat.beq v 8)) (k v) false) false)))
noncomputable def zo_ast (k1 k2 : Nat) : zOp := fun nx _ k w cf y pc ls st q fs m => zpop false (fun v t => zpop false (fun j t2 => zpop false (fun a r => zif (Nat.beq (Nat.mod a 8) 3) (zindex w j (fun w2 => k w2 cf y pc ls st q fs m) (fun u => k w cf y pc ls (v :: Nat.mul 8 u :: t2) q fs m) (fun n =>
    zcell m (Nat.div a 8) (fun tg ln ct kk => zif (zand (zif (Nat.beq tg k1) true (Nat.beq tg k2)) (Nat.ble (Nat.succ n) ln)) (zinto w tg v (fun v2 => zset ct n v2 (fun c2 => kk (tg, ln, c2)))) false) (fun m2 => k w cf y nx ls r q fs m2))) false) t2) t) st
/-- n values off the stack, the first that was pushed first -/
noncomputable def zargs (n : Nat) : List Nat → List Nat → (List Nat → List Nat → Bool) → Bool := Nat.rec (motive := fun _ => List Nat → List Nat → (List Nat → List Nat → Bool) → Bool) (fun st acc k => k acc st) (fun _ ih st acc k => zpop false (fun v r => ih r (v :: acc) k) st) n
/-- a long has two places -/
noncomputable def zexp (as : List Nat) : List Nat := List.rec (motive := fun _ => List Nat) [] (fun v _ ih => zif (Nat.beq (Nat.mod v 8) 4) (v :: 13 :: ih) (v :: ih)) as
noncomputable def zpad (n : Nat) : List Nat → (List Nat → Bool) → Bool := Nat.rec (motive := fun _ => List Nat → (List Nat → Bool) → Bool) (fun l k => List.rec (motive := fun _ => Bool) (k []) (fun _ _ _ => false) l) (fun _ ih l k => List.rec (motive := fun _ => Bool) (ih [] (fun u => k (13 :: u))) (fun a t _ => ih t (fun u => k (a :: u))) l) n
/-- words on the stack -/
noncomputable def zwords (st : List Nat) : Nat := List.rec (motive := fun _ => Nat) 0 (fun v _ ih => Nat.add (zif (Nat.beq (Nat.mod v 8) 4) 2 1) ih) st
/-- the receiver is there, and of a class (its number and 1; 0: none is asked for) -/
noncomputable def zrcv (c : Nat) (as : List Nat) (m : zM) (k : Bool) : Bool := zif (Nat.beq c 0) k (zpop false (fun a _ => zif (Nat.beq (Nat.mod a 8) 3) (zif (Nat.ble 100000 (Nat.div a 8)) (zif (zand (Nat.beq c 14) (Nat.ble (Nat.succ (Nat.sub (Nat.div a 8) 100000)) zxTn)) k false) (zget m (Nat.div a 8) (fun x => Prod.rec (motive := fun _ => Bool) (fun tg _ => zif (zand (Nat.beq (Nat.succ tg) c) (Nat.ble (Nat.succ tg) 12)) k false) x))) false) as)
noncomputable def zcall (y2 kd : Nat) : zOp := fun nx _ k w cf y _ ls st q fs m => zget zKd y2 (fun g => zif (Nat.beq g kd) (zget zxMeta y2 (fun en => Prod.rec (motive := fun _ => Bool) (fun cf2 e2 => Prod.rec (motive := fun _ => Bool) (fun na e3 => Prod.rec (motive := fun _ => Bool) (fun ml e4 => Prod.rec (motive := fun _ => Bool) (fun ow yt => zargs na st [] (fun as r => Prod.rec (motive := fun _ => Bool) (fun d q2 => Prod.rec (motive := fun _ => Bool) (fun nc ns =>
  zif (zand (Nat.ble (zwords r) 8) (zand (Nat.ble 1 d) (zand (Nat.ble (Nat.add nc yt.2.1) y.2.1) (Nat.ble (Nat.add ns yt.2.2.1) y.2.2.1))))
    (zrcv (zif (Nat.beq kd 2) 0 (Nat.succ ow)) as m (zpad ml (zexp as) (fun l2 => zfr false (Nat.pred d) (fun d2 => zfr false (Nat.add nc yt.2.1) (fun nc2 => zfr false (Nat.add ns yt.2.2.1) (fun ns2 =>
      k w cf2 yt 0 l2 [] (d2, 0, 0) ((cf, y, nx, ls, r, d, nc2, ns2) :: fs) m)))))) false) q2) q)) e4) e3) e2) en)) false)
/-- Object's constructor, which is walked apart -/
noncomputable def zjdk : zOp := fun nx _ k w cf y _ ls st q fs m => zpop false (fun a r => zif (zand (Nat.beq (Nat.mod a 8) 3) (zand (Nat.ble (zwords r) 8) (Nat.ble 1 q.1))) (k w cf y nx ls r q fs m) false) st
/-- a call's link: 16 times its method and how: 0 virtual, 1 the same of a nest mate, 2 a constructor, 3 the same of a nest mate, 4 static, 5 the same of a nest mate; 15 the JDK's -/
noncomputable def zo_inv : zOp := fun nx ax => zif (Nat.beq (Nat.mod ax 16) 15) (zjdk nx ax) (zcall (Nat.div ax 16) (Nat.div (Nat.mod ax 16) 2) nx ax)
/-- back to the caller, or to the end -/
noncomputable def zback (bt : zW → List Nat → zM → Bool) (v : List Nat) (k : zK) (w : zW) (fs : List zFr) (m : zM) : Bool := List.rec (motive := fun _ => Bool) (bt w v m) (fun fr t _ => Prod.rec (motive := fun _ => Bool) (fun cf f1 => Prod.rec (motive := fun _ => Bool) (fun y f2 => Prod.rec (motive := fun _ => Bool) (fun pc f3 => Prod.rec (motive := fun _ => Bool) (fun ls f4 => Prod.rec (motive := fun _ => Bool) (fun st q => k w cf y pc ls (List.rec (motive := fun _ => List Nat) st (fun a _ _ => a :: st) v) q t m) f4) f3) f2) f1) fr) fs
/-- may a method of this kind answer so: 1 an int, 2 a boolean, 3 a long, 4 a byte, 5 a char -/
noncomputable def zans (g v : Nat) : Bool := zif (Nat.beq g 1) (Nat.ble (Nat.mod v 8) 2) (zif (Nat.beq g 2) (zif (Nat.beq v 0) true (Nat.beq v 8)) (zif (Nat.beq g 3) (Nat.beq (Nat.mod v 8) 4) (zand (zif (Nat.beq g 4) true (Nat.beq g 5)) (zand (Nat.beq (Nat.mod v 8) 0) (Nat.ble (Nat.div v 8) 127)))))
noncomputable def zo_ret (bt : zW → List Nat → zM → Bool) (lg : Bool) : zOp := fun _ _ k w _ y _ _ st _ fs m => zpop false (fun v r => zpop (zif (zand (zif lg (Nat.beq y.2.2.2.1 3) (zif (Nat.beq y.2.2.2.1 3) false true)) (zans y.2.2.2.1 v)) (zback bt [v] k w fs m) false) (fun _ _ => false) r) st
noncomputable def zo_retv (bt : zW → List Nat → zM → Bool) : zOp := fun _ _ k w _ y _ _ st _ fs m => zpop (zif (Nat.beq y.2.2.2.1 0) (zback bt [] k w fs m) false) (fun _ _ => false) st
/-- a switch: bounds 2^31 higher; where it goes for what lies outside, inside -/
noncomputable def zo_tab (d lo hi : Int) (offs : Array Int) : zOp := fun _ _ k w cf y pc ls st q fs m => zpop false (fun v r => zif (zand (decide (0 ≤ lo)) (decide (0 ≤ hi))) (zfr false (lo + 2147483648).toNat (fun l => zfr false (hi + 2147483648).toNat (fun h => zbd w v (fun a b =>
  zif (zif (Nat.ble (Nat.succ b) l) true (Nat.ble (Nat.succ h) a)) (zfr false ((pc : Int) + d).toNat (fun t => zif (decide ((t : Int) = (pc : Int) + d)) (k w cf y t ls r q fs m) false))
  (zif (Nat.ble (Nat.succ a) l) (zand (zcut w v a (Nat.pred l) (fun w2 => k w2 cf y pc ls st q fs m)) (zcut w v l b (fun w2 => k w2 cf y pc ls st q fs m)))
  (zif (Nat.ble (Nat.succ h) b) (zand (zcut w v (Nat.succ h) b (fun w2 => k w2 cf y pc ls st q fs m)) (zcut w v a h (fun w2 => k w2 cf y pc ls st q fs m)))
  (zindex w v (fun w2 => k w2 cf y pc ls st q fs m) (fun u => k w cf y pc ls (Nat.mul 8 u :: r) q fs m) (fun u => zfr false (zb u) (fun c => znth (fun o => zfr false ((pc : Int) + o).toNat (fun t => zif (decide ((t : Int) = (pc : Int) + o)) (k w cf y t ls r q fs m) false)) offs.toList (Nat.sub c l)))))))))) false) st
noncomputable def zo_look (d : Int) (ps : Array (Int × Int)) : zOp := fun _ _ k w cf y pc ls st q fs m => zpop false (fun v r => zindex w v (fun w2 => k w2 cf y pc ls st q fs m) (fun u => k w cf y pc ls (Nat.mul 8 u :: r) q fs m) (fun u => zif ((ps.toList.zip (ps.toList.drop 1)).all (fun (a, next) => a.1 < next.1))
  (zfr false ((pc : Int) + Op.lookupswitch.offset ps.toList d (Int32.ofNat u).toInt).toNat (fun t => zif (decide ((t : Int) = (pc : Int) + Op.lookupswitch.offset ps.toList d (Int32.ofNat u).toInt)) (k w cf y t ls r q fs m) false)) false)) st
/-- a constant: an int (2^31 higher), or a text (its number and 2^32) -/
noncomputable def zo_ldc : zOp := fun nx ax k w cf y _ ls st q fs m => zif (Nat.ble ax 4294967295) (zfr false (Nat.mul 8 (zb ax)) (fun v => k w cf y nx ls (v :: st) q fs m)) (zfr false (Nat.add (Nat.mul 8 (Nat.add (Nat.sub ax 4294967296) 100000)) 3) (fun v => k w cf y nx ls (v :: st) q fs m))
noncomputable def zo_ldc2 : zOp := fun nx ax k w cf y _ ls st q fs m => zfr false (Nat.add (Nat.mul 8 ax) 4) (fun v => k w cf y nx ls (v :: st) q fs m)
/-- a static of the JDK's: 1 the number 1, 2 a reference or null -/
noncomputable def zo_gets : zOp := fun nx ax k w cf y _ ls st q fs m => zif (Nat.beq ax 1) (k w cf y nx ls (8 :: st) q fs m) (zif (Nat.beq ax 2) (k w cf y nx ls (7 :: st) q fs m) false)
/-- each instruction's part, over closed texts -/
noncomputable def zop (bt : zW → List Nat → zM → Bool) (L : Nat) (i : Instr) : zOp := Instr.rec (motive := fun _ => zOp)
  zo_no
  zo_no
  zo_no
  (fun i => zo_load 2 i)
  (fun i => zo_load 2 i.val)
  (fun _ => zo_no)
  zo_no
  (zo_alen L)
  (fun i => zo_store 2 i)
  (fun i => zo_store 2 i.val)
  zo_no
  (zo_ald L 22 23)
  (zo_ast 22 23)
  (fun n => zo_push (Nat.mul 8 (Int8.ofInt n).toInt32.toBitVec.toNat))
  zo_no
  zo_no
  (fun _ => zo_no)
  zo_no
  zo_no
  zo_no
  zo_no
  zo_no
  zo_no
  (fun _ => zo_no)
  (fun _ => zo_no)
  zo_no
  (fun _ => zo_no)
  (fun _ => zo_no)
  zo_no
  zo_no
  zo_no
  zo_no
  (fun _ => zo_no)
  (fun _ => zo_no)
  zo_no
  (zo_dup)
  zo_no
  zo_no
  (zo_dup2)
  zo_no
  zo_no
  zo_no
  zo_no
  zo_no
  zo_no
  zo_no
  zo_no
  (fun _ => zo_no)
  (fun _ => zo_no)
  zo_no
  (fun _ => zo_no)
  (fun _ => zo_no)
  zo_no
  zo_no
  zo_no
  zo_no
  (fun _ => zo_no)
  (fun _ => zo_no)
  zo_no
  (fun _ => zo_getf)
  (fun _ => zo_gets)
  (fun _ => zo_goto)
  (fun _ => zo_no)
  (zo_un (fun u => Nat.mul 8 (Int32.ofNat u).toInt8.toInt32.toBitVec.toNat) 1)
  (zo_un (fun u => Nat.mul 8 ((Int32.ofNat u).toUInt32 % 65536).toInt32.toBitVec.toNat) 0)
  zo_no
  zo_no
  (zo_un (fun u => Nat.add (Nat.mul 8 (Int32.ofNat u).toInt64.toBitVec.toNat) 4) 0)
  zo_no
  (zo_bin zf_add 1)
  (zo_ald L 20 20)
  (zo_bin zf_and 4)
  (zo_ast 20 20)
  (fun n => zo_push (Nat.mul 8 (Int32.ofInt n).toBitVec.toNat))
  (zo_div (zf_32 (fun x y => x / y)) 0)
  (fun _ _ => zo_no)
  (fun c _ => Jvm.ClassFile.Cond.rec (motive := fun _ => zOp) (zo_cmp true false false) (zo_cmp true false true) (zo_cmp false false false) (zo_cmp false false true) (zo_cmp false true false) (zo_cmp false true true) c)
  (fun c _ => Jvm.ClassFile.Cond.rec (motive := fun _ => zOp) (zo_cmp0 true false false) (zo_cmp0 true false true) (zo_cmp0 false false false) (zo_cmp0 false false true) (zo_cmp0 false true false) (zo_cmp0 false true true) c)
  (fun _ => zo_no)
  (fun _ => zo_no)
  (fun i n => zo_iinc i (Int32.ofInt n).toBitVec.toNat)
  (fun i => zo_load 0 i)
  (fun i => zo_load 0 i.val)
  (zo_bin zf_mul 3)
  (zo_un (fun u => Nat.mul 8 (-(Int32.ofNat u)).toBitVec.toNat) 0)
  (fun _ => zo_no)
  (fun _ => zo_no)
  (fun _ _ => zo_no)
  (fun _ => zo_inv)
  (fun _ => zo_inv)
  (fun _ => zo_inv)
  (zo_bin zf_or 3)
  (zo_div (zf_32 (fun x y => x - x / y * y)) 5)
  (zo_ret bt false)
  (zo_bin (zf_32 (fun x y => x <<< (y &&& 31))) 3)
  (zo_bin (zf_32 (fun x y => x >>> (y &&& 31))) 3)
  (fun i => zo_store 0 i)
  (fun i => zo_store 0 i.val)
  (zo_bin zf_sub 2)
  zo_no
  (zo_bin zf_xor 6)
  (fun _ => zo_no)
  (fun _ => zo_no)
  zo_no
  zo_no
  (zo_lun (fun u => Nat.mul 8 (Int64.ofNat u).toInt32.toBitVec.toNat))
  (zo_lbin false (zf_64 (fun x y => x + y)))
  (zo_ald L 21 21)
  (zo_lbin false (zf_64 (fun x y => x &&& y)))
  (zo_ast 21 21)
  (zo_lbin false zf_cmp)
  (fun n => zo_push (Nat.add (Nat.mul 8 n.val) 4))
  (fun _ => zo_ldc)
  (fun _ => zo_ldc)
  (fun _ => zo_ldc2)
  (zo_lbin true (zf_64 (fun x y => x / y)))
  (fun i => zo_load 1 i)
  (fun i => zo_load 1 i.val)
  (zo_lbin false (zf_64 (fun x y => x * y)))
  zo_no
  (zo_look)
  (zo_lbin false (zf_64 (fun x y => x ||| y)))
  (zo_lbin true (zf_64 (fun x y => x - x / y * y)))
  (zo_ret bt true)
  (zo_lsh (zf_64s (fun x y => x <<< (y.toInt64 &&& 63))))
  (zo_lsh (zf_64s (fun x y => x >>> (y.toInt64 &&& 63))))
  (fun i => zo_store 1 i)
  (fun i => zo_store 1 i.val)
  (zo_lbin false (zf_64 (fun x y => x - y)))
  zo_no
  zo_no
  zo_no
  zo_no
  (fun _ _ => zo_no)
  (fun _ => zo_new)
  (fun a => ArrayType.rec (motive := fun _ => zOp) (zo_newa 23) zo_no zo_no zo_no (zo_newa 22) zo_no (zo_newa 20) (zo_newa 21) a)
  zo_no
  (zo_pop)
  zo_no
  (fun _ => zo_putf)
  (fun _ => zo_no)
  (fun _ => zo_no)
  (zo_retv bt)
  zo_no
  zo_no
  (fun n => zo_push (Nat.mul 8 (Int16.ofInt n).toInt32.toBitVec.toNat))
  zo_no
  (zo_tab) i
/-- n steps at most; 'stop' says where it may end -/
noncomputable def zok (bt : zW → List Nat → zM → Bool) (L : Nat) (stop : zK) (n : Nat) : zK := Nat.rec (motive := fun _ => zK) stop (fun _ k w cf y pc ls st q fs m => zif (stop w cf y pc ls st q fs m) true (Prod.rec (motive := fun _ => Bool) (fun i r => Prod.rec (motive := fun _ => Bool) (fun nx ax => zop bt L i nx ax k w cf y pc ls st q fs m) r) (cf pc))) n
