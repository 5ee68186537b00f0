section
/-! THE SECOND EXECUTOR: no cell is made; the memory is a base (rows of codes for each place, which hold whenever nothing else is known) and what is known beyond it (key 16384 * place + index, code), and the facts that were met on the way. Codes as before, and: 4 with 2^64 or more behind it any long, 6 one of two places. -/
abbrev zyF : Type := Nat × Nat × Nat × Nat
abbrev zyM : Type := List (Nat × Nat) × List zyF
abbrev zyR : Type := List (Nat × Nat × Nat)
abbrev zyCl : Type := Nat × Nat × zyR
abbrev zyB : Type := List (List (List zyCl))
/-- a contract: what is asked of the arguments, where it may write, what it answers, how deep it calls, what it asks of elements, what it says of elements behind -/
abbrev zyCt : Type := List Nat × zyR × List Nat × Nat × List (Nat × Nat) × List (Nat × Nat)
/-- base, contracts, where may be written, what no one may write without a contract, how wide a symbol may be to be split -/
abbrev zyP : Type := zyB × (Nat → List zyCt) × zyR × zyR × Nat
abbrev zyK : Type := zW → (Nat → zT) → zY → Nat → List Nat → List Nat → zQ → List zFr → zyM → Bool
abbrev zyOp : Type := Nat → Nat → zyK → zyK
noncomputable def zyin (l : zyR) (a k : Nat) : Bool := List.rec (motive := fun _ => Bool) false (fun p _ ih => zif (zand (Nat.beq p.1 a) (zand (Nat.ble p.2.1 k) (Nat.ble k p.2.2))) true ih) l
/-- one row has all of it -/
noncomputable def zycov (l : zyR) (a lo hi : Nat) : Bool := List.rec (motive := fun _ => Bool) false (fun p _ ih => zif (zand (Nat.beq p.1 a) (zand (Nat.ble p.2.1 lo) (Nat.ble hi p.2.2))) true ih) l
/-- no row has any of it -/
noncomputable def zyapt (l : zyR) (a lo hi : Nat) : Bool := List.rec (motive := fun _ => Bool) true (fun p _ ih => zand (zif (Nat.beq p.1 a) (zif (Nat.ble (Nat.succ hi) p.2.1) true (Nat.ble (Nat.succ p.2.2) lo)) true) ih) l
noncomputable def zylk {β : Type} (j : β) (f : Nat → β) (key : Nat) (l : List (Nat × Nat)) : β := List.rec (motive := fun _ => β) j (fun p _ ih => zif (Nat.beq p.1 key) (f p.2) ih) l
/-- the first row that has all from lo to hi -/
noncomputable def zyrw (f : Nat → Bool) (lo hi : Nat) (l : zyR) : Bool := List.rec (motive := fun _ => Bool) false (fun p _ ih => zif (zand (Nat.ble p.1 lo) (Nat.ble hi p.2.1)) (f p.2.2) ih) l
/-- all rows that have any of it -/
noncomputable def zyall (f : Nat → Bool) (lo hi : Nat) (l : zyR) : Bool := List.rec (motive := fun _ => Bool) true (fun p _ ih => zand (zif (Nat.ble (Nat.succ hi) p.1) true (zif (Nat.ble (Nat.succ p.2.1) lo) true (f p.2.2))) ih) l
noncomputable def zydel (key : Nat) (l : List (Nat × Nat)) : (List (Nat × Nat) → Bool) → Bool := List.rec (motive := fun _ => (List (Nat × Nat) → Bool) → Bool) (fun k => k []) (fun p _ ih k => zif (Nat.beq p.1 key) (ih k) (ih (fun u => k (p :: u)))) l
noncomputable def zyput (key v : Nat) (m : zyM) (k : zyM → Bool) : Bool := zydel key m.1 (fun u => k ((key, v) :: u, m.2))
/-- does the code say all that the value may be -/
noncomputable def zysub (w : zW) (v code : Nat) : Bool :=
  zif (Nat.beq (Nat.mod code 8) 2) (zbd w v (fun lo hi => zand (Nat.ble (Nat.div code 34359738368) lo) (Nat.ble hi (Nat.mod (Nat.div code 8) 4294967296))))
  (zif (zand (Nat.beq (Nat.mod code 8) 4) (Nat.ble 18446744073709551616 (Nat.div code 8))) (Nat.beq (Nat.mod v 8) 4)
  (zif (Nat.beq (Nat.mod code 8) 6) (zif (Nat.beq v (Nat.add (Nat.mul 8 (Nat.mod (Nat.div code 8) 1048576)) 3)) true (zif (Nat.beq v (Nat.add (Nat.mul 8 (Nat.div (Nat.div code 8) 1048576)) 3)) true (Nat.beq v code)))
   (zif (Nat.beq (Nat.mod code 8) 1) false (Nat.beq v code))))
noncomputable def zyapp (x : Nat × Nat) (l : List (Nat × Nat)) : Nat → (Nat → List (Nat × Nat) → Bool) → Bool := List.rec (motive := fun _ => Nat → (Nat → List (Nat × Nat) → Bool) → Bool) (fun i k => k i [x]) (fun a _ ih i k => ih (Nat.succ i) (fun j u => k j (a :: u))) l
/-- a new symbol within bounds -/
noncomputable def zyfresh (w : zW) (lo hi : Nat) (k : zW → Nat → Bool) : Bool := zyapp (lo, hi) w.2 0 (fun n e => zif (Nat.beq n w.1) (zfr false (Nat.succ n) (fun n2 => zfr false (Nat.add (Nat.mul n 34359738368) 1) (fun v => k (n2, e) v))) false)
/-- a value that was read from one place -/
noncomputable def zyval (P : zyP) (v a j key : Nat) (w : zW) (m : zyM) (k : zW → Nat → zyM → Bool) : Bool :=
  zif (Nat.beq (Nat.mod v 8) 2) (zfr false (Nat.div v 34359738368) (fun lo => zfr false (Nat.mod (Nat.div v 8) 4294967296) (fun hi => zyfresh w lo hi (fun w2 v2 => zyput key v2 m (fun m2 => k w2 v2 (zif (zyin P.2.2.1 a j) m2 (m2.1, (24, v2, a, Nat.mul 8 j) :: m2.2)))))))
  (zif (Nat.beq (Nat.mod v 8) 6) (zand (zfr false (Nat.add (Nat.mul 8 (Nat.mod (Nat.div v 8) 1048576)) 3) (fun v2 => zyput key v2 m (fun m2 => k w v2 m2))) (zfr false (Nat.add (Nat.mul 8 (Nat.div (Nat.div v 8) 1048576)) 3) (fun v2 => zyput key v2 m (fun m2 => k w v2 m2))))
  (k w v m))
noncomputable def zyrd (P : zyP) (rows : zyR) (a j : Nat) (w : zW) (m : zyM) (k : zW → Nat → zyM → Bool) : Bool :=
  zfr false (Nat.add (Nat.mul a 16384) j) (fun key => zylk (zyrw (fun v => zyval P v a j key w m k) j j rows) (fun v => zyval P v a j key w m k) key m.1)
/-- a value that is known by its code alone -/
noncomputable def zynew (v : Nat) (w : zW) (k : zW → Nat → Bool) : Bool :=
  zif (Nat.beq (Nat.mod v 8) 2) (zfr false (Nat.div v 34359738368) (fun lo => zfr false (Nat.mod (Nat.div v 8) 4294967296) (fun hi => zyfresh w lo hi k))) (zif (Nat.beq (Nat.mod v 8) 6) false (k w v))
/-- what is known of a range goes, if the rows say it too -/
noncomputable def zyflush (w : zW) (rows : zyR) (lo hi base : Nat) (l : List (Nat × Nat)) : (List (Nat × Nat) → Bool) → Bool := List.rec (motive := fun _ => (List (Nat × Nat) → Bool) → Bool) (fun k => k []) (fun p _ ih k => zif (zand (Nat.ble (Nat.add base lo) p.1) (Nat.ble p.1 (Nat.add base hi))) (zif (zyall (fun c => zysub w p.2 c) (Nat.sub p.1 base) (Nat.sub p.1 base) rows) (ih k) false) (ih (fun u => k (p :: u)))) l
/-- what is kept by contract alone may say that an element isn't below 0 where another one at the same index isn't: rows (100000 + place, the other place, 0) -/
noncomputable def zyfa (w : zW) (g j : Nat) (F : List zyF) : Bool := List.rec (motive := fun _ => Bool) false (fun f _ ih => zif (zand (Nat.beq f.1 24) (zand (Nat.beq f.2.2.1 g) (zand (Nat.beq f.2.2.2 j) (zbd w f.2.1 (fun lo _ => Nat.ble 2147483648 lo))))) true ih) F
noncomputable def zyrl (P : zyP) (w : zW) (F : List zyF) (a lo hi j : Nat) (l : zyR) : Bool := List.rec (motive := fun _ => Bool) false (fun p _ ih => zif (zand (Nat.beq p.1 (Nat.add 100000 a)) (zand (zycov P.2.2.2.1 a lo hi) (zand (zyapt P.2.2.1 p.2.1 lo hi) (zyfa w p.2.1 j F)))) true ih) l
noncomputable def zyrf (P : zyP) (w : zW) (F : List zyF) (a lo hi j v : Nat) : Nat := zif (zand (Nat.beq (Nat.mod v 8) 2) (zand (Nat.beq (Nat.mod j 8) 1) (zyrl P w F a lo hi j P.2.2.2.1))) (Nat.add (Nat.mul 8 (Nat.add (Nat.mul (Nat.max (Nat.div v 34359738368) 2147483648) 4294967296) (Nat.mod (Nat.div v 8) 4294967296))) 2) v
/-! instructions -/
noncomputable def zyo_no : zyOp := fun _ _ _ _ _ _ _ _ _ _ _ _ => false
noncomputable def zyo_push (v : Nat) : zyOp := fun nx _ k w cf y _ ls st q fs m => k w cf y nx ls (v :: st) q fs m
noncomputable def zyo_load (g i : Nat) : zyOp := fun nx _ k w cf y _ ls st q fs m => znth (fun v => zif (zkd g v) (k w cf y nx ls (v :: st) q fs m) false) ls i
noncomputable def zyo_store (g i : Nat) : zyOp := fun nx _ k w cf y _ ls st q fs m => zpop false (fun v r => zif (zkd g v) (zlow ls i (zif (Nat.beq g 1)
    (zupd (fun _ k2 => k2 v) ls i (fun l1 => zupd (fun _ k2 => k2 13) l1 (Nat.succ i) (fun l2 => k w cf y nx l2 r q fs m)))
    (zupd (fun _ k2 => k2 v) ls i (fun l1 => k w cf y nx l1 r q fs m)))) false) st
noncomputable def zyo_iinc (i : Nat) (u : Nat) : zyOp := fun nx _ k w cf y _ ls st q fs m => znth (fun v => zif (Nat.beq (Nat.mod v 8) 0)
    (zfr false (Nat.mul 8 (Nat.mod (Nat.add (Nat.div v 8) u) 4294967296)) (fun v2 => zupd (fun _ k2 => k2 v2) ls i (fun l1 => k w cf y nx l1 st q fs m)))
    (zif (Nat.beq (Nat.mod v 8) 1) (zfr false (zaff v u) (fun v2 => zupd (fun _ k2 => k2 v2) ls i (fun l1 => k w cf y nx l1 st q fs m))) false)) ls i
/-- bounds of an answer: 1 +, 2 -, 3 *, 4 and, 5 rest, 6 xor, 7 or, 8 shift left, 9 right, 10 / -/
noncomputable def zyitv (g la ha lb hb : Nat) (k : Nat → Nat → Bool) : Bool :=
  zif (Nat.beq g 1) (zif (zand (Nat.ble 2147483648 (Nat.add la lb)) (Nat.ble (Nat.add ha hb) 6442450943)) (zfr false (Nat.sub (Nat.add la lb) 2147483648) (fun lo => zfr false (Nat.sub (Nat.add ha hb) 2147483648) (fun hi => k lo hi))) (k 0 4294967295))
  (zif (Nat.beq g 2) (zif (zand (Nat.ble hb (Nat.add la 2147483648)) (Nat.ble (Nat.add ha 2147483648) (Nat.add lb 4294967295))) (zfr false (Nat.sub (Nat.add la 2147483648) hb) (fun lo => zfr false (Nat.sub (Nat.add ha 2147483648) lb) (fun hi => k lo hi))) (k 0 4294967295))
  (zif (Nat.beq g 3) (zif (zand (Nat.ble 2147483648 la) (zand (Nat.ble 2147483648 lb) (Nat.ble (Nat.mul (Nat.sub ha 2147483648) (Nat.sub hb 2147483648)) 2147483647))) (zfr false (Nat.add (Nat.mul (Nat.sub la 2147483648) (Nat.sub lb 2147483648)) 2147483648) (fun lo => zfr false (Nat.add (Nat.mul (Nat.sub ha 2147483648) (Nat.sub hb 2147483648)) 2147483648) (fun hi => k lo hi)))
    (zfr false (Nat.mul (Nat.max (Nat.sub ha 2147483648) (Nat.sub 2147483648 la)) (Nat.max (Nat.sub hb 2147483648) (Nat.sub 2147483648 lb))) (fun M => zif (Nat.ble M 2147483647) (zfr false (Nat.sub 2147483648 M) (fun lo => zfr false (Nat.add 2147483648 M) (fun hi => k lo hi))) (k 0 4294967295))))
  (zif (Nat.beq g 4) (zif (Nat.ble 2147483648 lb) (zif (Nat.ble 2147483648 la) (zfr false (Nat.min ha hb) (fun hi => k 2147483648 hi)) (k 2147483648 hb)) (zif (Nat.ble 2147483648 la) (k 2147483648 ha) (k 0 4294967295)))
  (zif (Nat.beq g 5) (zif (Nat.ble 2147483649 lb) (zif (Nat.ble 2147483648 la) (zfr false (Nat.min ha (Nat.pred hb)) (fun hi => k 2147483648 hi)) (zif (Nat.ble ha 2147483648) (zfr false (Nat.sub 4294967297 hb) (fun lo => k lo 2147483648)) (zfr false (Nat.sub 4294967297 hb) (fun lo => zfr false (Nat.pred hb) (fun hi => k lo hi))))) (zif (Nat.ble hb 2147483647) (k 0 4294967295) false))
  (zif (Nat.beq g 6) (zif (zand (Nat.ble 2147483648 la) (Nat.ble 2147483648 lb)) (k 2147483648 4294967295) (zif (zand (Nat.ble ha 2147483647) (Nat.ble 2147483648 lb)) (k 0 2147483647) (k 0 4294967295)))
  (zif (Nat.beq g 7) (zif (zand (Nat.ble 2147483648 la) (Nat.ble 2147483648 lb)) (zfr false (Nat.add 2147483647 (Nat.pow 2 (Nat.succ (Nat.log2 (Nat.sub (Nat.max ha hb) 2147483648))))) (fun hi => zif (Nat.ble hi 4294967295) (k 2147483648 hi) (k 2147483648 4294967295))) (k 0 4294967295))
  (zif (Nat.beq g 8) (zif (zand (Nat.ble 2147483648 la) (zand (Nat.ble 2147483648 lb) (zand (Nat.ble hb 2147483679) (Nat.ble (Nat.mul (Nat.sub ha 2147483648) (Nat.pow 2 (Nat.sub hb 2147483648))) 2147483647)))) (zfr false (Nat.add 2147483648 (Nat.mul (Nat.sub la 2147483648) (Nat.pow 2 (Nat.sub lb 2147483648)))) (fun lo => zfr false (Nat.add 2147483648 (Nat.mul (Nat.sub ha 2147483648) (Nat.pow 2 (Nat.sub hb 2147483648)))) (fun hi => k lo hi))) (k 0 4294967295))
  (zif (Nat.beq g 9) (zif (Nat.ble 2147483648 la) (zif (zand (Nat.ble 2147483648 lb) (Nat.ble hb 2147483679)) (zfr false (Nat.add 2147483648 (Nat.div (Nat.sub ha 2147483648) (Nat.pow 2 (Nat.sub lb 2147483648)))) (fun hi => k 2147483648 hi)) (k 2147483648 ha)) (k 0 4294967295))
  (zif (Nat.beq g 10) (zif (Nat.ble 2147483649 lb) (zif (Nat.ble 2147483648 la) (zfr false (Nat.add 2147483648 (Nat.div (Nat.sub la 2147483648) (Nat.sub hb 2147483648))) (fun lo => zfr false (Nat.add 2147483648 (Nat.div (Nat.sub ha 2147483648) (Nat.sub lb 2147483648))) (fun hi => k lo hi))) (k 0 4294967295)) (zif (Nat.ble hb 2147483647) (k 0 4294967295) false))
  false)))))))))
/-- what isn't known: a symbol and an int more; else a new symbol, and the fact -/
noncomputable def zyabs (g : Nat) (a b : Nat) (w : zW) (m : zyM) (k : zW → Nat → zyM → Bool) : Bool :=
  zif (zand (Nat.beq g 1) (zand (Nat.beq (Nat.mod a 8) 1) (Nat.beq (Nat.mod b 8) 0))) (zfr false (zaff a (Nat.div b 8)) (fun v => k w v m))
  (zif (zand (Nat.beq g 1) (zand (Nat.beq (Nat.mod a 8) 0) (Nat.beq (Nat.mod b 8) 1))) (zfr false (zaff b (Nat.div a 8)) (fun v => k w v m))
  (zif (zand (Nat.beq g 2) (zand (Nat.beq (Nat.mod a 8) 1) (Nat.beq (Nat.mod b 8) 0))) (zfr false (zaff a (Nat.sub 4294967296 (Nat.mod (Nat.div b 8) 4294967296))) (fun v => k w v m))
  (zbd w a (fun la ha => zbd w b (fun lb hb => zyitv g la ha lb hb (fun lo hi => zyfresh w lo hi (fun w2 v => k w2 v (m.1, (g, v, a, b) :: m.2))))))))
noncomputable def zyslow (P : zyP) (f : Nat → Nat → Nat) (g : Nat) (dv : Bool) (a b : Nat) (w : zW) (m : zyM) (again : zW → Bool) (k : zW → Nat → zyM → Bool) : Bool :=
  zhalf w a P.2.2.2.2 (zhalf w b P.2.2.2.2 (zkn w a (zkn w b (zyabs g a b w m k) (fun ub => zfr false (Nat.mul 8 ub) (fun b2 => zyabs g a b2 w m k)))
    (fun ua => zkn w b (zfr false (Nat.mul 8 ua) (fun a2 => zyabs g a2 b w m k)) (fun ub => zif (zand dv (Nat.beq (Nat.mod ub 4294967296) 0)) false (zfr false (Nat.mul 8 (f ua ub)) (fun v => k w v m))))) again) again
noncomputable def zyo_bin (P : zyP) (dv : Bool) (f : Nat → Nat → Nat) (g : Nat) : zyOp := fun nx _ k w cf y pc ls st q fs m => zpop false (fun b t => zpop false (fun a r =>
  zif (zand (Nat.beq (Nat.mod (Nat.lor a b) 8) 0) (zif dv (Nat.ble 1 (Nat.mod (Nat.div b 8) 4294967296)) true)) (zfr false (Nat.mul 8 (f (Nat.div a 8) (Nat.div b 8))) (fun v => k w cf y nx ls (v :: r) q fs m))
    (zyslow P f g dv a b w m (fun w2 => k w2 cf y pc ls st q fs m) (fun w2 v m2 => k w2 cf y nx ls (v :: r) q fs m2))) t) st
/-- over one int: 1 minus, 2 a byte of it, 3 a char of it -/
noncomputable def zyo_un (P : zyP) (f : Nat → Nat) (g : Nat) : zyOp := fun nx _ k w cf y pc ls st q fs m => zpop false (fun a r =>
  zhalf w a P.2.2.2.2 (zkn w a (zbd w a (fun lo hi =>
    zif (Nat.beq g 1) (zif (Nat.ble 1 lo) (zfr false (Nat.sub 4294967296 hi) (fun l2 => zfr false (Nat.sub 4294967296 lo) (fun h2 => zyfresh w l2 h2 (fun w2 v => k w2 cf y nx ls (v :: r) q fs (m.1, (11, v, a, a) :: m.2))))) (zyfresh w 0 4294967295 (fun w2 v => k w2 cf y nx ls (v :: r) q fs m)))
    (zif (Nat.beq g 2) (zif (zand (Nat.ble 2147483520 lo) (Nat.ble hi 2147483775)) (k w cf y nx ls (a :: r) q fs m) (zyfresh w 2147483520 2147483775 (fun w2 v => k w2 cf y nx ls (v :: r) q fs m)))
    (zif (Nat.beq g 3) (zif (zand (Nat.ble 2147483648 lo) (Nat.ble hi 2147549183)) (k w cf y nx ls (a :: r) q fs m) (zyfresh w 2147483648 2147549183 (fun w2 v => k w2 cf y nx ls (v :: r) q fs m))) false))))
    (fun u => zfr false (f u) (fun v => k w cf y nx ls (v :: r) q fs m))) (fun w2 => k w2 cf y pc ls st q fs m)) st
noncomputable def zykL (v : Nat) : Bool := zand (Nat.beq (Nat.mod v 8) 4) (Nat.ble (Nat.succ (Nat.div v 8)) 18446744073709551616)
noncomputable def zyo_i2l (P : zyP) (f : Nat → Nat) : zyOp := fun nx _ k w cf y pc ls st q fs m => zpop false (fun a r =>
  zhalf w a P.2.2.2.2 (zkn w a (zbd w a (fun _ _ => k w cf y nx ls (147573952589676412932 :: r) q fs m)) (fun u => zfr false (f u) (fun v => k w cf y nx ls (v :: r) q fs m))) (fun w2 => k w2 cf y pc ls st q fs m)) st
noncomputable def zyo_l2i (f : Nat → Nat) : zyOp := fun nx _ k w cf y _ ls st q fs m => zpop false (fun a r => zif (zykL a) (zfr false (f (Nat.div a 8)) (fun v => k w cf y nx ls (v :: r) q fs m)) (zif (Nat.beq (Nat.mod a 8) 4) (zyfresh w 0 4294967295 (fun w2 v => k w2 cf y nx ls (v :: r) q fs m)) false)) st
noncomputable def zyo_lneg (f : Nat → Nat) : zyOp := fun nx _ k w cf y _ ls st q fs m => zpop false (fun a r => zif (zykL a) (zfr false (f (Nat.div a 8)) (fun v => k w cf y nx ls (v :: r) q fs m)) (zif (Nat.beq (Nat.mod a 8) 4) (k w cf y nx ls (147573952589676412932 :: r) q fs m) false)) st
noncomputable def zyo_lbin (dv : Bool) (f : Nat → Nat → Nat) : zyOp := fun nx _ k w cf y _ ls st q fs m => zpop false (fun b t => zpop false (fun a r =>
  zif (zand (Nat.beq (Nat.mod a 8) 4) (Nat.beq (Nat.mod b 8) 4)) (zif (zand dv (zif (zykL b) (Nat.beq (Nat.div b 8) 0) true)) false (zif (zand (zykL a) (zykL b)) (zfr false (f (Nat.div a 8) (Nat.div b 8)) (fun v => k w cf y nx ls (v :: r) q fs m)) (k w cf y nx ls (147573952589676412932 :: r) q fs m))) false) t) st
noncomputable def zyo_lcmp : zyOp := fun nx _ k w cf y _ ls st q fs m => zpop false (fun b t => zpop false (fun a r =>
  zif (zand (Nat.beq (Nat.mod a 8) 4) (Nat.beq (Nat.mod b 8) 4)) (zif (zand (zykL a) (zykL b)) (zfr false (zf_cmp (Nat.div a 8) (Nat.div b 8)) (fun v => k w cf y nx ls (v :: r) q fs m)) (zyfresh w 2147483647 2147483649 (fun w2 v => k w2 cf y nx ls (v :: r) q fs m))) false) t) st
noncomputable def zyo_lsh (f : Nat → Nat → Nat) : zyOp := fun nx _ k w cf y _ ls st q fs m => zpop false (fun b t => zpop false (fun a r =>
  zif (zand (Nat.beq (Nat.mod a 8) 4) (Nat.ble (Nat.mod b 8) 2)) (zif (zand (zykL a) (Nat.beq (Nat.mod b 8) 0)) (zfr false (f (Nat.div a 8) (Nat.div b 8)) (fun v => k w cf y nx ls (v :: r) q fs m)) (k w cf y nx ls (147573952589676412932 :: r) q fs m)) false) t) st
noncomputable def zyo_dup : zyOp := fun nx _ k w cf y _ ls st q fs m => zpop false (fun a _ => zif (z1 a) (k w cf y nx ls (a :: st) q fs m) false) st
noncomputable def zyo_dup2 : zyOp := fun nx _ k w cf y _ ls st q fs m => zpop false (fun a t => zpop false (fun b _ => zif (zand (z1 a) (z1 b)) (k w cf y nx ls (a :: b :: st) q fs m) false) t) st
noncomputable def zyo_pop : zyOp := fun nx _ k w cf y _ ls st q fs m => zpop false (fun a r => zif (z1 a) (k w cf y nx ls r q fs m) false) st
noncomputable def zyo_goto : zyOp := fun _ ax k w cf y _ ls st q fs m => k w cf y ax ls st q fs m
/-- a difference that is now known narrows what was taken away -/
noncomputable def zyeqr (w : zW) (a : Nat) (k : zW → Bool) (F : List zyF) : Bool := List.rec (motive := fun _ => Bool) (k w) (fun f _ ih => zif (zand (Nat.beq f.1 2) (Nat.beq f.2.1 a)) (zbd w a (fun ld hd => zbd w f.2.2.1 (fun lx hx => zbd w f.2.2.2 (fun ly hy => zif (zand (Nat.ble hy (Nat.add lx 2147483648)) (Nat.ble (Nat.add hx 2147483648) (Nat.add ly 4294967295))) (zcut w f.2.2.2 (Nat.sub (Nat.add lx 2147483648) hd) (Nat.sub (Nat.add hx 2147483648) ld) k) (k w))))) ih) F
/-- facts: 20 less, 21 not less, 22 the same, 23 not the same -/
noncomputable def zyo_cmp (g : Bool) (sw tn : Bool) : zyOp := fun nx ax k w cf y _ ls st q fs m => zpop false (fun b t => zpop false (fun a r =>
  zif g (zeq w a b (fun o w2 => zif o (zyeqr w2 a (fun w3 => zif (zif tn false true) (k w3 cf y ax ls r q fs (m.1, (22, 0, a, b) :: m.2)) (k w3 cf y nx ls r q fs (m.1, (22, 0, a, b) :: m.2))) m.2) (zif (zif tn true false) (k w2 cf y ax ls r q fs (m.1, (23, 0, a, b) :: m.2)) (k w2 cf y nx ls r q fs (m.1, (23, 0, a, b) :: m.2)))))
    (zlt w (zif sw b a) (zif sw a b) (fun o w2 => zif (zif tn (zif o false true) o) (k w2 cf y ax ls r q fs (m.1, (zif o 20 21, 0, zif sw b a, zif sw a b) :: m.2)) (k w2 cf y nx ls r q fs (m.1, (zif o 20 21, 0, zif sw b a, zif sw a b) :: m.2))))) t) st
noncomputable def zyo_cmp0 (g : Bool) (sw tn : Bool) : zyOp := fun nx ax k w cf y pc ls st q fs m => zyo_cmp g sw tn nx ax k w cf y pc ls (0 :: st) q fs m
noncomputable def zyo_getf (P : zyP) : zyOp := fun nx ax k w cf y _ ls st q fs m => zpop false (fun a r => zif (Nat.beq (Nat.mod a 8) 3) (zif (Nat.ble 100000 (Nat.div a 8)) (zif (Nat.ble (Nat.succ (Nat.sub (Nat.div a 8) 100000)) zxTn) (zif (Nat.beq ax 832) (zfr false (Nat.add a 800000) (fun v => k w cf y nx ls (v :: r) q fs m)) (zif (Nat.beq ax 833) (k w cf y nx ls (0 :: r) q fs m) false)) false)
  (zget P.1 (Nat.div a 8) (fun c => Prod.rec (motive := fun _ => Bool) (fun tg c2 => zif (Nat.beq tg (Nat.div ax 64)) (Prod.rec (motive := fun _ => Bool) (fun _ rows => zyrd P rows (Nat.div a 8) (Nat.mod ax 64) w m (fun w2 v m2 => k w2 cf y nx ls (v :: r) q fs m2)) c2) false) c))) false) st
/-- may it be put into a field: 0 int, 1 boolean, 2 long, 3 a reference -/
noncomputable def zyfit (w : zW) (g v : Nat) : Bool := zif (Nat.beq g 0) (Nat.ble (Nat.mod v 8) 2) (zif (Nat.beq g 1) (zbd w v (fun lo hi => zand (Nat.ble 2147483648 lo) (Nat.ble hi 2147483649))) (zif (Nat.beq g 2) (Nat.beq (Nat.mod v 8) 4) (zif (Nat.beq g 3) (Nat.beq (Nat.mod v 8) 3) false)))
noncomputable def zyo_putf (P : zyP) : zyOp := fun nx ax k w cf y _ ls st q fs m => zpop false (fun v t => zpop false (fun a r => zif (zand (Nat.beq (Nat.mod a 8) 3) (zand (zyfit w (Nat.mod (zxK ax) 8) v) (zand (Nat.ble (zxK ax) 7) (zand (zyin P.2.2.1 (Nat.div a 8) (Nat.mod ax 64)) (zif (zyin P.2.2.2.1 (Nat.div a 8) (Nat.mod ax 64)) false true)))))
  (zget P.1 (Nat.div a 8) (fun c => Prod.rec (motive := fun _ => Bool) (fun tg _ => zif (Nat.beq tg (Nat.div ax 64)) (zfr false (Nat.add (Nat.mul (Nat.div a 8) 16384) (Nat.mod ax 64)) (fun key => zyput key v m (fun m2 => k w cf y nx ls r q fs m2))) false) c)) false) t) st
noncomputable def zyo_alen (P : zyP) : zyOp := fun nx _ k w cf y _ ls st q fs m => zpop false (fun a r => zif (Nat.beq (Nat.mod a 8) 3)
  (zif (Nat.ble 200000 (Nat.div a 8)) (zif (Nat.ble (Nat.succ (Nat.sub (Nat.div a 8) 200000)) zxTn) (zfr false (Nat.mul 8 (zxTl (Nat.sub (Nat.div a 8) 200000))) (fun v => k w cf y nx ls (v :: r) q fs m)) false) (zget P.1 (Nat.div a 8) (fun c => Prod.rec (motive := fun _ => Bool) (fun tg c2 => zif (zand (Nat.ble 20 tg) (Nat.ble tg 23)) (Prod.rec (motive := fun _ => Bool) (fun ln _ => k w cf y nx ls (Nat.mul 8 ln :: r) q fs m) c2) false) c))) false) st
/-- an index: one int, or bounds (2^31 lower than they are kept) -/
noncomputable def zyidx (P : zyP) (w : zW) (j : Nat) (again : zW → Bool) (k1 : Nat → Bool) (k2 : Nat → Nat → Bool) : Bool :=
  zif (Nat.beq (Nat.mod j 8) 0) (k1 (Nat.div j 8)) (zhalf w j P.2.2.2.2 (zkn w j (zbd w j (fun lo hi => zif (Nat.ble 2147483648 lo) (zfr false (Nat.sub lo 2147483648) (fun l2 => zfr false (Nat.sub hi 2147483648) (fun h2 => k2 l2 h2))) false)) k1) again)
noncomputable def zyo_ald (P : zyP) (k1 k2 : Nat) : zyOp := fun nx _ k w cf y pc ls st q fs m => zpop false (fun j t => zpop false (fun a r => zif (Nat.beq (Nat.mod a 8) 3)
   (zif (Nat.ble 200000 (Nat.div a 8)) (zif (zand (Nat.beq k1 22) (Nat.ble (Nat.succ (Nat.sub (Nat.div a 8) 200000)) zxTn)) (zif (Nat.beq (Nat.mod j 8) 0) (znth (fun c => k w cf y nx ls (Nat.mul 8 c :: r) q fs m) (zxT (Nat.sub (Nat.div a 8) 200000)) (Nat.div j 8)) (zhalf w j 64 (zkn w j false (fun u => znth (fun c => k w cf y nx ls (Nat.mul 8 c :: r) q fs m) (zxT (Nat.sub (Nat.div a 8) 200000)) u)) (fun w2 => k w2 cf y pc ls st q fs m))) false)
   (zget P.1 (Nat.div a 8) (fun c => Prod.rec (motive := fun _ => Bool) (fun tg c2 => zif (zif (Nat.beq tg k1) true (Nat.beq tg k2)) (Prod.rec (motive := fun _ => Bool) (fun ln rows => zyidx P w j (fun w2 => k w2 cf y pc ls st q fs m)
      (fun n => zif (Nat.ble (Nat.succ n) ln) (zyrd P rows (Nat.div a 8) n w m (fun w2 v m2 => k w2 cf y nx ls (v :: r) q fs m2)) false)
      (fun lo hi => zif (Nat.ble (Nat.succ hi) ln) (zfr false (Nat.mul (Nat.div a 8) 16384) (fun base => zyflush w rows lo hi base m.1 (fun u => zyrw (fun v => zfr false (zyrf P w m.2 (Nat.div a 8) lo hi j v) (fun v1 => zynew v1 w (fun w2 v2 => k w2 cf y nx ls (v2 :: r) q fs (u, zif (zand (zyapt P.2.2.1 (Nat.div a 8) lo hi) (Nat.ble (Nat.mod v2 8) 2)) ((24, v2, Nat.div a 8, j) :: m.2) m.2)))) lo hi rows))) false)) c2) false) c))) false) t) st
noncomputable def zyinto (w : zW) (kd v : Nat) (k : Nat → Bool) : Bool :=
  zif (Nat.beq kd 20) (zif (Nat.ble (Nat.mod v 8) 2) (k v) false)
  (zif (Nat.beq kd 21) (zif (Nat.beq (Nat.mod v 8) 4) (k v) false)
  (zif (Nat.beq kd 22) (zif (Nat.beq (Nat.mod v 8) 0) (zfr false (Nat.mul 8 (Int32.ofNat (Nat.div v 8)).toInt8.toInt32.toBitVec.toNat) k) (zbd w v (fun lo hi => zif (zand (Nat.ble 2147483520 lo) (Nat.ble hi 2147483775)) (k v) (k 73786971913971565562))))
  (zif (Nat.beq kd 23) (zbd w v (fun lo hi => zif (zand (Nat.ble 2147483648 lo) (Nat.ble hi 2147483649)) (k v) false)) false)))
noncomputable def zyo_ast (P : zyP) (k1 k2 : Nat) : zyOp := fun nx _ k w cf y pc ls st q fs m => zpop false (fun v t => zpop false (fun j t2 => zpop false (fun a r => zif (Nat.beq (Nat.mod a 8) 3)
    (zget P.1 (Nat.div a 8) (fun c => Prod.rec (motive := fun _ => Bool) (fun tg c2 => zif (zif (Nat.beq tg k1) true (Nat.beq tg k2)) (Prod.rec (motive := fun _ => Bool) (fun ln rows => zyinto w tg v (fun v2 => zyidx P w j (fun w2 => k w2 cf y pc ls st q fs m)
      (fun n => zif (zand (Nat.ble (Nat.succ n) ln) (zand (zyin P.2.2.1 (Nat.div a 8) n) (zif (zyin P.2.2.2.1 (Nat.div a 8) n) false true))) (zfr false (Nat.add (Nat.mul (Nat.div a 8) 16384) n) (fun key => zyput key v2 m (fun m2 => k w cf y nx ls r q fs m2))) false)
      (fun lo hi => zif (zand (Nat.ble (Nat.succ hi) ln) (zand (zycov P.2.2.1 (Nat.div a 8) lo hi) (zand (zyapt P.2.2.2.1 (Nat.div a 8) lo hi) (zyall (fun c => zysub w v2 c) lo hi rows)))) (zfr false (Nat.mul (Nat.div a 8) 16384) (fun base => zyflush w rows lo hi base m.1 (fun u => k w cf y nx ls r q fs (u, m.2)))) false))) c2) false) c)) false) t2) t) st
/-! calls -/
noncomputable def zysubL (w : zW) (as : List Nat) : List Nat → Bool := List.rec (motive := fun _ => List Nat → Bool) (fun cs => List.rec (motive := fun _ => Bool) true (fun _ _ _ => false) cs) (fun a _ ih cs => List.rec (motive := fun _ => Bool) false (fun c t _ => zand (zysub w a c) (ih t)) cs) as
noncomputable def zyfitM (w : zW) (B : zyB) (l : List (Nat × Nat)) : Bool := List.rec (motive := fun _ => Bool) true (fun p _ ih => zand (zget B (Nat.div p.1 16384) (fun c => zyall (fun code => zysub w p.2 code) (Nat.mod p.1 16384) (Nat.mod p.1 16384) c.2.2)) ih) l
noncomputable def zysubF (F : zyR) (f : zyR) : Bool := List.rec (motive := fun _ => Bool) true (fun p _ ih => zand (zycov F p.1 p.2.1 p.2.2) ih) f
noncomputable def zykeep (f : zyR) (l : List (Nat × Nat)) : (List (Nat × Nat) → Bool) → Bool := List.rec (motive := fun _ => (List (Nat × Nat) → Bool) → Bool) (fun k => k []) (fun p _ ih k => zif (zyin f (Nat.div p.1 16384) (Nat.mod p.1 16384)) (ih k) (ih (fun u => k (p :: u)))) l
noncomputable def zylenB (c : zyCl) : Nat := zif (Nat.ble (Nat.succ c.1) 12) (zxCn c.1) c.2.1
/-- elements are as a list of codes says -/
noncomputable def zypre (w : zW) (B : zyB) (m : List (Nat × Nat)) (l : List (Nat × Nat)) : Bool := List.rec (motive := fun _ => Bool) true (fun p _ ih => zand (zget B (Nat.div p.1 16384) (fun c => zif (Nat.ble (Nat.succ (Nat.mod p.1 16384)) (zylenB c)) (zylk (zyrw (fun v => zysub w v p.2) (Nat.mod p.1 16384) (Nat.mod p.1 16384) c.2.2) (fun v => zysub w v p.2) p.1 m) false)) ih) l
noncomputable def zyputs (l : List (Nat × Nat)) : List (Nat × Nat) → (List (Nat × Nat) → Bool) → Bool := List.rec (motive := fun _ => List (Nat × Nat) → (List (Nat × Nat) → Bool) → Bool) (fun u k => k u) (fun p _ ih u k => ih u (fun u2 => zydel p.1 u2 (fun u3 => k (p :: u3)))) l
noncomputable def zyfind (w : zW) (B : zyB) (m : List (Nat × Nat)) (as : List Nat) (j : Bool) (k : zyCt → Bool) (l : List zyCt) : Bool := List.rec (motive := fun _ => Bool) j (fun ct _ ih => zif (zand (zysubL w as ct.1) (zypre w B m ct.2.2.2.2.1)) (k ct) ih) l
noncomputable def zyrcv (B : zyB) (c : Nat) (as : List Nat) (k : Bool) : Bool := zif (Nat.beq c 0) k (zpop false (fun a _ => zif (Nat.beq (Nat.mod a 8) 3) (zif (Nat.ble 100000 (Nat.div a 8)) (zif (zand (Nat.beq c 14) (Nat.ble (Nat.succ (Nat.sub (Nat.div a 8) 100000)) zxTn)) k false) (zget B (Nat.div a 8) (fun x => Prod.rec (motive := fun _ => Bool) (fun tg _ => zif (zand (Nat.beq (Nat.succ tg) c) (Nat.ble (Nat.succ tg) 12)) k false) x))) false) as)
noncomputable def zyag (as : List Nat) : Nat → Nat := List.rec (motive := fun _ => Nat → Nat) (fun _ => 0) (fun a _ ih i => Nat.rec (motive := fun _ => Nat) a (fun j _ => ih j) i) as
noncomputable def zyai (as : List Nat) (i : Nat) : Nat := zif (Nat.ble (Nat.mod (zyag as i) 8) 2) (zyag as i) 0
/-- what a contract's relation may hang on: below 100 the reference's, below 200 the class's plan 1, below 300 its plan 18, else nothing -/
noncomputable def zyFd (id : Nat) : zyR := zif (Nat.ble (Nat.succ id) 100) [(74, 4, 9), (75, 0, 1), (75, 8, 135)] (zif (Nat.ble (Nat.succ id) 200) [(1, 0, 9), (2, 0, 3), (10, 0, 30), (11, 0, 30), (12, 0, 30), (13, 0, 30), (14, 0, 7), (15, 0, 7), (16, 0, 1), (17, 0, 59)]
  (zif (Nat.ble (Nat.succ id) 300) [(18, 0, 9), (19, 0, 3), (27, 0, 30), (28, 0, 30), (29, 0, 30), (30, 0, 30), (31, 0, 7), (32, 0, 7), (33, 0, 1), (34, 0, 59)] []))
noncomputable def zyFo (F : zyR) (l : zyR) : Bool := List.rec (motive := fun _ => Bool) true (fun p _ ih => zand (zyapt F p.1 p.2.1 p.2.2) ih) l
/-- the fact that a relation holds -/
noncomputable def zyff (P : zyP) (id v a b : Nat) (l : List zyF) : List zyF := zif (zand (zyFo P.2.2.1 (zyFd id)) (zand (Nat.ble (Nat.mod a 8) 2) (Nat.ble (Nat.mod b 8) 2))) ((Nat.add 1000 id, v, a, b) :: l) l
/-- by contract; what it answers: nothing; a code; a code and a relation (of the answer to the arguments behind the first); a code, a relation, a key (of an element behind to the same one before; from 300 on it grows by at most so many) -/
noncomputable def zycon (P : zyP) (ct : zyCt) (as : List Nat) (k : zW → List Nat → zyM → Bool) (w : zW) (m : zyM) : Bool :=
  zif (zand (zyfitM w P.1 m.1) (zysubF P.2.2.1 ct.2.1)) (zykeep ct.2.1 m.1 (fun u0 => zyputs ct.2.2.2.2.2 u0 (fun u => List.rec (motive := fun _ => Bool) (k w [] (u, m.2)) (fun c t _ => List.rec (motive := fun _ => Bool) (zynew c w (fun w2 v => k w2 [v] (u, m.2)))
    (fun id t2 _ => List.rec (motive := fun _ => Bool) (zynew c w (fun w2 v => k w2 [v] (u, zyff P id v (zyai as 1) (zyai as 2) m.2)))
      (fun key t3 _ => List.rec (motive := fun _ => Bool) (zylk false (fun old => zif (Nat.ble 300 id) (zbd w old (fun lo hi => zfr false (Nat.add hi (Nat.sub id 300)) (fun h2 => zif (Nat.ble h2 4294967295) (zyfresh w lo h2 (fun w2 v => zydel key u (fun u2 => k w2 [] ((key, v) :: u2, zyff P id v old (zyai as 1) m.2)))) false))) (zynew c w (fun w2 v => zydel key u (fun u2 => k w2 [] ((key, v) :: u2, zyff P id v old (zyai as 1) m.2))))) key m.1) (fun _ _ _ => false) t3) t2) t) ct.2.2.1))) false
noncomputable def zycall (P : zyP) (y2 kd : Nat) : zyOp := fun nx _ k w cf y _ ls st q fs m => zget zKd y2 (fun g => zif (Nat.beq g kd) (zget zxMeta y2 (fun en => Prod.rec (motive := fun _ => Bool) (fun cf2 e2 => Prod.rec (motive := fun _ => Bool) (fun na e3 => Prod.rec (motive := fun _ => Bool) (fun ml e4 => Prod.rec (motive := fun _ => Bool) (fun ow yt => zargs na st [] (fun as r => Prod.rec (motive := fun _ => Bool) (fun d q2 => Prod.rec (motive := fun _ => Bool) (fun nc ns =>
  zif (zand (Nat.ble (zwords r) 8) (zand (Nat.ble 1 d) (zand (Nat.ble (Nat.add nc yt.2.1) y.2.1) (Nat.ble (Nat.add ns yt.2.2.1) y.2.2.1))))
    (zyrcv P.1 (zif (Nat.beq kd 2) 0 (Nat.succ ow)) as
      (zyfind w P.1 m.1 as
        (zpad ml (zexp as) (fun l2 => zfr false (Nat.pred d) (fun d2 => zfr false (Nat.add nc yt.2.1) (fun nc2 => zfr false (Nat.add ns yt.2.2.1) (fun ns2 => k w cf2 yt 0 l2 [] (d2, 0, 0) ((cf, y, nx, ls, r, d, nc2, ns2) :: fs) m)))))
        (fun ct => zif (Nat.ble (Nat.succ ct.2.2.2.1) d) (zfr false (Nat.add nc yt.2.1) (fun nc2 => zfr false (Nat.add ns yt.2.2.1) (fun ns2 => zycon P ct as (fun w2 v m2 => k w2 cf y nx ls (List.rec (motive := fun _ => List Nat) r (fun a _ _ => a :: r) v) (d, nc2, ns2) fs m2) w m))) false) (P.2.1 y2))) false) q2) q)) e4) e3) e2) en)) false)
noncomputable def zyo_inv (P : zyP) : zyOp := fun nx ax => zif (Nat.beq (Nat.mod ax 16) 15) (zyo_no nx ax) (zycall P (Nat.div ax 16) (Nat.div (Nat.mod ax 16) 2) nx ax)
noncomputable def zyback (bt : zW → List Nat → zyM → Bool) (v : List Nat) (k : zyK) (w : zW) (fs : List zFr) (m : zyM) : Bool := List.rec (motive := fun _ => Bool) (bt w v m) (fun fr t _ => Prod.rec (motive := fun _ => Bool) (fun cf f1 => Prod.rec (motive := fun _ => Bool) (fun y f2 => Prod.rec (motive := fun _ => Bool) (fun pc f3 => Prod.rec (motive := fun _ => Bool) (fun ls f4 => Prod.rec (motive := fun _ => Bool) (fun st q => k w cf y pc ls (List.rec (motive := fun _ => List Nat) st (fun a _ _ => a :: st) v) q t m) f4) f3) f2) f1) fr) fs
/-- may a method of this kind answer so: 1 an int, 2 a boolean, 3 a long, 4 a byte, 5 a char -/
noncomputable def zyans (w : zW) (g v : Nat) : Bool := zif (Nat.beq g 1) (Nat.ble (Nat.mod v 8) 2) (zif (Nat.beq g 2) (zbd w v (fun lo hi => zand (Nat.ble 2147483648 lo) (Nat.ble hi 2147483649))) (zif (Nat.beq g 3) (Nat.beq (Nat.mod v 8) 4) (zand (zif (Nat.beq g 4) true (Nat.beq g 5)) (zbd w v (fun lo hi => zand (Nat.ble 2147483648 lo) (Nat.ble hi 2147483775))))))
noncomputable def zyo_ret (bt : zW → List Nat → zyM → Bool) (lg : Bool) : zyOp := fun _ _ k w _ y _ _ st _ fs m => zpop false (fun v r => zpop (zif (zand (zif lg (Nat.beq y.2.2.2.1 3) (zif (Nat.beq y.2.2.2.1 3) false true)) (zyans w y.2.2.2.1 v)) (zyback bt [v] k w fs m) false) (fun _ _ => false) r) st
noncomputable def zyo_retv (bt : zW → List Nat → zyM → Bool) : zyOp := fun _ _ k w _ y _ _ st _ fs m => zpop (zif (Nat.beq y.2.2.2.1 0) (zyback bt [] k w fs m) false) (fun _ _ => false) st
noncomputable def zyo_tab (d lo hi : Int) (offs : Array Int) : zyOp := fun _ _ k w cf y pc ls st q fs m => zpop false (fun v r => zif (zand (decide (0 ≤ lo)) (decide (0 ≤ hi))) (zfr false (lo + 2147483648).toNat (fun l => zfr false (hi + 2147483648).toNat (fun h => zbd w v (fun a b =>
  zif (zif (Nat.ble (Nat.succ b) l) true (Nat.ble (Nat.succ h) a)) (zfr false ((pc : Int) + d).toNat (fun t => zif (decide ((t : Int) = (pc : Int) + d)) (k w cf y t ls r q fs m) false))
  (zif (Nat.ble (Nat.succ a) l) (zand (zcut w v a (Nat.pred l) (fun w2 => k w2 cf y pc ls st q fs m)) (zcut w v l b (fun w2 => k w2 cf y pc ls st q fs m)))
  (zif (Nat.ble (Nat.succ h) b) (zand (zcut w v (Nat.succ h) b (fun w2 => k w2 cf y pc ls st q fs m)) (zcut w v a h (fun w2 => k w2 cf y pc ls st q fs m)))
  (zindex w v (fun w2 => k w2 cf y pc ls st q fs m) (fun u => k w cf y pc ls (Nat.mul 8 u :: r) q fs m) (fun u => zfr false (zb u) (fun c => znth (fun o => zfr false ((pc : Int) + o).toNat (fun t => zif (decide ((t : Int) = (pc : Int) + o)) (k w cf y t ls r q fs m) false)) offs.toList (Nat.sub c l)))))))))) false) st
noncomputable def zyo_look (d : Int) (ps : Array (Int × Int)) : zyOp := fun _ _ k w cf y pc ls st q fs m => zpop false (fun v r => zindex w v (fun w2 => k w2 cf y pc ls st q fs m) (fun u => k w cf y pc ls (Nat.mul 8 u :: r) q fs m) (fun u => zif ((ps.toList.zip (ps.toList.drop 1)).all (fun (a, next) => a.1 < next.1))
  (zfr false ((pc : Int) + Op.lookupswitch.offset ps.toList d (Int32.ofNat u).toInt).toNat (fun t => zif (decide ((t : Int) = (pc : Int) + Op.lookupswitch.offset ps.toList d (Int32.ofNat u).toInt)) (k w cf y t ls r q fs m) false)) false)) st
noncomputable def zyo_ldc : zyOp := fun nx ax k w cf y _ ls st q fs m => zif (Nat.ble ax 4294967295) (zfr false (Nat.mul 8 (zb ax)) (fun v => k w cf y nx ls (v :: st) q fs m)) (zfr false (Nat.add (Nat.mul 8 (Nat.add (Nat.sub ax 4294967296) 100000)) 3) (fun v => k w cf y nx ls (v :: st) q fs m))
noncomputable def zyo_ldc2 : zyOp := fun nx ax k w cf y _ ls st q fs m => zif (Nat.ble ax 18446744073709551615) (zfr false (Nat.add (Nat.mul 8 ax) 4) (fun v => k w cf y nx ls (v :: st) q fs m)) false
noncomputable def zyo_gets : zyOp := fun nx ax k w cf y _ ls st q fs m => zif (Nat.beq ax 1) (k w cf y nx ls (8 :: st) q fs m) (zif (Nat.beq ax 2) (k w cf y nx ls (7 :: st) q fs m) false)
/-- each instruction's part, over closed texts -/
noncomputable def zyop (bt : zW → List Nat → zyM → Bool) (P : zyP) (i : Instr) : zyOp := Instr.rec (motive := fun _ => zyOp)
  zyo_no
  zyo_no
  zyo_no
  (fun i => zyo_load 2 i)
  (fun i => zyo_load 2 i.val)
  (fun _ => zyo_no)
  zyo_no
  (zyo_alen P)
  (fun i => zyo_store 2 i)
  (fun i => zyo_store 2 i.val)
  zyo_no
  (zyo_ald P 22 23)
  (zyo_ast P 22 23)
  (fun n => zyo_push (Nat.mul 8 (Int8.ofInt n).toInt32.toBitVec.toNat))
  zyo_no
  zyo_no
  (fun _ => zyo_no)
  zyo_no
  zyo_no
  zyo_no
  zyo_no
  zyo_no
  zyo_no
  (fun _ => zyo_no)
  (fun _ => zyo_no)
  zyo_no
  (fun _ => zyo_no)
  (fun _ => zyo_no)
  zyo_no
  zyo_no
  zyo_no
  zyo_no
  (fun _ => zyo_no)
  (fun _ => zyo_no)
  zyo_no
  (zyo_dup)
  zyo_no
  zyo_no
  (zyo_dup2)
  zyo_no
  zyo_no
  zyo_no
  zyo_no
  zyo_no
  zyo_no
  zyo_no
  zyo_no
  (fun _ => zyo_no)
  (fun _ => zyo_no)
  zyo_no
  (fun _ => zyo_no)
  (fun _ => zyo_no)
  zyo_no
  zyo_no
  zyo_no
  zyo_no
  (fun _ => zyo_no)
  (fun _ => zyo_no)
  zyo_no
  (fun _ => zyo_getf P)
  (fun _ => zyo_gets)
  (fun _ => zyo_goto)
  (fun _ => zyo_no)
  (zyo_un P (fun u => Nat.mul 8 (Int32.ofNat u).toInt8.toInt32.toBitVec.toNat) 2)
  (zyo_un P (fun u => Nat.mul 8 ((Int32.ofNat u).toUInt32 % 65536).toInt32.toBitVec.toNat) 3)
  zyo_no
  zyo_no
  (zyo_i2l P (fun u => Nat.add (Nat.mul 8 (Int32.ofNat u).toInt64.toBitVec.toNat) 4))
  zyo_no
  (zyo_bin P false zf_add 1)
  (zyo_ald P 20 20)
  (zyo_bin P false zf_and 4)
  (zyo_ast P 20 20)
  (fun n => zyo_push (Nat.mul 8 (Int32.ofInt n).toBitVec.toNat))
  (zyo_bin P true (zf_32 (fun x y => x / y)) 10)
  (fun _ _ => zyo_no)
  (fun c _ => Jvm.ClassFile.Cond.rec (motive := fun _ => zyOp) (zyo_cmp true false false) (zyo_cmp true false true) (zyo_cmp false false false) (zyo_cmp false false true) (zyo_cmp false true false) (zyo_cmp false true true) c)
  (fun c _ => Jvm.ClassFile.Cond.rec (motive := fun _ => zyOp) (zyo_cmp0 true false false) (zyo_cmp0 true false true) (zyo_cmp0 false false false) (zyo_cmp0 false false true) (zyo_cmp0 false true false) (zyo_cmp0 false true true) c)
  (fun _ => zyo_no)
  (fun _ => zyo_no)
  (fun i n => zyo_iinc i (Int32.ofInt n).toBitVec.toNat)
  (fun i => zyo_load 0 i)
  (fun i => zyo_load 0 i.val)
  (zyo_bin P false zf_mul 3)
  (zyo_un P (fun u => Nat.mul 8 (-(Int32.ofNat u)).toBitVec.toNat) 1)
  (fun _ => zyo_no)
  (fun _ => zyo_no)
  (fun _ _ => zyo_no)
  (fun _ => zyo_no)
  (fun _ => zyo_inv P)
  (fun _ => zyo_inv P)
  (zyo_bin P false zf_or 7)
  (zyo_bin P true (zf_32 (fun x y => x - x / y * y)) 5)
  (zyo_ret bt false)
  (zyo_bin P false (zf_32 (fun x y => x <<< (y &&& 31))) 8)
  (zyo_bin P false (zf_32 (fun x y => x >>> (y &&& 31))) 9)
  (fun i => zyo_store 0 i)
  (fun i => zyo_store 0 i.val)
  (zyo_bin P false zf_sub 2)
  zyo_no
  (zyo_bin P false zf_xor 6)
  (fun _ => zyo_no)
  (fun _ => zyo_no)
  zyo_no
  zyo_no
  (zyo_l2i (fun u => Nat.mul 8 (Int64.ofNat u).toInt32.toBitVec.toNat))
  (zyo_lbin false (zf_64 (fun x y => x + y)))
  (zyo_ald P 21 21)
  (zyo_lbin false (zf_64 (fun x y => x &&& y)))
  (zyo_ast P 21 21)
  zyo_lcmp
  (fun n => zyo_push (Nat.add (Nat.mul 8 n.val) 4))
  (fun _ => zyo_ldc)
  (fun _ => zyo_ldc)
  (fun _ => zyo_ldc2)
  (zyo_lbin true (zf_64 (fun x y => x / y)))
  (fun i => zyo_load 1 i)
  (fun i => zyo_load 1 i.val)
  (zyo_lbin false (zf_64 (fun x y => x * y)))
  (zyo_lneg (fun u => Nat.add (Nat.mul 8 (-(Int64.ofNat u)).toBitVec.toNat) 4))
  (zyo_look)
  (zyo_lbin false (zf_64 (fun x y => x ||| y)))
  (zyo_lbin true (zf_64 (fun x y => x - x / y * y)))
  (zyo_ret bt true)
  (zyo_lsh (zf_64s (fun x y => x <<< (y.toInt64 &&& 63))))
  (zyo_lsh (zf_64s (fun x y => x >>> (y.toInt64 &&& 63))))
  (fun i => zyo_store 1 i)
  (fun i => zyo_store 1 i.val)
  (zyo_lbin false (zf_64 (fun x y => x - y)))
  zyo_no
  zyo_no
  zyo_no
  zyo_no
  (fun _ _ => zyo_no)
  (fun _ => zyo_no)
  (fun _ => zyo_no)
  zyo_no
  (zyo_pop)
  zyo_no
  (fun _ => zyo_putf P)
  (fun _ => zyo_no)
  (fun _ => zyo_no)
  (zyo_retv bt)
  zyo_no
  zyo_no
  (fun n => zyo_push (Nat.mul 8 (Int16.ofInt n).toInt32.toBitVec.toNat))
  zyo_no
  (zyo_tab) i
/-- n steps at most; 'stop' says where it may end -/
noncomputable def zyok (bt : zW → List Nat → zyM → Bool) (P : zyP) (stop : zyK) (n : Nat) : zyK := Nat.rec (motive := fun _ => zyK) stop (fun _ k w cf y pc ls st q fs m => zif (stop w cf y pc ls st q fs m) true (Prod.rec (motive := fun _ => Bool) (fun i r => Prod.rec (motive := fun _ => Bool) (fun nx ax => zyop bt P i nx ax k w cf y pc ls st q fs m) r) (cf pc))) n
end
section
/-! WHAT THE SECOND EXECUTOR's VALUES MEAN -/
def zyv (ρ : Nat → Int32) (N : Nat) (ad : Nat → Nat) (v : Nat) (w : Value) : Prop :=
  (zv ρ ad v w ∧ (v % 8 = 1 → v / 34359738368 < N) ∧ (v % 8 = 4 → v / 8 < 18446744073709551616)) ∨ (v % 8 = 4 ∧ 18446744073709551616 ≤ v / 8 ∧ ∃ x : Int64, w = .long x) ∨
  (v % 8 = 6 ∧ (w = .ref (ad (v / 8 % 1048576)) ∨ w = .ref (ad (v / 8 / 1048576))))
theorem zB_add2 {x y : Int32} (h1 : 2147483648 ≤ zB x + zB y) (h2 : zB x + zB y ≤ 6442450943) : zB (x + y) = zB x + zB y - 2147483648 := by
  have e1 := zB_eq x
  have e2 := zB_eq y
  have e3 := zB_eq (x + y)
  rw [zN_add] at e3
  have l1 := x.toBitVec.isLt
  have l2 := y.toBitVec.isLt
  omega
theorem zB_sub2 {x y : Int32} (h1 : zB y ≤ zB x + 2147483648) (h2 : zB x + 2147483648 ≤ zB y + 4294967295) : zB (x - y) = zB x + 2147483648 - zB y := by
  have e1 := zB_eq x
  have e2 := zB_eq y
  have e3 := zB_eq (x - y)
  rw [zN_sub] at e3
  have l1 := x.toBitVec.isLt
  have l2 := y.toBitVec.isLt
  omega
/-- an int that isn't below 0, by its number -/
theorem zyp {x : Int32} (h : 2147483648 ≤ zB x) : x = nI x.toBitVec.toNat ∧ x.toBitVec.toNat < 2147483648 ∧ zB x = x.toBitVec.toNat + 2147483648 := by
  have e1 := zB_eq x
  have l1 := x.toBitVec.isLt
  exact ⟨(zN_self x).symm, by omega, by omega⟩
theorem zB_nI {n : Nat} (h : n < 2147483648) : zB (nI n) = n + 2147483648 := by
  show zB (Int32.ofNat n) = _
  rw [zB_of, zb_def]
  omega
theorem zysh0 : ∀ k, k < 32 → ((nI k &&& 31).toBitVec.smod 32).toNat = k := by decide +kernel
theorem zysh (y : Int32) : ∃ k, k < 32 ∧ y &&& 31 = nI k &&& 31 ∧ k = y.toBitVec.toNat % 32 := by
  refine ⟨y.toBitVec.toNat % 32, Nat.mod_lt _ (by decide), ?_, rfl⟩
  apply zN_inj
  rw [zN_and, zN_and]
  have e : (31 : Int32).toBitVec.toNat = 2 ^ 5 - 1 := by decide
  rw [e, Nat.and_two_pow_sub_one_eq_mod, Nat.and_two_pow_sub_one_eq_mod]
  show _ = (Int32.ofNat _).toBitVec.toNat % 32
  rw [zN_of]
  omega
def zyG (g : Nat) (x y : Int32) : Int32 := match g with
  | 1 => x + y
  | 2 => x - y
  | 3 => x * y
  | 4 => x &&& y
  | 5 => x - x / y * y
  | 6 => x ^^^ y
  | 7 => x ||| y
  | 8 => x <<< (y &&& 31)
  | 9 => x >>> (y &&& 31)
  | 10 => x / y
  | 11 => -x
  | _ => 0
def zyItv (g : Nat) : Prop := ∀ (x y : Int32) (la ha lb hb : Nat) (k : Nat → Nat → Bool), zyitv g la ha lb hb k = true → la ≤ zB x → zB x ≤ ha → lb ≤ zB y → zB y ≤ hb → (g = 5 ∨ g = 10 → ¬ y = 0) ∧ ∃ lo hi, lo ≤ zB (zyG g x y) ∧ zB (zyG g x y) ≤ hi ∧ k lo hi = true
theorem zyfull (z : Int32) : 0 ≤ zB z ∧ zB z ≤ 4294967295 := ⟨Nat.zero_le _, by have := zB_lt z; omega⟩
theorem zyItv_1 : zyItv 1 := by
  intro x y la ha lb hb k h a1 a2 b1 b2
  refine ⟨fun z => by omega, ?_⟩
  have h : zif (zand (Nat.ble 2147483648 (la + lb)) (Nat.ble (ha + hb) 6442450943)) (zfr false (la + lb - 2147483648) (fun lo => zfr false (ha + hb - 2147483648) (fun hi => k lo hi))) (k 0 4294967295) = true := h
  simp only [zfr_eq] at h
  rcases zif_iff h with ⟨h1, h2⟩ | ⟨-, h2⟩
  · obtain ⟨g1, g2⟩ := zand_iff h1
    have g1 := zbleT g1
    have g2 := zbleT g2
    have e := zB_add2 (x := x) (y := y) (by omega) (by omega)
    have e' : zB (zyG 1 x y) = zB x + zB y - 2147483648 := e
    exact ⟨_, _, by omega, by omega, h2⟩
  · exact ⟨_, _, (zyfull _).1, (zyfull _).2, h2⟩
theorem zyItv_2 : zyItv 2 := by
  intro x y la ha lb hb k h a1 a2 b1 b2
  refine ⟨fun z => by omega, ?_⟩
  have h : zif (zand (Nat.ble hb (la + 2147483648)) (Nat.ble (ha + 2147483648) (lb + 4294967295))) (zfr false (la + 2147483648 - hb) (fun lo => zfr false (ha + 2147483648 - lb) (fun hi => k lo hi))) (k 0 4294967295) = true := h
  simp only [zfr_eq] at h
  rcases zif_iff h with ⟨h1, h2⟩ | ⟨-, h2⟩
  · obtain ⟨g1, g2⟩ := zand_iff h1
    have g1 := zbleT g1
    have g2 := zbleT g2
    have e : zB (zyG 2 x y) = zB x + 2147483648 - zB y := zB_sub2 (x := x) (y := y) (by omega) (by omega)
    exact ⟨_, _, by omega, by omega, h2⟩
  · exact ⟨_, _, (zyfull _).1, (zyfull _).2, h2⟩
theorem zymulI {x y : Int32} (h : (x.toInt * y.toInt).natAbs ≤ 2147483647) : (x * y).toInt = x.toInt * y.toInt := by
  rw [Int32.toInt_mul]
  apply Int.bmod_eq_of_le
  · omega
  · omega
theorem zyItv_3 : zyItv 3 := by
  intro x y la ha lb hb k h a1 a2 b1 b2
  refine ⟨fun z => by omega, ?_⟩
  unfold zyitv at h
  rw [show Nat.beq 3 1 = false from rfl, zif_f, show Nat.beq 3 2 = false from rfl, zif_f, show Nat.beq 3 3 = true from rfl, zif_t] at h
  simp only [zfr_eq, zn_u, zn_s, zn_a, zn_x] at h
  have bx := zB_int x
  have by' := zB_int y
  have bz := zB_int (x * y)
  rcases zif_iff h with ⟨h1, h2⟩ | ⟨-, h2⟩
  · obtain ⟨g1, g2⟩ := zand_iff h1
    obtain ⟨g2, g3⟩ := zand_iff g2
    have g1 := zbleT g1
    have g2 := zbleT g2
    have g3 := zbleT g3
    have m1 : (la - 2147483648) * (lb - 2147483648) ≤ (zB x - 2147483648) * (zB y - 2147483648) := Nat.mul_le_mul (by omega) (by omega)
    have m2 : (zB x - 2147483648) * (zB y - 2147483648) ≤ (ha - 2147483648) * (hb - 2147483648) := Nat.mul_le_mul (by omega) (by omega)
    have ex : x.toInt = ((zB x - 2147483648 : Nat) : Int) := by omega
    have ey : y.toInt = ((zB y - 2147483648 : Nat) : Int) := by omega
    have em : x.toInt * y.toInt = (((zB x - 2147483648) * (zB y - 2147483648) : Nat) : Int) := by rw [ex, ey]; exact (Int.natCast_mul _ _).symm
    have e := zymulI (x := x) (y := y) (by rw [em]; omega)
    have e' : zB (zyG 3 x y) = (zB x - 2147483648) * (zB y - 2147483648) + 2147483648 := by
      show zB (x * y) = _
      omega
    exact ⟨_, _, by omega, by omega, h2⟩
  · rcases zif_iff h2 with ⟨h3, h4⟩ | ⟨-, h4⟩
    · have h3 := zbleT h3
      have key : ∀ (z : Int32) (l u : Nat), l ≤ zB z → zB z ≤ u → z.toInt.natAbs ≤ max (u - 2147483648) (2147483648 - l) := by
        intro z l u z1 z2
        have z3 := zB_int z
        by_cases z4 : 0 ≤ z.toInt
        · exact Nat.le_trans (show z.toInt.natAbs ≤ u - 2147483648 by omega) (Nat.le_max_left _ _)
        · exact Nat.le_trans (show z.toInt.natAbs ≤ 2147483648 - l by omega) (Nat.le_max_right _ _)
      have n1 := key x la ha a1 a2
      have n2 := key y lb hb b1 b2
      have n3 : (x.toInt * y.toInt).natAbs ≤ max (ha - 2147483648) (2147483648 - la) * max (hb - 2147483648) (2147483648 - lb) := by
        rw [Int.natAbs_mul]
        exact Nat.mul_le_mul n1 n2
      have e := zymulI (x := x) (y := y) (by omega)
      have e' : (zB (zyG 3 x y) : Int) = x.toInt * y.toInt + 2147483648 := by
        show (zB (x * y) : Int) = _
        omega
      generalize max (ha - 2147483648) (2147483648 - la) * max (hb - 2147483648) (2147483648 - lb) = M at *
      generalize x.toInt * y.toInt = Z at *
      exact ⟨_, _, by omega, by omega, h4⟩
    · exact ⟨_, _, (zyfull _).1, (zyfull _).2, h4⟩
theorem zyItv_4 : zyItv 4 := by
  intro x y la ha lb hb k h a1 a2 b1 b2
  refine ⟨fun z => by omega, ?_⟩
  have h : zif (Nat.ble 2147483648 lb) (zif (Nat.ble 2147483648 la) (zfr false (min ha hb) (fun hi => k 2147483648 hi)) (k 2147483648 hb)) (zif (Nat.ble 2147483648 la) (k 2147483648 ha) (k 0 4294967295)) = true := h
  simp only [zfr_eq] at h
  have hx : 2147483648 ≤ zB x → 2147483648 ≤ zB (zyG 4 x y) ∧ zB (zyG 4 x y) ≤ zB x := by
    intro hx
    obtain ⟨-, p2, p3⟩ := zyp hx
    have hl : (x &&& y).toBitVec.toNat ≤ x.toBitVec.toNat := by rw [zN_and]; exact Nat.and_le_left
    have e := zB_eq (x &&& y)
    show 2147483648 ≤ zB (x &&& y) ∧ zB (x &&& y) ≤ _
    omega
  have hy : 2147483648 ≤ zB y → 2147483648 ≤ zB (zyG 4 x y) ∧ zB (zyG 4 x y) ≤ zB y := by
    intro hy
    obtain ⟨-, p2, p3⟩ := zyp hy
    have hl : (x &&& y).toBitVec.toNat ≤ y.toBitVec.toNat := by rw [zN_and]; exact Nat.and_le_right
    have e := zB_eq (x &&& y)
    show 2147483648 ≤ zB (x &&& y) ∧ zB (x &&& y) ≤ _
    omega
  rcases zif_iff h with ⟨h1, h2⟩ | ⟨-, h2⟩
  · have h1 := zbleT h1
    have q := hy (by omega)
    rcases zif_iff h2 with ⟨h3, h4⟩ | ⟨-, h4⟩
    · have h3 := zbleT h3
      have q2 := hx (by omega)
      exact ⟨_, _, q.1, by omega, h4⟩
    · exact ⟨_, _, q.1, by omega, h4⟩
  · rcases zif_iff h2 with ⟨h3, h4⟩ | ⟨-, h4⟩
    · have h3 := zbleT h3
      have q2 := hx (by omega)
      exact ⟨_, _, q2.1, by omega, h4⟩
    · exact ⟨_, _, (zyfull _).1, (zyfull _).2, h4⟩
theorem zyne {y : Int32} (h : ¬ zB y = 2147483648) : ¬ y = 0 := fun z => h (by rw [z]; decide)
theorem zyremI {x y : Int32} (h : 2147483649 ≤ zB y) : (x - x / y * y).toInt = x.toInt.tmod y.toInt := by
  have bx := zB_int x
  have by' := zB_int y
  have lx := zB_lt x
  have ly := zB_lt y
  have hneg : x.toInt < 0 → x.toInt.tdiv y.toInt ≤ 0 := by
    intro z
    have q := Int.tdiv_nonneg (a := -x.toInt) (b := y.toInt) (by omega) (by omega)
    rw [Int.neg_tdiv] at q
    omega
  have q := Int.natAbs_tdiv_le_natAbs x.toInt y.toInt
  have hd : (x / y).toInt = x.toInt.tdiv y.toInt := by
    rw [Int32.toInt_div]
    apply Int.bmod_eq_of_le
    · omega
    · by_cases hx : x.toInt < 0
      · have := hneg hx
        omega
      · omega
  have key := Int.tmod_add_tdiv_mul x.toInt y.toInt
  have hm : (x.toInt.tdiv y.toInt * y.toInt).natAbs ≤ x.toInt.natAbs := by
    rw [Int.natAbs_mul, Int.natAbs_tdiv]
    exact Nat.div_mul_le_self _ _
  have hp : (x / y * y).toInt = x.toInt.tdiv y.toInt * y.toInt := by
    rw [Int32.toInt_mul, hd]
    apply Int.bmod_eq_of_le
    · omega
    · by_cases hx : x.toInt < 0
      · have q4 : x.toInt.tdiv y.toInt * y.toInt ≤ 0 := Int.mul_nonpos_of_nonpos_of_nonneg (hneg hx) (by omega)
        omega
      · omega
  rw [Int32.toInt_sub, hp]
  have e : x.toInt - x.toInt.tdiv y.toInt * y.toInt = x.toInt.tmod y.toInt := by omega
  rw [e]
  have b : (x.toInt.tmod y.toInt).natAbs < y.toInt.natAbs := by
    rw [Int.natAbs_tmod]
    exact Nat.mod_lt _ (by omega)
  apply Int.bmod_eq_of_le
  · omega
  · omega
theorem zyItv_5 : zyItv 5 := by
  intro x y la ha lb hb k h a1 a2 b1 b2
  have h : zif (Nat.ble 2147483649 lb) (zif (Nat.ble 2147483648 la) (zfr false (min ha (hb - 1)) (fun hi => k 2147483648 hi)) (zif (Nat.ble ha 2147483648) (zfr false (4294967297 - hb) (fun lo => k lo 2147483648)) (zfr false (4294967297 - hb) (fun lo => zfr false (hb - 1) (fun hi => k lo hi))))) (zif (Nat.ble hb 2147483647) (k 0 4294967295) false) = true := h
  simp only [zfr_eq] at h
  have bx := zB_int x
  have by' := zB_int y
  rcases zif_iff h with ⟨h1, h2⟩ | ⟨-, h2⟩
  · have h1 := zbleT h1
    refine ⟨fun _ => zyne (by omega), ?_⟩
    have e := zyremI (x := x) (y := y) (by omega)
    have bz := zB_int (x - x / y * y)
    have b : (x.toInt.tmod y.toInt).natAbs < y.toInt.natAbs := by
      rw [Int.natAbs_tmod]
      exact Nat.mod_lt _ (by omega)
    rcases zif_iff h2 with ⟨h3, h4⟩ | ⟨-, h4⟩
    · have h3 := zbleT h3
      have p1 : 0 ≤ x.toInt.tmod y.toInt := Int.tmod_nonneg _ (by omega)
      have p2 : (x.toInt.tmod y.toInt).natAbs ≤ x.toInt.natAbs := by
        rw [Int.natAbs_tmod]
        exact Nat.mod_le _ _
      refine ⟨_, _, ?_, ?_, h4⟩
      · show 2147483648 ≤ zB (x - x / y * y)
        omega
      · show zB (x - x / y * y) ≤ _
        omega
    · rcases zif_iff h4 with ⟨h5, h6⟩ | ⟨-, h6⟩
      · have h5 := zbleT h5
        have p1 : 0 ≤ (-x.toInt).tmod y.toInt := Int.tmod_nonneg _ (by omega)
        rw [Int.neg_tmod] at p1
        refine ⟨_, _, ?_, ?_, h6⟩
        · show _ ≤ zB (x - x / y * y)
          omega
        · show zB (x - x / y * y) ≤ _
          omega
      · refine ⟨_, _, ?_, ?_, h6⟩
        · show _ ≤ zB (x - x / y * y)
          omega
        · show zB (x - x / y * y) ≤ _
          omega
  · rcases zif_iff h2 with ⟨h3, h4⟩ | ⟨-, h4⟩
    · have h3 := zbleT h3
      exact ⟨fun _ => zyne (by omega), _, _, (zyfull _).1, (zyfull _).2, h4⟩
    · cases h4
theorem zyItv_6 : zyItv 6 := by
  intro x y la ha lb hb k h a1 a2 b1 b2
  refine ⟨fun z => by omega, ?_⟩
  have h : zif (zand (Nat.ble 2147483648 la) (Nat.ble 2147483648 lb)) (k 2147483648 4294967295) (zif (zand (Nat.ble ha 2147483647) (Nat.ble 2147483648 lb)) (k 0 2147483647) (k 0 4294967295)) = true := h
  rcases zif_iff h with ⟨h1, h2⟩ | ⟨-, h2⟩
  · obtain ⟨g1, g2⟩ := zand_iff h1
    have g1 := zbleT g1
    have g2 := zbleT g2
    obtain ⟨-, p1, -⟩ := zyp (x := x) (by omega)
    obtain ⟨-, p2, -⟩ := zyp (x := y) (by omega)
    have hlt : (x ^^^ y).toBitVec.toNat < 2 ^ 31 := by
      rw [zN_xor]
      exact Nat.xor_lt_two_pow (by omega) (by omega)
    have e := zB_eq (x ^^^ y)
    refine ⟨_, _, ?_, (zyfull _).2, h2⟩
    show 2147483648 ≤ zB (x ^^^ y)
    omega
  · rcases zif_iff h2 with ⟨h3, h4⟩ | ⟨-, h4⟩
    · obtain ⟨g1, g2⟩ := zand_iff h3
      have g1 := zbleT g1
      have g2 := zbleT g2
      obtain ⟨-, p2, -⟩ := zyp (x := y) (by omega)
      have ex := zB_eq x
      have lx := x.toBitVec.isLt
      have hx1 : x.toBitVec.toNat.testBit 31 = true := by
        rw [Nat.testBit_eq_decide_div_mod_eq, decide_eq_true_eq]
        omega
      have hy1 : y.toBitVec.toNat.testBit 31 = false := Nat.testBit_lt_two_pow (by omega)
      have hz1 : (x ^^^ y).toBitVec.toNat.testBit 31 = true := by rw [zN_xor, Nat.testBit_xor, hx1, hy1]; rfl
      have hz2 := Nat.ge_two_pow_of_testBit hz1
      have e := zB_eq (x ^^^ y)
      have lz := (x ^^^ y).toBitVec.isLt
      refine ⟨_, _, (zyfull _).1, ?_, h4⟩
      show zB (x ^^^ y) ≤ 2147483647
      omega
    · exact ⟨_, _, (zyfull _).1, (zyfull _).2, h4⟩
theorem zyItv_7 : zyItv 7 := by
  intro x y la ha lb hb k h a1 a2 b1 b2
  refine ⟨fun z => by omega, ?_⟩
  have h : zif (zand (Nat.ble 2147483648 la) (Nat.ble 2147483648 lb)) (zfr false (2147483647 + 2 ^ (Nat.log2 (max ha hb - 2147483648) + 1)) (fun hi => zif (Nat.ble hi 4294967295) (k 2147483648 hi) (k 2147483648 4294967295))) (k 0 4294967295) = true := h
  simp only [zfr_eq] at h
  rcases zif_iff h with ⟨h1, h2⟩ | ⟨-, h2⟩
  · obtain ⟨g1, g2⟩ := zand_iff h1
    have g1 := zbleT g1
    have g2 := zbleT g2
    obtain ⟨-, p1, p1'⟩ := zyp (x := x) (by omega)
    obtain ⟨-, p2, p2'⟩ := zyp (x := y) (by omega)
    have hlt : (x ||| y).toBitVec.toNat < 2 ^ 31 := by
      rw [zN_or]
      exact Nat.or_lt_two_pow (by omega) (by omega)
    have l2 := Nat.lt_log2_self (n := max ha hb - 2147483648)
    have hlt2 : (x ||| y).toBitVec.toNat < 2 ^ (Nat.log2 (max ha hb - 2147483648) + 1) := by
      rw [zN_or]
      exact Nat.or_lt_two_pow (by omega) (by omega)
    have e := zB_eq (x ||| y)
    have q1 : 2147483648 ≤ zB (zyG 7 x y) := by
      show 2147483648 ≤ zB (x ||| y)
      omega
    rcases zif_iff h2 with ⟨h3, h4⟩ | ⟨-, h4⟩
    · refine ⟨_, _, q1, ?_, h4⟩
      show zB (x ||| y) ≤ _
      omega
    · exact ⟨_, _, q1, (zyfull _).2, h4⟩
  · exact ⟨_, _, (zyfull _).1, (zyfull _).2, h2⟩
theorem zyItv_8 : zyItv 8 := by
  intro x y la ha lb hb k h a1 a2 b1 b2
  refine ⟨fun z => by omega, ?_⟩
  have h : zif (zand (Nat.ble 2147483648 la) (zand (Nat.ble 2147483648 lb) (zand (Nat.ble hb 2147483679) (Nat.ble ((ha - 2147483648) * 2 ^ (hb - 2147483648)) 2147483647)))) (zfr false (2147483648 + (la - 2147483648) * 2 ^ (lb - 2147483648)) (fun lo => zfr false (2147483648 + (ha - 2147483648) * 2 ^ (hb - 2147483648)) (fun hi => k lo hi))) (k 0 4294967295) = true := h
  simp only [zfr_eq] at h
  rcases zif_iff h with ⟨h1, h2⟩ | ⟨-, h2⟩
  · obtain ⟨g1, g2⟩ := zand_iff h1
    obtain ⟨g2, g3⟩ := zand_iff g2
    obtain ⟨g3, g4⟩ := zand_iff g3
    have g1 := zbleT g1
    have g2 := zbleT g2
    have g3 := zbleT g3
    have g4 := zbleT g4
    obtain ⟨ex, p1, p1'⟩ := zyp (x := x) (by omega)
    obtain ⟨ey, p2, p2'⟩ := zyp (x := y) (by omega)
    obtain ⟨j, hj, e1, e2⟩ := zysh y
    have ej : j = zB y - 2147483648 := by omega
    have m1 : (la - 2147483648) * 2 ^ (lb - 2147483648) ≤ x.toBitVec.toNat * 2 ^ j := Nat.mul_le_mul (by omega) (Nat.pow_le_pow_right (by decide) (by omega))
    have m2 : x.toBitVec.toNat * 2 ^ j ≤ (ha - 2147483648) * 2 ^ (hb - 2147483648) := Nat.mul_le_mul (by omega) (Nat.pow_le_pow_right (by decide) (by omega))
    have e3 : zyG 8 x y = nI (x.toBitVec.toNat * 2 ^ j) := by
      show x <<< (y &&& 31) = _
      rw [e1]
      have q := pk_shlN (n := x.toBitVec.toNat) (nI j &&& 31) j (zysh0 j hj) (by omega)
      rw [← ex] at q
      exact q
    have e4 : zB (zyG 8 x y) = x.toBitVec.toNat * 2 ^ j + 2147483648 := by rw [e3]; exact zB_nI (by omega)
    exact ⟨_, _, by omega, by omega, h2⟩
  · exact ⟨_, _, (zyfull _).1, (zyfull _).2, h2⟩
theorem zyItv_9 : zyItv 9 := by
  intro x y la ha lb hb k h a1 a2 b1 b2
  refine ⟨fun z => by omega, ?_⟩
  have h : zif (Nat.ble 2147483648 la) (zif (zand (Nat.ble 2147483648 lb) (Nat.ble hb 2147483679)) (zfr false (2147483648 + (ha - 2147483648) / 2 ^ (lb - 2147483648)) (fun hi => k 2147483648 hi)) (k 2147483648 ha)) (k 0 4294967295) = true := h
  simp only [zfr_eq] at h
  rcases zif_iff h with ⟨h1, h2⟩ | ⟨-, h2⟩
  · have g1 := zbleT h1
    obtain ⟨ex, p1, p1'⟩ := zyp (x := x) (by omega)
    obtain ⟨j, hj, e1, e2⟩ := zysh y
    have e3 : zyG 9 x y = nI (x.toBitVec.toNat / 2 ^ j) := by
      show x >>> (y &&& 31) = _
      rw [e1]
      have q := pk_shrN (n := x.toBitVec.toNat) (by omega) (nI j &&& 31) j (zysh0 j hj)
      rw [← ex] at q
      exact q
    have l1 : x.toBitVec.toNat / 2 ^ j ≤ x.toBitVec.toNat := Nat.div_le_self _ _
    have e4 : zB (zyG 9 x y) = x.toBitVec.toNat / 2 ^ j + 2147483648 := by rw [e3]; exact zB_nI (by omega)
    rcases zif_iff h2 with ⟨h3, h4⟩ | ⟨-, h4⟩
    · obtain ⟨g2, g3⟩ := zand_iff h3
      have g2 := zbleT g2
      have g3 := zbleT g3
      obtain ⟨ey, p2, p2'⟩ := zyp (x := y) (by omega)
      have l2 : x.toBitVec.toNat / 2 ^ j ≤ (ha - 2147483648) / 2 ^ (lb - 2147483648) := Nat.div_le_div (by omega) (Nat.pow_le_pow_right (by decide) (by omega)) (Nat.ne_of_gt (Nat.two_pow_pos _))
      refine ⟨_, _, ?_, ?_, h4⟩
      · rw [e4]; exact Nat.le_add_left _ _
      · rw [e4, Nat.add_comm]; exact Nat.add_le_add_left l2 _
    · refine ⟨_, _, ?_, ?_, h4⟩
      · rw [e4]; exact Nat.le_add_left _ _
      · rw [e4]
        exact Nat.le_trans (Nat.add_le_add_right l1 _) (by omega)
  · exact ⟨_, _, (zyfull _).1, (zyfull _).2, h2⟩
theorem zyItv_10 : zyItv 10 := by
  intro x y la ha lb hb k h a1 a2 b1 b2
  have h : zif (Nat.ble 2147483649 lb) (zif (Nat.ble 2147483648 la) (zfr false (2147483648 + (la - 2147483648) / (hb - 2147483648)) (fun lo => zfr false (2147483648 + (ha - 2147483648) / (lb - 2147483648)) (fun hi => k lo hi))) (k 0 4294967295)) (zif (Nat.ble hb 2147483647) (k 0 4294967295) false) = true := h
  simp only [zfr_eq] at h
  rcases zif_iff h with ⟨h1, h2⟩ | ⟨-, h2⟩
  · have h1 := zbleT h1
    refine ⟨fun _ => zyne (by omega), ?_⟩
    rcases zif_iff h2 with ⟨h3, h4⟩ | ⟨-, h4⟩
    · have h3 := zbleT h3
      obtain ⟨ex, p1, p1'⟩ := zyp (x := x) (by omega)
      obtain ⟨ey, p2, p2'⟩ := zyp (x := y) (by omega)
      have e3 : zyG 10 x y = nI (x.toBitVec.toNat / y.toBitVec.toNat) := by
        show x / y = _
        have q := pk_div (a := x.toBitVec.toNat) (d := y.toBitVec.toNat) (by omega) (by omega) (by omega)
        rw [← ex, ← ey] at q
        exact q
      have l1 : x.toBitVec.toNat / y.toBitVec.toNat ≤ x.toBitVec.toNat := Nat.div_le_self _ _
      have e4 : zB (zyG 10 x y) = x.toBitVec.toNat / y.toBitVec.toNat + 2147483648 := by rw [e3]; exact zB_nI (by omega)
      have l2 : x.toBitVec.toNat / y.toBitVec.toNat ≤ (ha - 2147483648) / (lb - 2147483648) := Nat.div_le_div (by omega) (by omega) (by omega)
      have l3 : (la - 2147483648) / (hb - 2147483648) ≤ x.toBitVec.toNat / y.toBitVec.toNat := Nat.div_le_div (by omega) (by omega) (by omega)
      exact ⟨_, _, by omega, by omega, h4⟩
    · exact ⟨_, _, (zyfull _).1, (zyfull _).2, h4⟩
  · rcases zif_iff h2 with ⟨h3, h4⟩ | ⟨-, h4⟩
    · have h3 := zbleT h3
      exact ⟨fun _ => zyne (by omega), _, _, (zyfull _).1, (zyfull _).2, h4⟩
    · cases h4
end
section
section ZYV
variable {ρ : Nat → Int32} {N : Nat} {ad : Nat → Nat}
theorem zyv_zv {v : Nat} {w : Value} (h : zyv ρ N ad v w) (h4 : ¬ v % 8 = 4) (h6 : ¬ v % 8 = 6) : zv ρ ad v w := by
  rcases h with ⟨h, -⟩ | ⟨h, -⟩ | ⟨h, -⟩
  · exact h
  · exact absurd h h4
  · exact absurd h h6
theorem zyv_int {v : Nat} {w : Value} (h : zyv ρ N ad v w) (hk : v % 8 ≤ 2) : ∃ x : Int32, w = .int x := zv_int (zyv_zv h (by omega) (by omega)) hk
theorem zyv_0 {v : Nat} {w : Value} (h : zyv ρ N ad v w) (hk : v % 8 = 0) : w = .int (Int32.ofNat (v / 8)) := zv_0 (zyv_zv h (by omega) (by omega)) hk
theorem zyv_3 {v : Nat} {w : Value} (h : zyv ρ N ad v w) (hk : v % 8 = 3) : w = .ref (ad (v / 8)) := zv_3 (zyv_zv h (by omega) (by omega)) hk
theorem zyv_4 {v : Nat} {w : Value} (h : zyv ρ N ad v w) (hk : v % 8 = 4) : ∃ x : Int64, w = .long x ∧ (v / 8 < 18446744073709551616 → x = Int64.ofNat (v / 8)) := by
  rcases h with ⟨h, -⟩ | ⟨-, h2, x, h3⟩ | ⟨h, -⟩
  · exact ⟨_, zv_4 h hk, fun _ => rfl⟩
  · exact ⟨x, h3, fun q => by omega⟩
  · omega
theorem zyv_c {v : Nat} {w : Value} (h : zv ρ ad v w) (h1 : ¬ v % 8 = 1) (h4 : ¬ v % 8 = 4) : zyv ρ N ad v w := Or.inl ⟨h, fun q => absurd q h1, fun q => absurd q h4⟩
theorem zyv_mk {u : Nat} {x : Int32} (h : Int32.ofNat u = x) : zyv ρ N ad (8 * u) (.int x) := zyv_c (zv_mk h) (by omega) (by omega)
theorem zyv_mkx (x : Int32) : zyv ρ N ad (8 * x.toBitVec.toNat) (.int x) := zyv_mk (zN_self x)
theorem zyv_mkl {u : Nat} {x : Int64} (h : Int64.ofNat u = x) (hu : u < 18446744073709551616) : zyv ρ N ad (8 * u + 4) (.long x) := Or.inl ⟨zv_mkl h, fun q => by omega, fun _ => by omega⟩
theorem zyv_mklx (x : Int64) : zyv ρ N ad (8 * x.toBitVec.toNat + 4) (.long x) := zyv_mkl (zL_self x) x.toBitVec.isLt
theorem zyv_ref (p : Nat) : zyv ρ N ad (8 * p + 3) (.ref (ad p)) := zyv_c (zv_ref p) (by omega) (by omega)
theorem zyv_anyL (x : Int64) : zyv ρ N ad 147573952589676412932 (.long x) := Or.inr (Or.inl ⟨by decide, by decide, x, rfl⟩)
theorem zyv_zero : zyv ρ N ad 0 (.int 0) := zyv_mk (u := 0) rfl
theorem zyv_bd {lo hi : Nat} {x : Int32} (h1 : lo ≤ zB x) (h2 : zB x ≤ hi) (h3 : hi < 4294967296) : zyv ρ N ad (8 * (lo * 4294967296 + hi) + 2) (.int x) := zyv_c (zv_bd h1 h2 h3) (by omega) (by omega)
theorem zyv_cat {v : Nat} {w : Value} (h : zyv ρ N ad v w) : w.category = if v % 8 = 4 then 2 else 1 := by
  rcases h with ⟨h, -⟩ | ⟨h1, -, x, h3⟩ | ⟨h1, h2⟩
  · exact zv_cat h
  · rw [h3, if_pos h1]; rfl
  · rw [if_neg (by omega)]
    rcases h2 with h2 | h2 <;> rw [h2] <;> rfl
/-- more symbols -/
theorem zyv_up {ρ2 : Nat → Int32} {N2 v : Nat} {w : Value} (h : zyv ρ N ad v w) (hr : ∀ k, k < N → ρ2 k = ρ k) (hN : N ≤ N2) : zyv ρ2 N2 ad v w := by
  rcases h with ⟨h, h1, h4⟩ | h | h
  · refine Or.inl ⟨?_, fun q => Nat.lt_of_lt_of_le (h1 q) hN, h4⟩
    rcases h with h | ⟨g1, g2⟩ | h | h | h | h | h
    · exact Or.inl h
    · refine Or.inr (Or.inl ⟨g1, ?_⟩)
      rw [hr _ (h1 g1)]
      exact g2
    · exact Or.inr (Or.inr (Or.inl h))
    · exact Or.inr (Or.inr (Or.inr (Or.inl h)))
    · exact Or.inr (Or.inr (Or.inr (Or.inr (Or.inl h))))
    · exact Or.inr (Or.inr (Or.inr (Or.inr (Or.inr (Or.inl h)))))
    · exact Or.inr (Or.inr (Or.inr (Or.inr (Or.inr (Or.inr h)))))
  · exact Or.inr (Or.inl h)
  · exact Or.inr (Or.inr h)
/-- no symbol in it -/
theorem zyv_cl {ρ2 : Nat → Int32} {N2 v : Nat} {w : Value} (hc : ¬ v % 8 = 1) (h : zyv ρ N ad v w) : zyv ρ2 N2 ad v w := by
  rcases h with ⟨h, h1, h4⟩ | h | h
  · refine Or.inl ⟨?_, fun q => absurd q hc, h4⟩
    rcases h with h | ⟨g1, g2⟩ | h | h | h | h | h
    · exact Or.inl h
    · exact absurd g1 hc
    · exact Or.inr (Or.inr (Or.inl h))
    · exact Or.inr (Or.inr (Or.inr (Or.inl h)))
    · exact Or.inr (Or.inr (Or.inr (Or.inr (Or.inl h))))
    · exact Or.inr (Or.inr (Or.inr (Or.inr (Or.inr (Or.inl h)))))
    · exact Or.inr (Or.inr (Or.inr (Or.inr (Or.inr (Or.inr h)))))
  · exact Or.inr (Or.inl h)
  · exact Or.inr (Or.inr h)
def zyρ2 (ρ : Nat → Int32) (N : Nat) (x : Int32) : Nat → Int32 := fun j => if j = N then x else ρ j
theorem zyρ2_lt {x : Int32} {k : Nat} (h : k < N) : zyρ2 ρ N x k = ρ k := if_neg (by omega)
theorem zyv_new (x : Int32) : zyv (zyρ2 ρ N x) (N + 1) ad (N * 34359738368 + 1) (.int x) := by
  refine Or.inl ⟨Or.inr (Or.inl ⟨by omega, ?_⟩), fun _ => by omega, fun q => by omega⟩
  have e5 : (N * 34359738368 + 1) / 34359738368 = N := by omega
  have e6 : (N * 34359738368 + 1) / 8 % 4294967296 = 0 := by omega
  rw [e5, e6]
  congr 1
  show x = (if N = N then x else ρ N) + 0
  rw [if_pos rfl, Int32.add_zero]
theorem zyaff_ok {a u : Nat} {x : Int32} (h : a % 8 = 1) (ha : zyv ρ N ad a (.int x)) : zyv ρ N ad (zaff a u) (.int (x + Int32.ofNat u)) := by
  rcases ha with ⟨g1, g2, -⟩ | ⟨g, -⟩ | ⟨g, -⟩
  · have d : zaff a u = 8 * (a / 34359738368 * 4294967296 + (a / 8 % 4294967296 + u) % 4294967296) + 1 := rfl
    have q := zaff_ok (u := u) h g1
    have g3 := g2 h
    refine Or.inl ⟨q, fun _ => by omega, fun z => by omega⟩
  · omega
  · omega
theorem zybd_k {w : zW} {v : Nat} {k : Nat → Nat → Bool} (h : zbd w v k = true) : v % 8 ≤ 2 := by
  unfold zbd at h
  simp only [zn_m] at h
  rcases zif_iff h with ⟨h1, -⟩ | ⟨-, h2⟩
  · have := zbeqT h1
    omega
  rcases zif_iff h2 with ⟨h1, -⟩ | ⟨-, h2⟩
  · have := zbeqT h1
    omega
  rcases zif_iff h2 with ⟨h1, -⟩ | ⟨-, h2⟩
  · have := zbeqT h1
    omega
  · cases h2
theorem zybd_iff {w : zW} {v : Nat} {k : Nat → Nat → Bool} {x' : Value} (h : zbd w v k = true) (hE : zEnv ρ w.2) (hv : zyv ρ N ad v x') : ∃ (x : Int32) (lo hi : Nat), x' = .int x ∧ lo ≤ zB x ∧ zB x ≤ hi ∧ k lo hi = true := by
  have q := zybd_k h
  exact zbd_iff h hE (zyv_zv hv (by omega) (by omega))
theorem zycut_iff {w : zW} {v lo hi : Nat} {k : zW → Bool} {x : Int32} (h : zcut w v lo hi k = true) (hE : zEnv ρ w.2) (hv : zyv ρ N ad v (.int x)) (h1 : lo ≤ zB x) (h2 : zB x ≤ hi) : ∃ w2 : zW, w2.1 = w.1 ∧ zEnv ρ w2.2 ∧ k w2 = true := by
  have hz : zv ρ ad v (.int x) := by
    rcases hv with ⟨g, -⟩ | ⟨-, -, z, g⟩ | ⟨-, g⟩
    · exact g
    · cases g
    · rcases g with g | g <;> cases g
  exact zcut_iff h hE hz h1 h2
theorem zylt_iff {w : zW} {a b : Nat} {k : Bool → zW → Bool} {x' y' : Value} (h : zlt w a b k = true) (hE : zEnv ρ w.2) (ha : zyv ρ N ad a x') (hb : zyv ρ N ad b y') : ∃ (x y : Int32), x' = .int x ∧ y' = .int y ∧ ((x < y ∧ ∃ w2 : zW, w2.1 = w.1 ∧ zEnv ρ w2.2 ∧ k true w2 = true) ∨ (¬ x < y ∧ ∃ w2 : zW, w2.1 = w.1 ∧ zEnv ρ w2.2 ∧ k false w2 = true)) := by
  have h0 := h
  unfold zlt at h0
  have q := zybd_k h0
  obtain ⟨x, lo, hi, -, -, -, h1⟩ := zybd_iff h0 hE ha
  have q2 := zybd_k h1
  exact zlt_iff h hE (zyv_zv ha (by omega) (by omega)) (zyv_zv hb (by omega) (by omega))
theorem zyeq_iff {w : zW} {a b : Nat} {k : Bool → zW → Bool} {x' y' : Value} (h : zeq w a b k = true) (hE : zEnv ρ w.2) (ha : zyv ρ N ad a x') (hb : zyv ρ N ad b y') : ∃ (x y : Int32), x' = .int x ∧ y' = .int y ∧ ((x = y ∧ ∃ w2 : zW, w2.1 = w.1 ∧ zEnv ρ w2.2 ∧ k true w2 = true) ∨ (¬ x = y ∧ ∃ w2 : zW, w2.1 = w.1 ∧ zEnv ρ w2.2 ∧ k false w2 = true)) := by
  have h0 := h
  unfold zeq at h0
  have q := zybd_k h0
  obtain ⟨x, lo, hi, -, -, -, h1⟩ := zybd_iff h0 hE ha
  have q2 := zybd_k h1
  exact zeq_iff h hE (zyv_zv ha (by omega) (by omega)) (zyv_zv hb (by omega) (by omega))
theorem zykn_iff {w : zW} {v : Nat} {j : Bool} {k : Nat → Bool} {x' : Value} (h : zkn w v j k = true) (hE : zEnv ρ w.2) (hv : zyv ρ N ad v x') : (∃ u : Nat, x' = .int (Int32.ofNat u) ∧ k u = true) ∨ j = true := by
  by_cases hk : v % 8 = 4 ∨ v % 8 = 6
  · unfold zkn at h
    simp only [zn_m] at h
    rcases zif_iff h with ⟨h1, -⟩ | ⟨-, h2⟩
    · have := zbeqT h1
      omega
    rcases zif_iff h2 with ⟨h1, -⟩ | ⟨-, h2⟩
    · have := zbeqT h1
      omega
    exact Or.inr h2
  · exact zkn_iff h hE (zyv_zv hv (by omega) (by omega))
theorem zyhalf_iff {w : zW} {v n : Nat} {j : Bool} {k : zW → Bool} {x' : Value} (h : zhalf w v n j k = true) (hE : zEnv ρ w.2) (hv : zyv ρ N ad v x') : (∃ w2 : zW, w2.1 = w.1 ∧ zEnv ρ w2.2 ∧ k w2 = true) ∨ j = true := by
  by_cases hk : v % 8 = 4 ∨ v % 8 = 6
  · unfold zhalf at h
    simp only [zn_m] at h
    rcases zif_iff h with ⟨h1, -⟩ | ⟨-, h2⟩
    · have := zbeqT h1
      omega
    exact Or.inr h2
  · exact zhalf_iff h hE (zyv_zv hv (by omega) (by omega))
theorem zyindex_iff {w : zW} {j : Nat} {again : zW → Bool} {put k2 : Nat → Bool} {x' : Value} (h : zindex w j again put k2 = true) (hE : zEnv ρ w.2) (hv : zyv ρ N ad j x') :
    (∃ w2 : zW, w2.1 = w.1 ∧ zEnv ρ w2.2 ∧ again w2 = true) ∨ (∃ u : Nat, x' = .int (Int32.ofNat u) ∧ put u = true) ∨ ∃ u : Nat, x' = .int (Int32.ofNat u) ∧ k2 u = true := by
  by_cases hk : j % 8 = 4 ∨ j % 8 = 6
  · unfold zindex at h
    simp only [zn_m, zn_d, zn_c, zn_s] at h
    rcases zif_iff h with ⟨h1, -⟩ | ⟨-, h⟩
    · have := zbeqT h1
      omega
    rcases zyhalf_iff h hE hv with h | h
    · exact Or.inl h
    rcases zykn_iff h hE hv with ⟨u, e1, h⟩ | h
    · exact Or.inr (Or.inr ⟨u, e1, h⟩)
    rcases zif_iff h with ⟨h2, -⟩ | ⟨-, h⟩
    · have := zbeqT h2
      omega
    · cases h
  · exact zindex_iff h hE (zyv_zv hv (by omega) (by omega))
theorem zyapp_iff {x : Nat × Nat} : ∀ {l : List (Nat × Nat)} {i : Nat} {k : Nat → List (Nat × Nat) → Bool}, zyapp x l i k = k (i + l.length) (l ++ [x]) := by
  intro l
  induction l with
  | nil => intro i k; rfl
  | cons a t ih =>
    intro i k
    have e : zyapp x (a :: t) i k = zyapp x t (i + 1) (fun j u => k j (a :: u)) := rfl
    rw [e, ih, List.length_cons, List.cons_append, Nat.add_assoc, Nat.add_comm 1]
theorem zyfresh_iff {w : zW} {lo hi : Nat} {k : zW → Nat → Bool} (h : zyfresh w lo hi k = true) (hE : zEnv ρ w.2) (hN : w.1 = N) {x : Int32} (h1 : lo ≤ zB x) (h2 : zB x ≤ hi) : zEnv (zyρ2 ρ N x) (w.2 ++ [(lo, hi)]) ∧ k (N + 1, w.2 ++ [(lo, hi)]) (N * 34359738368 + 1) = true := by
  unfold zyfresh at h
  rw [zyapp_iff] at h
  simp only [zfr_eq, Nat.zero_add, zn_c, zn_a, zn_u] at h
  rcases zif_iff h with ⟨h3, h4⟩ | ⟨-, h4⟩
  · have e := zbeqT h3
    rw [hN] at e
    rw [e] at h4
    refine ⟨fun j p hp => ?_, h4⟩
    by_cases hj : j < w.2.length
    · rw [List.getElem?_append_left hj] at hp
      rw [zyρ2_lt (by omega)]
      exact hE j p hp
    · have hj2 : j < (w.2 ++ [(lo, hi)]).length := (List.getElem?_eq_some_iff.mp hp).1
      rw [List.length_append, List.length_singleton] at hj2
      have ej : j = w.2.length := by omega
      rw [ej, List.getElem?_append_right (Nat.le_refl _), Nat.sub_self] at hp
      cases hp
      have e2 : zyρ2 ρ N x j = x := if_pos (by omega)
      rw [e2]
      exact ⟨h1, h2⟩
  · cases h4
/-- the code says all that the value may be, whatever the symbols are -/
theorem zysub_iff {w : zW} {v code : Nat} {x : Value} {ρ2 : Nat → Int32} {N2 : Nat} (h : zysub w v code = true) (hE : zEnv ρ w.2) (hv : zyv ρ N ad v x) : ¬ code % 8 = 1 ∧ zyv ρ2 N2 ad code x := by
  unfold zysub at h
  simp only [zn_m, zn_d, zn_a, zn_u] at h
  rcases zif_iff h with ⟨h1, h⟩ | ⟨h1, h⟩
  · have e1 := zbeqT h1
    obtain ⟨n, lo, hi, rfl, b1, b2, h⟩ := zybd_iff h hE hv
    obtain ⟨g1, g2⟩ := zand_iff h
    have g1 := zbleT g1
    have g2 := zbleT g2
    exact ⟨by omega, zyv_c (Or.inr (Or.inr (Or.inl ⟨e1, n, rfl, by omega, by omega⟩))) (by omega) (by omega)⟩
  rcases zif_iff h with ⟨h2, h⟩ | ⟨h2, h⟩
  · obtain ⟨g1, g2⟩ := zand_iff h2
    have g1 := zbeqT g1
    obtain ⟨z, hz, -⟩ := zyv_4 hv (zbeqT h)
    exact ⟨by omega, Or.inr (Or.inl ⟨g1, zbleT g2, z, hz⟩)⟩
  rcases zif_iff h with ⟨h3, h⟩ | ⟨h3, h⟩
  · have e3 := zbeqT h3
    refine ⟨by omega, ?_⟩
    rcases zif_iff h with ⟨h4, -⟩ | ⟨-, h⟩
    · have e4 := zbeqT h4
      have q := zyv_3 hv (by omega)
      exact Or.inr (Or.inr ⟨e3, Or.inl (by rw [q, e4]; congr 2; omega)⟩)
    rcases zif_iff h with ⟨h4, -⟩ | ⟨-, h⟩
    · have e4 := zbeqT h4
      have q := zyv_3 hv (by omega)
      exact Or.inr (Or.inr ⟨e3, Or.inr (by rw [q, e4]; congr 2; omega)⟩)
    · have e4 := zbeqT h
      rw [← e4]
      exact zyv_cl (by omega) hv
  rcases zif_iff h with ⟨-, h⟩ | ⟨h4, h⟩
  · cases h
  · have e4 := zbeqF h4
    have e5 := zbeqT h
    rw [← e5] at e4 ⊢
    exact ⟨e4, zyv_cl e4 hv⟩
end ZYV
end
section
/-! THE MACHINE's SIDE of the second executor. X: the context as before, the symbols' ints, how many there are, those at the frame's entry, how many, what stood where at the entry, what holds of the whole beside -/
abbrev zyEm : Type := Nat → Nat → Option Value
abbrev zyJt : Type := (zyEm → Prop) × (Nat → zyEm → Int32 → Int32 → Int32 → Prop)
abbrev zyX : Type := zCx × (Nat → Int32) × Nat × (Nat → Int32) × Nat × ((Nat → Nat → Option Value) × (Nat → Option Cell)) × zyJt
abbrev zyb (X : zyX) : zCx := X.1
abbrev zyρ (X : zyX) : Nat → Int32 := X.2.1
abbrev zyN (X : zyX) : Nat := X.2.2.1
abbrev zyρ0 (X : zyX) : Nat → Int32 := X.2.2.2.1
abbrev zyN0 (X : zyX) : Nat := X.2.2.2.2.1
abbrev zyE (X : zyX) : Nat → Nat → Option Value := X.2.2.2.2.2.1.1
abbrev zyHE (X : zyX) : Nat → Option Cell := X.2.2.2.2.2.1.2
abbrev zyJ (X : zyX) : zyJt := X.2.2.2.2.2.2
def zyre (X : zyX) (ρ : Nat → Int32) (N : Nat) : zyX := (X.1, ρ, N, X.2.2.2)
abbrev zyV (X : zyX) (v : Nat) (w : Value) : Prop := zyv (zyρ X) (zyN X) (zad (zyb X)) v w
/-- stacks -/
def zySt (X : zyX) : List Nat → List Value → Prop
  | [], [] => True
  | a :: s, b :: t => zyV X a b ∧ zySt X s t
  | [], _ :: _ => False
  | _ :: _, [] => False
theorem zySt_c {X : zyX} {a : Nat} {s : List Nat} {q : List Value} (h : zySt X (a :: s) q) : ∃ b t, q = b :: t ∧ zyV X a b ∧ zySt X s t := by
  cases q with
  | nil => exact h.elim
  | cons b t => exact ⟨b, t, rfl, h.1, h.2⟩
theorem zySt_n {X : zyX} {q : List Value} (h : zySt X [] q) : q = [] := by
  cases q with
  | nil => rfl
  | cons b t => exact h.elim
theorem zySt_words {X : zyX} : ∀ {s : List Nat} {q : List Value}, zySt X s q → (q.map fun v => v.category).sum = zwords s := by
  intro s
  induction s with
  | nil => intro q h; rw [zySt_n h]; rfl
  | cons a s ih =>
    intro q h
    obtain ⟨b, t, rfl, h1, h2⟩ := zySt_c h
    have e : zwords (a :: s) = Nat.add (zif (Nat.beq (Nat.mod a 8) 4) 2 1) (zwords s) := rfl
    rw [List.map_cons, List.sum_cons, ih h2, zyv_cat h1, e]
    cases hb : Nat.beq (Nat.mod a 8) 4 with
    | true =>
      have hb' : a % 8 = 4 := zbeqT hb
      rw [if_pos hb']; rfl
    | false =>
      have hb' : ¬ a % 8 = 4 := zbeqF hb
      rw [if_neg hb']; rfl
theorem zySt_len {X : zyX} : ∀ {s : List Nat} {q : List Value}, zySt X s q → q.length = s.length := by
  intro s
  induction s with
  | nil => intro q h; rw [zySt_n h]; rfl
  | cons a s ih =>
    intro q h
    obtain ⟨b, t, rfl, h1, h2⟩ := zySt_c h
    rw [List.length_cons, List.length_cons, ih h2]
theorem zySt_app {X : zyX} : ∀ {s1 s2 : List Nat} {q1 q2 : List Value}, zySt X s1 q1 → zySt X s2 q2 → zySt X (s1 ++ s2) (q1 ++ q2) := by
  intro s1
  induction s1 with
  | nil => intro s2 q1 q2 h1 h2; rw [zySt_n h1]; exact h2
  | cons a s ih =>
    intro s2 q1 q2 h1 h2
    obtain ⟨b, t, rfl, h3, h4⟩ := zySt_c h1
    exact ⟨h3, ih h4 h2⟩
/-- locals -/
def zyLs (X : zyX) (nL : Nat) (ls : List Nat) (lsA : Array Slot) : Prop := ls.length = nL ∧ lsA.size = nL ∧ lv_wf lsA ∧ ∀ (i c : Nat), ls[i]? = some c → ¬ c = 13 → ∃ w, lsA[i]? = some (.val w) ∧ zyV X c w
theorem zylv_has {X : zyX} {nL : Nat} {ls : List Nat} {lsA : Array Slot} (h : zyLs X nL ls lsA) : lv_has lsA nL (zlv lsA) := ⟨h.2.1, h.2.2.1, fun q hq => zlv_mem.mp hq⟩
theorem zyLs_1 {X : zyX} {nL i v : Nat} {w : Value} {ls : List Nat} {lsA lsB : Array Slot} (h : zyLs X nL ls lsA) (hv : zyV X v w) (hlow : ∀ j c, j + 1 = i → ls[j]? = some c → ¬ c % 8 = 4)
    (hl : lv_has lsB nL ((i, w) :: (zlv lsA).filter (fun q => !(q.1 == i) && !(q.1 + 1 == i && q.2.category == 2)))) : zyLs X nL (ls.set i v) lsB := by
  obtain ⟨h1, h2, h3, h4⟩ := h
  obtain ⟨g1, g2, g3⟩ := hl
  refine ⟨by rw [List.length_set]; exact h1, g1, g2, fun j c hc hn => ?_⟩
  by_cases e : j = i
  · subst e
    have hj : j < ls.length := by
      have := (List.getElem?_eq_some_iff.mp hc).1
      rwa [List.length_set] at this
    rw [List.getElem?_set_self hj] at hc
    cases hc
    exact ⟨w, g3 (j, w) List.mem_cons_self, hv⟩
  · rw [List.getElem?_set_ne (fun q => e q.symm)] at hc
    obtain ⟨u, hu, hz⟩ := h4 j c hc hn
    refine ⟨u, g3 (j, u) (List.mem_cons_of_mem _ (List.mem_filter.mpr ⟨zlv_mem.mpr hu, ?_⟩)), hz⟩
    have n1 : (j == i) = false := by simpa using e
    have n2 : (j + 1 == i && u.category == 2) = false := by
      by_cases q : j + 1 = i
      · have : u.category = 1 := by rw [zyv_cat hz, if_neg (hlow j c q hc)]
        rw [this]; simp
      · have : (j + 1 == i) = false := by simpa using q
        rw [this]; rfl
    show (!(j == i) && !(j + 1 == i && u.category == 2)) = true
    rw [n1, n2]; rfl
theorem zyLs_2 {X : zyX} {nL i v : Nat} {w : Value} {ls : List Nat} {lsA lsB : Array Slot} (h : zyLs X nL ls lsA) (hv : zyV X v w) (hlow : ∀ j c, j + 1 = i → ls[j]? = some c → ¬ c % 8 = 4)
    (hl : lv_has lsB nL ((i, w) :: (zlv lsA).filter (fun q => !(q.1 == i) && (!(q.1 == i + 1) && !(q.1 + 1 == i && q.2.category == 2))))) : zyLs X nL ((ls.set i v).set (i + 1) 13) lsB := by
  obtain ⟨h1, h2, h3, h4⟩ := h
  obtain ⟨g1, g2, g3⟩ := hl
  refine ⟨by rw [List.length_set, List.length_set]; exact h1, g1, g2, fun j c hc hn => ?_⟩
  by_cases e2 : j = i + 1
  · subst e2
    have hj : i + 1 < (ls.set i v).length := by
      have := (List.getElem?_eq_some_iff.mp hc).1
      rwa [List.length_set] at this
    rw [List.getElem?_set_self hj] at hc
    cases hc
    exact absurd rfl hn
  rw [List.getElem?_set_ne (fun q => e2 q.symm)] at hc
  by_cases e : j = i
  · subst e
    have hj : j < ls.length := by
      have := (List.getElem?_eq_some_iff.mp hc).1
      rwa [List.length_set] at this
    rw [List.getElem?_set_self hj] at hc
    cases hc
    exact ⟨w, g3 (j, w) List.mem_cons_self, hv⟩
  · rw [List.getElem?_set_ne (fun q => e q.symm)] at hc
    obtain ⟨u, hu, hz⟩ := h4 j c hc hn
    refine ⟨u, g3 (j, u) (List.mem_cons_of_mem _ (List.mem_filter.mpr ⟨zlv_mem.mpr hu, ?_⟩)), hz⟩
    have n1 : (j == i) = false := by simpa using e
    have n3 : (j == i + 1) = false := by simpa using e2
    have n2 : (j + 1 == i && u.category == 2) = false := by
      by_cases q : j + 1 = i
      · have : u.category = 1 := by rw [zyv_cat hz, if_neg (hlow j c q hc)]
        rw [this]; simp
      · have : (j + 1 == i) = false := by simpa using q
        rw [this]; rfl
    show (!(j == i) && (!(j == i + 1) && !(j + 1 == i && u.category == 2))) = true
    rw [n1, n2, n3]; rfl
/-- memory -/
noncomputable def zyLen (c : zyCl) : Nat := if c.1 < 12 then zxCn c.1 else c.2.1
/-- what stands at a place's index -/
noncomputable def zyEl (B : zyB) (X : zCx) (H : Heap) (a k : Nat) : Option Value := match zG B a with
  | none => none
  | some c => if k < zyLen c then H[zad X a]?.bind (fun cell => cell.slots[if c.1 < 12 then zdI X c.1 k else k]?) else none
def zySh (X : zCx) (U : State) (a : Nat) (c : zyCl) (H : Heap) : Prop :=
  (c.1 < 12 ∧ ∃ cell : Cell, H[zad X a]? = some cell ∧ cell.cls = zdC X c.1 ∧ cell.vm = .none) ∨ (∃ (ty : FieldType) (cA : ClassId) (f : Nat → Value), zty c.1 = some ty ∧ H[zad X a]? = some (arrV cA c.2.1 f) ∧ ArrOfT U cA ty ∧ c.2.1 ≤ 16384)
noncomputable def zyl (l : List (Nat × Nat)) (key : Nat) : Option Nat := zylk none some key l
theorem zylk_eq {β : Type} {j : β} {f : Nat → β} {key : Nat} : ∀ {l : List (Nat × Nat)}, zylk j f key l = match zyl l key with
    | some v => f v
    | none => j := by
  intro l
  induction l with
  | nil => rfl
  | cons p t ih =>
    have e1 : zylk j f key (p :: t) = zif (Nat.beq p.1 key) (f p.2) (zylk j f key t) := rfl
    have e2 : zyl (p :: t) key = zif (Nat.beq p.1 key) (some p.2) (zyl t key) := rfl
    rw [e1, e2]
    cases Nat.beq p.1 key with
    | true => rfl
    | false => exact ih
theorem zyl_c (p : Nat × Nat) (t : List (Nat × Nat)) (key : Nat) : zyl (p :: t) key = if p.1 = key then some p.2 else zyl t key := by
  have e2 : zyl (p :: t) key = zif (Nat.beq p.1 key) (some p.2) (zyl t key) := rfl
  rw [e2]
  cases hb : Nat.beq p.1 key with
  | true => rw [if_pos (zbeqT hb)]; rfl
  | false => rw [if_neg (zbeqF hb)]; rfl
/-- an element as the base and what is known beyond it tell -/
def zyEt (X : zyX) (c : zyCl) (m : List (Nat × Nat)) (a k : Nat) (w : Value) : Prop := match zyl m (a * 16384 + k) with
  | some v => zyV X v w
  | none => ∀ r ∈ c.2.2, r.1 ≤ k → k ≤ r.2.1 → ¬ r.2.2 % 8 = 1 ∧ zyV X r.2.2 w
def zyMem (P : zyP) (X : zyX) (U : State) (m : List (Nat × Nat)) (H : Heap) : Prop :=
  (∀ a c, zG P.1 a = some c → a < 90000 ∧ zySh (zyb X) U a c H) ∧ (∀ a c k, zG P.1 a = some c → k < zyLen c → ∃ w, zyEl P.1 (zyb X) H a k = some w ∧ zyEt X c m a k w) ∧
  (∀ a k, zyin P.2.2.1 a k = false → zyEl P.1 (zyb X) H a k = zyE X a k) ∧ (zyJ X).1 (zyEl P.1 (zyb X) H) ∧ (∀ q, q < zbs (zyb X) → H[q]? = (zH0 (zyb X))[q]?) ∧ ∀ q, (∀ a c, zG P.1 a = some c → ¬ q = zad (zyb X) a) → H[q]? = zyHE X q
/-- a fact -/
def zyFm (X : zyX) (f : zyF) : Prop :=
  if f.1 = 24 then ∃ (z : Int32) (j : Nat), zyV X f.2.1 (.int z) ∧ zyV X f.2.2.2 (.int (Int32.ofNat j)) ∧ j < 2147483648 ∧ zyE X f.2.2.1 j = some (.int z)
  else if f.1 < 12 then ∃ x y z : Int32, zyV X f.2.1 (.int z) ∧ zyV X f.2.2.1 (.int x) ∧ zyV X f.2.2.2 (.int y) ∧ z = zyG f.1 x y
  else if f.1 < 1000 then ∃ x y : Int32, zyV X f.2.2.1 (.int x) ∧ zyV X f.2.2.2 (.int y) ∧ (f.1 = 20 → x < y) ∧ (f.1 = 21 → ¬ x < y) ∧ (f.1 = 22 → x = y) ∧ (f.1 = 23 → ¬ x = y)
  else ∃ x y z : Int32, zyV X f.2.1 (.int z) ∧ zyV X f.2.2.1 (.int x) ∧ zyV X f.2.2.2 (.int y) ∧ (zyJ X).2 (f.1 - 1000) (zyE X) x y z
def zyXt (X : zyX) : Prop := zyN0 X ≤ zyN X ∧ ∀ k, k < zyN0 X → zyρ X k = zyρ0 X k
theorem zySh.moved {X : zCx} {u U : State} {a : Nat} {c : zyCl} {H : Heap} (hvm : u.vm.Alike U.vm) (h : zySh X u a c H) : zySh X U a c H := by
  rcases h with h | ⟨ty, cA, f, h1, h2, h3, h4⟩
  · exact Or.inl h
  · exact Or.inr ⟨ty, cA, f, h1, h2, arrOfT_moved hvm h3, h4⟩
theorem zyMem.moved {P : zyP} {X : zyX} {u U : State} {m : List (Nat × Nat)} {H : Heap} (hvm : u.vm.Alike U.vm) (h : zyMem P X u m H) : zyMem P X U m H := ⟨fun a c h1 => ⟨(h.1 a c h1).1, (h.1 a c h1).2.moved hvm⟩, h.2⟩
theorem zyEt.up {X : zyX} {ρ2 : Nat → Int32} {N2 : Nat} {c : zyCl} {m : List (Nat × Nat)} {a k : Nat} {w : Value} (hN : zyN X ≤ N2) (hr : ∀ k, k < zyN X → ρ2 k = zyρ X k) (h : zyEt X c m a k w) : zyEt (zyre X ρ2 N2) c m a k w := by
  unfold zyEt at h ⊢
  cases hl : zyl m (a * 16384 + k) with
  | some v => rw [hl] at h; exact zyv_up h hr hN
  | none => rw [hl] at h; exact fun r h1 h2 h3 => ⟨(h r h1 h2 h3).1, zyv_up (h r h1 h2 h3).2 hr hN⟩
theorem zyMem.up {P : zyP} {X : zyX} {ρ2 : Nat → Int32} {N2 : Nat} {U : State} {m : List (Nat × Nat)} {H : Heap} (hN : zyN X ≤ N2) (hr : ∀ k, k < zyN X → ρ2 k = zyρ X k) (h : zyMem P X U m H) : zyMem P (zyre X ρ2 N2) U m H :=
  ⟨h.1, fun a c k h1 h2 => by
    obtain ⟨w, g1, g2⟩ := h.2.1 a c k h1 h2
    exact ⟨w, g1, g2.up hN hr⟩, h.2.2⟩
theorem zyFm.up {X : zyX} {ρ2 : Nat → Int32} {N2 : Nat} {f : zyF} (hN : zyN X ≤ N2) (hr : ∀ k, k < zyN X → ρ2 k = zyρ X k) (h : zyFm X f) : zyFm (zyre X ρ2 N2) f := by
  unfold zyFm at h ⊢
  split at h
  · obtain ⟨z, j, h1, h2, h3⟩ := h
    rw [if_pos (by assumption)]
    exact ⟨z, j, zyv_up h1 hr hN, zyv_up h2 hr hN, h3⟩
  · rw [if_neg (by assumption)]
    split at h
    · obtain ⟨x, y, z, h1, h2, h3, h4⟩ := h
      rw [if_pos (by assumption)]
      exact ⟨x, y, z, zyv_up h1 hr hN, zyv_up h2 hr hN, zyv_up h3 hr hN, h4⟩
    · rw [if_neg (by assumption)]
      split at h
      · obtain ⟨x, y, h1, h2, h3⟩ := h
        rw [if_pos (by assumption)]
        exact ⟨x, y, zyv_up h1 hr hN, zyv_up h2 hr hN, h3⟩
      · obtain ⟨x, y, z, h1, h2, h3, h4⟩ := h
        rw [if_neg (by assumption)]
        exact ⟨x, y, z, zyv_up h1 hr hN, zyv_up h2 hr hN, zyv_up h3 hr hN, h4⟩
theorem zySt.up {X : zyX} {ρ2 : Nat → Int32} {N2 : Nat} (hN : zyN X ≤ N2) (hr : ∀ k, k < zyN X → ρ2 k = zyρ X k) : ∀ {s : List Nat} {q : List Value}, zySt X s q → zySt (zyre X ρ2 N2) s q := by
  intro s
  induction s with
  | nil => intro q h; rw [zySt_n h]; trivial
  | cons a s ih =>
    intro q h
    obtain ⟨b, t, rfl, h1, h2⟩ := zySt_c h
    exact ⟨zyv_up h1 hr hN, ih h2⟩
theorem zyLs.up {X : zyX} {ρ2 : Nat → Int32} {N2 nL : Nat} {ls : List Nat} {lsA : Array Slot} (hN : zyN X ≤ N2) (hr : ∀ k, k < zyN X → ρ2 k = zyρ X k) (h : zyLs X nL ls lsA) : zyLs (zyre X ρ2 N2) nL ls lsA :=
  ⟨h.1, h.2.1, h.2.2.1, fun i c h1 h2 => by
    obtain ⟨w, g1, g2⟩ := h.2.2.2 i c h1 h2
    exact ⟨w, g1, zyv_up g2 hr hN⟩⟩
/-- lists -/
theorem zyrem_l {key k2 : Nat} : ∀ {l : List (Nat × Nat)}, zyl (l.filter (fun p => !(Nat.beq p.1 key))) k2 = if k2 = key then none else zyl l k2 := by
  intro l
  induction l with
  | nil => split <;> rfl
  | cons p t ih =>
    cases hb : Nat.beq p.1 key with
    | true =>
      have e := zbeqT hb
      rw [List.filter_cons_of_neg (by rw [hb]; decide), ih, zyl_c]
      by_cases q : k2 = key
      · rw [if_pos q, if_pos q]
      · rw [if_neg q, if_neg q, if_neg (by omega)]
    | false =>
      have e := zbeqF hb
      rw [List.filter_cons_of_pos (by rw [hb]; decide), zyl_c, zyl_c, ih]
      by_cases q : p.1 = k2
      · rw [if_pos q, if_pos q, if_neg (by omega)]
      · rw [if_neg q, if_neg q]
theorem zydel_eq {key : Nat} : ∀ {l : List (Nat × Nat)} {k : List (Nat × Nat) → Bool}, zydel key l k = k (l.filter (fun p => !(Nat.beq p.1 key))) := by
  intro l
  induction l with
  | nil => intro k; rfl
  | cons p t ih =>
    intro k
    have e : zydel key (p :: t) k = zif (Nat.beq p.1 key) (zydel key t k) (zydel key t (fun u => k (p :: u))) := rfl
    rw [e]
    cases hb : Nat.beq p.1 key with
    | true => rw [zif_t, ih, List.filter_cons_of_neg (by rw [hb]; decide)]
    | false => rw [zif_f, ih, List.filter_cons_of_pos (by rw [hb]; decide)]
def zyset (key v : Nat) (l : List (Nat × Nat)) : List (Nat × Nat) := (key, v) :: l.filter (fun p => !(Nat.beq p.1 key))
theorem zyput_eq {key v : Nat} {m : zyM} {k : zyM → Bool} : zyput key v m k = k (zyset key v m.1, m.2) := by
  unfold zyput
  rw [zydel_eq]
  rfl
theorem zyset_l {key v k2 : Nat} {l : List (Nat × Nat)} : zyl (zyset key v l) k2 = if k2 = key then some v else zyl l k2 := by
  unfold zyset
  rw [zyl_c, zyrem_l]
  by_cases q : k2 = key
  · rw [if_pos q.symm, if_pos q]
  · rw [if_neg (fun z => q z.symm), if_neg q, if_neg q]
theorem zyin_iff {a k : Nat} : ∀ {l : zyR}, zyin l a k = true ↔ ∃ p ∈ l, p.1 = a ∧ p.2.1 ≤ k ∧ k ≤ p.2.2 := by
  intro l
  induction l with
  | nil => exact ⟨fun h => (by cases h), fun ⟨p, h, _⟩ => (by cases h)⟩
  | cons p t ih =>
    have e : zyin (p :: t) a k = zif (zand (Nat.beq p.1 a) (zand (Nat.ble p.2.1 k) (Nat.ble k p.2.2))) true (zyin t a k) := rfl
    rw [e]
    constructor
    · intro h
      rcases zif_iff h with ⟨h1, -⟩ | ⟨-, h2⟩
      · obtain ⟨g1, g2⟩ := zand_iff h1
        obtain ⟨g2, g3⟩ := zand_iff g2
        exact ⟨p, List.mem_cons_self, zbeqT g1, zbleT g2, zbleT g3⟩
      · obtain ⟨p2, g1, g2⟩ := ih.mp h2
        exact ⟨p2, List.mem_cons_of_mem _ g1, g2⟩
    · rintro ⟨p2, h1, h2, h3, h4⟩
      cases hc : zand (Nat.beq p.1 a) (zand (Nat.ble p.2.1 k) (Nat.ble k p.2.2)) with
      | true => rfl
      | false =>
        rw [zif_f]
        rcases List.mem_cons.mp h1 with q | q
        · subst q
          have : zand (Nat.beq p2.1 a) (zand (Nat.ble p2.2.1 k) (Nat.ble k p2.2.2)) = true := by
            rw [show Nat.beq p2.1 a = true from by rw [h2]; exact Nat.beq_refl a, Nat.ble_eq_true_of_le h3, Nat.ble_eq_true_of_le h4]
            rfl
          rw [this] at hc
          cases hc
        · exact ih.mpr ⟨p2, q, h2, h3, h4⟩
theorem zycov_iff {a lo hi : Nat} : ∀ {l : zyR}, zycov l a lo hi = true → ∀ k, lo ≤ k → k ≤ hi → zyin l a k = true := by
  intro l
  induction l with
  | nil => intro h; cases h
  | cons p t ih =>
    intro h k h1 h2
    have e : zycov (p :: t) a lo hi = zif (zand (Nat.beq p.1 a) (zand (Nat.ble p.2.1 lo) (Nat.ble hi p.2.2))) true (zycov t a lo hi) := rfl
    rw [e] at h
    rcases zif_iff h with ⟨g1, -⟩ | ⟨-, g2⟩
    · obtain ⟨g1, g2⟩ := zand_iff g1
      obtain ⟨g2, g3⟩ := zand_iff g2
      have g2 := zbleT g2
      have g3 := zbleT g3
      exact zyin_iff.mpr ⟨p, List.mem_cons_self, zbeqT g1, by omega, by omega⟩
    · obtain ⟨p2, g1, g3⟩ := zyin_iff.mp (ih g2 k h1 h2)
      exact zyin_iff.mpr ⟨p2, List.mem_cons_of_mem _ g1, g3⟩
theorem zyapt_iff {a lo hi : Nat} : ∀ {l : zyR}, zyapt l a lo hi = true → ∀ k, lo ≤ k → k ≤ hi → zyin l a k = false := by
  intro l
  induction l with
  | nil => intro _ k _ _; rfl
  | cons p t ih =>
    intro h k h1 h2
    have e : zyapt (p :: t) a lo hi = zand (zif (Nat.beq p.1 a) (zif (Nat.ble (hi + 1) p.2.1) true (Nat.ble (p.2.2 + 1) lo)) true) (zyapt t a lo hi) := rfl
    rw [e] at h
    obtain ⟨g1, g2⟩ := zand_iff h
    cases hc : zyin (p :: t) a k with
    | false => rfl
    | true =>
      exfalso
      obtain ⟨p2, q1, q2, q3, q4⟩ := zyin_iff.mp hc
      rcases List.mem_cons.mp q1 with q | q
      · subst q
        rcases zif_iff g1 with ⟨-, g3⟩ | ⟨g3, -⟩
        · rcases zif_iff g3 with ⟨g4, -⟩ | ⟨-, g4⟩
          · have := zbleT g4
            omega
          · have := zbleT g4
            omega
        · exact zbeqF g3 q2
      · have := ih g2 k h1 h2
        rw [zyin_iff.mpr ⟨p2, q, q2, q3, q4⟩] at this
        cases this
theorem zyrw_iff {f : Nat → Bool} {lo hi : Nat} : ∀ {l : zyR}, zyrw f lo hi l = true → ∃ r ∈ l, r.1 ≤ lo ∧ hi ≤ r.2.1 ∧ f r.2.2 = true := by
  intro l
  induction l with
  | nil => intro h; cases h
  | cons p t ih =>
    intro h
    have e : zyrw f lo hi (p :: t) = zif (zand (Nat.ble p.1 lo) (Nat.ble hi p.2.1)) (f p.2.2) (zyrw f lo hi t) := rfl
    rw [e] at h
    rcases zif_iff h with ⟨g1, g2⟩ | ⟨-, g2⟩
    · obtain ⟨q1, q2⟩ := zand_iff g1
      exact ⟨p, List.mem_cons_self, zbleT q1, zbleT q2, g2⟩
    · obtain ⟨r, q1, q2⟩ := ih g2
      exact ⟨r, List.mem_cons_of_mem _ q1, q2⟩
theorem zyall_iff {f : Nat → Bool} {lo hi : Nat} : ∀ {l : zyR}, zyall f lo hi l = true → ∀ r ∈ l, ∀ k, lo ≤ k → k ≤ hi → r.1 ≤ k → k ≤ r.2.1 → f r.2.2 = true := by
  intro l
  induction l with
  | nil => intro _ r h; cases h
  | cons p t ih =>
    intro h r hr k h1 h2 h3 h4
    have e : zyall f lo hi (p :: t) = zand (zif (Nat.ble (hi + 1) p.1) true (zif (Nat.ble (p.2.1 + 1) lo) true (f p.2.2))) (zyall f lo hi t) := rfl
    rw [e] at h
    obtain ⟨g1, g2⟩ := zand_iff h
    rcases List.mem_cons.mp hr with q | q
    · subst q
      rcases zif_iff g1 with ⟨g3, -⟩ | ⟨-, g3⟩
      · have := zbleT g3
        omega
      rcases zif_iff g3 with ⟨g4, -⟩ | ⟨-, g4⟩
      · have := zbleT g4
        omega
      · exact g4
    · exact ih g2 r q k h1 h2 h3 h4
/-- what was known of a range goes, the rest stays -/
theorem zyflush_iff {w : zW} {rows : zyR} {lo hi base : Nat} : ∀ {l : List (Nat × Nat)} {k : List (Nat × Nat) → Bool}, zyflush w rows lo hi base l k = true → ∃ u, k u = true ∧ (∀ key, (base + lo ≤ key ∧ key ≤ base + hi → zyl u key = none) ∧ (¬ (base + lo ≤ key ∧ key ≤ base + hi) → zyl u key = zyl l key)) ∧
    ∀ key v, base + lo ≤ key → key ≤ base + hi → zyl l key = some v → ∀ r ∈ rows, r.1 ≤ key - base → key - base ≤ r.2.1 → zysub w v r.2.2 = true := by
  intro l
  induction l with
  | nil =>
    intro k h
    exact ⟨[], h, fun key => ⟨fun _ => rfl, fun _ => rfl⟩, fun key v _ _ hq => by cases hq⟩
  | cons p t ih =>
    intro k h
    have e : zyflush w rows lo hi base (p :: t) k = zif (zand (Nat.ble (base + lo) p.1) (Nat.ble p.1 (base + hi))) (zif (zyall (fun c => zysub w p.2 c) (p.1 - base) (p.1 - base) rows) (zyflush w rows lo hi base t k) false) (zyflush w rows lo hi base t (fun u => k (p :: u))) := rfl
    rw [e] at h
    rcases zif_iff h with ⟨h1, h2⟩ | ⟨h1, h2⟩
    · obtain ⟨g1, g2⟩ := zand_iff h1
      have g1 := zbleT g1
      have g2 := zbleT g2
      rcases zif_iff h2 with ⟨h3, h4⟩ | ⟨-, h4⟩
      · obtain ⟨u, q1, q2, q3⟩ := ih h4
        refine ⟨u, q1, fun key => ⟨(q2 key).1, fun z => ?_⟩, fun key v z1 z2 z3 => ?_⟩
        · rw [(q2 key).2 z, zyl_c, if_neg (fun z2 => z ⟨by omega, by omega⟩)]
        · rw [zyl_c] at z3
          by_cases q : p.1 = key
          · rw [if_pos q] at z3
            cases z3
            rw [q] at h3
            exact fun r hr r1 r2 => zyall_iff h3 r hr (key - base) (Nat.le_refl _) (Nat.le_refl _) r1 r2
          · rw [if_neg q] at z3
            exact q3 key v z1 z2 z3
      · cases h4
    · obtain ⟨u, q1, q2, q3⟩ := ih h2
      have hn : ¬ (base + lo ≤ p.1 ∧ p.1 ≤ base + hi) := by
        rintro ⟨z1, z2⟩
        rw [Nat.ble_eq_true_of_le z1, Nat.ble_eq_true_of_le z2] at h1
        cases h1
      refine ⟨p :: u, q1, fun key => ⟨fun z => ?_, fun z => ?_⟩, fun key v z1 z2 z3 => ?_⟩
      · rw [zyl_c, if_neg (fun q => hn (by omega)), (q2 key).1 z]
      · rw [zyl_c, zyl_c, (q2 key).2 z]
      · rw [zyl_c, if_neg (fun q => hn (by omega))] at z3
        exact q3 key v z1 z2 z3
end
section
/-! THE MACHINE's STEPS for the second executor -/
def zyRl (P : zyP) (X : zyX) (s : State) (nL : Nat) (d : Nat × Nat × Nat) (w : zW) (ls st : List Nat) (q : zQ) (m : zyM) (H : Heap) (locs : List Loc) (lsA : Array Slot) (stA : List Value) : Prop :=
  (zEnv (zyρ X) w.2 ∧ w.1 = zyN X ∧ zyXt X ∧ ∀ f ∈ m.2, zyFm X f) ∧ zyMem P X s m.1 H ∧ (∀ x ∈ locs, zbs (zyb X) ≤ x.base) ∧ zyLs X nL ls lsA ∧ zySt X st stA ∧ q.1 = d.1 ∧ q.2.1 ≤ d.2.1 ∧ q.2.2 ≤ d.2.2
def zyKS (p : Program) (l : Launch) (e : Env) (R : Room) (s : State) (mt : MethodId) (args : Array Value) (below : List Frame) (meth : Method) (c : Code) (Q : State → Prop) (P : zyP) (X : zyX) (cf : Nat → zT) (y : zY) (fs : List zFr) (nL : Nat) (d : Nat × Nat × Nat) (k : zyK) : Prop :=
  ∀ (ρ2 : Nat → Int32) (N2 : Nat) (w : zW) (pc : Nat) (ls st : List Nat) (q : zQ) (m : zyM) (H : Heap) (locs : List Loc) (lsA : Array Slot) (stA : List Value), k w cf y pc ls st q fs m = true → zyRl P (zyre X ρ2 N2) s nL d w ls st q m H locs lsA stA → W p l e R s mt args below meth c H locs q.2.1 q.2.2 Q (F0 mt pc lsA stA)
theorem zyXt.up {X : zyX} {ρ2 : Nat → Int32} {N2 : Nat} (hN : zyN X ≤ N2) (hr : ∀ k, k < zyN X → ρ2 k = zyρ X k) (h : zyXt X) : zyXt (zyre X ρ2 N2) := ⟨Nat.le_trans h.1 hN, fun k hk => (hr k (Nat.lt_of_lt_of_le hk h.1)).trans (h.2 k hk)⟩
theorem zyv_ik {ρ : Nat → Int32} {N : Nat} {ad : Nat → Nat} {v : Nat} {x : Int32} (h : zyv ρ N ad v (.int x)) : v % 8 ≤ 2 := by
  rcases h with ⟨h, -, -⟩ | ⟨-, -, z, h⟩ | ⟨-, h | h⟩
  · rcases h with ⟨h, -⟩ | ⟨h, -⟩ | ⟨h, -⟩ | ⟨-, z⟩ | ⟨-, z⟩ | ⟨-, z⟩ | ⟨-, z | ⟨_, z⟩⟩
    · omega
    · omega
    · omega
    · cases z
    · cases z
    · cases z
    · cases z
    · cases z
  · cases h
  · cases h
  · cases h
section ZYR
variable {p : Program} {l : Launch} {e : Env} {R : Room} {s : State} {mt : MethodId} {args : Array Value} {below : List Frame} {meth : Method} {c : Code} {Q : State → Prop} {P : zyP} {X : zyX} {cf : Nat → zT} {y : zY} {fs : List zFr} {nL : Nat} {d : Nat × Nat × Nat} {k : zyK}
variable {w : zW} {pc nx ax : Nat} {ls st : List Nat} {q : zQ} {m : zyM} {H : Heap} {locs : List Loc} {lsA : Array Slot} {stA : List Value}
theorem zygo (hKS : zyKS p l e R s mt args below meth c Q P X cf y fs nL d k) {w2 : zW} {pc2 : Nat} {st2 : List Nat} {stB : List Value} (h : k w2 cf y pc2 ls st2 q fs m = true) (hR : zyRl P X s nL d w ls st q m H locs lsA stA) (e1 : w2.1 = w.1) (hE : zEnv (zyρ X) w2.2) (h2 : zySt X st2 stB) : W p l e R s mt args below meth c H locs q.2.1 q.2.2 Q (F0 mt pc2 lsA stB) :=
  hKS (zyρ X) (zyN X) _ _ _ _ _ _ _ _ _ _ h ⟨⟨hE, e1.trans hR.1.2.1, hR.1.2.2⟩, hR.2.1, hR.2.2.1, hR.2.2.2.1, h2, hR.2.2.2.2.2⟩
/-- with a fact more -/
theorem zygoM (hKS : zyKS p l e R s mt args below meth c Q P X cf y fs nL d k) {w2 : zW} {pc2 : Nat} {st2 : List Nat} {stB : List Value} {f : zyF} (h : k w2 cf y pc2 ls st2 q fs (m.1, f :: m.2) = true) (hR : zyRl P X s nL d w ls st q m H locs lsA stA) (e1 : w2.1 = w.1) (hE : zEnv (zyρ X) w2.2) (h2 : zySt X st2 stB) (hf : zyFm X f) : W p l e R s mt args below meth c H locs q.2.1 q.2.2 Q (F0 mt pc2 lsA stB) :=
  hKS (zyρ X) (zyN X) _ _ _ _ _ _ _ _ _ _ h ⟨⟨hE, e1.trans hR.1.2.1, hR.1.2.2.1, fun g hg => by
    rcases List.mem_cons.mp hg with z | z
    · rw [z]; exact hf
    · exact hR.1.2.2.2 g z⟩, hR.2.1, hR.2.2.1, hR.2.2.2.1, h2, hR.2.2.2.2.2⟩
/-- with a new symbol -/
theorem zygoU (hKS : zyKS p l e R s mt args below meth c Q P X cf y fs nL d k) {ρ2 : Nat → Int32} {N2 : Nat} {e2 : List (Nat × Nat)} {pc2 : Nat} {st2 : List Nat} {stB : List Value} {m2 : zyM} (h : k (N2, e2) cf y pc2 ls st2 q fs m2 = true) (hR : zyRl P X s nL d w ls st q m H locs lsA stA) (hN : zyN X ≤ N2) (hr : ∀ k, k < zyN X → ρ2 k = zyρ X k) (hE : zEnv ρ2 e2) (h2 : zySt (zyre X ρ2 N2) st2 stB)
    (hM : zyMem P (zyre X ρ2 N2) s m2.1 H) (hf : ∀ f ∈ m2.2, zyFm (zyre X ρ2 N2) f) : W p l e R s mt args below meth c H locs q.2.1 q.2.2 Q (F0 mt pc2 lsA stB) :=
  hKS ρ2 N2 _ _ _ _ _ _ _ _ _ _ h ⟨⟨hE, rfl, hR.1.2.2.1.up hN hr, hf⟩, hM, hR.2.2.1, hR.2.2.2.1.up hN hr, h2, hR.2.2.2.2.2⟩
/-- a new symbol's value on the stack -/
theorem zygoV (hKS : zyKS p l e R s mt args below meth c Q P X cf y fs nL d k) {lo hi : Nat} {pc2 : Nat} {r : List Nat} {stB : List Value} {F : Nat → List zyF} (h : zyfresh w lo hi (fun w2 v => k w2 cf y pc2 ls (v :: r) q fs (m.1, F v ++ m.2)) = true) (hR : zyRl P X s nL d w ls st q m H locs lsA stA) {x : Int32} (h1 : lo ≤ zB x) (h2 : zB x ≤ hi) (hS : zySt X r stB)
    (hF : ∀ (ρ2 : Nat → Int32) (v : Nat), (∀ k, k < zyN X → ρ2 k = zyρ X k) → zyV (zyre X ρ2 (zyN X + 1)) v (.int x) → ∀ f ∈ F v, zyFm (zyre X ρ2 (zyN X + 1)) f) : W p l e R s mt args below meth c H locs q.2.1 q.2.2 Q (F0 mt pc2 lsA (.int x :: stB)) := by
  obtain ⟨E2, g⟩ := zyfresh_iff h hR.1.1 hR.1.2.1 h1 h2
  have hr : ∀ k, k < zyN X → zyρ2 (zyρ X) (zyN X) x k = zyρ X k := fun k hk => zyρ2_lt hk
  refine zygoU hKS g hR (Nat.le_succ _) hr E2 ⟨zyv_new x, hS.up (Nat.le_succ _) hr⟩ (hR.2.1.up (Nat.le_succ _) hr) (fun f hf => ?_)
  rcases List.mem_append.mp hf with z | z
  · exact hF _ _ hr (zyv_new x) f z
  · exact (hR.1.2.2.2 f z).up (Nat.le_succ _) hr
theorem zyw_push {v : Nat} {x : Value} (hKS : zyKS p l e R s mt args below meth c Q P X cf y fs nL d k) (h : zyo_push v nx ax k w cf y pc ls st q fs m = true) (hR : zyRl P X s nL d w ls st q m H locs lsA stA) (hv : zyV X v x)
    (row : W p l e R s mt args below meth c H locs q.2.1 q.2.2 Q (F0 mt nx lsA (x :: stA)) → W p l e R s mt args below meth c H locs q.2.1 q.2.2 Q (F0 mt pc lsA stA)) : W p l e R s mt args below meth c H locs q.2.1 q.2.2 Q (F0 mt pc lsA stA) :=
  row (zygo hKS (st2 := v :: st) h hR rfl hR.1.1 ⟨hv, hR.2.2.2.2.1⟩)
theorem zyw_load {g i : Nat} (hKS : zyKS p l e R s mt args below meth c Q P X cf y fs nL d k) (h : zyo_load g i nx ax k w cf y pc ls st q fs m = true) (hR : zyRl P X s nL d w ls st q m H locs lsA stA)
    (row : ∀ x : Value, lsA[i]? = some (.val x) → (g = 0 → ∃ n, x = .int n) → (g = 1 → ∃ n, x = .long n) → (g = 2 → ∃ a, x = .ref a) → W p l e R s mt args below meth c H locs q.2.1 q.2.2 Q (F0 mt nx lsA (x :: stA)) → W p l e R s mt args below meth c H locs q.2.1 q.2.2 Q (F0 mt pc lsA stA)) : W p l e R s mt args below meth c H locs q.2.1 q.2.2 Q (F0 mt pc lsA stA) := by
  unfold zyo_load at h
  obtain ⟨v, hv, h2⟩ := znth_iff h
  rcases zif_iff h2 with ⟨h3, h4⟩ | ⟨-, h4⟩
  · obtain ⟨k0, k1, k2, k3⟩ := zkd_iff h3
    obtain ⟨x, hx, hz⟩ := hR.2.2.2.1.2.2.2 i v hv k3
    exact row x hx (fun q => zyv_int hz (k0 q)) (fun q => (zyv_4 hz (k1 q)).elim fun n hn => ⟨n, hn.1⟩) (fun q => ⟨_, zyv_3 hz (k2 q)⟩) (zygo hKS h4 hR rfl hR.1.1 ⟨hz, hR.2.2.2.2.1⟩)
  · cases h4
theorem zyw_store {g i : Nat} (hg : ¬ g = 1) (hKS : zyKS p l e R s mt args below meth c Q P X cf y fs nL d k) (h : zyo_store g i nx ax k w cf y pc ls st q fs m = true) (hR : zyRl P X s nL d w ls st q m H locs lsA stA)
    (row : ∀ (x : Value) (r : List Value), stA = x :: r → i < nL → (g = 0 → ∃ n, x = .int n) → (g = 2 → ∃ a, x = .ref a) → (∀ lsB, lv_has lsB nL ((i, x) :: (zlv lsA).filter (fun q => !(q.1 == i) && !(q.1 + 1 == i && q.2.category == 2))) → W p l e R s mt args below meth c H locs q.2.1 q.2.2 Q (F0 mt nx lsB r)) → W p l e R s mt args below meth c H locs q.2.1 q.2.2 Q (F0 mt pc lsA stA)) : W p l e R s mt args below meth c H locs q.2.1 q.2.2 Q (F0 mt pc lsA stA) := by
  unfold zyo_store at h
  obtain ⟨v, r, rfl, h2⟩ := zpop_iff h
  rcases zif_iff h2 with ⟨h3, h4⟩ | ⟨-, h4⟩
  · obtain ⟨k0, k1, k2, k3⟩ := zkd_iff h3
    obtain ⟨h5, hlow⟩ := zlow_iff h4
    rcases zif_iff h5 with ⟨h6, -⟩ | ⟨-, h7⟩
    · exact absurd (zbeqT h6) hg
    · obtain ⟨o, ho, h8⟩ := zupd_iff h7
      obtain ⟨hE, hM, hL, hLs, hS, hd⟩ := hR
      obtain ⟨x, t, rfl, hz, hS2⟩ := zySt_c hS
      have hi : i < nL := by rw [← hLs.1]; exact (List.getElem?_eq_some_iff.mp ho).1
      refine row x t rfl hi (fun q => zyv_int hz (k0 q)) (fun q => ⟨_, zyv_3 hz (k2 q)⟩) (fun lsB hB => ?_)
      exact hKS (zyρ X) (zyN X) _ _ _ _ _ _ _ _ _ _ h8 ⟨hE, hM, hL, zyLs_1 hLs hz hlow hB, hS2, hd⟩
  · cases h4
theorem zyw_storeL {i : Nat} (hKS : zyKS p l e R s mt args below meth c Q P X cf y fs nL d k) (h : zyo_store 1 i nx ax k w cf y pc ls st q fs m = true) (hR : zyRl P X s nL d w ls st q m H locs lsA stA)
    (row : ∀ (x : Int64) (r : List Value), stA = .long x :: r → i + 1 < nL → (∀ lsB, lv_has lsB nL ((i, .long x) :: (zlv lsA).filter (fun q => !(q.1 == i) && (!(q.1 == i + 1) && !(q.1 + 1 == i && q.2.category == 2)))) → W p l e R s mt args below meth c H locs q.2.1 q.2.2 Q (F0 mt nx lsB r)) → W p l e R s mt args below meth c H locs q.2.1 q.2.2 Q (F0 mt pc lsA stA)) : W p l e R s mt args below meth c H locs q.2.1 q.2.2 Q (F0 mt pc lsA stA) := by
  unfold zyo_store at h
  obtain ⟨v, r, rfl, h2⟩ := zpop_iff h
  rcases zif_iff h2 with ⟨h3, h4⟩ | ⟨-, h4⟩
  · obtain ⟨k0, k1, k2, k3⟩ := zkd_iff h3
    obtain ⟨h5, hlow⟩ := zlow_iff h4
    rcases zif_iff h5 with ⟨-, h7⟩ | ⟨h6, -⟩
    · obtain ⟨o, ho, h8⟩ := zupd_iff h7
      obtain ⟨o2, ho2, h9⟩ := zupd_iff h8
      obtain ⟨hE, hM, hL, hLs, hS, hd⟩ := hR
      obtain ⟨x, t, rfl, hz, hS2⟩ := zySt_c hS
      obtain ⟨xl, hz4, -⟩ := zyv_4 hz (k1 rfl)
      have hi : i + 1 < nL := by
        rw [← hLs.1]
        have h10 : i + 1 < (ls.set i v).length := (List.getElem?_eq_some_iff.mp ho2).1
        rwa [List.length_set] at h10
      rw [hz4] at hz
      refine row xl t (by rw [hz4]) hi (fun lsB hB => ?_)
      exact hKS (zyρ X) (zyN X) _ _ _ _ _ _ _ _ _ _ h9 ⟨hE, hM, hL, zyLs_2 hLs hz hlow hB, hS2, hd⟩
    · exact absurd rfl (zbeqF h6)
  · cases h4
theorem zyw_iinc {i u : Nat} (hKS : zyKS p l e R s mt args below meth c Q P X cf y fs nL d k) (h : zyo_iinc i u nx ax k w cf y pc ls st q fs m = true) (hR : zyRl P X s nL d w ls st q m H locs lsA stA)
    (row : ∀ (x : Int32), lsA[i]? = some (.val (.int x)) → i < nL → (∀ lsB, lv_has lsB nL ((i, .int (x + Int32.ofNat u)) :: (zlv lsA).filter (fun q => !(q.1 == i) && !(q.1 + 1 == i && q.2.category == 2))) → W p l e R s mt args below meth c H locs q.2.1 q.2.2 Q (F0 mt nx lsB stA)) → W p l e R s mt args below meth c H locs q.2.1 q.2.2 Q (F0 mt pc lsA stA)) : W p l e R s mt args below meth c H locs q.2.1 q.2.2 Q (F0 mt pc lsA stA) := by
  unfold zyo_iinc at h
  simp only [zfr_eq, zn_m, zn_d, zn_a, zn_u] at h
  obtain ⟨v, hv, h2⟩ := znth_iff h
  obtain ⟨hE, hM, hL, hLs, hS, hd⟩ := hR
  have hi : i < nL := by rw [← hLs.1]; exact (List.getElem?_eq_some_iff.mp hv).1
  have fin : ∀ v2 : Nat, ¬ v = 13 → v % 8 ≤ 1 → (∀ x : Int32, zyV X v (.int x) → zyV X v2 (.int (x + Int32.ofNat u))) → zupd (fun _ k2 => k2 v2) ls i (fun l1 => k w cf y nx l1 st q fs m) = true → W p l e R s mt args below meth c H locs q.2.1 q.2.2 Q (F0 mt pc lsA stA) := by
    intro v2 hn h8 hx h5
    obtain ⟨o, ho, h6⟩ := zupd_iff h5
    obtain ⟨x', hx', hz⟩ := hLs.2.2.2 i v hv hn
    obtain ⟨x, rfl⟩ := zyv_int hz (by omega)
    refine row x hx' hi (fun lsB hB => ?_)
    refine hKS (zyρ X) (zyN X) _ _ _ _ _ _ _ _ _ _ h6 ⟨hE, hM, hL, zyLs_1 hLs (hx x hz) (fun j c hj hc h4 => ?_) hB, hS, hd⟩
    obtain ⟨xj, hxj, hzj⟩ := hLs.2.2.2 j c hc (by omega)
    have hw := hLs.2.2.1.1 j xj hxj (by rw [zyv_cat hzj, if_pos h4])
    rw [hj, hx'] at hw
    cases hw
  rcases zif_iff h2 with ⟨h3, h4⟩ | ⟨h3, h4⟩
  · have e8 := zbeqT h3
    refine fin _ (by omega) (by omega) (fun x hx => ?_) h4
    have e1 := Value.int.inj (zyv_0 hx e8)
    rw [e1, ← zf_add_ok]
    exact zyv_mk rfl
  rcases zif_iff h4 with ⟨h5, h6⟩ | ⟨h5, h6⟩
  · have e8 := zbeqT h5
    exact fin _ (by omega) (by omega) (fun x hx => zyaff_ok e8 hx) h6
  · cases h6
theorem zy1_iff {v : Nat} {x : Value} (h : z1 v = true) (hv : zyV X v x) : x.category = 1 := by
  have h2 : v % 8 ≤ 3 := zbleT h
  rw [zyv_cat hv, if_neg (by omega)]
theorem zyw_dup (hKS : zyKS p l e R s mt args below meth c Q P X cf y fs nL d k) (h : zyo_dup nx ax k w cf y pc ls st q fs m = true) (hR : zyRl P X s nL d w ls st q m H locs lsA stA)
    (row : ∀ (x : Value) (r : List Value), stA = x :: r → x.category = 1 → W p l e R s mt args below meth c H locs q.2.1 q.2.2 Q (F0 mt nx lsA (x :: x :: r)) → W p l e R s mt args below meth c H locs q.2.1 q.2.2 Q (F0 mt pc lsA stA)) : W p l e R s mt args below meth c H locs q.2.1 q.2.2 Q (F0 mt pc lsA stA) := by
  unfold zyo_dup at h
  obtain ⟨a, r, es, h'⟩ := zpop_iff h
  clear h
  have h := h'
  clear h'
  subst es
  obtain ⟨x', stB, rfl, ha, hS2⟩ := zySt_c hR.2.2.2.2.1
  rcases zif_iff h with ⟨h1, h2⟩ | ⟨-, h2⟩
  · exact row _ stB rfl (zy1_iff h1 ha) (zygo hKS h2 hR rfl hR.1.1 ⟨ha, ha, hS2⟩)
  · cases h2
theorem zyw_dup2 (hKS : zyKS p l e R s mt args below meth c Q P X cf y fs nL d k) (h : zyo_dup2 nx ax k w cf y pc ls st q fs m = true) (hR : zyRl P X s nL d w ls st q m H locs lsA stA)
    (row : ∀ (x z : Value) (r : List Value), stA = x :: z :: r → x.category = 1 → z.category = 1 → W p l e R s mt args below meth c H locs q.2.1 q.2.2 Q (F0 mt nx lsA (x :: z :: x :: z :: r)) → W p l e R s mt args below meth c H locs q.2.1 q.2.2 Q (F0 mt pc lsA stA)) : W p l e R s mt args below meth c H locs q.2.1 q.2.2 Q (F0 mt pc lsA stA) := by
  unfold zyo_dup2 at h
  obtain ⟨a, t, es, h'⟩ := zpop_iff h
  clear h
  have h := h'
  clear h'
  subst es
  obtain ⟨b, r, es, h'⟩ := zpop_iff h
  clear h
  have h := h'
  clear h'
  subst es
  obtain ⟨x', stB, rfl, ha, hS2⟩ := zySt_c hR.2.2.2.2.1
  obtain ⟨y', stC, rfl, hb, hS3⟩ := zySt_c hS2
  rcases zif_iff h with ⟨h1, h2⟩ | ⟨-, h2⟩
  · obtain ⟨g1, g2⟩ := zand_iff h1
    exact row _ _ stC rfl (zy1_iff g1 ha) (zy1_iff g2 hb) (zygo hKS h2 hR rfl hR.1.1 ⟨ha, hb, ha, hb, hS3⟩)
  · cases h2
theorem zyw_pop (hKS : zyKS p l e R s mt args below meth c Q P X cf y fs nL d k) (h : zyo_pop nx ax k w cf y pc ls st q fs m = true) (hR : zyRl P X s nL d w ls st q m H locs lsA stA)
    (row : ∀ (x : Value) (r : List Value), stA = x :: r → x.category = 1 → W p l e R s mt args below meth c H locs q.2.1 q.2.2 Q (F0 mt nx lsA r) → W p l e R s mt args below meth c H locs q.2.1 q.2.2 Q (F0 mt pc lsA stA)) : W p l e R s mt args below meth c H locs q.2.1 q.2.2 Q (F0 mt pc lsA stA) := by
  unfold zyo_pop at h
  obtain ⟨a, r, es, h'⟩ := zpop_iff h
  clear h
  have h := h'
  clear h'
  subst es
  obtain ⟨x', stB, rfl, ha, hS2⟩ := zySt_c hR.2.2.2.2.1
  rcases zif_iff h with ⟨h1, h2⟩ | ⟨-, h2⟩
  · exact row _ stB rfl (zy1_iff h1 ha) (zygo hKS h2 hR rfl hR.1.1 hS2)
  · cases h2
theorem zyw_goto (hKS : zyKS p l e R s mt args below meth c Q P X cf y fs nL d k) (h : zyo_goto nx ax k w cf y pc ls st q fs m = true) (hR : zyRl P X s nL d w ls st q m H locs lsA stA)
    (row : W p l e R s mt args below meth c H locs q.2.1 q.2.2 Q (F0 mt ax lsA stA) → W p l e R s mt args below meth c H locs q.2.1 q.2.2 Q (F0 mt pc lsA stA)) : W p l e R s mt args below meth c H locs q.2.1 q.2.2 Q (F0 mt pc lsA stA) :=
  row (zygo hKS (st2 := st) h hR rfl hR.1.1 hR.2.2.2.2.1)
theorem zyabs_iff {g a b : Nat} {kk : zW → Nat → zyM → Bool} {ρ : Nat → Int32} {N : Nat} {ad : Nat → Nat} {x y : Int32} (h : zyabs g a b w m kk = true) (hE : zEnv ρ w.2) (hN : w.1 = N) (ha : zyv ρ N ad a (.int x)) (hb : zyv ρ N ad b (.int y)) (hg : zyItv g) :
    (g = 5 ∨ g = 10 → ¬ y = 0) ∧ ((∃ v, zyv ρ N ad v (.int (zyG g x y)) ∧ kk w v m = true) ∨ ∃ e2, zEnv (zyρ2 ρ N (zyG g x y)) e2 ∧ kk (N + 1, e2) (N * 34359738368 + 1) (m.1, (g, N * 34359738368 + 1, a, b) :: m.2) = true) := by
  unfold zyabs at h
  simp only [zfr_eq, zn_m, zn_d, zn_s] at h
  rcases zif_iff h with ⟨h1, hfin⟩ | ⟨-, h⟩
  · obtain ⟨h1, h2⟩ := zand_iff h1
    obtain ⟨h2, h3⟩ := zand_iff h2
    have e1 := zbeqT h1
    subst e1
    have e := Value.int.inj (zyv_0 hb (zbeqT h3))
    refine ⟨fun z => by omega, Or.inl ⟨_, ?_, hfin⟩⟩
    show zyv ρ N ad _ (.int (x + y))
    rw [e]
    exact zyaff_ok (zbeqT h2) ha
  rcases zif_iff h with ⟨h1, hfin⟩ | ⟨-, h⟩
  · obtain ⟨h1, h2⟩ := zand_iff h1
    obtain ⟨h2, h3⟩ := zand_iff h2
    have e1 := zbeqT h1
    subst e1
    have e := Value.int.inj (zyv_0 ha (zbeqT h2))
    refine ⟨fun z => by omega, Or.inl ⟨_, ?_, hfin⟩⟩
    show zyv ρ N ad _ (.int (x + y))
    rw [e, Int32.add_comm]
    exact zyaff_ok (zbeqT h3) hb
  rcases zif_iff h with ⟨h1, hfin⟩ | ⟨-, h⟩
  · obtain ⟨h1, h2⟩ := zand_iff h1
    obtain ⟨h2, h3⟩ := zand_iff h2
    have e1 := zbeqT h1
    subst e1
    have e := Value.int.inj (zyv_0 hb (zbeqT h3))
    have e2 : x - y = x + Int32.ofNat (4294967296 - b / 8 % 4294967296) := by
      rw [e]
      apply zN_inj
      rw [zN_sub, zN_add, zN_of, zN_of]
      omega
    refine ⟨fun z => by omega, Or.inl ⟨_, ?_, hfin⟩⟩
    show zyv ρ N ad _ (.int (x - y))
    rw [e2]
    exact zyaff_ok (zbeqT h2) ha
  obtain ⟨x2, la, ha', ex, a1, a2, h⟩ := zybd_iff h hE ha
  have ex := Value.int.inj ex
  subst ex
  obtain ⟨y2, lb, hb', ey, b1, b2, h⟩ := zybd_iff h hE hb
  have ey := Value.int.inj ey
  subst ey
  obtain ⟨g1, lo, hi, g2, g3, h⟩ := hg x y la ha' lb hb' _ h a1 a2 b1 b2
  obtain ⟨E2, h⟩ := zyfresh_iff h hE hN g2 g3
  exact ⟨g1, Or.inr ⟨_, E2, h⟩⟩
theorem zyslow_iff {f : Nat → Nat → Nat} {g : Nat} {dv : Bool} {a b : Nat} {again : zW → Bool} {kk : zW → Nat → zyM → Bool} {ρ : Nat → Int32} {N : Nat} {ad : Nat → Nat} {x' y' : Value} (h : zyslow P f g dv a b w m again kk = true) (hE : zEnv ρ w.2) (hN : w.1 = N) (ha : zyv ρ N ad a x') (hb : zyv ρ N ad b y') (hf : ∀ u v, Int32.ofNat (f u v) = zyG g (Int32.ofNat u) (Int32.ofNat v)) (hg : zyItv g) (hdv : dv = true → g = 5 ∨ g = 10) (ka : a % 8 ≤ 2) (kb : b % 8 ≤ 2) :
    (∃ w2 : zW, w2.1 = w.1 ∧ zEnv ρ w2.2 ∧ again w2 = true) ∨ ∃ x y : Int32, x' = .int x ∧ y' = .int y ∧ (dv = true → ¬ y = 0) ∧ ((∃ v, zyv ρ N ad v (.int (zyG g x y)) ∧ kk w v m = true) ∨ ∃ e2 a2 b2, zyv ρ N ad a2 (.int x) ∧ zyv ρ N ad b2 (.int y) ∧ zEnv (zyρ2 ρ N (zyG g x y)) e2 ∧ kk (N + 1, e2) (N * 34359738368 + 1) (m.1, (g, N * 34359738368 + 1, a2, b2) :: m.2) = true) := by
  unfold zyslow at h
  simp only [zfr_eq, zn_m, zn_u] at h
  obtain ⟨x, rfl⟩ := zyv_int ha ka
  obtain ⟨y, rfl⟩ := zyv_int hb kb
  have slow : ∀ a2 b2, zyv ρ N ad a2 (.int x) → zyv ρ N ad b2 (.int y) → zyabs g a2 b2 w m kk = true → ∃ x1 y1 : Int32, Value.int x = .int x1 ∧ Value.int y = .int y1 ∧ (dv = true → ¬ y1 = 0) ∧ ((∃ v, zyv ρ N ad v (.int (zyG g x1 y1)) ∧ kk w v m = true) ∨ ∃ e2 a2 b2, zyv ρ N ad a2 (.int x1) ∧ zyv ρ N ad b2 (.int y1) ∧ zEnv (zyρ2 ρ N (zyG g x1 y1)) e2 ∧ kk (N + 1, e2) (N * 34359738368 + 1) (m.1, (g, N * 34359738368 + 1, a2, b2) :: m.2) = true) := by
    intro a2 b2 ha2 hb2 h
    obtain ⟨q1, q2⟩ := zyabs_iff h hE hN ha2 hb2 hg
    refine ⟨x, y, rfl, rfl, fun z => q1 (hdv z), ?_⟩
    rcases q2 with q2 | ⟨e2, q3, q4⟩
    · exact Or.inl q2
    · exact Or.inr ⟨e2, a2, b2, ha2, hb2, q3, q4⟩
  rcases zyhalf_iff h hE ha with q | h
  · exact Or.inl q
  rcases zyhalf_iff h hE hb with q | h
  · exact Or.inl q
  rcases zykn_iff h hE ha with ⟨ua, e1, h⟩ | h
  · have e1 := Value.int.inj e1
    rcases zykn_iff h hE hb with ⟨ub, e2, h⟩ | h
    · have e2 := Value.int.inj e2
      subst e1
      subst e2
      rcases zif_iff h with ⟨-, h2⟩ | ⟨h1, h2⟩
      · cases h2
      · refine Or.inr ⟨_, _, rfl, rfl, fun q z => ?_, Or.inl ⟨_, zyv_mk (hf ua ub), h2⟩⟩
        rw [q] at h1
        have h3 : Nat.beq (ub % 4294967296) 0 = false := h1
        have e5 : (Int32.ofNat ub).toBitVec.toNat = (0 : Int32).toBitVec.toNat := by rw [z]
        rw [zN_of] at e5
        exact zbeqF h3 e5
    · exact Or.inr (slow _ _ (zyv_mk e1.symm) hb h)
  · rcases zykn_iff h hE hb with ⟨ub, e2, h⟩ | h
    · exact Or.inr (slow _ _ ha (zyv_mk (Value.int.inj e2).symm) h)
    · exact Or.inr (slow _ _ ha hb h)
theorem zyw_bin {f : Nat → Nat → Nat} {g : Nat} {dv : Bool} (hg12 : g < 12) (hf : ∀ u v, Int32.ofNat (f u v) = zyG g (Int32.ofNat u) (Int32.ofNat v)) (hg : zyItv g) (hdv : dv = true → g = 5 ∨ g = 10) (hKS : zyKS p l e R s mt args below meth c Q P X cf y fs nL d k) (h : zyo_bin P dv f g nx ax k w cf y pc ls st q fs m = true) (hR : zyRl P X s nL d w ls st q m H locs lsA stA)
    (row : ∀ (x z : Int32) (r : List Value), stA = .int z :: .int x :: r → (dv = true → ¬ z = 0) → W p l e R s mt args below meth c H locs q.2.1 q.2.2 Q (F0 mt nx lsA (.int (zyG g x z) :: r)) → W p l e R s mt args below meth c H locs q.2.1 q.2.2 Q (F0 mt pc lsA stA)) : W p l e R s mt args below meth c H locs q.2.1 q.2.2 Q (F0 mt pc lsA stA) := by
  unfold zyo_bin at h
  simp only [zfr_eq, zn_m, zn_d, zn_u] at h
  obtain ⟨b, t, es, h'⟩ := zpop_iff h
  clear h
  have h := h'
  clear h'
  subst es
  obtain ⟨a, r, es, h'⟩ := zpop_iff h
  clear h
  have h := h'
  clear h'
  subst es
  obtain ⟨y', stB, rfl, hb, hS2⟩ := zySt_c hR.2.2.2.2.1
  obtain ⟨x', stC, rfl, ha, hS3⟩ := zySt_c hS2
  rcases zif_iff h with ⟨h1, h2⟩ | ⟨-, h2⟩
  · obtain ⟨h1, h5⟩ := zand_iff h1
    have e0 : (a ||| b) % 2 ^ 3 = 0 := zbeqT h1
    rw [Nat.or_mod_two_pow] at e0
    have e1 : a % 8 = 0 := by
      have := Nat.left_le_or (n := a % 2 ^ 3) (m := b % 2 ^ 3)
      omega
    have e2 : b % 8 = 0 := by
      have := Nat.right_le_or (n := a % 2 ^ 3) (m := b % 2 ^ 3)
      omega
    have ea := zyv_0 ha e1
    have eb := zyv_0 hb e2
    subst ea
    subst eb
    refine row _ _ stC rfl (fun q z => ?_) (zygo hKS h2 hR rfl hR.1.1 ⟨zyv_mk (hf _ _), hS3⟩)
    rw [q] at h5
    have h6 : 1 ≤ b / 8 % 4294967296 := zbleT h5
    have e5 : (Int32.ofNat (b / 8)).toBitVec.toNat = (0 : Int32).toBitVec.toNat := by rw [z]
    rw [zN_of] at e5
    have e6 : (0 : Int32).toBitVec.toNat = 0 := by decide
    omega
  · have kk : a % 8 ≤ 2 ∧ b % 8 ≤ 2 ∨ ∃ w2 : zW, w2.1 = w.1 ∧ zEnv (zyρ X) w2.2 ∧ k w2 cf y pc ls (b :: a :: r) q fs m = true := by
      unfold zyslow at h2
      rcases zyhalf_iff h2 hR.1.1 ha with z | h3
      · exact Or.inr z
      rcases zyhalf_iff h3 hR.1.1 hb with z | h4
      · exact Or.inr z
      have ab : ∀ a2 b2, zyV X a2 x' → zyV X b2 y' → zyabs g a2 b2 w m (fun w2 v m2 => k w2 cf y nx ls (v :: r) q fs m2) = true → a2 % 8 ≤ 2 ∧ b2 % 8 ≤ 2 := by
        intro a2 b2 ha2 hb2 h
        unfold zyabs at h
        simp only [zn_m, zn_d, zn_s, zfr_eq] at h
        rcases zif_iff h with ⟨h1, -⟩ | ⟨-, h⟩
        · obtain ⟨-, h2⟩ := zand_iff h1
          obtain ⟨h2, h3⟩ := zand_iff h2
          have := zbeqT h2
          have := zbeqT h3
          omega
        rcases zif_iff h with ⟨h1, -⟩ | ⟨-, h⟩
        · obtain ⟨-, h2⟩ := zand_iff h1
          obtain ⟨h2, h3⟩ := zand_iff h2
          have := zbeqT h2
          have := zbeqT h3
          omega
        rcases zif_iff h with ⟨h1, -⟩ | ⟨-, h⟩
        · obtain ⟨-, h2⟩ := zand_iff h1
          obtain ⟨h2, h3⟩ := zand_iff h2
          have := zbeqT h2
          have := zbeqT h3
          omega
        have k1 := zybd_k h
        obtain ⟨_, _, _, -, -, -, h⟩ := zybd_iff h hR.1.1 ha2
        exact ⟨k1, zybd_k h⟩
      simp only [zfr_eq, zn_u] at h4
      rcases zykn_iff h4 hR.1.1 ha with ⟨ua, e1, h5⟩ | h5
      · have k1 : a % 8 ≤ 2 := zyv_ik (by rw [e1] at ha; exact ha)
        rcases zykn_iff h5 hR.1.1 hb with ⟨ub, e2, h6⟩ | h6
        · exact Or.inl ⟨k1, zyv_ik (by rw [e2] at hb; exact hb)⟩
        · exact Or.inl ⟨k1, (ab _ _ (by rw [e1]; exact zyv_mk rfl) hb h6).2⟩
      · rcases zykn_iff h5 hR.1.1 hb with ⟨ub, e2, h6⟩ | h6
        · exact Or.inl ⟨(ab _ _ ha (by rw [e2]; exact zyv_mk rfl) h6).1, zyv_ik (by rw [e2] at hb; exact hb)⟩
        · exact Or.inl (ab _ _ ha hb h6)
    rcases kk with ⟨ka, kb⟩ | ⟨w2, e1, E2, h3⟩
    rotate_left
    · exact zygo hKS h3 hR e1 E2 hR.2.2.2.2.1
    rcases zyslow_iff h2 hR.1.1 hR.1.2.1 ha hb hf hg hdv ka kb with ⟨w2, e1, E2, h3⟩ | ⟨x, z, rfl, rfl, hz, hh⟩
    · exact zygo hKS h3 hR e1 E2 hR.2.2.2.2.1
    · refine row _ _ stC rfl hz ?_
      rcases hh with ⟨v, hv, h3⟩ | ⟨e2, a2, b2, ha2, hb2, E2, h3⟩
      · exact zygo hKS h3 hR rfl hR.1.1 ⟨hv, hS3⟩
      · have hr : ∀ k, k < zyN X → zyρ2 (zyρ X) (zyN X) (zyG g x z) k = zyρ X k := fun k hk => zyρ2_lt hk
        refine zygoU hKS h3 hR (Nat.le_succ _) hr E2 ⟨zyv_new _, hS3.up (Nat.le_succ _) hr⟩ (hR.2.1.up (Nat.le_succ _) hr) (fun f hf => ?_)
        rcases List.mem_cons.mp hf with q | q
        · rw [q]
          unfold zyFm
          rw [if_neg (by dsimp only; omega), if_pos (by dsimp only; omega)]
          exact ⟨x, z, _, zyv_new _, zyv_up ha2 hr (Nat.le_succ _), zyv_up hb2 hr (Nat.le_succ _), rfl⟩
        · exact (hR.1.2.2.2 f q).up (Nat.le_succ _) hr
theorem zyw_un {f : Nat → Nat} {g : Nat} {F : Int32 → Int32} (hf : ∀ u, Int32.ofNat (f u / 8) = F (Int32.ofNat u) ∧ f u % 8 = 0) (hg : (g = 1 ∧ F = fun x => -x) ∨ (g = 2 ∧ F = fun x => x.toInt8.toInt32) ∨ (g = 3 ∧ F = fun x => (x.toUInt32 % 65536).toInt32)) (hKS : zyKS p l e R s mt args below meth c Q P X cf y fs nL d k) (h : zyo_un P f g nx ax k w cf y pc ls st q fs m = true) (hR : zyRl P X s nL d w ls st q m H locs lsA stA)
    (row : ∀ (x : Int32) (r : List Value), stA = .int x :: r → W p l e R s mt args below meth c H locs q.2.1 q.2.2 Q (F0 mt nx lsA (.int (F x) :: r)) → W p l e R s mt args below meth c H locs q.2.1 q.2.2 Q (F0 mt pc lsA stA)) : W p l e R s mt args below meth c H locs q.2.1 q.2.2 Q (F0 mt pc lsA stA) := by
  unfold zyo_un at h
  simp only [zfr_eq, zn_s] at h
  obtain ⟨a, r, es, h'⟩ := zpop_iff h
  clear h
  have h := h'
  clear h'
  subst es
  obtain ⟨x', stB, rfl, ha, hS2⟩ := zySt_c hR.2.2.2.2.1
  rcases zyhalf_iff h hR.1.1 ha with ⟨w2, e1, E2, h3⟩ | h
  · exact zygo hKS h3 hR e1 E2 hR.2.2.2.2.1
  rcases zykn_iff h hR.1.1 ha with ⟨u, rfl, h⟩ | h
  · refine row _ stB rfl (zygo hKS h hR rfl hR.1.1 ⟨?_, hS2⟩)
    obtain ⟨q1, q2⟩ := hf u
    rw [← q1]
    exact zyv_c (Or.inl ⟨q2, rfl⟩) (by omega) (by omega)
  obtain ⟨x, lo, hi, rfl, b1, b2, h⟩ := zybd_iff h hR.1.1 ha
  refine row x stB rfl ?_
  have nof : ∀ {lo2 hi2 : Nat}, zyfresh w lo2 hi2 (fun w2 v => k w2 cf y nx ls (v :: r) q fs m) = true → lo2 ≤ zB (F x) → zB (F x) ≤ hi2 → W p l e R s mt args below meth c H locs q.2.1 q.2.2 Q (F0 mt nx lsA (.int (F x) :: stB)) := fun h3 q1 q2 => zygoV (F := fun _ => []) hKS h3 hR q1 q2 hS2 (fun _ _ _ _ f hf => by cases hf)
  rcases zif_iff h with ⟨h1, h⟩ | ⟨h1, h⟩
  · have e1 := zbeqT h1
    have eF : F = fun x => -x := by
      rcases hg with ⟨-, q⟩ | ⟨q, -⟩ | ⟨q, -⟩
      · exact q
      · omega
      · omega
    rcases zif_iff h with ⟨h2, h⟩ | ⟨-, h⟩
    · have h2 := zbleT h2
      have bx := zB_int x
      have bz := zB_int (-x)
      have hn : (-x).toInt = -x.toInt := by
        rw [Int32.toInt_neg]
        have := zB_lt x
        apply Int.bmod_eq_of_le
        · omega
        · omega
      have e2 : zB (F x) = 4294967296 - zB x := by
        rw [eF]
        show zB (-x) = _
        omega
      refine zygoV (F := fun v => [(11, v, a, a)]) hKS h hR (x := F x) (by omega) (by omega) hS2 (fun ρ2 v hr hv f hf => ?_)
      rw [List.mem_singleton] at hf
      rw [hf]
      unfold zyFm
      rw [if_neg (by dsimp only; omega), if_pos (by dsimp only; omega)]
      exact ⟨x, x, _, hv, zyv_up ha hr (Nat.le_succ _), zyv_up ha hr (Nat.le_succ _), by rw [eF]; rfl⟩
    · exact nof h (zyfull _).1 (zyfull _).2
  rcases zif_iff h with ⟨h2, h⟩ | ⟨h2, h⟩
  · have e1 := zbeqT h2
    have eF : F = fun x => x.toInt8.toInt32 := by
      rcases hg with ⟨q, -⟩ | ⟨-, q⟩ | ⟨q, -⟩
      · omega
      · exact q
      · omega
    have bz := zB_int (F x)
    have l1 := Int8.le_toInt x.toInt8
    have l2 := Int8.toInt_lt x.toInt8
    have e2 : (F x).toInt = x.toInt8.toInt := by
      rw [eF]
      exact Int8.toInt_toInt32 _
    rcases zif_iff h with ⟨h3, h⟩ | ⟨-, h⟩
    · obtain ⟨g1, g2⟩ := zand_iff h3
      have g1 := zbleT g1
      have g2 := zbleT g2
      have bx := zB_int x
      have e3 : F x = x := by
        apply Int32.toInt_inj.mp
        rw [e2, Int32.toInt_toInt8]
        apply Int.bmod_eq_of_le
        · omega
        · omega
      rw [e3]
      exact zygo hKS h hR rfl hR.1.1 ⟨ha, hS2⟩
    · exact nof h (by omega) (by omega)
  rcases zif_iff h with ⟨h3, h⟩ | ⟨h3, h⟩
  · have e1 := zbeqT h3
    have eF : F = fun x => (x.toUInt32 % 65536).toInt32 := by
      rcases hg with ⟨q, -⟩ | ⟨q, -⟩ | ⟨-, q⟩
      · omega
      · omega
      · exact q
    have e2 : (F x).toBitVec.toNat = x.toBitVec.toNat % 65536 := by
      rw [eF]
      rfl
    have e3 := zB_eq (F x)
    rcases zif_iff h with ⟨h4, h⟩ | ⟨-, h⟩
    · obtain ⟨g1, g2⟩ := zand_iff h4
      have g1 := zbleT g1
      have g2 := zbleT g2
      have e4 := zB_eq x
      have l4 := x.toBitVec.isLt
      have e5 : F x = x := zN_inj (by omega)
      rw [e5]
      exact zygo hKS h hR rfl hR.1.1 ⟨ha, hS2⟩
    · exact nof h (by omega) (by omega)
  · cases h
theorem zykL_iff {v : Nat} (h : zykL v = true) : v % 8 = 4 ∧ v / 8 < 18446744073709551616 := by
  obtain ⟨h1, h2⟩ := zand_iff h
  have h2 := zbleT h2
  exact ⟨zbeqT h1, h2⟩
theorem zykL_n {v : Nat} (h : zykL v = false) (h4 : v % 8 = 4) : 18446744073709551616 ≤ v / 8 := by
  unfold zykL at h
  simp only [zn_m, zn_d, zn_c] at h
  rw [h4] at h
  have h : Nat.ble (v / 8 + 1) 18446744073709551616 = false := h
  have := zbleF h
  omega
theorem zyw_i2l {f : Nat → Nat} (hf : ∀ u, f u = 8 * (Int32.ofNat u).toInt64.toBitVec.toNat + 4) (hKS : zyKS p l e R s mt args below meth c Q P X cf y fs nL d k) (h : zyo_i2l P f nx ax k w cf y pc ls st q fs m = true) (hR : zyRl P X s nL d w ls st q m H locs lsA stA)
    (row : ∀ (x : Int32) (r : List Value), stA = .int x :: r → W p l e R s mt args below meth c H locs q.2.1 q.2.2 Q (F0 mt nx lsA (.long x.toInt64 :: r)) → W p l e R s mt args below meth c H locs q.2.1 q.2.2 Q (F0 mt pc lsA stA)) : W p l e R s mt args below meth c H locs q.2.1 q.2.2 Q (F0 mt pc lsA stA) := by
  unfold zyo_i2l at h
  simp only [zfr_eq] at h
  obtain ⟨a, r, es, h'⟩ := zpop_iff h
  clear h
  have h := h'
  clear h'
  subst es
  obtain ⟨x', stB, rfl, ha, hS2⟩ := zySt_c hR.2.2.2.2.1
  rcases zyhalf_iff h hR.1.1 ha with ⟨w2, e1, E2, h3⟩ | h
  · exact zygo hKS h3 hR e1 E2 hR.2.2.2.2.1
  rcases zykn_iff h hR.1.1 ha with ⟨u, rfl, h⟩ | h
  · refine row _ stB rfl (zygo hKS h hR rfl hR.1.1 ⟨?_, hS2⟩)
    rw [hf]
    exact zyv_mklx _
  · obtain ⟨x, lo, hi, rfl, -, -, h3⟩ := zybd_iff h hR.1.1 ha
    exact row x stB rfl (zygo hKS h3 hR rfl hR.1.1 ⟨zyv_anyL _, hS2⟩)
theorem zyw_l2i {f : Nat → Nat} (hf : ∀ u, f u = 8 * (Int64.ofNat u).toInt32.toBitVec.toNat) (hKS : zyKS p l e R s mt args below meth c Q P X cf y fs nL d k) (h : zyo_l2i f nx ax k w cf y pc ls st q fs m = true) (hR : zyRl P X s nL d w ls st q m H locs lsA stA)
    (row : ∀ (x : Int64) (r : List Value), stA = .long x :: r → W p l e R s mt args below meth c H locs q.2.1 q.2.2 Q (F0 mt nx lsA (.int x.toInt32 :: r)) → W p l e R s mt args below meth c H locs q.2.1 q.2.2 Q (F0 mt pc lsA stA)) : W p l e R s mt args below meth c H locs q.2.1 q.2.2 Q (F0 mt pc lsA stA) := by
  unfold zyo_l2i at h
  simp only [zfr_eq, zn_m, zn_d] at h
  obtain ⟨a, r, es, h'⟩ := zpop_iff h
  clear h
  have h := h'
  clear h'
  subst es
  obtain ⟨x', stB, rfl, ha, hS2⟩ := zySt_c hR.2.2.2.2.1
  rcases zif_iff h with ⟨h1, h2⟩ | ⟨-, h2⟩
  · obtain ⟨q1, q2⟩ := zykL_iff h1
    obtain ⟨z, rfl, ez⟩ := zyv_4 ha q1
    have ez := ez q2
    subst ez
    refine row _ stB rfl (zygo hKS h2 hR rfl hR.1.1 ⟨?_, hS2⟩)
    rw [hf]
    exact zyv_mkx _
  rcases zif_iff h2 with ⟨h1, h3⟩ | ⟨-, h3⟩
  · obtain ⟨z, rfl, -⟩ := zyv_4 ha (zbeqT h1)
    exact row _ stB rfl (zygoV (F := fun _ => []) hKS h3 hR (zyfull _).1 (zyfull _).2 hS2 (fun _ _ _ _ f hf => by cases hf))
  · cases h3
theorem zyw_lneg {f : Nat → Nat} (hf : ∀ u, f u = 8 * (-(Int64.ofNat u)).toBitVec.toNat + 4) (hKS : zyKS p l e R s mt args below meth c Q P X cf y fs nL d k) (h : zyo_lneg f nx ax k w cf y pc ls st q fs m = true) (hR : zyRl P X s nL d w ls st q m H locs lsA stA)
    (row : ∀ (x : Int64) (r : List Value), stA = .long x :: r → W p l e R s mt args below meth c H locs q.2.1 q.2.2 Q (F0 mt nx lsA (.long (-x) :: r)) → W p l e R s mt args below meth c H locs q.2.1 q.2.2 Q (F0 mt pc lsA stA)) : W p l e R s mt args below meth c H locs q.2.1 q.2.2 Q (F0 mt pc lsA stA) := by
  unfold zyo_lneg at h
  simp only [zfr_eq, zn_m, zn_d] at h
  obtain ⟨a, r, es, h'⟩ := zpop_iff h
  clear h
  have h := h'
  clear h'
  subst es
  obtain ⟨x', stB, rfl, ha, hS2⟩ := zySt_c hR.2.2.2.2.1
  rcases zif_iff h with ⟨h1, h2⟩ | ⟨-, h2⟩
  · obtain ⟨q1, q2⟩ := zykL_iff h1
    obtain ⟨z, rfl, ez⟩ := zyv_4 ha q1
    have ez := ez q2
    subst ez
    refine row _ stB rfl (zygo hKS h2 hR rfl hR.1.1 ⟨?_, hS2⟩)
    rw [hf]
    exact zyv_mklx _
  rcases zif_iff h2 with ⟨h1, h3⟩ | ⟨-, h3⟩
  · obtain ⟨z, rfl, -⟩ := zyv_4 ha (zbeqT h1)
    exact row _ stB rfl (zygo hKS h3 hR rfl hR.1.1 ⟨zyv_anyL _, hS2⟩)
  · cases h3
theorem zyw_lbin {f : Nat → Nat → Nat} {dv : Bool} {F : Int64 → Int64 → Int64} (hf : ∀ u v, f u v = 8 * (F (Int64.ofNat u) (Int64.ofNat v)).toBitVec.toNat + 4) (hKS : zyKS p l e R s mt args below meth c Q P X cf y fs nL d k) (h : zyo_lbin dv f nx ax k w cf y pc ls st q fs m = true) (hR : zyRl P X s nL d w ls st q m H locs lsA stA)
    (row : ∀ (x z : Int64) (r : List Value), stA = .long z :: .long x :: r → (dv = true → ¬ z = 0) → W p l e R s mt args below meth c H locs q.2.1 q.2.2 Q (F0 mt nx lsA (.long (F x z) :: r)) → W p l e R s mt args below meth c H locs q.2.1 q.2.2 Q (F0 mt pc lsA stA)) : W p l e R s mt args below meth c H locs q.2.1 q.2.2 Q (F0 mt pc lsA stA) := by
  unfold zyo_lbin at h
  simp only [zfr_eq, zn_m, zn_d] at h
  obtain ⟨b, t, es, h'⟩ := zpop_iff h
  clear h
  have h := h'
  clear h'
  subst es
  obtain ⟨a, r, es, h'⟩ := zpop_iff h
  clear h
  have h := h'
  clear h'
  subst es
  obtain ⟨y', stB, rfl, hb, hS2⟩ := zySt_c hR.2.2.2.2.1
  obtain ⟨x', stC, rfl, ha, hS3⟩ := zySt_c hS2
  rcases zif_iff h with ⟨h1, h2⟩ | ⟨-, h2⟩
  rotate_left
  · cases h2
  obtain ⟨g1, g2⟩ := zand_iff h1
  obtain ⟨xa, rfl, ea⟩ := zyv_4 ha (zbeqT g1)
  obtain ⟨xb, rfl, eb⟩ := zyv_4 hb (zbeqT g2)
  rcases zif_iff h2 with ⟨-, h3⟩ | ⟨h4, h3⟩
  · cases h3
  refine row _ _ stC rfl (fun z z0 => ?_) ?_
  · rw [z] at h4
    have h4 : zif (zykL b) (Nat.beq (b / 8) 0) true = false := h4
    cases hq : zykL b with
    | false => rw [hq] at h4; cases h4
    | true =>
      rw [hq] at h4
      have h5 : Nat.beq (b / 8) 0 = false := h4
      have e1 := eb (zykL_iff hq).2
      have e5 : (Int64.ofNat (b / 8)).toBitVec.toNat = (0 : Int64).toBitVec.toNat := by rw [← e1, z0]
      have e6 : (Int64.ofNat (b / 8)).toBitVec.toNat = b / 8 % 18446744073709551616 := by simp
      rw [e6, Nat.mod_eq_of_lt (zykL_iff hq).2] at e5
      exact zbeqF h5 e5
  rcases zif_iff h3 with ⟨h5, h6⟩ | ⟨-, h6⟩
  · obtain ⟨q1, q2⟩ := zand_iff h5
    rw [ea (zykL_iff q1).2, eb (zykL_iff q2).2]
    refine zygo hKS h6 hR rfl hR.1.1 ⟨?_, hS3⟩
    rw [hf]
    exact zyv_mklx _
  · exact zygo hKS h6 hR rfl hR.1.1 ⟨zyv_anyL _, hS3⟩
theorem zyw_lcmp (hKS : zyKS p l e R s mt args below meth c Q P X cf y fs nL d k) (h : zyo_lcmp nx ax k w cf y pc ls st q fs m = true) (hR : zyRl P X s nL d w ls st q m H locs lsA stA)
    (row : ∀ (x z : Int64) (r : List Value), stA = .long z :: .long x :: r → W p l e R s mt args below meth c H locs q.2.1 q.2.2 Q (F0 mt nx lsA (.int (lg_cmp x z) :: r)) → W p l e R s mt args below meth c H locs q.2.1 q.2.2 Q (F0 mt pc lsA stA)) : W p l e R s mt args below meth c H locs q.2.1 q.2.2 Q (F0 mt pc lsA stA) := by
  unfold zyo_lcmp at h
  simp only [zfr_eq, zn_m, zn_d] at h
  obtain ⟨b, t, es, h'⟩ := zpop_iff h
  clear h
  have h := h'
  clear h'
  subst es
  obtain ⟨a, r, es, h'⟩ := zpop_iff h
  clear h
  have h := h'
  clear h'
  subst es
  obtain ⟨y', stB, rfl, hb, hS2⟩ := zySt_c hR.2.2.2.2.1
  obtain ⟨x', stC, rfl, ha, hS3⟩ := zySt_c hS2
  rcases zif_iff h with ⟨h1, h2⟩ | ⟨-, h2⟩
  rotate_left
  · cases h2
  obtain ⟨g1, g2⟩ := zand_iff h1
  obtain ⟨xa, rfl, ea⟩ := zyv_4 ha (zbeqT g1)
  obtain ⟨xb, rfl, eb⟩ := zyv_4 hb (zbeqT g2)
  refine row _ _ stC rfl ?_
  rcases zif_iff h2 with ⟨h5, h6⟩ | ⟨-, h6⟩
  · obtain ⟨q1, q2⟩ := zand_iff h5
    rw [ea (zykL_iff q1).2, eb (zykL_iff q2).2]
    exact zygo hKS h6 hR rfl hR.1.1 ⟨zyv_mkx _, hS3⟩
  · have hc : 2147483647 ≤ zB (lg_cmp xa xb) ∧ zB (lg_cmp xa xb) ≤ 2147483649 := by
      unfold lg_cmp
      split
      · decide
      · split <;> decide
    exact zygoV (F := fun _ => []) hKS h6 hR hc.1 hc.2 hS3 (fun _ _ _ _ f hf => by cases hf)
theorem zyw_lsh {f : Nat → Nat → Nat} {F : Int64 → Int32 → Int64} (hf : ∀ u v, f u v = 8 * (F (Int64.ofNat u) (Int32.ofNat v)).toBitVec.toNat + 4) (hKS : zyKS p l e R s mt args below meth c Q P X cf y fs nL d k) (h : zyo_lsh f nx ax k w cf y pc ls st q fs m = true) (hR : zyRl P X s nL d w ls st q m H locs lsA stA)
    (row : ∀ (x : Int64) (z : Int32) (r : List Value), stA = .int z :: .long x :: r → W p l e R s mt args below meth c H locs q.2.1 q.2.2 Q (F0 mt nx lsA (.long (F x z) :: r)) → W p l e R s mt args below meth c H locs q.2.1 q.2.2 Q (F0 mt pc lsA stA)) : W p l e R s mt args below meth c H locs q.2.1 q.2.2 Q (F0 mt pc lsA stA) := by
  unfold zyo_lsh at h
  simp only [zfr_eq, zn_m, zn_d] at h
  obtain ⟨b, t, es, h'⟩ := zpop_iff h
  clear h
  have h := h'
  clear h'
  subst es
  obtain ⟨a, r, es, h'⟩ := zpop_iff h
  clear h
  have h := h'
  clear h'
  subst es
  obtain ⟨y', stB, rfl, hb, hS2⟩ := zySt_c hR.2.2.2.2.1
  obtain ⟨x', stC, rfl, ha, hS3⟩ := zySt_c hS2
  rcases zif_iff h with ⟨h1, h2⟩ | ⟨-, h2⟩
  rotate_left
  · cases h2
  obtain ⟨g1, g2⟩ := zand_iff h1
  obtain ⟨xa, rfl, ea⟩ := zyv_4 ha (zbeqT g1)
  obtain ⟨xb, rfl⟩ := zyv_int hb (zbleT g2)
  refine row _ _ stC rfl ?_
  rcases zif_iff h2 with ⟨h5, h6⟩ | ⟨-, h6⟩
  · obtain ⟨q1, q2⟩ := zand_iff h5
    have eb := Value.int.inj (zyv_0 hb (zbeqT q2))
    rw [ea (zykL_iff q1).2, eb]
    refine zygo hKS h6 hR rfl hR.1.1 ⟨?_, hS3⟩
    rw [hf]
    exact zyv_mklx _
  · exact zygo hKS h6 hR rfl hR.1.1 ⟨zyv_anyL _, hS3⟩
/-- a branch's two ways -/
theorem zybr {o tn : Bool} {w2 : zW} {r : List Nat} {stB : List Value} {f : zyF} (hKS : zyKS p l e R s mt args below meth c Q P X cf y fs nL d k) (h : zif (zif tn (zif o false true) o) (k w2 cf y ax ls r q fs (m.1, f :: m.2)) (k w2 cf y nx ls r q fs (m.1, f :: m.2)) = true) (hR : zyRl P X s nL d w ls st q m H locs lsA stA) (e1 : w2.1 = w.1) (hE : zEnv (zyρ X) w2.2) (h2 : zySt X r stB) (hf : zyFm X f) :
    (o = !tn → W p l e R s mt args below meth c H locs q.2.1 q.2.2 Q (F0 mt ax lsA stB)) ∧ (o = tn → W p l e R s mt args below meth c H locs q.2.1 q.2.2 Q (F0 mt nx lsA stB)) := by
  cases o <;> cases tn
  · exact ⟨fun z => absurd z (by decide), fun _ => zygoM hKS (st2 := r) h hR e1 hE h2 hf⟩
  · exact ⟨fun _ => zygoM hKS (st2 := r) h hR e1 hE h2 hf, fun z => absurd z (by decide)⟩
  · exact ⟨fun _ => zygoM hKS (st2 := r) h hR e1 hE h2 hf, fun z => absurd z (by decide)⟩
  · exact ⟨fun z => absurd z (by decide), fun _ => zygoM hKS (st2 := r) h hR e1 hE h2 hf⟩
theorem zyeqr_iff {a : Nat} {kk : zW → Bool} {w2 : zW} (hE : zEnv (zyρ X) w2.2) : ∀ {F : List zyF}, (∀ f ∈ F, zyFm X f) → zyeqr w2 a kk F = true → ∃ w3 : zW, w3.1 = w2.1 ∧ zEnv (zyρ X) w3.2 ∧ kk w3 = true := by
  intro F
  induction F with
  | nil => intro _ h; exact ⟨w2, rfl, hE, h⟩
  | cons f t ih =>
    intro hF h
    have e : zyeqr w2 a kk (f :: t) = zif (zand (Nat.beq f.1 2) (Nat.beq f.2.1 a)) (zbd w2 a (fun ld hd => zbd w2 f.2.2.1 (fun lx hx => zbd w2 f.2.2.2 (fun ly hy => zif (zand (Nat.ble hy (lx + 2147483648)) (Nat.ble (hx + 2147483648) (ly + 4294967295))) (zcut w2 f.2.2.2 (lx + 2147483648 - hd) (hx + 2147483648 - ld) kk) (kk w2))))) (zyeqr w2 a kk t) := rfl
    rw [e] at h
    rcases zif_iff h with ⟨h1, h⟩ | ⟨-, h⟩
    · obtain ⟨g1, g2⟩ := zand_iff h1
      have g1 := zbeqT g1
      have g2 := zbeqT g2
      have hf := hF f List.mem_cons_self
      unfold zyFm at hf
      rw [if_neg (by omega), if_pos (by omega), g1, g2] at hf
      obtain ⟨x, y0, z, z1, z2, z3, z4⟩ := hf
      obtain ⟨z5, ld, hd, ez, d1, d2, h⟩ := zybd_iff h hE z1
      have ez := Value.int.inj ez
      subst ez
      obtain ⟨x5, lx, hx, ex, a1, a2, h⟩ := zybd_iff h hE z2
      have ex := Value.int.inj ex
      subst ex
      obtain ⟨y5, ly, hy, ey, b1, b2, h⟩ := zybd_iff h hE z3
      have ey := Value.int.inj ey
      subst ey
      rcases zif_iff h with ⟨h2, h⟩ | ⟨-, h⟩
      · obtain ⟨q1, q2⟩ := zand_iff h2
        have q1 := zbleT q1
        have q2 := zbleT q2
        have e2 := zB_sub2 (x := x) (y := y0) (by omega) (by omega)
        have e3 : zB z = zB x + 2147483648 - zB y0 := by
          rw [z4]
          exact e2
        exact zycut_iff h hE z3 (by omega) (by omega)
      · exact ⟨w2, rfl, hE, h⟩
    · exact ih (fun f2 hf2 => hF f2 (List.mem_cons_of_mem _ hf2)) h
theorem zyw_cmpG {g sw tn : Bool} {b a : Nat} {r : List Nat} {y' x' : Value} {stC : List Value} (hb : zyV X b y') (ha : zyV X a x') (hS3 : zySt X r stC) (hKS : zyKS p l e R s mt args below meth c Q P X cf y fs nL d k) (h : zyo_cmp g sw tn nx ax k w cf y pc ls (b :: a :: r) q fs m = true) (hR : zyRl P X s nL d w ls st q m H locs lsA stA)
    (row : ∀ (x z : Int32), x' = .int x → y' = .int z → ((if g then x = z else if sw then z < x else x < z) → W p l e R s mt args below meth c H locs q.2.1 q.2.2 Q (F0 mt (if tn then nx else ax) lsA stC)) → (¬ (if g then x = z else if sw then z < x else x < z) → W p l e R s mt args below meth c H locs q.2.1 q.2.2 Q (F0 mt (if tn then ax else nx) lsA stC)) → W p l e R s mt args below meth c H locs q.2.1 q.2.2 Q (F0 mt pc lsA stA)) : W p l e R s mt args below meth c H locs q.2.1 q.2.2 Q (F0 mt pc lsA stA) := by
  have h : zif g (zeq w a b (fun o w2 => zif o (zyeqr w2 a (fun w3 => zif (zif tn false true) (k w3 cf y ax ls r q fs (m.1, (22, 0, a, b) :: m.2)) (k w3 cf y nx ls r q fs (m.1, (22, 0, a, b) :: m.2))) m.2) (zif (zif tn true false) (k w2 cf y ax ls r q fs (m.1, (23, 0, a, b) :: m.2)) (k w2 cf y nx ls r q fs (m.1, (23, 0, a, b) :: m.2)))))
    (zlt w (zif sw b a) (zif sw a b) (fun o w2 => zif (zif tn (zif o false true) o) (k w2 cf y ax ls r q fs (m.1, (zif o 20 21, 0, zif sw b a, zif sw a b) :: m.2)) (k w2 cf y nx ls r q fs (m.1, (zif o 20 21, 0, zif sw b a, zif sw a b) :: m.2)))) = true := h
  have fin : ∀ (Pr : Prop) (x z : Int32) (ft ff : zyF), x' = .int x → y' = .int z → (Pr ↔ (if g then x = z else if sw then z < x else x < z)) → (Pr → zyFm X ft) → (¬ Pr → zyFm X ff) → ((Pr ∧ ∃ w2 : zW, w2.1 = w.1 ∧ zEnv (zyρ X) w2.2 ∧ zif (zif tn (zif true false true) true) (k w2 cf y ax ls r q fs (m.1, ft :: m.2)) (k w2 cf y nx ls r q fs (m.1, ft :: m.2)) = true) ∨ (¬ Pr ∧ ∃ w2 : zW, w2.1 = w.1 ∧ zEnv (zyρ X) w2.2 ∧ zif (zif tn (zif false false true) false) (k w2 cf y ax ls r q fs (m.1, ff :: m.2)) (k w2 cf y nx ls r q fs (m.1, ff :: m.2)) = true)) → W p l e R s mt args below meth c H locs q.2.1 q.2.2 Q (F0 mt pc lsA stA) := by
    intro Pr x z ft ff ex ez hP h1 h2 hh
    rcases hh with ⟨hp, w2, e1, E2, h3⟩ | ⟨hp, w2, e1, E2, h3⟩
    · obtain ⟨b1, b2⟩ := zybr (o := true) hKS h3 hR e1 E2 hS3 (h1 hp)
      refine row x z ex ez (fun _ => ?_) (fun n => absurd (hP.mp hp) n)
      cases tn
      · exact b1 rfl
      · exact b2 rfl
    · obtain ⟨b1, b2⟩ := zybr (o := false) hKS h3 hR e1 E2 hS3 (h2 hp)
      refine row x z ex ez (fun n => absurd (hP.mpr n) hp) (fun _ => ?_)
      cases tn
      · exact b2 rfl
      · exact b1 rfl
  have mkf : ∀ (g a b : Nat) (x z : Int32), ¬ g = 24 → ¬ g < 12 ∧ g < 1000 → zyV X a (.int x) → zyV X b (.int z) → (g = 20 → x < z) → (g = 21 → ¬ x < z) → (g = 22 → x = z) → (g = 23 → ¬ x = z) → zyFm X (g, 0, a, b) := by
    intro g a b x z n1 n2 h1 h2 h3 h4 h5 h6
    unfold zyFm
    rw [if_neg n1, if_neg n2.1, if_pos n2.2]
    exact ⟨x, z, h1, h2, h3, h4, h5, h6⟩
  cases g with
  | true =>
    rw [zif_t] at h
    obtain ⟨x, z, e1, e2, hh⟩ := zyeq_iff h hR.1.1 ha hb
    subst e1
    subst e2
    have hh : (x = z ∧ ∃ w2 : zW, w2.1 = w.1 ∧ zEnv (zyρ X) w2.2 ∧ zif (zif tn (zif true false true) true) (k w2 cf y ax ls r q fs (m.1, (22, 0, a, b) :: m.2)) (k w2 cf y nx ls r q fs (m.1, (22, 0, a, b) :: m.2)) = true) ∨ (¬ x = z ∧ ∃ w2 : zW, w2.1 = w.1 ∧ zEnv (zyρ X) w2.2 ∧ zif (zif tn (zif false false true) false) (k w2 cf y ax ls r q fs (m.1, (23, 0, a, b) :: m.2)) (k w2 cf y nx ls r q fs (m.1, (23, 0, a, b) :: m.2)) = true) := by
      rcases hh with ⟨q1, w2, q2, q3, q4⟩ | ⟨q1, w2, q2, q3, q4⟩
      · rw [zif_t] at q4
        obtain ⟨w3, q5, q6, q7⟩ := zyeqr_iff q3 hR.1.2.2.2 q4
        exact Or.inl ⟨q1, w3, q5.trans q2, q6, q7⟩
      · rw [zif_f] at q4
        exact Or.inr ⟨q1, w2, q2, q3, q4⟩
    exact fin (x = z) x z (22, 0, a, b) (23, 0, a, b) rfl rfl (by rw [if_pos rfl]) (fun q => mkf 22 a b x z (by decide) (by decide) ha hb (fun z => by omega) (fun z => by omega) (fun _ => q) (fun z => by omega)) (fun q => mkf 23 a b x z (by decide) (by decide) ha hb (fun z => by omega) (fun z => by omega) (fun z => by omega) (fun _ => q)) hh
  | false =>
    cases sw with
    | true =>
      simp only [zif_t, zif_f] at h
      obtain ⟨z, x, e2, e1, hh⟩ := zylt_iff h hR.1.1 hb ha
      subst e1
      subst e2
      exact fin (z < x) x z (20, 0, b, a) (21, 0, b, a) rfl rfl (by rw [if_neg (by decide), if_pos rfl]) (fun q => mkf 20 b a z x (by decide) (by decide) hb ha (fun _ => q) (fun z => by omega) (fun z => by omega) (fun z => by omega)) (fun q => mkf 21 b a z x (by decide) (by decide) hb ha (fun z => by omega) (fun _ => q) (fun z => by omega) (fun z => by omega)) hh
    | false =>
      simp only [zif_f] at h
      obtain ⟨x, z, e1, e2, hh⟩ := zylt_iff h hR.1.1 ha hb
      subst e1
      subst e2
      exact fin (x < z) x z (20, 0, a, b) (21, 0, a, b) rfl rfl (by rw [if_neg (by decide), if_neg (by decide)]) (fun q => mkf 20 a b x z (by decide) (by decide) ha hb (fun _ => q) (fun z => by omega) (fun z => by omega) (fun z => by omega)) (fun q => mkf 21 a b x z (by decide) (by decide) ha hb (fun z => by omega) (fun _ => q) (fun z => by omega) (fun z => by omega)) hh
theorem zyw_cmp {g sw tn : Bool} (hKS : zyKS p l e R s mt args below meth c Q P X cf y fs nL d k) (h : zyo_cmp g sw tn nx ax k w cf y pc ls st q fs m = true) (hR : zyRl P X s nL d w ls st q m H locs lsA stA)
    (row : ∀ (x z : Int32) (r : List Value), stA = .int z :: .int x :: r → ((if g then x = z else if sw then z < x else x < z) → W p l e R s mt args below meth c H locs q.2.1 q.2.2 Q (F0 mt (if tn then nx else ax) lsA r)) → (¬ (if g then x = z else if sw then z < x else x < z) → W p l e R s mt args below meth c H locs q.2.1 q.2.2 Q (F0 mt (if tn then ax else nx) lsA r)) → W p l e R s mt args below meth c H locs q.2.1 q.2.2 Q (F0 mt pc lsA stA)) : W p l e R s mt args below meth c H locs q.2.1 q.2.2 Q (F0 mt pc lsA stA) := by
  have h0 := h
  unfold zyo_cmp at h0
  obtain ⟨b, t, es, h'⟩ := zpop_iff h0
  subst es
  obtain ⟨a, r, es, h''⟩ := zpop_iff h'
  subst es
  obtain ⟨y', stB, rfl, hb, hS2⟩ := zySt_c hR.2.2.2.2.1
  obtain ⟨x', stC, rfl, ha, hS3⟩ := zySt_c hS2
  exact zyw_cmpG hb ha hS3 hKS h hR (fun x z ex ez => row x z stC (by rw [ex, ez]))
theorem zyw_cmp0 {g sw tn : Bool} (hKS : zyKS p l e R s mt args below meth c Q P X cf y fs nL d k) (h : zyo_cmp0 g sw tn nx ax k w cf y pc ls st q fs m = true) (hR : zyRl P X s nL d w ls st q m H locs lsA stA)
    (row : ∀ (x : Int32) (r : List Value), stA = .int x :: r → ((if g then x = 0 else if sw then 0 < x else x < 0) → W p l e R s mt args below meth c H locs q.2.1 q.2.2 Q (F0 mt (if tn then nx else ax) lsA r)) → (¬ (if g then x = 0 else if sw then 0 < x else x < 0) → W p l e R s mt args below meth c H locs q.2.1 q.2.2 Q (F0 mt (if tn then ax else nx) lsA r)) → W p l e R s mt args below meth c H locs q.2.1 q.2.2 Q (F0 mt pc lsA stA)) : W p l e R s mt args below meth c H locs q.2.1 q.2.2 Q (F0 mt pc lsA stA) := by
  have h : zyo_cmp g sw tn nx ax k w cf y pc ls (0 :: st) q fs m = true := h
  have h0 := h
  unfold zyo_cmp at h0
  obtain ⟨b, t, es, h'⟩ := zpop_iff h0
  cases es
  obtain ⟨a, r, es, h''⟩ := zpop_iff h'
  subst es
  obtain ⟨x', stC, rfl, ha, hS3⟩ := zySt_c hR.2.2.2.2.1
  exact zyw_cmpG zyv_zero ha hS3 hKS h hR (fun x z ex ez => by
    have ez := (Value.int.inj ez).symm
    subst ez
    exact row x stC (by rw [ex]))
end ZYR
end
section
/-! THE MACHINE's STEPS for the second executor: memory -/
/-- what is asked of what is kept by contract alone: it hangs on its elements only, and keeps its rules -/
def zyJp (dj : zyR) (J : zyJt) : Prop := (∀ E E2 : Nat → Nat → Option Value, (∀ a k, zyin dj a k = true → E a k = E2 a k) → J.1 E → J.1 E2) ∧ (∀ E, J.1 E → ∀ p ∈ dj, 100000 ≤ p.1 → ∀ (i : Nat) (z y : Int32), zyin dj (p.1 - 100000) i = true → E (p.1 - 100000) i = some (.int z) → E p.2.1 i = some (.int y) → 2147483648 ≤ zB y → 2147483648 ≤ zB z) ∧ (∀ (id : Nat) (E E2 : zyEm) (x y z : Int32), (∀ a k, zyin (zyFd id) a k = true → E a k = E2 a k) → J.2 id E x y z → J.2 id E2 x y z) ∧ ∀ (id : Nat) (E : zyEm) (x y z : Int32), 300 ≤ id → J.2 id E x y z → zB x ≤ zB z ∧ zB z ≤ zB x + (id - 300)
def zyKn (P : zyP) (X : zyX) (s : State) : Prop := zKn (zyb X) s ∧ zyJp P.2.2.2.1 (zyJ X)
theorem zyKn.warm {P : zyP} {X : zyX} {s U : State} (hW : s.WarmedH U.vm) (h : zyKn P X s) : zyKn P X U := ⟨h.1.warm hW, h.2⟩
theorem zyKn.same {P : zyP} {X : zyX} {s U : State} (hv : U.vm = s.vm) (h : zyKn P X s) : zyKn P X U := ⟨h.1.same hv, h.2⟩
theorem zyn64 : ∀ i, i < 12 → zxCn i ≤ 64 := by decide +kernel
section ZYM
variable {p : Program} {l : Launch} {e : Env} {R : Room} {s : State} {mt : MethodId} {args : Array Value} {below : List Frame} {meth : Method} {c : Code} {Q : State → Prop} {P : zyP} {X : zyX} {cf : Nat → zT} {y : zY} {fs : List zFr} {nL : Nat} {d : Nat × Nat × Nat} {k : zyK}
variable {w : zW} {pc nx ax : Nat} {ls st : List Nat} {q : zQ} {m : zyM} {H : Heap} {locs : List Loc} {lsA : Array Slot} {stA : List Value} {own : String} {cc : ByteArray} {idx pp : Nat}
theorem zyad {B : zCx} {a b : Nat} (ha : a < 90000) (hb : b < 90000) (h : zad B a = zad B b) : a = b := by
  unfold zad at h
  rw [if_pos ha, if_pos hb] at h
  omega
theorem zyad_ge {B : zCx} {a : Nat} (ha : a < 90000) : zbs B ≤ zad B a := by
  unfold zad
  rw [if_pos ha]
  omega
theorem zyLen_le {U : State} {l0 : List (Nat × Nat)} (hM : zyMem P X U l0 H) {a : Nat} {c0 : zyCl} (hg : zG P.1 a = some c0) : zyLen c0 ≤ 16384 := by
  unfold zyLen
  rcases (hM.1 a c0 hg).2 with ⟨h1, -⟩ | ⟨ty, cA, f, h1, -, -, h4⟩
  · rw [if_pos h1]
    have := zyn64 c0.1 h1
    omega
  · rw [if_neg (by have := zty_kd h1; omega)]
    exact h4
theorem zyEl_some {B : zyB} {Y : zCx} {a k0 : Nat} {c0 : zyCl} (hg : zG B a = some c0) (hk : k0 < zyLen c0) : zyEl B Y H a k0 = H[zad Y a]?.bind (fun cell => cell.slots[if c0.1 < 12 then zdI Y c0.1 k0 else k0]?) := by
  unfold zyEl
  rw [hg]
  dsimp only
  rw [if_pos hk]
theorem zyEl_out {B : zyB} {Y : zCx} {H1 : Heap} {a k0 : Nat} {c0 : zyCl} (hg : zG B a = some c0) (hk : ¬ k0 < zyLen c0) : zyEl B Y H1 a k0 = zyEl B Y H a k0 := by
  unfold zyEl
  rw [hg]
  dsimp only
  rw [if_neg hk, if_neg hk]
theorem zyEl_nil {B : zyB} {Y : zCx} {H1 : Heap} {a k0 : Nat} (hg : zG B a = none) : zyEl B Y H1 a k0 = zyEl B Y H a k0 := by
  unfold zyEl
  rw [hg]
theorem zyEl_kept {B : zyB} {Y : zCx} {H1 : Heap} {a k0 : Nat} (hq : H1[zad Y a]? = H[zad Y a]?) : zyEl B Y H1 a k0 = zyEl B Y H a k0 := by
  unfold zyEl
  rw [hq]
/-- one element is written -/
theorem zyMem.upd {U : State} {l0 l1 : List (Nat × Nat)} {H1 : Heap} {a k0 : Nat} {c0 : zyCl} {x : Value} (hK : zyKn P X s) (hM : zyMem P X U l0 H) (hg : zG P.1 a = some c0) (hk : k0 < zyLen c0) (hq : ∀ q, q ≠ zad (zyb X) a → H1[q]? = H[q]?) (hsh : zySh (zyb X) U a c0 H1) (hel : zyEl P.1 (zyb X) H1 a k0 = some x) (helo : ∀ k1, k1 < zyLen c0 → k1 ≠ k0 → zyEl P.1 (zyb X) H1 a k1 = zyEl P.1 (zyb X) H a k1)
    (hfp : zyin P.2.2.1 a k0 = true) (hdj : zyin P.2.2.2.1 a k0 = false) (hm1 : zyEt X c0 l1 a k0 x) (hm2 : ∀ a1 c1 k1 w1, zG P.1 a1 = some c1 → k1 < zyLen c1 → ¬ (a1 = a ∧ k1 = k0) → zyEt X c1 l0 a1 k1 w1 → zyEt X c1 l1 a1 k1 w1) : zyMem P X U l1 H1 := by
  have ha := (hM.1 a c0 hg).1
  have key : ∀ a1 k1, ¬ (a1 = a ∧ k1 = k0) → zyEl P.1 (zyb X) H1 a1 k1 = zyEl P.1 (zyb X) H a1 k1 := by
    intro a1 k1 hn
    by_cases e1 : a1 = a
    · subst e1
      by_cases e2 : k1 < zyLen c0
      · exact helo k1 e2 (fun z => hn ⟨rfl, z⟩)
      · exact zyEl_out hg e2
    · cases hg1 : zG P.1 a1 with
      | none => exact zyEl_nil hg1
      | some c1 => exact zyEl_kept (hq _ (fun z => e1 (zyad (hM.1 a1 c1 hg1).1 ha z)))
  refine ⟨fun a1 c1 hg1 => ⟨(hM.1 a1 c1 hg1).1, ?_⟩, fun a1 c1 k1 hg1 hk1 => ?_, fun a1 k1 hf => ?_, ?_, fun q hq1 => ?_, fun q hq1 => ?_⟩
  · by_cases e1 : a1 = a
    · subst e1
      rw [hg] at hg1
      cases hg1
      exact hsh
    · have hq1 := hq _ (fun z => e1 (zyad (hM.1 a1 c1 hg1).1 ha z))
      rcases (hM.1 a1 c1 hg1).2 with ⟨h1, cell, h2, h3⟩ | ⟨ty, cA, f, h1, h2, h3⟩
      · exact Or.inl ⟨h1, cell, hq1.trans h2, h3⟩
      · exact Or.inr ⟨ty, cA, f, h1, hq1.trans h2, h3⟩
  · by_cases e1 : a1 = a ∧ k1 = k0
    · obtain ⟨e1, e2⟩ := e1
      subst e1
      subst e2
      rw [hg] at hg1
      cases hg1
      exact ⟨x, hel, hm1⟩
    · obtain ⟨w1, g1, g2⟩ := hM.2.1 a1 c1 k1 hg1 hk1
      exact ⟨w1, (key a1 k1 e1).trans g1, hm2 a1 c1 k1 w1 hg1 hk1 e1 g2⟩
  · have hn : ¬ (a1 = a ∧ k1 = k0) := by
      rintro ⟨e1, e2⟩
      rw [e1, e2, hfp] at hf
      cases hf
    rw [key a1 k1 hn]
    exact hM.2.2.1 a1 k1 hf
  · refine hK.2.1 _ _ (fun a1 k1 hj => ?_) hM.2.2.2.1
    have hn : ¬ (a1 = a ∧ k1 = k0) := by
      rintro ⟨e1, e2⟩
      rw [e1, e2, hdj] at hj
      cases hj
    exact (key a1 k1 hn).symm
  · rw [hq q (fun z => by have := zyad_ge (B := zyb X) ha; omega)]
    exact hM.2.2.2.2.1 q hq1
  · rw [hq q (hq1 a c0 hg)]
    exact hM.2.2.2.2.2 q hq1
/-- what is known of one element -/
theorem zyEt_set {c0 c1 : zyCl} {l0 : List (Nat × Nat)} {a k0 v a1 k1 : Nat} {x w1 : Value} (h0 : k0 < 16384) (h1 : k1 < 16384) : (zyV X v x → zyEt X c0 (zyset (a * 16384 + k0) v l0) a k0 x) ∧ (¬ (a1 = a ∧ k1 = k0) → zyEt X c1 l0 a1 k1 w1 → zyEt X c1 (zyset (a * 16384 + k0) v l0) a1 k1 w1) := by
  constructor
  · intro hv
    unfold zyEt
    rw [zyset_l, if_pos rfl]
    exact hv
  · intro hn h
    unfold zyEt at h ⊢
    rw [zyset_l, if_neg (fun z => hn (by omega))]
    exact h
theorem zyMem.know {U : State} {l0 : List (Nat × Nat)} {a k0 v : Nat} {c0 : zyCl} {x : Value} (hM : zyMem P X U l0 H) (hg : zG P.1 a = some c0) (hk : k0 < zyLen c0) (hel : zyEl P.1 (zyb X) H a k0 = some x) (hv : zyV X v x) : zyMem P X U (zyset (a * 16384 + k0) v l0) H := by
  have hl := zyLen_le hM hg
  refine ⟨hM.1, fun a1 c1 k1 hg1 hk1 => ?_, hM.2.2⟩
  obtain ⟨w1, g1, g2⟩ := hM.2.1 a1 c1 k1 hg1 hk1
  have hl1 := zyLen_le hM hg1
  refine ⟨w1, g1, ?_⟩
  by_cases e1 : a1 = a ∧ k1 = k0
  · obtain ⟨e1, e2⟩ := e1
    subst e1
    subst e2
    rw [hel] at g1
    cases g1
    exact (zyEt_set (c0 := c1) (c1 := c1) (a1 := 0) (k1 := 0) (w1 := x) (by omega) (by omega)).1 hv
  · exact (zyEt_set (c0 := c1) (x := w1) (by omega) (by omega)).2 e1 g2
theorem zynew_iff {v : Nat} {kk : zW → Nat → Bool} {x : Value} {ρ : Nat → Int32} {N : Nat} {ad : Nat → Nat} (h : zynew v w kk = true) (hE : zEnv ρ w.2) (hN : w.1 = N) (hv : zyv ρ N ad v x) : ∃ (ρ2 : Nat → Int32) (w2 : zW) (v2 : Nat), N ≤ w2.1 ∧ (∀ k, k < N → ρ2 k = ρ k) ∧ zEnv ρ2 w2.2 ∧ zyv ρ2 w2.1 ad v2 x ∧ kk w2 v2 = true := by
  unfold zynew at h
  simp only [zfr_eq, zn_m, zn_d] at h
  rcases zif_iff h with ⟨h1, h⟩ | ⟨-, h⟩
  · obtain ⟨z, rfl, b1, b2⟩ := zv_2 (zyv_zv hv (by have := zbeqT h1; omega) (by have := zbeqT h1; omega)) (zbeqT h1)
    obtain ⟨E2, g⟩ := zyfresh_iff h hE hN b1 b2
    exact ⟨_, _, _, Nat.le_succ _, fun k hk => zyρ2_lt hk, E2, zyv_new z, g⟩
  rcases zif_iff h with ⟨-, h⟩ | ⟨-, h⟩
  · cases h
  · exact ⟨ρ, w, v, Nat.le_of_eq hN.symm, fun _ _ => rfl, hE, by rw [hN]; exact hv, h⟩
/-- one element is read -/
theorem zyrd_iff {a j tg ln : Nat} {rows : zyR} {kk : zW → Nat → zyM → Bool} (h : zyrd P rows a j w m kk = true) (hR : zyRl P X s nL d w ls st q m H locs lsA stA) (hg : zG P.1 a = some (tg, ln, rows)) (hj : j < zyLen (tg, ln, rows)) :
    ∃ x, zyEl P.1 (zyb X) H a j = some x ∧ ∃ (ρ2 : Nat → Int32) (w2 : zW) (v : Nat) (m2 : zyM), zyN X ≤ w2.1 ∧ (∀ k, k < zyN X → ρ2 k = zyρ X k) ∧ zEnv ρ2 w2.2 ∧ zyV (zyre X ρ2 w2.1) v x ∧ zyMem P (zyre X ρ2 w2.1) s m2.1 H ∧ (∀ f ∈ m2.2, zyFm (zyre X ρ2 w2.1) f) ∧ kk w2 v m2 = true := by
  obtain ⟨x, hel, het⟩ := hR.2.1.2.1 a _ j hg hj
  have hl := zyLen_le hR.2.1 hg
  refine ⟨x, hel, ?_⟩
  unfold zyrd at h
  simp only [zfr_eq, zn_a, zn_u] at h
  have hv : ∃ v, zyV X v x ∧ zyval P v a j (a * 16384 + j) w m kk = true := by
    rw [zylk_eq] at h
    unfold zyEt at het
    cases hq : zyl m.1 (a * 16384 + j) with
    | some v =>
      rw [hq] at h het
      exact ⟨v, het, h⟩
    | none =>
      rw [hq] at h het
      obtain ⟨r, q1, q2, q3, q4⟩ := zyrw_iff h
      exact ⟨r.2.2, (het r q1 q2 q3).2, q4⟩
  clear h
  obtain ⟨v, hv, h⟩ := hv
  unfold zyval at h
  simp only [zfr_eq, zn_m, zn_d, zn_a, zn_u] at h
  rcases zif_iff h with ⟨h1, h⟩ | ⟨-, h⟩
  · have e1 := zbeqT h1
    obtain ⟨z, rfl, b1, b2⟩ := zv_2 (zyv_zv hv (by omega) (by omega)) e1
    obtain ⟨E2, g⟩ := zyfresh_iff h hR.1.1 hR.1.2.1 b1 b2
    rw [zyput_eq] at g
    have hr : ∀ k, k < zyN X → zyρ2 (zyρ X) (zyN X) z k = zyρ X k := fun k hk => zyρ2_lt hk
    have hN : zyN X ≤ zyN X + 1 := Nat.le_succ _
    have hM2 : zyMem P (zyre X (zyρ2 (zyρ X) (zyN X) z) (zyN X + 1)) s (zyset (a * 16384 + j) (zyN X * 34359738368 + 1) m.1) H := (hR.2.1.up hN hr).know hg hj hel (zyv_new z)
    refine ⟨_, (zyN X + 1, _), _, _, hN, hr, E2, zyv_new z, ?_, ?_, g⟩
    · cases hfp : zyin P.2.2.1 a j with
      | true => exact hM2
      | false => exact hM2
    · cases hfp : zyin P.2.2.1 a j with
      | true => exact fun f hf => (hR.1.2.2.2 f hf).up hN hr
      | false =>
        intro f hf
        rcases List.mem_cons.mp hf with z1 | z1
        · rw [z1]
          unfold zyFm
          rw [if_pos rfl]
          exact ⟨z, j, zyv_new z, zyv_mk rfl, by omega, (hR.2.1.2.2.1 a j hfp).symm.trans hel⟩
        · exact (hR.1.2.2.2 f z1).up hN hr
  rcases zif_iff h with ⟨h1, h⟩ | ⟨-, h⟩
  · have e1 := zbeqT h1
    obtain ⟨g1, g2⟩ := zand_iff h
    rw [zyput_eq] at g1 g2
    have hN : zyN X ≤ w.1 := Nat.le_of_eq hR.1.2.1.symm
    have fin : ∀ v2, zyV X v2 x → kk w v2 (zyset (a * 16384 + j) v2 m.1, m.2) = true → ∃ (ρ2 : Nat → Int32) (w2 : zW) (v : Nat) (m2 : zyM), zyN X ≤ w2.1 ∧ (∀ k, k < zyN X → ρ2 k = zyρ X k) ∧ zEnv ρ2 w2.2 ∧ zyV (zyre X ρ2 w2.1) v x ∧ zyMem P (zyre X ρ2 w2.1) s m2.1 H ∧ (∀ f ∈ m2.2, zyFm (zyre X ρ2 w2.1) f) ∧ kk w2 v m2 = true := by
      intro v2 h2 h3
      exact ⟨zyρ X, w, v2, (zyset (a * 16384 + j) v2 m.1, m.2), hN, fun _ _ => rfl, hR.1.1, zyv_up h2 (fun _ _ => rfl) hN, (hR.2.1.know hg hj hel h2).up hN (fun _ _ => rfl), fun f hf => (hR.1.2.2.2 f hf).up hN (fun _ _ => rfl), h3⟩
    rcases hv with ⟨hz, -⟩ | ⟨z, -⟩ | ⟨-, z⟩
    · rcases hz with ⟨z, -⟩ | ⟨z, -⟩ | ⟨z, -⟩ | ⟨z, -⟩ | ⟨z, -⟩ | ⟨z, -⟩ | ⟨z, -⟩ <;> omega
    · omega
    · rcases z with z | z
      · exact fin _ (by rw [z]; exact zyv_ref _) g1
      · exact fin _ (by rw [z]; exact zyv_ref _) g2
  · have hN : zyN X ≤ w.1 := Nat.le_of_eq hR.1.2.1.symm
    exact ⟨zyρ X, w, v, m, hN, fun _ _ => rfl, hR.1.1, zyv_up hv (fun _ _ => rfl) hN, hR.2.1.up hN (fun _ _ => rfl), fun f hf => (hR.1.2.2.2 f hf).up hN (fun _ _ => rfl), h⟩
/-- on with another memory, symbols, stack -/
theorem zygoW (hKS : zyKS p l e R s mt args below meth c Q P X cf y fs nL d k) {ρ2 : Nat → Int32} {w2 : zW} {pc2 : Nat} {st2 : List Nat} {stB : List Value} {m2 : zyM} (h : k w2 cf y pc2 ls st2 q fs m2 = true) (hR : zyRl P X s nL d w ls st q m H locs lsA stA) (hN : zyN X ≤ w2.1) (hr : ∀ k, k < zyN X → ρ2 k = zyρ X k) (hE : zEnv ρ2 w2.2) (h2 : zySt (zyre X ρ2 w2.1) st2 stB)
    (hM : zyMem P (zyre X ρ2 w2.1) s m2.1 H) (hf : ∀ f ∈ m2.2, zyFm (zyre X ρ2 w2.1) f) : W p l e R s mt args below meth c H locs q.2.1 q.2.2 Q (F0 mt pc2 lsA stB) :=
  hKS ρ2 w2.1 _ _ _ _ _ _ _ _ _ _ h ⟨⟨hE, rfl, hR.1.2.2.1.up hN hr, hf⟩, hM, hR.2.2.1, hR.2.2.2.1.up hN hr, h2, hR.2.2.2.2.2⟩
theorem zylowH (hM : zyMem P X s m.1 H) : ∀ a : Nat, a < (zH0 (zyb X)).size → ¬ zUp (zyb X) a → H[a]? = (zH0 (zyb X))[a]? := fun a _ h => hM.2.2.2.2.1 a (Nat.not_le.mp h)
theorem zyw_getf (hexec : p.tables.exec = Jvm.exec) (hb : c.code = cc) (hown : s.vm.findClass own = some mt.cls) (hK : zyKn P X s) (hlk : zlf own idx ax pp = true) (hdg : decode cc pc = .ok (.getfield idx, 3)) (hnx : nx = pc + 3)
    (hKS : zyKS p l e R s mt args below meth c Q P X cf y fs nL d k) (h : zyo_getf P nx ax k w cf y pc ls st q fs m = true) (hR : zyRl P X s nL d w ls st q m H locs lsA stA) : W p l e R s mt args below meth c H locs q.2.1 q.2.2 Q (F0 mt pc lsA stA) := by
  subst hnx
  unfold zyo_getf at h
  simp only [zfr_eq, zn_m, zn_d, zn_a, zn_s, zn_c] at h
  obtain ⟨a, r, es, h'⟩ := zpop_iff h
  clear h
  have h := h'
  clear h'
  subst es
  obtain ⟨x', stB, rfl, ha, hS2⟩ := zySt_c hR.2.2.2.2.1
  rcases zif_iff h with ⟨h1, h⟩ | ⟨-, h⟩
  rotate_left
  · cases h
  have ea := zyv_3 ha (zbeqT h1)
  have e8 : a % 8 = 3 := zbeqT h1
  subst ea
  have hlow := zylowH hR.2.1
  rcases zif_iff h with ⟨h2, h⟩ | ⟨h2, h⟩
  · have h2 := zbleT h2
    rcases zif_iff h with ⟨h3, h⟩ | ⟨-, h⟩
    rotate_left
    · cases h
    have h3 : a / 8 - 100000 + 1 ≤ 30 := zbleT h3
    obtain ⟨i, hi⟩ : ∃ i, a / 8 = 100000 + i := ⟨a / 8 - 100000, by omega⟩
    obtain ⟨-, -, hCo, hVa, -⟩ := hK.1.2.2.2.1 i (by omega)
    rw [hi, zhigh (by omega)] at ha ⊢
    unfold zlf at hlk
    rcases zif_iff h with ⟨h4, h⟩ | ⟨h4, h⟩
    · rw [if_pos (zbeqT h4), decide_eq_true_eq] at hlk
      have hln := zword (args := args) hK.1 (zwd_mem hlk) rfl
      obtain ⟨cf0, kk, fi, f, cell, g1, g2, g3, g4, g5, g6⟩ := hVa.kept hlow
      refine W.getf hexec hb hown hln g1 g2 g3 g4 (v := .ref (zhi (zyb X) (200000 + i))) g5 rfl rfl hdg (zygo hKS h hR rfl hR.1.1 ⟨?_, hS2⟩)
      have e9 : a + 800000 = 8 * (200000 + i) + 3 := by omega
      rw [e9, ← zhigh (X := zyb X) (a := 200000 + i) (by omega)]
      exact zyv_ref _
    · rcases zif_iff h with ⟨h5, h⟩ | ⟨-, h⟩
      rotate_left
      · cases h
      rw [if_neg (zbeqF h4), if_pos (zbeqT h5), decide_eq_true_eq] at hlk
      have hln := zword (args := args) hK.1 (zwd_mem hlk) rfl
      obtain ⟨cf0, kk, fi, f, cell, g1, g2, g3, g4, g5, g6⟩ := hCo.kept hlow
      exact W.getf hexec hb hown hln g1 g2 g3 g4 (v := .int 0) g5 rfl rfl hdg (zygo hKS h hR rfl hR.1.1 ⟨zyv_zero, hS2⟩)
  · obtain ⟨⟨tg, ln, rows⟩, hg, h⟩ := zget_iff h
    dsimp only at h
    rcases zif_iff h with ⟨h3, h⟩ | ⟨-, h⟩
    rotate_left
    · cases h
    have h3 : tg = ax / 64 := zbeqT h3
    have hsh := (hR.2.1.1 _ _ hg).2
    have n1 : ¬ ax = 832 := by
      intro n1
      rcases hsh with ⟨q1, -⟩ | ⟨ty, cA, f, q1, -⟩
      · have : tg < 12 := q1
        omega
      · have := zty_kd (show zty tg = some ty from q1)
        omega
    have n2 : ¬ ax = 833 := by
      intro n2
      rcases hsh with ⟨q1, -⟩ | ⟨ty, cA, f, q1, -⟩
      · have : tg < 12 := q1
        omega
      · have := zty_kd (show zty tg = some ty from q1)
        omega
    unfold zlf at hlk
    rw [if_neg n1, if_neg n2] at hlk
    simp only [Bool.and_eq_true, Bool.or_eq_true, decide_eq_true_eq] at hlk
    obtain ⟨⟨hc12, hkN⟩, hlk⟩ := hlk
    have hfin := h
    clear h
    subst h3
    have hlen : zyLen (ax / 64, ln, rows) = zxCn (ax / 64) := if_pos hc12
    rcases hsh with ⟨q1, cell, q2, q3, q4⟩ | ⟨ty, cA, f, q1, -⟩
    rotate_left
    · exfalso
      have := zty_kd (show zty (ax / 64) = some ty from q1)
      omega
    obtain ⟨x, hel, ρ2, w2, v, m2, hN, hr, hE2, hv, hM2, hf2, hk⟩ := zyrd_iff hfin hR hg (by rw [hlen]; exact hkN)
    have hsl : cell.slots[zdI (zyb X) (ax / 64) (ax % 64)]? = some x := by
      rw [zyEl_some hg (by rw [hlen]; exact hkN), q2, Option.bind_some] at hel
      dsimp only at hel
      rw [if_pos hc12] at hel
      exact hel
    obtain ⟨hSl, hfc, kC, hkC, hkind⟩ := hK.1.2.1 (ax / 64) _ (zvw _ hc12)
    obtain ⟨cf0, kf, fi, f, hi, hse⟩ := hSl (ax % 64) hkN
    have hstat := (u_facts (args := args) hfc hkC (u_lays (zTs_ok hK.1) (zTs_in hc12) hkN) hi).1
    have hgo := zygoW hKS hk hR hN hr hE2 (stB := x :: stB) ⟨hv, hS2.up hN hr⟩ hM2 hf2
    rcases hlk with hlk | hlk
    · exact W.getf hexec hb hown (zword (args := args) hK.1 (zwd_mem hlk) rfl) hi hstat q2 (by rw [q4]; exact fun z => by cases z) (v := x) (by rw [hse]; exact hsl) rfl rfl hdg hgo
    · exact va_Wgetf hexec hb hown (zword (args := args) hK.1 (zwd_mem hlk) rfl) hi hstat q2 (by rw [q4]; exact fun z => by cases z) (v := x) (by rw [hse]; exact hsl) rfl rfl hdg hgo
theorem zybool {x : Int32} (h1 : 2147483648 ≤ zB x) (h2 : zB x ≤ 2147483649) : x = 0 ∨ x = 1 := by
  by_cases h : zB x = 2147483648
  · exact Or.inl (zB_inj (by rw [h]; decide))
  · exact Or.inr (zB_inj (by rw [show zB x = 2147483649 by omega]; decide))
theorem zyfit_iff {g v : Nat} {x : Value} {ty : FieldType} (h : zyfit w g v = true) (hE : zEnv (zyρ X) w.2) (hv : zyV X v x) (ht : zkt ty = g) : narrow ty x = x ∧ fits ty x = true := by
  unfold zyfit at h
  simp only [zn_m] at h
  rcases zif_iff h with ⟨h1, h⟩ | ⟨h1, h⟩
  · have e1 := zbeqT h1
    obtain ⟨n, rfl⟩ := zyv_int hv (zbleT h)
    rw [e1] at ht
    cases ty <;> first | exact ⟨rfl, rfl⟩ | (exfalso; revert ht; decide) | (cases ht)
  rcases zif_iff h with ⟨h2, h⟩ | ⟨h2, h⟩
  · have e1 := zbeqT h2
    rw [e1] at ht
    obtain ⟨n, lo, hi, rfl, b1, b2, h⟩ := zybd_iff h hE hv
    obtain ⟨g1, g2⟩ := zand_iff h
    have g1 := zbleT g1
    have g2 := zbleT g2
    have hx := zybool (x := n) (by omega) (by omega)
    cases ty <;> first | (rcases hx with rfl | rfl <;> exact ⟨by decide, by decide⟩) | (cases ht)
  rcases zif_iff h with ⟨h3, h⟩ | ⟨h3, h⟩
  · have e1 := zbeqT h3
    rw [e1] at ht
    obtain ⟨z, hx, -⟩ := zyv_4 hv (zbeqT h)
    subst hx
    cases ty <;> first | exact ⟨rfl, rfl⟩ | (cases ht)
  rcases zif_iff h with ⟨h4, h⟩ | ⟨h4, h⟩
  · have e1 := zbeqT h4
    rw [e1] at ht
    have hx := zyv_3 hv (zbeqT h)
    subst hx
    cases ty <;> first | exact ⟨rfl, rfl⟩ | (cases ht)
  · cases h
theorem zyF_n {b : Bool} (h : zif b false true = true) : b = false := by
  cases b
  · rfl
  · cases h
theorem zyw_putf (hexec : p.tables.exec = Jvm.exec) (hb : c.code = cc) (hown : s.vm.findClass own = some mt.cls) (hK : zyKn P X s) (hlt : ax < 768) (hlk : zlf own idx ax pp = true) (hdg : decode cc pc = .ok (.putfield idx, 3)) (hnx : nx = pc + 3)
    (hKS : zyKS p l e R s mt args below meth c Q P X cf y fs nL d k) (h : zyo_putf P nx ax k w cf y pc ls st q fs m = true) (hR : zyRl P X s nL d w ls st q m H locs lsA stA) : W p l e R s mt args below meth c H locs q.2.1 q.2.2 Q (F0 mt pc lsA stA) := by
  subst hnx
  unfold zyo_putf at h
  simp only [zfr_eq, zn_m, zn_d, zn_a, zn_u] at h
  obtain ⟨v, t, es, h'⟩ := zpop_iff h
  clear h
  have h := h'
  clear h'
  subst es
  obtain ⟨a, r, es, h'⟩ := zpop_iff h
  clear h
  have h := h'
  clear h'
  subst es
  obtain ⟨x, stB, rfl, hv, hS2⟩ := zySt_c hR.2.2.2.2.1
  obtain ⟨a', stC, rfl, ha, hS3⟩ := zySt_c hS2
  rcases zif_iff h with ⟨h1, h⟩ | ⟨-, h⟩
  rotate_left
  · cases h
  obtain ⟨h1, h2⟩ := zand_iff h1
  obtain ⟨h2, h3⟩ := zand_iff h2
  obtain ⟨h3, h4⟩ := zand_iff h3
  obtain ⟨h4, h5⟩ := zand_iff h4
  have h5 := zyF_n h5
  have h3 := zbleT h3
  have ea := zyv_3 ha (zbeqT h1)
  subst ea
  obtain ⟨⟨tg, ln, rows⟩, hg, h⟩ := zget_iff h
  dsimp only at h
  rcases zif_iff h with ⟨h6, hfin⟩ | ⟨-, h⟩
  rotate_left
  · cases h
  have h6 : tg = ax / 64 := zbeqT h6
  rw [zyput_eq] at hfin
  clear h
  subst h6
  unfold zlf at hlk
  rw [if_neg (by omega), if_neg (by omega)] at hlk
  simp only [Bool.and_eq_true, Bool.or_eq_true, decide_eq_true_eq] at hlk
  obtain ⟨⟨hc12, hkN⟩, hlk⟩ := hlk
  have hlen : zyLen (ax / 64, ln, rows) = zxCn (ax / 64) := if_pos hc12
  obtain ⟨hlt90, hsh⟩ := hR.2.1.1 _ _ hg
  rcases hsh with ⟨q1, cell, q2, q3, q4⟩ | ⟨ty, cA, f, q1, -⟩
  rotate_left
  · exfalso
    have := zty_kd (show zty (ax / 64) = some ty from q1)
    omega
  obtain ⟨z1, z2, z3, -⟩ := zkks (ax / 64) hc12 (ax % 64) hkN
  have e64 : 64 * (ax / 64) + ax % 64 = ax := by omega
  rw [e64] at z1 z2
  obtain ⟨hnar, hfit⟩ := zyfit_iff h2 hR.1.1 hv z1
  obtain ⟨x0, hel0, -⟩ := hR.2.1.2.1 _ _ (ax % 64) hg (by rw [hlen]; exact hkN)
  have hsl : cell.slots[zdI (zyb X) (ax / 64) (ax % 64)]? = some x0 := by
    rw [zyEl_some hg (by rw [hlen]; exact hkN), q2, Option.bind_some] at hel0
    dsimp only at hel0
    rw [if_pos hc12] at hel0
    exact hel0
  obtain ⟨hSl, hfc, kC, hkC, hkind⟩ := hK.1.2.1 (ax / 64) _ (zvw _ hc12)
  obtain ⟨cf0, kf, fi, f, hi, hse⟩ := hSl (ax % 64) hkN
  have hul := u_lays (zTs_ok (args := args) hK.1) (zTs_in hc12) hkN
  have hstat := (u_facts (args := args) hfc hkC hul hi).1
  have hft := u_fits hfc hkC hkind hul hi (ztys (ax / 64) hc12 (ax % 64) hkN) hnar hfit
  have hlay := zTs_ok (args := args) hK.1 _ (zTs_in hc12 _ (u_in_lay hkN))
  have hfin2 : hasFlag f.accessFlags Acc.final = false ∨ (mt.cls = cf0 ∧ meth.name = "<init>") := by
    cases hfl : (zTX (ax / 64) (ax % 64)).2.2.2 with
    | false =>
      unfold u_lay at hlay
      rw [if_neg (by rw [hfl]; decide)] at hlay
      exact Or.inl (u_store hfc hkC hkind hlay hi (ztys (ax / 64) hc12 (ax % 64) hkN) hnar hfit).1
    | true =>
      exfalso
      rw [hfl] at z2
      have z2 := zbleT z2.symm
      omega
  have hal : zad (zyb X) (a / 8) < H.size := (Array.getElem?_eq_some_iff.mp q2).1
  have hslt : f.slot < cell.slots.size := by rw [hse]; exact k2_hasslot hsl
  have go : W p l e R s mt args below meth c (H.setIfInBounds (zad (zyb X) (a / 8)) (cell.setSlot f.slot x)) (locs ++ [⟨zad (zyb X) (a / 8), f.slot⟩]) q.2.1 q.2.2 Q (F0 mt (pc + 3) lsA stC) := by
    have hH1 : (H.setIfInBounds (zad (zyb X) (a / 8)) (cell.setSlot f.slot x))[zad (zyb X) (a / 8)]? = some (cell.setSlot f.slot x) := by simp [Array.getElem?_setIfInBounds, hal]
    have k64 : ax % 64 < 16384 := by omega
    have hMem : zyMem P X s (zyset (a / 8 * 16384 + ax % 64) v m.1) (H.setIfInBounds (zad (zyb X) (a / 8)) (cell.setSlot f.slot x)) := by
      refine zyMem.upd (s := s) (x := x) hK hR.2.1 hg (by rw [hlen]; exact hkN) (fun b hb => by simp [Array.getElem?_setIfInBounds, Ne.symm hb]) (Or.inl ⟨q1, cell.setSlot f.slot x, hH1, q3, q4⟩) ?_ (fun k1 hk1 hne => ?_) h4 h5 ((zyEt_set (c1 := (0, 0, [])) (a1 := 0) (k1 := 0) (w1 := x) k64 (by omega)).1 hv) (fun a1 c1 k1 w1 hg1 hk1 hn het => (zyEt_set (c0 := (0, 0, [])) (x := x) k64 (by have := zyLen_le hR.2.1 hg1; omega)).2 hn het)
      · rw [zyEl_some hg (by rw [hlen]; exact hkN), hH1, Option.bind_some]
        dsimp only
        rw [if_pos hc12, hse]
        rw [hse] at hslt
        simp [Cell.setSlot, hslt]
      · rw [zyEl_some hg hk1, zyEl_some hg hk1, hH1, q2, Option.bind_some, Option.bind_some]
        dsimp only
        rw [if_pos hc12]
        rw [hlen] at hk1
        have hne2 := zapart hK.1 hc12 k1 (ax % 64) hk1 hkN hne
        rw [hse]
        simp only [Cell.setSlot]
        rw [Array.getElem?_setIfInBounds_ne (fun q => hne2 q.symm)]
    refine hKS (zyρ X) (zyN X) _ _ _ _ _ _ _ _ _ _ hfin ⟨hR.1, hMem, fun z hz => ?_, hR.2.2.2.1, hS3, hR.2.2.2.2.2⟩
    · rcases List.mem_append.mp hz with h7 | h7
      · exact hR.2.2.1 z h7
      · rw [List.mem_singleton] at h7
        rw [h7]
        exact zyad_ge hlt90
  rcases hlk with hlk | hlk
  · exact W.putf hexec hb hown (zword (args := args) hK.1 (zwd_mem hlk) rfl) hi hstat hfin2 q2 (by rw [q4]; exact fun z => by cases z) hslt hft.1 (by rw [q3, q4]; exact hft.2) rfl rfl hdg go
  · exact va_Wputf hexec hb hown (zword (args := args) hK.1 (zwd_mem hlk) rfl) hi hstat hfin2 q2 (by rw [q4]; exact fun z => by cases z) hslt hft.1 (by rw [q3, q4]; exact hft.2) rfl rfl hdg go
theorem zyw_alen (hexec : p.tables.exec = Jvm.exec) (hb : c.code = cc) (hK : zyKn P X s) (hdg : decode cc pc = .ok (.arraylength, 1)) (hnx : nx = pc + 1)
    (hKS : zyKS p l e R s mt args below meth c Q P X cf y fs nL d k) (h : zyo_alen P nx ax k w cf y pc ls st q fs m = true) (hR : zyRl P X s nL d w ls st q m H locs lsA stA) : W p l e R s mt args below meth c H locs q.2.1 q.2.2 Q (F0 mt pc lsA stA) := by
  subst hnx
  unfold zyo_alen at h
  simp only [zfr_eq, zn_m, zn_d, zn_u, zn_s, zn_c] at h
  obtain ⟨a, r, es, h'⟩ := zpop_iff h
  clear h
  have h := h'
  clear h'
  subst es
  obtain ⟨x, stB, rfl, ha, hS2⟩ := zySt_c hR.2.2.2.2.1
  rcases zif_iff h with ⟨h1, h⟩ | ⟨-, h⟩
  rotate_left
  · cases h
  have ea := zyv_3 ha (zbeqT h1)
  subst ea
  have hlow := zylowH hR.2.1
  rcases zif_iff h with ⟨h3, h⟩ | ⟨h3, h⟩
  · have h3 := zbleT h3
    rcases zif_iff h with ⟨h4, h⟩ | ⟨-, h⟩
    rotate_left
    · cases h
    have h4 : a / 8 - 200000 + 1 ≤ 30 := zbleT h4
    obtain ⟨i, hi⟩ : ∃ i, a / 8 = 200000 + i := ⟨a / 8 - 200000, by omega⟩
    obtain ⟨-, -, -, -, hT⟩ := hK.1.2.2.2.1 i (by omega)
    obtain ⟨cell, t1, t2, t3, t4, t5, t6, t7⟩ := hT.kept hlow
    rw [hi, zhigh (by omega)]
    rw [hi, show 200000 + i - 200000 = i by omega] at h
    exact W.alen (n := Int32.ofNat (zxTl i)) hexec hb t1 t2 t5 rfl rfl hdg (zygo hKS h hR rfl hR.1.1 ⟨zyv_mk rfl, hS2⟩)
  · obtain ⟨⟨tg, ln, rows⟩, hg, h⟩ := zget_iff h
    dsimp only at h
    rcases zif_iff h with ⟨h5, h⟩ | ⟨-, h⟩
    rotate_left
    · cases h
    obtain ⟨h5, h6⟩ := zand_iff h5
    have h5 := zbleT h5
    rcases (hR.2.1.1 _ _ hg).2 with ⟨q1, -⟩ | ⟨ty, cA, f, q1, q2, q3, q4⟩
    · have : tg < 12 := q1
      omega
    · exact W.alen (n := Int32.ofNat ln) hexec hb q2 (q3 _ _) (by rw [arrV_size]) rfl rfl hdg (zygo hKS h hR rfl hR.1.1 ⟨zyv_mk rfl, hS2⟩)
end ZYM
end
section
/-! THE MACHINE's STEPS for the second executor: arrays, switches, constants -/
section ZYN
variable {p : Program} {l : Launch} {e : Env} {R : Room} {s : State} {mt : MethodId} {args : Array Value} {below : List Frame} {meth : Method} {c : Code} {Q : State → Prop} {P : zyP} {X : zyX} {cf : Nat → zT} {y : zY} {fs : List zFr} {nL : Nat} {d : Nat × Nat × Nat} {k : zyK}
variable {w : zW} {pc nx ax : Nat} {ls st : List Nat} {q : zQ} {m : zyM} {H : Heap} {locs : List Loc} {lsA : Array Slot} {stA : List Value} {own : String} {cc : ByteArray} {idx pp : Nat}
theorem zyidx_iff {j : Nat} {again : zW → Bool} {k1 : Nat → Bool} {k2 : Nat → Nat → Bool} {ρ : Nat → Int32} {N : Nat} {ad : Nat → Nat} {x' : Value} (h : zyidx P w j again k1 k2 = true) (hE : zEnv ρ w.2) (hv : zyv ρ N ad j x') :
    (∃ w2 : zW, w2.1 = w.1 ∧ zEnv ρ w2.2 ∧ again w2 = true) ∨ (∃ u : Nat, x' = .int (Int32.ofNat u) ∧ k1 u = true) ∨ ∃ n lo hi : Nat, x' = .int (Int32.ofNat n) ∧ n < 2147483648 ∧ lo ≤ n ∧ n ≤ hi ∧ k2 lo hi = true := by
  unfold zyidx at h
  simp only [zfr_eq, zn_m, zn_d, zn_s] at h
  rcases zif_iff h with ⟨h1, h⟩ | ⟨-, h⟩
  · exact Or.inr (Or.inl ⟨_, zyv_0 hv (zbeqT h1), h⟩)
  rcases zyhalf_iff h hE hv with q | h
  · exact Or.inl q
  rcases zykn_iff h hE hv with ⟨u, e1, h⟩ | h
  · exact Or.inr (Or.inl ⟨u, e1, h⟩)
  obtain ⟨x, lo, hi, rfl, b1, b2, h⟩ := zybd_iff h hE hv
  rcases zif_iff h with ⟨h1, h⟩ | ⟨-, h⟩
  · have h1 := zbleT h1
    obtain ⟨e1, l1, e2⟩ := zyp (x := x) (by omega)
    exact Or.inr (Or.inr ⟨x.toBitVec.toNat, _, _, by rw [show Int32.ofNat x.toBitVec.toNat = x from zN_self x], l1, by omega, by omega, h⟩)
  · cases h
/-- what was known of a range goes -/
theorem zyMem.flush {U : State} {l0 u : List (Nat × Nat)} {a tg ln lo hi : Nat} {rows : zyR} (hM : zyMem P X U l0 H) (hE : zEnv (zyρ X) w.2) (hg : zG P.1 a = some (tg, ln, rows)) (hhi : hi < zyLen (tg, ln, rows)) (h1 : ∀ key, (a * 16384 + lo ≤ key ∧ key ≤ a * 16384 + hi → zyl u key = none) ∧ (¬ (a * 16384 + lo ≤ key ∧ key ≤ a * 16384 + hi) → zyl u key = zyl l0 key))
    (h2 : ∀ key v, a * 16384 + lo ≤ key → key ≤ a * 16384 + hi → zyl l0 key = some v → ∀ r ∈ rows, r.1 ≤ key - a * 16384 → key - a * 16384 ≤ r.2.1 → zysub w v r.2.2 = true) : zyMem P X U u H ∧ ∀ k0, lo ≤ k0 → k0 ≤ hi → ∃ x, zyEl P.1 (zyb X) H a k0 = some x ∧ ∀ r ∈ rows, r.1 ≤ k0 → k0 ≤ r.2.1 → ¬ r.2.2 % 8 = 1 ∧ zyV X r.2.2 x := by
  have hl := zyLen_le hM hg
  have key : ∀ k0, lo ≤ k0 → k0 ≤ hi → ∀ x, zyEt X (tg, ln, rows) l0 a k0 x → ∀ r ∈ rows, r.1 ≤ k0 → k0 ≤ r.2.1 → ¬ r.2.2 % 8 = 1 ∧ zyV X r.2.2 x := by
    intro k0 g1 g2 x het r hr r1 r2
    unfold zyEt at het
    cases hq : zyl l0 (a * 16384 + k0) with
    | none => rw [hq] at het; exact het r hr r1 r2
    | some v =>
      rw [hq] at het
      have q := h2 (a * 16384 + k0) v (by omega) (by omega) hq r hr (by omega) (by omega)
      exact zysub_iff q hE het
  refine ⟨⟨hM.1, fun a1 c1 k1 hg1 hk1 => ?_, hM.2.2⟩, fun k0 g1 g2 => ?_⟩
  · obtain ⟨w1, q1, q2⟩ := hM.2.1 a1 c1 k1 hg1 hk1
    have hl1 := zyLen_le hM hg1
    refine ⟨w1, q1, ?_⟩
    by_cases hin : a * 16384 + lo ≤ a1 * 16384 + k1 ∧ a1 * 16384 + k1 ≤ a * 16384 + hi
    · have e1 : a1 = a := by omega
      subst e1
      rw [hg] at hg1
      cases hg1
      unfold zyEt
      rw [(h1 _).1 hin]
      exact key k1 (by omega) (by omega) w1 q2
    · unfold zyEt at q2 ⊢
      rw [(h1 _).2 hin]
      exact q2
  · obtain ⟨w1, q1, q2⟩ := hM.2.1 a _ k0 hg (by omega)
    exact ⟨w1, q1, key k0 g1 g2 w1 q2⟩
theorem zyfa_iff {g j : Nat} : ∀ {F : List zyF}, zyfa w g j F = true → ∃ f ∈ F, f.1 = 24 ∧ f.2.2.1 = g ∧ f.2.2.2 = j ∧ zbd w f.2.1 (fun lo _ => Nat.ble 2147483648 lo) = true := by
  intro F
  induction F with
  | nil => intro h; cases h
  | cons f t ih =>
    intro h
    have e : zyfa w g j (f :: t) = zif (zand (Nat.beq f.1 24) (zand (Nat.beq f.2.2.1 g) (zand (Nat.beq f.2.2.2 j) (zbd w f.2.1 (fun lo _ => Nat.ble 2147483648 lo))))) true (zyfa w g j t) := rfl
    rw [e] at h
    rcases zif_iff h with ⟨h1, -⟩ | ⟨-, h1⟩
    · obtain ⟨g1, g2⟩ := zand_iff h1
      obtain ⟨g2, g3⟩ := zand_iff g2
      obtain ⟨g3, g4⟩ := zand_iff g3
      exact ⟨f, List.mem_cons_self, zbeqT g1, zbeqT g2, zbeqT g3, g4⟩
    · obtain ⟨f2, q1, q2⟩ := ih h1
      exact ⟨f2, List.mem_cons_of_mem _ q1, q2⟩
theorem zyrl_iff {F : List zyF} {a lo hi j : Nat} : ∀ {l : zyR}, zyrl P w F a lo hi j l = true → ∃ p0 ∈ l, p0.1 = 100000 + a ∧ zycov P.2.2.2.1 a lo hi = true ∧ zyapt P.2.2.1 p0.2.1 lo hi = true ∧ zyfa w p0.2.1 j F = true := by
  intro l
  induction l with
  | nil => intro h; cases h
  | cons p0 t ih =>
    intro h
    have e : zyrl P w F a lo hi j (p0 :: t) = zif (zand (Nat.beq p0.1 (100000 + a)) (zand (zycov P.2.2.2.1 a lo hi) (zand (zyapt P.2.2.1 p0.2.1 lo hi) (zyfa w p0.2.1 j F)))) true (zyrl P w F a lo hi j t) := rfl
    rw [e] at h
    rcases zif_iff h with ⟨h1, -⟩ | ⟨-, h1⟩
    · obtain ⟨g1, g2⟩ := zand_iff h1
      obtain ⟨g2, g3⟩ := zand_iff g2
      obtain ⟨g3, g4⟩ := zand_iff g3
      exact ⟨p0, List.mem_cons_self, zbeqT g1, g2, g3, g4⟩
    · obtain ⟨f2, q1, q2⟩ := ih h1
      exact ⟨f2, List.mem_cons_of_mem _ q1, q2⟩
theorem zyrf_iff {a lo hi j v n : Nat} {x : Value} (hK : zyKn P X s) (hR : zyRl P X s nL d w ls st q m H locs lsA stA) (hj : zyV X j (.int (Int32.ofNat n))) (hn : n < 2147483648) (h1 : lo ≤ n) (h2 : n ≤ hi) (hel : zyEl P.1 (zyb X) H a n = some x) (hv : zyV X v x) : zyV X (zyrf P w m.2 a lo hi j v) x := by
  unfold zyrf
  cases hc : zand (Nat.beq (Nat.mod v 8) 2) (zand (Nat.beq (Nat.mod j 8) 1) (zyrl P w m.2 a lo hi j P.2.2.2.1)) with
  | false => exact hv
  | true =>
    obtain ⟨c1, c2⟩ := zand_iff hc
    obtain ⟨c2, c3⟩ := zand_iff c2
    have c1 : v % 8 = 2 := zbeqT c1
    have c2 : j % 8 = 1 := zbeqT c2
    obtain ⟨p0, p1, p2, p5, p3, p4⟩ := zyrl_iff c3
    obtain ⟨f, f1, f2, f3, f4, f5⟩ := zyfa_iff p4
    have hf := hR.1.2.2.2 f f1
    unfold zyFm at hf
    rw [if_pos f2, f3, f4] at hf
    obtain ⟨z, j2, z1, z2, z3, z4⟩ := hf
    obtain ⟨xi, rfl, b1, b2⟩ := zv_2 (zyv_zv hv (by omega) (by omega)) c1
    have e1 := Value.int.inj (zv_1 (zyv_zv hj (by omega) (by omega)) c2)
    have e2 := Value.int.inj (zv_1 (zyv_zv z2 (by omega) (by omega)) c2)
    have e3 : n = j2 := by
      have e4 : (Int32.ofNat n).toBitVec.toNat = (Int32.ofNat j2).toBitVec.toNat := by rw [e1, e2]
      rw [zN_of, zN_of] at e4
      omega
    subst e3
    obtain ⟨zz, l0, h0, ez, d1, d2, d3⟩ := zybd_iff f5 hR.1.1 z1
    have ez := Value.int.inj ez
    subst ez
    have d3 := zbleT d3
    have hg := hR.2.1.2.2.1 p0.2.1 n (zyapt_iff p3 n h1 h2)
    have hfin := hK.2.2.1 _ hR.2.1.2.2.2.1 p0 p1 (by omega) n xi z (by rw [p2, show 100000 + a - 100000 = a by omega]; exact zycov_iff p5 n h1 h2) (by rw [p2, show 100000 + a - 100000 = a by omega]; exact hel) (by rw [hg]; exact z4) (by omega)
    rw [zif_t]
    have hmax : max (v / 34359738368) 2147483648 ≤ zB xi := Nat.max_le.mpr ⟨b1, hfin⟩
    have hq := zyv_bd (ρ := zyρ X) (N := zyN X) (ad := zad (zyb X)) (x := xi) hmax b2 (Nat.mod_lt _ (by decide))
    exact hq
theorem zyw_ald {k1 k2 : Nat} (hk1 : 20 ≤ k1 ∧ k1 ≤ 23) (hk2 : 20 ≤ k2 ∧ k2 ≤ 23) (hK : zyKn P X s) (hKS : zyKS p l e R s mt args below meth c Q P X cf y fs nL d k) (h : zyo_ald P k1 k2 nx ax k w cf y pc ls st q fs m = true) (hR : zyRl P X s nL d w ls st q m H locs lsA stA)
    (row : ∀ (g : Nat) (ty : FieldType) (a : Addr) (cell : Cell) (j : Int32) (v : Value) (r : List Value), (g = k1 ∨ g = k2) → zty g = some ty → H[a]? = some cell → s.isArrayOf cell ty → cell.vm ≠ .unknown → ¬ (j < 0 ∨ cell.slots.size ≤ j.toNatClampNeg) → cell.slots[j.toNatClampNeg]? = some v → W p l e R s mt args below meth c H locs q.2.1 q.2.2 Q (F0 mt nx lsA (v :: r)) → W p l e R s mt args below meth c H locs q.2.1 q.2.2 Q (F0 mt pc lsA (.int j :: .ref a :: r))) : W p l e R s mt args below meth c H locs q.2.1 q.2.2 Q (F0 mt pc lsA stA) := by
  unfold zyo_ald at h
  simp only [zfr_eq, zn_m, zn_d, zn_u, zn_s, zn_c, zn_a] at h
  obtain ⟨j, t, es, h'⟩ := zpop_iff h
  clear h
  have h := h'
  clear h'
  subst es
  obtain ⟨a, r, es, h'⟩ := zpop_iff h
  clear h
  have h := h'
  clear h'
  subst es
  obtain ⟨j', stB, rfl, hj, hS2⟩ := zySt_c hR.2.2.2.2.1
  obtain ⟨a', stC, rfl, ha, hS3⟩ := zySt_c hS2
  rcases zif_iff h with ⟨h1, h⟩ | ⟨-, h⟩
  rotate_left
  · cases h
  have ea := zyv_3 ha (zbeqT h1)
  have hlow := zylowH hR.2.1
  rcases zif_iff h with ⟨h3, h⟩ | ⟨h3, h⟩
  · have h3 := zbleT h3
    rcases zif_iff h with ⟨h4, h⟩ | ⟨-, h⟩
    rotate_left
    · cases h
    obtain ⟨h4, h5⟩ := zand_iff h4
    have h4 := zbeqT h4
    have h5 : a / 8 - 200000 + 1 ≤ 30 := zbleT h5
    obtain ⟨i, hi⟩ : ∃ i, a / 8 = 200000 + i := ⟨a / 8 - 200000, by omega⟩
    obtain ⟨-, -, -, -, hT⟩ := hK.1.2.2.2.1 i (by omega)
    obtain ⟨cell, t1, t2, t3, t4, t5, t6, t7⟩ := hT.kept hlow
    rw [hi, show 200000 + i - 200000 = i by omega] at h
    have fin : ∀ u, j' = .int (Int32.ofNat u) → znth (fun c => k w cf y nx ls (8 * c :: r) q fs m) (zxT i) u = true → W p l e R s mt args below meth c H locs q.2.1 q.2.2 Q (F0 mt pc lsA (j' :: a' :: stC)) := by
      intro u ej h
      obtain ⟨cv, hcv, h⟩ := znth_iff h
      have htab : ∀ i, i < 30 → (zxT i).length = zxTl i ∧ zxTl i ≤ 20 := by decide +kernel
      have hTl : u < zxTl i := by
        have hu : u < (zxT i).length := (List.getElem?_eq_some_iff.mp hcv).1
        rw [← (htab i (by omega)).1]
        exact hu
      have hle : zxTl i ≤ 20 := (htab i (by omega)).2
      obtain ⟨p1, p2⟩ := zsmall (u := u) (by omega)
      rw [ej, ea, hi, zhigh (by omega)]
      exact row 22 .byte _ cell _ (.int (Int32.ofNat cv)) stC (Or.inl h4.symm) rfl t1 t2 t3 (by rw [p2]; exact fun z => z.elim p1 (by omega)) (by rw [p2, t6 u hTl]; show some (Value.int (Int32.ofNat ((zxT i).getD u 0))) = _; rw [List.getD_eq_getElem?_getD, hcv]; rfl) (zygo hKS h hR rfl hR.1.1 ⟨zyv_mk rfl, hS3⟩)
    rcases zif_iff h with ⟨h6, h⟩ | ⟨-, h⟩
    · exact fin _ (zyv_0 hj (zbeqT h6)) h
    rcases zyhalf_iff h hR.1.1 hj with ⟨w2, e1, E2, h⟩ | h
    · exact zygo hKS h hR e1 E2 hR.2.2.2.2.1
    rcases zykn_iff h hR.1.1 hj with ⟨u, e1, h⟩ | h
    · exact fin u e1 h
    · cases h
  · obtain ⟨⟨tg, ln, rows⟩, hg, h⟩ := zget_iff h
    dsimp only at h
    rcases zif_iff h with ⟨h5, h⟩ | ⟨-, h⟩
    rotate_left
    · cases h
    have h5 : tg = k1 ∨ tg = k2 := by
      rcases zif_iff h5 with ⟨h6, -⟩ | ⟨-, h6⟩
      · exact Or.inl (zbeqT h6)
      · exact Or.inr (zbeqT h6)
    have hlen : zyLen (tg, ln, rows) = ln := if_neg (by dsimp only; omega)
    have hl := zyLen_le hR.2.1 hg
    rw [hlen] at hl
    rcases (hR.2.1.1 _ _ hg).2 with ⟨q1, -⟩ | ⟨ty, cA, f, q1, q2, q3, q4⟩
    · exfalso
      have q1 : tg < 12 := q1
      omega
    have hread : ∀ n x, n < ln → zyEl P.1 (zyb X) H (a / 8) n = some x → (arrV cA ln f).slots[n]? = some x := by
      intro n x hn hel
      rw [zyEl_some hg (by rw [hlen]; exact hn), q2, Option.bind_some] at hel
      dsimp only at hel
      rw [if_neg (by omega)] at hel
      exact hel
    have fin : ∀ n x, j' = .int (Int32.ofNat n) → n < ln → zyEl P.1 (zyb X) H (a / 8) n = some x → W p l e R s mt args below meth c H locs q.2.1 q.2.2 Q (F0 mt nx lsA (x :: stC)) → W p l e R s mt args below meth c H locs q.2.1 q.2.2 Q (F0 mt pc lsA (j' :: a' :: stC)) := by
      intro n x ej hn hel kk
      obtain ⟨p1, p2⟩ := zsmall (u := n) (by omega)
      rw [ej, ea]
      exact row tg ty _ _ _ x stC h5 q1 q2 (q3 _ _) (fun z => by cases z) (by rw [arrV_size, p2]; exact fun z => z.elim p1 (by dsimp only; omega)) (by rw [p2]; exact hread n x hn hel) kk
    rcases zyidx_iff h hR.1.1 hj with ⟨w2, e1, E2, h⟩ | ⟨u, e1, h⟩ | ⟨n, lo, hi, e1, n1, n2, n3, h⟩
    · exact zygo hKS h hR e1 E2 hR.2.2.2.2.1
    · rcases zif_iff h with ⟨h6, h⟩ | ⟨-, h⟩
      rotate_left
      · cases h
      have h6 := zbleT h6
      obtain ⟨x, hel, ρ2, w2, v, m2, hN, hr, hE2, hv, hM2, hf2, hk⟩ := zyrd_iff h hR hg (by rw [hlen]; omega)
      exact fin u x e1 (by omega) hel (zygoW hKS hk hR hN hr hE2 ⟨hv, hS3.up hN hr⟩ hM2 hf2)
    · rcases zif_iff h with ⟨h6, h⟩ | ⟨-, h⟩
      rotate_left
      · cases h
      have h6 := zbleT h6
      obtain ⟨u, h, u1, u2⟩ := zyflush_iff h
      obtain ⟨hM2, hrow⟩ := hR.2.1.flush hR.1.1 hg (by rw [hlen]; omega) u1 u2
      obtain ⟨rw_, g1, g2, g3, h⟩ := zyrw_iff h
      obtain ⟨x, hel, hx⟩ := hrow n n2 n3
      have hv := zyrf_iff (j := j) hK hR (by rw [e1] at hj; exact hj) n1 n2 n3 hel (hx rw_ g1 (by omega) (by omega)).2
      obtain ⟨ρ2, w2, v2, hN, hr, hE2, hv2, h⟩ := zynew_iff h hR.1.1 hR.1.2.1 hv
      refine fin n x e1 (by omega) hel (zygoW hKS h hR hN hr hE2 ⟨hv2, hS3.up hN hr⟩ (hM2.up hN hr) (fun ff hf => ?_))
      cases hq : zand (zyapt P.2.2.1 (a / 8) lo hi) (Nat.ble (v2 % 8) 2) with
      | false =>
        rw [hq] at hf
        exact (hR.1.2.2.2 ff hf).up hN hr
      | true =>
        rw [hq] at hf
        rcases List.mem_cons.mp hf with z | z
        · obtain ⟨y1, y2⟩ := zand_iff hq
          obtain ⟨xi, rfl⟩ := zyv_int hv2 (zbleT y2)
          rw [z]
          unfold zyFm
          rw [if_pos rfl]
          refine ⟨xi, n, hv2, ?_, n1, ?_⟩
          · rw [e1] at hj
            exact zyv_up hj hr hN
          · exact (hR.2.1.2.2.1 (a / 8) n (zyapt_iff y1 n n2 n3)).symm.trans hel
        · exact (hR.1.2.2.2 ff z).up hN hr
theorem zyinto_iff {kd v : Nat} {k2 : Nat → Bool} {x : Value} (h : zyinto w kd v k2 = true) (hE : zEnv (zyρ X) w.2) (hv : zyV X v x) :
    ∃ (v2 : Nat) (x2 : Value), zyV X v2 x2 ∧ k2 v2 = true ∧ ((kd = 20 ∧ ∃ n, x = .int n ∧ x2 = .int n) ∨ (kd = 21 ∧ ∃ n, x = .long n ∧ x2 = .long n) ∨ (kd = 22 ∧ ∃ n, x = .int n ∧ x2 = narrow .byte (.int n)) ∨ (kd = 23 ∧ ∃ n, x = .int n ∧ x2 = narrow .boolean (.int n))) := by
  unfold zyinto at h
  simp only [zfr_eq, zn_m, zn_d, zn_u] at h
  rcases zif_iff h with ⟨h1, h⟩ | ⟨h1, h⟩
  · rcases zif_iff h with ⟨h2, h⟩ | ⟨-, h⟩
    · obtain ⟨n, rfl⟩ := zyv_int hv (zbleT h2)
      exact ⟨v, _, hv, h, Or.inl ⟨zbeqT h1, n, rfl, rfl⟩⟩
    · cases h
  rcases zif_iff h with ⟨h2, h⟩ | ⟨h2, h⟩
  · rcases zif_iff h with ⟨h3, h⟩ | ⟨-, h⟩
    · obtain ⟨z, e1, -⟩ := zyv_4 hv (zbeqT h3)
      exact ⟨v, _, hv, h, Or.inr (Or.inl ⟨zbeqT h2, z, e1, e1⟩)⟩
    · cases h
  rcases zif_iff h with ⟨h3, h⟩ | ⟨h3, h⟩
  · rcases zif_iff h with ⟨h4, h⟩ | ⟨-, h⟩
    · have e1 := zyv_0 hv (zbeqT h4)
      exact ⟨_, _, zyv_mkx _, h, Or.inr (Or.inr (Or.inl ⟨zbeqT h3, _, e1, rfl⟩))⟩
    obtain ⟨n, lo, hi, rfl, b1, b2, h⟩ := zybd_iff h hE hv
    have bz := zB_int n.toInt8.toInt32
    have l1 := Int8.le_toInt n.toInt8
    have l2 := Int8.toInt_lt n.toInt8
    have e2 : n.toInt8.toInt32.toInt = n.toInt8.toInt := Int8.toInt_toInt32 _
    rcases zif_iff h with ⟨h5, h⟩ | ⟨-, h⟩
    · obtain ⟨g1, g2⟩ := zand_iff h5
      have g1 := zbleT g1
      have g2 := zbleT g2
      have bx := zB_int n
      have e3 : n.toInt8.toInt32 = n := by
        apply Int32.toInt_inj.mp
        rw [e2, Int32.toInt_toInt8]
        apply Int.bmod_eq_of_le
        · omega
        · omega
      refine ⟨v, .int n, hv, h, Or.inr (Or.inr (Or.inl ⟨zbeqT h3, n, rfl, ?_⟩))⟩
      show Value.int n = .int n.toInt8.toInt32
      rw [e3]
    · refine ⟨_, .int n.toInt8.toInt32, ?_, h, Or.inr (Or.inr (Or.inl ⟨zbeqT h3, n, rfl, rfl⟩))⟩
      have e4 : 73786971913971565562 = 8 * (2147483520 * 4294967296 + 2147483775) + 2 := by decide
      rw [e4]
      exact zyv_bd (by omega) (by omega) (by omega)
  rcases zif_iff h with ⟨h4, h⟩ | ⟨-, h⟩
  · obtain ⟨n, lo, hi, rfl, b1, b2, h⟩ := zybd_iff h hE hv
    rcases zif_iff h with ⟨h5, h⟩ | ⟨-, h⟩
    · obtain ⟨g1, g2⟩ := zand_iff h5
      have g1 := zbleT g1
      have g2 := zbleT g2
      refine ⟨v, .int n, hv, h, Or.inr (Or.inr (Or.inr ⟨zbeqT h4, n, rfl, ?_⟩))⟩
      rcases zybool (x := n) (by omega) (by omega) with rfl | rfl <;> decide
    · cases h
  · cases h
theorem zyw_ast {k1 k2 : Nat} (hK : zyKn P X s) (hKS : zyKS p l e R s mt args below meth c Q P X cf y fs nL d k) (h : zyo_ast P k1 k2 nx ax k w cf y pc ls st q fs m = true) (hR : zyRl P X s nL d w ls st q m H locs lsA stA)
    (row : ∀ (g : Nat) (ty : FieldType) (a : Addr) (cell : Cell) (j : Int32) (x x2 : Value) (r : List Value), (g = k1 ∨ g = k2) → zty g = some ty → ((g = 20 ∧ ∃ n, x = .int n ∧ x2 = .int n) ∨ (g = 21 ∧ ∃ n, x = .long n ∧ x2 = .long n) ∨ (g = 22 ∧ ∃ n, x = .int n ∧ x2 = narrow .byte (.int n)) ∨ (g = 23 ∧ ∃ n, x = .int n ∧ x2 = narrow .boolean (.int n))) → H[a]? = some cell → s.isArrayOf cell ty → cell.vm ≠ .unknown → ¬ (j < 0 ∨ cell.slots.size ≤ j.toNatClampNeg) →
      (∀ H' : Heap, H'[a]? = some (cell.setSlot j.toNatClampNeg x2) → H'.size = H.size → (∀ q, q ≠ a → H'[q]? = H[q]?) → W p l e R s mt args below meth c H' (locs ++ [⟨a, j.toNatClampNeg⟩]) q.2.1 q.2.2 Q (F0 mt nx lsA r)) → W p l e R s mt args below meth c H locs q.2.1 q.2.2 Q (F0 mt pc lsA (x :: .int j :: .ref a :: r))) : W p l e R s mt args below meth c H locs q.2.1 q.2.2 Q (F0 mt pc lsA stA) := by
  unfold zyo_ast at h
  simp only [zfr_eq, zn_m, zn_d, zn_u, zn_c, zn_a] at h
  obtain ⟨v, t, es, h'⟩ := zpop_iff h
  clear h
  have h := h'
  clear h'
  subst es
  obtain ⟨j, t2, es, h'⟩ := zpop_iff h
  clear h
  have h := h'
  clear h'
  subst es
  obtain ⟨a, r, es, h'⟩ := zpop_iff h
  clear h
  have h := h'
  clear h'
  subst es
  obtain ⟨x, stB, rfl, hv, hS2⟩ := zySt_c hR.2.2.2.2.1
  obtain ⟨j', stC, rfl, hj, hS3⟩ := zySt_c hS2
  obtain ⟨a', stD, rfl, ha, hS4⟩ := zySt_c hS3
  rcases zif_iff h with ⟨h1, h⟩ | ⟨-, h⟩
  rotate_left
  · cases h
  have ea := zyv_3 ha (zbeqT h1)
  obtain ⟨⟨tg, ln, rows⟩, hg, h⟩ := zget_iff h
  dsimp only at h
  rcases zif_iff h with ⟨h5, h⟩ | ⟨-, h⟩
  rotate_left
  · cases h
  have h5 : tg = k1 ∨ tg = k2 := by
    rcases zif_iff h5 with ⟨h6, -⟩ | ⟨-, h6⟩
    · exact Or.inl (zbeqT h6)
    · exact Or.inr (zbeqT h6)
  obtain ⟨v2, x2, hv2, h, hst⟩ := zyinto_iff h hR.1.1 hv
  have h20 : 20 ≤ tg := by rcases hst with ⟨q, -⟩ | ⟨q, -⟩ | ⟨q, -⟩ | ⟨q, -⟩ <;> omega
  have hlen : zyLen (tg, ln, rows) = ln := if_neg (by dsimp only; omega)
  have hl := zyLen_le hR.2.1 hg
  rw [hlen] at hl
  obtain ⟨hlt90, hsh⟩ := hR.2.1.1 _ _ hg
  rcases hsh with ⟨q1, -⟩ | ⟨ty, cA, f, q1, q2, q3, q4⟩
  · exfalso
    have q1 : tg < 12 := q1
    omega
  have fin : ∀ (n : Nat) (l1 : List (Nat × Nat)), j' = .int (Int32.ofNat n) → n < ln → zyin P.2.2.1 (a / 8) n = true → zyin P.2.2.2.1 (a / 8) n = false → zyEt X (tg, ln, rows) l1 (a / 8) n x2 → (∀ a1 c1 k1 w1, zG P.1 a1 = some c1 → k1 < zyLen c1 → ¬ (a1 = a / 8 ∧ k1 = n) → zyEt X c1 m.1 a1 k1 w1 → zyEt X c1 l1 a1 k1 w1) → k w cf y nx ls r q fs (l1, m.2) = true → W p l e R s mt args below meth c H locs q.2.1 q.2.2 Q (F0 mt pc lsA (x :: j' :: a' :: stD)) := by
    intro n l1 ej hn hfp hdj ht1 ht2 hk
    obtain ⟨p1, p2⟩ := zsmall (u := n) (by omega)
    rw [ej, ea]
    refine row tg ty _ _ _ x x2 stD h5 q1 hst q2 (q3 _ _) (fun z => by cases z) (by rw [arrV_size, p2]; exact fun z => z.elim p1 (by dsimp only; omega)) (fun H1 f1 f2 f3 => ?_)
    rw [p2, arrV_store] at f1
    have hMem : zyMem P X s l1 H1 := by
      refine zyMem.upd (s := s) (x := x2) hK hR.2.1 hg (by rw [hlen]; exact hn) f3 (Or.inr ⟨ty, cA, _, q1, f1, q3, q4⟩) ?_ (fun k0 hk0 hne => ?_) hfp hdj ht1 ht2
      · rw [zyEl_some hg (by rw [hlen]; exact hn), f1, Option.bind_some]
        dsimp only
        rw [if_neg (by omega), arrV_read _ _ hn]
        unfold updV
        rw [if_pos rfl]
      · rw [zyEl_some hg hk0, zyEl_some hg hk0, f1, q2, Option.bind_some, Option.bind_some]
        rw [hlen] at hk0
        dsimp only
        rw [if_neg (by omega), arrV_read _ _ hk0, arrV_read _ _ hk0]
        unfold updV
        rw [if_neg hne]
    refine hKS (zyρ X) (zyN X) _ _ _ _ _ _ _ _ _ _ hk ⟨hR.1, hMem, fun z hz => ?_, hR.2.2.2.1, hS4, hR.2.2.2.2.2⟩
    rcases List.mem_append.mp hz with h7 | h7
    · exact hR.2.2.1 z h7
    · rw [List.mem_singleton] at h7
      rw [h7]
      exact zyad_ge hlt90
  rcases zyidx_iff h hR.1.1 hj with ⟨w2, e1, E2, h⟩ | ⟨u, e1, h⟩ | ⟨n, lo, hi, e1, n1, n2, n3, h⟩
  · exact zygo hKS h hR e1 E2 hR.2.2.2.2.1
  · rcases zif_iff h with ⟨h6, h⟩ | ⟨-, h⟩
    rotate_left
    · cases h
    obtain ⟨h6, h7⟩ := zand_iff h6
    obtain ⟨h7, h8⟩ := zand_iff h7
    have h8 := zyF_n h8
    have h6 := zbleT h6
    rw [zyput_eq] at h
    have k64 : u < 16384 := by omega
    exact fin u _ e1 (by omega) h7 h8 ((zyEt_set (c1 := (0, 0, [])) (a1 := 0) (k1 := 0) (w1 := x) k64 (by omega)).1 hv2) (fun a1 c1 k1 w1 hg1 hk1 hn het => (zyEt_set (c0 := (0, 0, [])) (x := x) k64 (by have := zyLen_le hR.2.1 hg1; omega)).2 hn het) h
  · rcases zif_iff h with ⟨h6, h⟩ | ⟨-, h⟩
    rotate_left
    · cases h
    obtain ⟨h6, h7⟩ := zand_iff h6
    obtain ⟨h7, h8⟩ := zand_iff h7
    obtain ⟨h8, h9⟩ := zand_iff h8
    have h6 := zbleT h6
    obtain ⟨u, h, u1, u2⟩ := zyflush_iff h
    obtain ⟨hM2, hrow⟩ := hR.2.1.flush hR.1.1 hg (by rw [hlen]; omega) u1 u2
    refine fin n u e1 (by omega) (zycov_iff h7 n n2 n3) (zyapt_iff h8 n n2 n3) ?_ (fun a1 c1 k0 w1 hg1 hk1 hn het => ?_) h
    · unfold zyEt
      rw [(u1 _).1 ⟨by omega, by omega⟩]
      exact fun r0 g1 g2 g3 => zysub_iff (zyall_iff h9 r0 g1 n n2 n3 g2 g3) hR.1.1 hv2
    · have hl1 := zyLen_le hR.2.1 hg1
      by_cases hin : a / 8 * 16384 + lo ≤ a1 * 16384 + k0 ∧ a1 * 16384 + k0 ≤ a / 8 * 16384 + hi
      · have e2 : a1 = a / 8 := by omega
        rw [e2] at hg1
        rw [hg] at hg1
        cases hg1
        unfold zyEt at het ⊢
        rw [(u1 _).1 hin]
        cases hq : zyl m.1 (a1 * 16384 + k0) with
        | none => rw [hq] at het; exact het
        | some v0 =>
          rw [hq] at het
          exact fun r0 g1 g2 g3 => zysub_iff (u2 _ v0 hin.1 hin.2 hq r0 g1 (by omega) (by omega)) hR.1.1 het
      · unfold zyEt at het ⊢
        rw [(u1 _).2 hin]
        exact het
theorem zyw_tab {df lo hi : Int} {offs : Array Int} {len : Nat} (hexec : p.tables.exec = Jvm.exec) (hb : c.code = cc) (hdg : decode cc pc = .ok (.tableswitch df lo hi offs, len))
    (hKS : zyKS p l e R s mt args below meth c Q P X cf y fs nL d k) (h : zyo_tab df lo hi offs nx ax k w cf y pc ls st q fs m = true) (hR : zyRl P X s nL d w ls st q m H locs lsA stA) : W p l e R s mt args below meth c H locs q.2.1 q.2.2 Q (F0 mt pc lsA stA) := by
  unfold zyo_tab at h
  simp only [zfr_eq, zn_c, zn_p, zn_s, zn_u] at h
  obtain ⟨v, r, es, h'⟩ := zpop_iff h
  clear h
  have h := h'
  clear h'
  subst es
  obtain ⟨x', stB, rfl, hv, hS2⟩ := zySt_c hR.2.2.2.2.1
  rcases zif_iff h with ⟨h0, h⟩ | ⟨-, h⟩
  rotate_left
  · cases h
  obtain ⟨h01, h02⟩ := zand_iff h0
  rw [decide_eq_true_eq] at h01 h02
  obtain ⟨x, a, b, rfl, b1, b2, h⟩ := zybd_iff h hR.1.1 hv
  have hBi := zB_int x
  rcases zif_iff h with ⟨h1, h⟩ | ⟨h1, h⟩
  · rcases zif_iff h with ⟨h2, h⟩ | ⟨-, h⟩
    rotate_left
    · cases h
    rw [decide_eq_true_eq] at h2
    refine lv_tableOut hexec hb hdg ?_ h2.symm (zygo hKS h hR rfl hR.1.1 hS2)
    rcases zif_iff h1 with ⟨h3, -⟩ | ⟨-, h3⟩
    · have := zbleT h3
      left
      omega
    · have := zbleT h3
      right
      omega
  have h3 : ¬ b + 1 ≤ (lo + 2147483648).toNat ∧ ¬ (hi + 2147483648).toNat + 1 ≤ a := by
    cases hq1 : Nat.ble (b + 1) (lo + 2147483648).toNat with
    | true => rw [hq1] at h1; cases h1
    | false =>
      rw [hq1] at h1
      exact ⟨zbleF hq1, zbleF h1⟩
  rcases zif_iff h with ⟨h4, h⟩ | ⟨h4, h⟩
  · obtain ⟨g1, g2⟩ := zand_iff h
    by_cases hc : zB x < (lo + 2147483648).toNat
    · obtain ⟨w2, e1, E2, g3⟩ := zycut_iff g1 hR.1.1 hv b1 (by omega)
      exact zygo hKS g3 hR e1 E2 hR.2.2.2.2.1
    · obtain ⟨w2, e1, E2, g3⟩ := zycut_iff g2 hR.1.1 hv (by omega) b2
      exact zygo hKS g3 hR e1 E2 hR.2.2.2.2.1
  rcases zif_iff h with ⟨h5, h⟩ | ⟨h5, h⟩
  · obtain ⟨g1, g2⟩ := zand_iff h
    by_cases hc : zB x ≤ (hi + 2147483648).toNat
    · obtain ⟨w2, e1, E2, g3⟩ := zycut_iff g2 hR.1.1 hv b1 hc
      exact zygo hKS g3 hR e1 E2 hR.2.2.2.2.1
    · obtain ⟨w2, e1, E2, g3⟩ := zycut_iff g1 hR.1.1 hv (by omega) b2
      exact zygo hKS g3 hR e1 E2 hR.2.2.2.2.1
  have h4 := zbleF h4
  have h5 := zbleF h5
  rcases zyindex_iff h hR.1.1 hv with ⟨w2, e1, E2, h⟩ | ⟨u, e1, h⟩ | ⟨u, e1, h⟩
  · exact zygo hKS h hR e1 E2 hR.2.2.2.2.1
  · refine zygo hKS h hR rfl hR.1.1 ⟨?_, hS2⟩
    rw [e1]
    exact zyv_mk rfl
  · obtain ⟨o, ho, h⟩ := znth_iff h
    rcases zif_iff h with ⟨h2, h⟩ | ⟨-, h⟩
    rotate_left
    · cases h
    rw [decide_eq_true_eq] at h2
    have e2 := Value.int.inj e1
    have e3 : zb u = zB x := by rw [e2, zB_of]
    rw [e3] at ho
    refine lv_tableIn hexec hb hdg (by omega) (by omega) (off := o) ?_ h2.symm (zygo hKS h hR rfl hR.1.1 hS2)
    rw [← Array.getElem?_toList]
    have e4 : (x.toInt - lo).toNat = zB x - (lo + 2147483648).toNat := by omega
    rw [e4]
    exact ho
theorem zyw_look {df : Int} {ps : Array (Int × Int)} {len : Nat} (hexec : p.tables.exec = Jvm.exec) (hb : c.code = cc) (hdg : decode cc pc = .ok (.lookupswitch df ps, len))
    (hKS : zyKS p l e R s mt args below meth c Q P X cf y fs nL d k) (h : zyo_look df ps nx ax k w cf y pc ls st q fs m = true) (hR : zyRl P X s nL d w ls st q m H locs lsA stA) : W p l e R s mt args below meth c H locs q.2.1 q.2.2 Q (F0 mt pc lsA stA) := by
  unfold zyo_look at h
  simp only [zfr_eq, zn_u] at h
  obtain ⟨v, r, es, h'⟩ := zpop_iff h
  clear h
  have h := h'
  clear h'
  subst es
  obtain ⟨x', stB, rfl, hv, hS2⟩ := zySt_c hR.2.2.2.2.1
  rcases zyindex_iff h hR.1.1 hv with ⟨w2, e1, E2, h⟩ | ⟨u, rfl, h⟩ | ⟨u, rfl, h⟩
  · exact zygo hKS h hR e1 E2 hR.2.2.2.2.1
  · exact zygo hKS h hR rfl hR.1.1 ⟨zyv_mk rfl, hS2⟩
  · rcases zif_iff h with ⟨h1, h⟩ | ⟨-, h⟩
    rotate_left
    · cases h
    rcases zif_iff h with ⟨h2, h⟩ | ⟨-, h⟩
    rotate_left
    · cases h
    rw [decide_eq_true_eq] at h2
    exact lv_lookup hexec hb hdg h1 rfl h2.symm (zygo hKS h hR rfl hR.1.1 hS2)
theorem zyw_ldc {lw : Bool} (hexec : p.tables.exec = Jvm.exec) (hb : c.code = cc) (hown : s.vm.findClass own = some mt.cls) (hK : zyKn P X s)
    (hlk : (if ax ≤ 4294967295 then decide (zwd pp = some (.constant own idx (Int32.ofNat (zb ax)))) else decide ((zskey (ax - 4294967296)).1 = own ∧ (zskey (ax - 4294967296)).2.1 = idx ∧ ax - 4294967296 < 30)) = true)
    (hdg : decode cc pc = .ok (if lw then .ldc_w idx else .ldc idx, if lw then 3 else 2)) (hnx : nx = pc + if lw then 3 else 2)
    (hKS : zyKS p l e R s mt args below meth c Q P X cf y fs nL d k) (h : zyo_ldc nx ax k w cf y pc ls st q fs m = true) (hR : zyRl P X s nL d w ls st q m H locs lsA stA) : W p l e R s mt args below meth c H locs q.2.1 q.2.2 Q (F0 mt pc lsA stA) := by
  subst hnx
  unfold zyo_ldc at h
  simp only [zfr_eq, zn_a, zn_s, zn_u] at h
  rcases zif_iff h with ⟨h1, h⟩ | ⟨h1, h⟩
  · rw [if_pos (zbleT h1), decide_eq_true_eq] at hlk
    have hw := zword (args := args) hK.1 (zwd_mem hlk) rfl
    have kk := zygo hKS h hR rfl hR.1.1 (stB := .int (Int32.ofNat (zb ax)) :: stA) ⟨zyv_mk rfl, hR.2.2.2.2.1⟩
    cases lw with
    | false => exact lv_ldc hexec hb hown hw hdg kk
    | true => exact lv_ldcw hexec hb hown hw hdg kk
  · rw [if_neg (zbleF h1), decide_eq_true_eq] at hlk
    obtain ⟨g1, g2, g3⟩ := hlk
    have e1 := zhigh (X := zyb X) (a := 100000 + (ax - 4294967296)) (by omega)
    refine zw_ldcS (lw := lw) hexec hb hown hK.1 g3 g1 g2 hdg (zygo hKS h hR rfl hR.1.1 ⟨?_, hR.2.2.2.2.1⟩)
    rw [← e1, show ax - 4294967296 + 100000 = 100000 + (ax - 4294967296) by omega]
    exact zyv_ref _
theorem zyw_ldc2 (hexec : p.tables.exec = Jvm.exec) (hb : c.code = cc) (hown : s.vm.findClass own = some mt.cls) (hK : zyKn P X s) (hlk : zwd pp = some (.constantLong own idx (Int64.ofNat ax))) (hdg : decode cc pc = .ok (.ldc2_w idx, 3)) (hnx : nx = pc + 3)
    (hKS : zyKS p l e R s mt args below meth c Q P X cf y fs nL d k) (h : zyo_ldc2 nx ax k w cf y pc ls st q fs m = true) (hR : zyRl P X s nL d w ls st q m H locs lsA stA) : W p l e R s mt args below meth c H locs q.2.1 q.2.2 Q (F0 mt pc lsA stA) := by
  subst hnx
  unfold zyo_ldc2 at h
  simp only [zfr_eq, zn_a, zn_u] at h
  rcases zif_iff h with ⟨h1, h⟩ | ⟨-, h⟩
  rotate_left
  · cases h
  have h1 := zbleT h1
  exact lv_ldc2 hexec hb hown (zword (args := args) hK.1 (zwd_mem hlk) rfl) hdg (zygo hKS h hR rfl hR.1.1 ⟨zyv_mkl rfl (by omega), hR.2.2.2.2.1⟩)
theorem zyw_gets (hexec : p.tables.exec = Jvm.exec) (hb : c.code = cc) (hown : s.vm.findClass own = some mt.cls) (hK : zyKn P X s) (hlk : ((decide (ax = 1) && decide (zwd pp = some (.fieldLink own idx "java/lang/String" "COMPACT_STRINGS" "Z"))) || (decide (ax = 2) && decide (zwd pp = some (.fieldLink own idx "jdk/internal/util/Preconditions" "SIOOBE_FORMATTER" "Ljava/util/function/BiFunction;")))) = true) (hdg : decode cc pc = .ok (.getstatic idx, 3)) (hnx : nx = pc + 3)
    (hKS : zyKS p l e R s mt args below meth c Q P X cf y fs nL d k) (h : zyo_gets nx ax k w cf y pc ls st q fs m = true) (hR : zyRl P X s nL d w ls st q m H locs lsA stA) : W p l e R s mt args below meth c H locs q.2.1 q.2.2 Q (F0 mt pc lsA stA) := by
  subst hnx
  unfold zyo_gets at h
  simp only [Bool.and_eq_true, Bool.or_eq_true, decide_eq_true_eq] at hlk
  have hlow := zylowH hR.2.1
  have key : ∀ (C n ds : String) (v : Value), va_Z C n ds v (zUp (zyb X)) s (zH0 (zyb X)) → (Cond.fieldLink own idx C n ds).before args s = true → W p l e R s mt args below meth c H locs q.2.1 q.2.2 Q (F0 mt (pc + 3) lsA (v :: stA)) → W p l e R s mt args below meth c H locs q.2.1 q.2.2 Q (F0 mt pc lsA stA) := by
    intro C n ds v hZ hl kk
    obtain ⟨cf0, kf, fi, f, a, cell, h1, h2, h3, h4, h5, h6, h7, h8⟩ := hZ.kept hlow
    exact W.gets hexec hb hown hl h1 h2 h3 h4 h5 (fun e => by rw [e] at h6; cases h6) h7 rfl hdg kk
  rcases zif_iff h with ⟨h1, h⟩ | ⟨h1, h⟩
  · have e1 := zbeqT h1
    rcases hlk with ⟨-, g2⟩ | ⟨g1, -⟩
    · exact key _ _ _ (.int 1) hK.1.2.2.2.2.1 (zword (args := args) hK.1 (zwd_mem g2) rfl) (zygo hKS h hR rfl hR.1.1 ⟨zyv_mk (u := 1) rfl, hR.2.2.2.2.1⟩)
    · omega
  rcases zif_iff h with ⟨h2, h⟩ | ⟨-, h⟩
  · have e1 := zbeqT h2
    rcases hlk with ⟨g1, -⟩ | ⟨-, g2⟩
    · omega
    · rcases hK.1.2.2.2.2.2 with hz | ⟨t, hz⟩
      · exact key _ _ _ .null hz (zword (args := args) hK.1 (zwd_mem g2) rfl) (zygo hKS h hR rfl hR.1.1 ⟨zyv_c (Or.inr (Or.inr (Or.inr (Or.inr (Or.inr (Or.inr ⟨rfl, Or.inl rfl⟩)))))) (by decide) (by decide), hR.2.2.2.2.1⟩)
      · exact key _ _ _ (.ref t) hz (zword (args := args) hK.1 (zwd_mem g2) rfl) (zygo hKS h hR rfl hR.1.1 ⟨zyv_c (Or.inr (Or.inr (Or.inr (Or.inr (Or.inr (Or.inr ⟨rfl, Or.inr ⟨t, rfl⟩⟩)))))) (by decide) (by decide), hR.2.2.2.2.1⟩)
  · cases h
end ZYN
end
section
/-! calls, with any contract -/
theorem zyrow_v {p : Program} {l : Launch} {e : Env} {R : Room} {s : State} {mt : MethodId} {args : Array Value} {below : List Frame} {meth : Method} {c : Code} {X : zCx} {nL pc idx cells slots : Nat} {H : Heap} {locs : List Loc} {lsA : Array Slot} {stA rest AsV : List Value} {own : String} {cc : ByteArray} {en2 : zEn} {me2 : zMe} {rm : Room} {Pc : Array Value → State → Prop} {Qc : Array Value → State → Outcome → State → Prop}
    (hexec : p.tables.exec = Jvm.exec) (hb : c.code = cc) (hml : c.maxLocals = nL) (hown : s.vm.findClass own = some mt.cls) (hK : zKn X s) (hw : Cond.methodLink own idx me2.1 ∈ lw_tbl) (hcls2 : me2.1.cls = me2.2.2.2) (hKi : zKi 0 en2 me2)
    (hsA : stA = AsV.reverse ++ rest) (hAl : AsV.length = en2.2.1) (hrw : (rest.map fun v => v.category).sum ≤ 8) (hMet : Met l me2.1 [Cond.code me2.1 me2.2.1 en2.2.2.1 me2.2.2.1] rm Pc Qc en2.2.2.2.2.2.1 en2.2.2.2.2.2.2.1 (fun q => zbs X ≤ q)) (hr1 : rm.cells = en2.2.2.2.2.2.1) (hr2 : rm.slots = en2.2.2.2.2.2.2.1) (hr3 : rm.frames + 1 ≤ R.frames) (hr4 : 8 + (en2.2.2.1 + 11) + rm.locals ≤ R.locals) (hbl : FrameBlind Pc) (hpre : ∀ U : State, U.heap = H → s.WarmedH U.vm → Pc AsV.toArray U) (hrc : ∃ (a : Addr) (As : List Value), AsV = .ref a :: As ∧ ∃ cellB : Cell, H[a]? = some cellB ∧ cellB.vm.isStatics = false ∧ s.vm.findClass me2.2.2.2 = some cellB.cls)
    (hcs : cells + en2.2.2.2.2.2.1 ≤ R.cells ∧ slots + en2.2.2.2.2.2.2.1 ≤ R.slots) (hsz : lsA.size = nL) (hd : decode cc pc = .ok (.invokevirtual idx, 3)) : va_Run p l e R s mt args below meth c H locs cells slots en2.2.2.2.2.2.1 en2.2.2.2.2.2.2.1 (F0 mt pc lsA stA) rest (Qc AsV.toArray) (fun q => zbs X ≤ q) := by
  obtain ⟨-, hg12, hgw2⟩ := hKi
  rcases hgw2 with z | ⟨hnm, hcode, hini, hkd, hsel, hpar⟩
  · exact absurd z (by decide)
  have hcodeB := zword (args := args) hK hcode rfl
  have hiniB := zword (args := args) hK hini rfl
  have hws : ∀ w ∈ [Cond.code me2.1 me2.2.1 en2.2.2.1 me2.2.2.1], ∀ (a' : Array Value) (U : State), s.WarmedH U.vm → w.before a' U = true := fun w hw a' U hW => by
    rw [List.mem_singleton] at hw
    rw [hw]
    exact (hK.warm hW).1 _ hcode rfl a'
  have hS : CallFix p mt c cc nL s args [] own := ⟨hexec, hb, hml, hown, fun _ h => by cases h⟩
  have hlen : ∀ sig, parseMethodDescriptor me2.1.desc = some sig → en2.2.1 = sig.parameters.length + 1 := fun sig h => by
    rw [h] at hpar
    exact (Option.some.inj hpar).symm
  rw [if_neg (by decide)] at hkd
  obtain ⟨a, As, rfl, hcell⟩ := hrc
  rw [← hcls2] at hcell
  exact va_runV (As := As) (n := As.length) hS hMet ⟨⟨hr1, hr2, hr3, hr4, hws, List.mem_cons_self, hcodeB, hiniB, hnm, (fun sig h => by have := hlen sig h; rw [← hAl, List.length_cons] at this; omega), zword (args := args) hK hw rfl⟩, zword (args := args) hK hkd rfl, zword (args := args) hK (hsel rfl) rfl⟩ ⟨hbl, hcell, hpre⟩ rfl rfl hsz (by rw [hsA, List.reverse_cons, List.append_assoc]; rfl) (lv_room hrw) hd hcs
theorem zyrow_vN {p : Program} {l : Launch} {e : Env} {R : Room} {s : State} {mt : MethodId} {args : Array Value} {below : List Frame} {meth : Method} {c : Code} {X : zCx} {nL pc idx cells slots : Nat} {H : Heap} {locs : List Loc} {lsA : Array Slot} {stA rest AsV : List Value} {own : String} {cc : ByteArray} {en2 : zEn} {me2 : zMe} {rm : Room} {Pc : Array Value → State → Prop} {Qc : Array Value → State → Outcome → State → Prop}
    (hexec : p.tables.exec = Jvm.exec) (hb : c.code = cc) (hml : c.maxLocals = nL) (hown : s.vm.findClass own = some mt.cls) (hK : zKn X s) (hw : Cond.methodLinkNest own idx me2.1 "HornBraider" ∈ lw_tbl) (hcls2 : me2.1.cls = me2.2.2.2) (hKi : zKi 0 en2 me2)
    (hsA : stA = AsV.reverse ++ rest) (hAl : AsV.length = en2.2.1) (hrw : (rest.map fun v => v.category).sum ≤ 8) (hMet : Met l me2.1 [Cond.code me2.1 me2.2.1 en2.2.2.1 me2.2.2.1] rm Pc Qc en2.2.2.2.2.2.1 en2.2.2.2.2.2.2.1 (fun q => zbs X ≤ q)) (hr1 : rm.cells = en2.2.2.2.2.2.1) (hr2 : rm.slots = en2.2.2.2.2.2.2.1) (hr3 : rm.frames + 1 ≤ R.frames) (hr4 : 8 + (en2.2.2.1 + 11) + rm.locals ≤ R.locals) (hbl : FrameBlind Pc) (hpre : ∀ U : State, U.heap = H → s.WarmedH U.vm → Pc AsV.toArray U) (hrc : ∃ (a : Addr) (As : List Value), AsV = .ref a :: As ∧ ∃ cellB : Cell, H[a]? = some cellB ∧ cellB.vm.isStatics = false ∧ s.vm.findClass me2.2.2.2 = some cellB.cls)
    (hcs : cells + en2.2.2.2.2.2.1 ≤ R.cells ∧ slots + en2.2.2.2.2.2.2.1 ≤ R.slots) (hsz : lsA.size = nL) (hd : decode cc pc = .ok (.invokevirtual idx, 3)) : va_Run p l e R s mt args below meth c H locs cells slots en2.2.2.2.2.2.1 en2.2.2.2.2.2.2.1 (F0 mt pc lsA stA) rest (Qc AsV.toArray) (fun q => zbs X ≤ q) := by
  obtain ⟨-, hg12, hgw2⟩ := hKi
  rcases hgw2 with z | ⟨hnm, hcode, hini, hkd, hsel, hpar⟩
  · exact absurd z (by decide)
  have hcodeB := zword (args := args) hK hcode rfl
  have hiniB := zword (args := args) hK hini rfl
  have hws : ∀ w ∈ [Cond.code me2.1 me2.2.1 en2.2.2.1 me2.2.2.1], ∀ (a' : Array Value) (U : State), s.WarmedH U.vm → w.before a' U = true := fun w hw a' U hW => by
    rw [List.mem_singleton] at hw
    rw [hw]
    exact (hK.warm hW).1 _ hcode rfl a'
  have hS : CallFix p mt c cc nL s args [] own := ⟨hexec, hb, hml, hown, fun _ h => by cases h⟩
  have hlen : ∀ sig, parseMethodDescriptor me2.1.desc = some sig → en2.2.1 = sig.parameters.length + 1 := fun sig h => by
    rw [h] at hpar
    exact (Option.some.inj hpar).symm
  rw [if_neg (by decide)] at hkd
  obtain ⟨a, As, rfl, hcell⟩ := hrc
  rw [← hcls2] at hcell
  exact va_runVN (As := As) (n := As.length) hS hMet ⟨⟨⟨hr1, hr2, hr3, hr4, hws, List.mem_cons_self⟩, hcodeB, hiniB, hnm, (fun sig h => by have := hlen sig h; rw [← hAl, List.length_cons] at this; omega), zword (args := args) hK hw rfl⟩, zword (args := args) hK hkd rfl, zword (args := args) hK (hsel rfl) rfl⟩ ⟨hbl, hcell, hpre⟩ rfl rfl hsz (by rw [hsA, List.reverse_cons, List.append_assoc]; rfl) (lv_room hrw) hd hcs
theorem zyrow_s {p : Program} {l : Launch} {e : Env} {R : Room} {s : State} {mt : MethodId} {args : Array Value} {below : List Frame} {meth : Method} {c : Code} {X : zCx} {nL pc idx cells slots : Nat} {H : Heap} {locs : List Loc} {lsA : Array Slot} {stA rest AsV : List Value} {own : String} {cc : ByteArray} {en2 : zEn} {me2 : zMe} {rm : Room} {Pc : Array Value → State → Prop} {Qc : Array Value → State → Outcome → State → Prop}
    (hexec : p.tables.exec = Jvm.exec) (hb : c.code = cc) (hml : c.maxLocals = nL) (hown : s.vm.findClass own = some mt.cls) (hK : zKn X s) (hw : Cond.methodLink own idx me2.1 ∈ lw_tbl) (hcls2 : me2.1.cls = me2.2.2.2) (hKi : zKi 2 en2 me2)
    (hsA : stA = AsV.reverse ++ rest) (hAl : AsV.length = en2.2.1) (hrw : (rest.map fun v => v.category).sum ≤ 8) (hMet : Met l me2.1 [Cond.code me2.1 me2.2.1 en2.2.2.1 me2.2.2.1] rm Pc Qc en2.2.2.2.2.2.1 en2.2.2.2.2.2.2.1 (fun q => zbs X ≤ q)) (hr1 : rm.cells = en2.2.2.2.2.2.1) (hr2 : rm.slots = en2.2.2.2.2.2.2.1) (hr3 : rm.frames + 1 ≤ R.frames) (hr4 : 8 + (en2.2.2.1 + 11) + rm.locals ≤ R.locals) (hbl : FrameBlind Pc) (hpre : ∀ U : State, U.heap = H → s.WarmedH U.vm → Pc AsV.toArray U)
    (hcs : cells + en2.2.2.2.2.2.1 ≤ R.cells ∧ slots + en2.2.2.2.2.2.2.1 ≤ R.slots) (hsz : lsA.size = nL) (hd : decode cc pc = .ok (.invokestatic idx, 3)) : va_Run p l e R s mt args below meth c H locs cells slots en2.2.2.2.2.2.1 en2.2.2.2.2.2.2.1 (F0 mt pc lsA stA) rest (Qc AsV.toArray) (fun q => zbs X ≤ q) := by
  obtain ⟨-, hg12, hgw2⟩ := hKi
  rcases hgw2 with z | ⟨hnm, hcode, hini, hkd, hsel, hpar⟩
  · exact absurd z (by decide)
  have hcodeB := zword (args := args) hK hcode rfl
  have hiniB := zword (args := args) hK hini rfl
  have hws : ∀ w ∈ [Cond.code me2.1 me2.2.1 en2.2.2.1 me2.2.2.1], ∀ (a' : Array Value) (U : State), s.WarmedH U.vm → w.before a' U = true := fun w hw a' U hW => by
    rw [List.mem_singleton] at hw
    rw [hw]
    exact (hK.warm hW).1 _ hcode rfl a'
  have hS : CallFix p mt c cc nL s args [] own := ⟨hexec, hb, hml, hown, fun _ h => by cases h⟩
  have hlen : ∀ sig, parseMethodDescriptor me2.1.desc = some sig → en2.2.1 = sig.parameters.length := fun sig h => by
    rw [h] at hpar
    exact (Option.some.inj hpar).symm
  rw [if_pos rfl] at hkd
  exact va_runS hS hMet ⟨⟨hr1, hr2, hr3, hr4, hws, List.mem_cons_self, hcodeB, hiniB, hnm, hlen, zword (args := args) hK hw rfl⟩, zword (args := args) hK hkd rfl⟩ ⟨hbl, hpre⟩ rfl hAl hsz hsA (lv_room hrw) hd hcs
theorem zyrow_sN {p : Program} {l : Launch} {e : Env} {R : Room} {s : State} {mt : MethodId} {args : Array Value} {below : List Frame} {meth : Method} {c : Code} {X : zCx} {nL pc idx cells slots : Nat} {H : Heap} {locs : List Loc} {lsA : Array Slot} {stA rest AsV : List Value} {own : String} {cc : ByteArray} {en2 : zEn} {me2 : zMe} {rm : Room} {Pc : Array Value → State → Prop} {Qc : Array Value → State → Outcome → State → Prop}
    (hexec : p.tables.exec = Jvm.exec) (hb : c.code = cc) (hml : c.maxLocals = nL) (hown : s.vm.findClass own = some mt.cls) (hK : zKn X s) (hw : Cond.methodLinkNest own idx me2.1 "HornBraider" ∈ lw_tbl) (hcls2 : me2.1.cls = me2.2.2.2) (hKi : zKi 2 en2 me2)
    (hsA : stA = AsV.reverse ++ rest) (hAl : AsV.length = en2.2.1) (hrw : (rest.map fun v => v.category).sum ≤ 8) (hMet : Met l me2.1 [Cond.code me2.1 me2.2.1 en2.2.2.1 me2.2.2.1] rm Pc Qc en2.2.2.2.2.2.1 en2.2.2.2.2.2.2.1 (fun q => zbs X ≤ q)) (hr1 : rm.cells = en2.2.2.2.2.2.1) (hr2 : rm.slots = en2.2.2.2.2.2.2.1) (hr3 : rm.frames + 1 ≤ R.frames) (hr4 : 8 + (en2.2.2.1 + 11) + rm.locals ≤ R.locals) (hbl : FrameBlind Pc) (hpre : ∀ U : State, U.heap = H → s.WarmedH U.vm → Pc AsV.toArray U)
    (hcs : cells + en2.2.2.2.2.2.1 ≤ R.cells ∧ slots + en2.2.2.2.2.2.2.1 ≤ R.slots) (hsz : lsA.size = nL) (hd : decode cc pc = .ok (.invokestatic idx, 3)) : va_Run p l e R s mt args below meth c H locs cells slots en2.2.2.2.2.2.1 en2.2.2.2.2.2.2.1 (F0 mt pc lsA stA) rest (Qc AsV.toArray) (fun q => zbs X ≤ q) := by
  obtain ⟨-, hg12, hgw2⟩ := hKi
  rcases hgw2 with z | ⟨hnm, hcode, hini, hkd, hsel, hpar⟩
  · exact absurd z (by decide)
  have hcodeB := zword (args := args) hK hcode rfl
  have hiniB := zword (args := args) hK hini rfl
  have hws : ∀ w ∈ [Cond.code me2.1 me2.2.1 en2.2.2.1 me2.2.2.1], ∀ (a' : Array Value) (U : State), s.WarmedH U.vm → w.before a' U = true := fun w hw a' U hW => by
    rw [List.mem_singleton] at hw
    rw [hw]
    exact (hK.warm hW).1 _ hcode rfl a'
  have hS : CallFix p mt c cc nL s args [] own := ⟨hexec, hb, hml, hown, fun _ h => by cases h⟩
  have hlen : ∀ sig, parseMethodDescriptor me2.1.desc = some sig → en2.2.1 = sig.parameters.length := fun sig h => by
    rw [h] at hpar
    exact (Option.some.inj hpar).symm
  rw [if_pos rfl] at hkd
  exact va_runSN hS hMet ⟨⟨⟨hr1, hr2, hr3, hr4, hws, List.mem_cons_self⟩, hcodeB, hiniB, hnm, hlen, zword (args := args) hK hw rfl⟩, zword (args := args) hK hkd rfl, trivial⟩ ⟨hbl, hpre⟩ rfl hAl hsz hsA (lv_room hrw) hd hcs
end
section
/-! THE SECOND EXECUTOR IS RIGHT -/
def zyX0 (B : zCx) (J : zyJt) : zyX := (B, fun _ => 0, 0, fun _ => 0, 0, (fun _ _ => none, fun _ => none), J)
def zyvo (X : zyX) (v : List Nat) (o : Option Value) : Prop := match v, o with
  | [], none => True
  | [a], some x => zyV X a x
  | _, _ => False
/-- the base alone -/
def zyMI (mi : zyB) (B : zCx) (J : zyJt) (U : State) (H : Heap) : Prop :=
  (∀ a c, zG mi a = some c → a < 90000 ∧ zySh B U a c H) ∧ (∀ a c k, zG mi a = some c → k < zyLen c → ∃ w, zyEl mi B H a k = some w ∧ ∀ r ∈ c.2.2, r.1 ≤ k → k ≤ r.2.1 → ¬ r.2.2 % 8 = 1 ∧ zyv (fun _ => 0) 0 (zad B) r.2.2 w) ∧
  J.1 (zyEl mi B H) ∧ ∀ q, q < zbs B → H[q]? = (zH0 B)[q]?
theorem zyMI.moved {mi : zyB} {B : zCx} {J : zyJt} {u U : State} {H : Heap} (hvm : u.vm.Alike U.vm) (h : zyMI mi B J u H) : zyMI mi B J U H := ⟨fun a c h1 => ⟨(h.1 a c h1).1, (h.1 a c h1).2.moved hvm⟩, h.2⟩
/-- elements as a list of codes says -/
def zyPk (mi : zyB) (B : zCx) (l : List (Nat × Nat)) (H : Heap) : Prop := ∀ p ∈ l, ∃ (c : zyCl) (x : Value), zG mi (p.1 / 16384) = some c ∧ p.1 % 16384 < zyLen c ∧ zyEl mi B H (p.1 / 16384) (p.1 % 16384) = some x ∧ ¬ p.2 % 8 = 1 ∧ zyv (fun _ => 0) 0 (zad B) p.2 x
def zyAi (A : Array Value) (i : Nat) : Int32 := match A.toList[i]? with
  | some (.int x) => x
  | _ => 0
/-- an answer as a contract's list says -/
def zyvr (mi : zyB) (B : zCx) (J : zyJt) (r : List Nat) (A : Array Value) (s t : State) (vo : Option Value) : Prop := match r with
  | [c, id] => ∃ z : Int32, vo = some (.int z) ∧ zyV (zyX0 B J) c (.int z) ∧ J.2 id (zyEl mi B s.heap) (zyAi A 1) (zyAi A 2) z
  | [c, id, key] => vo = none ∧ ∃ z0 z : Int32, zyEl mi B s.heap (key / 16384) (key % 16384) = some (.int z0) ∧ zyEl mi B t.heap (key / 16384) (key % 16384) = some (.int z) ∧ zyV (zyX0 B J) c (.int z) ∧ J.2 id (zyEl mi B s.heap) z0 (zyAi A 1) z
  | r => zyvo (zyX0 B J) r vo
theorem zyvr_of {mi : zyB} {B : zCx} {J : zyJt} {r : List Nat} {A : Array Value} {s t : State} {vo : Option Value} (h : zyvo (zyX0 B J) r vo) : zyvr mi B J r A s t vo := by
  match r, vo, h with
  | [], none, h => exact h
  | [a], some x, h => exact h
def zyQk (mi : zyB) (B : zCx) (J : zyJt) (ct : zyCt) : Array Value → State → Outcome → State → Prop := fun A s o t => ∃ vo, o = .returned vo ∧ zyvr mi B J ct.2.2.1 A s t vo ∧ zKn B t ∧ zyMI mi B J t t.heap ∧ zyPk mi B ct.2.2.2.2.2 t.heap ∧ (∀ a k, zyin ct.2.1 a k = false → zyEl mi B t.heap a k = zyEl mi B s.heap a k) ∧ ∀ q, (∀ a c, zG mi a = some c → ¬ q = zad B a) → t.heap[q]? = s.heap[q]?
/-- a contract holds -/
def zyCon (l : Launch) (mi : zyB) (J : zyJt) (en2 : zEn) (me2 : zMe) (ct : zyCt) : Prop := ∀ (B : zCx) (AsV : List Value), zySt (zyX0 B J) ct.1 AsV →
  Met l me2.1 [Cond.code me2.1 me2.2.1 en2.2.2.1 me2.2.2.1] { frames := ct.2.2.2.1, cells := en2.2.2.2.2.2.1, slots := en2.2.2.2.2.2.2.1, locals := 64 * ct.2.2.2.1 } (va_Pc AsV (fun U => zKn B U ∧ zyMI mi B J U U.heap ∧ zyPk mi B ct.2.2.2.2.1 U.heap)) (zyQk mi B J ct) en2.2.2.2.2.2.1 en2.2.2.2.2.2.2.1 (fun q => zbs B ≤ q)
def zyCons (l : Launch) (P : zyP) (J : zyJt) : Prop := ∀ y2 ct en2 me2, ct ∈ P.2.1 y2 → zG zxMeta y2 = some en2 → zG zMeth y2 = some me2 → zyCon l P.1 J en2 me2 ct
def zyCf (P : zyP) (X : zyX) (en : zEn) (me : zMe) (d : Nat) (p : Program) (R : Room) (s : State) (mt : MethodId) (c : Code) : Prop :=
  p.tables.exec = Jvm.exec ∧ c.code = me.2.1 ∧ c.maxLocals = en.2.2.1 ∧ s.vm.findClass me.2.2.2 = some mt.cls ∧ zyKn P X s ∧ d ≤ R.frames ∧ 64 * d ≤ R.locals ∧ en.2.2.2.2.2.1 ≤ R.cells ∧ en.2.2.2.2.2.2.1 ≤ R.slots
/-- symbols, facts -/
def zyEx (X : zyX) (ρ2 : Nat → Int32) (w : zW) (m : zyM) : Prop := zEnv ρ2 w.2 ∧ zyXt (zyre X ρ2 w.1) ∧ ∀ f ∈ m.2, zyFm (zyre X ρ2 w.1) f
def zyHr (bt : zW → List Nat → zyM → Bool) (P : zyP) (stop : zyK) (n : Nat) (X : zyX) (en : zEn) (me : zMe) (fs : List zFr) (p : Program) (l : Launch) (e : Env) (R : Room) (s : State) (mt : MethodId) (args : Array Value) (below : List Frame) (meth : Method) (c : Code) (Q : State → Prop) : Prop :=
  ∀ (n' : Nat) (ρ2 : Nat → Int32) (w : zW) (v : List Nat) (m : zyM) (H : Heap) (locs : List Loc) (lsA : Array Slot) (pc : Nat) (vo : Option Value) (cells slots : Nat), n' < n → zyback bt v (zyok bt P stop n') w fs m = true → zyEx X ρ2 w m → zyMem P (zyre X ρ2 w.1) s m.1 H → (∀ x ∈ locs, zbs (zyb X) ≤ x.base) → cells ≤ en.2.2.2.2.2.1 → slots ≤ en.2.2.2.2.2.2.1 → zyvo (zyre X ρ2 w.1) v vo → zRi me pc vo →
    W p l e R s mt args below meth c H locs cells slots Q (F0 mt pc lsA vo.toList)
def zyHs (P : zyP) (stop : zyK) (X : zyX) (en : zEn) (d : Nat) (fs : List zFr) (p : Program) (l : Launch) (e : Env) (R : Room) (s : State) (mt : MethodId) (args : Array Value) (below : List Frame) (meth : Method) (c : Code) (Q : State → Prop) : Prop :=
  ∀ (ρ2 : Nat → Int32) (N2 : Nat) (w : zW) (pc : Nat) (ls st : List Nat) (q : zQ) (m : zyM) (H : Heap) (locs : List Loc) (lsA : Array Slot) (stA : List Value), stop w en.1 en.2.2.2.2 pc ls st q fs m = true → zyRl P (zyre X ρ2 N2) s en.2.2.1 (d, en.2.2.2.2.2.1, en.2.2.2.2.2.2.1) w ls st q m H locs lsA stA →
    W p l e R s mt args below meth c H locs q.2.1 q.2.2 Q (F0 mt pc lsA stA)
def zyMain (l : Launch) (bt : zW → List Nat → zyM → Bool) (P : zyP) (stop : zyK) (n : Nat) : Prop :=
  ∀ (X : zyX) (y0 : Nat) (en : zEn) (me : zMe), zyCons l P (zyJ X) → zOK y0 en me →
  ∀ (w : zW) (pc : Nat) (ls st : List Nat) (q : zQ) (fs : List zFr) (m : zyM), zyok bt P stop n w en.1 en.2.2.2.2 pc ls st q fs m = true →
  ∀ (p : Program) (e : Env) (R : Room) (s : State) (mt : MethodId) (args : Array Value) (below : List Frame) (meth : Method) (c : Code) (Q : State → Prop) (H : Heap) (locs : List Loc) (lsA : Array Slot) (stA : List Value),
    zyCf P X en me q.1 p R s mt c → zyRl P X s en.2.2.1 (q.1, en.2.2.2.2.2.1, en.2.2.2.2.2.2.1) w ls st q m H locs lsA stA → zyHr bt P stop n X en me fs p l e R s mt args below meth c Q → zyHs P stop X en q.1 fs p l e R s mt args below meth c Q →
    W p l e R s mt args below meth c H locs q.2.1 q.2.2 Q (F0 mt pc lsA stA)
theorem zyback_c {bt : zW → List Nat → zyM → Bool} {v : List Nat} {k : zyK} {w : zW} {cf : Nat → zT} {y : zY} {pc : Nat} {ls st : List Nat} {q : zQ} {fs : List zFr} {m : zyM} : zyback bt v k w ((cf, y, pc, ls, st, q) :: fs) m = k w cf y pc ls (List.rec (motive := fun _ => List Nat) st (fun a _ _ => a :: st) v) q fs m := rfl
/-- a call's continuation -/
theorem zycont {p : Program} {l : Launch} {e : Env} {R : Room} {s : State} {mt : MethodId} {args : Array Value} {below : List Frame} {meth : Method} {c : Code} {Q : State → Prop} {B : zCx} {H : Heap} {locs : List Loc} {cells slots mc ms pc : Nat} {lsA : Array Slot} {st0 rest : List Value} {Qa : State → Outcome → State → Prop}
    (hr : va_Run p l e R s mt args below meth c H locs cells slots mc ms (F0 mt pc lsA st0) rest Qa (fun q => zbs B ≤ q)) (hl : ∀ x ∈ locs, zbs B ≤ x.base)
    (kk : ∀ (st₀ t : State) (vo : Option Value) (locs2 : List Loc), st₀.heap = H → Qa st₀ (.returned vo) t → t.vm.Alike s.vm → (∀ x ∈ locs2, zbs B ≤ x.base) → W p l e R s mt args below meth c t.heap locs2 (cells + mc) (slots + ms) Q (F0 mt (pc + 3) lsA (vo.toList ++ rest))) :
    W p l e R s mt args below meth c H locs cells slots Q (F0 mt pc lsA st0) := by
  intro T hT X0
  obtain ⟨v, st₀, t, T', L, h0, X', hL, e1, e2, hQ, st⟩ := hr T hT X0
  have hal : t.vm.Alike s.vm := by
    have := X'.warmed.alike
    rw [e2] at this
    exact this.symm
  obtain ⟨t2, a1, b1⟩ := kk st₀ t v (locs ++ L) h0 hQ hal (fun x hx => by
    rcases List.mem_append.mp hx with h | h
    · exact hl x h
    · exact hL x h) T' e1 X'
  exact ⟨t2, st t2 a1, b1⟩
/-! lists of calls by contract -/
theorem zyfind_iff {w : zW} {B : zyB} {m : List (Nat × Nat)} {as : List Nat} {j : Bool} {k : zyCt → Bool} : ∀ {l : List zyCt}, zyfind w B m as j k l = true → j = true ∨ ∃ ct ∈ l, zysubL w as ct.1 = true ∧ zypre w B m ct.2.2.2.2.1 = true ∧ k ct = true := by
  intro l
  induction l with
  | nil => intro h; exact Or.inl h
  | cons ct t ih =>
    intro h
    have e : zyfind w B m as j k (ct :: t) = zif (zand (zysubL w as ct.1) (zypre w B m ct.2.2.2.2.1)) (k ct) (zyfind w B m as j k t) := rfl
    rw [e] at h
    rcases zif_iff h with ⟨h1, h2⟩ | ⟨-, h2⟩
    · obtain ⟨g1, g2⟩ := zand_iff h1
      exact Or.inr ⟨ct, List.mem_cons_self, g1, g2, h2⟩
    · rcases ih h2 with q | ⟨c2, q1, q2⟩
      · exact Or.inl q
      · exact Or.inr ⟨c2, List.mem_cons_of_mem _ q1, q2⟩
theorem zylen_eq (c : zyCl) : zylenB c = zyLen c := by
  unfold zylenB zyLen
  cases h : Nat.ble (Nat.succ c.1) 12 with
  | true =>
    have h2 : c.1 + 1 ≤ 12 := zbleT h
    rw [if_pos (by omega)]
    rfl
  | false =>
    have h2 : ¬ c.1 + 1 ≤ 12 := zbleF h
    rw [if_neg (by omega)]
    rfl
theorem zysubL_iff {X : zyX} {w : zW} (hE : zEnv (zyρ X) w.2) : ∀ {as cs : List Nat} {AsV : List Value}, zysubL w as cs = true → zySt X as AsV → zySt (zyX0 (zyb X) (zyJ X)) cs AsV := by
  intro as
  induction as with
  | nil =>
    intro cs AsV h hS
    rw [zySt_n hS]
    cases cs with
    | nil => trivial
    | cons c t => cases h
  | cons a t ih =>
    intro cs AsV h hS
    obtain ⟨b, u, rfl, h1, h2⟩ := zySt_c hS
    cases cs with
    | nil => cases h
    | cons c t2 =>
      have h : zand (zysub w a c) (zysubL w t t2) = true := h
      obtain ⟨g1, g2⟩ := zand_iff h
      exact ⟨(zysub_iff g1 hE h1).2, ih g2 h2⟩
theorem zykeep_eq {f : zyR} : ∀ {l : List (Nat × Nat)} {k : List (Nat × Nat) → Bool}, zykeep f l k = k (l.filter (fun p => !(zyin f (p.1 / 16384) (p.1 % 16384)))) := by
  intro l
  induction l with
  | nil => intro k; rfl
  | cons p t ih =>
    intro k
    have e : zykeep f (p :: t) k = zif (zyin f (p.1 / 16384) (p.1 % 16384)) (zykeep f t k) (zykeep f t (fun u => k (p :: u))) := rfl
    rw [e]
    cases hb : zyin f (p.1 / 16384) (p.1 % 16384) with
    | true => rw [zif_t, ih, List.filter_cons_of_neg (by rw [hb]; decide)]
    | false => rw [zif_f, ih, List.filter_cons_of_pos (by rw [hb]; decide)]
theorem zykeep_l {f : zyR} {key : Nat} : ∀ {l : List (Nat × Nat)}, zyl (l.filter (fun p => !(zyin f (p.1 / 16384) (p.1 % 16384)))) key = if zyin f (key / 16384) (key % 16384) = true then none else zyl l key := by
  intro l
  induction l with
  | nil => split <;> rfl
  | cons p t ih =>
    cases hb : zyin f (p.1 / 16384) (p.1 % 16384) with
    | true =>
      rw [List.filter_cons_of_neg (by rw [hb]; decide), ih, zyl_c]
      by_cases q : p.1 = key
      · rw [q] at hb
        rw [if_pos hb, if_pos hb]
      · rw [if_neg q]
    | false =>
      rw [List.filter_cons_of_pos (by rw [hb]; decide), zyl_c, zyl_c, ih]
      by_cases q : p.1 = key
      · rw [q] at hb
        rw [if_pos q, if_pos q, if_neg (by rw [hb]; decide)]
      · rw [if_neg q, if_neg q]
theorem zyfitM_iff {w : zW} {B : zyB} : ∀ {l : List (Nat × Nat)}, zyfitM w B l = true → ∀ key v, zyl l key = some v → ∃ c, zG B (key / 16384) = some c ∧ ∀ r ∈ c.2.2, r.1 ≤ key % 16384 → key % 16384 ≤ r.2.1 → zysub w v r.2.2 = true := by
  intro l
  induction l with
  | nil => intro _ key v h; cases h
  | cons p t ih =>
    intro h key v hk
    have h : zand (zget B (p.1 / 16384) (fun c => zyall (fun code => zysub w p.2 code) (p.1 % 16384) (p.1 % 16384) c.2.2)) (zyfitM w B t) = true := h
    obtain ⟨g1, g2⟩ := zand_iff h
    rw [zyl_c] at hk
    by_cases q : p.1 = key
    · rw [if_pos q] at hk
      cases hk
      obtain ⟨c, q1, q2⟩ := zget_iff g1
      rw [q] at q1 q2
      exact ⟨c, q1, fun r hr r1 r2 => zyall_iff q2 r hr _ (Nat.le_refl _) (Nat.le_refl _) r1 r2⟩
    · rw [if_neg q] at hk
      exact ih g2 key v hk
theorem zysubF_iff {F : zyR} : ∀ {f : zyR}, zysubF F f = true → ∀ a k, zyin f a k = true → zyin F a k = true := by
  intro f
  induction f with
  | nil => intro _ a k h; cases h
  | cons p t ih =>
    intro h a k hk
    have h : zand (zycov F p.1 p.2.1 p.2.2) (zysubF F t) = true := h
    obtain ⟨g1, g2⟩ := zand_iff h
    obtain ⟨p2, q1, q2, q3, q4⟩ := zyin_iff.mp hk
    rcases List.mem_cons.mp q1 with q | q
    · rw [← q] at g1
      rw [← q2]
      exact zycov_iff g1 k q3 q4
    · exact ih g2 a k (zyin_iff.mpr ⟨p2, q, q2, q3, q4⟩)
/-- the memory is as the base says -/
theorem zyMem.base {P : zyP} {X : zyX} {U : State} {w : zW} {l0 : List (Nat × Nat)} {H : Heap} (hM : zyMem P X U l0 H) (hE : zEnv (zyρ X) w.2) (hf : zyfitM w P.1 l0 = true) : zyMI P.1 (zyb X) (zyJ X) U H := by
  refine ⟨hM.1, fun a c k hg hk => ?_, hM.2.2.2.1, hM.2.2.2.2.1⟩
  obtain ⟨x, h1, h2⟩ := hM.2.1 a c k hg hk
  have hl := zyLen_le hM hg
  refine ⟨x, h1, fun r hr r1 r2 => ?_⟩
  unfold zyEt at h2
  cases hq : zyl l0 (a * 16384 + k) with
  | none =>
    rw [hq] at h2
    exact ⟨(h2 r hr r1 r2).1, zyv_cl (h2 r hr r1 r2).1 (h2 r hr r1 r2).2⟩
  | some v =>
    rw [hq] at h2
    obtain ⟨c2, g1, g2⟩ := zyfitM_iff hf _ v hq
    have e1 : (a * 16384 + k) / 16384 = a := by omega
    have e2 : (a * 16384 + k) % 16384 = k := by omega
    rw [e1, hg] at g1
    cases g1
    rw [e2] at g2
    exact zysub_iff (g2 r hr r1 r2) hE h2
/-- behind a call by contract -/
theorem zyMem.after {P : zyP} {X : zyX} {U : State} {l0 : List (Nat × Nat)} {H H2 : Heap} {F : zyR} (hM : zyMem P X U l0 H) (hI : zyMI P.1 (zyb X) (zyJ X) U H2) (hF : ∀ a k, zyin F a k = true → zyin P.2.2.1 a k = true) (hfr : ∀ a k, zyin F a k = false → zyEl P.1 (zyb X) H2 a k = zyEl P.1 (zyb X) H a k) (hout : ∀ q, (∀ a c, zG P.1 a = some c → ¬ q = zad (zyb X) a) → H2[q]? = H[q]?) : zyMem P X U (l0.filter (fun p => !(zyin F (p.1 / 16384) (p.1 % 16384)))) H2 := by
  refine ⟨hI.1, fun a c k hg hk => ?_, fun a k hf => ?_, hI.2.2.1, hI.2.2.2, fun q hq => (hout q hq).trans (hM.2.2.2.2.2 q hq)⟩
  · obtain ⟨x, h1, h2⟩ := hI.2.1 a c k hg hk
    have hl := zyLen_le hM hg
    refine ⟨x, h1, ?_⟩
    have e1 : (a * 16384 + k) / 16384 = a := by omega
    have e2 : (a * 16384 + k) % 16384 = k := by omega
    unfold zyEt
    rw [zykeep_l, e1, e2]
    by_cases hin : zyin F a k = true
    · rw [if_pos hin]
      exact fun r hr r1 r2 => ⟨(h2 r hr r1 r2).1, zyv_cl (h2 r hr r1 r2).1 (h2 r hr r1 r2).2⟩
    · rw [if_neg hin]
      have hin2 : zyin F a k = false := by
        cases hq : zyin F a k with
        | true => exact absurd hq hin
        | false => rfl
      obtain ⟨x2, g1, g2⟩ := hM.2.1 a c k hg hk
      rw [← hfr a k hin2, h1] at g1
      cases g1
      exact g2
  · have hin2 : zyin F a k = false := by
      cases hq : zyin F a k with
      | true => rw [hF a k hq] at hf; cases hf
      | false => rfl
    rw [hfr a k hin2]
    exact hM.2.2.1 a k hf
/-- an inlined call's contract -/
def zyQi (P : zyP) (X : zyX) (K : zW → List Nat → zyM → Prop) : Array Value → State → Outcome → State → Prop := fun _ _ o t => ∃ (ρ2 : Nat → Int32) (w : zW) (v : List Nat) (m : zyM) (vo : Option Value), o = .returned vo ∧ zyN X ≤ w.1 ∧ (∀ k, k < zyN X → ρ2 k = zyρ X k) ∧ zEnv ρ2 w.2 ∧ (∀ f ∈ m.2, zyFm (zyre X ρ2 w.1) f) ∧ zyvo (zyre X ρ2 w.1) v vo ∧ zyMem P (zyre X ρ2 w.1) t m.1 t.heap ∧ K w v m
theorem zypre_iff {P : zyP} {X : zyX} {U : State} {w : zW} {l0 : List (Nat × Nat)} {H : Heap} (hM : zyMem P X U l0 H) (hE : zEnv (zyρ X) w.2) : ∀ {l : List (Nat × Nat)}, zypre w P.1 l0 l = true → zyPk P.1 (zyb X) l H := by
  intro l
  induction l with
  | nil => intro _ p hp; cases hp
  | cons p0 t ih =>
    intro h p hp
    have h : zand (zget P.1 (p0.1 / 16384) (fun c => zif (Nat.ble (p0.1 % 16384 + 1) (zylenB c)) (zylk (zyrw (fun v => zysub w v p0.2) (p0.1 % 16384) (p0.1 % 16384) c.2.2) (fun v => zysub w v p0.2) p0.1 l0) false)) (zypre w P.1 l0 t) = true := h
    obtain ⟨g1, g2⟩ := zand_iff h
    rcases List.mem_cons.mp hp with q | q
    · subst q
      obtain ⟨c, hg, g3⟩ := zget_iff g1
      rcases zif_iff g3 with ⟨g4, g5⟩ | ⟨-, g5⟩
      · have g4 := zbleT g4
        rw [zylen_eq] at g4
        obtain ⟨x, h1, h2⟩ := hM.2.1 _ c (p.1 % 16384) hg (by omega)
        unfold zyEt at h2
        have e1 : p.1 / 16384 * 16384 + p.1 % 16384 = p.1 := by omega
        rw [e1] at h2
        rw [zylk_eq] at g5
        have fin : ∀ v, zyV X v x → zysub w v p.2 = true → ∃ (c : zyCl) (x : Value), zG P.1 (p.1 / 16384) = some c ∧ p.1 % 16384 < zyLen c ∧ zyEl P.1 (zyb X) H (p.1 / 16384) (p.1 % 16384) = some x ∧ ¬ p.2 % 8 = 1 ∧ zyv (fun _ => 0) 0 (zad (zyb X)) p.2 x := fun v hv hs => ⟨c, x, hg, by omega, h1, (zysub_iff (ρ2 := fun _ => 0) (N2 := 0) hs hE hv).1, (zysub_iff hs hE hv).2⟩
        cases hq : zyl l0 p.1 with
        | some v =>
          rw [hq] at g5 h2
          exact fin v h2 g5
        | none =>
          rw [hq] at g5 h2
          obtain ⟨r, q1, q2, q3, q4⟩ := zyrw_iff g5
          exact fin r.2.2 (h2 r q1 q2 q3).2 q4
      · cases g5
    · exact ih g2 p q
theorem zyputs_iff {P : zyP} {X : zyX} {U : State} {H : Heap} : ∀ {l : List (Nat × Nat)} {u : List (Nat × Nat)} {k : List (Nat × Nat) → Bool}, zyputs l u k = true → zyMem P X U u H → zyPk P.1 (zyb X) l H → ∃ u2, k u2 = true ∧ zyMem P X U u2 H := by
  intro l
  induction l with
  | nil => intro u k h hM _; exact ⟨u, h, hM⟩
  | cons p t ih =>
    intro u k h hM hP
    have h : zyputs t u (fun u2 => zydel p.1 u2 (fun u3 => k (p :: u3))) = true := h
    obtain ⟨u2, h2, hM2⟩ := ih h hM (fun p2 hp2 => hP p2 (List.mem_cons_of_mem _ hp2))
    rw [zydel_eq] at h2
    obtain ⟨c, x, q1, q2, q3, q4, q5⟩ := hP p List.mem_cons_self
    have hk := hM2.know q1 q2 q3 (zyv_cl (ρ2 := zyρ X) (N2 := zyN X) q4 q5)
    have e1 : p.1 / 16384 * 16384 + p.1 % 16384 = p.1 := by omega
    rw [e1] at hk
    exact ⟨_, h2, hk⟩
end
