/-! THE SECOND EXECUTOR: no cell is made; the memory is a base (rows of codes for each place, which hold whenever nothing else is known) and what is known beyond it (key 16384 * place + index, code), and the facts that were met on the way. Codes as before, and: 4 with 2^64 or more behind it any long, 6 one of two places. -/
abbrev zyF : Type := Nat × Nat × Nat × Nat
abbrev zyM : Type := List (Nat × Nat) × List zyF
abbrev zyR : Type := List (Nat × Nat × Nat)
abbrev zyCl : Type := Nat × Nat × zyR
abbrev zyB : Type := List (List (List zyCl))
/-- a contract: what is asked of the arguments, where it may write, what it answers, how deep it calls, what it asks of elements, what it says of elements behind -/
abbrev zyCt : Type := List Nat × zyR × List Nat × Nat × List (Nat × Nat) × List (Nat × Nat)
/-- base, contracts, where may be written, what no one may write without a contract, how wide a symbol may be to be split -/
abbrev zyP : Type := zyB × (Nat → List zyCt) × zyR × zyR × Nat
abbrev zyK : Type := zW → (Nat → zT) → zY → Nat → List Nat → List Nat → zQ → List zFr → zyM → Bool
abbrev zyOp : Type := Nat → Nat → zyK → zyK
noncomputable def zyin (l : zyR) (a k : Nat) : Bool := List.rec (motive := fun _ => Bool) false (fun p _ ih => zif (zand (Nat.beq p.1 a) (zand (Nat.ble p.2.1 k) (Nat.ble k p.2.2))) true ih) l
/-- one row has all of it -/
noncomputable def zycov (l : zyR) (a lo hi : Nat) : Bool := List.rec (motive := fun _ => Bool) false (fun p _ ih => zif (zand (Nat.beq p.1 a) (zand (Nat.ble p.2.1 lo) (Nat.ble hi p.2.2))) true ih) l
/-- no row has any of it -/
noncomputable def zyapt (l : zyR) (a lo hi : Nat) : Bool := List.rec (motive := fun _ => Bool) true (fun p _ ih => zand (zif (Nat.beq p.1 a) (zif (Nat.ble (Nat.succ hi) p.2.1) true (Nat.ble (Nat.succ p.2.2) lo)) true) ih) l
noncomputable def zylk {β : Type} (j : β) (f : Nat → β) (key : Nat) (l : List (Nat × Nat)) : β := List.rec (motive := fun _ => β) j (fun p _ ih => zif (Nat.beq p.1 key) (f p.2) ih) l
/-- the first row that has all from lo to hi -/
noncomputable def zyrw (f : Nat → Bool) (lo hi : Nat) (l : zyR) : Bool := List.rec (motive := fun _ => Bool) false (fun p _ ih => zif (zand (Nat.ble p.1 lo) (Nat.ble hi p.2.1)) (f p.2.2) ih) l
/-- all rows that have any of it -/
noncomputable def zyall (f : Nat → Bool) (lo hi : Nat) (l : zyR) : Bool := List.rec (motive := fun _ => Bool) true (fun p _ ih => zand (zif (Nat.ble (Nat.succ hi) p.1) true (zif (Nat.ble (Nat.succ p.2.1) lo) true (f p.2.2))) ih) l
noncomputable def zydel (key : Nat) (l : List (Nat × Nat)) : (List (Nat × Nat) → Bool) → Bool := List.rec (motive := fun _ => (List (Nat × Nat) → Bool) → Bool) (fun k => k []) (fun p _ ih k => zif (Nat.beq p.1 key) (ih k) (ih (fun u => k (p :: u)))) l
noncomputable def zyput (key v : Nat) (m : zyM) (k : zyM → Bool) : Bool := zydel key m.1 (fun u => k ((key, v) :: u, m.2))
/-- does the code say all that the value may be -/
noncomputable def zysub (w : zW) (v code : Nat) : Bool :=
  zif (Nat.beq (Nat.mod code 8) 2) (zbd w v (fun lo hi => zand (Nat.ble (Nat.div code 34359738368) lo) (Nat.ble hi (Nat.mod (Nat.div code 8) 4294967296))))
  (zif (zand (Nat.beq (Nat.mod code 8) 4) (Nat.ble 18446744073709551616 (Nat.div code 8))) (Nat.beq (Nat.mod v 8) 4)
  (zif (Nat.beq (Nat.mod code 8) 6) (zif (Nat.beq v (Nat.add (Nat.mul 8 (Nat.mod (Nat.div code 8) 1048576)) 3)) true (zif (Nat.beq v (Nat.add (Nat.mul 8 (Nat.div (Nat.div code 8) 1048576)) 3)) true (Nat.beq v code)))
   (zif (Nat.beq (Nat.mod code 8) 1) false (Nat.beq v code))))
noncomputable def zyapp (x : Nat × Nat) (l : List (Nat × Nat)) : Nat → (Nat → List (Nat × Nat) → Bool) → Bool := List.rec (motive := fun _ => Nat → (Nat → List (Nat × Nat) → Bool) → Bool) (fun i k => k i [x]) (fun a _ ih i k => ih (Nat.succ i) (fun j u => k j (a :: u))) l
/-- a new symbol within bounds -/
noncomputable def zyfresh (w : zW) (lo hi : Nat) (k : zW → Nat → Bool) : Bool := zyapp (lo, hi) w.2 0 (fun n e => zif (Nat.beq n w.1) (zfr false (Nat.succ n) (fun n2 => zfr false (Nat.add (Nat.mul n 34359738368) 1) (fun v => k (n2, e) v))) false)
/-- a value that was read from one place -/
noncomputable def zyval (P : zyP) (v a j key : Nat) (w : zW) (m : zyM) (k : zW → Nat → zyM → Bool) : Bool :=
  zif (Nat.beq (Nat.mod v 8) 2) (zfr false (Nat.div v 34359738368) (fun lo => zfr false (Nat.mod (Nat.div v 8) 4294967296) (fun hi => zyfresh w lo hi (fun w2 v2 => zyput key v2 m (fun m2 => k w2 v2 (zif (zyin P.2.2.1 a j) m2 (m2.1, (24, v2, a, Nat.mul 8 j) :: m2.2)))))))
  (zif (Nat.beq (Nat.mod v 8) 6) (zand (zfr false (Nat.add (Nat.mul 8 (Nat.mod (Nat.div v 8) 1048576)) 3) (fun v2 => zyput key v2 m (fun m2 => k w v2 m2))) (zfr false (Nat.add (Nat.mul 8 (Nat.div (Nat.div v 8) 1048576)) 3) (fun v2 => zyput key v2 m (fun m2 => k w v2 m2))))
  (k w v m))
noncomputable def zyrd (P : zyP) (rows : zyR) (a j : Nat) (w : zW) (m : zyM) (k : zW → Nat → zyM → Bool) : Bool :=
  zfr false (Nat.add (Nat.mul a 16384) j) (fun key => zylk (zyrw (fun v => zyval P v a j key w m k) j j rows) (fun v => zyval P v a j key w m k) key m.1)
/-- a value that is known by its code alone -/
noncomputable def zynew (v : Nat) (w : zW) (k : zW → Nat → Bool) : Bool :=
  zif (Nat.beq (Nat.mod v 8) 2) (zfr false (Nat.div v 34359738368) (fun lo => zfr false (Nat.mod (Nat.div v 8) 4294967296) (fun hi => zyfresh w lo hi k))) (zif (Nat.beq (Nat.mod v 8) 6) false (k w v))
/-- what is known of a range goes, if the rows say it too -/
noncomputable def zyflush (w : zW) (rows : zyR) (lo hi base : Nat) (l : List (Nat × Nat)) : (List (Nat × Nat) → Bool) → Bool := List.rec (motive := fun _ => (List (Nat × Nat) → Bool) → Bool) (fun k => k []) (fun p _ ih k => zif (zand (Nat.ble (Nat.add base lo) p.1) (Nat.ble p.1 (Nat.add base hi))) (zif (zyall (fun c => zysub w p.2 c) (Nat.sub p.1 base) (Nat.sub p.1 base) rows) (ih k) false) (ih (fun u => k (p :: u)))) l
/-- what is kept by contract alone may say that an element isn't below 0 where another one at the same index isn't: rows (100000 + place, the other place, 0) -/
noncomputable def zyfa (w : zW) (g j : Nat) (F : List zyF) : Bool := List.rec (motive := fun _ => Bool) false (fun f _ ih => zif (zand (Nat.beq f.1 24) (zand (Nat.beq f.2.2.1 g) (zand (Nat.beq f.2.2.2 j) (zbd w f.2.1 (fun lo _ => Nat.ble 2147483648 lo))))) true ih) F
noncomputable def zyrl (P : zyP) (w : zW) (F : List zyF) (a lo hi j : Nat) (l : zyR) : Bool := List.rec (motive := fun _ => Bool) false (fun p _ ih => zif (zand (Nat.beq p.1 (Nat.add 100000 a)) (zand (zycov P.2.2.2.1 a lo hi) (zand (zyapt P.2.2.1 p.2.1 lo hi) (zyfa w p.2.1 j F)))) true ih) l
noncomputable def zyrf (P : zyP) (w : zW) (F : List zyF) (a lo hi j v : Nat) : Nat := zif (zand (Nat.beq (Nat.mod v 8) 2) (zand (Nat.beq (Nat.mod j 8) 1) (zyrl P w F a lo hi j P.2.2.2.1))) (Nat.add (Nat.mul 8 (Nat.add (Nat.mul (Nat.max (Nat.div v 34359738368) 2147483648) 4294967296) (Nat.mod (Nat.div v 8) 4294967296))) 2) v
/-! instructions -/
noncomputable def zyo_no : zyOp := fun _ _ _ _ _ _ _ _ _ _ _ _ => false
noncomputable def zyo_push (v : Nat) : zyOp := fun nx _ k w cf y _ ls st q fs m => k w cf y nx ls (v :: st) q fs m
noncomputable def zyo_load (g i : Nat) : zyOp := fun nx _ k w cf y _ ls st q fs m => znth (fun v => zif (zkd g v) (k w cf y nx ls (v :: st) q fs m) false) ls i
noncomputable def zyo_store (g i : Nat) : zyOp := fun nx _ k w cf y _ ls st q fs m => zpop false (fun v r => zif (zkd g v) (zlow ls i (zif (Nat.beq g 1)
    (zupd (fun _ k2 => k2 v) ls i (fun l1 => zupd (fun _ k2 => k2 13) l1 (Nat.succ i) (fun l2 => k w cf y nx l2 r q fs m)))
    (zupd (fun _ k2 => k2 v) ls i (fun l1 => k w cf y nx l1 r q fs m)))) false) st
noncomputable def zyo_iinc (i : Nat) (u : Nat) : zyOp := fun nx _ k w cf y _ ls st q fs m => znth (fun v => zif (Nat.beq (Nat.mod v 8) 0)
    (zfr false (Nat.mul 8 (Nat.mod (Nat.add (Nat.div v 8) u) 4294967296)) (fun v2 => zupd (fun _ k2 => k2 v2) ls i (fun l1 => k w cf y nx l1 st q fs m)))
    (zif (Nat.beq (Nat.mod v 8) 1) (zfr false (zaff v u) (fun v2 => zupd (fun _ k2 => k2 v2) ls i (fun l1 => k w cf y nx l1 st q fs m))) false)) ls i
/-- bounds of an answer: 1 +, 2 -, 3 *, 4 and, 5 rest, 6 xor, 7 or, 8 shift left, 9 right, 10 / -/
noncomputable def zyitv (g la ha lb hb : Nat) (k : Nat → Nat → Bool) : Bool :=
  zif (Nat.beq g 1) (zif (zand (Nat.ble 2147483648 (Nat.add la lb)) (Nat.ble (Nat.add ha hb) 6442450943)) (zfr false (Nat.sub (Nat.add la lb) 2147483648) (fun lo => zfr false (Nat.sub (Nat.add ha hb) 2147483648) (fun hi => k lo hi))) (k 0 4294967295))
  (zif (Nat.beq g 2) (zif (zand (Nat.ble hb (Nat.add la 2147483648)) (Nat.ble (Nat.add ha 2147483648) (Nat.add lb 4294967295))) (zfr false (Nat.sub (Nat.add la 2147483648) hb) (fun lo => zfr false (Nat.sub (Nat.add ha 2147483648) lb) (fun hi => k lo hi))) (k 0 4294967295))
  (zif (Nat.beq g 3) (zif (zand (Nat.ble 2147483648 la) (zand (Nat.ble 2147483648 lb) (Nat.ble (Nat.mul (Nat.sub ha 2147483648) (Nat.sub hb 2147483648)) 2147483647))) (zfr false (Nat.add (Nat.mul (Nat.sub la 2147483648) (Nat.sub lb 2147483648)) 2147483648) (fun lo => zfr false (Nat.add (Nat.mul (Nat.sub ha 2147483648) (Nat.sub hb 2147483648)) 2147483648) (fun hi => k lo hi)))
    (zfr false (Nat.mul (Nat.max (Nat.sub ha 2147483648) (Nat.sub 2147483648 la)) (Nat.max (Nat.sub hb 2147483648) (Nat.sub 2147483648 lb))) (fun M => zif (Nat.ble M 2147483647) (zfr false (Nat.sub 2147483648 M) (fun lo => zfr false (Nat.add 2147483648 M) (fun hi => k lo hi))) (k 0 4294967295))))
  (zif (Nat.beq g 4) (zif (Nat.ble 2147483648 lb) (zif (Nat.ble 2147483648 la) (zfr false (Nat.min ha hb) (fun hi => k 2147483648 hi)) (k 2147483648 hb)) (zif (Nat.ble 2147483648 la) (k 2147483648 ha) (k 0 4294967295)))
  (zif (Nat.beq g 5) (zif (Nat.ble 2147483649 lb) (zif (Nat.ble 2147483648 la) (zfr false (Nat.min ha (Nat.pred hb)) (fun hi => k 2147483648 hi)) (zif (Nat.ble ha 2147483648) (zfr false (Nat.sub 4294967297 hb) (fun lo => k lo 2147483648)) (zfr false (Nat.sub 4294967297 hb) (fun lo => zfr false (Nat.pred hb) (fun hi => k lo hi))))) (zif (Nat.ble hb 2147483647) (k 0 4294967295) false))
  (zif (Nat.beq g 6) (zif (zand (Nat.ble 2147483648 la) (Nat.ble 2147483648 lb)) (k 2147483648 4294967295) (zif (zand (Nat.ble ha 2147483647) (Nat.ble 2147483648 lb)) (k 0 2147483647) (k 0 4294967295)))
  (zif (Nat.beq g 7) (zif (zand (Nat.ble 2147483648 la) (Nat.ble 2147483648 lb)) (zfr false (Nat.add 2147483647 (Nat.pow 2 (Nat.succ (Nat.log2 (Nat.sub (Nat.max ha hb) 2147483648))))) (fun hi => zif (Nat.ble hi 4294967295) (k 2147483648 hi) (k 2147483648 4294967295))) (k 0 4294967295))
  (zif (Nat.beq g 8) (zif (zand (Nat.ble 2147483648 la) (zand (Nat.ble 2147483648 lb) (zand (Nat.ble hb 2147483679) (Nat.ble (Nat.mul (Nat.sub ha 2147483648) (Nat.pow 2 (Nat.sub hb 2147483648))) 2147483647)))) (zfr false (Nat.add 2147483648 (Nat.mul (Nat.sub la 2147483648) (Nat.pow 2 (Nat.sub lb 2147483648)))) (fun lo => zfr false (Nat.add 2147483648 (Nat.mul (Nat.sub ha 2147483648) (Nat.pow 2 (Nat.sub hb 2147483648)))) (fun hi => k lo hi))) (k 0 4294967295))
  (zif (Nat.beq g 9) (zif (Nat.ble 2147483648 la) (zif (zand (Nat.ble 2147483648 lb) (Nat.ble hb 2147483679)) (zfr false (Nat.add 2147483648 (Nat.div (Nat.sub ha 2147483648) (Nat.pow 2 (Nat.sub lb 2147483648)))) (fun hi => k 2147483648 hi)) (k 2147483648 ha)) (k 0 4294967295))
  (zif (Nat.beq g 10) (zif (Nat.ble 2147483649 lb) (zif (Nat.ble 2147483648 la) (zfr false (Nat.add 2147483648 (Nat.div (Nat.sub la 2147483648) (Nat.sub hb 2147483648))) (fun lo => zfr false (Nat.add 2147483648 (Nat.div (Nat.sub ha 2147483648) (Nat.sub lb 2147483648))) (fun hi => k lo hi))) (k 0 4294967295)) (zif (Nat.ble hb 2147483647) (k 0 4294967295) false))
  false)))))))))
/-- what isn't known: a symbol and an int more; else a new symbol, and the fact -/
noncomputable def zyabs (g : Nat) (a b : Nat) (w : zW) (m : zyM) (k : zW → Nat → zyM → Bool) : Bool :=
  zif (zand (Nat.beq g 1) (zand (Nat.beq (Nat.mod a 8) 1) (Nat.beq (Nat.mod b 8) 0))) (zfr false (zaff a (Nat.div b 8)) (fun v => k w v m))
  (zif (zand (Nat.beq g 1) (zand (Nat.beq (Nat.mod a 8) 0) (Nat.beq (Nat.mod b 8) 1))) (zfr false (zaff b (Nat.div a 8)) (fun v => k w v m))
  (zif (zand (Nat.beq g 2) (zand (Nat.beq (Nat.mod a 8) 1) (Nat.beq (Nat.mod b 8) 0))) (zfr false (zaff a (Nat.sub 4294967296 (Nat.mod (Nat.div b 8) 4294967296))) (fun v => k w v m))
  (zbd w a (fun la ha => zbd w b (fun lb hb => zyitv g la ha lb hb (fun lo hi => zyfresh w lo hi (fun w2 v => k w2 v (m.1, (g, v, a, b) :: m.2))))))))
noncomputable def zyslow (P : zyP) (f : Nat → Nat → Nat) (g : Nat) (dv : Bool) (a b : Nat) (w : zW) (m : zyM) (again : zW → Bool) (k : zW → Nat → zyM → Bool) : Bool :=
  zhalf w a P.2.2.2.2 (zhalf w b P.2.2.2.2 (zkn w a (zkn w b (zyabs g a b w m k) (fun ub => zfr false (Nat.mul 8 ub) (fun b2 => zyabs g a b2 w m k)))
    (fun ua => zkn w b (zfr false (Nat.mul 8 ua) (fun a2 => zyabs g a2 b w m k)) (fun ub => zif (zand dv (Nat.beq (Nat.mod ub 4294967296) 0)) false (zfr false (Nat.mul 8 (f ua ub)) (fun v => k w v m))))) again) again
noncomputable def zyo_bin (P : zyP) (dv : Bool) (f : Nat → Nat → Nat) (g : Nat) : zyOp := fun nx _ k w cf y pc ls st q fs m => zpop false (fun b t => zpop false (fun a r =>
  zif (zand (Nat.beq (Nat.mod (Nat.lor a b) 8) 0) (zif dv (Nat.ble 1 (Nat.mod (Nat.div b 8) 4294967296)) true)) (zfr false (Nat.mul 8 (f (Nat.div a 8) (Nat.div b 8))) (fun v => k w cf y nx ls (v :: r) q fs m))
    (zyslow P f g dv a b w m (fun w2 => k w2 cf y pc ls st q fs m) (fun w2 v m2 => k w2 cf y nx ls (v :: r) q fs m2))) t) st
/-- over one int: 1 minus, 2 a byte of it, 3 a char of it -/
noncomputable def zyo_un (P : zyP) (f : Nat → Nat) (g : Nat) : zyOp := fun nx _ k w cf y pc ls st q fs m => zpop false (fun a r =>
  zhalf w a P.2.2.2.2 (zkn w a (zbd w a (fun lo hi =>
    zif (Nat.beq g 1) (zif (Nat.ble 1 lo) (zfr false (Nat.sub 4294967296 hi) (fun l2 => zfr false (Nat.sub 4294967296 lo) (fun h2 => zyfresh w l2 h2 (fun w2 v => k w2 cf y nx ls (v :: r) q fs (m.1, (11, v, a, a) :: m.2))))) (zyfresh w 0 4294967295 (fun w2 v => k w2 cf y nx ls (v :: r) q fs m)))
    (zif (Nat.beq g 2) (zif (zand (Nat.ble 2147483520 lo) (Nat.ble hi 2147483775)) (k w cf y nx ls (a :: r) q fs m) (zyfresh w 2147483520 2147483775 (fun w2 v => k w2 cf y nx ls (v :: r) q fs m)))
    (zif (Nat.beq g 3) (zif (zand (Nat.ble 2147483648 lo) (Nat.ble hi 2147549183)) (k w cf y nx ls (a :: r) q fs m) (zyfresh w 2147483648 2147549183 (fun w2 v => k w2 cf y nx ls (v :: r) q fs m))) false))))
    (fun u => zfr false (f u) (fun v => k w cf y nx ls (v :: r) q fs m))) (fun w2 => k w2 cf y pc ls st q fs m)) st
noncomputable def zykL (v : Nat) : Bool := zand (Nat.beq (Nat.mod v 8) 4) (Nat.ble (Nat.succ (Nat.div v 8)) 18446744073709551616)
noncomputable def zyo_i2l (P : zyP) (f : Nat → Nat) : zyOp := fun nx _ k w cf y pc ls st q fs m => zpop false (fun a r =>
  zhalf w a P.2.2.2.2 (zkn w a (zbd w a (fun _ _ => k w cf y nx ls (147573952589676412932 :: r) q fs m)) (fun u => zfr false (f u) (fun v => k w cf y nx ls (v :: r) q fs m))) (fun w2 => k w2 cf y pc ls st q fs m)) st
noncomputable def zyo_l2i (f : Nat → Nat) : zyOp := fun nx _ k w cf y _ ls st q fs m => zpop false (fun a r => zif (zykL a) (zfr false (f (Nat.div a 8)) (fun v => k w cf y nx ls (v :: r) q fs m)) (zif (Nat.beq (Nat.mod a 8) 4) (zyfresh w 0 4294967295 (fun w2 v => k w2 cf y nx ls (v :: r) q fs m)) false)) st
noncomputable def zyo_lneg (f : Nat → Nat) : zyOp := fun nx _ k w cf y _ ls st q fs m => zpop false (fun a r => zif (zykL a) (zfr false (f (Nat.div a 8)) (fun v => k w cf y nx ls (v :: r) q fs m)) (zif (Nat.beq (Nat.mod a 8) 4) (k w cf y nx ls (147573952589676412932 :: r) q fs m) false)) st
noncomputable def zyo_lbin (dv : Bool) (f : Nat → Nat → Nat) : zyOp := fun nx _ k w cf y _ ls st q fs m => zpop false (fun b t => zpop false (fun a r =>
  zif (zand (Nat.beq (Nat.mod a 8) 4) (Nat.beq (Nat.mod b 8) 4)) (zif (zand dv (zif (zykL b) (Nat.beq (Nat.div b 8) 0) true)) false (zif (zand (zykL a) (zykL b)) (zfr false (f (Nat.div a 8) (Nat.div b 8)) (fun v => k w cf y nx ls (v :: r) q fs m)) (k w cf y nx ls (147573952589676412932 :: r) q fs m))) false) t) st
noncomputable def zyo_lcmp : zyOp := fun nx _ k w cf y _ ls st q fs m => zpop false (fun b t => zpop false (fun a r =>
  zif (zand (Nat.beq (Nat.mod a 8) 4) (Nat.beq (Nat.mod b 8) 4)) (zif (zand (zykL a) (zykL b)) (zfr false (zf_cmp (Nat.div a 8) (Nat.div b 8)) (fun v => k w cf y nx ls (v :: r) q fs m)) (zyfresh w 2147483647 2147483649 (fun w2 v => k w2 cf y nx ls (v :: r) q fs m))) false) t) st
noncomputable def zyo_lsh (f : Nat → Nat → Nat) : zyOp := fun nx _ k w cf y _ ls st q fs m => zpop false (fun b t => zpop false (fun a r =>
  zif (zand (Nat.beq (Nat.mod a 8) 4) (Nat.ble (Nat.mod b 8) 2)) (zif (zand (zykL a) (Nat.beq (Nat.mod b 8) 0)) (zfr false (f (Nat.div a 8) (Nat.div b 8)) (fun v => k w cf y nx ls (v :: r) q fs m)) (k w cf y nx ls (147573952589676412932 :: r) q fs m)) false) t) st
noncomputable def zyo_dup : zyOp := fun nx _ k w cf y _ ls st q fs m => zpop false (fun a _ => zif (z1 a) (k w cf y nx ls (a :: st) q fs m) false) st
noncomputable def zyo_dup2 : zyOp := fun nx _ k w cf y _ ls st q fs m => zpop false (fun a t => zpop false (fun b _ => zif (zand (z1 a) (z1 b)) (k w cf y nx ls (a :: b :: st) q fs m) false) t) st
noncomputable def zyo_pop : zyOp := fun nx _ k w cf y _ ls st q fs m => zpop false (fun a r => zif (z1 a) (k w cf y nx ls r q fs m) false) st
noncomputable def zyo_goto : zyOp := fun _ ax k w cf y _ ls st q fs m => k w cf y ax ls st q fs m
/-- a difference that is now known narrows what was taken away -/
noncomputable def zyeqr (w : zW) (a : Nat) (k : zW → Bool) (F : List zyF) : Bool := List.rec (motive := fun _ => Bool) (k w) (fun f _ ih => zif (zand (Nat.beq f.1 2) (Nat.beq f.2.1 a)) (zbd w a (fun ld hd => zbd w f.2.2.1 (fun lx hx => zbd w f.2.2.2 (fun ly hy => zif (zand (Nat.ble hy (Nat.add lx 2147483648)) (Nat.ble (Nat.add hx 2147483648) (Nat.add ly 4294967295))) (zcut w f.2.2.2 (Nat.sub (Nat.add lx 2147483648) hd) (Nat.sub (Nat.add hx 2147483648) ld) k) (k w))))) ih) F
/-- facts: 20 less, 21 not less, 22 the same, 23 not the same -/
noncomputable def zyo_cmp (g : Bool) (sw tn : Bool) : zyOp := fun nx ax k w cf y _ ls st q fs m => zpop false (fun b t => zpop false (fun a r =>
  zif g (zeq w a b (fun o w2 => zif o (zyeqr w2 a (fun w3 => zif (zif tn false true) (k w3 cf y ax ls r q fs (m.1, (22, 0, a, b) :: m.2)) (k w3 cf y nx ls r q fs (m.1, (22, 0, a, b) :: m.2))) m.2) (zif (zif tn true false) (k w2 cf y ax ls r q fs (m.1, (23, 0, a, b) :: m.2)) (k w2 cf y nx ls r q fs (m.1, (23, 0, a, b) :: m.2)))))
    (zlt w (zif sw b a) (zif sw a b) (fun o w2 => zif (zif tn (zif o false true) o) (k w2 cf y ax ls r q fs (m.1, (zif o 20 21, 0, zif sw b a, zif sw a b) :: m.2)) (k w2 cf y nx ls r q fs (m.1, (zif o 20 21, 0, zif sw b a, zif sw a b) :: m.2))))) t) st
noncomputable def zyo_cmp0 (g : Bool) (sw tn : Bool) : zyOp := fun nx ax k w cf y pc ls st q fs m => zyo_cmp g sw tn nx ax k w cf y pc ls (0 :: st) q fs m
noncomputable def zyo_getf (P : zyP) : zyOp := fun nx ax k w cf y _ ls st q fs m => zpop false (fun a r => zif (Nat.beq (Nat.mod a 8) 3) (zif (Nat.ble 100000 (Nat.div a 8)) (zif (Nat.ble (Nat.succ (Nat.sub (Nat.div a 8) 100000)) zxTn) (zif (Nat.beq ax 832) (zfr false (Nat.add a 800000) (fun v => k w cf y nx ls (v :: r) q fs m)) (zif (Nat.beq ax 833) (k w cf y nx ls (0 :: r) q fs m) false)) false)
  (zget P.1 (Nat.div a 8) (fun c => Prod.rec (motive := fun _ => Bool) (fun tg c2 => zif (Nat.beq tg (Nat.div ax 64)) (Prod.rec (motive := fun _ => Bool) (fun _ rows => zyrd P rows (Nat.div a 8) (Nat.mod ax 64) w m (fun w2 v m2 => k w2 cf y nx ls (v :: r) q fs m2)) c2) false) c))) false) st
/-- may it be put into a field: 0 int, 1 boolean, 2 long, 3 a reference -/
noncomputable def zyfit (w : zW) (g v : Nat) : Bool := zif (Nat.beq g 0) (Nat.ble (Nat.mod v 8) 2) (zif (Nat.beq g 1) (zbd w v (fun lo hi => zand (Nat.ble 2147483648 lo) (Nat.ble hi 2147483649))) (zif (Nat.beq g 2) (Nat.beq (Nat.mod v 8) 4) (zif (Nat.beq g 3) (Nat.beq (Nat.mod v 8) 3) false)))
noncomputable def zyo_putf (P : zyP) : zyOp := fun nx ax k w cf y _ ls st q fs m => zpop false (fun v t => zpop false (fun a r => zif (zand (Nat.beq (Nat.mod a 8) 3) (zand (zyfit w (Nat.mod (zxK ax) 8) v) (zand (Nat.ble (zxK ax) 7) (zand (zyin P.2.2.1 (Nat.div a 8) (Nat.mod ax 64)) (zif (zyin P.2.2.2.1 (Nat.div a 8) (Nat.mod ax 64)) false true)))))
  (zget P.1 (Nat.div a 8) (fun c => Prod.rec (motive := fun _ => Bool) (fun tg _ => zif (Nat.beq tg (Nat.div ax 64)) (zfr false (Nat.add (Nat.mul (Nat.div a 8) 16384) (Nat.mod ax 64)) (fun key => zyput key v m (fun m2 => k w cf y nx ls r q fs m2))) false) c)) false) t) st
noncomputable def zyo_alen (P : zyP) : zyOp := fun nx _ k w cf y _ ls st q fs m => zpop false (fun a r => zif (Nat.beq (Nat.mod a 8) 3)
  (zif (Nat.ble 200000 (Nat.div a 8)) (zif (Nat.ble (Nat.succ (Nat.sub (Nat.div a 8) 200000)) zxTn) (zfr false (Nat.mul 8 (zxTl (Nat.sub (Nat.div a 8) 200000))) (fun v => k w cf y nx ls (v :: r) q fs m)) false) (zget P.1 (Nat.div a 8) (fun c => Prod.rec (motive := fun _ => Bool) (fun tg c2 => zif (zand (Nat.ble 20 tg) (Nat.ble tg 23)) (Prod.rec (motive := fun _ => Bool) (fun ln _ => k w cf y nx ls (Nat.mul 8 ln :: r) q fs m) c2) false) c))) false) st
/-- an index: one int, or bounds (2^31 lower than they are kept) -/
noncomputable def zyidx (P : zyP) (w : zW) (j : Nat) (again : zW → Bool) (k1 : Nat → Bool) (k2 : Nat → Nat → Bool) : Bool :=
  zif (Nat.beq (Nat.mod j 8) 0) (k1 (Nat.div j 8)) (zhalf w j P.2.2.2.2 (zkn w j (zbd w j (fun lo hi => zif (Nat.ble 2147483648 lo) (zfr false (Nat.sub lo 2147483648) (fun l2 => zfr false (Nat.sub hi 2147483648) (fun h2 => k2 l2 h2))) false)) k1) again)
noncomputable def zyo_ald (P : zyP) (k1 k2 : Nat) : zyOp := fun nx _ k w cf y pc ls st q fs m => zpop false (fun j t => zpop false (fun a r => zif (Nat.beq (Nat.mod a 8) 3)
   (zif (Nat.ble 200000 (Nat.div a 8)) (zif (zand (Nat.beq k1 22) (Nat.ble (Nat.succ (Nat.sub (Nat.div a 8) 200000)) zxTn)) (zif (Nat.beq (Nat.mod j 8) 0) (znth (fun c => k w cf y nx ls (Nat.mul 8 c :: r) q fs m) (zxT (Nat.sub (Nat.div a 8) 200000)) (Nat.div j 8)) (zhalf w j 64 (zkn w j false (fun u => znth (fun c => k w cf y nx ls (Nat.mul 8 c :: r) q fs m) (zxT (Nat.sub (Nat.div a 8) 200000)) u)) (fun w2 => k w2 cf y pc ls st q fs m))) false)
   (zget P.1 (Nat.div a 8) (fun c => Prod.rec (motive := fun _ => Bool) (fun tg c2 => zif (zif (Nat.beq tg k1) true (Nat.beq tg k2)) (Prod.rec (motive := fun _ => Bool) (fun ln rows => zyidx P w j (fun w2 => k w2 cf y pc ls st q fs m)
      (fun n => zif (Nat.ble (Nat.succ n) ln) (zyrd P rows (Nat.div a 8) n w m (fun w2 v m2 => k w2 cf y nx ls (v :: r) q fs m2)) false)
      (fun lo hi => zif (Nat.ble (Nat.succ hi) ln) (zfr false (Nat.mul (Nat.div a 8) 16384) (fun base => zyflush w rows lo hi base m.1 (fun u => zyrw (fun v => zfr false (zyrf P w m.2 (Nat.div a 8) lo hi j v) (fun v1 => zynew v1 w (fun w2 v2 => k w2 cf y nx ls (v2 :: r) q fs (u, zif (zand (zyapt P.2.2.1 (Nat.div a 8) lo hi) (Nat.ble (Nat.mod v2 8) 2)) ((24, v2, Nat.div a 8, j) :: m.2) m.2)))) lo hi rows))) false)) c2) false) c))) false) t) st
noncomputable def zyinto (w : zW) (kd v : Nat) (k : Nat → Bool) : Bool :=
  zif (Nat.beq kd 20) (zif (Nat.ble (Nat.mod v 8) 2) (k v) false)
  (zif (Nat.beq kd 21) (zif (Nat.beq (Nat.mod v 8) 4) (k v) false)
  (zif (Nat.beq kd 22) (zif (Nat.beq (Nat.mod v 8) 0) (zfr false (Nat.mul 8 (Int32.ofNat (Nat.div v 8)).toInt8.toInt32.toBitVec.toNat) k) (zbd w v (fun lo hi => zif (zand (Nat.ble 2147483520 lo) (Nat.ble hi 2147483775)) (k v) (k 73786971913971565562))))
  (zif (Nat.beq kd 23) (zbd w v (fun lo hi => zif (zand (Nat.ble 2147483648 lo) (Nat.ble hi 2147483649)) (k v) false)) false)))
noncomputable def zyo_ast (P : zyP) (k1 k2 : Nat) : zyOp := fun nx _ k w cf y pc ls st q fs m => zpop false (fun v t => zpop false (fun j t2 => zpop false (fun a r => zif (Nat.beq (Nat.mod a 8) 3)
    (zget P.1 (Nat.div a 8) (fun c => Prod.rec (motive := fun _ => Bool) (fun tg c2 => zif (zif (Nat.beq tg k1) true (Nat.beq tg k2)) (Prod.rec (motive := fun _ => Bool) (fun ln rows => zyinto w tg v (fun v2 => zyidx P w j (fun w2 => k w2 cf y pc ls st q fs m)
      (fun n => zif (zand (Nat.ble (Nat.succ n) ln) (zand (zyin P.2.2.1 (Nat.div a 8) n) (zif (zyin P.2.2.2.1 (Nat.div a 8) n) false true))) (zfr false (Nat.add (Nat.mul (Nat.div a 8) 16384) n) (fun key => zyput key v2 m (fun m2 => k w cf y nx ls r q fs m2))) false)
      (fun lo hi => zif (zand (Nat.ble (Nat.succ hi) ln) (zand (zycov P.2.2.1 (Nat.div a 8) lo hi) (zand (zyapt P.2.2.2.1 (Nat.div a 8) lo hi) (zyall (fun c => zysub w v2 c) lo hi rows)))) (zfr false (Nat.mul (Nat.div a 8) 16384) (fun base => zyflush w rows lo hi base m.1 (fun u => k w cf y nx ls r q fs (u, m.2)))) false))) c2) false) c)) false) t2) t) st
/-! calls -/
noncomputable def zysubL (w : zW) (as : List Nat) : List Nat → Bool := List.rec (motive := fun _ => List Nat → Bool) (fun cs => List.rec (motive := fun _ => Bool) true (fun _ _ _ => false) cs) (fun a _ ih cs => List.rec (motive := fun _ => Bool) false (fun c t _ => zand (zysub w a c) (ih t)) cs) as
noncomputable def zyfitM (w : zW) (B : zyB) (l : List (Nat × Nat)) : Bool := List.rec (motive := fun _ => Bool) true (fun p _ ih => zand (zget B (Nat.div p.1 16384) (fun c => zyall (fun code => zysub w p.2 code) (Nat.mod p.1 16384) (Nat.mod p.1 16384) c.2.2)) ih) l
noncomputable def zysubF (F : zyR) (f : zyR) : Bool := List.rec (motive := fun _ => Bool) true (fun p _ ih => zand (zycov F p.1 p.2.1 p.2.2) ih) f
noncomputable def zykeep (f : zyR) (l : List (Nat × Nat)) : (List (Nat × Nat) → Bool) → Bool := List.rec (motive := fun _ => (List (Nat × Nat) → Bool) → Bool) (fun k => k []) (fun p _ ih k => zif (zyin f (Nat.div p.1 16384) (Nat.mod p.1 16384)) (ih k) (ih (fun u => k (p :: u)))) l
noncomputable def zylenB (c : zyCl) : Nat := zif (Nat.ble (Nat.succ c.1) 12) (zxCn c.1) c.2.1
/-- elements are as a list of codes says -/
noncomputable def zypre (w : zW) (B : zyB) (m : List (Nat × Nat)) (l : List (Nat × Nat)) : Bool := List.rec (motive := fun _ => Bool) true (fun p _ ih => zand (zget B (Nat.div p.1 16384) (fun c => zif (Nat.ble (Nat.succ (Nat.mod p.1 16384)) (zylenB c)) (zylk (zyrw (fun v => zysub w v p.2) (Nat.mod p.1 16384) (Nat.mod p.1 16384) c.2.2) (fun v => zysub w v p.2) p.1 m) false)) ih) l
noncomputable def zyputs (l : List (Nat × Nat)) : List (Nat × Nat) → (List (Nat × Nat) → Bool) → Bool := List.rec (motive := fun _ => List (Nat × Nat) → (List (Nat × Nat) → Bool) → Bool) (fun u k => k u) (fun p _ ih u k => ih u (fun u2 => zydel p.1 u2 (fun u3 => k (p :: u3)))) l
noncomputable def zyfind (w : zW) (B : zyB) (m : List (Nat × Nat)) (as : List Nat) (j : Bool) (k : zyCt → Bool) (l : List zyCt) : Bool := List.rec (motive := fun _ => Bool) j (fun ct _ ih => zif (zand (zysubL w as ct.1) (zypre w B m ct.2.2.2.2.1)) (k ct) ih) l
noncomputable def zyrcv (B : zyB) (c : Nat) (as : List Nat) (k : Bool) : Bool := zif (Nat.beq c 0) k (zpop false (fun a _ => zif (Nat.beq (Nat.mod a 8) 3) (zif (Nat.ble 100000 (Nat.div a 8)) (zif (zand (Nat.beq c 14) (Nat.ble (Nat.succ (Nat.sub (Nat.div a 8) 100000)) zxTn)) k false) (zget B (Nat.div a 8) (fun x => Prod.rec (motive := fun _ => Bool) (fun tg _ => zif (zand (Nat.beq (Nat.succ tg) c) (Nat.ble (Nat.succ tg) 12)) k false) x))) false) as)
noncomputable def zyag (as : List Nat) : Nat → Nat := List.rec (motive := fun _ => Nat → Nat) (fun _ => 0) (fun a _ ih i => Nat.rec (motive := fun _ => Nat) a (fun j _ => ih j) i) as
noncomputable def zyai (as : List Nat) (i : Nat) : Nat := zif (Nat.ble (Nat.mod (zyag as i) 8) 2) (zyag as i) 0
/-- what a contract's relation may hang on: below 100 the reference's, below 200 the class's plan 1, below 300 its plan 18, else nothing -/
noncomputable def zyFd (id : Nat) : zyR := zif (Nat.ble (Nat.succ id) 100) [(74, 4, 9), (75, 0, 1), (75, 8, 135)] (zif (Nat.ble (Nat.succ id) 200) [(1, 0, 9), (2, 0, 3), (10, 0, 30), (11, 0, 30), (12, 0, 30), (13, 0, 30), (14, 0, 7), (15, 0, 7), (16, 0, 1), (17, 0, 59)]
  (zif (Nat.ble (Nat.succ id) 300) [(18, 0, 9), (19, 0, 3), (27, 0, 30), (28, 0, 30), (29, 0, 30), (30, 0, 30), (31, 0, 7), (32, 0, 7), (33, 0, 1), (34, 0, 59)] []))
noncomputable def zyFo (F : zyR) (l : zyR) : Bool := List.rec (motive := fun _ => Bool) true (fun p _ ih => zand (zyapt F p.1 p.2.1 p.2.2) ih) l
/-- the fact that a relation holds -/
noncomputable def zyff (P : zyP) (id v a b : Nat) (l : List zyF) : List zyF := zif (zand (zyFo P.2.2.1 (zyFd id)) (zand (Nat.ble (Nat.mod a 8) 2) (Nat.ble (Nat.mod b 8) 2))) ((Nat.add 1000 id, v, a, b) :: l) l
/-- by contract; what it answers: nothing; a code; a code and a relation (of the answer to the arguments behind the first); a code, a relation, a key (of an element behind to the same one before; from 300 on it grows by at most so many) -/
noncomputable def zycon (P : zyP) (ct : zyCt) (as : List Nat) (k : zW → List Nat → zyM → Bool) (w : zW) (m : zyM) : Bool :=
  zif (zand (zyfitM w P.1 m.1) (zysubF P.2.2.1 ct.2.1)) (zykeep ct.2.1 m.1 (fun u0 => zyputs ct.2.2.2.2.2 u0 (fun u => List.rec (motive := fun _ => Bool) (k w [] (u, m.2)) (fun c t _ => List.rec (motive := fun _ => Bool) (zynew c w (fun w2 v => k w2 [v] (u, m.2)))
    (fun id t2 _ => List.rec (motive := fun _ => Bool) (zynew c w (fun w2 v => k w2 [v] (u, zyff P id v (zyai as 1) (zyai as 2) m.2)))
      (fun key t3 _ => List.rec (motive := fun _ => Bool) (zylk false (fun old => zif (Nat.ble 300 id) (zbd w old (fun lo hi => zfr false (Nat.add hi (Nat.sub id 300)) (fun h2 => zif (Nat.ble h2 4294967295) (zyfresh w lo h2 (fun w2 v => zydel key u (fun u2 => k w2 [] ((key, v) :: u2, zyff P id v old (zyai as 1) m.2)))) false))) (zynew c w (fun w2 v => zydel key u (fun u2 => k w2 [] ((key, v) :: u2, zyff P id v old (zyai as 1) m.2))))) key m.1) (fun _ _ _ => false) t3) t2) t) ct.2.2.1))) false
noncomputable def zycall (P : zyP) (y2 kd : Nat) : zyOp := fun nx _ k w cf y _ ls st q fs m => zget zKd y2 (fun g => zif (Nat.beq g kd) (zget zxMeta y2 (fun en => Prod.rec (motive := fun _ => Bool) (fun cf2 e2 => Prod.rec (motive := fun _ => Bool) (fun na e3 => Prod.rec (motive := fun _ => Bool) (fun ml e4 => Prod.rec (motive := fun _ => Bool) (fun ow yt => zargs na st [] (fun as r => Prod.rec (motive := fun _ => Bool) (fun d q2 => Prod.rec (motive := fun _ => Bool) (fun nc ns =>
  zif (zand (Nat.ble (zwords r) 8) (zand (Nat.ble 1 d) (zand (Nat.ble (Nat.add nc yt.2.1) y.2.1) (Nat.ble (Nat.add ns yt.2.2.1) y.2.2.1))))
    (zyrcv P.1 (zif (Nat.beq kd 2) 0 (Nat.succ ow)) as
      (zyfind w P.1 m.1 as
        (zpad ml (zexp as) (fun l2 => zfr false (Nat.pred d) (fun d2 => zfr false (Nat.add nc yt.2.1) (fun nc2 => zfr false (Nat.add ns yt.2.2.1) (fun ns2 => k w cf2 yt 0 l2 [] (d2, 0, 0) ((cf, y, nx, ls, r, d, nc2, ns2) :: fs) m)))))
        (fun ct => zif (Nat.ble (Nat.succ ct.2.2.2.1) d) (zfr false (Nat.add nc yt.2.1) (fun nc2 => zfr false (Nat.add ns yt.2.2.1) (fun ns2 => zycon P ct as (fun w2 v m2 => k w2 cf y nx ls (List.rec (motive := fun _ => List Nat) r (fun a _ _ => a :: r) v) (d, nc2, ns2) fs m2) w m))) false) (P.2.1 y2))) false) q2) q)) e4) e3) e2) en)) false)
noncomputable def zyo_inv (P : zyP) : zyOp := fun nx ax => zif (Nat.beq (Nat.mod ax 16) 15) (zyo_no nx ax) (zycall P (Nat.div ax 16) (Nat.div (Nat.mod ax 16) 2) nx ax)
noncomputable def zyback (bt : zW → List Nat → zyM → Bool) (v : List Nat) (k : zyK) (w : zW) (fs : List zFr) (m : zyM) : Bool := List.rec (motive := fun _ => Bool) (bt w v m) (fun fr t _ => Prod.rec (motive := fun _ => Bool) (fun cf f1 => Prod.rec (motive := fun _ => Bool) (fun y f2 => Prod.rec (motive := fun _ => Bool) (fun pc f3 => Prod.rec (motive := fun _ => Bool) (fun ls f4 => Prod.rec (motive := fun _ => Bool) (fun st q => k w cf y pc ls (List.rec (motive := fun _ => List Nat) st (fun a _ _ => a :: st) v) q t m) f4) f3) f2) f1) fr) fs
/-- may a method of this kind answer so: 1 an int, 2 a boolean, 3 a long, 4 a byte, 5 a char -/
noncomputable def zyans (w : zW) (g v : Nat) : Bool := zif (Nat.beq g 1) (Nat.ble (Nat.mod v 8) 2) (zif (Nat.beq g 2) (zbd w v (fun lo hi => zand (Nat.ble 2147483648 lo) (Nat.ble hi 2147483649))) (zif (Nat.beq g 3) (Nat.beq (Nat.mod v 8) 4) (zand (zif (Nat.beq g 4) true (Nat.beq g 5)) (zbd w v (fun lo hi => zand (Nat.ble 2147483648 lo) (Nat.ble hi 2147483775))))))
noncomputable def zyo_ret (bt : zW → List Nat → zyM → Bool) (lg : Bool) : zyOp := fun _ _ k w _ y _ _ st _ fs m => zpop false (fun v r => zpop (zif (zand (zif lg (Nat.beq y.2.2.2.1 3) (zif (Nat.beq y.2.2.2.1 3) false true)) (zyans w y.2.2.2.1 v)) (zyback bt [v] k w fs m) false) (fun _ _ => false) r) st
noncomputable def zyo_retv (bt : zW → List Nat → zyM → Bool) : zyOp := fun _ _ k w _ y _ _ st _ fs m => zpop (zif (Nat.beq y.2.2.2.1 0) (zyback bt [] k w fs m) false) (fun _ _ => false) st
noncomputable def zyo_tab (d lo hi : Int) (offs : Array Int) : zyOp := fun _ _ k w cf y pc ls st q fs m => zpop false (fun v r => zif (zand (decide (0 ≤ lo)) (decide (0 ≤ hi))) (zfr false (lo + 2147483648).toNat (fun l => zfr false (hi + 2147483648).toNat (fun h => zbd w v (fun a b =>
  zif (zif (Nat.ble (Nat.succ b) l) true (Nat.ble (Nat.succ h) a)) (zfr false ((pc : Int) + d).toNat (fun t => zif (decide ((t : Int) = (pc : Int) + d)) (k w cf y t ls r q fs m) false))
  (zif (Nat.ble (Nat.succ a) l) (zand (zcut w v a (Nat.pred l) (fun w2 => k w2 cf y pc ls st q fs m)) (zcut w v l b (fun w2 => k w2 cf y pc ls st q fs m)))
  (zif (Nat.ble (Nat.succ h) b) (zand (zcut w v (Nat.succ h) b (fun w2 => k w2 cf y pc ls st q fs m)) (zcut w v a h (fun w2 => k w2 cf y pc ls st q fs m)))
  (zindex w v (fun w2 => k w2 cf y pc ls st q fs m) (fun u => k w cf y pc ls (Nat.mul 8 u :: r) q fs m) (fun u => zfr false (zb u) (fun c => znth (fun o => zfr false ((pc : Int) + o).toNat (fun t => zif (decide ((t : Int) = (pc : Int) + o)) (k w cf y t ls r q fs m) false)) offs.toList (Nat.sub c l)))))))))) false) st
noncomputable def zyo_look (d : Int) (ps : Array (Int × Int)) : zyOp := fun _ _ k w cf y pc ls st q fs m => zpop false (fun v r => zindex w v (fun w2 => k w2 cf y pc ls st q fs m) (fun u => k w cf y pc ls (Nat.mul 8 u :: r) q fs m) (fun u => zif ((ps.toList.zip (ps.toList.drop 1)).all (fun (a, next) => a.1 < next.1))
  (zfr false ((pc : Int) + Op.lookupswitch.offset ps.toList d (Int32.ofNat u).toInt).toNat (fun t => zif (decide ((t : Int) = (pc : Int) + Op.lookupswitch.offset ps.toList d (Int32.ofNat u).toInt)) (k w cf y t ls r q fs m) false)) false)) st
noncomputable def zyo_ldc : zyOp := fun nx ax k w cf y _ ls st q fs m => zif (Nat.ble ax 4294967295) (zfr false (Nat.mul 8 (zb ax)) (fun v => k w cf y nx ls (v :: st) q fs m)) (zfr false (Nat.add (Nat.mul 8 (Nat.add (Nat.sub ax 4294967296) 100000)) 3) (fun v => k w cf y nx ls (v :: st) q fs m))
noncomputable def zyo_ldc2 : zyOp := fun nx ax k w cf y _ ls st q fs m => zif (Nat.ble ax 18446744073709551615) (zfr false (Nat.add (Nat.mul 8 ax) 4) (fun v => k w cf y nx ls (v :: st) q fs m)) false
noncomputable def zyo_gets : zyOp := fun nx ax k w cf y _ ls st q fs m => zif (Nat.beq ax 1) (k w cf y nx ls (8 :: st) q fs m) (zif (Nat.beq ax 2) (k w cf y nx ls (7 :: st) q fs m) false)
/-- each instruction's part, over closed texts -/
noncomputable def zyop (bt : zW → List Nat → zyM → Bool) (P : zyP) (i : Instr) : zyOp := Instr.rec (motive := fun _ => zyOp)
  zyo_no
  zyo_no
  zyo_no
  (fun i => zyo_load 2 i)
  (fun i => zyo_load 2 i.val)
  (fun _ => zyo_no)
  zyo_no
  (zyo_alen P)
  (fun i => zyo_store 2 i)
  (fun i => zyo_store 2 i.val)
  zyo_no
  (zyo_ald P 22 23)
  (zyo_ast P 22 23)
  (fun n => zyo_push (Nat.mul 8 (Int8.ofInt n).toInt32.toBitVec.toNat))
  zyo_no
  zyo_no
  (fun _ => zyo_no)
  zyo_no
  zyo_no
  zyo_no
  zyo_no
  zyo_no
  zyo_no
  (fun _ => zyo_no)
  (fun _ => zyo_no)
  zyo_no
  (fun _ => zyo_no)
  (fun _ => zyo_no)
  zyo_no
  zyo_no
  zyo_no
  zyo_no
  (fun _ => zyo_no)
  (fun _ => zyo_no)
  zyo_no
  (zyo_dup)
  zyo_no
  zyo_no
  (zyo_dup2)
  zyo_no
  zyo_no
  zyo_no
  zyo_no
  zyo_no
  zyo_no
  zyo_no
  zyo_no
  (fun _ => zyo_no)
  (fun _ => zyo_no)
  zyo_no
  (fun _ => zyo_no)
  (fun _ => zyo_no)
  zyo_no
  zyo_no
  zyo_no
  zyo_no
  (fun _ => zyo_no)
  (fun _ => zyo_no)
  zyo_no
  (fun _ => zyo_getf P)
  (fun _ => zyo_gets)
  (fun _ => zyo_goto)
  (fun _ => zyo_no)
  (zyo_un P (fun u => Nat.mul 8 (Int32.ofNat u).toInt8.toInt32.toBitVec.toNat) 2)
  (zyo_un P (fun u => Nat.mul 8 ((Int32.ofNat u).toUInt32 % 65536).toInt32.toBitVec.toNat) 3)
  zyo_no
  zyo_no
  (zyo_i2l P (fun u => Nat.add (Nat.mul 8 (Int32.ofNat u).toInt64.toBitVec.toNat) 4))
  zyo_no
  (zyo_bin P false zf_add 1)
  (zyo_ald P 20 20)
  (zyo_bin P false zf_and 4)
  (zyo_ast P 20 20)
  (fun n => zyo_push (Nat.mul 8 (Int32.ofInt n).toBitVec.toNat))
  (zyo_bin P true (zf_32 (fun x y => x / y)) 10)
  (fun _ _ => zyo_no)
  (fun c _ => Jvm.ClassFile.Cond.rec (motive := fun _ => zyOp) (zyo_cmp true false false) (zyo_cmp true false true) (zyo_cmp false false false) (zyo_cmp false false true) (zyo_cmp false true false) (zyo_cmp false true true) c)
  (fun c _ => Jvm.ClassFile.Cond.rec (motive := fun _ => zyOp) (zyo_cmp0 true false false) (zyo_cmp0 true false true) (zyo_cmp0 false false false) (zyo_cmp0 false false true) (zyo_cmp0 false true false) (zyo_cmp0 false true true) c)
  (fun _ => zyo_no)
  (fun _ => zyo_no)
  (fun i n => zyo_iinc i (Int32.ofInt n).toBitVec.toNat)
  (fun i => zyo_load 0 i)
  (fun i => zyo_load 0 i.val)
  (zyo_bin P false zf_mul 3)
  (zyo_un P (fun u => Nat.mul 8 (-(Int32.ofNat u)).toBitVec.toNat) 1)
  (fun _ => zyo_no)
  (fun _ => zyo_no)
  (fun _ _ => zyo_no)
  (fun _ => zyo_no)
  (fun _ => zyo_inv P)
  (fun _ => zyo_inv P)
  (zyo_bin P false zf_or 7)
  (zyo_bin P true (zf_32 (fun x y => x - x / y * y)) 5)
  (zyo_ret bt false)
  (zyo_bin P false (zf_32 (fun x y => x <<< (y &&& 31))) 8)
  (zyo_bin P false (zf_32 (fun x y => x >>> (y &&& 31))) 9)
  (fun i => zyo_store 0 i)
  (fun i => zyo_store 0 i.val)
  (zyo_bin P false zf_sub 2)
  zyo_no
  (zyo_bin P false zf_xor 6)
  (fun _ => zyo_no)
  (fun _ => zyo_no)
  zyo_no
  zyo_no
  (zyo_l2i (fun u => Nat.mul 8 (Int64.ofNat u).toInt32.toBitVec.toNat))
  (zyo_lbin false (zf_64 (fun x y => x + y)))
  (zyo_ald P 21 21)
  (zyo_lbin false (zf_64 (fun x y => x &&& y)))
  (zyo_ast P 21 21)
  zyo_lcmp
  (fun n => zyo_push (Nat.add (Nat.mul 8 n.val) 4))
  (fun _ => zyo_ldc)
  (fun _ => zyo_ldc)
  (fun _ => zyo_ldc2)
  (zyo_lbin true (zf_64 (fun x y => x / y)))
  (fun i => zyo_load 1 i)
  (fun i => zyo_load 1 i.val)
  (zyo_lbin false (zf_64 (fun x y => x * y)))
  (zyo_lneg (fun u => Nat.add (Nat.mul 8 (-(Int64.ofNat u)).toBitVec.toNat) 4))
  (zyo_look)
  (zyo_lbin false (zf_64 (fun x y => x ||| y)))
  (zyo_lbin true (zf_64 (fun x y => x - x / y * y)))
  (zyo_ret bt true)
  (zyo_lsh (zf_64s (fun x y => x <<< (y.toInt64 &&& 63))))
  (zyo_lsh (zf_64s (fun x y => x >>> (y.toInt64 &&& 63))))
  (fun i => zyo_store 1 i)
  (fun i => zyo_store 1 i.val)
  (zyo_lbin false (zf_64 (fun x y => x - y)))
  zyo_no
  zyo_no
  zyo_no
  zyo_no
  (fun _ _ => zyo_no)
  (fun _ => zyo_no)
  (fun _ => zyo_no)
  zyo_no
  (zyo_pop)
  zyo_no
  (fun _ => zyo_putf P)
  (fun _ => zyo_no)
  (fun _ => zyo_no)
  (zyo_retv bt)
  zyo_no
  zyo_no
  (fun n => zyo_push (Nat.mul 8 (Int16.ofInt n).toInt32.toBitVec.toNat))
  zyo_no
  (zyo_tab) i
/-- n steps at most; 'stop' says where it may end -/
noncomputable def zyok (bt : zW → List Nat → zyM → Bool) (P : zyP) (stop : zyK) (n : Nat) : zyK := Nat.rec (motive := fun _ => zyK) stop (fun _ k w cf y pc ls st q fs m => zif (stop w cf y pc ls st q fs m) true (Prod.rec (motive := fun _ => Bool) (fun i r => Prod.rec (motive := fun _ => Bool) (fun nx ax => zyop bt P i nx ax k w cf y pc ls st q fs m) r) (cf pc))) n
