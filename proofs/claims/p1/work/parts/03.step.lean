/-! THE EXECUTOR's STEP over the program's tables -/
noncomputable def zxcond (e : zxE) (c : Jvm.ClassFile.Cond) (a b : Value) (t n : Nat) (f : zxF) (r : List Value) (fs : List zxF) (m : zxM) : Option (List zxS) := match c with
  | .eq => zxbr (zxeq e a b) false t n f r fs m
  | .ne => zxbr (zxeq e a b) true t n f r fs m
  | .lt => zxbr (zxlt e a b) false t n f r fs m
  | .ge => zxbr (zxlt e a b) true t n f r fs m
  | .gt => zxbr (zxlt e b a) false t n f r fs m
  | .le => zxbr (zxlt e b a) true t n f r fs m
noncomputable def zxget1 (e : zxE) (ax : Nat) (f : zxF) (fs : List zxF) (m : zxM) : Option (List zxS) := match f.2.2.2.1 with
  | .ref a :: r => match zxnth m a with
    | none => none
    | some cl => bif Nat.beq cl.1 (ax / 64) then (match zxnth cl.2 (ax % 64) with
      | none => none
      | some v => zxgo e f 3 f.2.2.1 (v :: r) fs m) else none
  | _ => none
/-- may this value be put into a field of this kind: 0 int, 1 boolean, 2 long, 3 a reference -/
noncomputable def zxfits (k : Nat) (v : Value) : Bool := match v with
  | .int x => Nat.beq k 0 || (Nat.beq k 1 && (decide (x = 0) || decide (x = 1)))
  | .retAddr _ => Nat.beq k 0
  | .long _ => Nat.beq k 2
  | .ref _ => Nat.beq k 3
  | _ => false
noncomputable def zxput (e : zxE) (ax : Nat) (f : zxF) (fs : List zxF) (m : zxM) : Option (List zxS) := match f.2.2.2.1 with
  | v :: .ref a :: r => match zxnth m a with
    | none => none
    | some cl => bif Nat.beq cl.1 (ax / 64) && zxfits (zxK ax % 8) v && (Nat.blt (zxK ax) 8 || Nat.beq (zxIn f.1) (ax / 64 + 1)) && Nat.blt (ax % 64) 64 then (match zxnth cl.2 (ax % 64) with
      | none => none
      | some _ => zxset cl.2 (ax % 64) v (fun l => zxset m a (cl.1, l) (fun m' => zxgo e f 3 f.2.2.1 r fs m'))) else none
  | _ => none
noncomputable def zxnew (e : zxE) (ax : Nat) (f : zxF) (fs : List zxF) (m : zxM) : Option (List zxS) :=
  bif Nat.ble (f.2.2.2.2.2.1 + 1) (zxMc f.1) && Nat.ble (f.2.2.2.2.2.2 + zxCn ax) (zxMs f.1) && Nat.blt ax 12 then
    zxlen m 0 (fun n => bif Nat.blt n 90000 then zxapp m (ax, zxD ax) (fun m' => zxfn (f.2.1 + 3) (fun pc => zxfn (f.2.2.2.2.2.1 + 1) (fun nc => zxfn (f.2.2.2.2.2.2 + zxCn ax) (fun ns => some [(e, (f.1, pc, f.2.2.1, .ref n :: f.2.2.2.1, f.2.2.2.2.1, nc, ns) :: fs, m')])))) else none) else none
noncomputable def zxkind (a : ArrayType) : Nat := match a with
  | .int => 20
  | .long => 21
  | .byte => 22
  | .boolean => 23
  | _ => 0
noncomputable def zxzero (k : Nat) : Value := bif Nat.beq k 21 then .long 0 else .int 0
noncomputable def zxnewa (e : zxE) (at_ : ArrayType) (f : zxF) (fs : List zxF) (m : zxM) : Option (List zxS) := match f.2.2.2.1 with
  | .int x :: r => bif Nat.ble 20 (zxkind at_) && decide (0 ≤ x.toInt) && decide (x.toInt ≤ 20000) then
      zxfn x.toInt.toNat (fun N => bif Nat.ble (f.2.2.2.2.2.1 + 1) (zxMc f.1) && Nat.ble (f.2.2.2.2.2.2 + N) (zxMs f.1) then
        zxlen m 0 (fun n => bif Nat.blt n 90000 then zxapp m (zxkind at_, zxrep N (zxzero (zxkind at_))) (fun m' => zxfn (f.2.1 + 2) (fun pc => zxfn (f.2.2.2.2.2.1 + 1) (fun nc => zxfn (f.2.2.2.2.2.2 + N) (fun ns => some [(e, (f.1, pc, f.2.2.1, .ref n :: r, f.2.2.2.2.1, nc, ns) :: fs, m')])))) else none) else none) else none
  | _ => none
/-- the script is at 99999, of L ints; its i-th is the symbol i -/
noncomputable def zxalen (L : Nat) (e : zxE) (f : zxF) (fs : List zxF) (m : zxM) : Option (List zxS) := match f.2.2.2.1 with
  | .ref a :: r => bif Nat.beq a 99999 then zxgo e f 1 f.2.2.1 (.int (Int32.ofNat L) :: r) fs m else
    (match zxnth m a with
    | none => none
    | some cl => bif Nat.ble 20 cl.1 && Nat.ble cl.1 23 then zxlen cl.2 0 (fun n => zxgo e f 1 f.2.2.1 (.int (Int32.ofNat n) :: r) fs m) else none)
  | _ => none
noncomputable def zxaload (L k k2 : Nat) (e : zxE) (f : zxF) (fs : List zxF) (m : zxM) : Option (List zxS) := match f.2.2.2.1 with
  | j :: .ref a :: r => match zxc e j with
    | none => zxknow e j (fun v => zxto f f.2.1 (v :: .ref a :: r) :: fs) m
    | some x => bif decide (0 ≤ x.toInt) then zxfn x.toInt.toNat (fun n =>
      bif Nat.beq a 99999 then (bif Nat.blt n L && Nat.beq k 20 then zxgo e f 1 f.2.2.1 (.retAddr (2 * n) :: r) fs m else none) else
      match zxnth m a with
      | none => none
      | some cl => bif Nat.beq cl.1 k || Nat.beq cl.1 k2 then (match zxnth cl.2 n with
        | none => none
        | some v => zxgo e f 1 f.2.2.1 (v :: r) fs m) else none) else none
  | _ => none
/-- may this value be put into an array of this kind, and which comes there -/
noncomputable def zxinto (e : zxE) (k : Nat) (v : Value) : Option Value := match v with
  | .int x => bif Nat.beq k 20 then some v else bif Nat.beq k 22 then zxfi x.toInt8.toInt32 (fun z => some (.int z)) else bif Nat.beq k 23 && (decide (x = 0) || decide (x = 1)) then some v else none
  | .retAddr _ => (match zxiv e v with
    | none => none
    | some _ => bif Nat.beq k 20 then some v else bif Nat.beq k 22 then some zxany else none)
  | .long _ => bif Nat.beq k 21 then some v else none
  | _ => none
noncomputable def zxastore (k k2 : Nat) (e : zxE) (f : zxF) (fs : List zxF) (m : zxM) : Option (List zxS) := match f.2.2.2.1 with
  | v :: j :: .ref a :: r => match zxc e j with
    | none => zxknow e j (fun w => zxto f f.2.1 (v :: w :: .ref a :: r) :: fs) m
    | some x => bif decide (0 ≤ x.toInt) then zxfn x.toInt.toNat (fun n =>
      match zxnth m a with
      | none => none
      | some cl => bif Nat.beq cl.1 k || Nat.beq cl.1 k2 then (match zxinto e cl.1 v with
        | none => none
        | some w => match zxnth cl.2 n with
          | none => none
          | some _ => zxset cl.2 n w (fun l => zxset m a (cl.1, l) (fun m' => zxgo e f 1 f.2.2.1 r fs m'))) else none) else none
  | _ => none
/-- n values off the stack, the first that was pushed first -/
noncomputable def zxtake {β : Type} (n : Nat) : List Value → List Value → (List Value → List Value → Option β) → Option β := Nat.rec (motive := fun _ => List Value → List Value → (List Value → List Value → Option β) → Option β) (fun st acc k => k acc st) (fun _ ih st acc k => match st with
  | [] => none
  | v :: r => ih r (v :: acc) k) n
/-- locals at a method's entry -/
noncomputable def zxent (vs : List Value) : Nat → List (Nat × Value) := List.rec (motive := fun _ => Nat → List (Nat × Value)) (fun _ => []) (fun v _ ih i => (i, v) :: ih (i + v.category)) vs
/-- words on the stack below a call -/
noncomputable def zxwords (st : List Value) : Nat := List.rec (motive := fun _ => Nat) 0 (fun v _ ih => v.category + ih) st
noncomputable def zxcall (e : zxE) (y : Nat) (rcv : Nat) (f : zxF) (fs : List zxF) (m : zxM) : Option (List zxS) :=
  zxtake (zxA y) f.2.2.2.1 [] (fun as r =>
    bif Nat.ble (zxwords r) 8 && Nat.blt 0 f.2.2.2.2.1 && Nat.ble (f.2.2.2.2.2.1 + zxMc y) (zxMc f.1) && Nat.ble (f.2.2.2.2.2.2 + zxMs y) (zxMs f.1) &&
      (bif Nat.beq rcv 0 then true else match as with
        | .ref a :: _ => (match zxnth m a with
          | none => false
          | some cl => Nat.beq (cl.1 + 1) rcv)
        | _ => false) then
      zxfn (f.2.1 + 3) (fun pc => zxfn (f.2.2.2.2.1 - 1) (fun d => zxfn (f.2.2.2.2.2.1 + zxMc y) (fun nc => zxfn (f.2.2.2.2.2.2 + zxMs y) (fun ns =>
        some [(e, (y, 0, zxent as 0, [], d, 0, 0) :: (f.1, pc, f.2.2.1, r, f.2.2.2.2.1, nc, ns) :: fs, m)])))) else none)
/-- calls of the JDK's that are walked apart: Object's constructor, a text's length, a text's sign -/
noncomputable def zxjdk (e : zxE) (k : Nat) (f : zxF) (fs : List zxF) (m : zxM) : Option (List zxS) :=
  bif Nat.beq k 1 then (match f.2.2.2.1 with
    | .ref _ :: r => bif Nat.ble (zxwords r) 8 && Nat.ble 4 f.2.2.2.2.1 then zxgo e f 3 f.2.2.1 r fs m else none
    | _ => none)
  else bif Nat.beq k 2 then (match f.2.2.2.1 with
    | .ref a :: r => bif Nat.ble (zxwords r) 8 && Nat.ble 8 f.2.2.2.2.1 && Nat.ble 100000 a && Nat.blt (a - 100000) zxTn then zxgo e f 3 f.2.2.1 (.int (Int32.ofNat (zxT (a - 100000)).length) :: r) fs m else none
    | _ => none)
  else bif Nat.beq k 3 then (match f.2.2.2.1 with
    | j :: .ref a :: r => bif Nat.ble (zxwords r) 8 && Nat.ble 8 f.2.2.2.2.1 && Nat.ble 100000 a && Nat.blt (a - 100000) zxTn then (match zxc e j with
      | none => none
      | some x => bif decide (0 ≤ x.toInt) then (match zxnth (zxT (a - 100000)) x.toInt.toNat with
        | none => none
        | some c => zxgo e f 3 f.2.2.1 (.int (Int32.ofNat c) :: r) fs m) else none) else none
    | _ => none)
  else none
/-- a link of a call: 16 times its method, and how: 0 virtual, 1 the same of a nest mate, 2 a constructor, 3 the same of a nest mate, 4 static, 5 the same of a nest mate; 15: the JDK's -/
noncomputable def zxinv (e : zxE) (ax : Nat) (f : zxF) (fs : List zxF) (m : zxM) : Option (List zxS) :=
  bif Nat.beq (ax % 16) 15 then zxjdk e (ax / 16) f fs m else
  bif Nat.blt (ax % 16) 2 then zxcall e (ax / 16) (zxOw (ax / 16) + 1) f fs m else zxcall e (ax / 16) 0 f fs m
/-- may a method of this kind answer so: 0 nothing, 1 an int, 2 a boolean, 3 a long -/
noncomputable def zxans (k : Nat) (v : Value) : Bool := match v with
  | .int x => Nat.beq k 1 || (Nat.beq k 2 && (decide (x = 0) || decide (x = 1)))
  | .retAddr _ => Nat.beq k 1
  | .long _ => Nat.beq k 3
  | _ => false
noncomputable def zxback (bt : zxE → Option Value → zxM → Bool) (e : zxE) (v : Option Value) (fs : List zxF) (m : zxM) : Option (List zxS) := match fs with
  | [] => bif bt e v m then some [] else none
  | g :: gs => some [(e, zxto g g.2.1 (v.toList ++ g.2.2.2.1) :: gs, m)]
noncomputable def zxret (bt : zxE → Option Value → zxM → Bool) (e : zxE) (i : Instr) (f : zxF) (fs : List zxF) (m : zxM) : Option (List zxS) := match i with
  | .ireturn => (match f.2.2.2.1 with
    | [v] => bif zxans (zxRk f.1) v && (Nat.beq (zxRk f.1) 1 || Nat.beq (zxRk f.1) 2) then zxback bt e (some v) fs m else none
    | _ => none)
  | .lreturn => (match f.2.2.2.1 with
    | [.long x] => bif Nat.beq (zxRk f.1) 3 then zxback bt e (some (.long x)) fs m else none
    | _ => none)
  | .return_ => (match f.2.2.2.1 with
    | [] => bif Nat.beq (zxRk f.1) 0 then zxback bt e none fs m else none
    | _ => none)
  | _ => none
/-- switches: the value is known, or a symbol that lies on one side of a bound, or is split -/
noncomputable def zxsw (e : zxE) (i : Instr) (f : zxF) (fs : List zxF) (m : zxM) : Option (List zxS) := match f.2.2.2.1 with
  | v :: r => match i with
    | .tableswitch d lo hi offs => (match zxiv e v with
      | none => none
      | some p => bif decide (p.2 < lo) || decide (hi < p.1) then (bif decide (0 ≤ (f.2.1 : Int) + d) then zxfn ((f.2.1 : Int) + d).toNat (fun t => some [(e, zxto f t r :: fs, m)]) else none)
        else bif decide (p.1 < lo) then zxsplit e v lo (f :: fs) m
        else bif decide (hi < p.2) then zxsplit e v (hi + 1) (f :: fs) m
        else match zxc e v with
          | none => zxknow e v (fun w => zxto f f.2.1 (w :: r) :: fs) m
          | some x => match zxnth offs.toList (x.toInt - lo).toNat with
            | none => none
            | some o => bif decide (0 ≤ (f.2.1 : Int) + o) then zxfn ((f.2.1 : Int) + o).toNat (fun t => some [(e, zxto f t r :: fs, m)]) else none)
    | .lookupswitch d ps => (match zxc e v with
      | none => none
      | some x => bif (ps.toList.zip (ps.toList.drop 1)).all (fun (a, next) => a.1 < next.1) && decide (0 ≤ (f.2.1 : Int) + Op.lookupswitch.offset ps.toList d x.toInt) then zxfn ((f.2.1 : Int) + Op.lookupswitch.offset ps.toList d x.toInt).toNat (fun t => some [(e, zxto f t r :: fs, m)]) else none)
    | _ => none
  | _ => none
noncomputable def zxldc (e : zxE) (ln ax : Nat) (f : zxF) (fs : List zxF) (m : zxM) : Option (List zxS) :=
  bif Nat.blt ax 4294967296 then zxgo e f ln f.2.2.1 (.int (Int32.ofInt ((ax : Int) - 2147483648)) :: f.2.2.2.1) fs m else zxgo e f ln f.2.2.1 (.ref (ax - 4294967296 + 100000) :: f.2.2.2.1) fs m
noncomputable def zxdo (bt : zxE → Option Value → zxM → Bool) (L : Nat) (e : zxE) (i : Instr) (ln ax : Nat) (f : zxF) (fs : List zxF) (m : zxM) : Option (List zxS) := match i with
  | .goto _ => some [(e, zxto f ax f.2.2.2.1 :: fs, m)]
  | .ifCond c _ => (match f.2.2.2.1 with
    | a :: r => zxfn (f.2.1 + 3) (fun n => zxcond e c a (.int 0) ax n f r fs m)
    | _ => none)
  | .if_icmp c _ => (match f.2.2.2.1 with
    | b :: a :: r => zxfn (f.2.1 + 3) (fun n => zxcond e c a b ax n f r fs m)
    | _ => none)
  | .getfield _ => zxget1 e ax f fs m
  | .putfield _ => zxput e ax f fs m
  | .new _ => zxnew e ax f fs m
  | .newarray a => zxnewa e a f fs m
  | .arraylength => zxalen L e f fs m
  | .iaload => zxaload L 20 20 e f fs m
  | .laload => zxaload L 21 21 e f fs m
  | .baload => zxaload L 22 23 e f fs m
  | .iastore => zxastore 20 20 e f fs m
  | .lastore => zxastore 21 21 e f fs m
  | .bastore => zxastore 22 23 e f fs m
  | .invokevirtual _ => zxinv e ax f fs m
  | .invokespecial _ => zxinv e ax f fs m
  | .invokestatic _ => zxinv e ax f fs m
  | .ireturn => zxret bt e i f fs m
  | .lreturn => zxret bt e i f fs m
  | .return_ => zxret bt e i f fs m
  | .tableswitch _ _ _ _ => zxsw e i f fs m
  | .lookupswitch _ _ => zxsw e i f fs m
  | .ldc _ => zxldc e ln ax f fs m
  | .ldc_w _ => zxldc e ln ax f fs m
  | .ldc2_w _ => zxgo e f 3 f.2.2.1 (.long (Int64.ofInt ((ax : Int) - 9223372036854775808)) :: f.2.2.2.1) fs m
  | .iadd => zxsym e i f fs m
  | .isub => zxsym e i f fs m
  | .imul => zxsym e i f fs m
  | .iand => zxsym e i f fs m
  | .ior => zxsym e i f fs m
  | .ixor => zxsym e i f fs m
  | .ishl => zxsym e i f fs m
  | .ishr => zxsym e i f fs m
  | .idiv => zxsym e i f fs m
  | .irem => zxsym e i f fs m
  | .i2b => (match f.2.2.2.1 with
    | .retAddr n :: r => (match zxiv e (.retAddr n) with
      | none => none
      | some _ => zxgo e f 1 f.2.2.1 (zxany :: r) fs m)
    | _ => none)
  | _ => none
noncomputable def zxsucc (bt : zxE → Option Value → zxM → Bool) (L : Nat) (s : zxS) : Option (List zxS) := match s.2.1 with
  | [] => none
  | f :: fs => match zxI f.1 f.2.1 with
    | none => none
    | some q => match zxpure s.1 q.1 f.2.2.1 f.2.2.2.1 with
      | some w => zxgo s.1 f q.2.1 w.1 w.2 fs s.2.2
      | none => zxdo bt L s.1 q.1 q.2.1 q.2.2 f fs s.2.2
/-- all of them, the last one without a step back -/
noncomputable def zxall (p : zxS → Bool) (l : List zxS) : Bool := List.rec (motive := fun _ => Bool) true (fun s t r => match t with
  | [] => p s
  | _ :: _ => p s && r) l
noncomputable def zxok (bt : zxE → Option Value → zxM → Bool) (L : Nat) (stop : zxS → Bool) (n : Nat) : zxS → Bool := Nat.rec (motive := fun _ => zxS → Bool) (fun s => stop s) (fun _ ih s => bif stop s then true else match zxsucc bt L s with
  | none => false
  | some l => zxall ih l) n
