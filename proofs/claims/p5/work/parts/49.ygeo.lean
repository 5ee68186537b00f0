/-! THE REFERENCE's GEOMETRY: turned, the switch at a slot, the slot that faces; none is 2^32 - 1 -/
noncomputable def zgT (c s : Nat) : Nat := Nat.add (Nat.mul 4 (Nat.div s 4)) (Nat.mod (Nat.add s (zif (Nat.beq (Nat.mod (Nat.add (Nat.div (Nat.div s 4) c) (Nat.mod (Nat.div s 4) c)) 2) 0) 1 3)) 4)
noncomputable def zgU (c s : Nat) : Nat := Nat.add (Nat.mul 4 (Nat.div s 4)) (Nat.mod (Nat.add s (zif (Nat.beq (Nat.mod (Nat.add (Nat.div (Nat.div s 4) c) (Nat.mod (Nat.div s 4) c)) 2) 0) 3 1)) 4)
noncomputable def zgG4 (r c w row col k : Nat) : Nat := zif (Nat.beq k 0) (zif (Nat.beq row 0) 4294967295 (Nat.sub (Nat.add (Nat.mul r (Nat.sub c 1)) w) c)) (zif (Nat.beq k 1) (zif (Nat.beq (Nat.succ col) c) 4294967295 (Nat.add (Nat.mul row (Nat.sub c 1)) col)) (zif (Nat.beq k 2) (zif (Nat.beq (Nat.succ row) r) 4294967295 (Nat.add (Nat.mul r (Nat.sub c 1)) w)) (zif (Nat.beq col 0) 4294967295 (Nat.sub (Nat.add (Nat.mul row (Nat.sub c 1)) col) 1))))
noncomputable def zgG (r c s : Nat) : Nat := zgG4 r c (Nat.div s 4) (Nat.div (Nat.div s 4) c) (Nat.mod (Nat.div s 4) c) (Nat.mod s 4)
noncomputable def zgF (r c s : Nat) : Nat := zif (Nat.beq (zgG r c s) 4294967295) 4294967295 (zif (Nat.beq (Nat.mod s 4) 0) (Nat.add (Nat.mul 4 (Nat.sub (Nat.div s 4) c)) 2) (zif (Nat.beq (Nat.mod s 4) 1) (Nat.add (Nat.mul 4 (Nat.add (Nat.div s 4) 1)) 3) (zif (Nat.beq (Nat.mod s 4) 2) (Nat.mul 4 (Nat.add (Nat.div s 4) c)) (Nat.add (Nat.mul 4 (Nat.sub (Nat.div s 4) 1)) 1))))
noncomputable def zgNS (r c : Nat) : Nat := Nat.mul 4 (Nat.mul r c)
noncomputable def zgNG (r c : Nat) : Nat := Nat.add (Nat.mul r (Nat.sub c 1)) (Nat.mul (Nat.sub r 1) c)
noncomputable def zyAllP (f : Nat → Nat → Bool) : Bool := zyAll (fun r => zyAll (fun c => f (Nat.succ r) (Nat.succ c)) 5) 4
theorem zyAllP_iff {f : Nat → Nat → Bool} (h : zyAllP f = true) {r c : Nat} (h1 : 1 ≤ r) (h2 : r ≤ 4) (h3 : 1 ≤ c) (h4 : c ≤ 5) : f r c = true := by
  have e := zyAll_iff (zyAll_iff h (r - 1) (by omega)) (c - 1) (by omega)
  rw [show Nat.succ (r - 1) = r by omega, show Nat.succ (c - 1) = c by omega] at e
  exact e
/-- a slot's turn comes back by zgU; what faces faces back, at the same switch -/
theorem zgAll : zyAllP (fun r c => zyAll (fun s => zand (zand (Nat.ble (Nat.succ (zgT c s)) (zgNS r c)) (Nat.beq (zgU c (zgT c s)) s)) (zif (Nat.beq (zgG r c s) 4294967295) true (zand (zand (Nat.ble (Nat.succ (zgG r c s)) (zgNG r c)) (Nat.ble (Nat.succ (zgF r c s)) (zgNS r c))) (zand (Nat.beq (zgF r c (zgF r c s)) s) (Nat.beq (zgG r c (zgF r c s)) (zgG r c s)))))) (zgNS r c)) = true := by decide +kernel
/-- one run at known arguments -/
noncomputable def zyκ1 (nL : Nat) (as tl : List Nat) : zyKt := (0, nL, List.append as tl, Nat.rec (motive := fun _ => List (Nat × Nat)) [] (fun _ ih => (0, 4294967295) :: ih) nL, [], [])
noncomputable def zyI1 (y nL dep : Nat) (as tl : List Nat) (ans : Nat) : zyIn := (y, (as, [], [ans], dep, [], []), [zyκ1 nL as tl], 0, 0, [])
noncomputable def zyk1 (mi : zyB) (y nL dep : Nat) (as tl : List Nat) (ans : Nat) : Bool := zychk mi zydr [[[zyI1 y nL dep as tl ans]]] 0 (zyI1 y nL dep as tl ans)
theorem zyk1_ok {l : Launch} {J : zyJt} {mi : zyB} {y nL dep : Nat} {as tl : List Nat} {ans : Nat} (hJ : zyJp zydr J) (h : zyk1 mi y nL dep as tl ans = true) {en : zEn} {me : zMe} (hen : zG zxMeta y = some en) (hme : zG zMeth y = some me) : zyCon l mi J en me (as, [], [ans], dep, [], []) := by
  have hc : zyCo l mi J [[[zyI1 y nL dep as tl ans]]] 0 := zychk_ok (IT := [[[zyI1 y nL dep as tl ans]]]) (i := 0) h hJ (fun d hd => absurd hd (Nat.not_lt_zero d))
  exact hc en me hen hme
theorem zgrunT : zyAllP (fun r c => zyAll (fun s => zyk1 (zymr r c) 204 4 2 [595, Nat.mul 8 s] [13, 13] (Nat.mul 8 (zgT c s))) (zgNS r c)) = true := by decide +kernel
theorem zgrunG : zyAllP (fun r c => zyAll (fun s => zyk1 (zymr r c) 202 5 3 [595, Nat.mul 8 s] [13, 13, 13] (Nat.mul 8 (zgG r c s))) (zgNS r c)) = true := by decide +kernel
theorem zgrunF : zyAllP (fun r c => zyAll (fun s => zyk1 (zymr r c) 203 3 5 [595, Nat.mul 8 s] [13] (Nat.mul 8 (zgF r c s))) (zgNS r c)) = true := by decide +kernel
