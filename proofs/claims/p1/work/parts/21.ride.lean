/-! RIDE: the class rides the rest of n by 4, the reference all n -/
noncomputable def zeR : List (Nat × Nat) := [(0, 4294967295), (0, 4294967295), (2147483648, 2148483648), (2147483648, 2147493648), (0, 4294967295), (0, 4294967295)]
noncomputable def zeS : List (Nat × Nat) := [(0, 4294967295), (0, 4294967295), (2147483648, 2148483648), (2147483648, 2147493648), (0, 4294967295), (0, 4294967295), (2147483648, 2147493648)]
noncomputable def zMref : zM := [zrow (zrow (99, 0, []) 8) 8, [zrow (99, 0, []) 8, [(99, 0, []), (99, 0, []), zM0_74, zM0_75, zM0_76, zM0_77, zM0_78, zM0_79], [zM0_80, zM0_81, zM0_82, zM0_83, zM0_84, zM0_85, zM0_86, zM0_87], zrow (99, 0, []) 8, zrow (99, 0, []) 8, zrow (99, 0, []) 8, zrow (99, 0, []) 8, zrow (99, 0, []) 8]]
/-- stop here, in the last frame, with just this -/
noncomputable def zstAt (P : Nat) (W0 : zW) (ls0 st0 : List Nat) (q0 : zQ) (m0 : zM) : zK := fun w _ _ pc ls st q fs m => zand (Nat.beq pc P) (List.rec (motive := fun _ => Bool) (zand (decide (w = W0)) (zand (zeqL Nat.beq ls ls0) (zand (zeqL Nat.beq st st0) (zand (decide (q = q0)) (zeqM m m0))))) (fun _ _ _ => false) fs)
theorem zstAt_no (P : Nat) (W0 : zW) (ls0 st0 : List Nat) (q0 : zQ) (m0 : zM) : ∀ w cf y pc ls st q f fs m, zstAt P W0 ls0 st0 q0 m0 w cf y pc ls st q (f :: fs) m = false := by
  intro w cf y pc ls st q f fs m
  show zand (Nat.beq pc P) false = false
  cases Nat.beq pc P <;> rfl
theorem zstAt_iff {P : Nat} {W0 : zW} {ls0 st0 : List Nat} {q0 : zQ} {m0 : zM} {w : zW} {cf : Nat → zT} {y : zY} {pc : Nat} {ls st : List Nat} {q : zQ} {m : zM} (h : zstAt P W0 ls0 st0 q0 m0 w cf y pc ls st q [] m = true) : pc = P ∧ w = W0 ∧ ls = ls0 ∧ st = st0 ∧ q = q0 ∧ m = m0 := by
  obtain ⟨h1, h2⟩ := zand_iff (show zand (Nat.beq pc P) (zand (decide (w = W0)) (zand (zeqL Nat.beq ls ls0) (zand (zeqL Nat.beq st st0) (zand (decide (q = q0)) (zeqM m m0))))) = true from h)
  obtain ⟨h2, h3⟩ := zand_iff h2
  obtain ⟨h3, h4⟩ := zand_iff h3
  obtain ⟨h4, h5⟩ := zand_iff h4
  obtain ⟨h5, h6⟩ := zand_iff h5
  exact ⟨zbeqT h1, of_decide_eq_true h2, zeqL_iff (fun _ _ h => zbeqT h) h3, zeqL_iff (fun _ _ h => zbeqT h) h4, of_decide_eq_true h5, zeqM_iff h6⟩
noncomputable def zbtN : zW → List Nat → zM → Bool := fun _ _ _ => false
noncomputable def zbtV (r : Nat) : zW → List Nat → zM → Bool := fun w v _ => zand (zeqL Nat.beq v [8 * r]) (Nat.beq w.1 88)
noncomputable def zbtX (r : Nat) : zW → List Nat → zM → Bool := fun w v m => zand (zeqL Nat.beq v [8 * r]) (zand (Nat.beq w.1 88) (zsubM zMref m))
/-- at the class's rest of n by 4: the run behind it, with the rest r -/
noncomputable def zstX (a r : Nat) : zK := fun w cf y pc ls st q fs m => zand (Nat.beq pc 73) (List.rec (motive := fun _ => Bool) (zand (zeqL Nat.beq st [32, 103079215105]) (zok (zbtX ((a + r) % 4)) 6 zstop0 20000 w cf y 74 ls [8 * r] q [] m)) (fun _ _ _ => false) fs)
theorem zstX_no (a r : Nat) : ∀ w cf y pc ls st q f fs m, zstX a r w cf y pc ls st q (f :: fs) m = false := by
  intro w cf y pc ls st q f fs m
  show zand (Nat.beq pc 73) false = false
  cases Nat.beq pc 73 <;> rfl
theorem zstX_iff {a r : Nat} {w : zW} {cf : Nat → zT} {y : zY} {pc : Nat} {ls st : List Nat} {q : zQ} {m : zM} (h : zstX a r w cf y pc ls st q [] m = true) : pc = 73 ∧ st = [32, 103079215105] ∧ zok (zbtX ((a + r) % 4)) 6 zstop0 20000 w cf y 74 ls [8 * r] q [] m = true := by
  obtain ⟨h1, h2⟩ := zand_iff (show zand (Nat.beq pc 73) (zand (zeqL Nat.beq st [32, 103079215105]) (zok (zbtX ((a + r) % 4)) 6 zstop0 20000 w cf y 74 ls [8 * r] q [] m)) = true from h)
  obtain ⟨h2, h3⟩ := zand_iff h2
  exact ⟨zbeqT h1, zeqL_iff (fun _ _ h => zbeqT h) h2, h3⟩
noncomputable def zen141 : zEn := (zxi141, 4, 8, 10, 141, 0, 0, 1, 0)
noncomputable def zme141 : zMe := (yX10_ride, cX10_ride, some .int, RX10)
noncomputable def zen283 : zEn := (zxi283, 4, 6, 11, 283, 0, 0, 1, 0)
noncomputable def zme283 : zMe := (yX11_ride, cX11_ride, some .int, RX11)
set_option maxRecDepth 1000000 in
theorem zr_x : ∀ a, a < 4 → ∀ r, r < 4 → zok zbtN 6 (zstX a r) 20000 (88, zeR) zxi141 (141, 0, 0, 1, 0) 0 [3, 8 * a, 68719476737, 103079215105, 13, 13, 13, 13] [] (999, 0, 0) [] zM0 = true := by decide +kernel
set_option maxRecDepth 1000000 in
theorem zr_a : zok zbtL 6 (zstAt 856 (88, zeR) [799995, 3, 595, 0] [103079215105, 68719476737, 34359738369, 3] (1000, 88, 23815) zM0) 100 (88, zeR) zxi0 zy0 33 [799995, 3, 595, 0] [176] (1000, 88, 23815) [] zM0 = true := by decide +kernel
set_option maxRecDepth 1000000 in
theorem zr_b : ∀ r, r < 4 → zok zbtL 6 (zstAt 875 (88, zeR) [799995, 3, 595, 0] [103079215105, 68719476737, 34359738369, 595, 8 * r] (1000, 88, 23815) zMref) 100 (88, zeR) zxi0 zy0 859 [799995, 3, 595, 0] [8 * r] (1000, 88, 23815) [] zMref = true := by decide +kernel
set_option maxRecDepth 1000000 in
theorem zr_y : ∀ a, a < 4 → zok zbtN 6 (zstAt 57 (88, zeR) [595, 8 * a, 68719476737, 103079215105, 8 * a, 0] [103079215105, 0] (999, 0, 0) zMref) 5000 (88, zeR) zxi283 (283, 0, 0, 1, 0) 0 [595, 8 * a, 68719476737, 103079215105, 13, 13] [] (999, 0, 0) [] zMref = true := by decide +kernel
set_option maxRecDepth 1000000 in
theorem zr_z : ∀ v, v < 4 → zok zbtN 6 (zstAt 57 (88, zeS) [595, 13, 68719476737, 103079215105, 8 * ((v + 1) % 4), 206158430217] [103079215105, 206158430217] (999, 0, 0) zMref) 5000 (88, zeS) zxi283 (283, 0, 0, 1, 0) 60 [595, 13, 68719476737, 103079215105, 8 * v, 206158430209] [] (999, 0, 0) [] zMref = true := by decide +kernel
set_option maxRecDepth 1000000 in
theorem zr_e : ∀ v, v < 4 → zok (zbtV v) 6 zstop0 100 (88, zeS) zxi283 (283, 0, 0, 1, 0) 78 [595, 13, 68719476737, 103079215105, 8 * v, 206158430209] [] (999, 0, 0) [] zMref = true := by decide +kernel
set_option maxRecDepth 1000000 in
theorem zr_l : ∀ r, r < 4 → zok zbtL 6 zstop0 100 (88, ze0) zxi0 zy0 878 [799995, 3, 595, 0] [8 * r, 8 * r] (1000, 88, 23815) [] [] = true := by decide +kernel
/-- what isn't ridden at all -/
noncomputable def zrb : List (List (Nat × Nat)) := [[(0, 4294967295), (0, 4294967295), (0, 2147483647), (0, 4294967295), (0, 4294967295), (0, 4294967295)], [(0, 4294967295), (0, 4294967295), (2148483649, 4294967295), (0, 4294967295), (0, 4294967295), (0, 4294967295)], [(0, 4294967295), (0, 4294967295), (0, 4294967295), (0, 2147483647), (0, 4294967295), (0, 4294967295)],
  [(0, 4294967295), (0, 4294967295), (0, 4294967295), (2147493649, 4294967295), (0, 4294967295), (0, 4294967295)], [(0, 4294967295), (0, 2147483647), (0, 4294967295), (0, 4294967295), (0, 4294967295), (0, 4294967295)], [(0, 4294967295), (2147483652, 4294967295), (0, 4294967295), (0, 4294967295), (0, 4294967295), (0, 4294967295)]]
noncomputable def zrbN (i : Nat) : List (Nat × Nat) := (zrb[i]?).getD []
set_option maxRecDepth 1000000 in
theorem zr_n : ∀ i, i < 6 → zok zbtL 6 zstop0 20000 (88, zrbN i) zxi0 zy0 33 [799995, 3, 595, 0] [176] (1000, 88, 23815) [] zM0 = true := by decide +kernel
set_option maxRecDepth 1000000 in
theorem zr_c : zclM zMref = true ∧ zrcv 11 [3, 34359738369, 68719476737, 103079215105] zM0 true = true ∧ zrcv 12 [595, 34359738369, 68719476737, 103079215105] zMref true = true := by decide +kernel
