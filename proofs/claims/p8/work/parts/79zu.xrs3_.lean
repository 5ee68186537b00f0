section
/-! THE REFERENCE reads a stuck switch (printed by m22.py) -/
noncomputable def zxfsk_zx0 : zyXp := (0, [595, 13, 13], [], [], [], [])
noncomputable def zpfsk_z : zyPh := (0, [595, 13, 13], [(0, 4294967295), (0, 4294967295), (0, 4294967295)], [], [])
noncomputable def zxfsk_ax0 : zyXp := (1, [595, 13, 13], [595], [], [], [])
noncomputable def zpfsk_a : zyPh := (0, [595, 13, 13], [(0, 4294967295), (0, 4294967295), (0, 4294967295)], [], [])
noncomputable def zxfsk_bx0 : zyXp := (12, [595, 13, 13], [274877906937, 0, 595], [(3, 171798691841, 103079215105, 171798691833), (3, 206158430209, 137438953465, 137438953473), (1, 240518168577, 171798691841, 206158430209)], [(103079215105, 2147483649, 2147483652), (137438953473, 2147483649, 2147483653), (171798691841, 2147483648, 2147483664), (206158430209, 2147483648, 2147483663), (240518168577, 2147483648, 2147483679), (274877906937, 2147483647, 2147483678)], [])
noncomputable def zpfsk_b : zyPh := (4, [595, 13, 13], [(0, 4294967295), (0, 4294967295), (0, 4294967295), (2147483649, 2147483652), (2147483649, 2147483653)], [(1228800, 103079215105), (1228801, 137438953473)], [])
noncomputable def zxfsk_cx0 : zyXp := (18, [595, 103079215105, 13], [32, 595], [], [], [])
noncomputable def zpfsk_c : zyPh := (15, [595, 13, 13], [(0, 4294967295), (0, 4294967295), (0, 4294967295), (0, 4294967295)], [], [103079215105])
noncomputable def zxfsk_dx0 : zyXp := (33, [595, 34359738369, 16], [32, 595, 595], [(23, 0, 103079215105, 0)], [(103079215105, 2147483649, 2147483649)], [])
noncomputable def zxfsk_dx1 : zyXp := (33, [595, 34359738369, 8], [32, 595, 595], [(22, 0, 103079215105, 0)], [(103079215105, 2147483648, 2147483648)], [])
noncomputable def zpfsk_d : zyPh := (21, [595, 34359738369, 13], [(0, 4294967295), (0, 4294967295), (0, 4294967295), (2147483648, 2147483649)], [], [103079215105])
noncomputable def zxfsk_ex0 : zyXp := (52, [595, 34359738369, 68719476737], [8, 595], [(23, 0, 103079215105, 0)], [(68719476737, 2147483649, 2147483650), (103079215105, 2147483649, 2147483649)], [])
noncomputable def zxfsk_ex1 : zyXp := (41, [595, 34359738369, 68719476737], [40, 595, 595], [(22, 0, 103079215105, 0)], [(68719476737, 2147483649, 2147483650), (103079215105, 2147483648, 2147483648)], [])
noncomputable def zpfsk_e : zyPh := (36, [595, 34359738369, 68719476737], [(0, 4294967295), (0, 4294967295), (2147483649, 2147483650), (2147483648, 2147483649)], [], [103079215105, 595])
noncomputable def zxfsk_fx0 : zyXp := (52, [595, 34359738369, 68719476737], [8, 595], [(23, 0, 103079215105, 0)], [(68719476737, 2147483649, 2147483650), (103079215105, 2147483649, 2147483649)], [])
noncomputable def zxfsk_fx1 : zyXp := (52, [595, 34359738369, 68719476737], [0, 595], [(22, 0, 103079215105, 0)], [(68719476737, 2147483649, 2147483650), (103079215105, 2147483648, 2147483648)], [])
noncomputable def zpfsk_f : zyPh := (44, [595, 34359738369, 68719476737], [(0, 4294967295), (0, 4294967295), (2147483649, 2147483650), (2147483648, 2147483649)], [], [103079215105, 595])
noncomputable def zxfsk_hx0 : zyXp := (52, [595, 34359738369, 68719476737], [103079215105, 595], [], [(68719476737, 2147483649, 2147483650), (103079215105, 2147483648, 2147483649)], [])
noncomputable def zpfsk_h : zyPh := (52, [595, 34359738369, 68719476737], [(0, 4294967295), (0, 4294967295), (2147483649, 2147483650), (2147483648, 2147483649)], [], [103079215105, 595])
noncomputable def zxfsk_gx0 : zyXp := (62, [595, 34359738369, 68719476737], [], [(22, 0, 103079215105, 0)], [(68719476737, 2147483649, 2147483650), (103079215105, 2147483648, 2147483648)], [])
noncomputable def zxfsk_gr0 : zyXp := (0, [], [], [(23, 0, 103079215105, 0)], [(103079215105, 2147483649, 2147483657)], [])
noncomputable def zpfsk_g : zyPh := (55, [595, 34359738369, 68719476737], [(0, 4294967295), (0, 4294967295), (2147483649, 2147483650), (2147483648, 2147483657)], [(1212452, 103079215105)], [])
noncomputable def zxfsk_g2x0 : zyXp := (71, [595, 34359738369, 68719476737], [68719476737, 34359738945, 603], [], [(34359738369, 2147483648, 2147483678), (68719476737, 2147483649, 2147483650), (34359738945, 2147483720, 2147483750)], [])
noncomputable def zpfsk_g2 : zyPh := (62, [595, 34359738369, 68719476737], [(0, 4294967295), (2147483648, 2147483678), (2147483649, 2147483650)], [], [])
noncomputable def zxfsk_ir0 : zyXp := (0, [], [], [], [], [])
noncomputable def zpfsk_i : zyPh := (72, [595, 13, 13], [(0, 4294967295), (0, 4294967295), (0, 4294967295)], [], [])
noncomputable def zpfsk (i : Nat) : zyPh := zif (Nat.beq i 0) (zpfsk_z) (zif (Nat.beq i 1) (zpfsk_a) (zif (Nat.beq i 2) (zpfsk_b) (zif (Nat.beq i 3) (zpfsk_c) (zif (Nat.beq i 4) (zpfsk_d) (zif (Nat.beq i 5) (zpfsk_e) (zif (Nat.beq i 6) (zpfsk_f) (zif (Nat.beq i 7) (zpfsk_h) (zif (Nat.beq i 8) (zpfsk_g) (zif (Nat.beq i 9) (zpfsk_g2) (zpfsk_i))))))))))
noncomputable def zXfsk (i : Nat) : List zyXp := zif (Nat.beq i 0) ([zxfsk_zx0]) (zif (Nat.beq i 1) ([zxfsk_ax0]) (zif (Nat.beq i 2) ([zxfsk_bx0]) (zif (Nat.beq i 3) ([zxfsk_cx0]) (zif (Nat.beq i 4) ([zxfsk_dx0, zxfsk_dx1]) (zif (Nat.beq i 5) ([zxfsk_ex0, zxfsk_ex1]) (zif (Nat.beq i 6) ([zxfsk_fx0, zxfsk_fx1]) (zif (Nat.beq i 7) ([zxfsk_hx0]) (zif (Nat.beq i 8) ([zxfsk_gx0]) (zif (Nat.beq i 9) ([zxfsk_g2x0]) ([]))))))))))
noncomputable def zRfsk (i : Nat) : List zyXp := zif (Nat.beq i 0) ([]) (zif (Nat.beq i 1) ([]) (zif (Nat.beq i 2) ([]) (zif (Nat.beq i 3) ([]) (zif (Nat.beq i 4) ([]) (zif (Nat.beq i 5) ([]) (zif (Nat.beq i 6) ([]) (zif (Nat.beq i 7) ([]) (zif (Nat.beq i 8) ([zxfsk_gr0]) (zif (Nat.beq i 9) ([]) ([zxfsk_ir0]))))))))))
noncomputable def zFfsk (i : Nat) : zyR := zif (Nat.beq i 0) ([]) (zif (Nat.beq i 1) ([]) (zif (Nat.beq i 2) ([]) (zif (Nat.beq i 3) ([]) (zif (Nat.beq i 4) ([]) (zif (Nat.beq i 5) ([]) (zif (Nat.beq i 6) ([]) (zif (Nat.beq i 7) ([]) (zif (Nat.beq i 8) ([]) (zif (Nat.beq i 9) ([]) ([]))))))))))
noncomputable def zSfsk (i : Nat) : Nat := zif (Nat.beq i 0) (0) (zif (Nat.beq i 1) (0) (zif (Nat.beq i 2) (0) (zif (Nat.beq i 3) (0) (zif (Nat.beq i 4) (0) (zif (Nat.beq i 5) (0) (zif (Nat.beq i 6) (0) (zif (Nat.beq i 7) (0) (zif (Nat.beq i 8) (0) (zif (Nat.beq i 9) (0) (0))))))))))
/-- a stuck switch is read -/
def xΦsk (_ : Nat → Int) (E : zyEm) : Prop := xWs E ∧ xE E 74 36 = 0 ∧ xE E 74 39 ≤ xE E 74 42 ∧ (1 ≤ xE E 75 0 ∧ xE E 75 0 ≤ 4) ∧ (1 ≤ xE E 75 1 ∧ xE E 75 1 ≤ 5)
def xΨsk (_ : Nat → Int) (E E2 : zyEm) (_ : Int) : Prop := xRs (xE E 84) (xE E 74 42) E2 (pStuck (xE E 84) (xE E 74 42) (xE E 74 39) (xE E 75))
theorem xWs_k {E E2 : zyEm} {fp : zyR} (h : xWs E) (hf : xFr fp E E2) (hz : ∀ k, zyin fp 85 k = false) : xWs E2 := fun k hk => by
  rw [hf 85 k (hz k)]
  exact h k hk
theorem tW_k {T : Int → Int} {n p : Int} {w : List Int} (h : tW T n p w = true) : tKd T n p = 2 := by
  unfold tW sW at h
  rw [Bool.and_eq_true, decide_eq_true_eq] at h
  exact h.1
noncomputable def fpfsk : zyR := [(74, 36, 41), (74, 43, 43), (75, 72, 103)]
theorem zyfsk_run : zyrS zymx zxi323 (323, 0, 0, 0, 0) 5 zpfsk (fun _ _ => []) zFfsk zSfsk zXfsk zRfsk 11 = true := by decide +kernel
theorem zyfsk_ck : zyAll (fun i => xsubR (zFfsk i) fpfsk && ((zXfsk i).all xckX && (zRfsk i).all (fun x => xckX x && xrtB false x))) 11 = true := by decide +kernel
def xIfsk (i : Nat) (x0 : Nat → Int) (E0 : zyEm) (v : Nat → Int) (E : zyEm) : Prop := if i = 0 then (E = E0) else if i = 1 then (E = E0) else if i = 2 then (xE E 74 36 = 0 ∧ (∀ k, xE E 75 k = xE E0 75 k) ∧ ((1 ≤ xE E0 75 0 ∧ xE E0 75 0 ≤ 4) ∧ (1 ≤ xE E0 75 1 ∧ xE E0 75 1 ≤ 5)) ∧ ((xE E0 74 39)) ≤ (xE E0 74 42) ∧ xRD (xE E0 84) (xE E0 74 42) ((xE E0 74 39)) E) else if i = 3 then ((∀ k, xE E 75 k = xE E0 75 k) ∧ (xE E 74 36 = 0 → (0 ≤ (v 3) ∧ (v 3) ≤ 30) ∧ ((tNx (xE E0 84) (xE E0 74 42) (xE E0 74 39)) ≤ (xE E0 74 42) ∧ xRD (xE E0 84) (xE E0 74 42) (tNx (xE E0 84) (xE E0 74 42) (xE E0 74 39)) E) ∧ pStuck (xE E0 84) (xE E0 74 42) (xE E0 74 39) (xE E0 75) = (if tW (xE E0 84) (xE E0 74 42) (tNx (xE E0 84) (xE E0 74 42) (xE E0 74 39)) (wrd 4) = true then .ok (tNx (xE E0 84) (xE E0 74 42) (tNx (xE E0 84) (xE E0 74 42) (xE E0 74 39)), uS (xE E0 75) (72 + (v 3)) 2) else if tW (xE E0 84) (xE E0 74 42) (tNx (xE E0 84) (xE E0 74 42) (xE E0 74 39)) (wrd 5) = true then .ok (tNx (xE E0 84) (xE E0 74 42) (tNx (xE E0 84) (xE E0 74 42) (xE E0 74 39)), uS (xE E0 75) (72 + (v 3)) 1) else .error (pMis (xE E0 84) (xE E0 74 42) (tNx (xE E0 84) (xE E0 74 42) (xE E0 74 39)), tFr (xE E0 84) (xE E0 74 42) (tNx (xE E0 84) (xE E0 74 42) (xE E0 74 39)))) ∧ (True)) ∧ (¬ xE E 74 36 = 0 → xEr E (pStuck (xE E0 84) (xE E0 74 42) (xE E0 74 39) (xE E0 75)))) else if i = 4 then ((∀ k, xE E 75 k = xE E0 75 k) ∧ (xE E 74 36 = 0 → (0 ≤ (v 1) ∧ (v 1) ≤ 30) ∧ ((tNx (xE E0 84) (xE E0 74 42) (xE E0 74 39)) ≤ (xE E0 74 42) ∧ xRD (xE E0 84) (xE E0 74 42) (tNx (xE E0 84) (xE E0 74 42) (xE E0 74 39)) E) ∧ pStuck (xE E0 84) (xE E0 74 42) (xE E0 74 39) (xE E0 75) = (if tW (xE E0 84) (xE E0 74 42) (tNx (xE E0 84) (xE E0 74 42) (xE E0 74 39)) (wrd 4) = true then .ok (tNx (xE E0 84) (xE E0 74 42) (tNx (xE E0 84) (xE E0 74 42) (xE E0 74 39)), uS (xE E0 75) (72 + (v 1)) 2) else if tW (xE E0 84) (xE E0 74 42) (tNx (xE E0 84) (xE E0 74 42) (xE E0 74 39)) (wrd 5) = true then .ok (tNx (xE E0 84) (xE E0 74 42) (tNx (xE E0 84) (xE E0 74 42) (xE E0 74 39)), uS (xE E0 75) (72 + (v 1)) 1) else .error (pMis (xE E0 84) (xE E0 74 42) (tNx (xE E0 84) (xE E0 74 42) (xE E0 74 39)), tFr (xE E0 84) (xE E0 74 42) (tNx (xE E0 84) (xE E0 74 42) (xE E0 74 39)))) ∧ ((v 3) = 1 ↔ tW (xE E0 84) (xE E0 74 42) (tNx (xE E0 84) (xE E0 74 42) (xE E0 74 39)) (wrd 4) = true)) ∧ (¬ xE E 74 36 = 0 → xEr E (pStuck (xE E0 84) (xE E0 74 42) (xE E0 74 39) (xE E0 75)))) else if i = 5 then ((∀ k, xE E 75 k = xE E0 75 k) ∧ (xE E 74 36 = 0 → (0 ≤ (v 1) ∧ (v 1) ≤ 30) ∧ ((tNx (xE E0 84) (xE E0 74 42) (xE E0 74 39)) ≤ (xE E0 74 42) ∧ xRD (xE E0 84) (xE E0 74 42) (tNx (xE E0 84) (xE E0 74 42) (xE E0 74 39)) E) ∧ pStuck (xE E0 84) (xE E0 74 42) (xE E0 74 39) (xE E0 75) = (if tW (xE E0 84) (xE E0 74 42) (tNx (xE E0 84) (xE E0 74 42) (xE E0 74 39)) (wrd 4) = true then .ok (tNx (xE E0 84) (xE E0 74 42) (tNx (xE E0 84) (xE E0 74 42) (xE E0 74 39)), uS (xE E0 75) (72 + (v 1)) 2) else if tW (xE E0 84) (xE E0 74 42) (tNx (xE E0 84) (xE E0 74 42) (xE E0 74 39)) (wrd 5) = true then .ok (tNx (xE E0 84) (xE E0 74 42) (tNx (xE E0 84) (xE E0 74 42) (xE E0 74 39)), uS (xE E0 75) (72 + (v 1)) 1) else .error (pMis (xE E0 84) (xE E0 74 42) (tNx (xE E0 84) (xE E0 74 42) (xE E0 74 39)), tFr (xE E0 84) (xE E0 74 42) (tNx (xE E0 84) (xE E0 74 42) (xE E0 74 39)))) ∧ (((v 3) = 1 ↔ tW (xE E0 84) (xE E0 74 42) (tNx (xE E0 84) (xE E0 74 42) (xE E0 74 39)) (wrd 4) = true) ∧ ((v 2) = 2 ↔ tW (xE E0 84) (xE E0 74 42) (tNx (xE E0 84) (xE E0 74 42) (xE E0 74 39)) (wrd 4) = true))) ∧ (¬ xE E 74 36 = 0 → xEr E (pStuck (xE E0 84) (xE E0 74 42) (xE E0 74 39) (xE E0 75)))) else if i = 6 then ((∀ k, xE E 75 k = xE E0 75 k) ∧ (xE E 74 36 = 0 → (0 ≤ (v 1) ∧ (v 1) ≤ 30) ∧ ((tNx (xE E0 84) (xE E0 74 42) (xE E0 74 39)) ≤ (xE E0 74 42) ∧ xRD (xE E0 84) (xE E0 74 42) (tNx (xE E0 84) (xE E0 74 42) (xE E0 74 39)) E) ∧ pStuck (xE E0 84) (xE E0 74 42) (xE E0 74 39) (xE E0 75) = (if tW (xE E0 84) (xE E0 74 42) (tNx (xE E0 84) (xE E0 74 42) (xE E0 74 39)) (wrd 4) = true then .ok (tNx (xE E0 84) (xE E0 74 42) (tNx (xE E0 84) (xE E0 74 42) (xE E0 74 39)), uS (xE E0 75) (72 + (v 1)) 2) else if tW (xE E0 84) (xE E0 74 42) (tNx (xE E0 84) (xE E0 74 42) (xE E0 74 39)) (wrd 5) = true then .ok (tNx (xE E0 84) (xE E0 74 42) (tNx (xE E0 84) (xE E0 74 42) (xE E0 74 39)), uS (xE E0 75) (72 + (v 1)) 1) else .error (pMis (xE E0 84) (xE E0 74 42) (tNx (xE E0 84) (xE E0 74 42) (xE E0 74 39)), tFr (xE E0 84) (xE E0 74 42) (tNx (xE E0 84) (xE E0 74 42) (xE E0 74 39)))) ∧ (¬ (tW (xE E0 84) (xE E0 74 42) (tNx (xE E0 84) (xE E0 74 42) (xE E0 74 39)) (wrd 4) = true) ∧ (v 2) = 1 ∧ ((v 3) = 1 ↔ tW (xE E0 84) (xE E0 74 42) (tNx (xE E0 84) (xE E0 74 42) (xE E0 74 39)) (wrd 5) = true))) ∧ (¬ xE E 74 36 = 0 → xEr E (pStuck (xE E0 84) (xE E0 74 42) (xE E0 74 39) (xE E0 75)))) else if i = 7 then ((∀ k, xE E 75 k = xE E0 75 k) ∧ (xE E 74 36 = 0 → (0 ≤ (v 1) ∧ (v 1) ≤ 30) ∧ ((tNx (xE E0 84) (xE E0 74 42) (xE E0 74 39)) ≤ (xE E0 74 42) ∧ xRD (xE E0 84) (xE E0 74 42) (tNx (xE E0 84) (xE E0 74 42) (xE E0 74 39)) E) ∧ pStuck (xE E0 84) (xE E0 74 42) (xE E0 74 39) (xE E0 75) = (if tW (xE E0 84) (xE E0 74 42) (tNx (xE E0 84) (xE E0 74 42) (xE E0 74 39)) (wrd 4) = true then .ok (tNx (xE E0 84) (xE E0 74 42) (tNx (xE E0 84) (xE E0 74 42) (xE E0 74 39)), uS (xE E0 75) (72 + (v 1)) 2) else if tW (xE E0 84) (xE E0 74 42) (tNx (xE E0 84) (xE E0 74 42) (xE E0 74 39)) (wrd 5) = true then .ok (tNx (xE E0 84) (xE E0 74 42) (tNx (xE E0 84) (xE E0 74 42) (xE E0 74 39)), uS (xE E0 75) (72 + (v 1)) 1) else .error (pMis (xE E0 84) (xE E0 74 42) (tNx (xE E0 84) (xE E0 74 42) (xE E0 74 39)), tFr (xE E0 84) (xE E0 74 42) (tNx (xE E0 84) (xE E0 74 42) (xE E0 74 39)))) ∧ (((v 3) = 1 ↔ (tW (xE E0 84) (xE E0 74 42) (tNx (xE E0 84) (xE E0 74 42) (xE E0 74 39)) (wrd 4) = true ∨ tW (xE E0 84) (xE E0 74 42) (tNx (xE E0 84) (xE E0 74 42) (xE E0 74 39)) (wrd 5) = true)) ∧ ((v 2) = 2 ↔ tW (xE E0 84) (xE E0 74 42) (tNx (xE E0 84) (xE E0 74 42) (xE E0 74 39)) (wrd 4) = true))) ∧ (¬ xE E 74 36 = 0 → xEr E (pStuck (xE E0 84) (xE E0 74 42) (xE E0 74 39) (xE E0 75)))) else if i = 8 then ((∀ k, xE E 75 k = xE E0 75 k) ∧ (xE E 74 36 = 0 → (0 ≤ (v 1) ∧ (v 1) ≤ 30) ∧ ∃ p, (p) ≤ (xE E0 74 42) ∧ xRD (xE E0 84) (xE E0 74 42) (p) E ∧ pStuck (xE E0 84) (xE E0 74 42) (xE E0 74 39) (xE E0 75) = .ok (p, uS (xE E0 75) (72 + (v 1)) (v 2))) ∧ (¬ xE E 74 36 = 0 → xEr E (pStuck (xE E0 84) (xE E0 74 42) (xE E0 74 39) (xE E0 75)))) else if i = 9 then (xE E 74 36 = 0 ∧ (∀ k, xE E 75 k = xE E0 75 k) ∧ ∃ p, (p) ≤ (xE E0 74 42) ∧ xRD (xE E0 84) (xE E0 74 42) (p) E ∧ pStuck (xE E0 84) (xE E0 74 42) (xE E0 74 39) (xE E0 75) = .ok (p, uS (xE E0 75) (72 + (v 1)) (v 2))) else (xE E 74 36 = 0 ∧ ∃ p U, (p) ≤ (xE E0 74 42) ∧ xRD (xE E0 84) (xE E0 74 42) (p) E ∧ pStuck (xE E0 84) (xE E0 74 42) (xE E0 74 39) (xE E0 75) = .ok (p, U) ∧ ∀ k, 0 ≤ k → xE E 75 k = U k)
def xMfsk (i : Nat) (x0 : Nat → Int) (E0 : zyEm) (v : Nat → Int) (E : zyEm) : Nat := if i = 0 then (19) else if i = 1 then (18) else if i = 2 then (17) else if i = 3 then (16) else if i = 4 then (15) else if i = 5 then (14) else if i = 6 then (13) else if i = 7 then (12) else if i = 8 then (11) else if i = 9 then (10) else (9)
theorem xSk {l : Launch} {en : zEn} {me : zMe} (hen : zG zxMeta 323 = some en) (hme : zG zMeth 323 = some me) : xFc l zymx en me 5 [74] 0 fpfsk false xΦsk xΨsk := by
  have een : zG zxMeta 323 = some (zxi323, 1, 3, 11, 323, 0, 0, 0, 0) := rfl
  obtain ⟨me1, hme1, hOK⟩ := zall hen
  rw [hme] at hme1
  cases hme1
  rw [een] at hen
  cases hen
  have hr := zyfsk_run
  have hck := fun i hi => zyAll_iff zyfsk_ck i hi
  simp only [Bool.and_eq_true] at hck
  obtain ⟨mefrd, hmefrd, -⟩ := zall (show zG zxMeta 314 = some (zxi314, 1, 1, 11, 314, 0, 0, 0, 0) from rfl)
  have hfrd := xRd (l := l) (show zG zxMeta 314 = some (zxi314, 1, 1, 11, 314, 0, 0, 0, 0) from rfl) hmefrd
  obtain ⟨meftm, hmeftm, -⟩ := zall (show zG zxMeta 320 = some (zxi320, 3, 4, 11, 320, 0, 0, 1, 0) from rfl)
  have hftm := xTm (l := l) (show zG zxMeta 320 = some (zxi320, 3, 4, 11, 320, 0, 0, 1, 0) from rfl) hmeftm
  obtain ⟨mefiw, hmefiw, -⟩ := zall (show zG zxMeta 316 = some (zxi316, 2, 2, 11, 316, 0, 0, 2, 0) from rfl)
  have hfiw := xIw (l := l) (show zG zxMeta 316 = some (zxi316, 2, 2, 11, 316, 0, 0, 2, 0) from rfl) hmefiw
  obtain ⟨meftk, hmeftk, -⟩ := zall (show zG zxMeta 318 = some (zxi318, 2, 2, 11, 318, 0, 0, 0, 0) from rfl)
  have hftk := xTk (l := l) (show zG zxMeta 318 = some (zxi318, 2, 2, 11, 318, 0, 0, 0, 0) from rfl) hmeftk
  intro B
  refine xcut (mi := zymx) (B := B) hOK rfl rfl (ι := Fin 11) (fun i => zpfsk i.val) (fun _ _ => []) (fun i => zFfsk i.val) (fun i => zSfsk i.val) (fun i => zXfsk i.val) (fun i => zRfsk i.val) (fun i y2 ct en2 me2 h => by cases h) 200000 (fun i => zyAll_iff hr i.val i.isLt) (fun i => (hck i.val i.isLt).1) (fun i => (hck i.val i.isLt).2.1) (fun i => (hck i.val i.isLt).2.2) ⟨0, by decide⟩ ⟨rfl, rfl, rfl, rfl⟩ ⟨by decide, by decide⟩ (fun i x0 E0 v E => xIfsk i.val x0 E0 v E) (fun i x0 E0 v E => xMfsk i.val x0 E0 v E) ?_ ?_ ?_
  · intro x0 E hx0 hT hΦ
    have hΦ : xΦsk x0 E := hΦ
    refine ⟨fun k p hp => ?_, ?_⟩
    · have hk : k < 3 := (List.getElem?_eq_some_iff.mp hp).1
      have hk : k = 0 ∨ k = 1 ∨ k = 2 := by omega
      rcases hk with rfl | rfl | rfl
      · have hp : some (0, 4294967295) = some p := hp
        cases hp
        show ((0 : Nat) : Int) ≤ 0 + 2147483648 ∧ 0 + 2147483648 ≤ ((4294967295 : Nat) : Int)
        omega
      · have hp : some (0, 4294967295) = some p := hp
        cases hp
        show ((0 : Nat) : Int) ≤ x0 0 + 2147483648 ∧ x0 0 + 2147483648 ≤ ((4294967295 : Nat) : Int)
        have hx := hx0 0
        omega
      · have hp : some (0, 4294967295) = some p := hp
        cases hp
        show ((0 : Nat) : Int) ≤ x0 1 + 2147483648 ∧ x0 1 + 2147483648 ≤ ((4294967295 : Nat) : Int)
        have hx := hx0 1
        omega
    · show E = E
      rfl
  · intro x0 s Wg hRu hrx hT0 hΦ i v H hT hrv hInv hKc hFr0 hIH x hx ρ2 v2 N2 H2 locs lsB stA hAt hB hv hr2 hXs hag hfr hFr hT2
    rcases i with ⟨i, hi⟩
    have hi2 : i = 0 ∨ i = 1 ∨ i = 2 ∨ i = 3 ∨ i = 4 ∨ i = 5 ∨ i = 6 ∨ i = 7 ∨ i = 8 ∨ i = 9 ∨ i = 10 := by omega
    rcases hi2 with rfl | rfl | rfl | rfl | rfl | rfl | rfl | rfl | rfl | rfl | rfl
    · have hx : x ∈ [zxfsk_zx0] := hx
      have hag : ∀ k, k < 3 → v2 k = v k := hag
      have hfr : xFr [] _ _ := hfr
      have ex := List.mem_singleton.mp hx
      subst ex
      obtain ⟨hF, hBd, hM⟩ := hXs
      have e74_36 : xE (zyEl zymx B H2) 74 36 = xE (zyEl zymx B H) 74 36 := xFr_E hfr rfl
      have e74_37 : xE (zyEl zymx B H2) 74 37 = xE (zyEl zymx B H) 74 37 := xFr_E hfr rfl
      have e74_38 : xE (zyEl zymx B H2) 74 38 = xE (zyEl zymx B H) 74 38 := xFr_E hfr rfl
      have e74_39 : xE (zyEl zymx B H2) 74 39 = xE (zyEl zymx B H) 74 39 := xFr_E hfr rfl
      have e74_40 : xE (zyEl zymx B H2) 74 40 = xE (zyEl zymx B H) 74 40 := xFr_E hfr rfl
      have e74_41 : xE (zyEl zymx B H2) 74 41 = xE (zyEl zymx B H) 74 41 := xFr_E hfr rfl
      have e74_42 : xE (zyEl zymx B H2) 74 42 = xE (zyEl zymx B H) 74 42 := xFr_E hfr rfl
      have q74_42 : xE (zyEl zymx B H) 74 42 = xE (zyEl zymx B s.heap) 74 42 := xFr_E hFr0 rfl
      have e75_0 : xE (zyEl zymx B H2) 75 0 = xE (zyEl zymx B H) 75 0 := xFr_E hfr rfl
      have q75_0 : xE (zyEl zymx B H) 75 0 = xE (zyEl zymx B s.heap) 75 0 := xFr_E hFr0 rfl
      have e75_1 : xE (zyEl zymx B H2) 75 1 = xE (zyEl zymx B H) 75 1 := xFr_E hfr rfl
      have q75_1 : xE (zyEl zymx B H) 75 1 = xE (zyEl zymx B s.heap) 75 1 := xFr_E hFr0 rfl
      have e75_2 : xE (zyEl zymx B H2) 75 2 = xE (zyEl zymx B H) 75 2 := xFr_E hfr rfl
      have q75_2 : xE (zyEl zymx B H) 75 2 = xE (zyEl zymx B s.heap) 75 2 := xFr_E hFr0 rfl
      have e84 : ∀ i, xE (zyEl zymx B H2) 84 i = xE (zyEl zymx B H) 84 i := fun i => xFr_E hfr rfl
      have q84 : ∀ i, xE (zyEl zymx B H) 84 i = xE (zyEl zymx B s.heap) 84 i := fun i => xFr_E hFr0 rfl
      have e75 : ∀ i, xE (zyEl zymx B H2) 75 i = xE (zyEl zymx B H) 75 i := fun i => xFr_E hfr rfl
      have hI : (zyEl zymx B H) = (zyEl zymx B s.heap) := hInv
      have q74_36 : xE (zyEl zymx B H) 74 36 = xE (zyEl zymx B s.heap) 74 36 := by rw [hI]
      have q74_37 : xE (zyEl zymx B H) 74 37 = xE (zyEl zymx B s.heap) 74 37 := by rw [hI]
      have q74_38 : xE (zyEl zymx B H) 74 38 = xE (zyEl zymx B s.heap) 74 38 := by rw [hI]
      have q74_39 : xE (zyEl zymx B H) 74 39 = xE (zyEl zymx B s.heap) 74 39 := by rw [hI]
      have q74_40 : xE (zyEl zymx B H) 74 40 = xE (zyEl zymx B s.heap) 74 40 := by rw [hI]
      have q74_41 : xE (zyEl zymx B H) 74 41 = xE (zyEl zymx B s.heap) 74 41 := by rw [hI]
      have q75 : ∀ i, xE (zyEl zymx B H) 75 i = xE (zyEl zymx B s.heap) 75 i := fun i => by rw [hI]
      refine xGo hIH hAt hB hv hFr ⟨1, by decide⟩ [0, 0, 0] [0, 0, 0] rfl ⟨by decide +kernel, ⟨rfl, by decide +kernel⟩, (xcs_c rfl (xcs_c rfl (xcs_c rfl xcs_n))), (xe_0 (xe_0 (xe_0 xe_n))), xkq_n⟩ xst_n ?_ ?_
      · show (zyEl zymx B H2) = (zyEl zymx B s.heap)
        exact (xFr_n hfr).trans hI
      · show 18 < 19
        omega
    · have hx : x ∈ [zxfsk_ax0] := hx
      have hag : ∀ k, k < 3 → v2 k = v k := hag
      have hfr : xFr [] _ _ := hfr
      have ex := List.mem_singleton.mp hx
      subst ex
      obtain ⟨hF, hBd, hM⟩ := hXs
      have e74_36 : xE (zyEl zymx B H2) 74 36 = xE (zyEl zymx B H) 74 36 := xFr_E hfr rfl
      have e74_37 : xE (zyEl zymx B H2) 74 37 = xE (zyEl zymx B H) 74 37 := xFr_E hfr rfl
      have e74_38 : xE (zyEl zymx B H2) 74 38 = xE (zyEl zymx B H) 74 38 := xFr_E hfr rfl
      have e74_39 : xE (zyEl zymx B H2) 74 39 = xE (zyEl zymx B H) 74 39 := xFr_E hfr rfl
      have e74_40 : xE (zyEl zymx B H2) 74 40 = xE (zyEl zymx B H) 74 40 := xFr_E hfr rfl
      have e74_41 : xE (zyEl zymx B H2) 74 41 = xE (zyEl zymx B H) 74 41 := xFr_E hfr rfl
      have e74_42 : xE (zyEl zymx B H2) 74 42 = xE (zyEl zymx B H) 74 42 := xFr_E hfr rfl
      have q74_42 : xE (zyEl zymx B H) 74 42 = xE (zyEl zymx B s.heap) 74 42 := xFr_E hFr0 rfl
      have e75_0 : xE (zyEl zymx B H2) 75 0 = xE (zyEl zymx B H) 75 0 := xFr_E hfr rfl
      have q75_0 : xE (zyEl zymx B H) 75 0 = xE (zyEl zymx B s.heap) 75 0 := xFr_E hFr0 rfl
      have e75_1 : xE (zyEl zymx B H2) 75 1 = xE (zyEl zymx B H) 75 1 := xFr_E hfr rfl
      have q75_1 : xE (zyEl zymx B H) 75 1 = xE (zyEl zymx B s.heap) 75 1 := xFr_E hFr0 rfl
      have e75_2 : xE (zyEl zymx B H2) 75 2 = xE (zyEl zymx B H) 75 2 := xFr_E hfr rfl
      have q75_2 : xE (zyEl zymx B H) 75 2 = xE (zyEl zymx B s.heap) 75 2 := xFr_E hFr0 rfl
      have e84 : ∀ i, xE (zyEl zymx B H2) 84 i = xE (zyEl zymx B H) 84 i := fun i => xFr_E hfr rfl
      have q84 : ∀ i, xE (zyEl zymx B H) 84 i = xE (zyEl zymx B s.heap) 84 i := fun i => xFr_E hFr0 rfl
      have e75 : ∀ i, xE (zyEl zymx B H2) 75 i = xE (zyEl zymx B H) 75 i := fun i => xFr_E hfr rfl
      have hI : (zyEl zymx B H) = (zyEl zymx B s.heap) := hInv
      have q74_36 : xE (zyEl zymx B H) 74 36 = xE (zyEl zymx B s.heap) 74 36 := by rw [hI]
      have q74_37 : xE (zyEl zymx B H) 74 37 = xE (zyEl zymx B s.heap) 74 37 := by rw [hI]
      have q74_38 : xE (zyEl zymx B H) 74 38 = xE (zyEl zymx B s.heap) 74 38 := by rw [hI]
      have q74_39 : xE (zyEl zymx B H) 74 39 = xE (zyEl zymx B s.heap) 74 39 := by rw [hI]
      have q74_40 : xE (zyEl zymx B H) 74 40 = xE (zyEl zymx B s.heap) 74 40 := by rw [hI]
      have q74_41 : xE (zyEl zymx B H) 74 41 = xE (zyEl zymx B s.heap) 74 41 := by rw [hI]
      have q75 : ∀ i, xE (zyEl zymx B H) 75 i = xE (zyEl zymx B s.heap) 75 i := fun i => by rw [hI]
      obtain ⟨hP1, hP2, hP3, hP4, hP5⟩ := (show xΦsk x0 (zyEl zymx B s.heap) from hΦ)
      have hc : ∀ k, xE (zyEl zymx B H) 75 k = xE (zyEl zymx B s.heap) 75 k := fun k => by rw [hI]
      refine xCa hRu hIH hAt hB hv hFr (hfrd B) (ix := 450) (ax := 5024) rfl rfl rfl hmefrd ⟨_, rfl, rfl, by decide⟩ ⟨rfl, rfl, rfl⟩ (by decide) [] [] [] rfl ⟨rfl, rfl⟩ (by decide +kernel) xcs_n (by decide +kernel) ?_ (fun H3 r hT3 hf3 hFr3 hr3 hΨ3 => ?_)
      · show xΦrd (xfv []) (zyEl zymx B H2)
        unfold xΦrd
        omega
      · have hΨ3 : xΨrd (xfv []) (zyEl zymx B H2) (zyEl zymx B H3) r := hΨ3
        have d74_36 : xE (zyEl zymx B H3) 74 36 = xE (zyEl zymx B H2) 74 36 := xFr_E hf3 rfl
        have d74_37 : xE (zyEl zymx B H3) 74 37 = xE (zyEl zymx B H2) 74 37 := xFr_E hf3 rfl
        have d74_42 : xE (zyEl zymx B H3) 74 42 = xE (zyEl zymx B H2) 74 42 := xFr_E hf3 rfl
        have d75_0 : xE (zyEl zymx B H3) 75 0 = xE (zyEl zymx B H2) 75 0 := xFr_E hf3 rfl
        have d75_1 : xE (zyEl zymx B H3) 75 1 = xE (zyEl zymx B H2) 75 1 := xFr_E hf3 rfl
        have d75_2 : xE (zyEl zymx B H3) 75 2 = xE (zyEl zymx B H2) 75 2 := xFr_E hf3 rfl
        have d84 : ∀ i, xE (zyEl zymx B H3) 84 i = xE (zyEl zymx B H2) 84 i := fun i => xFr_E hf3 rfl
        have d75 : ∀ i, xE (zyEl zymx B H3) 75 i = xE (zyEl zymx B H2) 75 i := fun i => xFr_E hf3 rfl
        have z75_0 : ((0 : Nat) : Int) ≤ xE (zyEl zymx B H3) 75 0 + 2147483648 ∧ xE (zyEl zymx B H3) 75 0 + 2147483648 ≤ ((4294967295 : Nat) : Int) := xTyF hT3 75 0 0 rfl rfl rfl rfl rfl rfl
        have z75_1 : ((0 : Nat) : Int) ≤ xE (zyEl zymx B H3) 75 1 + 2147483648 ∧ xE (zyEl zymx B H3) 75 1 + 2147483648 ≤ ((4294967295 : Nat) : Int) := xTyF hT3 75 1 0 rfl rfl rfl rfl rfl rfl
        unfold xΨrd at hΨ3
        rw [show xE (zyEl zymx B H2) 84 = xE (zyEl zymx B s.heap) 84 from funext fun i => (e84 i).trans (q84 i), show xE (zyEl zymx B H2) 74 42 = xE (zyEl zymx B s.heap) 74 42 by omega, show xE (zyEl zymx B H2) 74 39 = (xE (zyEl zymx B s.heap) 74 39) by omega] at hΨ3
        refine ⟨⟨2, by decide⟩, [0, 0, 0], [0, 0, 0, xE (zyEl zymx B H3) 75 0, xE (zyEl zymx B H3) 75 1], rfl, ⟨by decide +kernel, ⟨rfl, by decide +kernel⟩, (xcs_c rfl (xcs_c rfl (xcs_c rfl xcs_n))), (xe_0 (xe_0 (xe_0 (xe_c (by omega) (by omega) rfl (xe_c (by omega) (by omega) rfl xe_n))))), (xkq_c hT3 75 0 (q := 0) rfl rfl rfl rfl rfl rfl rfl rfl rfl rfl rfl (xkq_c hT3 75 1 (q := 0) rfl rfl rfl rfl rfl rfl rfl rfl rfl rfl rfl xkq_n))⟩, (by rw [if_neg (by decide)]; exact xst_n), ?_, ?_⟩
        · show xE (zyEl zymx B H3) 74 36 = 0 ∧ (∀ k, xE (zyEl zymx B H3) 75 k = xE (zyEl zymx B s.heap) 75 k) ∧ ((1 ≤ xE (zyEl zymx B s.heap) 75 0 ∧ xE (zyEl zymx B s.heap) 75 0 ≤ 4) ∧ (1 ≤ xE (zyEl zymx B s.heap) 75 1 ∧ xE (zyEl zymx B s.heap) 75 1 ≤ 5)) ∧ ((xE (zyEl zymx B s.heap) 74 39)) ≤ (xE (zyEl zymx B s.heap) 74 42) ∧ xRD (xE (zyEl zymx B s.heap) 84) (xE (zyEl zymx B s.heap) 74 42) ((xE (zyEl zymx B s.heap) 74 39)) (zyEl zymx B H3)
          exact ⟨by omega, fun k => (d75 k).trans ((e75 k).trans (hc k)), ⟨hP4, hP5⟩, hP3, hΨ3⟩
        · show 17 < 18
          omega
    · have hx : x ∈ [zxfsk_bx0] := hx
      have hag : ∀ k, k < 5 → v2 k = v k := hag
      have hfr : xFr [] _ _ := hfr
      have ex := List.mem_singleton.mp hx
      subst ex
      obtain ⟨hF, hBd, hM⟩ := hXs
      have g3 : v2 3 = v 3 := hag 3 (by decide)
      have g4 : v2 4 = v 4 := hag 4 (by decide)
      have b0 : ((2147483649 : Nat) : Int) ≤ (v2 3) + 2147483648 ∧ (v2 3) + 2147483648 ≤ ((2147483652 : Nat) : Int) := xXb hBd 0 rfl
      have b1 : ((2147483649 : Nat) : Int) ≤ (v2 4) + 2147483648 ∧ (v2 4) + 2147483648 ≤ ((2147483653 : Nat) : Int) := xXb hBd 1 rfl
      have b2 : ((2147483648 : Nat) : Int) ≤ (v2 5) + 2147483648 ∧ (v2 5) + 2147483648 ≤ ((2147483664 : Nat) : Int) := xXb hBd 2 rfl
      have b3 : ((2147483648 : Nat) : Int) ≤ (v2 6) + 2147483648 ∧ (v2 6) + 2147483648 ≤ ((2147483663 : Nat) : Int) := xXb hBd 3 rfl
      have b4 : ((2147483648 : Nat) : Int) ≤ (v2 7) + 2147483648 ∧ (v2 7) + 2147483648 ≤ ((2147483679 : Nat) : Int) := xXb hBd 4 rfl
      have b5 : ((2147483647 : Nat) : Int) ≤ (v2 7 + (-1)) + 2147483648 ∧ (v2 7 + (-1)) + 2147483648 ≤ ((2147483678 : Nat) : Int) := xXb hBd 5 rfl
      have k0 : xE (zyEl zymx B H) 75 0 = v 3 := xKcf hKc 0 rfl rfl
      have k1 : xE (zyEl zymx B H) 75 1 = v 4 := xKcf hKc 1 rfl rfl
      have f0 : -2147483648 ≤ (v2 3) * (v2 4 + (-1)) → (v2 3) * (v2 4 + (-1)) < 2147483648 → (v2 5) = (v2 3) * (v2 4 + (-1)) := xXf hF 0 rfl
      have f1 : -2147483648 ≤ (v2 3 + (-1)) * (v2 4) → (v2 3 + (-1)) * (v2 4) < 2147483648 → (v2 6) = (v2 3 + (-1)) * (v2 4) := xXf hF 1 rfl
      have f2 : -2147483648 ≤ (v2 5) + (v2 6) → (v2 5) + (v2 6) < 2147483648 → (v2 7) = (v2 5) + (v2 6) := xXf hF 2 rfl
      have f2 := f2 (by omega) (by omega)
      have e74_36 : xE (zyEl zymx B H2) 74 36 = xE (zyEl zymx B H) 74 36 := xFr_E hfr rfl
      have e74_37 : xE (zyEl zymx B H2) 74 37 = xE (zyEl zymx B H) 74 37 := xFr_E hfr rfl
      have e74_38 : xE (zyEl zymx B H2) 74 38 = xE (zyEl zymx B H) 74 38 := xFr_E hfr rfl
      have e74_39 : xE (zyEl zymx B H2) 74 39 = xE (zyEl zymx B H) 74 39 := xFr_E hfr rfl
      have e74_40 : xE (zyEl zymx B H2) 74 40 = xE (zyEl zymx B H) 74 40 := xFr_E hfr rfl
      have e74_41 : xE (zyEl zymx B H2) 74 41 = xE (zyEl zymx B H) 74 41 := xFr_E hfr rfl
      have e74_42 : xE (zyEl zymx B H2) 74 42 = xE (zyEl zymx B H) 74 42 := xFr_E hfr rfl
      have q74_42 : xE (zyEl zymx B H) 74 42 = xE (zyEl zymx B s.heap) 74 42 := xFr_E hFr0 rfl
      have e75_0 : xE (zyEl zymx B H2) 75 0 = xE (zyEl zymx B H) 75 0 := xFr_E hfr rfl
      have q75_0 : xE (zyEl zymx B H) 75 0 = xE (zyEl zymx B s.heap) 75 0 := xFr_E hFr0 rfl
      have e75_1 : xE (zyEl zymx B H2) 75 1 = xE (zyEl zymx B H) 75 1 := xFr_E hfr rfl
      have q75_1 : xE (zyEl zymx B H) 75 1 = xE (zyEl zymx B s.heap) 75 1 := xFr_E hFr0 rfl
      have e75_2 : xE (zyEl zymx B H2) 75 2 = xE (zyEl zymx B H) 75 2 := xFr_E hfr rfl
      have q75_2 : xE (zyEl zymx B H) 75 2 = xE (zyEl zymx B s.heap) 75 2 := xFr_E hFr0 rfl
      have e84 : ∀ i, xE (zyEl zymx B H2) 84 i = xE (zyEl zymx B H) 84 i := fun i => xFr_E hfr rfl
      have q84 : ∀ i, xE (zyEl zymx B H) 84 i = xE (zyEl zymx B s.heap) 84 i := fun i => xFr_E hFr0 rfl
      have e75 : ∀ i, xE (zyEl zymx B H2) 75 i = xE (zyEl zymx B H) 75 i := fun i => xFr_E hfr rfl
      have hI : xE (zyEl zymx B H) 74 36 = 0 ∧ (∀ k, xE (zyEl zymx B H) 75 k = xE (zyEl zymx B s.heap) 75 k) ∧ ((1 ≤ xE (zyEl zymx B s.heap) 75 0 ∧ xE (zyEl zymx B s.heap) 75 0 ≤ 4) ∧ (1 ≤ xE (zyEl zymx B s.heap) 75 1 ∧ xE (zyEl zymx B s.heap) 75 1 ≤ 5)) ∧ ((xE (zyEl zymx B s.heap) 74 39)) ≤ (xE (zyEl zymx B s.heap) 74 42) ∧ xRD (xE (zyEl zymx B s.heap) 84) (xE (zyEl zymx B s.heap) 74 42) ((xE (zyEl zymx B s.heap) 74 39)) (zyEl zymx B H) := hInv
      obtain ⟨i1, hc, ⟨hr, hcc⟩, hp, hs⟩ := hI
      have hEE : (zyEl zymx B H2) = (zyEl zymx B H) := xFr_n hfr
      have hs2 : xRD (xE (zyEl zymx B s.heap) 84) (xE (zyEl zymx B s.heap) 74 42) (xE (zyEl zymx B s.heap) 74 39) (zyEl zymx B H2) := by rw [hEE]; exact hs
      have h750 := hc 0
      have h751 := hc 1
      obtain ⟨w1, w2, w3, w4, w5, w6⟩ := gN_of (r := (v2 3)) (c := (v2 4)) (A := (v2 4 + (-1))) (B := (v2 3 + (-1))) (by omega) (by omega) (by omega) (by omega) f0 f1
      rw [show (v2 3) = xE (zyEl zymx B s.heap) 75 0 by omega, show (v2 4) = xE (zyEl zymx B s.heap) 75 1 by omega] at w1 w6
      have ehi : (v2 7 + (-1)) = gN (xE (zyEl zymx B s.heap) 75 0) (xE (zyEl zymx B s.heap) 75 1) - 1 := by omega
      obtain ⟨s1, s1b, s2, s3, s4, s5, s6, s7, s8⟩ := xRD_i hs2 hp
      refine xCa hRu hIH hAt hB hv hFr (hftm B) (ix := 456) (ax := 5120) rfl rfl rfl hmeftm ⟨_, rfl, rfl, by decide⟩ ⟨rfl, rfl, rfl⟩ (by decide) [0, 274877906937] [] [0, (v2 7 + (-1))] rfl ⟨rfl, rfl⟩ (by decide +kernel) (xcs_c rfl (xcs_c rfl xcs_n)) (by decide +kernel) ?_ (fun H3 r hT3 hf3 hFr3 hr3 hΨ3 => ?_)
      · show xΦtm (xfv [0, (v2 7 + (-1))]) (zyEl zymx B H2)
        intro q1 q2
        omega
      · have hΨ3 : xΨtm (xfv [0, (v2 7 + (-1))]) (zyEl zymx B H2) (zyEl zymx B H3) r := hΨ3
        have d74_42 : xE (zyEl zymx B H3) 74 42 = xE (zyEl zymx B H2) 74 42 := xFr_E hf3 rfl
        have d75_0 : xE (zyEl zymx B H3) 75 0 = xE (zyEl zymx B H2) 75 0 := xFr_E hf3 rfl
        have d75_1 : xE (zyEl zymx B H3) 75 1 = xE (zyEl zymx B H2) 75 1 := xFr_E hf3 rfl
        have d75_2 : xE (zyEl zymx B H3) 75 2 = xE (zyEl zymx B H2) 75 2 := xFr_E hf3 rfl
        have d84 : ∀ i, xE (zyEl zymx B H3) 84 i = xE (zyEl zymx B H2) 84 i := fun i => xFr_E hf3 rfl
        have d75 : ∀ i, xE (zyEl zymx B H3) 75 i = xE (zyEl zymx B H2) 75 i := fun i => xFr_E hf3 rfl
        have hg : (xE (zyEl zymx B H3) 74 36 = 0 ∧ xRD (xE (zyEl zymx B s.heap) 84) (xE (zyEl zymx B s.heap) 74 42) (tNx (xE (zyEl zymx B s.heap) 84) (xE (zyEl zymx B s.heap) 74 42) (xE (zyEl zymx B s.heap) 74 39)) (zyEl zymx B H3) ∧ tNx (xE (zyEl zymx B s.heap) 84) (xE (zyEl zymx B s.heap) 74 42) (xE (zyEl zymx B s.heap) 74 39) ≤ (xE (zyEl zymx B s.heap) 74 42) ∧ (xE (zyEl zymx B s.heap) 74 39) < tNx (xE (zyEl zymx B s.heap) 84) (xE (zyEl zymx B s.heap) 74 42) (xE (zyEl zymx B s.heap) 74 39) ∧ 0 ≤ r ∧ r ≤ (v2 7 + (-1)) ∧ ∀ k, pNum (xE (zyEl zymx B s.heap) 84) (xE (zyEl zymx B s.heap) 74 42) (xE (zyEl zymx B s.heap) 74 39) 0 (v2 7 + (-1)) k = k r (tNx (xE (zyEl zymx B s.heap) 84) (xE (zyEl zymx B s.heap) 74 42) (xE (zyEl zymx B s.heap) 74 39))) ∨ (∀ k, xEr (zyEl zymx B H3) (pNum (xE (zyEl zymx B s.heap) 84) (xE (zyEl zymx B s.heap) 74 42) (xE (zyEl zymx B s.heap) 74 39) 0 (v2 7 + (-1)) k)) := xTm_g (x := xfv [0, (v2 7 + (-1))]) hΨ3 (by omega) hs2 hp (fun i => (e84 i).trans (q84 i)) (by omega)
        rw [ehi] at hg
        refine ⟨⟨3, by decide⟩, [0, 0, 0], [0, 0, 0, r], rfl, ⟨by decide +kernel, ⟨rfl, by decide +kernel⟩, (xcs_c rfl (xcs_c rfl (xcs_c rfl xcs_n))), (xe_0 (xe_0 (xe_0 (xe_f (by omega) xe_n)))), xkq_n⟩, (by rw [if_pos rfl]; exact ⟨3, [], rfl, by decide, rfl, xst_n⟩), ?_, ?_⟩
        · show (∀ k, xE (zyEl zymx B H3) 75 k = xE (zyEl zymx B s.heap) 75 k) ∧ (xE (zyEl zymx B H3) 74 36 = 0 → (0 ≤ (r : Int) ∧ (r : Int) ≤ 30) ∧ ((tNx (xE (zyEl zymx B s.heap) 84) (xE (zyEl zymx B s.heap) 74 42) (xE (zyEl zymx B s.heap) 74 39)) ≤ (xE (zyEl zymx B s.heap) 74 42) ∧ xRD (xE (zyEl zymx B s.heap) 84) (xE (zyEl zymx B s.heap) 74 42) (tNx (xE (zyEl zymx B s.heap) 84) (xE (zyEl zymx B s.heap) 74 42) (xE (zyEl zymx B s.heap) 74 39)) (zyEl zymx B H3)) ∧ pStuck (xE (zyEl zymx B s.heap) 84) (xE (zyEl zymx B s.heap) 74 42) (xE (zyEl zymx B s.heap) 74 39) (xE (zyEl zymx B s.heap) 75) = (if tW (xE (zyEl zymx B s.heap) 84) (xE (zyEl zymx B s.heap) 74 42) (tNx (xE (zyEl zymx B s.heap) 84) (xE (zyEl zymx B s.heap) 74 42) (xE (zyEl zymx B s.heap) 74 39)) (wrd 4) = true then .ok (tNx (xE (zyEl zymx B s.heap) 84) (xE (zyEl zymx B s.heap) 74 42) (tNx (xE (zyEl zymx B s.heap) 84) (xE (zyEl zymx B s.heap) 74 42) (xE (zyEl zymx B s.heap) 74 39)), uS (xE (zyEl zymx B s.heap) 75) (72 + (r : Int)) 2) else if tW (xE (zyEl zymx B s.heap) 84) (xE (zyEl zymx B s.heap) 74 42) (tNx (xE (zyEl zymx B s.heap) 84) (xE (zyEl zymx B s.heap) 74 42) (xE (zyEl zymx B s.heap) 74 39)) (wrd 5) = true then .ok (tNx (xE (zyEl zymx B s.heap) 84) (xE (zyEl zymx B s.heap) 74 42) (tNx (xE (zyEl zymx B s.heap) 84) (xE (zyEl zymx B s.heap) 74 42) (xE (zyEl zymx B s.heap) 74 39)), uS (xE (zyEl zymx B s.heap) 75) (72 + (r : Int)) 1) else .error (pMis (xE (zyEl zymx B s.heap) 84) (xE (zyEl zymx B s.heap) 74 42) (tNx (xE (zyEl zymx B s.heap) 84) (xE (zyEl zymx B s.heap) 74 42) (xE (zyEl zymx B s.heap) 74 39)), tFr (xE (zyEl zymx B s.heap) 84) (xE (zyEl zymx B s.heap) 74 42) (tNx (xE (zyEl zymx B s.heap) 84) (xE (zyEl zymx B s.heap) 74 42) (xE (zyEl zymx B s.heap) 74 39)))) ∧ (True)) ∧ (¬ xE (zyEl zymx B H3) 74 36 = 0 → xEr (zyEl zymx B H3) (pStuck (xE (zyEl zymx B s.heap) 84) (xE (zyEl zymx B s.heap) 74 42) (xE (zyEl zymx B s.heap) 74 39) (xE (zyEl zymx B s.heap) 75)))
          refine ⟨fun k => (d75 k).trans ((e75 k).trans (hc k)), fun hz => ?_, fun hz => ?_⟩
          · rcases hg with ⟨h1, h2, h3, h4, h5, h6, h7⟩ | he
            · refine ⟨by omega, ⟨h3, h2⟩, ?_, trivial⟩
              unfold pStuck
              exact h7 _
            · exact (xEr_1 (he (fun _ _ => .error (0, 0))) hz).elim
          · rcases hg with ⟨h1, h2, h3, h4, h5, h6, h7⟩ | he
            · exact absurd h1 hz
            · unfold pStuck
              exact he _
        · show 16 < 17
          omega
    · have hx : x ∈ [zxfsk_cx0] := hx
      have hag : ∀ k, k < 4 → v2 k = v k := hag
      have hfr : xFr [] _ _ := hfr
      have ex := List.mem_singleton.mp hx
      subst ex
      obtain ⟨hF, hBd, hM⟩ := hXs
      have r3 := hr2 3
      have g3 : v2 3 = v 3 := hag 3 (by decide)
      have e74_36 : xE (zyEl zymx B H2) 74 36 = xE (zyEl zymx B H) 74 36 := xFr_E hfr rfl
      have e74_37 : xE (zyEl zymx B H2) 74 37 = xE (zyEl zymx B H) 74 37 := xFr_E hfr rfl
      have e74_38 : xE (zyEl zymx B H2) 74 38 = xE (zyEl zymx B H) 74 38 := xFr_E hfr rfl
      have e74_39 : xE (zyEl zymx B H2) 74 39 = xE (zyEl zymx B H) 74 39 := xFr_E hfr rfl
      have e74_40 : xE (zyEl zymx B H2) 74 40 = xE (zyEl zymx B H) 74 40 := xFr_E hfr rfl
      have e74_41 : xE (zyEl zymx B H2) 74 41 = xE (zyEl zymx B H) 74 41 := xFr_E hfr rfl
      have e74_42 : xE (zyEl zymx B H2) 74 42 = xE (zyEl zymx B H) 74 42 := xFr_E hfr rfl
      have q74_42 : xE (zyEl zymx B H) 74 42 = xE (zyEl zymx B s.heap) 74 42 := xFr_E hFr0 rfl
      have e75_0 : xE (zyEl zymx B H2) 75 0 = xE (zyEl zymx B H) 75 0 := xFr_E hfr rfl
      have q75_0 : xE (zyEl zymx B H) 75 0 = xE (zyEl zymx B s.heap) 75 0 := xFr_E hFr0 rfl
      have e75_1 : xE (zyEl zymx B H2) 75 1 = xE (zyEl zymx B H) 75 1 := xFr_E hfr rfl
      have q75_1 : xE (zyEl zymx B H) 75 1 = xE (zyEl zymx B s.heap) 75 1 := xFr_E hFr0 rfl
      have e75_2 : xE (zyEl zymx B H2) 75 2 = xE (zyEl zymx B H) 75 2 := xFr_E hfr rfl
      have q75_2 : xE (zyEl zymx B H) 75 2 = xE (zyEl zymx B s.heap) 75 2 := xFr_E hFr0 rfl
      have e84 : ∀ i, xE (zyEl zymx B H2) 84 i = xE (zyEl zymx B H) 84 i := fun i => xFr_E hfr rfl
      have q84 : ∀ i, xE (zyEl zymx B H) 84 i = xE (zyEl zymx B s.heap) 84 i := fun i => xFr_E hFr0 rfl
      have e75 : ∀ i, xE (zyEl zymx B H2) 75 i = xE (zyEl zymx B H) 75 i := fun i => xFr_E hfr rfl
      have hI : (∀ k, xE (zyEl zymx B H) 75 k = xE (zyEl zymx B s.heap) 75 k) ∧ (xE (zyEl zymx B H) 74 36 = 0 → (0 ≤ (v 3) ∧ (v 3) ≤ 30) ∧ ((tNx (xE (zyEl zymx B s.heap) 84) (xE (zyEl zymx B s.heap) 74 42) (xE (zyEl zymx B s.heap) 74 39)) ≤ (xE (zyEl zymx B s.heap) 74 42) ∧ xRD (xE (zyEl zymx B s.heap) 84) (xE (zyEl zymx B s.heap) 74 42) (tNx (xE (zyEl zymx B s.heap) 84) (xE (zyEl zymx B s.heap) 74 42) (xE (zyEl zymx B s.heap) 74 39)) (zyEl zymx B H)) ∧ pStuck (xE (zyEl zymx B s.heap) 84) (xE (zyEl zymx B s.heap) 74 42) (xE (zyEl zymx B s.heap) 74 39) (xE (zyEl zymx B s.heap) 75) = (if tW (xE (zyEl zymx B s.heap) 84) (xE (zyEl zymx B s.heap) 74 42) (tNx (xE (zyEl zymx B s.heap) 84) (xE (zyEl zymx B s.heap) 74 42) (xE (zyEl zymx B s.heap) 74 39)) (wrd 4) = true then .ok (tNx (xE (zyEl zymx B s.heap) 84) (xE (zyEl zymx B s.heap) 74 42) (tNx (xE (zyEl zymx B s.heap) 84) (xE (zyEl zymx B s.heap) 74 42) (xE (zyEl zymx B s.heap) 74 39)), uS (xE (zyEl zymx B s.heap) 75) (72 + (v 3)) 2) else if tW (xE (zyEl zymx B s.heap) 84) (xE (zyEl zymx B s.heap) 74 42) (tNx (xE (zyEl zymx B s.heap) 84) (xE (zyEl zymx B s.heap) 74 42) (xE (zyEl zymx B s.heap) 74 39)) (wrd 5) = true then .ok (tNx (xE (zyEl zymx B s.heap) 84) (xE (zyEl zymx B s.heap) 74 42) (tNx (xE (zyEl zymx B s.heap) 84) (xE (zyEl zymx B s.heap) 74 42) (xE (zyEl zymx B s.heap) 74 39)), uS (xE (zyEl zymx B s.heap) 75) (72 + (v 3)) 1) else .error (pMis (xE (zyEl zymx B s.heap) 84) (xE (zyEl zymx B s.heap) 74 42) (tNx (xE (zyEl zymx B s.heap) 84) (xE (zyEl zymx B s.heap) 74 42) (xE (zyEl zymx B s.heap) 74 39)), tFr (xE (zyEl zymx B s.heap) 84) (xE (zyEl zymx B s.heap) 74 42) (tNx (xE (zyEl zymx B s.heap) 84) (xE (zyEl zymx B s.heap) 74 42) (xE (zyEl zymx B s.heap) 74 39)))) ∧ (True)) ∧ (¬ xE (zyEl zymx B H) 74 36 = 0 → xEr (zyEl zymx B H) (pStuck (xE (zyEl zymx B s.heap) 84) (xE (zyEl zymx B s.heap) 74 42) (xE (zyEl zymx B s.heap) 74 39) (xE (zyEl zymx B s.heap) 75))) := hInv
      obtain ⟨hc, i1, i2⟩ := hI
      have hEE : (zyEl zymx B H2) = (zyEl zymx B H) := xFr_n hfr
      refine xCa hRu hIH hAt hB hv hFr (hfiw B) (ix := 459) (ax := 5056) rfl rfl rfl hmefiw ⟨_, rfl, rfl, by decide⟩ ⟨rfl, rfl, rfl⟩ (by decide) [32] [] [4] rfl ⟨rfl, rfl⟩ (by decide +kernel) (xcs_c rfl xcs_n) (by decide +kernel) ?_ (fun H3 r hT3 hf3 hFr3 hr3 hΨ3 => ?_)
      · show xΦiw (xfv [4]) (zyEl zymx B H2)
        exact ⟨by decide, xWs_k (show xWs (zyEl zymx B s.heap) from hΦ.1) hFr (fun _ => rfl)⟩
      · have hΨ3 : xΨiw (xfv [4]) (zyEl zymx B H2) (zyEl zymx B H3) r := hΨ3
        have d74_36 : xE (zyEl zymx B H3) 74 36 = xE (zyEl zymx B H2) 74 36 := xFr_E hf3 rfl
        have d74_37 : xE (zyEl zymx B H3) 74 37 = xE (zyEl zymx B H2) 74 37 := xFr_E hf3 rfl
        have d74_38 : xE (zyEl zymx B H3) 74 38 = xE (zyEl zymx B H2) 74 38 := xFr_E hf3 rfl
        have d74_39 : xE (zyEl zymx B H3) 74 39 = xE (zyEl zymx B H2) 74 39 := xFr_E hf3 rfl
        have d74_40 : xE (zyEl zymx B H3) 74 40 = xE (zyEl zymx B H2) 74 40 := xFr_E hf3 rfl
        have d74_41 : xE (zyEl zymx B H3) 74 41 = xE (zyEl zymx B H2) 74 41 := xFr_E hf3 rfl
        have d74_42 : xE (zyEl zymx B H3) 74 42 = xE (zyEl zymx B H2) 74 42 := xFr_E hf3 rfl
        have d75_0 : xE (zyEl zymx B H3) 75 0 = xE (zyEl zymx B H2) 75 0 := xFr_E hf3 rfl
        have d75_1 : xE (zyEl zymx B H3) 75 1 = xE (zyEl zymx B H2) 75 1 := xFr_E hf3 rfl
        have d75_2 : xE (zyEl zymx B H3) 75 2 = xE (zyEl zymx B H2) 75 2 := xFr_E hf3 rfl
        have d84 : ∀ i, xE (zyEl zymx B H3) 84 i = xE (zyEl zymx B H2) 84 i := fun i => xFr_E hf3 rfl
        have d75 : ∀ i, xE (zyEl zymx B H3) 75 i = xE (zyEl zymx B H2) 75 i := fun i => xFr_E hf3 rfl
        obtain ⟨hb, hb0, hb1⟩ := (show xΨiw (xfv [4]) (zyEl zymx B H2) (zyEl zymx B H3) r from hΨ3)
        rw [show xE (zyEl zymx B H2) 84 = xE (zyEl zymx B s.heap) 84 from funext fun i => (e84 i).trans (q84 i), show xE (zyEl zymx B H2) 74 42 = xE (zyEl zymx B s.heap) 74 42 by omega] at hb1
        have hb2 : ∀ p, xE (zyEl zymx B H2) 74 36 = 0 → p ≤ (xE (zyEl zymx B s.heap) 74 42) → xRD (xE (zyEl zymx B s.heap) 84) (xE (zyEl zymx B s.heap) 74 42) p (zyEl zymx B H2) → (r = 1 ↔ tW (xE (zyEl zymx B s.heap) 84) (xE (zyEl zymx B s.heap) 74 42) p (wrd 4) = true) := fun p hw hp hs => hb1 p hp hs hw
        have hE3 : (zyEl zymx B H3) = (zyEl zymx B H2) := xFr_n hf3
        refine ⟨⟨4, by decide⟩, [0, 103079215105, 0], [0, (v2 3), 0, r], rfl, ⟨by decide +kernel, ⟨rfl, by decide +kernel⟩, (xcs_c rfl (xcs_c rfl (xcs_c rfl xcs_n))), (xe_0 (xe_f (by omega) (xe_0 (xe_c (by omega) (by omega) rfl xe_n)))), xkq_n⟩, (by rw [if_pos rfl]; exact ⟨3, [], rfl, by decide, rfl, xst_n⟩), ?_, ?_⟩
        · show (∀ k, xE (zyEl zymx B H3) 75 k = xE (zyEl zymx B s.heap) 75 k) ∧ (xE (zyEl zymx B H3) 74 36 = 0 → (0 ≤ ((v2 3) : Int) ∧ ((v2 3) : Int) ≤ 30) ∧ ((tNx (xE (zyEl zymx B s.heap) 84) (xE (zyEl zymx B s.heap) 74 42) (xE (zyEl zymx B s.heap) 74 39)) ≤ (xE (zyEl zymx B s.heap) 74 42) ∧ xRD (xE (zyEl zymx B s.heap) 84) (xE (zyEl zymx B s.heap) 74 42) (tNx (xE (zyEl zymx B s.heap) 84) (xE (zyEl zymx B s.heap) 74 42) (xE (zyEl zymx B s.heap) 74 39)) (zyEl zymx B H3)) ∧ pStuck (xE (zyEl zymx B s.heap) 84) (xE (zyEl zymx B s.heap) 74 42) (xE (zyEl zymx B s.heap) 74 39) (xE (zyEl zymx B s.heap) 75) = (if tW (xE (zyEl zymx B s.heap) 84) (xE (zyEl zymx B s.heap) 74 42) (tNx (xE (zyEl zymx B s.heap) 84) (xE (zyEl zymx B s.heap) 74 42) (xE (zyEl zymx B s.heap) 74 39)) (wrd 4) = true then .ok (tNx (xE (zyEl zymx B s.heap) 84) (xE (zyEl zymx B s.heap) 74 42) (tNx (xE (zyEl zymx B s.heap) 84) (xE (zyEl zymx B s.heap) 74 42) (xE (zyEl zymx B s.heap) 74 39)), uS (xE (zyEl zymx B s.heap) 75) (72 + ((v2 3) : Int)) 2) else if tW (xE (zyEl zymx B s.heap) 84) (xE (zyEl zymx B s.heap) 74 42) (tNx (xE (zyEl zymx B s.heap) 84) (xE (zyEl zymx B s.heap) 74 42) (xE (zyEl zymx B s.heap) 74 39)) (wrd 5) = true then .ok (tNx (xE (zyEl zymx B s.heap) 84) (xE (zyEl zymx B s.heap) 74 42) (tNx (xE (zyEl zymx B s.heap) 84) (xE (zyEl zymx B s.heap) 74 42) (xE (zyEl zymx B s.heap) 74 39)), uS (xE (zyEl zymx B s.heap) 75) (72 + ((v2 3) : Int)) 1) else .error (pMis (xE (zyEl zymx B s.heap) 84) (xE (zyEl zymx B s.heap) 74 42) (tNx (xE (zyEl zymx B s.heap) 84) (xE (zyEl zymx B s.heap) 74 42) (xE (zyEl zymx B s.heap) 74 39)), tFr (xE (zyEl zymx B s.heap) 84) (xE (zyEl zymx B s.heap) 74 42) (tNx (xE (zyEl zymx B s.heap) 84) (xE (zyEl zymx B s.heap) 74 42) (xE (zyEl zymx B s.heap) 74 39)))) ∧ ((r : Int) = 1 ↔ tW (xE (zyEl zymx B s.heap) 84) (xE (zyEl zymx B s.heap) 74 42) (tNx (xE (zyEl zymx B s.heap) 84) (xE (zyEl zymx B s.heap) 74 42) (xE (zyEl zymx B s.heap) 74 39)) (wrd 4) = true)) ∧ (¬ xE (zyEl zymx B H3) 74 36 = 0 → xEr (zyEl zymx B H3) (pStuck (xE (zyEl zymx B s.heap) 84) (xE (zyEl zymx B s.heap) 74 42) (xE (zyEl zymx B s.heap) 74 39) (xE (zyEl zymx B s.heap) 75)))
          refine ⟨fun k => (d75 k).trans ((e75 k).trans (hc k)), fun hz => ?_, fun hz => xEr_k (i2 (by omega)) (by omega) (by omega)⟩
          obtain ⟨j1, ⟨j2, j3⟩, j4, -⟩ := i1 (by omega)
          rw [hE3, hEE]
          rw [show v 3 = v2 3 by omega] at j1 j4
          exact ⟨j1, ⟨j2, j3⟩, j4, hb2 _ (by omega) j2 (by rw [hEE]; exact j3)⟩
        · show 15 < 16
          omega
    · have hx : x ∈ [zxfsk_dx0, zxfsk_dx1] := hx
      have hag : ∀ k, k < 4 → v2 k = v k := hag
      have hfr : xFr [] _ _ := hfr
      rcases List.mem_cons.mp hx with ex | hx
      · subst ex
        obtain ⟨hF, hBd, hM⟩ := hXs
        have r1 := hr2 1
        have g1 : v2 1 = v 1 := hag 1 (by decide)
        have g3 : v2 3 = v 3 := hag 3 (by decide)
        have b0 : ((2147483649 : Nat) : Int) ≤ (v2 3) + 2147483648 ∧ (v2 3) + 2147483648 ≤ ((2147483649 : Nat) : Int) := xXb hBd 0 rfl
        have f0 : ¬ (v2 3) = 0 := xXf hF 0 rfl
        have e74_36 : xE (zyEl zymx B H2) 74 36 = xE (zyEl zymx B H) 74 36 := xFr_E hfr rfl
        have e74_37 : xE (zyEl zymx B H2) 74 37 = xE (zyEl zymx B H) 74 37 := xFr_E hfr rfl
        have e74_38 : xE (zyEl zymx B H2) 74 38 = xE (zyEl zymx B H) 74 38 := xFr_E hfr rfl
        have e74_39 : xE (zyEl zymx B H2) 74 39 = xE (zyEl zymx B H) 74 39 := xFr_E hfr rfl
        have e74_40 : xE (zyEl zymx B H2) 74 40 = xE (zyEl zymx B H) 74 40 := xFr_E hfr rfl
        have e74_41 : xE (zyEl zymx B H2) 74 41 = xE (zyEl zymx B H) 74 41 := xFr_E hfr rfl
        have e74_42 : xE (zyEl zymx B H2) 74 42 = xE (zyEl zymx B H) 74 42 := xFr_E hfr rfl
        have q74_42 : xE (zyEl zymx B H) 74 42 = xE (zyEl zymx B s.heap) 74 42 := xFr_E hFr0 rfl
        have e75_0 : xE (zyEl zymx B H2) 75 0 = xE (zyEl zymx B H) 75 0 := xFr_E hfr rfl
        have q75_0 : xE (zyEl zymx B H) 75 0 = xE (zyEl zymx B s.heap) 75 0 := xFr_E hFr0 rfl
        have e75_1 : xE (zyEl zymx B H2) 75 1 = xE (zyEl zymx B H) 75 1 := xFr_E hfr rfl
        have q75_1 : xE (zyEl zymx B H) 75 1 = xE (zyEl zymx B s.heap) 75 1 := xFr_E hFr0 rfl
        have e75_2 : xE (zyEl zymx B H2) 75 2 = xE (zyEl zymx B H) 75 2 := xFr_E hfr rfl
        have q75_2 : xE (zyEl zymx B H) 75 2 = xE (zyEl zymx B s.heap) 75 2 := xFr_E hFr0 rfl
        have e84 : ∀ i, xE (zyEl zymx B H2) 84 i = xE (zyEl zymx B H) 84 i := fun i => xFr_E hfr rfl
        have q84 : ∀ i, xE (zyEl zymx B H) 84 i = xE (zyEl zymx B s.heap) 84 i := fun i => xFr_E hFr0 rfl
        have e75 : ∀ i, xE (zyEl zymx B H2) 75 i = xE (zyEl zymx B H) 75 i := fun i => xFr_E hfr rfl
        have hI : (∀ k, xE (zyEl zymx B H) 75 k = xE (zyEl zymx B s.heap) 75 k) ∧ (xE (zyEl zymx B H) 74 36 = 0 → (0 ≤ (v 1) ∧ (v 1) ≤ 30) ∧ ((tNx (xE (zyEl zymx B s.heap) 84) (xE (zyEl zymx B s.heap) 74 42) (xE (zyEl zymx B s.heap) 74 39)) ≤ (xE (zyEl zymx B s.heap) 74 42) ∧ xRD (xE (zyEl zymx B s.heap) 84) (xE (zyEl zymx B s.heap) 74 42) (tNx (xE (zyEl zymx B s.heap) 84) (xE (zyEl zymx B s.heap) 74 42) (xE (zyEl zymx B s.heap) 74 39)) (zyEl zymx B H)) ∧ pStuck (xE (zyEl zymx B s.heap) 84) (xE (zyEl zymx B s.heap) 74 42) (xE (zyEl zymx B s.heap) 74 39) (xE (zyEl zymx B s.heap) 75) = (if tW (xE (zyEl zymx B s.heap) 84) (xE (zyEl zymx B s.heap) 74 42) (tNx (xE (zyEl zymx B s.heap) 84) (xE (zyEl zymx B s.heap) 74 42) (xE (zyEl zymx B s.heap) 74 39)) (wrd 4) = true then .ok (tNx (xE (zyEl zymx B s.heap) 84) (xE (zyEl zymx B s.heap) 74 42) (tNx (xE (zyEl zymx B s.heap) 84) (xE (zyEl zymx B s.heap) 74 42) (xE (zyEl zymx B s.heap) 74 39)), uS (xE (zyEl zymx B s.heap) 75) (72 + (v 1)) 2) else if tW (xE (zyEl zymx B s.heap) 84) (xE (zyEl zymx B s.heap) 74 42) (tNx (xE (zyEl zymx B s.heap) 84) (xE (zyEl zymx B s.heap) 74 42) (xE (zyEl zymx B s.heap) 74 39)) (wrd 5) = true then .ok (tNx (xE (zyEl zymx B s.heap) 84) (xE (zyEl zymx B s.heap) 74 42) (tNx (xE (zyEl zymx B s.heap) 84) (xE (zyEl zymx B s.heap) 74 42) (xE (zyEl zymx B s.heap) 74 39)), uS (xE (zyEl zymx B s.heap) 75) (72 + (v 1)) 1) else .error (pMis (xE (zyEl zymx B s.heap) 84) (xE (zyEl zymx B s.heap) 74 42) (tNx (xE (zyEl zymx B s.heap) 84) (xE (zyEl zymx B s.heap) 74 42) (xE (zyEl zymx B s.heap) 74 39)), tFr (xE (zyEl zymx B s.heap) 84) (xE (zyEl zymx B s.heap) 74 42) (tNx (xE (zyEl zymx B s.heap) 84) (xE (zyEl zymx B s.heap) 74 42) (xE (zyEl zymx B s.heap) 74 39)))) ∧ ((v 3) = 1 ↔ tW (xE (zyEl zymx B s.heap) 84) (xE (zyEl zymx B s.heap) 74 42) (tNx (xE (zyEl zymx B s.heap) 84) (xE (zyEl zymx B s.heap) 74 42) (xE (zyEl zymx B s.heap) 74 39)) (wrd 4) = true)) ∧ (¬ xE (zyEl zymx B H) 74 36 = 0 → xEr (zyEl zymx B H) (pStuck (xE (zyEl zymx B s.heap) 84) (xE (zyEl zymx B s.heap) 74 42) (xE (zyEl zymx B s.heap) 74 39) (xE (zyEl zymx B s.heap) 75))) := hInv
        obtain ⟨hc, i1, i2⟩ := hI
        have hEE : (zyEl zymx B H2) = (zyEl zymx B H) := xFr_n hfr
        refine xCa hRu hIH hAt hB hv hFr (hfiw B) (ix := 459) (ax := 5056) rfl rfl rfl hmefiw ⟨_, rfl, rfl, by decide⟩ ⟨rfl, rfl, rfl⟩ (by decide) [32] [595] [4] rfl ⟨rfl, rfl⟩ (by decide +kernel) (xcs_c rfl xcs_n) (by decide +kernel) ?_ (fun H3 r hT3 hf3 hFr3 hr3 hΨ3 => ?_)
        · show xΦiw (xfv [4]) (zyEl zymx B H2)
          exact ⟨by decide, xWs_k (show xWs (zyEl zymx B s.heap) from hΦ.1) hFr (fun _ => rfl)⟩
        · have hΨ3 : xΨiw (xfv [4]) (zyEl zymx B H2) (zyEl zymx B H3) r := hΨ3
          have d74_36 : xE (zyEl zymx B H3) 74 36 = xE (zyEl zymx B H2) 74 36 := xFr_E hf3 rfl
          have d74_37 : xE (zyEl zymx B H3) 74 37 = xE (zyEl zymx B H2) 74 37 := xFr_E hf3 rfl
          have d74_38 : xE (zyEl zymx B H3) 74 38 = xE (zyEl zymx B H2) 74 38 := xFr_E hf3 rfl
          have d74_39 : xE (zyEl zymx B H3) 74 39 = xE (zyEl zymx B H2) 74 39 := xFr_E hf3 rfl
          have d74_40 : xE (zyEl zymx B H3) 74 40 = xE (zyEl zymx B H2) 74 40 := xFr_E hf3 rfl
          have d74_41 : xE (zyEl zymx B H3) 74 41 = xE (zyEl zymx B H2) 74 41 := xFr_E hf3 rfl
          have d74_42 : xE (zyEl zymx B H3) 74 42 = xE (zyEl zymx B H2) 74 42 := xFr_E hf3 rfl
          have d75_0 : xE (zyEl zymx B H3) 75 0 = xE (zyEl zymx B H2) 75 0 := xFr_E hf3 rfl
          have d75_1 : xE (zyEl zymx B H3) 75 1 = xE (zyEl zymx B H2) 75 1 := xFr_E hf3 rfl
          have d75_2 : xE (zyEl zymx B H3) 75 2 = xE (zyEl zymx B H2) 75 2 := xFr_E hf3 rfl
          have d84 : ∀ i, xE (zyEl zymx B H3) 84 i = xE (zyEl zymx B H2) 84 i := fun i => xFr_E hf3 rfl
          have d75 : ∀ i, xE (zyEl zymx B H3) 75 i = xE (zyEl zymx B H2) 75 i := fun i => xFr_E hf3 rfl
          obtain ⟨hb, hb0, hb1⟩ := (show xΨiw (xfv [4]) (zyEl zymx B H2) (zyEl zymx B H3) r from hΨ3)
          rw [show xE (zyEl zymx B H2) 84 = xE (zyEl zymx B s.heap) 84 from funext fun i => (e84 i).trans (q84 i), show xE (zyEl zymx B H2) 74 42 = xE (zyEl zymx B s.heap) 74 42 by omega] at hb1
          have hb2 : ∀ p, xE (zyEl zymx B H2) 74 36 = 0 → p ≤ (xE (zyEl zymx B s.heap) 74 42) → xRD (xE (zyEl zymx B s.heap) 84) (xE (zyEl zymx B s.heap) 74 42) p (zyEl zymx B H2) → (r = 1 ↔ tW (xE (zyEl zymx B s.heap) 84) (xE (zyEl zymx B s.heap) 74 42) p (wrd 4) = true) := fun p hw hp hs => hb1 p hp hs hw
          have hE3 : (zyEl zymx B H3) = (zyEl zymx B H2) := xFr_n hf3
          refine ⟨⟨5, by decide⟩, [0, 34359738369, 16], [0, (v2 1), 2, r], rfl, ⟨by decide +kernel, ⟨rfl, by decide +kernel⟩, (xcs_c rfl (xcs_c rfl (xcs_c rfl xcs_n))), (xe_0 (xe_f (by omega) (xe_c (by omega) (by omega) rfl (xe_c (by omega) (by omega) rfl xe_n)))), xkq_n⟩, (by rw [if_pos rfl]; exact ⟨3, [595], rfl, by decide, rfl, (xst_r rfl xst_n)⟩), ?_, ?_⟩
          · show (∀ k, xE (zyEl zymx B H3) 75 k = xE (zyEl zymx B s.heap) 75 k) ∧ (xE (zyEl zymx B H3) 74 36 = 0 → (0 ≤ ((v2 1) : Int) ∧ ((v2 1) : Int) ≤ 30) ∧ ((tNx (xE (zyEl zymx B s.heap) 84) (xE (zyEl zymx B s.heap) 74 42) (xE (zyEl zymx B s.heap) 74 39)) ≤ (xE (zyEl zymx B s.heap) 74 42) ∧ xRD (xE (zyEl zymx B s.heap) 84) (xE (zyEl zymx B s.heap) 74 42) (tNx (xE (zyEl zymx B s.heap) 84) (xE (zyEl zymx B s.heap) 74 42) (xE (zyEl zymx B s.heap) 74 39)) (zyEl zymx B H3)) ∧ pStuck (xE (zyEl zymx B s.heap) 84) (xE (zyEl zymx B s.heap) 74 42) (xE (zyEl zymx B s.heap) 74 39) (xE (zyEl zymx B s.heap) 75) = (if tW (xE (zyEl zymx B s.heap) 84) (xE (zyEl zymx B s.heap) 74 42) (tNx (xE (zyEl zymx B s.heap) 84) (xE (zyEl zymx B s.heap) 74 42) (xE (zyEl zymx B s.heap) 74 39)) (wrd 4) = true then .ok (tNx (xE (zyEl zymx B s.heap) 84) (xE (zyEl zymx B s.heap) 74 42) (tNx (xE (zyEl zymx B s.heap) 84) (xE (zyEl zymx B s.heap) 74 42) (xE (zyEl zymx B s.heap) 74 39)), uS (xE (zyEl zymx B s.heap) 75) (72 + ((v2 1) : Int)) 2) else if tW (xE (zyEl zymx B s.heap) 84) (xE (zyEl zymx B s.heap) 74 42) (tNx (xE (zyEl zymx B s.heap) 84) (xE (zyEl zymx B s.heap) 74 42) (xE (zyEl zymx B s.heap) 74 39)) (wrd 5) = true then .ok (tNx (xE (zyEl zymx B s.heap) 84) (xE (zyEl zymx B s.heap) 74 42) (tNx (xE (zyEl zymx B s.heap) 84) (xE (zyEl zymx B s.heap) 74 42) (xE (zyEl zymx B s.heap) 74 39)), uS (xE (zyEl zymx B s.heap) 75) (72 + ((v2 1) : Int)) 1) else .error (pMis (xE (zyEl zymx B s.heap) 84) (xE (zyEl zymx B s.heap) 74 42) (tNx (xE (zyEl zymx B s.heap) 84) (xE (zyEl zymx B s.heap) 74 42) (xE (zyEl zymx B s.heap) 74 39)), tFr (xE (zyEl zymx B s.heap) 84) (xE (zyEl zymx B s.heap) 74 42) (tNx (xE (zyEl zymx B s.heap) 84) (xE (zyEl zymx B s.heap) 74 42) (xE (zyEl zymx B s.heap) 74 39)))) ∧ (((r : Int) = 1 ↔ tW (xE (zyEl zymx B s.heap) 84) (xE (zyEl zymx B s.heap) 74 42) (tNx (xE (zyEl zymx B s.heap) 84) (xE (zyEl zymx B s.heap) 74 42) (xE (zyEl zymx B s.heap) 74 39)) (wrd 4) = true) ∧ ((2 : Int) = 2 ↔ tW (xE (zyEl zymx B s.heap) 84) (xE (zyEl zymx B s.heap) 74 42) (tNx (xE (zyEl zymx B s.heap) 84) (xE (zyEl zymx B s.heap) 74 42) (xE (zyEl zymx B s.heap) 74 39)) (wrd 4) = true))) ∧ (¬ xE (zyEl zymx B H3) 74 36 = 0 → xEr (zyEl zymx B H3) (pStuck (xE (zyEl zymx B s.heap) 84) (xE (zyEl zymx B s.heap) 74 42) (xE (zyEl zymx B s.heap) 74 39) (xE (zyEl zymx B s.heap) 75)))
            refine ⟨fun k => (d75 k).trans ((e75 k).trans (hc k)), fun hz => ?_, fun hz => xEr_k (i2 (by omega)) (by omega) (by omega)⟩
            obtain ⟨j1, ⟨j2, j3⟩, j4, j5⟩ := i1 (by omega)
            rw [hE3, hEE]
            rw [show v 1 = v2 1 by omega] at j1 j4
            refine ⟨j1, ⟨j2, j3⟩, j4, hb2 _ (by omega) j2 (by rw [hEE]; exact j3), ?_⟩
            rw [← j5]
            omega
          · show 14 < 15
            omega
      · skip
        have ex := List.mem_singleton.mp hx
        subst ex
        obtain ⟨hF, hBd, hM⟩ := hXs
        have r1 := hr2 1
        have g1 : v2 1 = v 1 := hag 1 (by decide)
        have g3 : v2 3 = v 3 := hag 3 (by decide)
        have b0 : ((2147483648 : Nat) : Int) ≤ (v2 3) + 2147483648 ∧ (v2 3) + 2147483648 ≤ ((2147483648 : Nat) : Int) := xXb hBd 0 rfl
        have f0 : (v2 3) = 0 := xXf hF 0 rfl
        have e74_36 : xE (zyEl zymx B H2) 74 36 = xE (zyEl zymx B H) 74 36 := xFr_E hfr rfl
        have e74_37 : xE (zyEl zymx B H2) 74 37 = xE (zyEl zymx B H) 74 37 := xFr_E hfr rfl
        have e74_38 : xE (zyEl zymx B H2) 74 38 = xE (zyEl zymx B H) 74 38 := xFr_E hfr rfl
        have e74_39 : xE (zyEl zymx B H2) 74 39 = xE (zyEl zymx B H) 74 39 := xFr_E hfr rfl
        have e74_40 : xE (zyEl zymx B H2) 74 40 = xE (zyEl zymx B H) 74 40 := xFr_E hfr rfl
        have e74_41 : xE (zyEl zymx B H2) 74 41 = xE (zyEl zymx B H) 74 41 := xFr_E hfr rfl
        have e74_42 : xE (zyEl zymx B H2) 74 42 = xE (zyEl zymx B H) 74 42 := xFr_E hfr rfl
        have q74_42 : xE (zyEl zymx B H) 74 42 = xE (zyEl zymx B s.heap) 74 42 := xFr_E hFr0 rfl
        have e75_0 : xE (zyEl zymx B H2) 75 0 = xE (zyEl zymx B H) 75 0 := xFr_E hfr rfl
        have q75_0 : xE (zyEl zymx B H) 75 0 = xE (zyEl zymx B s.heap) 75 0 := xFr_E hFr0 rfl
        have e75_1 : xE (zyEl zymx B H2) 75 1 = xE (zyEl zymx B H) 75 1 := xFr_E hfr rfl
        have q75_1 : xE (zyEl zymx B H) 75 1 = xE (zyEl zymx B s.heap) 75 1 := xFr_E hFr0 rfl
        have e75_2 : xE (zyEl zymx B H2) 75 2 = xE (zyEl zymx B H) 75 2 := xFr_E hfr rfl
        have q75_2 : xE (zyEl zymx B H) 75 2 = xE (zyEl zymx B s.heap) 75 2 := xFr_E hFr0 rfl
        have e84 : ∀ i, xE (zyEl zymx B H2) 84 i = xE (zyEl zymx B H) 84 i := fun i => xFr_E hfr rfl
        have q84 : ∀ i, xE (zyEl zymx B H) 84 i = xE (zyEl zymx B s.heap) 84 i := fun i => xFr_E hFr0 rfl
        have e75 : ∀ i, xE (zyEl zymx B H2) 75 i = xE (zyEl zymx B H) 75 i := fun i => xFr_E hfr rfl
        have hI : (∀ k, xE (zyEl zymx B H) 75 k = xE (zyEl zymx B s.heap) 75 k) ∧ (xE (zyEl zymx B H) 74 36 = 0 → (0 ≤ (v 1) ∧ (v 1) ≤ 30) ∧ ((tNx (xE (zyEl zymx B s.heap) 84) (xE (zyEl zymx B s.heap) 74 42) (xE (zyEl zymx B s.heap) 74 39)) ≤ (xE (zyEl zymx B s.heap) 74 42) ∧ xRD (xE (zyEl zymx B s.heap) 84) (xE (zyEl zymx B s.heap) 74 42) (tNx (xE (zyEl zymx B s.heap) 84) (xE (zyEl zymx B s.heap) 74 42) (xE (zyEl zymx B s.heap) 74 39)) (zyEl zymx B H)) ∧ pStuck (xE (zyEl zymx B s.heap) 84) (xE (zyEl zymx B s.heap) 74 42) (xE (zyEl zymx B s.heap) 74 39) (xE (zyEl zymx B s.heap) 75) = (if tW (xE (zyEl zymx B s.heap) 84) (xE (zyEl zymx B s.heap) 74 42) (tNx (xE (zyEl zymx B s.heap) 84) (xE (zyEl zymx B s.heap) 74 42) (xE (zyEl zymx B s.heap) 74 39)) (wrd 4) = true then .ok (tNx (xE (zyEl zymx B s.heap) 84) (xE (zyEl zymx B s.heap) 74 42) (tNx (xE (zyEl zymx B s.heap) 84) (xE (zyEl zymx B s.heap) 74 42) (xE (zyEl zymx B s.heap) 74 39)), uS (xE (zyEl zymx B s.heap) 75) (72 + (v 1)) 2) else if tW (xE (zyEl zymx B s.heap) 84) (xE (zyEl zymx B s.heap) 74 42) (tNx (xE (zyEl zymx B s.heap) 84) (xE (zyEl zymx B s.heap) 74 42) (xE (zyEl zymx B s.heap) 74 39)) (wrd 5) = true then .ok (tNx (xE (zyEl zymx B s.heap) 84) (xE (zyEl zymx B s.heap) 74 42) (tNx (xE (zyEl zymx B s.heap) 84) (xE (zyEl zymx B s.heap) 74 42) (xE (zyEl zymx B s.heap) 74 39)), uS (xE (zyEl zymx B s.heap) 75) (72 + (v 1)) 1) else .error (pMis (xE (zyEl zymx B s.heap) 84) (xE (zyEl zymx B s.heap) 74 42) (tNx (xE (zyEl zymx B s.heap) 84) (xE (zyEl zymx B s.heap) 74 42) (xE (zyEl zymx B s.heap) 74 39)), tFr (xE (zyEl zymx B s.heap) 84) (xE (zyEl zymx B s.heap) 74 42) (tNx (xE (zyEl zymx B s.heap) 84) (xE (zyEl zymx B s.heap) 74 42) (xE (zyEl zymx B s.heap) 74 39)))) ∧ ((v 3) = 1 ↔ tW (xE (zyEl zymx B s.heap) 84) (xE (zyEl zymx B s.heap) 74 42) (tNx (xE (zyEl zymx B s.heap) 84) (xE (zyEl zymx B s.heap) 74 42) (xE (zyEl zymx B s.heap) 74 39)) (wrd 4) = true)) ∧ (¬ xE (zyEl zymx B H) 74 36 = 0 → xEr (zyEl zymx B H) (pStuck (xE (zyEl zymx B s.heap) 84) (xE (zyEl zymx B s.heap) 74 42) (xE (zyEl zymx B s.heap) 74 39) (xE (zyEl zymx B s.heap) 75))) := hInv
        obtain ⟨hc, i1, i2⟩ := hI
        have hEE : (zyEl zymx B H2) = (zyEl zymx B H) := xFr_n hfr
        refine xCa hRu hIH hAt hB hv hFr (hfiw B) (ix := 459) (ax := 5056) rfl rfl rfl hmefiw ⟨_, rfl, rfl, by decide⟩ ⟨rfl, rfl, rfl⟩ (by decide) [32] [595] [4] rfl ⟨rfl, rfl⟩ (by decide +kernel) (xcs_c rfl xcs_n) (by decide +kernel) ?_ (fun H3 r hT3 hf3 hFr3 hr3 hΨ3 => ?_)
        · show xΦiw (xfv [4]) (zyEl zymx B H2)
          exact ⟨by decide, xWs_k (show xWs (zyEl zymx B s.heap) from hΦ.1) hFr (fun _ => rfl)⟩
        · have hΨ3 : xΨiw (xfv [4]) (zyEl zymx B H2) (zyEl zymx B H3) r := hΨ3
          have d74_36 : xE (zyEl zymx B H3) 74 36 = xE (zyEl zymx B H2) 74 36 := xFr_E hf3 rfl
          have d74_37 : xE (zyEl zymx B H3) 74 37 = xE (zyEl zymx B H2) 74 37 := xFr_E hf3 rfl
          have d74_38 : xE (zyEl zymx B H3) 74 38 = xE (zyEl zymx B H2) 74 38 := xFr_E hf3 rfl
          have d74_39 : xE (zyEl zymx B H3) 74 39 = xE (zyEl zymx B H2) 74 39 := xFr_E hf3 rfl
          have d74_40 : xE (zyEl zymx B H3) 74 40 = xE (zyEl zymx B H2) 74 40 := xFr_E hf3 rfl
          have d74_41 : xE (zyEl zymx B H3) 74 41 = xE (zyEl zymx B H2) 74 41 := xFr_E hf3 rfl
          have d74_42 : xE (zyEl zymx B H3) 74 42 = xE (zyEl zymx B H2) 74 42 := xFr_E hf3 rfl
          have d75_0 : xE (zyEl zymx B H3) 75 0 = xE (zyEl zymx B H2) 75 0 := xFr_E hf3 rfl
          have d75_1 : xE (zyEl zymx B H3) 75 1 = xE (zyEl zymx B H2) 75 1 := xFr_E hf3 rfl
          have d75_2 : xE (zyEl zymx B H3) 75 2 = xE (zyEl zymx B H2) 75 2 := xFr_E hf3 rfl
          have d84 : ∀ i, xE (zyEl zymx B H3) 84 i = xE (zyEl zymx B H2) 84 i := fun i => xFr_E hf3 rfl
          have d75 : ∀ i, xE (zyEl zymx B H3) 75 i = xE (zyEl zymx B H2) 75 i := fun i => xFr_E hf3 rfl
          obtain ⟨hb, hb0, hb1⟩ := (show xΨiw (xfv [4]) (zyEl zymx B H2) (zyEl zymx B H3) r from hΨ3)
          rw [show xE (zyEl zymx B H2) 84 = xE (zyEl zymx B s.heap) 84 from funext fun i => (e84 i).trans (q84 i), show xE (zyEl zymx B H2) 74 42 = xE (zyEl zymx B s.heap) 74 42 by omega] at hb1
          have hb2 : ∀ p, xE (zyEl zymx B H2) 74 36 = 0 → p ≤ (xE (zyEl zymx B s.heap) 74 42) → xRD (xE (zyEl zymx B s.heap) 84) (xE (zyEl zymx B s.heap) 74 42) p (zyEl zymx B H2) → (r = 1 ↔ tW (xE (zyEl zymx B s.heap) 84) (xE (zyEl zymx B s.heap) 74 42) p (wrd 4) = true) := fun p hw hp hs => hb1 p hp hs hw
          have hE3 : (zyEl zymx B H3) = (zyEl zymx B H2) := xFr_n hf3
          refine ⟨⟨5, by decide⟩, [0, 34359738369, 8], [0, (v2 1), 1, r], rfl, ⟨by decide +kernel, ⟨rfl, by decide +kernel⟩, (xcs_c rfl (xcs_c rfl (xcs_c rfl xcs_n))), (xe_0 (xe_f (by omega) (xe_c (by omega) (by omega) rfl (xe_c (by omega) (by omega) rfl xe_n)))), xkq_n⟩, (by rw [if_pos rfl]; exact ⟨3, [595], rfl, by decide, rfl, (xst_r rfl xst_n)⟩), ?_, ?_⟩
          · show (∀ k, xE (zyEl zymx B H3) 75 k = xE (zyEl zymx B s.heap) 75 k) ∧ (xE (zyEl zymx B H3) 74 36 = 0 → (0 ≤ ((v2 1) : Int) ∧ ((v2 1) : Int) ≤ 30) ∧ ((tNx (xE (zyEl zymx B s.heap) 84) (xE (zyEl zymx B s.heap) 74 42) (xE (zyEl zymx B s.heap) 74 39)) ≤ (xE (zyEl zymx B s.heap) 74 42) ∧ xRD (xE (zyEl zymx B s.heap) 84) (xE (zyEl zymx B s.heap) 74 42) (tNx (xE (zyEl zymx B s.heap) 84) (xE (zyEl zymx B s.heap) 74 42) (xE (zyEl zymx B s.heap) 74 39)) (zyEl zymx B H3)) ∧ pStuck (xE (zyEl zymx B s.heap) 84) (xE (zyEl zymx B s.heap) 74 42) (xE (zyEl zymx B s.heap) 74 39) (xE (zyEl zymx B s.heap) 75) = (if tW (xE (zyEl zymx B s.heap) 84) (xE (zyEl zymx B s.heap) 74 42) (tNx (xE (zyEl zymx B s.heap) 84) (xE (zyEl zymx B s.heap) 74 42) (xE (zyEl zymx B s.heap) 74 39)) (wrd 4) = true then .ok (tNx (xE (zyEl zymx B s.heap) 84) (xE (zyEl zymx B s.heap) 74 42) (tNx (xE (zyEl zymx B s.heap) 84) (xE (zyEl zymx B s.heap) 74 42) (xE (zyEl zymx B s.heap) 74 39)), uS (xE (zyEl zymx B s.heap) 75) (72 + ((v2 1) : Int)) 2) else if tW (xE (zyEl zymx B s.heap) 84) (xE (zyEl zymx B s.heap) 74 42) (tNx (xE (zyEl zymx B s.heap) 84) (xE (zyEl zymx B s.heap) 74 42) (xE (zyEl zymx B s.heap) 74 39)) (wrd 5) = true then .ok (tNx (xE (zyEl zymx B s.heap) 84) (xE (zyEl zymx B s.heap) 74 42) (tNx (xE (zyEl zymx B s.heap) 84) (xE (zyEl zymx B s.heap) 74 42) (xE (zyEl zymx B s.heap) 74 39)), uS (xE (zyEl zymx B s.heap) 75) (72 + ((v2 1) : Int)) 1) else .error (pMis (xE (zyEl zymx B s.heap) 84) (xE (zyEl zymx B s.heap) 74 42) (tNx (xE (zyEl zymx B s.heap) 84) (xE (zyEl zymx B s.heap) 74 42) (xE (zyEl zymx B s.heap) 74 39)), tFr (xE (zyEl zymx B s.heap) 84) (xE (zyEl zymx B s.heap) 74 42) (tNx (xE (zyEl zymx B s.heap) 84) (xE (zyEl zymx B s.heap) 74 42) (xE (zyEl zymx B s.heap) 74 39)))) ∧ (((r : Int) = 1 ↔ tW (xE (zyEl zymx B s.heap) 84) (xE (zyEl zymx B s.heap) 74 42) (tNx (xE (zyEl zymx B s.heap) 84) (xE (zyEl zymx B s.heap) 74 42) (xE (zyEl zymx B s.heap) 74 39)) (wrd 4) = true) ∧ ((1 : Int) = 2 ↔ tW (xE (zyEl zymx B s.heap) 84) (xE (zyEl zymx B s.heap) 74 42) (tNx (xE (zyEl zymx B s.heap) 84) (xE (zyEl zymx B s.heap) 74 42) (xE (zyEl zymx B s.heap) 74 39)) (wrd 4) = true))) ∧ (¬ xE (zyEl zymx B H3) 74 36 = 0 → xEr (zyEl zymx B H3) (pStuck (xE (zyEl zymx B s.heap) 84) (xE (zyEl zymx B s.heap) 74 42) (xE (zyEl zymx B s.heap) 74 39) (xE (zyEl zymx B s.heap) 75)))
            refine ⟨fun k => (d75 k).trans ((e75 k).trans (hc k)), fun hz => ?_, fun hz => xEr_k (i2 (by omega)) (by omega) (by omega)⟩
            obtain ⟨j1, ⟨j2, j3⟩, j4, j5⟩ := i1 (by omega)
            rw [hE3, hEE]
            rw [show v 1 = v2 1 by omega] at j1 j4
            refine ⟨j1, ⟨j2, j3⟩, j4, hb2 _ (by omega) j2 (by rw [hEE]; exact j3), ?_⟩
            rw [← j5]
            omega
          · show 14 < 15
            omega
    · have hx : x ∈ [zxfsk_ex0, zxfsk_ex1] := hx
      have hag : ∀ k, k < 4 → v2 k = v k := hag
      have hfr : xFr [] _ _ := hfr
      rcases List.mem_cons.mp hx with ex | hx
      · subst ex
        obtain ⟨hF, hBd, hM⟩ := hXs
        have r1 := hr2 1
        have g1 : v2 1 = v 1 := hag 1 (by decide)
        have g2 : v2 2 = v 2 := hag 2 (by decide)
        have g3 : v2 3 = v 3 := hag 3 (by decide)
        have b0 : ((2147483649 : Nat) : Int) ≤ (v2 2) + 2147483648 ∧ (v2 2) + 2147483648 ≤ ((2147483650 : Nat) : Int) := xXb hBd 0 rfl
        have b1 : ((2147483649 : Nat) : Int) ≤ (v2 3) + 2147483648 ∧ (v2 3) + 2147483648 ≤ ((2147483649 : Nat) : Int) := xXb hBd 1 rfl
        have f0 : ¬ (v2 3) = 0 := xXf hF 0 rfl
        have e74_36 : xE (zyEl zymx B H2) 74 36 = xE (zyEl zymx B H) 74 36 := xFr_E hfr rfl
        have e74_37 : xE (zyEl zymx B H2) 74 37 = xE (zyEl zymx B H) 74 37 := xFr_E hfr rfl
        have e74_38 : xE (zyEl zymx B H2) 74 38 = xE (zyEl zymx B H) 74 38 := xFr_E hfr rfl
        have e74_39 : xE (zyEl zymx B H2) 74 39 = xE (zyEl zymx B H) 74 39 := xFr_E hfr rfl
        have e74_40 : xE (zyEl zymx B H2) 74 40 = xE (zyEl zymx B H) 74 40 := xFr_E hfr rfl
        have e74_41 : xE (zyEl zymx B H2) 74 41 = xE (zyEl zymx B H) 74 41 := xFr_E hfr rfl
        have e74_42 : xE (zyEl zymx B H2) 74 42 = xE (zyEl zymx B H) 74 42 := xFr_E hfr rfl
        have q74_42 : xE (zyEl zymx B H) 74 42 = xE (zyEl zymx B s.heap) 74 42 := xFr_E hFr0 rfl
        have e75_0 : xE (zyEl zymx B H2) 75 0 = xE (zyEl zymx B H) 75 0 := xFr_E hfr rfl
        have q75_0 : xE (zyEl zymx B H) 75 0 = xE (zyEl zymx B s.heap) 75 0 := xFr_E hFr0 rfl
        have e75_1 : xE (zyEl zymx B H2) 75 1 = xE (zyEl zymx B H) 75 1 := xFr_E hfr rfl
        have q75_1 : xE (zyEl zymx B H) 75 1 = xE (zyEl zymx B s.heap) 75 1 := xFr_E hFr0 rfl
        have e75_2 : xE (zyEl zymx B H2) 75 2 = xE (zyEl zymx B H) 75 2 := xFr_E hfr rfl
        have q75_2 : xE (zyEl zymx B H) 75 2 = xE (zyEl zymx B s.heap) 75 2 := xFr_E hFr0 rfl
        have e84 : ∀ i, xE (zyEl zymx B H2) 84 i = xE (zyEl zymx B H) 84 i := fun i => xFr_E hfr rfl
        have q84 : ∀ i, xE (zyEl zymx B H) 84 i = xE (zyEl zymx B s.heap) 84 i := fun i => xFr_E hFr0 rfl
        have e75 : ∀ i, xE (zyEl zymx B H2) 75 i = xE (zyEl zymx B H) 75 i := fun i => xFr_E hfr rfl
        have hI : (∀ k, xE (zyEl zymx B H) 75 k = xE (zyEl zymx B s.heap) 75 k) ∧ (xE (zyEl zymx B H) 74 36 = 0 → (0 ≤ (v 1) ∧ (v 1) ≤ 30) ∧ ((tNx (xE (zyEl zymx B s.heap) 84) (xE (zyEl zymx B s.heap) 74 42) (xE (zyEl zymx B s.heap) 74 39)) ≤ (xE (zyEl zymx B s.heap) 74 42) ∧ xRD (xE (zyEl zymx B s.heap) 84) (xE (zyEl zymx B s.heap) 74 42) (tNx (xE (zyEl zymx B s.heap) 84) (xE (zyEl zymx B s.heap) 74 42) (xE (zyEl zymx B s.heap) 74 39)) (zyEl zymx B H)) ∧ pStuck (xE (zyEl zymx B s.heap) 84) (xE (zyEl zymx B s.heap) 74 42) (xE (zyEl zymx B s.heap) 74 39) (xE (zyEl zymx B s.heap) 75) = (if tW (xE (zyEl zymx B s.heap) 84) (xE (zyEl zymx B s.heap) 74 42) (tNx (xE (zyEl zymx B s.heap) 84) (xE (zyEl zymx B s.heap) 74 42) (xE (zyEl zymx B s.heap) 74 39)) (wrd 4) = true then .ok (tNx (xE (zyEl zymx B s.heap) 84) (xE (zyEl zymx B s.heap) 74 42) (tNx (xE (zyEl zymx B s.heap) 84) (xE (zyEl zymx B s.heap) 74 42) (xE (zyEl zymx B s.heap) 74 39)), uS (xE (zyEl zymx B s.heap) 75) (72 + (v 1)) 2) else if tW (xE (zyEl zymx B s.heap) 84) (xE (zyEl zymx B s.heap) 74 42) (tNx (xE (zyEl zymx B s.heap) 84) (xE (zyEl zymx B s.heap) 74 42) (xE (zyEl zymx B s.heap) 74 39)) (wrd 5) = true then .ok (tNx (xE (zyEl zymx B s.heap) 84) (xE (zyEl zymx B s.heap) 74 42) (tNx (xE (zyEl zymx B s.heap) 84) (xE (zyEl zymx B s.heap) 74 42) (xE (zyEl zymx B s.heap) 74 39)), uS (xE (zyEl zymx B s.heap) 75) (72 + (v 1)) 1) else .error (pMis (xE (zyEl zymx B s.heap) 84) (xE (zyEl zymx B s.heap) 74 42) (tNx (xE (zyEl zymx B s.heap) 84) (xE (zyEl zymx B s.heap) 74 42) (xE (zyEl zymx B s.heap) 74 39)), tFr (xE (zyEl zymx B s.heap) 84) (xE (zyEl zymx B s.heap) 74 42) (tNx (xE (zyEl zymx B s.heap) 84) (xE (zyEl zymx B s.heap) 74 42) (xE (zyEl zymx B s.heap) 74 39)))) ∧ (((v 3) = 1 ↔ tW (xE (zyEl zymx B s.heap) 84) (xE (zyEl zymx B s.heap) 74 42) (tNx (xE (zyEl zymx B s.heap) 84) (xE (zyEl zymx B s.heap) 74 42) (xE (zyEl zymx B s.heap) 74 39)) (wrd 4) = true) ∧ ((v 2) = 2 ↔ tW (xE (zyEl zymx B s.heap) 84) (xE (zyEl zymx B s.heap) 74 42) (tNx (xE (zyEl zymx B s.heap) 84) (xE (zyEl zymx B s.heap) 74 42) (xE (zyEl zymx B s.heap) 74 39)) (wrd 4) = true))) ∧ (¬ xE (zyEl zymx B H) 74 36 = 0 → xEr (zyEl zymx B H) (pStuck (xE (zyEl zymx B s.heap) 84) (xE (zyEl zymx B s.heap) 74 42) (xE (zyEl zymx B s.heap) 74 39) (xE (zyEl zymx B s.heap) 75))) := hInv
        obtain ⟨hc, i1, i2⟩ := hI
        have hEE : (zyEl zymx B H2) = (zyEl zymx B H) := xFr_n hfr
        refine xGo hIH hAt hB hv hFr ⟨7, by decide⟩ [0, 34359738369, 68719476737] [0, (v2 1), (v2 2), 1] rfl ⟨by decide +kernel, ⟨rfl, by decide +kernel⟩, (xcs_c rfl (xcs_c rfl (xcs_c rfl xcs_n))), (xe_0 (xe_f (by omega) (xe_c (by omega) (by omega) rfl (xe_c (by omega) (by omega) rfl xe_n)))), xkq_n⟩ (xst_s 3 rfl rfl rfl (by decide +kernel) rfl (xst_r rfl xst_n)) ?_ ?_
        · show (∀ k, xE (zyEl zymx B H2) 75 k = xE (zyEl zymx B s.heap) 75 k) ∧ (xE (zyEl zymx B H2) 74 36 = 0 → (0 ≤ ((v2 1) : Int) ∧ ((v2 1) : Int) ≤ 30) ∧ ((tNx (xE (zyEl zymx B s.heap) 84) (xE (zyEl zymx B s.heap) 74 42) (xE (zyEl zymx B s.heap) 74 39)) ≤ (xE (zyEl zymx B s.heap) 74 42) ∧ xRD (xE (zyEl zymx B s.heap) 84) (xE (zyEl zymx B s.heap) 74 42) (tNx (xE (zyEl zymx B s.heap) 84) (xE (zyEl zymx B s.heap) 74 42) (xE (zyEl zymx B s.heap) 74 39)) (zyEl zymx B H2)) ∧ pStuck (xE (zyEl zymx B s.heap) 84) (xE (zyEl zymx B s.heap) 74 42) (xE (zyEl zymx B s.heap) 74 39) (xE (zyEl zymx B s.heap) 75) = (if tW (xE (zyEl zymx B s.heap) 84) (xE (zyEl zymx B s.heap) 74 42) (tNx (xE (zyEl zymx B s.heap) 84) (xE (zyEl zymx B s.heap) 74 42) (xE (zyEl zymx B s.heap) 74 39)) (wrd 4) = true then .ok (tNx (xE (zyEl zymx B s.heap) 84) (xE (zyEl zymx B s.heap) 74 42) (tNx (xE (zyEl zymx B s.heap) 84) (xE (zyEl zymx B s.heap) 74 42) (xE (zyEl zymx B s.heap) 74 39)), uS (xE (zyEl zymx B s.heap) 75) (72 + ((v2 1) : Int)) 2) else if tW (xE (zyEl zymx B s.heap) 84) (xE (zyEl zymx B s.heap) 74 42) (tNx (xE (zyEl zymx B s.heap) 84) (xE (zyEl zymx B s.heap) 74 42) (xE (zyEl zymx B s.heap) 74 39)) (wrd 5) = true then .ok (tNx (xE (zyEl zymx B s.heap) 84) (xE (zyEl zymx B s.heap) 74 42) (tNx (xE (zyEl zymx B s.heap) 84) (xE (zyEl zymx B s.heap) 74 42) (xE (zyEl zymx B s.heap) 74 39)), uS (xE (zyEl zymx B s.heap) 75) (72 + ((v2 1) : Int)) 1) else .error (pMis (xE (zyEl zymx B s.heap) 84) (xE (zyEl zymx B s.heap) 74 42) (tNx (xE (zyEl zymx B s.heap) 84) (xE (zyEl zymx B s.heap) 74 42) (xE (zyEl zymx B s.heap) 74 39)), tFr (xE (zyEl zymx B s.heap) 84) (xE (zyEl zymx B s.heap) 74 42) (tNx (xE (zyEl zymx B s.heap) 84) (xE (zyEl zymx B s.heap) 74 42) (xE (zyEl zymx B s.heap) 74 39)))) ∧ (((1 : Int) = 1 ↔ (tW (xE (zyEl zymx B s.heap) 84) (xE (zyEl zymx B s.heap) 74 42) (tNx (xE (zyEl zymx B s.heap) 84) (xE (zyEl zymx B s.heap) 74 42) (xE (zyEl zymx B s.heap) 74 39)) (wrd 4) = true ∨ tW (xE (zyEl zymx B s.heap) 84) (xE (zyEl zymx B s.heap) 74 42) (tNx (xE (zyEl zymx B s.heap) 84) (xE (zyEl zymx B s.heap) 74 42) (xE (zyEl zymx B s.heap) 74 39)) (wrd 5) = true)) ∧ (((v2 2) : Int) = 2 ↔ tW (xE (zyEl zymx B s.heap) 84) (xE (zyEl zymx B s.heap) 74 42) (tNx (xE (zyEl zymx B s.heap) 84) (xE (zyEl zymx B s.heap) 74 42) (xE (zyEl zymx B s.heap) 74 39)) (wrd 4) = true))) ∧ (¬ xE (zyEl zymx B H2) 74 36 = 0 → xEr (zyEl zymx B H2) (pStuck (xE (zyEl zymx B s.heap) 84) (xE (zyEl zymx B s.heap) 74 42) (xE (zyEl zymx B s.heap) 74 39) (xE (zyEl zymx B s.heap) 75)))
          refine ⟨fun k => (e75 k).trans (hc k), fun hz => ?_, fun hz => xEr_k (i2 (by omega)) (by omega) (by omega)⟩
          obtain ⟨j1, ⟨j2, j3⟩, j4, j5, j6⟩ := i1 (by omega)
          rw [hEE]
          rw [show v 1 = v2 1 by omega] at j1 j4
          rw [show v 2 = v2 2 by omega] at j6
          refine ⟨j1, ⟨j2, j3⟩, j4, ⟨fun _ => Or.inl (j5.mp (by omega)), fun _ => rfl⟩, j6⟩
        · show 12 < 14
          omega
      · skip
        have ex := List.mem_singleton.mp hx
        subst ex
        obtain ⟨hF, hBd, hM⟩ := hXs
        have r1 := hr2 1
        have g1 : v2 1 = v 1 := hag 1 (by decide)
        have g2 : v2 2 = v 2 := hag 2 (by decide)
        have g3 : v2 3 = v 3 := hag 3 (by decide)
        have b0 : ((2147483649 : Nat) : Int) ≤ (v2 2) + 2147483648 ∧ (v2 2) + 2147483648 ≤ ((2147483650 : Nat) : Int) := xXb hBd 0 rfl
        have b1 : ((2147483648 : Nat) : Int) ≤ (v2 3) + 2147483648 ∧ (v2 3) + 2147483648 ≤ ((2147483648 : Nat) : Int) := xXb hBd 1 rfl
        have f0 : (v2 3) = 0 := xXf hF 0 rfl
        have e74_36 : xE (zyEl zymx B H2) 74 36 = xE (zyEl zymx B H) 74 36 := xFr_E hfr rfl
        have e74_37 : xE (zyEl zymx B H2) 74 37 = xE (zyEl zymx B H) 74 37 := xFr_E hfr rfl
        have e74_38 : xE (zyEl zymx B H2) 74 38 = xE (zyEl zymx B H) 74 38 := xFr_E hfr rfl
        have e74_39 : xE (zyEl zymx B H2) 74 39 = xE (zyEl zymx B H) 74 39 := xFr_E hfr rfl
        have e74_40 : xE (zyEl zymx B H2) 74 40 = xE (zyEl zymx B H) 74 40 := xFr_E hfr rfl
        have e74_41 : xE (zyEl zymx B H2) 74 41 = xE (zyEl zymx B H) 74 41 := xFr_E hfr rfl
        have e74_42 : xE (zyEl zymx B H2) 74 42 = xE (zyEl zymx B H) 74 42 := xFr_E hfr rfl
        have q74_42 : xE (zyEl zymx B H) 74 42 = xE (zyEl zymx B s.heap) 74 42 := xFr_E hFr0 rfl
        have e75_0 : xE (zyEl zymx B H2) 75 0 = xE (zyEl zymx B H) 75 0 := xFr_E hfr rfl
        have q75_0 : xE (zyEl zymx B H) 75 0 = xE (zyEl zymx B s.heap) 75 0 := xFr_E hFr0 rfl
        have e75_1 : xE (zyEl zymx B H2) 75 1 = xE (zyEl zymx B H) 75 1 := xFr_E hfr rfl
        have q75_1 : xE (zyEl zymx B H) 75 1 = xE (zyEl zymx B s.heap) 75 1 := xFr_E hFr0 rfl
        have e75_2 : xE (zyEl zymx B H2) 75 2 = xE (zyEl zymx B H) 75 2 := xFr_E hfr rfl
        have q75_2 : xE (zyEl zymx B H) 75 2 = xE (zyEl zymx B s.heap) 75 2 := xFr_E hFr0 rfl
        have e84 : ∀ i, xE (zyEl zymx B H2) 84 i = xE (zyEl zymx B H) 84 i := fun i => xFr_E hfr rfl
        have q84 : ∀ i, xE (zyEl zymx B H) 84 i = xE (zyEl zymx B s.heap) 84 i := fun i => xFr_E hFr0 rfl
        have e75 : ∀ i, xE (zyEl zymx B H2) 75 i = xE (zyEl zymx B H) 75 i := fun i => xFr_E hfr rfl
        have hI : (∀ k, xE (zyEl zymx B H) 75 k = xE (zyEl zymx B s.heap) 75 k) ∧ (xE (zyEl zymx B H) 74 36 = 0 → (0 ≤ (v 1) ∧ (v 1) ≤ 30) ∧ ((tNx (xE (zyEl zymx B s.heap) 84) (xE (zyEl zymx B s.heap) 74 42) (xE (zyEl zymx B s.heap) 74 39)) ≤ (xE (zyEl zymx B s.heap) 74 42) ∧ xRD (xE (zyEl zymx B s.heap) 84) (xE (zyEl zymx B s.heap) 74 42) (tNx (xE (zyEl zymx B s.heap) 84) (xE (zyEl zymx B s.heap) 74 42) (xE (zyEl zymx B s.heap) 74 39)) (zyEl zymx B H)) ∧ pStuck (xE (zyEl zymx B s.heap) 84) (xE (zyEl zymx B s.heap) 74 42) (xE (zyEl zymx B s.heap) 74 39) (xE (zyEl zymx B s.heap) 75) = (if tW (xE (zyEl zymx B s.heap) 84) (xE (zyEl zymx B s.heap) 74 42) (tNx (xE (zyEl zymx B s.heap) 84) (xE (zyEl zymx B s.heap) 74 42) (xE (zyEl zymx B s.heap) 74 39)) (wrd 4) = true then .ok (tNx (xE (zyEl zymx B s.heap) 84) (xE (zyEl zymx B s.heap) 74 42) (tNx (xE (zyEl zymx B s.heap) 84) (xE (zyEl zymx B s.heap) 74 42) (xE (zyEl zymx B s.heap) 74 39)), uS (xE (zyEl zymx B s.heap) 75) (72 + (v 1)) 2) else if tW (xE (zyEl zymx B s.heap) 84) (xE (zyEl zymx B s.heap) 74 42) (tNx (xE (zyEl zymx B s.heap) 84) (xE (zyEl zymx B s.heap) 74 42) (xE (zyEl zymx B s.heap) 74 39)) (wrd 5) = true then .ok (tNx (xE (zyEl zymx B s.heap) 84) (xE (zyEl zymx B s.heap) 74 42) (tNx (xE (zyEl zymx B s.heap) 84) (xE (zyEl zymx B s.heap) 74 42) (xE (zyEl zymx B s.heap) 74 39)), uS (xE (zyEl zymx B s.heap) 75) (72 + (v 1)) 1) else .error (pMis (xE (zyEl zymx B s.heap) 84) (xE (zyEl zymx B s.heap) 74 42) (tNx (xE (zyEl zymx B s.heap) 84) (xE (zyEl zymx B s.heap) 74 42) (xE (zyEl zymx B s.heap) 74 39)), tFr (xE (zyEl zymx B s.heap) 84) (xE (zyEl zymx B s.heap) 74 42) (tNx (xE (zyEl zymx B s.heap) 84) (xE (zyEl zymx B s.heap) 74 42) (xE (zyEl zymx B s.heap) 74 39)))) ∧ (((v 3) = 1 ↔ tW (xE (zyEl zymx B s.heap) 84) (xE (zyEl zymx B s.heap) 74 42) (tNx (xE (zyEl zymx B s.heap) 84) (xE (zyEl zymx B s.heap) 74 42) (xE (zyEl zymx B s.heap) 74 39)) (wrd 4) = true) ∧ ((v 2) = 2 ↔ tW (xE (zyEl zymx B s.heap) 84) (xE (zyEl zymx B s.heap) 74 42) (tNx (xE (zyEl zymx B s.heap) 84) (xE (zyEl zymx B s.heap) 74 42) (xE (zyEl zymx B s.heap) 74 39)) (wrd 4) = true))) ∧ (¬ xE (zyEl zymx B H) 74 36 = 0 → xEr (zyEl zymx B H) (pStuck (xE (zyEl zymx B s.heap) 84) (xE (zyEl zymx B s.heap) 74 42) (xE (zyEl zymx B s.heap) 74 39) (xE (zyEl zymx B s.heap) 75))) := hInv
        obtain ⟨hc, i1, i2⟩ := hI
        have hEE : (zyEl zymx B H2) = (zyEl zymx B H) := xFr_n hfr
        refine xCa hRu hIH hAt hB hv hFr (hfiw B) (ix := 459) (ax := 5056) rfl rfl rfl hmefiw ⟨_, rfl, rfl, by decide⟩ ⟨rfl, rfl, rfl⟩ (by decide) [40] [595] [5] rfl ⟨rfl, rfl⟩ (by decide +kernel) (xcs_c rfl xcs_n) (by decide +kernel) ?_ (fun H3 r hT3 hf3 hFr3 hr3 hΨ3 => ?_)
        · show xΦiw (xfv [5]) (zyEl zymx B H2)
          exact ⟨by decide, xWs_k (show xWs (zyEl zymx B s.heap) from hΦ.1) hFr (fun _ => rfl)⟩
        · have hΨ3 : xΨiw (xfv [5]) (zyEl zymx B H2) (zyEl zymx B H3) r := hΨ3
          have d74_36 : xE (zyEl zymx B H3) 74 36 = xE (zyEl zymx B H2) 74 36 := xFr_E hf3 rfl
          have d74_37 : xE (zyEl zymx B H3) 74 37 = xE (zyEl zymx B H2) 74 37 := xFr_E hf3 rfl
          have d74_38 : xE (zyEl zymx B H3) 74 38 = xE (zyEl zymx B H2) 74 38 := xFr_E hf3 rfl
          have d74_39 : xE (zyEl zymx B H3) 74 39 = xE (zyEl zymx B H2) 74 39 := xFr_E hf3 rfl
          have d74_40 : xE (zyEl zymx B H3) 74 40 = xE (zyEl zymx B H2) 74 40 := xFr_E hf3 rfl
          have d74_41 : xE (zyEl zymx B H3) 74 41 = xE (zyEl zymx B H2) 74 41 := xFr_E hf3 rfl
          have d74_42 : xE (zyEl zymx B H3) 74 42 = xE (zyEl zymx B H2) 74 42 := xFr_E hf3 rfl
          have d75_0 : xE (zyEl zymx B H3) 75 0 = xE (zyEl zymx B H2) 75 0 := xFr_E hf3 rfl
          have d75_1 : xE (zyEl zymx B H3) 75 1 = xE (zyEl zymx B H2) 75 1 := xFr_E hf3 rfl
          have d75_2 : xE (zyEl zymx B H3) 75 2 = xE (zyEl zymx B H2) 75 2 := xFr_E hf3 rfl
          have d84 : ∀ i, xE (zyEl zymx B H3) 84 i = xE (zyEl zymx B H2) 84 i := fun i => xFr_E hf3 rfl
          have d75 : ∀ i, xE (zyEl zymx B H3) 75 i = xE (zyEl zymx B H2) 75 i := fun i => xFr_E hf3 rfl
          obtain ⟨hb, hb0, hb1⟩ := (show xΨiw (xfv [5]) (zyEl zymx B H2) (zyEl zymx B H3) r from hΨ3)
          rw [show xE (zyEl zymx B H2) 84 = xE (zyEl zymx B s.heap) 84 from funext fun i => (e84 i).trans (q84 i), show xE (zyEl zymx B H2) 74 42 = xE (zyEl zymx B s.heap) 74 42 by omega] at hb1
          have hb2 : ∀ p, xE (zyEl zymx B H2) 74 36 = 0 → p ≤ (xE (zyEl zymx B s.heap) 74 42) → xRD (xE (zyEl zymx B s.heap) 84) (xE (zyEl zymx B s.heap) 74 42) p (zyEl zymx B H2) → (r = 1 ↔ tW (xE (zyEl zymx B s.heap) 84) (xE (zyEl zymx B s.heap) 74 42) p (wrd 5) = true) := fun p hw hp hs => hb1 p hp hs hw
          have hE3 : (zyEl zymx B H3) = (zyEl zymx B H2) := xFr_n hf3
          refine ⟨⟨6, by decide⟩, [0, 34359738369, 68719476737], [0, (v2 1), (v2 2), r], rfl, ⟨by decide +kernel, ⟨rfl, by decide +kernel⟩, (xcs_c rfl (xcs_c rfl (xcs_c rfl xcs_n))), (xe_0 (xe_f (by omega) (xe_c (by omega) (by omega) rfl (xe_c (by omega) (by omega) rfl xe_n)))), xkq_n⟩, (by rw [if_pos rfl]; exact ⟨3, [595], rfl, by decide, rfl, (xst_r rfl xst_n)⟩), ?_, ?_⟩
          · show (∀ k, xE (zyEl zymx B H3) 75 k = xE (zyEl zymx B s.heap) 75 k) ∧ (xE (zyEl zymx B H3) 74 36 = 0 → (0 ≤ ((v2 1) : Int) ∧ ((v2 1) : Int) ≤ 30) ∧ ((tNx (xE (zyEl zymx B s.heap) 84) (xE (zyEl zymx B s.heap) 74 42) (xE (zyEl zymx B s.heap) 74 39)) ≤ (xE (zyEl zymx B s.heap) 74 42) ∧ xRD (xE (zyEl zymx B s.heap) 84) (xE (zyEl zymx B s.heap) 74 42) (tNx (xE (zyEl zymx B s.heap) 84) (xE (zyEl zymx B s.heap) 74 42) (xE (zyEl zymx B s.heap) 74 39)) (zyEl zymx B H3)) ∧ pStuck (xE (zyEl zymx B s.heap) 84) (xE (zyEl zymx B s.heap) 74 42) (xE (zyEl zymx B s.heap) 74 39) (xE (zyEl zymx B s.heap) 75) = (if tW (xE (zyEl zymx B s.heap) 84) (xE (zyEl zymx B s.heap) 74 42) (tNx (xE (zyEl zymx B s.heap) 84) (xE (zyEl zymx B s.heap) 74 42) (xE (zyEl zymx B s.heap) 74 39)) (wrd 4) = true then .ok (tNx (xE (zyEl zymx B s.heap) 84) (xE (zyEl zymx B s.heap) 74 42) (tNx (xE (zyEl zymx B s.heap) 84) (xE (zyEl zymx B s.heap) 74 42) (xE (zyEl zymx B s.heap) 74 39)), uS (xE (zyEl zymx B s.heap) 75) (72 + ((v2 1) : Int)) 2) else if tW (xE (zyEl zymx B s.heap) 84) (xE (zyEl zymx B s.heap) 74 42) (tNx (xE (zyEl zymx B s.heap) 84) (xE (zyEl zymx B s.heap) 74 42) (xE (zyEl zymx B s.heap) 74 39)) (wrd 5) = true then .ok (tNx (xE (zyEl zymx B s.heap) 84) (xE (zyEl zymx B s.heap) 74 42) (tNx (xE (zyEl zymx B s.heap) 84) (xE (zyEl zymx B s.heap) 74 42) (xE (zyEl zymx B s.heap) 74 39)), uS (xE (zyEl zymx B s.heap) 75) (72 + ((v2 1) : Int)) 1) else .error (pMis (xE (zyEl zymx B s.heap) 84) (xE (zyEl zymx B s.heap) 74 42) (tNx (xE (zyEl zymx B s.heap) 84) (xE (zyEl zymx B s.heap) 74 42) (xE (zyEl zymx B s.heap) 74 39)), tFr (xE (zyEl zymx B s.heap) 84) (xE (zyEl zymx B s.heap) 74 42) (tNx (xE (zyEl zymx B s.heap) 84) (xE (zyEl zymx B s.heap) 74 42) (xE (zyEl zymx B s.heap) 74 39)))) ∧ (¬ (tW (xE (zyEl zymx B s.heap) 84) (xE (zyEl zymx B s.heap) 74 42) (tNx (xE (zyEl zymx B s.heap) 84) (xE (zyEl zymx B s.heap) 74 42) (xE (zyEl zymx B s.heap) 74 39)) (wrd 4) = true) ∧ ((v2 2) : Int) = 1 ∧ ((r : Int) = 1 ↔ tW (xE (zyEl zymx B s.heap) 84) (xE (zyEl zymx B s.heap) 74 42) (tNx (xE (zyEl zymx B s.heap) 84) (xE (zyEl zymx B s.heap) 74 42) (xE (zyEl zymx B s.heap) 74 39)) (wrd 5) = true))) ∧ (¬ xE (zyEl zymx B H3) 74 36 = 0 → xEr (zyEl zymx B H3) (pStuck (xE (zyEl zymx B s.heap) 84) (xE (zyEl zymx B s.heap) 74 42) (xE (zyEl zymx B s.heap) 74 39) (xE (zyEl zymx B s.heap) 75)))
            refine ⟨fun k => (d75 k).trans ((e75 k).trans (hc k)), fun hz => ?_, fun hz => xEr_k (i2 (by omega)) (by omega) (by omega)⟩
            obtain ⟨j1, ⟨j2, j3⟩, j4, j5, j6⟩ := i1 (by omega)
            rw [hE3, hEE]
            rw [show v 1 = v2 1 by omega] at j1 j4
            have j7 : ¬ v 3 = 1 := by omega
            have j8 : ¬ v 2 = 2 := fun z => j7 (j5.mpr (j6.mp z))
            exact ⟨j1, ⟨j2, j3⟩, j4, fun z => j7 (j5.mpr z), by omega, hb2 _ (by omega) j2 (by rw [hEE]; exact j3)⟩
          · show 13 < 14
            omega
    · have hx : x ∈ [zxfsk_fx0, zxfsk_fx1] := hx
      have hag : ∀ k, k < 4 → v2 k = v k := hag
      have hfr : xFr [] _ _ := hfr
      rcases List.mem_cons.mp hx with ex | hx
      · subst ex
        obtain ⟨hF, hBd, hM⟩ := hXs
        have r1 := hr2 1
        have g1 : v2 1 = v 1 := hag 1 (by decide)
        have g2 : v2 2 = v 2 := hag 2 (by decide)
        have g3 : v2 3 = v 3 := hag 3 (by decide)
        have b0 : ((2147483649 : Nat) : Int) ≤ (v2 2) + 2147483648 ∧ (v2 2) + 2147483648 ≤ ((2147483650 : Nat) : Int) := xXb hBd 0 rfl
        have b1 : ((2147483649 : Nat) : Int) ≤ (v2 3) + 2147483648 ∧ (v2 3) + 2147483648 ≤ ((2147483649 : Nat) : Int) := xXb hBd 1 rfl
        have f0 : ¬ (v2 3) = 0 := xXf hF 0 rfl
        have e74_36 : xE (zyEl zymx B H2) 74 36 = xE (zyEl zymx B H) 74 36 := xFr_E hfr rfl
        have e74_37 : xE (zyEl zymx B H2) 74 37 = xE (zyEl zymx B H) 74 37 := xFr_E hfr rfl
        have e74_38 : xE (zyEl zymx B H2) 74 38 = xE (zyEl zymx B H) 74 38 := xFr_E hfr rfl
        have e74_39 : xE (zyEl zymx B H2) 74 39 = xE (zyEl zymx B H) 74 39 := xFr_E hfr rfl
        have e74_40 : xE (zyEl zymx B H2) 74 40 = xE (zyEl zymx B H) 74 40 := xFr_E hfr rfl
        have e74_41 : xE (zyEl zymx B H2) 74 41 = xE (zyEl zymx B H) 74 41 := xFr_E hfr rfl
        have e74_42 : xE (zyEl zymx B H2) 74 42 = xE (zyEl zymx B H) 74 42 := xFr_E hfr rfl
        have q74_42 : xE (zyEl zymx B H) 74 42 = xE (zyEl zymx B s.heap) 74 42 := xFr_E hFr0 rfl
        have e75_0 : xE (zyEl zymx B H2) 75 0 = xE (zyEl zymx B H) 75 0 := xFr_E hfr rfl
        have q75_0 : xE (zyEl zymx B H) 75 0 = xE (zyEl zymx B s.heap) 75 0 := xFr_E hFr0 rfl
        have e75_1 : xE (zyEl zymx B H2) 75 1 = xE (zyEl zymx B H) 75 1 := xFr_E hfr rfl
        have q75_1 : xE (zyEl zymx B H) 75 1 = xE (zyEl zymx B s.heap) 75 1 := xFr_E hFr0 rfl
        have e75_2 : xE (zyEl zymx B H2) 75 2 = xE (zyEl zymx B H) 75 2 := xFr_E hfr rfl
        have q75_2 : xE (zyEl zymx B H) 75 2 = xE (zyEl zymx B s.heap) 75 2 := xFr_E hFr0 rfl
        have e84 : ∀ i, xE (zyEl zymx B H2) 84 i = xE (zyEl zymx B H) 84 i := fun i => xFr_E hfr rfl
        have q84 : ∀ i, xE (zyEl zymx B H) 84 i = xE (zyEl zymx B s.heap) 84 i := fun i => xFr_E hFr0 rfl
        have e75 : ∀ i, xE (zyEl zymx B H2) 75 i = xE (zyEl zymx B H) 75 i := fun i => xFr_E hfr rfl
        have hI : (∀ k, xE (zyEl zymx B H) 75 k = xE (zyEl zymx B s.heap) 75 k) ∧ (xE (zyEl zymx B H) 74 36 = 0 → (0 ≤ (v 1) ∧ (v 1) ≤ 30) ∧ ((tNx (xE (zyEl zymx B s.heap) 84) (xE (zyEl zymx B s.heap) 74 42) (xE (zyEl zymx B s.heap) 74 39)) ≤ (xE (zyEl zymx B s.heap) 74 42) ∧ xRD (xE (zyEl zymx B s.heap) 84) (xE (zyEl zymx B s.heap) 74 42) (tNx (xE (zyEl zymx B s.heap) 84) (xE (zyEl zymx B s.heap) 74 42) (xE (zyEl zymx B s.heap) 74 39)) (zyEl zymx B H)) ∧ pStuck (xE (zyEl zymx B s.heap) 84) (xE (zyEl zymx B s.heap) 74 42) (xE (zyEl zymx B s.heap) 74 39) (xE (zyEl zymx B s.heap) 75) = (if tW (xE (zyEl zymx B s.heap) 84) (xE (zyEl zymx B s.heap) 74 42) (tNx (xE (zyEl zymx B s.heap) 84) (xE (zyEl zymx B s.heap) 74 42) (xE (zyEl zymx B s.heap) 74 39)) (wrd 4) = true then .ok (tNx (xE (zyEl zymx B s.heap) 84) (xE (zyEl zymx B s.heap) 74 42) (tNx (xE (zyEl zymx B s.heap) 84) (xE (zyEl zymx B s.heap) 74 42) (xE (zyEl zymx B s.heap) 74 39)), uS (xE (zyEl zymx B s.heap) 75) (72 + (v 1)) 2) else if tW (xE (zyEl zymx B s.heap) 84) (xE (zyEl zymx B s.heap) 74 42) (tNx (xE (zyEl zymx B s.heap) 84) (xE (zyEl zymx B s.heap) 74 42) (xE (zyEl zymx B s.heap) 74 39)) (wrd 5) = true then .ok (tNx (xE (zyEl zymx B s.heap) 84) (xE (zyEl zymx B s.heap) 74 42) (tNx (xE (zyEl zymx B s.heap) 84) (xE (zyEl zymx B s.heap) 74 42) (xE (zyEl zymx B s.heap) 74 39)), uS (xE (zyEl zymx B s.heap) 75) (72 + (v 1)) 1) else .error (pMis (xE (zyEl zymx B s.heap) 84) (xE (zyEl zymx B s.heap) 74 42) (tNx (xE (zyEl zymx B s.heap) 84) (xE (zyEl zymx B s.heap) 74 42) (xE (zyEl zymx B s.heap) 74 39)), tFr (xE (zyEl zymx B s.heap) 84) (xE (zyEl zymx B s.heap) 74 42) (tNx (xE (zyEl zymx B s.heap) 84) (xE (zyEl zymx B s.heap) 74 42) (xE (zyEl zymx B s.heap) 74 39)))) ∧ (¬ (tW (xE (zyEl zymx B s.heap) 84) (xE (zyEl zymx B s.heap) 74 42) (tNx (xE (zyEl zymx B s.heap) 84) (xE (zyEl zymx B s.heap) 74 42) (xE (zyEl zymx B s.heap) 74 39)) (wrd 4) = true) ∧ (v 2) = 1 ∧ ((v 3) = 1 ↔ tW (xE (zyEl zymx B s.heap) 84) (xE (zyEl zymx B s.heap) 74 42) (tNx (xE (zyEl zymx B s.heap) 84) (xE (zyEl zymx B s.heap) 74 42) (xE (zyEl zymx B s.heap) 74 39)) (wrd 5) = true))) ∧ (¬ xE (zyEl zymx B H) 74 36 = 0 → xEr (zyEl zymx B H) (pStuck (xE (zyEl zymx B s.heap) 84) (xE (zyEl zymx B s.heap) 74 42) (xE (zyEl zymx B s.heap) 74 39) (xE (zyEl zymx B s.heap) 75))) := hInv
        obtain ⟨hc, i1, i2⟩ := hI
        have hEE : (zyEl zymx B H2) = (zyEl zymx B H) := xFr_n hfr
        refine xGo hIH hAt hB hv hFr ⟨7, by decide⟩ [0, 34359738369, 68719476737] [0, (v2 1), (v2 2), 1] rfl ⟨by decide +kernel, ⟨rfl, by decide +kernel⟩, (xcs_c rfl (xcs_c rfl (xcs_c rfl xcs_n))), (xe_0 (xe_f (by omega) (xe_c (by omega) (by omega) rfl (xe_c (by omega) (by omega) rfl xe_n)))), xkq_n⟩ (xst_s 3 rfl rfl rfl (by decide +kernel) rfl (xst_r rfl xst_n)) ?_ ?_
        · show (∀ k, xE (zyEl zymx B H2) 75 k = xE (zyEl zymx B s.heap) 75 k) ∧ (xE (zyEl zymx B H2) 74 36 = 0 → (0 ≤ ((v2 1) : Int) ∧ ((v2 1) : Int) ≤ 30) ∧ ((tNx (xE (zyEl zymx B s.heap) 84) (xE (zyEl zymx B s.heap) 74 42) (xE (zyEl zymx B s.heap) 74 39)) ≤ (xE (zyEl zymx B s.heap) 74 42) ∧ xRD (xE (zyEl zymx B s.heap) 84) (xE (zyEl zymx B s.heap) 74 42) (tNx (xE (zyEl zymx B s.heap) 84) (xE (zyEl zymx B s.heap) 74 42) (xE (zyEl zymx B s.heap) 74 39)) (zyEl zymx B H2)) ∧ pStuck (xE (zyEl zymx B s.heap) 84) (xE (zyEl zymx B s.heap) 74 42) (xE (zyEl zymx B s.heap) 74 39) (xE (zyEl zymx B s.heap) 75) = (if tW (xE (zyEl zymx B s.heap) 84) (xE (zyEl zymx B s.heap) 74 42) (tNx (xE (zyEl zymx B s.heap) 84) (xE (zyEl zymx B s.heap) 74 42) (xE (zyEl zymx B s.heap) 74 39)) (wrd 4) = true then .ok (tNx (xE (zyEl zymx B s.heap) 84) (xE (zyEl zymx B s.heap) 74 42) (tNx (xE (zyEl zymx B s.heap) 84) (xE (zyEl zymx B s.heap) 74 42) (xE (zyEl zymx B s.heap) 74 39)), uS (xE (zyEl zymx B s.heap) 75) (72 + ((v2 1) : Int)) 2) else if tW (xE (zyEl zymx B s.heap) 84) (xE (zyEl zymx B s.heap) 74 42) (tNx (xE (zyEl zymx B s.heap) 84) (xE (zyEl zymx B s.heap) 74 42) (xE (zyEl zymx B s.heap) 74 39)) (wrd 5) = true then .ok (tNx (xE (zyEl zymx B s.heap) 84) (xE (zyEl zymx B s.heap) 74 42) (tNx (xE (zyEl zymx B s.heap) 84) (xE (zyEl zymx B s.heap) 74 42) (xE (zyEl zymx B s.heap) 74 39)), uS (xE (zyEl zymx B s.heap) 75) (72 + ((v2 1) : Int)) 1) else .error (pMis (xE (zyEl zymx B s.heap) 84) (xE (zyEl zymx B s.heap) 74 42) (tNx (xE (zyEl zymx B s.heap) 84) (xE (zyEl zymx B s.heap) 74 42) (xE (zyEl zymx B s.heap) 74 39)), tFr (xE (zyEl zymx B s.heap) 84) (xE (zyEl zymx B s.heap) 74 42) (tNx (xE (zyEl zymx B s.heap) 84) (xE (zyEl zymx B s.heap) 74 42) (xE (zyEl zymx B s.heap) 74 39)))) ∧ (((1 : Int) = 1 ↔ (tW (xE (zyEl zymx B s.heap) 84) (xE (zyEl zymx B s.heap) 74 42) (tNx (xE (zyEl zymx B s.heap) 84) (xE (zyEl zymx B s.heap) 74 42) (xE (zyEl zymx B s.heap) 74 39)) (wrd 4) = true ∨ tW (xE (zyEl zymx B s.heap) 84) (xE (zyEl zymx B s.heap) 74 42) (tNx (xE (zyEl zymx B s.heap) 84) (xE (zyEl zymx B s.heap) 74 42) (xE (zyEl zymx B s.heap) 74 39)) (wrd 5) = true)) ∧ (((v2 2) : Int) = 2 ↔ tW (xE (zyEl zymx B s.heap) 84) (xE (zyEl zymx B s.heap) 74 42) (tNx (xE (zyEl zymx B s.heap) 84) (xE (zyEl zymx B s.heap) 74 42) (xE (zyEl zymx B s.heap) 74 39)) (wrd 4) = true))) ∧ (¬ xE (zyEl zymx B H2) 74 36 = 0 → xEr (zyEl zymx B H2) (pStuck (xE (zyEl zymx B s.heap) 84) (xE (zyEl zymx B s.heap) 74 42) (xE (zyEl zymx B s.heap) 74 39) (xE (zyEl zymx B s.heap) 75)))
          refine ⟨fun k => (e75 k).trans (hc k), fun hz => ?_, fun hz => xEr_k (i2 (by omega)) (by omega) (by omega)⟩
          obtain ⟨j1, ⟨j2, j3⟩, j4, j5, j6, j7⟩ := i1 (by omega)
          rw [hEE]
          rw [show v 1 = v2 1 by omega] at j1 j4
          refine ⟨j1, ⟨j2, j3⟩, j4, ?_, fun z => absurd z (by omega), fun z => absurd z j5⟩
          exact ⟨fun _ => Or.inr (j7.mp (by omega)), fun _ => rfl⟩
        · show 12 < 13
          omega
      · skip
        have ex := List.mem_singleton.mp hx
        subst ex
        obtain ⟨hF, hBd, hM⟩ := hXs
        have r1 := hr2 1
        have g1 : v2 1 = v 1 := hag 1 (by decide)
        have g2 : v2 2 = v 2 := hag 2 (by decide)
        have g3 : v2 3 = v 3 := hag 3 (by decide)
        have b0 : ((2147483649 : Nat) : Int) ≤ (v2 2) + 2147483648 ∧ (v2 2) + 2147483648 ≤ ((2147483650 : Nat) : Int) := xXb hBd 0 rfl
        have b1 : ((2147483648 : Nat) : Int) ≤ (v2 3) + 2147483648 ∧ (v2 3) + 2147483648 ≤ ((2147483648 : Nat) : Int) := xXb hBd 1 rfl
        have f0 : (v2 3) = 0 := xXf hF 0 rfl
        have e74_36 : xE (zyEl zymx B H2) 74 36 = xE (zyEl zymx B H) 74 36 := xFr_E hfr rfl
        have e74_37 : xE (zyEl zymx B H2) 74 37 = xE (zyEl zymx B H) 74 37 := xFr_E hfr rfl
        have e74_38 : xE (zyEl zymx B H2) 74 38 = xE (zyEl zymx B H) 74 38 := xFr_E hfr rfl
        have e74_39 : xE (zyEl zymx B H2) 74 39 = xE (zyEl zymx B H) 74 39 := xFr_E hfr rfl
        have e74_40 : xE (zyEl zymx B H2) 74 40 = xE (zyEl zymx B H) 74 40 := xFr_E hfr rfl
        have e74_41 : xE (zyEl zymx B H2) 74 41 = xE (zyEl zymx B H) 74 41 := xFr_E hfr rfl
        have e74_42 : xE (zyEl zymx B H2) 74 42 = xE (zyEl zymx B H) 74 42 := xFr_E hfr rfl
        have q74_42 : xE (zyEl zymx B H) 74 42 = xE (zyEl zymx B s.heap) 74 42 := xFr_E hFr0 rfl
        have e75_0 : xE (zyEl zymx B H2) 75 0 = xE (zyEl zymx B H) 75 0 := xFr_E hfr rfl
        have q75_0 : xE (zyEl zymx B H) 75 0 = xE (zyEl zymx B s.heap) 75 0 := xFr_E hFr0 rfl
        have e75_1 : xE (zyEl zymx B H2) 75 1 = xE (zyEl zymx B H) 75 1 := xFr_E hfr rfl
        have q75_1 : xE (zyEl zymx B H) 75 1 = xE (zyEl zymx B s.heap) 75 1 := xFr_E hFr0 rfl
        have e75_2 : xE (zyEl zymx B H2) 75 2 = xE (zyEl zymx B H) 75 2 := xFr_E hfr rfl
        have q75_2 : xE (zyEl zymx B H) 75 2 = xE (zyEl zymx B s.heap) 75 2 := xFr_E hFr0 rfl
        have e84 : ∀ i, xE (zyEl zymx B H2) 84 i = xE (zyEl zymx B H) 84 i := fun i => xFr_E hfr rfl
        have q84 : ∀ i, xE (zyEl zymx B H) 84 i = xE (zyEl zymx B s.heap) 84 i := fun i => xFr_E hFr0 rfl
        have e75 : ∀ i, xE (zyEl zymx B H2) 75 i = xE (zyEl zymx B H) 75 i := fun i => xFr_E hfr rfl
        have hI : (∀ k, xE (zyEl zymx B H) 75 k = xE (zyEl zymx B s.heap) 75 k) ∧ (xE (zyEl zymx B H) 74 36 = 0 → (0 ≤ (v 1) ∧ (v 1) ≤ 30) ∧ ((tNx (xE (zyEl zymx B s.heap) 84) (xE (zyEl zymx B s.heap) 74 42) (xE (zyEl zymx B s.heap) 74 39)) ≤ (xE (zyEl zymx B s.heap) 74 42) ∧ xRD (xE (zyEl zymx B s.heap) 84) (xE (zyEl zymx B s.heap) 74 42) (tNx (xE (zyEl zymx B s.heap) 84) (xE (zyEl zymx B s.heap) 74 42) (xE (zyEl zymx B s.heap) 74 39)) (zyEl zymx B H)) ∧ pStuck (xE (zyEl zymx B s.heap) 84) (xE (zyEl zymx B s.heap) 74 42) (xE (zyEl zymx B s.heap) 74 39) (xE (zyEl zymx B s.heap) 75) = (if tW (xE (zyEl zymx B s.heap) 84) (xE (zyEl zymx B s.heap) 74 42) (tNx (xE (zyEl zymx B s.heap) 84) (xE (zyEl zymx B s.heap) 74 42) (xE (zyEl zymx B s.heap) 74 39)) (wrd 4) = true then .ok (tNx (xE (zyEl zymx B s.heap) 84) (xE (zyEl zymx B s.heap) 74 42) (tNx (xE (zyEl zymx B s.heap) 84) (xE (zyEl zymx B s.heap) 74 42) (xE (zyEl zymx B s.heap) 74 39)), uS (xE (zyEl zymx B s.heap) 75) (72 + (v 1)) 2) else if tW (xE (zyEl zymx B s.heap) 84) (xE (zyEl zymx B s.heap) 74 42) (tNx (xE (zyEl zymx B s.heap) 84) (xE (zyEl zymx B s.heap) 74 42) (xE (zyEl zymx B s.heap) 74 39)) (wrd 5) = true then .ok (tNx (xE (zyEl zymx B s.heap) 84) (xE (zyEl zymx B s.heap) 74 42) (tNx (xE (zyEl zymx B s.heap) 84) (xE (zyEl zymx B s.heap) 74 42) (xE (zyEl zymx B s.heap) 74 39)), uS (xE (zyEl zymx B s.heap) 75) (72 + (v 1)) 1) else .error (pMis (xE (zyEl zymx B s.heap) 84) (xE (zyEl zymx B s.heap) 74 42) (tNx (xE (zyEl zymx B s.heap) 84) (xE (zyEl zymx B s.heap) 74 42) (xE (zyEl zymx B s.heap) 74 39)), tFr (xE (zyEl zymx B s.heap) 84) (xE (zyEl zymx B s.heap) 74 42) (tNx (xE (zyEl zymx B s.heap) 84) (xE (zyEl zymx B s.heap) 74 42) (xE (zyEl zymx B s.heap) 74 39)))) ∧ (¬ (tW (xE (zyEl zymx B s.heap) 84) (xE (zyEl zymx B s.heap) 74 42) (tNx (xE (zyEl zymx B s.heap) 84) (xE (zyEl zymx B s.heap) 74 42) (xE (zyEl zymx B s.heap) 74 39)) (wrd 4) = true) ∧ (v 2) = 1 ∧ ((v 3) = 1 ↔ tW (xE (zyEl zymx B s.heap) 84) (xE (zyEl zymx B s.heap) 74 42) (tNx (xE (zyEl zymx B s.heap) 84) (xE (zyEl zymx B s.heap) 74 42) (xE (zyEl zymx B s.heap) 74 39)) (wrd 5) = true))) ∧ (¬ xE (zyEl zymx B H) 74 36 = 0 → xEr (zyEl zymx B H) (pStuck (xE (zyEl zymx B s.heap) 84) (xE (zyEl zymx B s.heap) 74 42) (xE (zyEl zymx B s.heap) 74 39) (xE (zyEl zymx B s.heap) 75))) := hInv
        obtain ⟨hc, i1, i2⟩ := hI
        have hEE : (zyEl zymx B H2) = (zyEl zymx B H) := xFr_n hfr
        refine xGo hIH hAt hB hv hFr ⟨7, by decide⟩ [0, 34359738369, 68719476737] [0, (v2 1), (v2 2), 0] rfl ⟨by decide +kernel, ⟨rfl, by decide +kernel⟩, (xcs_c rfl (xcs_c rfl (xcs_c rfl xcs_n))), (xe_0 (xe_f (by omega) (xe_c (by omega) (by omega) rfl (xe_c (by omega) (by omega) rfl xe_n)))), xkq_n⟩ (xst_s 3 rfl rfl rfl (by decide +kernel) rfl (xst_r rfl xst_n)) ?_ ?_
        · show (∀ k, xE (zyEl zymx B H2) 75 k = xE (zyEl zymx B s.heap) 75 k) ∧ (xE (zyEl zymx B H2) 74 36 = 0 → (0 ≤ ((v2 1) : Int) ∧ ((v2 1) : Int) ≤ 30) ∧ ((tNx (xE (zyEl zymx B s.heap) 84) (xE (zyEl zymx B s.heap) 74 42) (xE (zyEl zymx B s.heap) 74 39)) ≤ (xE (zyEl zymx B s.heap) 74 42) ∧ xRD (xE (zyEl zymx B s.heap) 84) (xE (zyEl zymx B s.heap) 74 42) (tNx (xE (zyEl zymx B s.heap) 84) (xE (zyEl zymx B s.heap) 74 42) (xE (zyEl zymx B s.heap) 74 39)) (zyEl zymx B H2)) ∧ pStuck (xE (zyEl zymx B s.heap) 84) (xE (zyEl zymx B s.heap) 74 42) (xE (zyEl zymx B s.heap) 74 39) (xE (zyEl zymx B s.heap) 75) = (if tW (xE (zyEl zymx B s.heap) 84) (xE (zyEl zymx B s.heap) 74 42) (tNx (xE (zyEl zymx B s.heap) 84) (xE (zyEl zymx B s.heap) 74 42) (xE (zyEl zymx B s.heap) 74 39)) (wrd 4) = true then .ok (tNx (xE (zyEl zymx B s.heap) 84) (xE (zyEl zymx B s.heap) 74 42) (tNx (xE (zyEl zymx B s.heap) 84) (xE (zyEl zymx B s.heap) 74 42) (xE (zyEl zymx B s.heap) 74 39)), uS (xE (zyEl zymx B s.heap) 75) (72 + ((v2 1) : Int)) 2) else if tW (xE (zyEl zymx B s.heap) 84) (xE (zyEl zymx B s.heap) 74 42) (tNx (xE (zyEl zymx B s.heap) 84) (xE (zyEl zymx B s.heap) 74 42) (xE (zyEl zymx B s.heap) 74 39)) (wrd 5) = true then .ok (tNx (xE (zyEl zymx B s.heap) 84) (xE (zyEl zymx B s.heap) 74 42) (tNx (xE (zyEl zymx B s.heap) 84) (xE (zyEl zymx B s.heap) 74 42) (xE (zyEl zymx B s.heap) 74 39)), uS (xE (zyEl zymx B s.heap) 75) (72 + ((v2 1) : Int)) 1) else .error (pMis (xE (zyEl zymx B s.heap) 84) (xE (zyEl zymx B s.heap) 74 42) (tNx (xE (zyEl zymx B s.heap) 84) (xE (zyEl zymx B s.heap) 74 42) (xE (zyEl zymx B s.heap) 74 39)), tFr (xE (zyEl zymx B s.heap) 84) (xE (zyEl zymx B s.heap) 74 42) (tNx (xE (zyEl zymx B s.heap) 84) (xE (zyEl zymx B s.heap) 74 42) (xE (zyEl zymx B s.heap) 74 39)))) ∧ (((0 : Int) = 1 ↔ (tW (xE (zyEl zymx B s.heap) 84) (xE (zyEl zymx B s.heap) 74 42) (tNx (xE (zyEl zymx B s.heap) 84) (xE (zyEl zymx B s.heap) 74 42) (xE (zyEl zymx B s.heap) 74 39)) (wrd 4) = true ∨ tW (xE (zyEl zymx B s.heap) 84) (xE (zyEl zymx B s.heap) 74 42) (tNx (xE (zyEl zymx B s.heap) 84) (xE (zyEl zymx B s.heap) 74 42) (xE (zyEl zymx B s.heap) 74 39)) (wrd 5) = true)) ∧ (((v2 2) : Int) = 2 ↔ tW (xE (zyEl zymx B s.heap) 84) (xE (zyEl zymx B s.heap) 74 42) (tNx (xE (zyEl zymx B s.heap) 84) (xE (zyEl zymx B s.heap) 74 42) (xE (zyEl zymx B s.heap) 74 39)) (wrd 4) = true))) ∧ (¬ xE (zyEl zymx B H2) 74 36 = 0 → xEr (zyEl zymx B H2) (pStuck (xE (zyEl zymx B s.heap) 84) (xE (zyEl zymx B s.heap) 74 42) (xE (zyEl zymx B s.heap) 74 39) (xE (zyEl zymx B s.heap) 75)))
          refine ⟨fun k => (e75 k).trans (hc k), fun hz => ?_, fun hz => xEr_k (i2 (by omega)) (by omega) (by omega)⟩
          obtain ⟨j1, ⟨j2, j3⟩, j4, j5, j6, j7⟩ := i1 (by omega)
          rw [hEE]
          rw [show v 1 = v2 1 by omega] at j1 j4
          refine ⟨j1, ⟨j2, j3⟩, j4, ?_, fun z => absurd z (by omega), fun z => absurd z j5⟩
          exact ⟨fun z => absurd z (by decide), fun z => by rcases z with z | z; exact absurd z j5; have := j7.mpr z; omega⟩
        · show 12 < 13
          omega
    · have hx : x ∈ [zxfsk_hx0] := hx
      have hag : ∀ k, k < 4 → v2 k = v k := hag
      have hfr : xFr [] _ _ := hfr
      have ex := List.mem_singleton.mp hx
      subst ex
      obtain ⟨hF, hBd, hM⟩ := hXs
      have r1 := hr2 1
      have g1 : v2 1 = v 1 := hag 1 (by decide)
      have g2 : v2 2 = v 2 := hag 2 (by decide)
      have g3 : v2 3 = v 3 := hag 3 (by decide)
      have b0 : ((2147483649 : Nat) : Int) ≤ (v2 2) + 2147483648 ∧ (v2 2) + 2147483648 ≤ ((2147483650 : Nat) : Int) := xXb hBd 0 rfl
      have b1 : ((2147483648 : Nat) : Int) ≤ (v2 3) + 2147483648 ∧ (v2 3) + 2147483648 ≤ ((2147483649 : Nat) : Int) := xXb hBd 1 rfl
      have e74_36 : xE (zyEl zymx B H2) 74 36 = xE (zyEl zymx B H) 74 36 := xFr_E hfr rfl
      have e74_37 : xE (zyEl zymx B H2) 74 37 = xE (zyEl zymx B H) 74 37 := xFr_E hfr rfl
      have e74_38 : xE (zyEl zymx B H2) 74 38 = xE (zyEl zymx B H) 74 38 := xFr_E hfr rfl
      have e74_39 : xE (zyEl zymx B H2) 74 39 = xE (zyEl zymx B H) 74 39 := xFr_E hfr rfl
      have e74_40 : xE (zyEl zymx B H2) 74 40 = xE (zyEl zymx B H) 74 40 := xFr_E hfr rfl
      have e74_41 : xE (zyEl zymx B H2) 74 41 = xE (zyEl zymx B H) 74 41 := xFr_E hfr rfl
      have e74_42 : xE (zyEl zymx B H2) 74 42 = xE (zyEl zymx B H) 74 42 := xFr_E hfr rfl
      have q74_42 : xE (zyEl zymx B H) 74 42 = xE (zyEl zymx B s.heap) 74 42 := xFr_E hFr0 rfl
      have e75_0 : xE (zyEl zymx B H2) 75 0 = xE (zyEl zymx B H) 75 0 := xFr_E hfr rfl
      have q75_0 : xE (zyEl zymx B H) 75 0 = xE (zyEl zymx B s.heap) 75 0 := xFr_E hFr0 rfl
      have e75_1 : xE (zyEl zymx B H2) 75 1 = xE (zyEl zymx B H) 75 1 := xFr_E hfr rfl
      have q75_1 : xE (zyEl zymx B H) 75 1 = xE (zyEl zymx B s.heap) 75 1 := xFr_E hFr0 rfl
      have e75_2 : xE (zyEl zymx B H2) 75 2 = xE (zyEl zymx B H) 75 2 := xFr_E hfr rfl
      have q75_2 : xE (zyEl zymx B H) 75 2 = xE (zyEl zymx B s.heap) 75 2 := xFr_E hFr0 rfl
      have e84 : ∀ i, xE (zyEl zymx B H2) 84 i = xE (zyEl zymx B H) 84 i := fun i => xFr_E hfr rfl
      have q84 : ∀ i, xE (zyEl zymx B H) 84 i = xE (zyEl zymx B s.heap) 84 i := fun i => xFr_E hFr0 rfl
      have e75 : ∀ i, xE (zyEl zymx B H2) 75 i = xE (zyEl zymx B H) 75 i := fun i => xFr_E hfr rfl
      have hI : (∀ k, xE (zyEl zymx B H) 75 k = xE (zyEl zymx B s.heap) 75 k) ∧ (xE (zyEl zymx B H) 74 36 = 0 → (0 ≤ (v 1) ∧ (v 1) ≤ 30) ∧ ((tNx (xE (zyEl zymx B s.heap) 84) (xE (zyEl zymx B s.heap) 74 42) (xE (zyEl zymx B s.heap) 74 39)) ≤ (xE (zyEl zymx B s.heap) 74 42) ∧ xRD (xE (zyEl zymx B s.heap) 84) (xE (zyEl zymx B s.heap) 74 42) (tNx (xE (zyEl zymx B s.heap) 84) (xE (zyEl zymx B s.heap) 74 42) (xE (zyEl zymx B s.heap) 74 39)) (zyEl zymx B H)) ∧ pStuck (xE (zyEl zymx B s.heap) 84) (xE (zyEl zymx B s.heap) 74 42) (xE (zyEl zymx B s.heap) 74 39) (xE (zyEl zymx B s.heap) 75) = (if tW (xE (zyEl zymx B s.heap) 84) (xE (zyEl zymx B s.heap) 74 42) (tNx (xE (zyEl zymx B s.heap) 84) (xE (zyEl zymx B s.heap) 74 42) (xE (zyEl zymx B s.heap) 74 39)) (wrd 4) = true then .ok (tNx (xE (zyEl zymx B s.heap) 84) (xE (zyEl zymx B s.heap) 74 42) (tNx (xE (zyEl zymx B s.heap) 84) (xE (zyEl zymx B s.heap) 74 42) (xE (zyEl zymx B s.heap) 74 39)), uS (xE (zyEl zymx B s.heap) 75) (72 + (v 1)) 2) else if tW (xE (zyEl zymx B s.heap) 84) (xE (zyEl zymx B s.heap) 74 42) (tNx (xE (zyEl zymx B s.heap) 84) (xE (zyEl zymx B s.heap) 74 42) (xE (zyEl zymx B s.heap) 74 39)) (wrd 5) = true then .ok (tNx (xE (zyEl zymx B s.heap) 84) (xE (zyEl zymx B s.heap) 74 42) (tNx (xE (zyEl zymx B s.heap) 84) (xE (zyEl zymx B s.heap) 74 42) (xE (zyEl zymx B s.heap) 74 39)), uS (xE (zyEl zymx B s.heap) 75) (72 + (v 1)) 1) else .error (pMis (xE (zyEl zymx B s.heap) 84) (xE (zyEl zymx B s.heap) 74 42) (tNx (xE (zyEl zymx B s.heap) 84) (xE (zyEl zymx B s.heap) 74 42) (xE (zyEl zymx B s.heap) 74 39)), tFr (xE (zyEl zymx B s.heap) 84) (xE (zyEl zymx B s.heap) 74 42) (tNx (xE (zyEl zymx B s.heap) 84) (xE (zyEl zymx B s.heap) 74 42) (xE (zyEl zymx B s.heap) 74 39)))) ∧ (((v 3) = 1 ↔ (tW (xE (zyEl zymx B s.heap) 84) (xE (zyEl zymx B s.heap) 74 42) (tNx (xE (zyEl zymx B s.heap) 84) (xE (zyEl zymx B s.heap) 74 42) (xE (zyEl zymx B s.heap) 74 39)) (wrd 4) = true ∨ tW (xE (zyEl zymx B s.heap) 84) (xE (zyEl zymx B s.heap) 74 42) (tNx (xE (zyEl zymx B s.heap) 84) (xE (zyEl zymx B s.heap) 74 42) (xE (zyEl zymx B s.heap) 74 39)) (wrd 5) = true)) ∧ ((v 2) = 2 ↔ tW (xE (zyEl zymx B s.heap) 84) (xE (zyEl zymx B s.heap) 74 42) (tNx (xE (zyEl zymx B s.heap) 84) (xE (zyEl zymx B s.heap) 74 42) (xE (zyEl zymx B s.heap) 74 39)) (wrd 4) = true))) ∧ (¬ xE (zyEl zymx B H) 74 36 = 0 → xEr (zyEl zymx B H) (pStuck (xE (zyEl zymx B s.heap) 84) (xE (zyEl zymx B s.heap) 74 42) (xE (zyEl zymx B s.heap) 74 39) (xE (zyEl zymx B s.heap) 75))) := hInv
      obtain ⟨hc, i1, i2⟩ := hI
      have hEE : (zyEl zymx B H2) = (zyEl zymx B H) := xFr_n hfr
      refine xCa hRu hIH hAt hB hv hFr (hftk B) (ix := 462) (ax := 5088) rfl rfl rfl hmeftk ⟨_, rfl, rfl, by decide⟩ ⟨rfl, rfl, rfl⟩ (by decide) [103079215105] [] [(v2 3)] rfl ⟨rfl, rfl⟩ (by decide +kernel) (xcs_c rfl xcs_n) (by decide +kernel) ?_ (fun H3 r hT3 hf3 hFr3 hr3 hΨ3 => ?_)
      · show xΦtk (xfv [(v2 3)]) (zyEl zymx B H2)
        intro q1 q2
        obtain ⟨j1, ⟨j2, j3⟩, j4, j5, j6⟩ := i1 (by omega)
        have q2 : ¬ (v2 3) = 0 := q2
        have hk : tKd (xE (zyEl zymx B s.heap) 84) (xE (zyEl zymx B s.heap) 74 42) (tNx (xE (zyEl zymx B s.heap) 84) (xE (zyEl zymx B s.heap) 74 42) (xE (zyEl zymx B s.heap) 74 39)) = 2 := by
          rcases j5.mp (by omega) with z | z
          · exact tW_k z
          · exact tW_k z
        obtain ⟨s1, s1b, s2, s3, s4, s5, s6, s7, s8⟩ := xRD_i j3 j2
        omega
      · have hΨ3 : xΨtk (xfv [(v2 3)]) (zyEl zymx B H2) (zyEl zymx B H3) r := hΨ3
        have d74_42 : xE (zyEl zymx B H3) 74 42 = xE (zyEl zymx B H2) 74 42 := xFr_E hf3 rfl
        have d75_0 : xE (zyEl zymx B H3) 75 0 = xE (zyEl zymx B H2) 75 0 := xFr_E hf3 rfl
        have d75_1 : xE (zyEl zymx B H3) 75 1 = xE (zyEl zymx B H2) 75 1 := xFr_E hf3 rfl
        have d75_2 : xE (zyEl zymx B H3) 75 2 = xE (zyEl zymx B H2) 75 2 := xFr_E hf3 rfl
        have d84 : ∀ i, xE (zyEl zymx B H3) 84 i = xE (zyEl zymx B H2) 84 i := fun i => xFr_E hf3 rfl
        have d75 : ∀ i, xE (zyEl zymx B H3) 75 i = xE (zyEl zymx B H2) 75 i := fun i => xFr_E hf3 rfl
        have z74_36 : ((2147483648 : Nat) : Int) ≤ xE (zyEl zymx B H3) 74 36 + 2147483648 ∧ xE (zyEl zymx B H3) 74 36 + 2147483648 ≤ ((2147483657 : Nat) : Int) := xTyF hT3 74 36 36 rfl rfl rfl rfl rfl rfl
        have hg := fun p hw hs hp => xTk_g (T := (xE (zyEl zymx B s.heap) 84)) (n := (xE (zyEl zymx B s.heap) 74 42)) (p := p) (x := xfv [(v2 3)]) hΨ3 hw hs hp (fun i => (e84 i).trans (q84 i)) (by omega)
        have hge : ¬ xE (zyEl zymx B H2) 74 36 = 0 → xE (zyEl zymx B H3) 74 36 = xE (zyEl zymx B H2) 74 36 ∧ xE (zyEl zymx B H3) 74 37 = xE (zyEl zymx B H2) 74 37 := fun hw => xTk_e (x := xfv [(v2 3)]) hΨ3 hw
        refine ⟨⟨8, by decide⟩, [0, 34359738369, 68719476737], [0, (v2 1), (v2 2), xE (zyEl zymx B H3) 74 36], rfl, ⟨by decide +kernel, ⟨rfl, by decide +kernel⟩, (xcs_c rfl (xcs_c rfl (xcs_c rfl xcs_n))), (xe_0 (xe_f (by omega) (xe_c (by omega) (by omega) rfl (xe_c (by omega) (by omega) rfl xe_n)))), (xkq_c hT3 74 36 (q := 36) rfl rfl rfl rfl rfl rfl rfl rfl rfl rfl rfl xkq_n)⟩, (by rw [if_neg (by decide)]; exact xst_n), ?_, ?_⟩
        · show (∀ k, xE (zyEl zymx B H3) 75 k = xE (zyEl zymx B s.heap) 75 k) ∧ (xE (zyEl zymx B H3) 74 36 = 0 → (0 ≤ ((v2 1) : Int) ∧ ((v2 1) : Int) ≤ 30) ∧ ∃ p, (p) ≤ (xE (zyEl zymx B s.heap) 74 42) ∧ xRD (xE (zyEl zymx B s.heap) 84) (xE (zyEl zymx B s.heap) 74 42) (p) (zyEl zymx B H3) ∧ pStuck (xE (zyEl zymx B s.heap) 84) (xE (zyEl zymx B s.heap) 74 42) (xE (zyEl zymx B s.heap) 74 39) (xE (zyEl zymx B s.heap) 75) = .ok (p, uS (xE (zyEl zymx B s.heap) 75) (72 + ((v2 1) : Int)) ((v2 2) : Int))) ∧ (¬ xE (zyEl zymx B H3) 74 36 = 0 → xEr (zyEl zymx B H3) (pStuck (xE (zyEl zymx B s.heap) 84) (xE (zyEl zymx B s.heap) 74 42) (xE (zyEl zymx B s.heap) 74 39) (xE (zyEl zymx B s.heap) 75)))
          refine ⟨fun k => (d75 k).trans ((e75 k).trans (hc k)), fun hz => ?_, fun hz => ?_⟩
          · by_cases hw : xE (zyEl zymx B H2) 74 36 = 0
            · obtain ⟨j1, ⟨j2, j3⟩, j4, j5, j6⟩ := i1 (by omega)
              obtain ⟨g1, g2⟩ := hg _ hw (by rw [hEE]; exact j3) j2
              have g1 : ¬ (v2 3) = 0 → _ := g1
              have g2 : (v2 3) = 0 → _ := g2
              by_cases c4 : tW (xE (zyEl zymx B s.heap) 84) (xE (zyEl zymx B s.heap) 74 42) (tNx (xE (zyEl zymx B s.heap) 84) (xE (zyEl zymx B s.heap) 74 42) (xE (zyEl zymx B s.heap) 74 39)) (wrd 4) = true
              · rw [if_pos c4] at j4
                have hk := tW_k c4
                have g1 := g1 (by have := j5.mpr (Or.inl c4); omega) (by omega)
                have hv := j6.mpr c4
                rw [← hv, show v 1 = v2 1 by omega, show v 2 = v2 2 by omega] at j4
                exact ⟨by omega, _, g1.2.2.1, g1.2.1, j4⟩
              · rw [if_neg c4] at j4
                by_cases c5 : tW (xE (zyEl zymx B s.heap) 84) (xE (zyEl zymx B s.heap) 74 42) (tNx (xE (zyEl zymx B s.heap) 84) (xE (zyEl zymx B s.heap) 74 42) (xE (zyEl zymx B s.heap) 74 39)) (wrd 5) = true
                · rw [if_pos c5] at j4
                  have hk := tW_k c5
                  have g1 := g1 (by have := j5.mpr (Or.inr c5); omega) (by omega)
                  have hv : ¬ v 2 = 2 := fun z => c4 (j6.mp z)
                  have hv : v 2 = 1 := by omega
                  rw [← hv, show v 1 = v2 1 by omega, show v 2 = v2 2 by omega] at j4
                  exact ⟨by omega, _, g1.2.2.1, g1.2.1, j4⟩
                · rw [if_neg c5] at j4
                  have g2 := g2 (by
                    have : ¬ v 3 = 1 := fun z => (j5.mp z).elim c4 c5
                    omega)
                  exact (xEr_1 g2 hz).elim
            · have := hge hw
              omega
          · by_cases hw : xE (zyEl zymx B H2) 74 36 = 0
            · obtain ⟨j1, ⟨j2, j3⟩, j4, j5, j6⟩ := i1 (by omega)
              obtain ⟨g1, g2⟩ := hg _ hw (by rw [hEE]; exact j3) j2
              have g1 : ¬ (v2 3) = 0 → _ := g1
              have g2 : (v2 3) = 0 → _ := g2
              by_cases c4 : tW (xE (zyEl zymx B s.heap) 84) (xE (zyEl zymx B s.heap) 74 42) (tNx (xE (zyEl zymx B s.heap) 84) (xE (zyEl zymx B s.heap) 74 42) (xE (zyEl zymx B s.heap) 74 39)) (wrd 4) = true
              · rw [if_pos c4] at j4
                have hk := tW_k c4
                have g1 := g1 (by have := j5.mpr (Or.inl c4); omega) (by omega)
                exact absurd g1.1 hz
              · rw [if_neg c4] at j4
                by_cases c5 : tW (xE (zyEl zymx B s.heap) 84) (xE (zyEl zymx B s.heap) 74 42) (tNx (xE (zyEl zymx B s.heap) 84) (xE (zyEl zymx B s.heap) 74 42) (xE (zyEl zymx B s.heap) 74 39)) (wrd 5) = true
                · rw [if_pos c5] at j4
                  have hk := tW_k c5
                  have g1 := g1 (by have := j5.mpr (Or.inr c5); omega) (by omega)
                  exact absurd g1.1 hz
                · rw [if_neg c5] at j4
                  have g2 := g2 (by
                    have : ¬ v 3 = 1 := fun z => (j5.mp z).elim c4 c5
                    omega)
                  rw [j4]
                  exact g2
            · have := hge hw
              exact xEr_k (i2 (by omega)) (by omega) (by omega)
        · show 11 < 12
          omega
    · have hx : x ∈ [zxfsk_gx0] := hx
      have hag : ∀ k, k < 4 → v2 k = v k := hag
      have hfr : xFr [] _ _ := hfr
      have ex := List.mem_singleton.mp hx
      subst ex
      obtain ⟨hF, hBd, hM⟩ := hXs
      have r1 := hr2 1
      have g1 : v2 1 = v 1 := hag 1 (by decide)
      have g2 : v2 2 = v 2 := hag 2 (by decide)
      have g3 : v2 3 = v 3 := hag 3 (by decide)
      have b0 : ((2147483649 : Nat) : Int) ≤ (v2 2) + 2147483648 ∧ (v2 2) + 2147483648 ≤ ((2147483650 : Nat) : Int) := xXb hBd 0 rfl
      have b1 : ((2147483648 : Nat) : Int) ≤ (v2 3) + 2147483648 ∧ (v2 3) + 2147483648 ≤ ((2147483648 : Nat) : Int) := xXb hBd 1 rfl
      have k0 : xE (zyEl zymx B H) 74 36 = v 3 := xKcf hKc 0 rfl rfl
      have f0 : (v2 3) = 0 := xXf hF 0 rfl
      have e74_36 : xE (zyEl zymx B H2) 74 36 = xE (zyEl zymx B H) 74 36 := xFr_E hfr rfl
      have e74_37 : xE (zyEl zymx B H2) 74 37 = xE (zyEl zymx B H) 74 37 := xFr_E hfr rfl
      have e74_38 : xE (zyEl zymx B H2) 74 38 = xE (zyEl zymx B H) 74 38 := xFr_E hfr rfl
      have e74_39 : xE (zyEl zymx B H2) 74 39 = xE (zyEl zymx B H) 74 39 := xFr_E hfr rfl
      have e74_40 : xE (zyEl zymx B H2) 74 40 = xE (zyEl zymx B H) 74 40 := xFr_E hfr rfl
      have e74_41 : xE (zyEl zymx B H2) 74 41 = xE (zyEl zymx B H) 74 41 := xFr_E hfr rfl
      have e74_42 : xE (zyEl zymx B H2) 74 42 = xE (zyEl zymx B H) 74 42 := xFr_E hfr rfl
      have q74_42 : xE (zyEl zymx B H) 74 42 = xE (zyEl zymx B s.heap) 74 42 := xFr_E hFr0 rfl
      have e75_0 : xE (zyEl zymx B H2) 75 0 = xE (zyEl zymx B H) 75 0 := xFr_E hfr rfl
      have q75_0 : xE (zyEl zymx B H) 75 0 = xE (zyEl zymx B s.heap) 75 0 := xFr_E hFr0 rfl
      have e75_1 : xE (zyEl zymx B H2) 75 1 = xE (zyEl zymx B H) 75 1 := xFr_E hfr rfl
      have q75_1 : xE (zyEl zymx B H) 75 1 = xE (zyEl zymx B s.heap) 75 1 := xFr_E hFr0 rfl
      have e75_2 : xE (zyEl zymx B H2) 75 2 = xE (zyEl zymx B H) 75 2 := xFr_E hfr rfl
      have q75_2 : xE (zyEl zymx B H) 75 2 = xE (zyEl zymx B s.heap) 75 2 := xFr_E hFr0 rfl
      have e84 : ∀ i, xE (zyEl zymx B H2) 84 i = xE (zyEl zymx B H) 84 i := fun i => xFr_E hfr rfl
      have q84 : ∀ i, xE (zyEl zymx B H) 84 i = xE (zyEl zymx B s.heap) 84 i := fun i => xFr_E hFr0 rfl
      have e75 : ∀ i, xE (zyEl zymx B H2) 75 i = xE (zyEl zymx B H) 75 i := fun i => xFr_E hfr rfl
      have hI : (∀ k, xE (zyEl zymx B H) 75 k = xE (zyEl zymx B s.heap) 75 k) ∧ (xE (zyEl zymx B H) 74 36 = 0 → (0 ≤ (v 1) ∧ (v 1) ≤ 30) ∧ ∃ p, (p) ≤ (xE (zyEl zymx B s.heap) 74 42) ∧ xRD (xE (zyEl zymx B s.heap) 84) (xE (zyEl zymx B s.heap) 74 42) (p) (zyEl zymx B H) ∧ pStuck (xE (zyEl zymx B s.heap) 84) (xE (zyEl zymx B s.heap) 74 42) (xE (zyEl zymx B s.heap) 74 39) (xE (zyEl zymx B s.heap) 75) = .ok (p, uS (xE (zyEl zymx B s.heap) 75) (72 + (v 1)) (v 2))) ∧ (¬ xE (zyEl zymx B H) 74 36 = 0 → xEr (zyEl zymx B H) (pStuck (xE (zyEl zymx B s.heap) 84) (xE (zyEl zymx B s.heap) 74 42) (xE (zyEl zymx B s.heap) 74 39) (xE (zyEl zymx B s.heap) 75))) := hInv
      obtain ⟨hc, i1, i2⟩ := hI
      have hEE : (zyEl zymx B H2) = (zyEl zymx B H) := xFr_n hfr
      obtain ⟨j1, p, hp, hs, j2⟩ := i1 (by omega)
      refine xGo hIH hAt hB hv hFr ⟨9, by decide⟩ [0, 34359738369, 68719476737] [0, (v2 1), (v2 2)] rfl ⟨by decide +kernel, ⟨rfl, by decide +kernel⟩, (xcs_c rfl (xcs_c rfl (xcs_c rfl xcs_n))), (xe_0 (xe_c (by omega) (by omega) rfl (xe_c (by omega) (by omega) rfl xe_n))), xkq_n⟩ xst_n ?_ ?_
      · show xE (zyEl zymx B H2) 74 36 = 0 ∧ (∀ k, xE (zyEl zymx B H2) 75 k = xE (zyEl zymx B s.heap) 75 k) ∧ ∃ p, (p) ≤ (xE (zyEl zymx B s.heap) 74 42) ∧ xRD (xE (zyEl zymx B s.heap) 84) (xE (zyEl zymx B s.heap) 74 42) (p) (zyEl zymx B H2) ∧ pStuck (xE (zyEl zymx B s.heap) 84) (xE (zyEl zymx B s.heap) 74 42) (xE (zyEl zymx B s.heap) 74 39) (xE (zyEl zymx B s.heap) 75) = .ok (p, uS (xE (zyEl zymx B s.heap) 75) (72 + ((v2 1) : Int)) ((v2 2) : Int))
        rw [hEE]
        rw [show v 1 = v2 1 by omega, show v 2 = v2 2 by omega] at j2
        exact ⟨by omega, hc, p, hp, hs, j2⟩
      · show 10 < 11
        omega
    · have hx : x ∈ [zxfsk_g2x0] := hx
      have hag : ∀ k, k < 3 → v2 k = v k := hag
      have hfr : xFr [] _ _ := hfr
      have ex := List.mem_singleton.mp hx
      subst ex
      obtain ⟨hF, hBd, hM⟩ := hXs
      have g1 : v2 1 = v 1 := hag 1 (by decide)
      have g2 : v2 2 = v 2 := hag 2 (by decide)
      have b0 : ((2147483648 : Nat) : Int) ≤ (v2 1) + 2147483648 ∧ (v2 1) + 2147483648 ≤ ((2147483678 : Nat) : Int) := xXb hBd 0 rfl
      have b1 : ((2147483649 : Nat) : Int) ≤ (v2 2) + 2147483648 ∧ (v2 2) + 2147483648 ≤ ((2147483650 : Nat) : Int) := xXb hBd 1 rfl
      have b2 : ((2147483720 : Nat) : Int) ≤ (v2 1 + 72) + 2147483648 ∧ (v2 1 + 72) + 2147483648 ≤ ((2147483750 : Nat) : Int) := xXb hBd 2 rfl
      have e74_36 : xE (zyEl zymx B H2) 74 36 = xE (zyEl zymx B H) 74 36 := xFr_E hfr rfl
      have e74_37 : xE (zyEl zymx B H2) 74 37 = xE (zyEl zymx B H) 74 37 := xFr_E hfr rfl
      have e74_38 : xE (zyEl zymx B H2) 74 38 = xE (zyEl zymx B H) 74 38 := xFr_E hfr rfl
      have e74_39 : xE (zyEl zymx B H2) 74 39 = xE (zyEl zymx B H) 74 39 := xFr_E hfr rfl
      have e74_40 : xE (zyEl zymx B H2) 74 40 = xE (zyEl zymx B H) 74 40 := xFr_E hfr rfl
      have e74_41 : xE (zyEl zymx B H2) 74 41 = xE (zyEl zymx B H) 74 41 := xFr_E hfr rfl
      have e74_42 : xE (zyEl zymx B H2) 74 42 = xE (zyEl zymx B H) 74 42 := xFr_E hfr rfl
      have q74_42 : xE (zyEl zymx B H) 74 42 = xE (zyEl zymx B s.heap) 74 42 := xFr_E hFr0 rfl
      have e75_0 : xE (zyEl zymx B H2) 75 0 = xE (zyEl zymx B H) 75 0 := xFr_E hfr rfl
      have q75_0 : xE (zyEl zymx B H) 75 0 = xE (zyEl zymx B s.heap) 75 0 := xFr_E hFr0 rfl
      have e75_1 : xE (zyEl zymx B H2) 75 1 = xE (zyEl zymx B H) 75 1 := xFr_E hfr rfl
      have q75_1 : xE (zyEl zymx B H) 75 1 = xE (zyEl zymx B s.heap) 75 1 := xFr_E hFr0 rfl
      have e75_2 : xE (zyEl zymx B H2) 75 2 = xE (zyEl zymx B H) 75 2 := xFr_E hfr rfl
      have q75_2 : xE (zyEl zymx B H) 75 2 = xE (zyEl zymx B s.heap) 75 2 := xFr_E hFr0 rfl
      have e84 : ∀ i, xE (zyEl zymx B H2) 84 i = xE (zyEl zymx B H) 84 i := fun i => xFr_E hfr rfl
      have q84 : ∀ i, xE (zyEl zymx B H) 84 i = xE (zyEl zymx B s.heap) 84 i := fun i => xFr_E hFr0 rfl
      have e75 : ∀ i, xE (zyEl zymx B H2) 75 i = xE (zyEl zymx B H) 75 i := fun i => xFr_E hfr rfl
      have hI : xE (zyEl zymx B H) 74 36 = 0 ∧ (∀ k, xE (zyEl zymx B H) 75 k = xE (zyEl zymx B s.heap) 75 k) ∧ ∃ p, (p) ≤ (xE (zyEl zymx B s.heap) 74 42) ∧ xRD (xE (zyEl zymx B s.heap) 84) (xE (zyEl zymx B s.heap) 74 42) (p) (zyEl zymx B H) ∧ pStuck (xE (zyEl zymx B s.heap) 84) (xE (zyEl zymx B s.heap) 74 42) (xE (zyEl zymx B s.heap) 74 39) (xE (zyEl zymx B s.heap) 75) = .ok (p, uS (xE (zyEl zymx B s.heap) 75) (72 + (v 1)) (v 2)) := hInv
      obtain ⟨i1, hc, p, hp, hs, j2⟩ := hI
      have hEE : (zyEl zymx B H2) = (zyEl zymx B H) := xFr_n hfr
      refine xSt hRu hIH hAt hB hv hFr 75 (ax := 0) 68719476737 34359738945 (v2 2) (v2 1 + 72) rfl (Or.inl ⟨rfl, rfl⟩) rfl (by decide +kernel) rfl rfl (by omega) (by show (v2 1 + 72) < ((556 : Nat) : Int); omega) (fun r hr q1 q2 => by rw [List.mem_singleton.mp hr]; exact ⟨rfl, by show ((0 : Nat) : Int) ≤ (v2 2) + 2147483648; omega, by show (v2 2) + 2147483648 ≤ ((4294967295 : Nat) : Int); omega⟩) (zyin_iff.mpr ⟨(75, 72, 103), by decide, rfl, (by show 72 ≤ Int.toNat (v2 1 + 72); omega), by show Int.toNat (v2 1 + 72) ≤ 103; omega⟩) (fun H3 hT3 hst3 hne3 hfn3 hFr3 => ?_)
      have hfe3 : ∀ (a2 : Nat) (k2 : Int), ¬ a2 = 75 → xE (zyEl zymx B H3) a2 k2 = xE (zyEl zymx B H2) a2 k2 := fun a2 k2 hne => by unfold xE; rw [hfn3 a2 k2.toNat (fun z => hne z.1)]
      have d74_36 : xE (zyEl zymx B H3) 74 36 = xE (zyEl zymx B H2) 74 36 := hfe3 74 36 (fun z => absurd z (by decide))
      have d74_37 : xE (zyEl zymx B H3) 74 37 = xE (zyEl zymx B H2) 74 37 := hfe3 74 37 (fun z => absurd z (by decide))
      have d74_38 : xE (zyEl zymx B H3) 74 38 = xE (zyEl zymx B H2) 74 38 := hfe3 74 38 (fun z => absurd z (by decide))
      have d74_39 : xE (zyEl zymx B H3) 74 39 = xE (zyEl zymx B H2) 74 39 := hfe3 74 39 (fun z => absurd z (by decide))
      have d74_40 : xE (zyEl zymx B H3) 74 40 = xE (zyEl zymx B H2) 74 40 := hfe3 74 40 (fun z => absurd z (by decide))
      have d74_41 : xE (zyEl zymx B H3) 74 41 = xE (zyEl zymx B H2) 74 41 := hfe3 74 41 (fun z => absurd z (by decide))
      have d74_42 : xE (zyEl zymx B H3) 74 42 = xE (zyEl zymx B H2) 74 42 := hfe3 74 42 (fun z => absurd z (by decide))
      refine ⟨⟨10, by decide⟩, [0, 0, 0], [0, 0, 0], rfl, ⟨by decide +kernel, ⟨rfl, by decide +kernel⟩, (xcs_c rfl (xcs_c rfl (xcs_c rfl xcs_n))), (xe_0 (xe_0 (xe_0 xe_n))), xkq_n⟩, rfl, ?_, ?_⟩
      · show xE (zyEl zymx B H3) 74 36 = 0 ∧ ∃ p U, (p) ≤ (xE (zyEl zymx B s.heap) 74 42) ∧ xRD (xE (zyEl zymx B s.heap) 84) (xE (zyEl zymx B s.heap) 74 42) (p) (zyEl zymx B H3) ∧ pStuck (xE (zyEl zymx B s.heap) 84) (xE (zyEl zymx B s.heap) 74 42) (xE (zyEl zymx B s.heap) 74 39) (xE (zyEl zymx B s.heap) 75) = .ok (p, U) ∧ ∀ k, 0 ≤ k → xE (zyEl zymx B H3) 75 k = U k
        refine ⟨by omega, p, _, hp, xRD_e (xRD_k hs hfr rfl rfl rfl rfl rfl) (fun k _ => hfn3 74 k (fun z => absurd z.1 (by decide))), j2, fun k k0 => ?_⟩
        by_cases e : k = 72 + v 1
        · rw [uS_e e, e, show 72 + v 1 = (v2 1 + 72) by omega, hst3]
          omega
        · rw [uS_n e, hne3 75 k k0 (fun z => e (by omega)), e75]
          exact hc k
      · show 9 < 10
        omega
    · cases hx
  · intro x0 E0 E E2 hrx hT0 hΦ i v hT hrv hInv hKc hFr0 x hx v2 hr2 hXs hag hfr hFr hT2
    rcases i with ⟨i, hi⟩
    have hi2 : i = 0 ∨ i = 1 ∨ i = 2 ∨ i = 3 ∨ i = 4 ∨ i = 5 ∨ i = 6 ∨ i = 7 ∨ i = 8 ∨ i = 9 ∨ i = 10 := by omega
    rcases hi2 with rfl | rfl | rfl | rfl | rfl | rfl | rfl | rfl | rfl | rfl | rfl
    · cases hx
    · cases hx
    · cases hx
    · cases hx
    · cases hx
    · cases hx
    · cases hx
    · cases hx
    · have hx : x ∈ [zxfsk_gr0] := hx
      have hag : ∀ k, k < 4 → v2 k = v k := hag
      have hfr : xFr [] _ _ := hfr
      have ex := List.mem_singleton.mp hx
      subst ex
      obtain ⟨hF, hBd, hM⟩ := hXs
      have g1 : v2 1 = v 1 := hag 1 (by decide)
      have g2 : v2 2 = v 2 := hag 2 (by decide)
      have g3 : v2 3 = v 3 := hag 3 (by decide)
      have b0 : ((2147483649 : Nat) : Int) ≤ (v2 3) + 2147483648 ∧ (v2 3) + 2147483648 ≤ ((2147483657 : Nat) : Int) := xXb hBd 0 rfl
      have k0 : xE E 74 36 = v 3 := xKcf hKc 0 rfl rfl
      have f0 : ¬ (v2 3) = 0 := xXf hF 0 rfl
      have e74_36 : xE E2 74 36 = xE E 74 36 := xFr_E hfr rfl
      have e74_37 : xE E2 74 37 = xE E 74 37 := xFr_E hfr rfl
      have e74_38 : xE E2 74 38 = xE E 74 38 := xFr_E hfr rfl
      have e74_39 : xE E2 74 39 = xE E 74 39 := xFr_E hfr rfl
      have e74_40 : xE E2 74 40 = xE E 74 40 := xFr_E hfr rfl
      have e74_41 : xE E2 74 41 = xE E 74 41 := xFr_E hfr rfl
      have e74_42 : xE E2 74 42 = xE E 74 42 := xFr_E hfr rfl
      have q74_42 : xE E 74 42 = xE E0 74 42 := xFr_E hFr0 rfl
      have e75_0 : xE E2 75 0 = xE E 75 0 := xFr_E hfr rfl
      have q75_0 : xE E 75 0 = xE E0 75 0 := xFr_E hFr0 rfl
      have e75_1 : xE E2 75 1 = xE E 75 1 := xFr_E hfr rfl
      have q75_1 : xE E 75 1 = xE E0 75 1 := xFr_E hFr0 rfl
      have e75_2 : xE E2 75 2 = xE E 75 2 := xFr_E hfr rfl
      have q75_2 : xE E 75 2 = xE E0 75 2 := xFr_E hFr0 rfl
      have e84 : ∀ i, xE E2 84 i = xE E 84 i := fun i => xFr_E hfr rfl
      have q84 : ∀ i, xE E 84 i = xE E0 84 i := fun i => xFr_E hFr0 rfl
      have e75 : ∀ i, xE E2 75 i = xE E 75 i := fun i => xFr_E hfr rfl
      have hI : (∀ k, xE E 75 k = xE E0 75 k) ∧ (xE E 74 36 = 0 → (0 ≤ (v 1) ∧ (v 1) ≤ 30) ∧ ∃ p, (p) ≤ (xE E0 74 42) ∧ xRD (xE E0 84) (xE E0 74 42) (p) E ∧ pStuck (xE E0 84) (xE E0 74 42) (xE E0 74 39) (xE E0 75) = .ok (p, uS (xE E0 75) (72 + (v 1)) (v 2))) ∧ (¬ xE E 74 36 = 0 → xEr E (pStuck (xE E0 84) (xE E0 74 42) (xE E0 74 39) (xE E0 75))) := hInv
      show xΨsk x0 E0 E2 0
      obtain ⟨hc, i1, i2⟩ := hI
      have hEE : E2 = E := xFr_n hfr
      exact xRs_e (xEr_k (i2 (by omega)) (by omega) (by omega))
    · cases hx
    · have hx : x ∈ [zxfsk_ir0] := hx
      have hag : ∀ k, k < 3 → v2 k = v k := hag
      have hfr : xFr [] _ _ := hfr
      have ex := List.mem_singleton.mp hx
      subst ex
      obtain ⟨hF, hBd, hM⟩ := hXs
      have e74_36 : xE E2 74 36 = xE E 74 36 := xFr_E hfr rfl
      have e74_37 : xE E2 74 37 = xE E 74 37 := xFr_E hfr rfl
      have e74_38 : xE E2 74 38 = xE E 74 38 := xFr_E hfr rfl
      have e74_39 : xE E2 74 39 = xE E 74 39 := xFr_E hfr rfl
      have e74_40 : xE E2 74 40 = xE E 74 40 := xFr_E hfr rfl
      have e74_41 : xE E2 74 41 = xE E 74 41 := xFr_E hfr rfl
      have e74_42 : xE E2 74 42 = xE E 74 42 := xFr_E hfr rfl
      have q74_42 : xE E 74 42 = xE E0 74 42 := xFr_E hFr0 rfl
      have e75_0 : xE E2 75 0 = xE E 75 0 := xFr_E hfr rfl
      have q75_0 : xE E 75 0 = xE E0 75 0 := xFr_E hFr0 rfl
      have e75_1 : xE E2 75 1 = xE E 75 1 := xFr_E hfr rfl
      have q75_1 : xE E 75 1 = xE E0 75 1 := xFr_E hFr0 rfl
      have e75_2 : xE E2 75 2 = xE E 75 2 := xFr_E hfr rfl
      have q75_2 : xE E 75 2 = xE E0 75 2 := xFr_E hFr0 rfl
      have e84 : ∀ i, xE E2 84 i = xE E 84 i := fun i => xFr_E hfr rfl
      have q84 : ∀ i, xE E 84 i = xE E0 84 i := fun i => xFr_E hFr0 rfl
      have e75 : ∀ i, xE E2 75 i = xE E 75 i := fun i => xFr_E hfr rfl
      have hI : xE E 74 36 = 0 ∧ ∃ p U, (p) ≤ (xE E0 74 42) ∧ xRD (xE E0 84) (xE E0 74 42) (p) E ∧ pStuck (xE E0 84) (xE E0 74 42) (xE E0 74 39) (xE E0 75) = .ok (p, U) ∧ ∀ k, 0 ≤ k → xE E 75 k = U k := hInv
      show xΨsk x0 E0 E2 0
      obtain ⟨i1, p, U, hp, hs, i3, i4⟩ := hI
      have hEE : E2 = E := xFr_n hfr
      unfold xΨsk
      rw [i3, hEE]
      exact ⟨i1, hp, hs, fun k k0 _ => i4 k k0⟩
end
section
/-! THE REFERENCE counts free switches, reads one (printed by m23.py) -/
noncomputable def zxfco_zx0 : zyXp := (0, [595, 34359738369, 13, 13], [], [], [], [])
noncomputable def zpfco_z : zyPh := (0, [595, 34359738369, 13, 13], [(0, 4294967295), (0, 4294967295), (0, 4294967295), (0, 4294967295)], [], [])
noncomputable def zxfco_ax0 : zyXp := (4, [595, 34359738369, 0, 0], [], [], [(34359738369, 2147483648, 2147483752)], [])
noncomputable def zpfco_a : zyPh := (0, [595, 34359738369, 13, 13], [(0, 4294967295), (2147483648, 2147483752), (0, 4294967295), (0, 4294967295)], [], [])
noncomputable def zxfco_hx0 : zyXp := (4, [595, 34359738369, 68719476745, 103079215113], [], [(3, 206158430209, 137438953473, 206158430201), (3, 240518168577, 171798691833, 171798691841), (1, 274877906945, 206158430209, 240518168577), (20, 0, 103079215105, 274877906945), (1, 309237645313, 34359738369, 103079215105), (24, 343597383681, 75, 309237645313), (20, 0, 0, 343597383681)], [(34359738369, 2147483648, 2147483752), (68719476737, 2147483648, 2147483679), (103079215105, 2147483648, 2147483678), (137438953473, 2147483649, 2147483652), (171798691841, 2147483649, 2147483653), (206158430209, 2147483648, 2147483664), (240518168577, 2147483648, 2147483663), (274877906945, 2147483649, 2147483679), (309237645313, 2147483648, 2147483782), (343597383681, 2147483649, 4294967295), (68719476745, 2147483649, 2147483680), (103079215113, 2147483649, 2147483679)], [])
noncomputable def zxfco_hx1 : zyXp := (4, [595, 34359738369, 68719476737, 103079215113], [], [(3, 206158430209, 137438953473, 206158430201), (3, 240518168577, 171798691833, 171798691841), (1, 274877906945, 206158430209, 240518168577), (20, 0, 103079215105, 274877906945), (1, 309237645313, 34359738369, 103079215105), (24, 343597383681, 75, 309237645313), (21, 0, 0, 343597383681)], [(34359738369, 2147483648, 2147483752), (68719476737, 2147483648, 2147483679), (103079215105, 2147483648, 2147483678), (137438953473, 2147483649, 2147483652), (171798691841, 2147483649, 2147483653), (206158430209, 2147483648, 2147483664), (240518168577, 2147483648, 2147483663), (274877906945, 2147483649, 2147483679), (309237645313, 2147483648, 2147483782), (343597383681, 0, 2147483648), (103079215113, 2147483649, 2147483679)], [])
noncomputable def zxfco_hr0 : zyXp := (0, [], [68719476737], [(3, 206158430209, 137438953473, 206158430201), (3, 240518168577, 171798691833, 171798691841), (1, 274877906945, 206158430209, 240518168577), (21, 0, 103079215105, 274877906945)], [(68719476737, 2147483648, 2147483679), (103079215105, 2147483648, 2147483679), (137438953473, 2147483649, 2147483652), (171798691841, 2147483649, 2147483653), (206158430209, 2147483648, 2147483664), (240518168577, 2147483648, 2147483663), (274877906945, 2147483648, 2147483679)], [])
noncomputable def zpfco_h : zyPh := (4, [595, 34359738369, 68719476737, 103079215105], [(0, 4294967295), (2147483648, 2147483752), (2147483648, 2147483679), (2147483648, 2147483679), (2147483649, 2147483652), (2147483649, 2147483653)], [(1228800, 137438953473), (1228801, 171798691841)], [])
noncomputable def zpfco (i : Nat) : zyPh := zif (Nat.beq i 0) (zpfco_z) (zif (Nat.beq i 1) (zpfco_a) (zpfco_h))
noncomputable def zXfco (i : Nat) : List zyXp := zif (Nat.beq i 0) ([zxfco_zx0]) (zif (Nat.beq i 1) ([zxfco_ax0]) ([zxfco_hx0, zxfco_hx1]))
noncomputable def zRfco (i : Nat) : List zyXp := zif (Nat.beq i 0) ([]) (zif (Nat.beq i 1) ([]) ([zxfco_hr0]))
noncomputable def zFfco (i : Nat) : zyR := zif (Nat.beq i 0) ([]) (zif (Nat.beq i 1) ([]) ([]))
noncomputable def zSfco (i : Nat) : Nat := zif (Nat.beq i 0) (0) (zif (Nat.beq i 1) (0) (0))
/-- how many switches are told to be free -/
def xΦco (x : Nat → Int) (E : zyEm) : Prop := x 0 = 104 ∧ (1 ≤ xE E 75 0 ∧ xE E 75 0 ≤ 4) ∧ (1 ≤ xE E 75 1 ∧ xE E 75 1 ≤ 5)
def xΨco (_ : Nat → Int) (E _ : zyEm) (r : Int) : Prop := r = pCnt (xE E 75) 104 (gN (xE E 75 0) (xE E 75 1)).toNat ∧ 0 ≤ r ∧ r ≤ 31
noncomputable def fpfco : zyR := []
theorem zyfco_run : zyrS zymx zxi261 (261, 0, 0, 1, 0) 4 zpfco (fun _ _ => []) zFfco zSfco zXfco zRfco 3 = true := by decide +kernel
theorem zyfco_ck : zyAll (fun i => xsubR (zFfco i) fpfco && ((zXfco i).all xckX && (zRfco i).all (fun x => xckX x && xrtB true x))) 3 = true := by decide +kernel
def xIfco (i : Nat) (x0 : Nat → Int) (E0 : zyEm) (v : Nat → Int) (E : zyEm) : Prop := if i = 0 then (E = E0 ∧ (v 1) = x0 0) else if i = 1 then (E = E0 ∧ (v 1) = 104) else (E = E0 ∧ (v 1) = 104 ∧ (0 ≤ (v 3) ∧ (v 3) ≤ gN (xE E0 75 0) (xE E0 75 1)) ∧ (v 2) = pCnt (xE E0 75) 104 ((v 3)).toNat)
def xMfco (i : Nat) (x0 : Nat → Int) (E0 : zyEm) (v : Nat → Int) (E : zyEm) : Nat := if i = 0 then (1000) else if i = 1 then (900) else ((100 - (v 3)).toNat)
theorem xCo {l : Launch} {en : zEn} {me : zMe} (hen : zG zxMeta 261 = some en) (hme : zG zMeth 261 = some me) : xFc l zymx en me 4 [74] 1 fpfco true xΦco xΨco := by
  have een : zG zxMeta 261 = some (zxi261, 2, 4, 11, 261, 0, 0, 1, 0) := rfl
  obtain ⟨me1, hme1, hOK⟩ := zall hen
  rw [hme] at hme1
  cases hme1
  rw [een] at hen
  cases hen
  have hr := zyfco_run
  have hck := fun i hi => zyAll_iff zyfco_ck i hi
  simp only [Bool.and_eq_true] at hck
  intro B
  refine xcut (mi := zymx) (B := B) hOK rfl rfl (ι := Fin 3) (fun i => zpfco i.val) (fun _ _ => []) (fun i => zFfco i.val) (fun i => zSfco i.val) (fun i => zXfco i.val) (fun i => zRfco i.val) (fun i y2 ct en2 me2 h => by cases h) 200000 (fun i => zyAll_iff hr i.val i.isLt) (fun i => (hck i.val i.isLt).1) (fun i => (hck i.val i.isLt).2.1) (fun i => (hck i.val i.isLt).2.2) ⟨0, by decide⟩ ⟨rfl, rfl, rfl, rfl⟩ ⟨by decide, by decide⟩ (fun i x0 E0 v E => xIfco i.val x0 E0 v E) (fun i x0 E0 v E => xMfco i.val x0 E0 v E) ?_ ?_ ?_
  · intro x0 E hx0 hT hΦ
    have hΦ : xΦco x0 E := hΦ
    refine ⟨fun k p hp => ?_, ?_⟩
    · have hk : k < 4 := (List.getElem?_eq_some_iff.mp hp).1
      have hk : k = 0 ∨ k = 1 ∨ k = 2 ∨ k = 3 := by omega
      rcases hk with rfl | rfl | rfl | rfl
      · have hp : some (0, 4294967295) = some p := hp
        cases hp
        show ((0 : Nat) : Int) ≤ 0 + 2147483648 ∧ 0 + 2147483648 ≤ ((4294967295 : Nat) : Int)
        omega
      · have hp : some (0, 4294967295) = some p := hp
        cases hp
        show ((0 : Nat) : Int) ≤ x0 0 + 2147483648 ∧ x0 0 + 2147483648 ≤ ((4294967295 : Nat) : Int)
        have hx := hx0 0
        omega
      · have hp : some (0, 4294967295) = some p := hp
        cases hp
        show ((0 : Nat) : Int) ≤ x0 1 + 2147483648 ∧ x0 1 + 2147483648 ≤ ((4294967295 : Nat) : Int)
        have hx := hx0 1
        omega
      · have hp : some (0, 4294967295) = some p := hp
        cases hp
        show ((0 : Nat) : Int) ≤ x0 2 + 2147483648 ∧ x0 2 + 2147483648 ≤ ((4294967295 : Nat) : Int)
        have hx := hx0 2
        omega
    · show E = E ∧ (x0 0) = x0 0
      exact ⟨rfl, rfl⟩
  · intro x0 s Wg hRu hrx hT0 hΦ i v H hT hrv hInv hKc hFr0 hIH x hx ρ2 v2 N2 H2 locs lsB stA hAt hB hv hr2 hXs hag hfr hFr hT2
    rcases i with ⟨i, hi⟩
    have hi2 : i = 0 ∨ i = 1 ∨ i = 2 := by omega
    rcases hi2 with rfl | rfl | rfl
    · have hx : x ∈ [zxfco_zx0] := hx
      have hag : ∀ k, k < 4 → v2 k = v k := hag
      have hfr : xFr [] _ _ := hfr
      have ex := List.mem_singleton.mp hx
      subst ex
      obtain ⟨hF, hBd, hM⟩ := hXs
      have r1 := hr2 1
      have g1 : v2 1 = v 1 := hag 1 (by decide)
      have e75_0 : xE (zyEl zymx B H2) 75 0 = xE (zyEl zymx B H) 75 0 := xFr_E hfr rfl
      have q75_0 : xE (zyEl zymx B H) 75 0 = xE (zyEl zymx B s.heap) 75 0 := xFr_E hFr0 rfl
      have e75_1 : xE (zyEl zymx B H2) 75 1 = xE (zyEl zymx B H) 75 1 := xFr_E hfr rfl
      have q75_1 : xE (zyEl zymx B H) 75 1 = xE (zyEl zymx B s.heap) 75 1 := xFr_E hFr0 rfl
      have e75 : ∀ i, xE (zyEl zymx B H2) 75 i = xE (zyEl zymx B H) 75 i := fun i => xFr_E hfr rfl
      have q75 : ∀ i, xE (zyEl zymx B H) 75 i = xE (zyEl zymx B s.heap) 75 i := fun i => xFr_E hFr0 rfl
      have hI : (zyEl zymx B H) = (zyEl zymx B s.heap) ∧ (v 1) = x0 0 := hInv
      obtain ⟨hE, i1⟩ := hI
      obtain ⟨hP1, hP2, hP3⟩ := (show xΦco x0 (zyEl zymx B s.heap) from hΦ)
      refine xGo hIH hAt hB hv hFr ⟨1, by decide⟩ [0, 34359738369, 0, 0] [0, (v2 1), 0, 0] rfl ⟨by decide +kernel, ⟨rfl, by decide +kernel⟩, (xcs_c rfl (xcs_c rfl (xcs_c rfl (xcs_c rfl xcs_n)))), (xe_0 (xe_c (by omega) (by omega) rfl (xe_0 (xe_0 xe_n)))), xkq_n⟩ xst_n ?_ ?_
      · show (zyEl zymx B H2) = (zyEl zymx B s.heap) ∧ ((v2 1) : Int) = 104
        exact ⟨(xFr_n hfr).trans hE, by omega⟩
      · show 900 < 1000
        omega
    · have hx : x ∈ [zxfco_ax0] := hx
      have hag : ∀ k, k < 4 → v2 k = v k := hag
      have hfr : xFr [] _ _ := hfr
      have ex := List.mem_singleton.mp hx
      subst ex
      obtain ⟨hF, hBd, hM⟩ := hXs
      have g1 : v2 1 = v 1 := hag 1 (by decide)
      have b0 : ((2147483648 : Nat) : Int) ≤ (v2 1) + 2147483648 ∧ (v2 1) + 2147483648 ≤ ((2147483752 : Nat) : Int) := xXb hBd 0 rfl
      have e75_0 : xE (zyEl zymx B H2) 75 0 = xE (zyEl zymx B H) 75 0 := xFr_E hfr rfl
      have q75_0 : xE (zyEl zymx B H) 75 0 = xE (zyEl zymx B s.heap) 75 0 := xFr_E hFr0 rfl
      have e75_1 : xE (zyEl zymx B H2) 75 1 = xE (zyEl zymx B H) 75 1 := xFr_E hfr rfl
      have q75_1 : xE (zyEl zymx B H) 75 1 = xE (zyEl zymx B s.heap) 75 1 := xFr_E hFr0 rfl
      have e75 : ∀ i, xE (zyEl zymx B H2) 75 i = xE (zyEl zymx B H) 75 i := fun i => xFr_E hfr rfl
      have q75 : ∀ i, xE (zyEl zymx B H) 75 i = xE (zyEl zymx B s.heap) 75 i := fun i => xFr_E hFr0 rfl
      have hI : (zyEl zymx B H) = (zyEl zymx B s.heap) ∧ (v 1) = 104 := hInv
      obtain ⟨hE, i1⟩ := hI
      obtain ⟨hP1, hP2, hP3⟩ := (show xΦco x0 (zyEl zymx B s.heap) from hΦ)
      have hn := gN_r hP2 hP3
      have z75_0 : ((0 : Nat) : Int) ≤ xE (zyEl zymx B H2) 75 0 + 2147483648 ∧ xE (zyEl zymx B H2) 75 0 + 2147483648 ≤ ((4294967295 : Nat) : Int) := xTyF hT2 75 0 0 rfl rfl rfl rfl rfl rfl
      have z75_1 : ((0 : Nat) : Int) ≤ xE (zyEl zymx B H2) 75 1 + 2147483648 ∧ xE (zyEl zymx B H2) 75 1 + 2147483648 ≤ ((4294967295 : Nat) : Int) := xTyF hT2 75 1 0 rfl rfl rfl rfl rfl rfl
      refine xGo hIH hAt hB hv hFr ⟨2, by decide⟩ [0, 34359738369, 0, 0] [0, (v2 1), 0, 0, xE (zyEl zymx B H2) 75 0, xE (zyEl zymx B H2) 75 1] rfl ⟨by decide +kernel, ⟨rfl, by decide +kernel⟩, (xcs_c rfl (xcs_c rfl (xcs_c rfl (xcs_c rfl xcs_n)))), (xe_0 (xe_c (by omega) (by omega) rfl (xe_c (by omega) (by omega) rfl (xe_c (by omega) (by omega) rfl (xe_c (by omega) (by omega) rfl (xe_c (by omega) (by omega) rfl xe_n)))))), (xkq_c hT2 75 0 (q := 0) rfl rfl rfl rfl rfl rfl rfl rfl rfl rfl rfl (xkq_c hT2 75 1 (q := 0) rfl rfl rfl rfl rfl rfl rfl rfl rfl rfl rfl xkq_n))⟩ xst_n ?_ ?_
      · show (zyEl zymx B H2) = (zyEl zymx B s.heap) ∧ ((v2 1) : Int) = 104 ∧ (0 ≤ (0 : Int) ∧ (0 : Int) ≤ gN (xE (zyEl zymx B s.heap) 75 0) (xE (zyEl zymx B s.heap) 75 1)) ∧ (0 : Int) = pCnt (xE (zyEl zymx B s.heap) 75) 104 ((0 : Int)).toNat
        exact ⟨(xFr_n hfr).trans hE, by omega, by omega, rfl⟩
      · show (100 - (0 : Int)).toNat < 900
        omega
    · have hx : x ∈ [zxfco_hx0, zxfco_hx1] := hx
      have hag : ∀ k, k < 6 → v2 k = v k := hag
      have hfr : xFr [] _ _ := hfr
      rcases List.mem_cons.mp hx with ex | hx
      · subst ex
        obtain ⟨hF, hBd, hM⟩ := hXs
        have g1 : v2 1 = v 1 := hag 1 (by decide)
        have g2 : v2 2 = v 2 := hag 2 (by decide)
        have g3 : v2 3 = v 3 := hag 3 (by decide)
        have g4 : v2 4 = v 4 := hag 4 (by decide)
        have g5 : v2 5 = v 5 := hag 5 (by decide)
        have b0 : ((2147483648 : Nat) : Int) ≤ (v2 1) + 2147483648 ∧ (v2 1) + 2147483648 ≤ ((2147483752 : Nat) : Int) := xXb hBd 0 rfl
        have b1 : ((2147483648 : Nat) : Int) ≤ (v2 2) + 2147483648 ∧ (v2 2) + 2147483648 ≤ ((2147483679 : Nat) : Int) := xXb hBd 1 rfl
        have b2 : ((2147483648 : Nat) : Int) ≤ (v2 3) + 2147483648 ∧ (v2 3) + 2147483648 ≤ ((2147483678 : Nat) : Int) := xXb hBd 2 rfl
        have b3 : ((2147483649 : Nat) : Int) ≤ (v2 4) + 2147483648 ∧ (v2 4) + 2147483648 ≤ ((2147483652 : Nat) : Int) := xXb hBd 3 rfl
        have b4 : ((2147483649 : Nat) : Int) ≤ (v2 5) + 2147483648 ∧ (v2 5) + 2147483648 ≤ ((2147483653 : Nat) : Int) := xXb hBd 4 rfl
        have b5 : ((2147483648 : Nat) : Int) ≤ (v2 6) + 2147483648 ∧ (v2 6) + 2147483648 ≤ ((2147483664 : Nat) : Int) := xXb hBd 5 rfl
        have b6 : ((2147483648 : Nat) : Int) ≤ (v2 7) + 2147483648 ∧ (v2 7) + 2147483648 ≤ ((2147483663 : Nat) : Int) := xXb hBd 6 rfl
        have b7 : ((2147483649 : Nat) : Int) ≤ (v2 8) + 2147483648 ∧ (v2 8) + 2147483648 ≤ ((2147483679 : Nat) : Int) := xXb hBd 7 rfl
        have b8 : ((2147483648 : Nat) : Int) ≤ (v2 9) + 2147483648 ∧ (v2 9) + 2147483648 ≤ ((2147483782 : Nat) : Int) := xXb hBd 8 rfl
        have b9 : ((2147483649 : Nat) : Int) ≤ (v2 10) + 2147483648 ∧ (v2 10) + 2147483648 ≤ ((4294967295 : Nat) : Int) := xXb hBd 9 rfl
        have b10 : ((2147483649 : Nat) : Int) ≤ (v2 2 + 1) + 2147483648 ∧ (v2 2 + 1) + 2147483648 ≤ ((2147483680 : Nat) : Int) := xXb hBd 10 rfl
        have b11 : ((2147483649 : Nat) : Int) ≤ (v2 3 + 1) + 2147483648 ∧ (v2 3 + 1) + 2147483648 ≤ ((2147483679 : Nat) : Int) := xXb hBd 11 rfl
        have k0 : xE (zyEl zymx B H) 75 0 = v 4 := xKcf hKc 0 rfl rfl
        have k1 : xE (zyEl zymx B H) 75 1 = v 5 := xKcf hKc 1 rfl rfl
        have f0 : -2147483648 ≤ (v2 4) * (v2 5 + (-1)) → (v2 4) * (v2 5 + (-1)) < 2147483648 → (v2 6) = (v2 4) * (v2 5 + (-1)) := xXf hF 0 rfl
        have f1 : -2147483648 ≤ (v2 4 + (-1)) * (v2 5) → (v2 4 + (-1)) * (v2 5) < 2147483648 → (v2 7) = (v2 4 + (-1)) * (v2 5) := xXf hF 1 rfl
        have f2 : -2147483648 ≤ (v2 6) + (v2 7) → (v2 6) + (v2 7) < 2147483648 → (v2 8) = (v2 6) + (v2 7) := xXf hF 2 rfl
        have f2 := f2 (by omega) (by omega)
        have f3 : (v2 3) < (v2 8) := xXf hF 3 rfl
        have f4 : -2147483648 ≤ (v2 1) + (v2 3) → (v2 1) + (v2 3) < 2147483648 → (v2 9) = (v2 1) + (v2 3) := xXf hF 4 rfl
        have f4 := f4 (by omega) (by omega)
        have f5 : (0 : Int) ≤ (v2 9) ∧ xE (zyEl zymx B H) 75 (v2 9) = (v2 10) := xXf hF 5 rfl
        have f6 : 0 < (v2 10) := xXf hF 6 rfl
        have e75_0 : xE (zyEl zymx B H2) 75 0 = xE (zyEl zymx B H) 75 0 := xFr_E hfr rfl
        have q75_0 : xE (zyEl zymx B H) 75 0 = xE (zyEl zymx B s.heap) 75 0 := xFr_E hFr0 rfl
        have e75_1 : xE (zyEl zymx B H2) 75 1 = xE (zyEl zymx B H) 75 1 := xFr_E hfr rfl
        have q75_1 : xE (zyEl zymx B H) 75 1 = xE (zyEl zymx B s.heap) 75 1 := xFr_E hFr0 rfl
        have e75 : ∀ i, xE (zyEl zymx B H2) 75 i = xE (zyEl zymx B H) 75 i := fun i => xFr_E hfr rfl
        have q75 : ∀ i, xE (zyEl zymx B H) 75 i = xE (zyEl zymx B s.heap) 75 i := fun i => xFr_E hFr0 rfl
        have hI : (zyEl zymx B H) = (zyEl zymx B s.heap) ∧ (v 1) = 104 ∧ (0 ≤ (v 3) ∧ (v 3) ≤ gN (xE (zyEl zymx B s.heap) 75 0) (xE (zyEl zymx B s.heap) 75 1)) ∧ (v 2) = pCnt (xE (zyEl zymx B s.heap) 75) 104 ((v 3)).toNat := hInv
        obtain ⟨hE, i1, i2, i3⟩ := hI
        obtain ⟨hP1, hP2, hP3⟩ := (show xΦco x0 (zyEl zymx B s.heap) from hΦ)
        have h750 := q75 0
        have h751 := q75 1
        obtain ⟨w1, w2, w3, w4, w5, w6⟩ := gN_of (r := (v2 4)) (c := (v2 5)) (A := (v2 5 + (-1))) (B := (v2 4 + (-1))) (by omega) (by omega) (by omega) (by omega) f0 f1
        rw [show (v2 4) = xE (zyEl zymx B s.heap) 75 0 by omega, show (v2 5) = xE (zyEl zymx B s.heap) 75 1 by omega] at w1 w6
        have hcb := (pCnt_b (S := xE (zyEl zymx B s.heap) 75) (o := 104) (v 3).toNat)
        have z75_0 : ((0 : Nat) : Int) ≤ xE (zyEl zymx B H2) 75 0 + 2147483648 ∧ xE (zyEl zymx B H2) 75 0 + 2147483648 ≤ ((4294967295 : Nat) : Int) := xTyF hT2 75 0 0 rfl rfl rfl rfl rfl rfl
        have z75_1 : ((0 : Nat) : Int) ≤ xE (zyEl zymx B H2) 75 1 + 2147483648 ∧ xE (zyEl zymx B H2) 75 1 + 2147483648 ≤ ((4294967295 : Nat) : Int) := xTyF hT2 75 1 0 rfl rfl rfl rfl rfl rfl
        refine xGo hIH hAt hB hv hFr ⟨2, by decide⟩ [0, 34359738369, 68719476745, 103079215113] [0, (v2 1), (v2 2 + 1), (v2 3 + 1), xE (zyEl zymx B H2) 75 0, xE (zyEl zymx B H2) 75 1] rfl ⟨by decide +kernel, ⟨rfl, by decide +kernel⟩, (xcs_c rfl (xcs_c rfl (xcs_c rfl (xcs_c rfl xcs_n)))), (xe_0 (xe_c (by omega) (by omega) rfl (xe_c (by omega) (by omega) rfl (xe_c (by omega) (by omega) rfl (xe_c (by omega) (by omega) rfl (xe_c (by omega) (by omega) rfl xe_n)))))), (xkq_c hT2 75 0 (q := 0) rfl rfl rfl rfl rfl rfl rfl rfl rfl rfl rfl (xkq_c hT2 75 1 (q := 0) rfl rfl rfl rfl rfl rfl rfl rfl rfl rfl rfl xkq_n))⟩ xst_n ?_ ?_
        · show (zyEl zymx B H2) = (zyEl zymx B s.heap) ∧ ((v2 1) : Int) = 104 ∧ (0 ≤ ((v2 3 + 1) : Int) ∧ ((v2 3 + 1) : Int) ≤ gN (xE (zyEl zymx B s.heap) 75 0) (xE (zyEl zymx B s.heap) 75 1)) ∧ ((v2 2 + 1) : Int) = pCnt (xE (zyEl zymx B s.heap) 75) 104 (((v2 3 + 1) : Int)).toNat
          refine ⟨(xFr_n hfr).trans hE, by omega, by omega, ?_⟩
          have e : xE (zyEl zymx B s.heap) 75 (104 + v 3) = (v2 10) := by
            rw [← q75, show (104 : Int) + v 3 = (v2 9) by omega]
            exact f5.2
          rw [show v2 3 + 1 = v 3 + 1 by omega, pCnt_s (by omega), e, if_pos (by omega)]
          omega
        · show (100 - ((v2 3 + 1) : Int)).toNat < (100 - (v 3)).toNat
          omega
      · skip
        have ex := List.mem_singleton.mp hx
        subst ex
        obtain ⟨hF, hBd, hM⟩ := hXs
        have g1 : v2 1 = v 1 := hag 1 (by decide)
        have g2 : v2 2 = v 2 := hag 2 (by decide)
        have g3 : v2 3 = v 3 := hag 3 (by decide)
        have g4 : v2 4 = v 4 := hag 4 (by decide)
        have g5 : v2 5 = v 5 := hag 5 (by decide)
        have b0 : ((2147483648 : Nat) : Int) ≤ (v2 1) + 2147483648 ∧ (v2 1) + 2147483648 ≤ ((2147483752 : Nat) : Int) := xXb hBd 0 rfl
        have b1 : ((2147483648 : Nat) : Int) ≤ (v2 2) + 2147483648 ∧ (v2 2) + 2147483648 ≤ ((2147483679 : Nat) : Int) := xXb hBd 1 rfl
        have b2 : ((2147483648 : Nat) : Int) ≤ (v2 3) + 2147483648 ∧ (v2 3) + 2147483648 ≤ ((2147483678 : Nat) : Int) := xXb hBd 2 rfl
        have b3 : ((2147483649 : Nat) : Int) ≤ (v2 4) + 2147483648 ∧ (v2 4) + 2147483648 ≤ ((2147483652 : Nat) : Int) := xXb hBd 3 rfl
        have b4 : ((2147483649 : Nat) : Int) ≤ (v2 5) + 2147483648 ∧ (v2 5) + 2147483648 ≤ ((2147483653 : Nat) : Int) := xXb hBd 4 rfl
        have b5 : ((2147483648 : Nat) : Int) ≤ (v2 6) + 2147483648 ∧ (v2 6) + 2147483648 ≤ ((2147483664 : Nat) : Int) := xXb hBd 5 rfl
        have b6 : ((2147483648 : Nat) : Int) ≤ (v2 7) + 2147483648 ∧ (v2 7) + 2147483648 ≤ ((2147483663 : Nat) : Int) := xXb hBd 6 rfl
        have b7 : ((2147483649 : Nat) : Int) ≤ (v2 8) + 2147483648 ∧ (v2 8) + 2147483648 ≤ ((2147483679 : Nat) : Int) := xXb hBd 7 rfl
        have b8 : ((2147483648 : Nat) : Int) ≤ (v2 9) + 2147483648 ∧ (v2 9) + 2147483648 ≤ ((2147483782 : Nat) : Int) := xXb hBd 8 rfl
        have b9 : ((0 : Nat) : Int) ≤ (v2 10) + 2147483648 ∧ (v2 10) + 2147483648 ≤ ((2147483648 : Nat) : Int) := xXb hBd 9 rfl
        have b10 : ((2147483649 : Nat) : Int) ≤ (v2 3 + 1) + 2147483648 ∧ (v2 3 + 1) + 2147483648 ≤ ((2147483679 : Nat) : Int) := xXb hBd 10 rfl
        have k0 : xE (zyEl zymx B H) 75 0 = v 4 := xKcf hKc 0 rfl rfl
        have k1 : xE (zyEl zymx B H) 75 1 = v 5 := xKcf hKc 1 rfl rfl
        have f0 : -2147483648 ≤ (v2 4) * (v2 5 + (-1)) → (v2 4) * (v2 5 + (-1)) < 2147483648 → (v2 6) = (v2 4) * (v2 5 + (-1)) := xXf hF 0 rfl
        have f1 : -2147483648 ≤ (v2 4 + (-1)) * (v2 5) → (v2 4 + (-1)) * (v2 5) < 2147483648 → (v2 7) = (v2 4 + (-1)) * (v2 5) := xXf hF 1 rfl
        have f2 : -2147483648 ≤ (v2 6) + (v2 7) → (v2 6) + (v2 7) < 2147483648 → (v2 8) = (v2 6) + (v2 7) := xXf hF 2 rfl
        have f2 := f2 (by omega) (by omega)
        have f3 : (v2 3) < (v2 8) := xXf hF 3 rfl
        have f4 : -2147483648 ≤ (v2 1) + (v2 3) → (v2 1) + (v2 3) < 2147483648 → (v2 9) = (v2 1) + (v2 3) := xXf hF 4 rfl
        have f4 := f4 (by omega) (by omega)
        have f5 : (0 : Int) ≤ (v2 9) ∧ xE (zyEl zymx B H) 75 (v2 9) = (v2 10) := xXf hF 5 rfl
        have f6 : (v2 10) ≤ 0 := xXf hF 6 rfl
        have e75_0 : xE (zyEl zymx B H2) 75 0 = xE (zyEl zymx B H) 75 0 := xFr_E hfr rfl
        have q75_0 : xE (zyEl zymx B H) 75 0 = xE (zyEl zymx B s.heap) 75 0 := xFr_E hFr0 rfl
        have e75_1 : xE (zyEl zymx B H2) 75 1 = xE (zyEl zymx B H) 75 1 := xFr_E hfr rfl
        have q75_1 : xE (zyEl zymx B H) 75 1 = xE (zyEl zymx B s.heap) 75 1 := xFr_E hFr0 rfl
        have e75 : ∀ i, xE (zyEl zymx B H2) 75 i = xE (zyEl zymx B H) 75 i := fun i => xFr_E hfr rfl
        have q75 : ∀ i, xE (zyEl zymx B H) 75 i = xE (zyEl zymx B s.heap) 75 i := fun i => xFr_E hFr0 rfl
        have hI : (zyEl zymx B H) = (zyEl zymx B s.heap) ∧ (v 1) = 104 ∧ (0 ≤ (v 3) ∧ (v 3) ≤ gN (xE (zyEl zymx B s.heap) 75 0) (xE (zyEl zymx B s.heap) 75 1)) ∧ (v 2) = pCnt (xE (zyEl zymx B s.heap) 75) 104 ((v 3)).toNat := hInv
        obtain ⟨hE, i1, i2, i3⟩ := hI
        obtain ⟨hP1, hP2, hP3⟩ := (show xΦco x0 (zyEl zymx B s.heap) from hΦ)
        have h750 := q75 0
        have h751 := q75 1
        obtain ⟨w1, w2, w3, w4, w5, w6⟩ := gN_of (r := (v2 4)) (c := (v2 5)) (A := (v2 5 + (-1))) (B := (v2 4 + (-1))) (by omega) (by omega) (by omega) (by omega) f0 f1
        rw [show (v2 4) = xE (zyEl zymx B s.heap) 75 0 by omega, show (v2 5) = xE (zyEl zymx B s.heap) 75 1 by omega] at w1 w6
        have hcb := (pCnt_b (S := xE (zyEl zymx B s.heap) 75) (o := 104) (v 3).toNat)
        have z75_0 : ((0 : Nat) : Int) ≤ xE (zyEl zymx B H2) 75 0 + 2147483648 ∧ xE (zyEl zymx B H2) 75 0 + 2147483648 ≤ ((4294967295 : Nat) : Int) := xTyF hT2 75 0 0 rfl rfl rfl rfl rfl rfl
        have z75_1 : ((0 : Nat) : Int) ≤ xE (zyEl zymx B H2) 75 1 + 2147483648 ∧ xE (zyEl zymx B H2) 75 1 + 2147483648 ≤ ((4294967295 : Nat) : Int) := xTyF hT2 75 1 0 rfl rfl rfl rfl rfl rfl
        refine xGo hIH hAt hB hv hFr ⟨2, by decide⟩ [0, 34359738369, 68719476737, 103079215113] [0, (v2 1), (v2 2), (v2 3 + 1), xE (zyEl zymx B H2) 75 0, xE (zyEl zymx B H2) 75 1] rfl ⟨by decide +kernel, ⟨rfl, by decide +kernel⟩, (xcs_c rfl (xcs_c rfl (xcs_c rfl (xcs_c rfl xcs_n)))), (xe_0 (xe_c (by omega) (by omega) rfl (xe_c (by omega) (by omega) rfl (xe_c (by omega) (by omega) rfl (xe_c (by omega) (by omega) rfl (xe_c (by omega) (by omega) rfl xe_n)))))), (xkq_c hT2 75 0 (q := 0) rfl rfl rfl rfl rfl rfl rfl rfl rfl rfl rfl (xkq_c hT2 75 1 (q := 0) rfl rfl rfl rfl rfl rfl rfl rfl rfl rfl rfl xkq_n))⟩ xst_n ?_ ?_
        · show (zyEl zymx B H2) = (zyEl zymx B s.heap) ∧ ((v2 1) : Int) = 104 ∧ (0 ≤ ((v2 3 + 1) : Int) ∧ ((v2 3 + 1) : Int) ≤ gN (xE (zyEl zymx B s.heap) 75 0) (xE (zyEl zymx B s.heap) 75 1)) ∧ ((v2 2) : Int) = pCnt (xE (zyEl zymx B s.heap) 75) 104 (((v2 3 + 1) : Int)).toNat
          refine ⟨(xFr_n hfr).trans hE, by omega, by omega, ?_⟩
          have e : xE (zyEl zymx B s.heap) 75 (104 + v 3) = (v2 10) := by
            rw [← q75, show (104 : Int) + v 3 = (v2 9) by omega]
            exact f5.2
          rw [show v2 3 + 1 = v 3 + 1 by omega, pCnt_s (by omega), e, if_neg (by omega)]
          omega
        · show (100 - ((v2 3 + 1) : Int)).toNat < (100 - (v 3)).toNat
          omega
  · intro x0 E0 E E2 hrx hT0 hΦ i v hT hrv hInv hKc hFr0 x hx v2 hr2 hXs hag hfr hFr hT2
    rcases i with ⟨i, hi⟩
    have hi2 : i = 0 ∨ i = 1 ∨ i = 2 := by omega
    rcases hi2 with rfl | rfl | rfl
    · cases hx
    · cases hx
    · have hx : x ∈ [zxfco_hr0] := hx
      have hag : ∀ k, k < 6 → v2 k = v k := hag
      have hfr : xFr [] _ _ := hfr
      have ex := List.mem_singleton.mp hx
      subst ex
      obtain ⟨hF, hBd, hM⟩ := hXs
      have g1 : v2 1 = v 1 := hag 1 (by decide)
      have g2 : v2 2 = v 2 := hag 2 (by decide)
      have g3 : v2 3 = v 3 := hag 3 (by decide)
      have g4 : v2 4 = v 4 := hag 4 (by decide)
      have g5 : v2 5 = v 5 := hag 5 (by decide)
      have b0 : ((2147483648 : Nat) : Int) ≤ (v2 2) + 2147483648 ∧ (v2 2) + 2147483648 ≤ ((2147483679 : Nat) : Int) := xXb hBd 0 rfl
      have b1 : ((2147483648 : Nat) : Int) ≤ (v2 3) + 2147483648 ∧ (v2 3) + 2147483648 ≤ ((2147483679 : Nat) : Int) := xXb hBd 1 rfl
      have b2 : ((2147483649 : Nat) : Int) ≤ (v2 4) + 2147483648 ∧ (v2 4) + 2147483648 ≤ ((2147483652 : Nat) : Int) := xXb hBd 2 rfl
      have b3 : ((2147483649 : Nat) : Int) ≤ (v2 5) + 2147483648 ∧ (v2 5) + 2147483648 ≤ ((2147483653 : Nat) : Int) := xXb hBd 3 rfl
      have b4 : ((2147483648 : Nat) : Int) ≤ (v2 6) + 2147483648 ∧ (v2 6) + 2147483648 ≤ ((2147483664 : Nat) : Int) := xXb hBd 4 rfl
      have b5 : ((2147483648 : Nat) : Int) ≤ (v2 7) + 2147483648 ∧ (v2 7) + 2147483648 ≤ ((2147483663 : Nat) : Int) := xXb hBd 5 rfl
      have b6 : ((2147483648 : Nat) : Int) ≤ (v2 8) + 2147483648 ∧ (v2 8) + 2147483648 ≤ ((2147483679 : Nat) : Int) := xXb hBd 6 rfl
      have k0 : xE E 75 0 = v 4 := xKcf hKc 0 rfl rfl
      have k1 : xE E 75 1 = v 5 := xKcf hKc 1 rfl rfl
      have f0 : -2147483648 ≤ (v2 4) * (v2 5 + (-1)) → (v2 4) * (v2 5 + (-1)) < 2147483648 → (v2 6) = (v2 4) * (v2 5 + (-1)) := xXf hF 0 rfl
      have f1 : -2147483648 ≤ (v2 4 + (-1)) * (v2 5) → (v2 4 + (-1)) * (v2 5) < 2147483648 → (v2 7) = (v2 4 + (-1)) * (v2 5) := xXf hF 1 rfl
      have f2 : -2147483648 ≤ (v2 6) + (v2 7) → (v2 6) + (v2 7) < 2147483648 → (v2 8) = (v2 6) + (v2 7) := xXf hF 2 rfl
      have f2 := f2 (by omega) (by omega)
      have f3 : (v2 8) ≤ (v2 3) := xXf hF 3 rfl
      have e75_0 : xE E2 75 0 = xE E 75 0 := xFr_E hfr rfl
      have q75_0 : xE E 75 0 = xE E0 75 0 := xFr_E hFr0 rfl
      have e75_1 : xE E2 75 1 = xE E 75 1 := xFr_E hfr rfl
      have q75_1 : xE E 75 1 = xE E0 75 1 := xFr_E hFr0 rfl
      have e75 : ∀ i, xE E2 75 i = xE E 75 i := fun i => xFr_E hfr rfl
      have q75 : ∀ i, xE E 75 i = xE E0 75 i := fun i => xFr_E hFr0 rfl
      have hI : E = E0 ∧ (v 1) = 104 ∧ (0 ≤ (v 3) ∧ (v 3) ≤ gN (xE E0 75 0) (xE E0 75 1)) ∧ (v 2) = pCnt (xE E0 75) 104 ((v 3)).toNat := hInv
      show xΨco x0 E0 E2 (v2 2)
      obtain ⟨hE, i1, i2, i3⟩ := hI
      obtain ⟨hP1, hP2, hP3⟩ := (show xΦco x0 E0 from hΦ)
      have h750 := q75 0
      have h751 := q75 1
      obtain ⟨w1, w2, w3, w4, w5, w6⟩ := gN_of (r := (v2 4)) (c := (v2 5)) (A := (v2 5 + (-1))) (B := (v2 4 + (-1))) (by omega) (by omega) (by omega) (by omega) f0 f1
      rw [show (v2 4) = xE E0 75 0 by omega, show (v2 5) = xE E0 75 1 by omega] at w1 w6
      have hcb := (pCnt_b (S := xE E0 75) (o := 104) (v 3).toNat)
      unfold xΨco
      rw [show gN (xE E0 75 0) (xE E0 75 1) = v 3 by omega]
      exact ⟨by omega, by omega, by omega⟩
noncomputable def zxffr_zx0 : zyXp := (0, [595, 13], [], [], [], [])
noncomputable def zpffr_z : zyPh := (0, [595, 13], [(0, 4294967295), (0, 4294967295)], [], [])
noncomputable def zxffr_ax0 : zyXp := (4, [595, 13], [832, 595, 595], [], [], [])
noncomputable def zpffr_a : zyPh := (0, [595, 13], [(0, 4294967295), (0, 4294967295)], [], [])
noncomputable def zxffr_bx0 : zyXp := (31, [595, 13], [595], [(20, 0, 206158430209, 48), (21, 0, 0, 68719476737)], [(68719476737, 2147483648, 2147483648), (206158430209, 2147483648, 2147483653)], [(1212452, 68719476737), (1212453, 103079215105)])
noncomputable def zxffr_br0 : zyXp := (0, [], [], [(20, 0, 206158430209, 48), (20, 0, 0, 68719476737)], [(68719476737, 2147483649, 2147483657), (206158430209, 2147483648, 2147483653)], [(1212452, 68719476737), (1212453, 103079215105)])
noncomputable def zxffr_br1 : zyXp := (0, [], [], [(21, 0, 206158430209, 48), (20, 0, 0, 68719476737), (20, 0, 0, 68719476737)], [(68719476737, 2147483649, 2147483657), (206158430209, 2147483654, 2147483679)], [(1212452, 68719476737), (1212453, 103079215105)])
noncomputable def zxffr_br2 : zyXp := (0, [], [], [(21, 0, 206158430209, 48), (21, 0, 0, 68719476737)], [(68719476737, 2147483648, 2147483648), (137438953473, 2147483648, 2147484548), (206158430209, 2147483654, 2147483679)], [(1212452, 48), (1212453, 137438953473)])
noncomputable def zpffr_b : zyPh := (7, [595, 13], [(0, 4294967295), (0, 4294967295), (2147483648, 2147483657), (0, 4294967295), (2147483648, 2147484548), (2147483648, 2147483652), (2147483648, 2147483679)], [(1212452, 68719476737), (1212453, 103079215105), (1212454, 137438953473), (1212456, 171798691841)], [206158430209, 595])
noncomputable def zxffr_cx0 : zyXp := (42, [595, 13], [240518168569, 0, 595], [(3, 137438953473, 68719476737, 137438953465), (3, 171798691841, 103079215097, 103079215105), (1, 206158430209, 137438953473, 171798691841)], [(68719476737, 2147483649, 2147483652), (103079215105, 2147483649, 2147483653), (137438953473, 2147483648, 2147483664), (171798691841, 2147483648, 2147483663), (206158430209, 2147483648, 2147483679), (240518168569, 2147483647, 2147483678)], [])
noncomputable def zpffr_c : zyPh := (34, [595, 13], [(0, 4294967295), (0, 4294967295), (2147483649, 2147483652), (2147483649, 2147483653)], [(1228800, 68719476737), (1228801, 103079215105)], [])
noncomputable def zxffr_dx0 : zyXp := (53, [595, 103079215105], [], [(22, 0, 68719476737, 0)], [(68719476737, 2147483648, 2147483648)], [])
noncomputable def zxffr_dr0 : zyXp := (0, [], [], [(23, 0, 68719476737, 0)], [(68719476737, 2147483649, 2147483657)], [])
noncomputable def zpffr_d : zyPh := (45, [595, 13], [(0, 4294967295), (0, 4294967295), (2147483648, 2147483657), (0, 4294967295)], [(1212452, 68719476737)], [103079215105])
noncomputable def zxffr_d2x0 : zyXp := (62, [595, 34359738369], [8, 34359739201, 603], [], [(34359738369, 2147483648, 2147483678), (34359739201, 2147483752, 2147483782)], [])
noncomputable def zpffr_d2 : zyPh := (53, [595, 34359738369], [(0, 4294967295), (2147483648, 2147483678)], [], [])
noncomputable def zxffr_er0 : zyXp := (0, [], [], [], [], [])
noncomputable def zpffr_e : zyPh := (63, [595, 13], [(0, 4294967295), (0, 4294967295)], [], [])
noncomputable def zpffr (i : Nat) : zyPh := zif (Nat.beq i 0) (zpffr_z) (zif (Nat.beq i 1) (zpffr_a) (zif (Nat.beq i 2) (zpffr_b) (zif (Nat.beq i 3) (zpffr_c) (zif (Nat.beq i 4) (zpffr_d) (zif (Nat.beq i 5) (zpffr_d2) (zpffr_e))))))
noncomputable def zXffr (i : Nat) : List zyXp := zif (Nat.beq i 0) ([zxffr_zx0]) (zif (Nat.beq i 1) ([zxffr_ax0]) (zif (Nat.beq i 2) ([zxffr_bx0]) (zif (Nat.beq i 3) ([zxffr_cx0]) (zif (Nat.beq i 4) ([zxffr_dx0]) (zif (Nat.beq i 5) ([zxffr_d2x0]) ([]))))))
noncomputable def zRffr (i : Nat) : List zyXp := zif (Nat.beq i 0) ([]) (zif (Nat.beq i 1) ([]) (zif (Nat.beq i 2) ([zxffr_br0, zxffr_br1, zxffr_br2]) (zif (Nat.beq i 3) ([]) (zif (Nat.beq i 4) ([zxffr_dr0]) (zif (Nat.beq i 5) ([]) ([zxffr_er0]))))))
noncomputable def zFffr (i : Nat) : zyR := zif (Nat.beq i 0) ([]) (zif (Nat.beq i 1) ([]) (zif (Nat.beq i 2) ([(74, 36, 37)]) (zif (Nat.beq i 3) ([]) (zif (Nat.beq i 4) ([]) (zif (Nat.beq i 5) ([]) ([]))))))
noncomputable def zSffr (i : Nat) : Nat := zif (Nat.beq i 0) (0) (zif (Nat.beq i 1) (0) (zif (Nat.beq i 2) (0) (zif (Nat.beq i 3) (0) (zif (Nat.beq i 4) (0) (zif (Nat.beq i 5) (0) (0))))))
/-- a free switch is read -/
def xΦff (_ : Nat → Int) (E : zyEm) : Prop := xE E 74 36 = 0 ∧ xE E 74 39 ≤ xE E 74 42 ∧ (1 ≤ xE E 75 0 ∧ xE E 75 0 ≤ 4) ∧ (1 ≤ xE E 75 1 ∧ xE E 75 1 ≤ 5)
def xΨff (_ : Nat → Int) (E E2 : zyEm) (_ : Int) : Prop := ∀ p0, xE E 74 38 = tFr (xE E 84) (xE E 74 42) p0 → xRs (xE E 84) (xE E 74 42) E2 (pFree (xE E 84) (xE E 74 42) p0 (xE E 74 39) (xE E 75))
noncomputable def fpffr : zyR := [(74, 36, 41), (74, 43, 43), (75, 104, 135)]
theorem zyffr_run : zyrS zymx zxi324 (324, 0, 0, 0, 0) 5 zpffr (fun _ _ => []) zFffr zSffr zXffr zRffr 7 = true := by decide +kernel
theorem zyffr_ck : zyAll (fun i => xsubR (zFffr i) fpffr && ((zXffr i).all xckX && (zRffr i).all (fun x => xckX x && xrtB false x))) 7 = true := by decide +kernel
def xIffr (i : Nat) (x0 : Nat → Int) (E0 : zyEm) (v : Nat → Int) (E : zyEm) : Prop := if i = 0 then (E = E0) else if i = 1 then (E = E0) else if i = 2 then (E = E0 ∧ (v 6) = pCnt (xE E0 75) 104 (gN (xE E0 75 0) (xE E0 75 1)).toNat) else if i = 3 then ((¬ 6 ≤ pCnt (xE E0 75) 104 (gN (xE E0 75 0) (xE E0 75 1)).toNat) ∧ xE E 74 36 = 0 ∧ (∀ k, xE E 75 k = xE E0 75 k) ∧ ((1 ≤ xE E0 75 0 ∧ xE E0 75 0 ≤ 4) ∧ (1 ≤ xE E0 75 1 ∧ xE E0 75 1 ≤ 5)) ∧ ((xE E0 74 39)) ≤ (xE E0 74 42) ∧ xRD (xE E0 84) (xE E0 74 42) ((xE E0 74 39)) E) else if i = 4 then ((¬ 6 ≤ pCnt (xE E0 75) 104 (gN (xE E0 75 0) (xE E0 75 1)).toNat) ∧ (∀ k, xE E 75 k = xE E0 75 k) ∧ (xE E 74 36 = 0 → (0 ≤ (v 3) ∧ (v 3) ≤ 30) ∧ ∃ p, (p) ≤ (xE E0 74 42) ∧ xRD (xE E0 84) (xE E0 74 42) (p) E ∧ pNum (xE E0 84) (xE E0 74 42) (xE E0 74 39) 0 (gN (xE E0 75 0) (xE E0 75 1) - 1) (fun g p1 => .ok (p1, uS (xE E0 75) (104 + g) 1)) = .ok (p, uS (xE E0 75) (104 + (v 3)) 1)) ∧ (¬ xE E 74 36 = 0 → xEr E (pNum (xE E0 84) (xE E0 74 42) (xE E0 74 39) 0 (gN (xE E0 75 0) (xE E0 75 1) - 1) (fun g p1 => .ok (p1, uS (xE E0 75) (104 + g) 1))))) else if i = 5 then ((¬ 6 ≤ pCnt (xE E0 75) 104 (gN (xE E0 75 0) (xE E0 75 1)).toNat) ∧ xE E 74 36 = 0 ∧ (∀ k, xE E 75 k = xE E0 75 k) ∧ ∃ p, (p) ≤ (xE E0 74 42) ∧ xRD (xE E0 84) (xE E0 74 42) (p) E ∧ pNum (xE E0 84) (xE E0 74 42) (xE E0 74 39) 0 (gN (xE E0 75 0) (xE E0 75 1) - 1) (fun g p1 => .ok (p1, uS (xE E0 75) (104 + g) 1)) = .ok (p, uS (xE E0 75) (104 + (v 1)) 1)) else ((¬ 6 ≤ pCnt (xE E0 75) 104 (gN (xE E0 75 0) (xE E0 75 1)).toNat) ∧ xE E 74 36 = 0 ∧ ∃ p U, (p) ≤ (xE E0 74 42) ∧ xRD (xE E0 84) (xE E0 74 42) (p) E ∧ pNum (xE E0 84) (xE E0 74 42) (xE E0 74 39) 0 (gN (xE E0 75 0) (xE E0 75 1) - 1) (fun g p1 => .ok (p1, uS (xE E0 75) (104 + g) 1)) = .ok (p, U) ∧ ∀ k, 0 ≤ k → xE E 75 k = U k)
def xMffr (i : Nat) (x0 : Nat → Int) (E0 : zyEm) (v : Nat → Int) (E : zyEm) : Nat := if i = 0 then (9) else if i = 1 then (8) else if i = 2 then (7) else if i = 3 then (6) else if i = 4 then (5) else if i = 5 then (4) else (3)
theorem xFf {l : Launch} {en : zEn} {me : zMe} (hen : zG zxMeta 324 = some en) (hme : zG zMeth 324 = some me) : xFc l zymx en me 5 [74] 0 fpffr false xΦff xΨff := by
  have een : zG zxMeta 324 = some (zxi324, 1, 2, 11, 324, 0, 0, 0, 0) := rfl
  obtain ⟨me1, hme1, hOK⟩ := zall hen
  rw [hme] at hme1
  cases hme1
  rw [een] at hen
  cases hen
  have hr := zyffr_run
  have hck := fun i hi => zyAll_iff zyffr_ck i hi
  simp only [Bool.and_eq_true] at hck
  obtain ⟨mefrd, hmefrd, -⟩ := zall (show zG zxMeta 314 = some (zxi314, 1, 1, 11, 314, 0, 0, 0, 0) from rfl)
  have hfrd := xRd (l := l) (show zG zxMeta 314 = some (zxi314, 1, 1, 11, 314, 0, 0, 0, 0) from rfl) hmefrd
  obtain ⟨meftm, hmeftm, -⟩ := zall (show zG zxMeta 320 = some (zxi320, 3, 4, 11, 320, 0, 0, 1, 0) from rfl)
  have hftm := xTm (l := l) (show zG zxMeta 320 = some (zxi320, 3, 4, 11, 320, 0, 0, 1, 0) from rfl) hmeftm
  obtain ⟨mefco, hmefco, -⟩ := zall (show zG zxMeta 261 = some (zxi261, 2, 4, 11, 261, 0, 0, 1, 0) from rfl)
  have hfco := xCo (l := l) (show zG zxMeta 261 = some (zxi261, 2, 4, 11, 261, 0, 0, 1, 0) from rfl) hmefco
  intro B
  refine xcut (mi := zymx) (B := B) hOK rfl rfl (ι := Fin 7) (fun i => zpffr i.val) (fun _ _ => []) (fun i => zFffr i.val) (fun i => zSffr i.val) (fun i => zXffr i.val) (fun i => zRffr i.val) (fun i y2 ct en2 me2 h => by cases h) 200000 (fun i => zyAll_iff hr i.val i.isLt) (fun i => (hck i.val i.isLt).1) (fun i => (hck i.val i.isLt).2.1) (fun i => (hck i.val i.isLt).2.2) ⟨0, by decide⟩ ⟨rfl, rfl, rfl, rfl⟩ ⟨by decide, by decide⟩ (fun i x0 E0 v E => xIffr i.val x0 E0 v E) (fun i x0 E0 v E => xMffr i.val x0 E0 v E) ?_ ?_ ?_
  · intro x0 E hx0 hT hΦ
    have hΦ : xΦff x0 E := hΦ
    refine ⟨fun k p hp => ?_, ?_⟩
    · have hk : k < 2 := (List.getElem?_eq_some_iff.mp hp).1
      have hk : k = 0 ∨ k = 1 := by omega
      rcases hk with rfl | rfl
      · have hp : some (0, 4294967295) = some p := hp
        cases hp
        show ((0 : Nat) : Int) ≤ 0 + 2147483648 ∧ 0 + 2147483648 ≤ ((4294967295 : Nat) : Int)
        omega
      · have hp : some (0, 4294967295) = some p := hp
        cases hp
        show ((0 : Nat) : Int) ≤ x0 0 + 2147483648 ∧ x0 0 + 2147483648 ≤ ((4294967295 : Nat) : Int)
        have hx := hx0 0
        omega
    · show E = E
      rfl
  · intro x0 s Wg hRu hrx hT0 hΦ i v H hT hrv hInv hKc hFr0 hIH x hx ρ2 v2 N2 H2 locs lsB stA hAt hB hv hr2 hXs hag hfr hFr hT2
    rcases i with ⟨i, hi⟩
    have hi2 : i = 0 ∨ i = 1 ∨ i = 2 ∨ i = 3 ∨ i = 4 ∨ i = 5 ∨ i = 6 := by omega
    rcases hi2 with rfl | rfl | rfl | rfl | rfl | rfl | rfl
    · have hx : x ∈ [zxffr_zx0] := hx
      have hag : ∀ k, k < 2 → v2 k = v k := hag
      have hfr : xFr [] _ _ := hfr
      have ex := List.mem_singleton.mp hx
      subst ex
      obtain ⟨hF, hBd, hM⟩ := hXs
      have e74_36 : xE (zyEl zymx B H2) 74 36 = xE (zyEl zymx B H) 74 36 := xFr_E hfr rfl
      have e74_37 : xE (zyEl zymx B H2) 74 37 = xE (zyEl zymx B H) 74 37 := xFr_E hfr rfl
      have e74_38 : xE (zyEl zymx B H2) 74 38 = xE (zyEl zymx B H) 74 38 := xFr_E hfr rfl
      have e74_39 : xE (zyEl zymx B H2) 74 39 = xE (zyEl zymx B H) 74 39 := xFr_E hfr rfl
      have e74_40 : xE (zyEl zymx B H2) 74 40 = xE (zyEl zymx B H) 74 40 := xFr_E hfr rfl
      have e74_41 : xE (zyEl zymx B H2) 74 41 = xE (zyEl zymx B H) 74 41 := xFr_E hfr rfl
      have e74_42 : xE (zyEl zymx B H2) 74 42 = xE (zyEl zymx B H) 74 42 := xFr_E hfr rfl
      have q74_42 : xE (zyEl zymx B H) 74 42 = xE (zyEl zymx B s.heap) 74 42 := xFr_E hFr0 rfl
      have e75_0 : xE (zyEl zymx B H2) 75 0 = xE (zyEl zymx B H) 75 0 := xFr_E hfr rfl
      have q75_0 : xE (zyEl zymx B H) 75 0 = xE (zyEl zymx B s.heap) 75 0 := xFr_E hFr0 rfl
      have e75_1 : xE (zyEl zymx B H2) 75 1 = xE (zyEl zymx B H) 75 1 := xFr_E hfr rfl
      have q75_1 : xE (zyEl zymx B H) 75 1 = xE (zyEl zymx B s.heap) 75 1 := xFr_E hFr0 rfl
      have e75_2 : xE (zyEl zymx B H2) 75 2 = xE (zyEl zymx B H) 75 2 := xFr_E hfr rfl
      have q75_2 : xE (zyEl zymx B H) 75 2 = xE (zyEl zymx B s.heap) 75 2 := xFr_E hFr0 rfl
      have e84 : ∀ i, xE (zyEl zymx B H2) 84 i = xE (zyEl zymx B H) 84 i := fun i => xFr_E hfr rfl
      have q84 : ∀ i, xE (zyEl zymx B H) 84 i = xE (zyEl zymx B s.heap) 84 i := fun i => xFr_E hFr0 rfl
      have e75 : ∀ i, xE (zyEl zymx B H2) 75 i = xE (zyEl zymx B H) 75 i := fun i => xFr_E hfr rfl
      have hI : (zyEl zymx B H) = (zyEl zymx B s.heap) := hInv
      have q74_36 : xE (zyEl zymx B H) 74 36 = xE (zyEl zymx B s.heap) 74 36 := by rw [hI]
      have q74_37 : xE (zyEl zymx B H) 74 37 = xE (zyEl zymx B s.heap) 74 37 := by rw [hI]
      have q74_38 : xE (zyEl zymx B H) 74 38 = xE (zyEl zymx B s.heap) 74 38 := by rw [hI]
      have q74_39 : xE (zyEl zymx B H) 74 39 = xE (zyEl zymx B s.heap) 74 39 := by rw [hI]
      have q74_40 : xE (zyEl zymx B H) 74 40 = xE (zyEl zymx B s.heap) 74 40 := by rw [hI]
      have q74_41 : xE (zyEl zymx B H) 74 41 = xE (zyEl zymx B s.heap) 74 41 := by rw [hI]
      have q75 : ∀ i, xE (zyEl zymx B H) 75 i = xE (zyEl zymx B s.heap) 75 i := fun i => by rw [hI]
      refine xGo hIH hAt hB hv hFr ⟨1, by decide⟩ [0, 0] [0, 0] rfl ⟨by decide +kernel, ⟨rfl, by decide +kernel⟩, (xcs_c rfl (xcs_c rfl xcs_n)), (xe_0 (xe_0 xe_n)), xkq_n⟩ xst_n ?_ ?_
      · show (zyEl zymx B H2) = (zyEl zymx B s.heap)
        exact (xFr_n hfr).trans hI
      · show 8 < 9
        omega
    · have hx : x ∈ [zxffr_ax0] := hx
      have hag : ∀ k, k < 2 → v2 k = v k := hag
      have hfr : xFr [] _ _ := hfr
      have ex := List.mem_singleton.mp hx
      subst ex
      obtain ⟨hF, hBd, hM⟩ := hXs
      have e74_36 : xE (zyEl zymx B H2) 74 36 = xE (zyEl zymx B H) 74 36 := xFr_E hfr rfl
      have e74_37 : xE (zyEl zymx B H2) 74 37 = xE (zyEl zymx B H) 74 37 := xFr_E hfr rfl
      have e74_38 : xE (zyEl zymx B H2) 74 38 = xE (zyEl zymx B H) 74 38 := xFr_E hfr rfl
      have e74_39 : xE (zyEl zymx B H2) 74 39 = xE (zyEl zymx B H) 74 39 := xFr_E hfr rfl
      have e74_40 : xE (zyEl zymx B H2) 74 40 = xE (zyEl zymx B H) 74 40 := xFr_E hfr rfl
      have e74_41 : xE (zyEl zymx B H2) 74 41 = xE (zyEl zymx B H) 74 41 := xFr_E hfr rfl
      have e74_42 : xE (zyEl zymx B H2) 74 42 = xE (zyEl zymx B H) 74 42 := xFr_E hfr rfl
      have q74_42 : xE (zyEl zymx B H) 74 42 = xE (zyEl zymx B s.heap) 74 42 := xFr_E hFr0 rfl
      have e75_0 : xE (zyEl zymx B H2) 75 0 = xE (zyEl zymx B H) 75 0 := xFr_E hfr rfl
      have q75_0 : xE (zyEl zymx B H) 75 0 = xE (zyEl zymx B s.heap) 75 0 := xFr_E hFr0 rfl
      have e75_1 : xE (zyEl zymx B H2) 75 1 = xE (zyEl zymx B H) 75 1 := xFr_E hfr rfl
      have q75_1 : xE (zyEl zymx B H) 75 1 = xE (zyEl zymx B s.heap) 75 1 := xFr_E hFr0 rfl
      have e75_2 : xE (zyEl zymx B H2) 75 2 = xE (zyEl zymx B H) 75 2 := xFr_E hfr rfl
      have q75_2 : xE (zyEl zymx B H) 75 2 = xE (zyEl zymx B s.heap) 75 2 := xFr_E hFr0 rfl
      have e84 : ∀ i, xE (zyEl zymx B H2) 84 i = xE (zyEl zymx B H) 84 i := fun i => xFr_E hfr rfl
      have q84 : ∀ i, xE (zyEl zymx B H) 84 i = xE (zyEl zymx B s.heap) 84 i := fun i => xFr_E hFr0 rfl
      have e75 : ∀ i, xE (zyEl zymx B H2) 75 i = xE (zyEl zymx B H) 75 i := fun i => xFr_E hfr rfl
      have hI : (zyEl zymx B H) = (zyEl zymx B s.heap) := hInv
      have q74_36 : xE (zyEl zymx B H) 74 36 = xE (zyEl zymx B s.heap) 74 36 := by rw [hI]
      have q74_37 : xE (zyEl zymx B H) 74 37 = xE (zyEl zymx B s.heap) 74 37 := by rw [hI]
      have q74_38 : xE (zyEl zymx B H) 74 38 = xE (zyEl zymx B s.heap) 74 38 := by rw [hI]
      have q74_39 : xE (zyEl zymx B H) 74 39 = xE (zyEl zymx B s.heap) 74 39 := by rw [hI]
      have q74_40 : xE (zyEl zymx B H) 74 40 = xE (zyEl zymx B s.heap) 74 40 := by rw [hI]
      have q74_41 : xE (zyEl zymx B H) 74 41 = xE (zyEl zymx B s.heap) 74 41 := by rw [hI]
      have q75 : ∀ i, xE (zyEl zymx B H) 75 i = xE (zyEl zymx B s.heap) 75 i := fun i => by rw [hI]
      obtain ⟨hP1, hP2, hP3, hP4⟩ := (show xΦff x0 (zyEl zymx B s.heap) from hΦ)
      have hEE : (zyEl zymx B H2) = (zyEl zymx B s.heap) := (xFr_n hfr).trans hI
      refine xCa hRu hIH hAt hB hv hFr (hfco B) (ix := 299) (ax := 4176) rfl rfl rfl hmefco ⟨_, rfl, rfl, by decide⟩ ⟨rfl, rfl, rfl⟩ (by decide) [832] [595] [104] rfl ⟨rfl, rfl⟩ (by decide +kernel) (xcs_c rfl xcs_n) (by decide +kernel) ?_ (fun H3 r hT3 hf3 hFr3 hr3 hΨ3 => ?_)
      · show xΦco (xfv [104]) (zyEl zymx B H2)
        rw [hEE]
        exact ⟨rfl, hP3, hP4⟩
      · have hΨ3 : xΨco (xfv [104]) (zyEl zymx B H2) (zyEl zymx B H3) r := hΨ3
        have d74_36 : xE (zyEl zymx B H3) 74 36 = xE (zyEl zymx B H2) 74 36 := xFr_E hf3 rfl
        have d74_37 : xE (zyEl zymx B H3) 74 37 = xE (zyEl zymx B H2) 74 37 := xFr_E hf3 rfl
        have d74_38 : xE (zyEl zymx B H3) 74 38 = xE (zyEl zymx B H2) 74 38 := xFr_E hf3 rfl
        have d74_39 : xE (zyEl zymx B H3) 74 39 = xE (zyEl zymx B H2) 74 39 := xFr_E hf3 rfl
        have d74_40 : xE (zyEl zymx B H3) 74 40 = xE (zyEl zymx B H2) 74 40 := xFr_E hf3 rfl
        have d74_41 : xE (zyEl zymx B H3) 74 41 = xE (zyEl zymx B H2) 74 41 := xFr_E hf3 rfl
        have d74_42 : xE (zyEl zymx B H3) 74 42 = xE (zyEl zymx B H2) 74 42 := xFr_E hf3 rfl
        have d75_0 : xE (zyEl zymx B H3) 75 0 = xE (zyEl zymx B H2) 75 0 := xFr_E hf3 rfl
        have d75_1 : xE (zyEl zymx B H3) 75 1 = xE (zyEl zymx B H2) 75 1 := xFr_E hf3 rfl
        have d75_2 : xE (zyEl zymx B H3) 75 2 = xE (zyEl zymx B H2) 75 2 := xFr_E hf3 rfl
        have d84 : ∀ i, xE (zyEl zymx B H3) 84 i = xE (zyEl zymx B H2) 84 i := fun i => xFr_E hf3 rfl
        have d75 : ∀ i, xE (zyEl zymx B H3) 75 i = xE (zyEl zymx B H2) 75 i := fun i => xFr_E hf3 rfl
        have z74_36 : ((2147483648 : Nat) : Int) ≤ xE (zyEl zymx B H3) 74 36 + 2147483648 ∧ xE (zyEl zymx B H3) 74 36 + 2147483648 ≤ ((2147483657 : Nat) : Int) := xTyF hT3 74 36 36 rfl rfl rfl rfl rfl rfl
        have z74_37 : ((0 : Nat) : Int) ≤ xE (zyEl zymx B H3) 74 37 + 2147483648 ∧ xE (zyEl zymx B H3) 74 37 + 2147483648 ≤ ((4294967295 : Nat) : Int) := xTyF hT3 74 37 37 rfl rfl rfl rfl rfl rfl
        have z74_38 : ((2147483648 : Nat) : Int) ≤ xE (zyEl zymx B H3) 74 38 + 2147483648 ∧ xE (zyEl zymx B H3) 74 38 + 2147483648 ≤ ((2147484548 : Nat) : Int) := xTyF hT3 74 38 38 rfl rfl rfl rfl rfl rfl
        have z74_40 : ((2147483648 : Nat) : Int) ≤ xE (zyEl zymx B H3) 74 40 + 2147483648 ∧ xE (zyEl zymx B H3) 74 40 + 2147483648 ≤ ((2147483652 : Nat) : Int) := xTyF hT3 74 40 40 rfl rfl rfl rfl rfl rfl
        obtain ⟨hr1, hr2, hr3⟩ := (show xΨco (xfv [104]) (zyEl zymx B H2) (zyEl zymx B H3) r from hΨ3)
        rw [hEE] at hr1
        refine ⟨⟨2, by decide⟩, [0, 0], [0, 0, xE (zyEl zymx B H3) 74 36, xE (zyEl zymx B H3) 74 37, xE (zyEl zymx B H3) 74 38, xE (zyEl zymx B H3) 74 40, r], rfl, ⟨by decide +kernel, ⟨rfl, by decide +kernel⟩, (xcs_c rfl (xcs_c rfl xcs_n)), (xe_0 (xe_0 (xe_c (by omega) (by omega) rfl (xe_f (xE_r _ _ _) (xe_c (by omega) (by omega) rfl (xe_c (by omega) (by omega) rfl (xe_c (by omega) (by omega) rfl xe_n))))))), (xkq_c hT3 74 36 (q := 36) rfl rfl rfl rfl rfl rfl rfl rfl rfl rfl rfl (xkq_c hT3 74 37 (q := 37) rfl rfl rfl rfl rfl rfl rfl rfl rfl rfl rfl (xkq_c hT3 74 38 (q := 38) rfl rfl rfl rfl rfl rfl rfl rfl rfl rfl rfl (xkq_c hT3 74 40 (q := 40) rfl rfl rfl rfl rfl rfl rfl rfl rfl rfl rfl xkq_n))))⟩, (by rw [if_pos rfl]; exact ⟨6, [595], rfl, by decide, rfl, (xst_r rfl xst_n)⟩), ?_, ?_⟩
        · show (zyEl zymx B H3) = (zyEl zymx B s.heap) ∧ (r : Int) = pCnt (xE (zyEl zymx B s.heap) 75) 104 (gN (xE (zyEl zymx B s.heap) 75 0) (xE (zyEl zymx B s.heap) 75 1)).toNat
          exact ⟨(xFr_n hf3).trans hEE, hr1⟩
        · show 7 < 8
          omega
    · have hx : x ∈ [zxffr_bx0] := hx
      have hag : ∀ k, k < 7 → v2 k = v k := hag
      have hfr : xFr [(74, 36, 37)] _ _ := hfr
      have ex := List.mem_singleton.mp hx
      subst ex
      obtain ⟨hF, hBd, hM⟩ := hXs
      have r3 := hr2 3
      have g2 : v2 2 = v 2 := hag 2 (by decide)
      have g3 : v2 3 = v 3 := hag 3 (by decide)
      have g4 : v2 4 = v 4 := hag 4 (by decide)
      have g5 : v2 5 = v 5 := hag 5 (by decide)
      have g6 : v2 6 = v 6 := hag 6 (by decide)
      have b0 : ((2147483648 : Nat) : Int) ≤ (v2 2) + 2147483648 ∧ (v2 2) + 2147483648 ≤ ((2147483648 : Nat) : Int) := xXb hBd 0 rfl
      have b1 : ((2147483648 : Nat) : Int) ≤ (v2 6) + 2147483648 ∧ (v2 6) + 2147483648 ≤ ((2147483653 : Nat) : Int) := xXb hBd 1 rfl
      have k0 : xE (zyEl zymx B H) 74 36 = v 2 := xKcf hKc 0 rfl rfl
      have k1 : xE (zyEl zymx B H) 74 37 = v 3 := xKcf hKc 1 rfl rfl
      have k2 : xE (zyEl zymx B H) 74 38 = v 4 := xKcf hKc 2 rfl rfl
      have k3 : xE (zyEl zymx B H) 74 40 = v 5 := xKcf hKc 3 rfl rfl
      have f0 : (v2 6) < 6 := xXf hF 0 rfl
      have f1 : (v2 2) ≤ 0 := xXf hF 1 rfl
      have m0 : xE (zyEl zymx B H2) 74 36 = (v2 2) := xXm hM 0 rfl
      have m1 : xE (zyEl zymx B H2) 74 37 = (v2 3) := xXm hM 1 rfl
      have e74_38 : xE (zyEl zymx B H2) 74 38 = xE (zyEl zymx B H) 74 38 := xFr_E hfr rfl
      have e74_39 : xE (zyEl zymx B H2) 74 39 = xE (zyEl zymx B H) 74 39 := xFr_E hfr rfl
      have e74_40 : xE (zyEl zymx B H2) 74 40 = xE (zyEl zymx B H) 74 40 := xFr_E hfr rfl
      have e74_41 : xE (zyEl zymx B H2) 74 41 = xE (zyEl zymx B H) 74 41 := xFr_E hfr rfl
      have e74_42 : xE (zyEl zymx B H2) 74 42 = xE (zyEl zymx B H) 74 42 := xFr_E hfr rfl
      have q74_42 : xE (zyEl zymx B H) 74 42 = xE (zyEl zymx B s.heap) 74 42 := xFr_E hFr0 rfl
      have e75_0 : xE (zyEl zymx B H2) 75 0 = xE (zyEl zymx B H) 75 0 := xFr_E hfr rfl
      have q75_0 : xE (zyEl zymx B H) 75 0 = xE (zyEl zymx B s.heap) 75 0 := xFr_E hFr0 rfl
      have e75_1 : xE (zyEl zymx B H2) 75 1 = xE (zyEl zymx B H) 75 1 := xFr_E hfr rfl
      have q75_1 : xE (zyEl zymx B H) 75 1 = xE (zyEl zymx B s.heap) 75 1 := xFr_E hFr0 rfl
      have e75_2 : xE (zyEl zymx B H2) 75 2 = xE (zyEl zymx B H) 75 2 := xFr_E hfr rfl
      have q75_2 : xE (zyEl zymx B H) 75 2 = xE (zyEl zymx B s.heap) 75 2 := xFr_E hFr0 rfl
      have e84 : ∀ i, xE (zyEl zymx B H2) 84 i = xE (zyEl zymx B H) 84 i := fun i => xFr_E hfr rfl
      have q84 : ∀ i, xE (zyEl zymx B H) 84 i = xE (zyEl zymx B s.heap) 84 i := fun i => xFr_E hFr0 rfl
      have e75 : ∀ i, xE (zyEl zymx B H2) 75 i = xE (zyEl zymx B H) 75 i := fun i => xFr_E hfr rfl
      have hI : (zyEl zymx B H) = (zyEl zymx B s.heap) ∧ (v 6) = pCnt (xE (zyEl zymx B s.heap) 75) 104 (gN (xE (zyEl zymx B s.heap) 75 0) (xE (zyEl zymx B s.heap) 75 1)).toNat := hInv
      have q74_36 : xE (zyEl zymx B H) 74 36 = xE (zyEl zymx B s.heap) 74 36 := by rw [hI.1]
      have q74_37 : xE (zyEl zymx B H) 74 37 = xE (zyEl zymx B s.heap) 74 37 := by rw [hI.1]
      have q74_38 : xE (zyEl zymx B H) 74 38 = xE (zyEl zymx B s.heap) 74 38 := by rw [hI.1]
      have q74_39 : xE (zyEl zymx B H) 74 39 = xE (zyEl zymx B s.heap) 74 39 := by rw [hI.1]
      have q74_40 : xE (zyEl zymx B H) 74 40 = xE (zyEl zymx B s.heap) 74 40 := by rw [hI.1]
      have q74_41 : xE (zyEl zymx B H) 74 41 = xE (zyEl zymx B s.heap) 74 41 := by rw [hI.1]
      have q75 : ∀ i, xE (zyEl zymx B H) 75 i = xE (zyEl zymx B s.heap) 75 i := fun i => by rw [hI.1]
      obtain ⟨hE, i1⟩ := hI
      obtain ⟨hP1, hP2, hP3, hP4⟩ := (show xΦff x0 (zyEl zymx B s.heap) from hΦ)
      have hc : ∀ k, xE (zyEl zymx B H) 75 k = xE (zyEl zymx B s.heap) 75 k := fun k => by rw [hE]
      refine xCa hRu hIH hAt hB hv hFr (hfrd B) (ix := 450) (ax := 5024) rfl rfl rfl hmefrd ⟨_, rfl, rfl, by decide⟩ ⟨rfl, rfl, rfl⟩ (by decide) [] [] [] rfl ⟨rfl, rfl⟩ (by decide +kernel) xcs_n (by decide +kernel) ?_ (fun H3 r hT3 hf3 hFr3 hr3 hΨ3 => ?_)
      · show xΦrd (xfv []) (zyEl zymx B H2)
        unfold xΦrd
        omega
      · have hΨ3 : xΨrd (xfv []) (zyEl zymx B H2) (zyEl zymx B H3) r := hΨ3
        have d74_36 : xE (zyEl zymx B H3) 74 36 = xE (zyEl zymx B H2) 74 36 := xFr_E hf3 rfl
        have d74_37 : xE (zyEl zymx B H3) 74 37 = xE (zyEl zymx B H2) 74 37 := xFr_E hf3 rfl
        have d74_42 : xE (zyEl zymx B H3) 74 42 = xE (zyEl zymx B H2) 74 42 := xFr_E hf3 rfl
        have d75_0 : xE (zyEl zymx B H3) 75 0 = xE (zyEl zymx B H2) 75 0 := xFr_E hf3 rfl
        have d75_1 : xE (zyEl zymx B H3) 75 1 = xE (zyEl zymx B H2) 75 1 := xFr_E hf3 rfl
        have d75_2 : xE (zyEl zymx B H3) 75 2 = xE (zyEl zymx B H2) 75 2 := xFr_E hf3 rfl
        have d84 : ∀ i, xE (zyEl zymx B H3) 84 i = xE (zyEl zymx B H2) 84 i := fun i => xFr_E hf3 rfl
        have d75 : ∀ i, xE (zyEl zymx B H3) 75 i = xE (zyEl zymx B H2) 75 i := fun i => xFr_E hf3 rfl
        have z75_0 : ((0 : Nat) : Int) ≤ xE (zyEl zymx B H3) 75 0 + 2147483648 ∧ xE (zyEl zymx B H3) 75 0 + 2147483648 ≤ ((4294967295 : Nat) : Int) := xTyF hT3 75 0 0 rfl rfl rfl rfl rfl rfl
        have z75_1 : ((0 : Nat) : Int) ≤ xE (zyEl zymx B H3) 75 1 + 2147483648 ∧ xE (zyEl zymx B H3) 75 1 + 2147483648 ≤ ((4294967295 : Nat) : Int) := xTyF hT3 75 1 0 rfl rfl rfl rfl rfl rfl
        unfold xΨrd at hΨ3
        rw [show xE (zyEl zymx B H2) 84 = xE (zyEl zymx B s.heap) 84 from funext fun i => (e84 i).trans (q84 i), show xE (zyEl zymx B H2) 74 42 = xE (zyEl zymx B s.heap) 74 42 by omega, show xE (zyEl zymx B H2) 74 39 = (xE (zyEl zymx B s.heap) 74 39) by omega] at hΨ3
        refine ⟨⟨3, by decide⟩, [0, 0], [0, 0, xE (zyEl zymx B H3) 75 0, xE (zyEl zymx B H3) 75 1], rfl, ⟨by decide +kernel, ⟨rfl, by decide +kernel⟩, (xcs_c rfl (xcs_c rfl xcs_n)), (xe_0 (xe_0 (xe_c (by omega) (by omega) rfl (xe_c (by omega) (by omega) rfl xe_n)))), (xkq_c hT3 75 0 (q := 0) rfl rfl rfl rfl rfl rfl rfl rfl rfl rfl rfl (xkq_c hT3 75 1 (q := 0) rfl rfl rfl rfl rfl rfl rfl rfl rfl rfl rfl xkq_n))⟩, (by rw [if_neg (by decide)]; exact xst_n), ?_, ?_⟩
        · show (¬ 6 ≤ pCnt (xE (zyEl zymx B s.heap) 75) 104 (gN (xE (zyEl zymx B s.heap) 75 0) (xE (zyEl zymx B s.heap) 75 1)).toNat) ∧ xE (zyEl zymx B H3) 74 36 = 0 ∧ (∀ k, xE (zyEl zymx B H3) 75 k = xE (zyEl zymx B s.heap) 75 k) ∧ ((1 ≤ xE (zyEl zymx B s.heap) 75 0 ∧ xE (zyEl zymx B s.heap) 75 0 ≤ 4) ∧ (1 ≤ xE (zyEl zymx B s.heap) 75 1 ∧ xE (zyEl zymx B s.heap) 75 1 ≤ 5)) ∧ ((xE (zyEl zymx B s.heap) 74 39)) ≤ (xE (zyEl zymx B s.heap) 74 42) ∧ xRD (xE (zyEl zymx B s.heap) 84) (xE (zyEl zymx B s.heap) 74 42) ((xE (zyEl zymx B s.heap) 74 39)) (zyEl zymx B H3)
          exact ⟨by omega, by omega, fun k => (d75 k).trans ((e75 k).trans (hc k)), ⟨hP3, hP4⟩, hP2, hΨ3⟩
        · show 6 < 7
          omega
    · have hx : x ∈ [zxffr_cx0] := hx
      have hag : ∀ k, k < 4 → v2 k = v k := hag
      have hfr : xFr [] _ _ := hfr
      have ex := List.mem_singleton.mp hx
      subst ex
      obtain ⟨hF, hBd, hM⟩ := hXs
      have g2 : v2 2 = v 2 := hag 2 (by decide)
      have g3 : v2 3 = v 3 := hag 3 (by decide)
      have b0 : ((2147483649 : Nat) : Int) ≤ (v2 2) + 2147483648 ∧ (v2 2) + 2147483648 ≤ ((2147483652 : Nat) : Int) := xXb hBd 0 rfl
      have b1 : ((2147483649 : Nat) : Int) ≤ (v2 3) + 2147483648 ∧ (v2 3) + 2147483648 ≤ ((2147483653 : Nat) : Int) := xXb hBd 1 rfl
      have b2 : ((2147483648 : Nat) : Int) ≤ (v2 4) + 2147483648 ∧ (v2 4) + 2147483648 ≤ ((2147483664 : Nat) : Int) := xXb hBd 2 rfl
      have b3 : ((2147483648 : Nat) : Int) ≤ (v2 5) + 2147483648 ∧ (v2 5) + 2147483648 ≤ ((2147483663 : Nat) : Int) := xXb hBd 3 rfl
      have b4 : ((2147483648 : Nat) : Int) ≤ (v2 6) + 2147483648 ∧ (v2 6) + 2147483648 ≤ ((2147483679 : Nat) : Int) := xXb hBd 4 rfl
      have b5 : ((2147483647 : Nat) : Int) ≤ (v2 6 + (-1)) + 2147483648 ∧ (v2 6 + (-1)) + 2147483648 ≤ ((2147483678 : Nat) : Int) := xXb hBd 5 rfl
      have k0 : xE (zyEl zymx B H) 75 0 = v 2 := xKcf hKc 0 rfl rfl
      have k1 : xE (zyEl zymx B H) 75 1 = v 3 := xKcf hKc 1 rfl rfl
      have f0 : -2147483648 ≤ (v2 2) * (v2 3 + (-1)) → (v2 2) * (v2 3 + (-1)) < 2147483648 → (v2 4) = (v2 2) * (v2 3 + (-1)) := xXf hF 0 rfl
      have f1 : -2147483648 ≤ (v2 2 + (-1)) * (v2 3) → (v2 2 + (-1)) * (v2 3) < 2147483648 → (v2 5) = (v2 2 + (-1)) * (v2 3) := xXf hF 1 rfl
      have f2 : -2147483648 ≤ (v2 4) + (v2 5) → (v2 4) + (v2 5) < 2147483648 → (v2 6) = (v2 4) + (v2 5) := xXf hF 2 rfl
      have f2 := f2 (by omega) (by omega)
      have e74_36 : xE (zyEl zymx B H2) 74 36 = xE (zyEl zymx B H) 74 36 := xFr_E hfr rfl
      have e74_37 : xE (zyEl zymx B H2) 74 37 = xE (zyEl zymx B H) 74 37 := xFr_E hfr rfl
      have e74_38 : xE (zyEl zymx B H2) 74 38 = xE (zyEl zymx B H) 74 38 := xFr_E hfr rfl
      have e74_39 : xE (zyEl zymx B H2) 74 39 = xE (zyEl zymx B H) 74 39 := xFr_E hfr rfl
      have e74_40 : xE (zyEl zymx B H2) 74 40 = xE (zyEl zymx B H) 74 40 := xFr_E hfr rfl
      have e74_41 : xE (zyEl zymx B H2) 74 41 = xE (zyEl zymx B H) 74 41 := xFr_E hfr rfl
      have e74_42 : xE (zyEl zymx B H2) 74 42 = xE (zyEl zymx B H) 74 42 := xFr_E hfr rfl
      have q74_42 : xE (zyEl zymx B H) 74 42 = xE (zyEl zymx B s.heap) 74 42 := xFr_E hFr0 rfl
      have e75_0 : xE (zyEl zymx B H2) 75 0 = xE (zyEl zymx B H) 75 0 := xFr_E hfr rfl
      have q75_0 : xE (zyEl zymx B H) 75 0 = xE (zyEl zymx B s.heap) 75 0 := xFr_E hFr0 rfl
      have e75_1 : xE (zyEl zymx B H2) 75 1 = xE (zyEl zymx B H) 75 1 := xFr_E hfr rfl
      have q75_1 : xE (zyEl zymx B H) 75 1 = xE (zyEl zymx B s.heap) 75 1 := xFr_E hFr0 rfl
      have e75_2 : xE (zyEl zymx B H2) 75 2 = xE (zyEl zymx B H) 75 2 := xFr_E hfr rfl
      have q75_2 : xE (zyEl zymx B H) 75 2 = xE (zyEl zymx B s.heap) 75 2 := xFr_E hFr0 rfl
      have e84 : ∀ i, xE (zyEl zymx B H2) 84 i = xE (zyEl zymx B H) 84 i := fun i => xFr_E hfr rfl
      have q84 : ∀ i, xE (zyEl zymx B H) 84 i = xE (zyEl zymx B s.heap) 84 i := fun i => xFr_E hFr0 rfl
      have e75 : ∀ i, xE (zyEl zymx B H2) 75 i = xE (zyEl zymx B H) 75 i := fun i => xFr_E hfr rfl
      have hI : (¬ 6 ≤ pCnt (xE (zyEl zymx B s.heap) 75) 104 (gN (xE (zyEl zymx B s.heap) 75 0) (xE (zyEl zymx B s.heap) 75 1)).toNat) ∧ xE (zyEl zymx B H) 74 36 = 0 ∧ (∀ k, xE (zyEl zymx B H) 75 k = xE (zyEl zymx B s.heap) 75 k) ∧ ((1 ≤ xE (zyEl zymx B s.heap) 75 0 ∧ xE (zyEl zymx B s.heap) 75 0 ≤ 4) ∧ (1 ≤ xE (zyEl zymx B s.heap) 75 1 ∧ xE (zyEl zymx B s.heap) 75 1 ≤ 5)) ∧ ((xE (zyEl zymx B s.heap) 74 39)) ≤ (xE (zyEl zymx B s.heap) 74 42) ∧ xRD (xE (zyEl zymx B s.heap) 84) (xE (zyEl zymx B s.heap) 74 42) ((xE (zyEl zymx B s.heap) 74 39)) (zyEl zymx B H) := hInv
      obtain ⟨hnf, i1, hc, ⟨hr, hcc⟩, hp, hs⟩ := hI
      have hEE : (zyEl zymx B H2) = (zyEl zymx B H) := xFr_n hfr
      have hs2 : xRD (xE (zyEl zymx B s.heap) 84) (xE (zyEl zymx B s.heap) 74 42) (xE (zyEl zymx B s.heap) 74 39) (zyEl zymx B H2) := by rw [hEE]; exact hs
      have h750 := hc 0
      have h751 := hc 1
      obtain ⟨w1, w2, w3, w4, w5, w6⟩ := gN_of (r := (v2 2)) (c := (v2 3)) (A := (v2 3 + (-1))) (B := (v2 2 + (-1))) (by omega) (by omega) (by omega) (by omega) f0 f1
      rw [show (v2 2) = xE (zyEl zymx B s.heap) 75 0 by omega, show (v2 3) = xE (zyEl zymx B s.heap) 75 1 by omega] at w1 w6
      have ehi : (v2 6 + (-1)) = gN (xE (zyEl zymx B s.heap) 75 0) (xE (zyEl zymx B s.heap) 75 1) - 1 := by omega
      obtain ⟨s1, s1b, s2, s3, s4, s5, s6, s7, s8⟩ := xRD_i hs2 hp
      refine xCa hRu hIH hAt hB hv hFr (hftm B) (ix := 456) (ax := 5120) rfl rfl rfl hmeftm ⟨_, rfl, rfl, by decide⟩ ⟨rfl, rfl, rfl⟩ (by decide) [0, 240518168569] [] [0, (v2 6 + (-1))] rfl ⟨rfl, rfl⟩ (by decide +kernel) (xcs_c rfl (xcs_c rfl xcs_n)) (by decide +kernel) ?_ (fun H3 r hT3 hf3 hFr3 hr3 hΨ3 => ?_)
      · show xΦtm (xfv [0, (v2 6 + (-1))]) (zyEl zymx B H2)
        intro q1 q2
        omega
      · have hΨ3 : xΨtm (xfv [0, (v2 6 + (-1))]) (zyEl zymx B H2) (zyEl zymx B H3) r := hΨ3
        have d74_42 : xE (zyEl zymx B H3) 74 42 = xE (zyEl zymx B H2) 74 42 := xFr_E hf3 rfl
        have d75_0 : xE (zyEl zymx B H3) 75 0 = xE (zyEl zymx B H2) 75 0 := xFr_E hf3 rfl
        have d75_1 : xE (zyEl zymx B H3) 75 1 = xE (zyEl zymx B H2) 75 1 := xFr_E hf3 rfl
        have d75_2 : xE (zyEl zymx B H3) 75 2 = xE (zyEl zymx B H2) 75 2 := xFr_E hf3 rfl
        have d84 : ∀ i, xE (zyEl zymx B H3) 84 i = xE (zyEl zymx B H2) 84 i := fun i => xFr_E hf3 rfl
        have d75 : ∀ i, xE (zyEl zymx B H3) 75 i = xE (zyEl zymx B H2) 75 i := fun i => xFr_E hf3 rfl
        have z74_36 : ((2147483648 : Nat) : Int) ≤ xE (zyEl zymx B H3) 74 36 + 2147483648 ∧ xE (zyEl zymx B H3) 74 36 + 2147483648 ≤ ((2147483657 : Nat) : Int) := xTyF hT3 74 36 36 rfl rfl rfl rfl rfl rfl
        have hg : (xE (zyEl zymx B H3) 74 36 = 0 ∧ xRD (xE (zyEl zymx B s.heap) 84) (xE (zyEl zymx B s.heap) 74 42) (tNx (xE (zyEl zymx B s.heap) 84) (xE (zyEl zymx B s.heap) 74 42) (xE (zyEl zymx B s.heap) 74 39)) (zyEl zymx B H3) ∧ tNx (xE (zyEl zymx B s.heap) 84) (xE (zyEl zymx B s.heap) 74 42) (xE (zyEl zymx B s.heap) 74 39) ≤ (xE (zyEl zymx B s.heap) 74 42) ∧ (xE (zyEl zymx B s.heap) 74 39) < tNx (xE (zyEl zymx B s.heap) 84) (xE (zyEl zymx B s.heap) 74 42) (xE (zyEl zymx B s.heap) 74 39) ∧ 0 ≤ r ∧ r ≤ (v2 6 + (-1)) ∧ ∀ k, pNum (xE (zyEl zymx B s.heap) 84) (xE (zyEl zymx B s.heap) 74 42) (xE (zyEl zymx B s.heap) 74 39) 0 (v2 6 + (-1)) k = k r (tNx (xE (zyEl zymx B s.heap) 84) (xE (zyEl zymx B s.heap) 74 42) (xE (zyEl zymx B s.heap) 74 39))) ∨ (∀ k, xEr (zyEl zymx B H3) (pNum (xE (zyEl zymx B s.heap) 84) (xE (zyEl zymx B s.heap) 74 42) (xE (zyEl zymx B s.heap) 74 39) 0 (v2 6 + (-1)) k)) := xTm_g (x := xfv [0, (v2 6 + (-1))]) hΨ3 (by omega) hs2 hp (fun i => (e84 i).trans (q84 i)) (by omega)
        rw [ehi] at hg
        refine ⟨⟨4, by decide⟩, [0, 0], [0, 0, xE (zyEl zymx B H3) 74 36, r], rfl, ⟨by decide +kernel, ⟨rfl, by decide +kernel⟩, (xcs_c rfl (xcs_c rfl xcs_n)), (xe_0 (xe_0 (xe_c (by omega) (by omega) rfl (xe_f (by omega) xe_n)))), (xkq_c hT3 74 36 (q := 36) rfl rfl rfl rfl rfl rfl rfl rfl rfl rfl rfl xkq_n)⟩, (by rw [if_pos rfl]; exact ⟨3, [], rfl, by decide, rfl, xst_n⟩), ?_, ?_⟩
        · show (¬ 6 ≤ pCnt (xE (zyEl zymx B s.heap) 75) 104 (gN (xE (zyEl zymx B s.heap) 75 0) (xE (zyEl zymx B s.heap) 75 1)).toNat) ∧ (∀ k, xE (zyEl zymx B H3) 75 k = xE (zyEl zymx B s.heap) 75 k) ∧ (xE (zyEl zymx B H3) 74 36 = 0 → (0 ≤ (r : Int) ∧ (r : Int) ≤ 30) ∧ ∃ p, (p) ≤ (xE (zyEl zymx B s.heap) 74 42) ∧ xRD (xE (zyEl zymx B s.heap) 84) (xE (zyEl zymx B s.heap) 74 42) (p) (zyEl zymx B H3) ∧ pNum (xE (zyEl zymx B s.heap) 84) (xE (zyEl zymx B s.heap) 74 42) (xE (zyEl zymx B s.heap) 74 39) 0 (gN (xE (zyEl zymx B s.heap) 75 0) (xE (zyEl zymx B s.heap) 75 1) - 1) (fun g p1 => .ok (p1, uS (xE (zyEl zymx B s.heap) 75) (104 + g) 1)) = .ok (p, uS (xE (zyEl zymx B s.heap) 75) (104 + (r : Int)) 1)) ∧ (¬ xE (zyEl zymx B H3) 74 36 = 0 → xEr (zyEl zymx B H3) (pNum (xE (zyEl zymx B s.heap) 84) (xE (zyEl zymx B s.heap) 74 42) (xE (zyEl zymx B s.heap) 74 39) 0 (gN (xE (zyEl zymx B s.heap) 75 0) (xE (zyEl zymx B s.heap) 75 1) - 1) (fun g p1 => .ok (p1, uS (xE (zyEl zymx B s.heap) 75) (104 + g) 1))))
          refine ⟨hnf, fun k => (d75 k).trans ((e75 k).trans (hc k)), fun hz => ?_, fun hz => ?_⟩
          · rcases hg with ⟨h1, h2, h3, h4, h5, h6, h7⟩ | he
            · exact ⟨by omega, _, h3, h2, h7 _⟩
            · exact (xEr_1 (he (fun _ _ => .error (0, 0))) hz).elim
          · rcases hg with ⟨h1, h2, h3, h4, h5, h6, h7⟩ | he
            · exact absurd h1 hz
            · exact he _
        · show 5 < 6
          omega
    · have hx : x ∈ [zxffr_dx0] := hx
      have hag : ∀ k, k < 4 → v2 k = v k := hag
      have hfr : xFr [] _ _ := hfr
      have ex := List.mem_singleton.mp hx
      subst ex
      obtain ⟨hF, hBd, hM⟩ := hXs
      have r3 := hr2 3
      have g2 : v2 2 = v 2 := hag 2 (by decide)
      have g3 : v2 3 = v 3 := hag 3 (by decide)
      have b0 : ((2147483648 : Nat) : Int) ≤ (v2 2) + 2147483648 ∧ (v2 2) + 2147483648 ≤ ((2147483648 : Nat) : Int) := xXb hBd 0 rfl
      have k0 : xE (zyEl zymx B H) 74 36 = v 2 := xKcf hKc 0 rfl rfl
      have f0 : (v2 2) = 0 := xXf hF 0 rfl
      have e74_36 : xE (zyEl zymx B H2) 74 36 = xE (zyEl zymx B H) 74 36 := xFr_E hfr rfl
      have e74_37 : xE (zyEl zymx B H2) 74 37 = xE (zyEl zymx B H) 74 37 := xFr_E hfr rfl
      have e74_38 : xE (zyEl zymx B H2) 74 38 = xE (zyEl zymx B H) 74 38 := xFr_E hfr rfl
      have e74_39 : xE (zyEl zymx B H2) 74 39 = xE (zyEl zymx B H) 74 39 := xFr_E hfr rfl
      have e74_40 : xE (zyEl zymx B H2) 74 40 = xE (zyEl zymx B H) 74 40 := xFr_E hfr rfl
      have e74_41 : xE (zyEl zymx B H2) 74 41 = xE (zyEl zymx B H) 74 41 := xFr_E hfr rfl
      have e74_42 : xE (zyEl zymx B H2) 74 42 = xE (zyEl zymx B H) 74 42 := xFr_E hfr rfl
      have q74_42 : xE (zyEl zymx B H) 74 42 = xE (zyEl zymx B s.heap) 74 42 := xFr_E hFr0 rfl
      have e75_0 : xE (zyEl zymx B H2) 75 0 = xE (zyEl zymx B H) 75 0 := xFr_E hfr rfl
      have q75_0 : xE (zyEl zymx B H) 75 0 = xE (zyEl zymx B s.heap) 75 0 := xFr_E hFr0 rfl
      have e75_1 : xE (zyEl zymx B H2) 75 1 = xE (zyEl zymx B H) 75 1 := xFr_E hfr rfl
      have q75_1 : xE (zyEl zymx B H) 75 1 = xE (zyEl zymx B s.heap) 75 1 := xFr_E hFr0 rfl
      have e75_2 : xE (zyEl zymx B H2) 75 2 = xE (zyEl zymx B H) 75 2 := xFr_E hfr rfl
      have q75_2 : xE (zyEl zymx B H) 75 2 = xE (zyEl zymx B s.heap) 75 2 := xFr_E hFr0 rfl
      have e84 : ∀ i, xE (zyEl zymx B H2) 84 i = xE (zyEl zymx B H) 84 i := fun i => xFr_E hfr rfl
      have q84 : ∀ i, xE (zyEl zymx B H) 84 i = xE (zyEl zymx B s.heap) 84 i := fun i => xFr_E hFr0 rfl
      have e75 : ∀ i, xE (zyEl zymx B H2) 75 i = xE (zyEl zymx B H) 75 i := fun i => xFr_E hfr rfl
      have hI : (¬ 6 ≤ pCnt (xE (zyEl zymx B s.heap) 75) 104 (gN (xE (zyEl zymx B s.heap) 75 0) (xE (zyEl zymx B s.heap) 75 1)).toNat) ∧ (∀ k, xE (zyEl zymx B H) 75 k = xE (zyEl zymx B s.heap) 75 k) ∧ (xE (zyEl zymx B H) 74 36 = 0 → (0 ≤ (v 3) ∧ (v 3) ≤ 30) ∧ ∃ p, (p) ≤ (xE (zyEl zymx B s.heap) 74 42) ∧ xRD (xE (zyEl zymx B s.heap) 84) (xE (zyEl zymx B s.heap) 74 42) (p) (zyEl zymx B H) ∧ pNum (xE (zyEl zymx B s.heap) 84) (xE (zyEl zymx B s.heap) 74 42) (xE (zyEl zymx B s.heap) 74 39) 0 (gN (xE (zyEl zymx B s.heap) 75 0) (xE (zyEl zymx B s.heap) 75 1) - 1) (fun g p1 => .ok (p1, uS (xE (zyEl zymx B s.heap) 75) (104 + g) 1)) = .ok (p, uS (xE (zyEl zymx B s.heap) 75) (104 + (v 3)) 1)) ∧ (¬ xE (zyEl zymx B H) 74 36 = 0 → xEr (zyEl zymx B H) (pNum (xE (zyEl zymx B s.heap) 84) (xE (zyEl zymx B s.heap) 74 42) (xE (zyEl zymx B s.heap) 74 39) 0 (gN (xE (zyEl zymx B s.heap) 75 0) (xE (zyEl zymx B s.heap) 75 1) - 1) (fun g p1 => .ok (p1, uS (xE (zyEl zymx B s.heap) 75) (104 + g) 1)))) := hInv
      obtain ⟨hnf, hc, i1, i2⟩ := hI
      have hEE : (zyEl zymx B H2) = (zyEl zymx B H) := xFr_n hfr
      obtain ⟨j1, p, hp, hs, j2⟩ := i1 (by omega)
      refine xGo hIH hAt hB hv hFr ⟨5, by decide⟩ [0, 103079215105] [0, (v2 3)] rfl ⟨by decide +kernel, ⟨rfl, by decide +kernel⟩, (xcs_c rfl (xcs_c rfl xcs_n)), (xe_0 (xe_c (by omega) (by omega) rfl xe_n)), xkq_n⟩ xst_n ?_ ?_
      · show (¬ 6 ≤ pCnt (xE (zyEl zymx B s.heap) 75) 104 (gN (xE (zyEl zymx B s.heap) 75 0) (xE (zyEl zymx B s.heap) 75 1)).toNat) ∧ xE (zyEl zymx B H2) 74 36 = 0 ∧ (∀ k, xE (zyEl zymx B H2) 75 k = xE (zyEl zymx B s.heap) 75 k) ∧ ∃ p, (p) ≤ (xE (zyEl zymx B s.heap) 74 42) ∧ xRD (xE (zyEl zymx B s.heap) 84) (xE (zyEl zymx B s.heap) 74 42) (p) (zyEl zymx B H2) ∧ pNum (xE (zyEl zymx B s.heap) 84) (xE (zyEl zymx B s.heap) 74 42) (xE (zyEl zymx B s.heap) 74 39) 0 (gN (xE (zyEl zymx B s.heap) 75 0) (xE (zyEl zymx B s.heap) 75 1) - 1) (fun g p1 => .ok (p1, uS (xE (zyEl zymx B s.heap) 75) (104 + g) 1)) = .ok (p, uS (xE (zyEl zymx B s.heap) 75) (104 + ((v2 3) : Int)) 1)
        rw [hEE]
        rw [show v 3 = v2 3 by omega] at j2
        exact ⟨hnf, by omega, hc, p, hp, hs, j2⟩
      · show 4 < 5
        omega
    · have hx : x ∈ [zxffr_d2x0] := hx
      have hag : ∀ k, k < 2 → v2 k = v k := hag
      have hfr : xFr [] _ _ := hfr
      have ex := List.mem_singleton.mp hx
      subst ex
      obtain ⟨hF, hBd, hM⟩ := hXs
      have g1 : v2 1 = v 1 := hag 1 (by decide)
      have b0 : ((2147483648 : Nat) : Int) ≤ (v2 1) + 2147483648 ∧ (v2 1) + 2147483648 ≤ ((2147483678 : Nat) : Int) := xXb hBd 0 rfl
      have b1 : ((2147483752 : Nat) : Int) ≤ (v2 1 + 104) + 2147483648 ∧ (v2 1 + 104) + 2147483648 ≤ ((2147483782 : Nat) : Int) := xXb hBd 1 rfl
      have e74_36 : xE (zyEl zymx B H2) 74 36 = xE (zyEl zymx B H) 74 36 := xFr_E hfr rfl
      have e74_37 : xE (zyEl zymx B H2) 74 37 = xE (zyEl zymx B H) 74 37 := xFr_E hfr rfl
      have e74_38 : xE (zyEl zymx B H2) 74 38 = xE (zyEl zymx B H) 74 38 := xFr_E hfr rfl
      have e74_39 : xE (zyEl zymx B H2) 74 39 = xE (zyEl zymx B H) 74 39 := xFr_E hfr rfl
      have e74_40 : xE (zyEl zymx B H2) 74 40 = xE (zyEl zymx B H) 74 40 := xFr_E hfr rfl
      have e74_41 : xE (zyEl zymx B H2) 74 41 = xE (zyEl zymx B H) 74 41 := xFr_E hfr rfl
      have e74_42 : xE (zyEl zymx B H2) 74 42 = xE (zyEl zymx B H) 74 42 := xFr_E hfr rfl
      have q74_42 : xE (zyEl zymx B H) 74 42 = xE (zyEl zymx B s.heap) 74 42 := xFr_E hFr0 rfl
      have e75_0 : xE (zyEl zymx B H2) 75 0 = xE (zyEl zymx B H) 75 0 := xFr_E hfr rfl
      have q75_0 : xE (zyEl zymx B H) 75 0 = xE (zyEl zymx B s.heap) 75 0 := xFr_E hFr0 rfl
      have e75_1 : xE (zyEl zymx B H2) 75 1 = xE (zyEl zymx B H) 75 1 := xFr_E hfr rfl
      have q75_1 : xE (zyEl zymx B H) 75 1 = xE (zyEl zymx B s.heap) 75 1 := xFr_E hFr0 rfl
      have e75_2 : xE (zyEl zymx B H2) 75 2 = xE (zyEl zymx B H) 75 2 := xFr_E hfr rfl
      have q75_2 : xE (zyEl zymx B H) 75 2 = xE (zyEl zymx B s.heap) 75 2 := xFr_E hFr0 rfl
      have e84 : ∀ i, xE (zyEl zymx B H2) 84 i = xE (zyEl zymx B H) 84 i := fun i => xFr_E hfr rfl
      have q84 : ∀ i, xE (zyEl zymx B H) 84 i = xE (zyEl zymx B s.heap) 84 i := fun i => xFr_E hFr0 rfl
      have e75 : ∀ i, xE (zyEl zymx B H2) 75 i = xE (zyEl zymx B H) 75 i := fun i => xFr_E hfr rfl
      have hI : (¬ 6 ≤ pCnt (xE (zyEl zymx B s.heap) 75) 104 (gN (xE (zyEl zymx B s.heap) 75 0) (xE (zyEl zymx B s.heap) 75 1)).toNat) ∧ xE (zyEl zymx B H) 74 36 = 0 ∧ (∀ k, xE (zyEl zymx B H) 75 k = xE (zyEl zymx B s.heap) 75 k) ∧ ∃ p, (p) ≤ (xE (zyEl zymx B s.heap) 74 42) ∧ xRD (xE (zyEl zymx B s.heap) 84) (xE (zyEl zymx B s.heap) 74 42) (p) (zyEl zymx B H) ∧ pNum (xE (zyEl zymx B s.heap) 84) (xE (zyEl zymx B s.heap) 74 42) (xE (zyEl zymx B s.heap) 74 39) 0 (gN (xE (zyEl zymx B s.heap) 75 0) (xE (zyEl zymx B s.heap) 75 1) - 1) (fun g p1 => .ok (p1, uS (xE (zyEl zymx B s.heap) 75) (104 + g) 1)) = .ok (p, uS (xE (zyEl zymx B s.heap) 75) (104 + (v 1)) 1) := hInv
      obtain ⟨hnf, i1, hc, p, hp, hs, j2⟩ := hI
      have hEE : (zyEl zymx B H2) = (zyEl zymx B H) := xFr_n hfr
      refine xSt hRu hIH hAt hB hv hFr 75 (ax := 0) 8 34359739201 1 (v2 1 + 104) rfl (Or.inl ⟨rfl, rfl⟩) rfl (by decide +kernel) rfl rfl (by omega) (by show (v2 1 + 104) < ((556 : Nat) : Int); omega) (fun r hr q1 q2 => by rw [List.mem_singleton.mp hr]; exact ⟨rfl, by show ((0 : Nat) : Int) ≤ 1 + 2147483648; omega, by show 1 + 2147483648 ≤ ((4294967295 : Nat) : Int); omega⟩) (zyin_iff.mpr ⟨(75, 104, 135), by decide, rfl, (by show 104 ≤ Int.toNat (v2 1 + 104); omega), by show Int.toNat (v2 1 + 104) ≤ 135; omega⟩) (fun H3 hT3 hst3 hne3 hfn3 hFr3 => ?_)
      have hfe3 : ∀ (a2 : Nat) (k2 : Int), ¬ a2 = 75 → xE (zyEl zymx B H3) a2 k2 = xE (zyEl zymx B H2) a2 k2 := fun a2 k2 hne => by unfold xE; rw [hfn3 a2 k2.toNat (fun z => hne z.1)]
      have d74_36 : xE (zyEl zymx B H3) 74 36 = xE (zyEl zymx B H2) 74 36 := hfe3 74 36 (fun z => absurd z (by decide))
      have d74_37 : xE (zyEl zymx B H3) 74 37 = xE (zyEl zymx B H2) 74 37 := hfe3 74 37 (fun z => absurd z (by decide))
      have d74_38 : xE (zyEl zymx B H3) 74 38 = xE (zyEl zymx B H2) 74 38 := hfe3 74 38 (fun z => absurd z (by decide))
      have d74_39 : xE (zyEl zymx B H3) 74 39 = xE (zyEl zymx B H2) 74 39 := hfe3 74 39 (fun z => absurd z (by decide))
      have d74_40 : xE (zyEl zymx B H3) 74 40 = xE (zyEl zymx B H2) 74 40 := hfe3 74 40 (fun z => absurd z (by decide))
      have d74_41 : xE (zyEl zymx B H3) 74 41 = xE (zyEl zymx B H2) 74 41 := hfe3 74 41 (fun z => absurd z (by decide))
      have d74_42 : xE (zyEl zymx B H3) 74 42 = xE (zyEl zymx B H2) 74 42 := hfe3 74 42 (fun z => absurd z (by decide))
      refine ⟨⟨6, by decide⟩, [0, 0], [0, 0], rfl, ⟨by decide +kernel, ⟨rfl, by decide +kernel⟩, (xcs_c rfl (xcs_c rfl xcs_n)), (xe_0 (xe_0 xe_n)), xkq_n⟩, rfl, ?_, ?_⟩
      · show (¬ 6 ≤ pCnt (xE (zyEl zymx B s.heap) 75) 104 (gN (xE (zyEl zymx B s.heap) 75 0) (xE (zyEl zymx B s.heap) 75 1)).toNat) ∧ xE (zyEl zymx B H3) 74 36 = 0 ∧ ∃ p U, (p) ≤ (xE (zyEl zymx B s.heap) 74 42) ∧ xRD (xE (zyEl zymx B s.heap) 84) (xE (zyEl zymx B s.heap) 74 42) (p) (zyEl zymx B H3) ∧ pNum (xE (zyEl zymx B s.heap) 84) (xE (zyEl zymx B s.heap) 74 42) (xE (zyEl zymx B s.heap) 74 39) 0 (gN (xE (zyEl zymx B s.heap) 75 0) (xE (zyEl zymx B s.heap) 75 1) - 1) (fun g p1 => .ok (p1, uS (xE (zyEl zymx B s.heap) 75) (104 + g) 1)) = .ok (p, U) ∧ ∀ k, 0 ≤ k → xE (zyEl zymx B H3) 75 k = U k
        refine ⟨hnf, by omega, p, _, hp, xRD_e (xRD_k hs hfr rfl rfl rfl rfl rfl) (fun k _ => hfn3 74 k (fun z => absurd z.1 (by decide))), j2, fun k k0 => ?_⟩
        by_cases e : k = 104 + v 1
        · rw [uS_e e, e, show 104 + v 1 = (v2 1 + 104) by omega, hst3]
        · rw [uS_n e, hne3 75 k k0 (fun z => e (by omega)), e75]
          exact hc k
      · show 3 < 4
        omega
    · cases hx
  · intro x0 E0 E E2 hrx hT0 hΦ i v hT hrv hInv hKc hFr0 x hx v2 hr2 hXs hag hfr hFr hT2
    rcases i with ⟨i, hi⟩
    have hi2 : i = 0 ∨ i = 1 ∨ i = 2 ∨ i = 3 ∨ i = 4 ∨ i = 5 ∨ i = 6 := by omega
    rcases hi2 with rfl | rfl | rfl | rfl | rfl | rfl | rfl
    · cases hx
    · cases hx
    · have hx : x ∈ [zxffr_br0, zxffr_br1, zxffr_br2] := hx
      have hag : ∀ k, k < 7 → v2 k = v k := hag
      have hfr : xFr [(74, 36, 37)] _ _ := hfr
      rcases List.mem_cons.mp hx with ex | hx
      · subst ex
        obtain ⟨hF, hBd, hM⟩ := hXs
        have r3 := hr2 3
        have g2 : v2 2 = v 2 := hag 2 (by decide)
        have g3 : v2 3 = v 3 := hag 3 (by decide)
        have g4 : v2 4 = v 4 := hag 4 (by decide)
        have g5 : v2 5 = v 5 := hag 5 (by decide)
        have g6 : v2 6 = v 6 := hag 6 (by decide)
        have b0 : ((2147483649 : Nat) : Int) ≤ (v2 2) + 2147483648 ∧ (v2 2) + 2147483648 ≤ ((2147483657 : Nat) : Int) := xXb hBd 0 rfl
        have b1 : ((2147483648 : Nat) : Int) ≤ (v2 6) + 2147483648 ∧ (v2 6) + 2147483648 ≤ ((2147483653 : Nat) : Int) := xXb hBd 1 rfl
        have k0 : xE E 74 36 = v 2 := xKcf hKc 0 rfl rfl
        have k1 : xE E 74 37 = v 3 := xKcf hKc 1 rfl rfl
        have k2 : xE E 74 38 = v 4 := xKcf hKc 2 rfl rfl
        have k3 : xE E 74 40 = v 5 := xKcf hKc 3 rfl rfl
        have f0 : (v2 6) < 6 := xXf hF 0 rfl
        have f1 : 0 < (v2 2) := xXf hF 1 rfl
        have m0 : xE E2 74 36 = (v2 2) := xXm hM 0 rfl
        have m1 : xE E2 74 37 = (v2 3) := xXm hM 1 rfl
        have e74_38 : xE E2 74 38 = xE E 74 38 := xFr_E hfr rfl
        have e74_39 : xE E2 74 39 = xE E 74 39 := xFr_E hfr rfl
        have e74_40 : xE E2 74 40 = xE E 74 40 := xFr_E hfr rfl
        have e74_41 : xE E2 74 41 = xE E 74 41 := xFr_E hfr rfl
        have e74_42 : xE E2 74 42 = xE E 74 42 := xFr_E hfr rfl
        have q74_42 : xE E 74 42 = xE E0 74 42 := xFr_E hFr0 rfl
        have e75_0 : xE E2 75 0 = xE E 75 0 := xFr_E hfr rfl
        have q75_0 : xE E 75 0 = xE E0 75 0 := xFr_E hFr0 rfl
        have e75_1 : xE E2 75 1 = xE E 75 1 := xFr_E hfr rfl
        have q75_1 : xE E 75 1 = xE E0 75 1 := xFr_E hFr0 rfl
        have e75_2 : xE E2 75 2 = xE E 75 2 := xFr_E hfr rfl
        have q75_2 : xE E 75 2 = xE E0 75 2 := xFr_E hFr0 rfl
        have e84 : ∀ i, xE E2 84 i = xE E 84 i := fun i => xFr_E hfr rfl
        have q84 : ∀ i, xE E 84 i = xE E0 84 i := fun i => xFr_E hFr0 rfl
        have e75 : ∀ i, xE E2 75 i = xE E 75 i := fun i => xFr_E hfr rfl
        have hI : E = E0 ∧ (v 6) = pCnt (xE E0 75) 104 (gN (xE E0 75 0) (xE E0 75 1)).toNat := hInv
        have q74_36 : xE E 74 36 = xE E0 74 36 := by rw [hI.1]
        have q74_37 : xE E 74 37 = xE E0 74 37 := by rw [hI.1]
        have q74_38 : xE E 74 38 = xE E0 74 38 := by rw [hI.1]
        have q74_39 : xE E 74 39 = xE E0 74 39 := by rw [hI.1]
        have q74_40 : xE E 74 40 = xE E0 74 40 := by rw [hI.1]
        have q74_41 : xE E 74 41 = xE E0 74 41 := by rw [hI.1]
        have q75 : ∀ i, xE E 75 i = xE E0 75 i := fun i => by rw [hI.1]
        show xΨff x0 E0 E2 0
        obtain ⟨hE, i1⟩ := hI
        obtain ⟨hP1, hP2, hP3, hP4⟩ := (show xΦff x0 E0 from hΦ)
        unfold xΨff
        intro p0 h0
        have hc6 : 6 ≤ pCnt (xE E0 75) 104 (gN (xE E0 75 0) (xE E0 75 1)).toNat := by omega
        unfold pFree
        rw [if_pos hc6]
        first
          | (exfalso; omega)
          | exact xRs_e (xEr_n (by omega) (by omega) (by omega))
      · skip
        rcases List.mem_cons.mp hx with ex | hx
        · subst ex
          obtain ⟨hF, hBd, hM⟩ := hXs
          have r3 := hr2 3
          have g2 : v2 2 = v 2 := hag 2 (by decide)
          have g3 : v2 3 = v 3 := hag 3 (by decide)
          have g4 : v2 4 = v 4 := hag 4 (by decide)
          have g5 : v2 5 = v 5 := hag 5 (by decide)
          have g6 : v2 6 = v 6 := hag 6 (by decide)
          have b0 : ((2147483649 : Nat) : Int) ≤ (v2 2) + 2147483648 ∧ (v2 2) + 2147483648 ≤ ((2147483657 : Nat) : Int) := xXb hBd 0 rfl
          have b1 : ((2147483654 : Nat) : Int) ≤ (v2 6) + 2147483648 ∧ (v2 6) + 2147483648 ≤ ((2147483679 : Nat) : Int) := xXb hBd 1 rfl
          have k0 : xE E 74 36 = v 2 := xKcf hKc 0 rfl rfl
          have k1 : xE E 74 37 = v 3 := xKcf hKc 1 rfl rfl
          have k2 : xE E 74 38 = v 4 := xKcf hKc 2 rfl rfl
          have k3 : xE E 74 40 = v 5 := xKcf hKc 3 rfl rfl
          have f0 : 6 ≤ (v2 6) := xXf hF 0 rfl
          have f1 : 0 < (v2 2) := xXf hF 1 rfl
          have f2 : 0 < (v2 2) := xXf hF 2 rfl
          have m0 : xE E2 74 36 = (v2 2) := xXm hM 0 rfl
          have m1 : xE E2 74 37 = (v2 3) := xXm hM 1 rfl
          have e74_38 : xE E2 74 38 = xE E 74 38 := xFr_E hfr rfl
          have e74_39 : xE E2 74 39 = xE E 74 39 := xFr_E hfr rfl
          have e74_40 : xE E2 74 40 = xE E 74 40 := xFr_E hfr rfl
          have e74_41 : xE E2 74 41 = xE E 74 41 := xFr_E hfr rfl
          have e74_42 : xE E2 74 42 = xE E 74 42 := xFr_E hfr rfl
          have q74_42 : xE E 74 42 = xE E0 74 42 := xFr_E hFr0 rfl
          have e75_0 : xE E2 75 0 = xE E 75 0 := xFr_E hfr rfl
          have q75_0 : xE E 75 0 = xE E0 75 0 := xFr_E hFr0 rfl
          have e75_1 : xE E2 75 1 = xE E 75 1 := xFr_E hfr rfl
          have q75_1 : xE E 75 1 = xE E0 75 1 := xFr_E hFr0 rfl
          have e75_2 : xE E2 75 2 = xE E 75 2 := xFr_E hfr rfl
          have q75_2 : xE E 75 2 = xE E0 75 2 := xFr_E hFr0 rfl
          have e84 : ∀ i, xE E2 84 i = xE E 84 i := fun i => xFr_E hfr rfl
          have q84 : ∀ i, xE E 84 i = xE E0 84 i := fun i => xFr_E hFr0 rfl
          have e75 : ∀ i, xE E2 75 i = xE E 75 i := fun i => xFr_E hfr rfl
          have hI : E = E0 ∧ (v 6) = pCnt (xE E0 75) 104 (gN (xE E0 75 0) (xE E0 75 1)).toNat := hInv
          have q74_36 : xE E 74 36 = xE E0 74 36 := by rw [hI.1]
          have q74_37 : xE E 74 37 = xE E0 74 37 := by rw [hI.1]
          have q74_38 : xE E 74 38 = xE E0 74 38 := by rw [hI.1]
          have q74_39 : xE E 74 39 = xE E0 74 39 := by rw [hI.1]
          have q74_40 : xE E 74 40 = xE E0 74 40 := by rw [hI.1]
          have q74_41 : xE E 74 41 = xE E0 74 41 := by rw [hI.1]
          have q75 : ∀ i, xE E 75 i = xE E0 75 i := fun i => by rw [hI.1]
          show xΨff x0 E0 E2 0
          obtain ⟨hE, i1⟩ := hI
          obtain ⟨hP1, hP2, hP3, hP4⟩ := (show xΦff x0 E0 from hΦ)
          unfold xΨff
          intro p0 h0
          have hc6 : 6 ≤ pCnt (xE E0 75) 104 (gN (xE E0 75 0) (xE E0 75 1)).toNat := by omega
          unfold pFree
          rw [if_pos hc6]
          first
            | (exfalso; omega)
            | exact xRs_e (xEr_n (by omega) (by omega) (by omega))
        · skip
          have ex := List.mem_singleton.mp hx
          subst ex
          obtain ⟨hF, hBd, hM⟩ := hXs
          have g2 : v2 2 = v 2 := hag 2 (by decide)
          have g3 : v2 3 = v 3 := hag 3 (by decide)
          have g4 : v2 4 = v 4 := hag 4 (by decide)
          have g5 : v2 5 = v 5 := hag 5 (by decide)
          have g6 : v2 6 = v 6 := hag 6 (by decide)
          have b0 : ((2147483648 : Nat) : Int) ≤ (v2 2) + 2147483648 ∧ (v2 2) + 2147483648 ≤ ((2147483648 : Nat) : Int) := xXb hBd 0 rfl
          have b1 : ((2147483648 : Nat) : Int) ≤ (v2 4) + 2147483648 ∧ (v2 4) + 2147483648 ≤ ((2147484548 : Nat) : Int) := xXb hBd 1 rfl
          have b2 : ((2147483654 : Nat) : Int) ≤ (v2 6) + 2147483648 ∧ (v2 6) + 2147483648 ≤ ((2147483679 : Nat) : Int) := xXb hBd 2 rfl
          have k0 : xE E 74 36 = v 2 := xKcf hKc 0 rfl rfl
          have k1 : xE E 74 37 = v 3 := xKcf hKc 1 rfl rfl
          have k2 : xE E 74 38 = v 4 := xKcf hKc 2 rfl rfl
          have k3 : xE E 74 40 = v 5 := xKcf hKc 3 rfl rfl
          have f0 : 6 ≤ (v2 6) := xXf hF 0 rfl
          have f1 : (v2 2) ≤ 0 := xXf hF 1 rfl
          have m0 : xE E2 74 36 = 6 := xXm hM 0 rfl
          have m1 : xE E2 74 37 = (v2 4) := xXm hM 1 rfl
          have e74_38 : xE E2 74 38 = xE E 74 38 := xFr_E hfr rfl
          have e74_39 : xE E2 74 39 = xE E 74 39 := xFr_E hfr rfl
          have e74_40 : xE E2 74 40 = xE E 74 40 := xFr_E hfr rfl
          have e74_41 : xE E2 74 41 = xE E 74 41 := xFr_E hfr rfl
          have e74_42 : xE E2 74 42 = xE E 74 42 := xFr_E hfr rfl
          have q74_42 : xE E 74 42 = xE E0 74 42 := xFr_E hFr0 rfl
          have e75_0 : xE E2 75 0 = xE E 75 0 := xFr_E hfr rfl
          have q75_0 : xE E 75 0 = xE E0 75 0 := xFr_E hFr0 rfl
          have e75_1 : xE E2 75 1 = xE E 75 1 := xFr_E hfr rfl
          have q75_1 : xE E 75 1 = xE E0 75 1 := xFr_E hFr0 rfl
          have e75_2 : xE E2 75 2 = xE E 75 2 := xFr_E hfr rfl
          have q75_2 : xE E 75 2 = xE E0 75 2 := xFr_E hFr0 rfl
          have e84 : ∀ i, xE E2 84 i = xE E 84 i := fun i => xFr_E hfr rfl
          have q84 : ∀ i, xE E 84 i = xE E0 84 i := fun i => xFr_E hFr0 rfl
          have e75 : ∀ i, xE E2 75 i = xE E 75 i := fun i => xFr_E hfr rfl
          have hI : E = E0 ∧ (v 6) = pCnt (xE E0 75) 104 (gN (xE E0 75 0) (xE E0 75 1)).toNat := hInv
          have q74_36 : xE E 74 36 = xE E0 74 36 := by rw [hI.1]
          have q74_37 : xE E 74 37 = xE E0 74 37 := by rw [hI.1]
          have q74_38 : xE E 74 38 = xE E0 74 38 := by rw [hI.1]
          have q74_39 : xE E 74 39 = xE E0 74 39 := by rw [hI.1]
          have q74_40 : xE E 74 40 = xE E0 74 40 := by rw [hI.1]
          have q74_41 : xE E 74 41 = xE E0 74 41 := by rw [hI.1]
          have q75 : ∀ i, xE E 75 i = xE E0 75 i := fun i => by rw [hI.1]
          show xΨff x0 E0 E2 0
          obtain ⟨hE, i1⟩ := hI
          obtain ⟨hP1, hP2, hP3, hP4⟩ := (show xΦff x0 E0 from hΦ)
          unfold xΨff
          intro p0 h0
          have hc6 : 6 ≤ pCnt (xE E0 75) 104 (gN (xE E0 75 0) (xE E0 75 1)).toNat := by omega
          unfold pFree
          rw [if_pos hc6]
          first
            | (exfalso; omega)
            | exact xRs_e (xEr_n (by omega) (by omega) (by omega))
    · cases hx
    · have hx : x ∈ [zxffr_dr0] := hx
      have hag : ∀ k, k < 4 → v2 k = v k := hag
      have hfr : xFr [] _ _ := hfr
      have ex := List.mem_singleton.mp hx
      subst ex
      obtain ⟨hF, hBd, hM⟩ := hXs
      have g2 : v2 2 = v 2 := hag 2 (by decide)
      have g3 : v2 3 = v 3 := hag 3 (by decide)
      have b0 : ((2147483649 : Nat) : Int) ≤ (v2 2) + 2147483648 ∧ (v2 2) + 2147483648 ≤ ((2147483657 : Nat) : Int) := xXb hBd 0 rfl
      have k0 : xE E 74 36 = v 2 := xKcf hKc 0 rfl rfl
      have f0 : ¬ (v2 2) = 0 := xXf hF 0 rfl
      have e74_36 : xE E2 74 36 = xE E 74 36 := xFr_E hfr rfl
      have e74_37 : xE E2 74 37 = xE E 74 37 := xFr_E hfr rfl
      have e74_38 : xE E2 74 38 = xE E 74 38 := xFr_E hfr rfl
      have e74_39 : xE E2 74 39 = xE E 74 39 := xFr_E hfr rfl
      have e74_40 : xE E2 74 40 = xE E 74 40 := xFr_E hfr rfl
      have e74_41 : xE E2 74 41 = xE E 74 41 := xFr_E hfr rfl
      have e74_42 : xE E2 74 42 = xE E 74 42 := xFr_E hfr rfl
      have q74_42 : xE E 74 42 = xE E0 74 42 := xFr_E hFr0 rfl
      have e75_0 : xE E2 75 0 = xE E 75 0 := xFr_E hfr rfl
      have q75_0 : xE E 75 0 = xE E0 75 0 := xFr_E hFr0 rfl
      have e75_1 : xE E2 75 1 = xE E 75 1 := xFr_E hfr rfl
      have q75_1 : xE E 75 1 = xE E0 75 1 := xFr_E hFr0 rfl
      have e75_2 : xE E2 75 2 = xE E 75 2 := xFr_E hfr rfl
      have q75_2 : xE E 75 2 = xE E0 75 2 := xFr_E hFr0 rfl
      have e84 : ∀ i, xE E2 84 i = xE E 84 i := fun i => xFr_E hfr rfl
      have q84 : ∀ i, xE E 84 i = xE E0 84 i := fun i => xFr_E hFr0 rfl
      have e75 : ∀ i, xE E2 75 i = xE E 75 i := fun i => xFr_E hfr rfl
      have hI : (¬ 6 ≤ pCnt (xE E0 75) 104 (gN (xE E0 75 0) (xE E0 75 1)).toNat) ∧ (∀ k, xE E 75 k = xE E0 75 k) ∧ (xE E 74 36 = 0 → (0 ≤ (v 3) ∧ (v 3) ≤ 30) ∧ ∃ p, (p) ≤ (xE E0 74 42) ∧ xRD (xE E0 84) (xE E0 74 42) (p) E ∧ pNum (xE E0 84) (xE E0 74 42) (xE E0 74 39) 0 (gN (xE E0 75 0) (xE E0 75 1) - 1) (fun g p1 => .ok (p1, uS (xE E0 75) (104 + g) 1)) = .ok (p, uS (xE E0 75) (104 + (v 3)) 1)) ∧ (¬ xE E 74 36 = 0 → xEr E (pNum (xE E0 84) (xE E0 74 42) (xE E0 74 39) 0 (gN (xE E0 75 0) (xE E0 75 1) - 1) (fun g p1 => .ok (p1, uS (xE E0 75) (104 + g) 1)))) := hInv
      show xΨff x0 E0 E2 0
      obtain ⟨hnf, hc, i1, i2⟩ := hI
      have hEE : E2 = E := xFr_n hfr
      intro p0 h0
      unfold pFree
      rw [if_neg hnf]
      exact xRs_e (xEr_k (i2 (by omega)) (by omega) (by omega))
    · cases hx
    · have hx : x ∈ [zxffr_er0] := hx
      have hag : ∀ k, k < 2 → v2 k = v k := hag
      have hfr : xFr [] _ _ := hfr
      have ex := List.mem_singleton.mp hx
      subst ex
      obtain ⟨hF, hBd, hM⟩ := hXs
      have e74_36 : xE E2 74 36 = xE E 74 36 := xFr_E hfr rfl
      have e74_37 : xE E2 74 37 = xE E 74 37 := xFr_E hfr rfl
      have e74_38 : xE E2 74 38 = xE E 74 38 := xFr_E hfr rfl
      have e74_39 : xE E2 74 39 = xE E 74 39 := xFr_E hfr rfl
      have e74_40 : xE E2 74 40 = xE E 74 40 := xFr_E hfr rfl
      have e74_41 : xE E2 74 41 = xE E 74 41 := xFr_E hfr rfl
      have e74_42 : xE E2 74 42 = xE E 74 42 := xFr_E hfr rfl
      have q74_42 : xE E 74 42 = xE E0 74 42 := xFr_E hFr0 rfl
      have e75_0 : xE E2 75 0 = xE E 75 0 := xFr_E hfr rfl
      have q75_0 : xE E 75 0 = xE E0 75 0 := xFr_E hFr0 rfl
      have e75_1 : xE E2 75 1 = xE E 75 1 := xFr_E hfr rfl
      have q75_1 : xE E 75 1 = xE E0 75 1 := xFr_E hFr0 rfl
      have e75_2 : xE E2 75 2 = xE E 75 2 := xFr_E hfr rfl
      have q75_2 : xE E 75 2 = xE E0 75 2 := xFr_E hFr0 rfl
      have e84 : ∀ i, xE E2 84 i = xE E 84 i := fun i => xFr_E hfr rfl
      have q84 : ∀ i, xE E 84 i = xE E0 84 i := fun i => xFr_E hFr0 rfl
      have e75 : ∀ i, xE E2 75 i = xE E 75 i := fun i => xFr_E hfr rfl
      have hI : (¬ 6 ≤ pCnt (xE E0 75) 104 (gN (xE E0 75 0) (xE E0 75 1)).toNat) ∧ xE E 74 36 = 0 ∧ ∃ p U, (p) ≤ (xE E0 74 42) ∧ xRD (xE E0 84) (xE E0 74 42) (p) E ∧ pNum (xE E0 84) (xE E0 74 42) (xE E0 74 39) 0 (gN (xE E0 75 0) (xE E0 75 1) - 1) (fun g p1 => .ok (p1, uS (xE E0 75) (104 + g) 1)) = .ok (p, U) ∧ ∀ k, 0 ≤ k → xE E 75 k = U k := hInv
      show xΨff x0 E0 E2 0
      obtain ⟨hnf, i1, p, U, hp, hs, i3, i4⟩ := hI
      have hEE : E2 = E := xFr_n hfr
      intro p0 h0
      unfold pFree
      rw [if_neg hnf, i3, hEE]
      exact ⟨i1, hp, hs, fun k k0 _ => i4 k k0⟩
end
