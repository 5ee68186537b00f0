/-! THE REFERENCE reads a line (printed by m27.py) -/
noncomputable def zxfli_zx0 : zyXp := (0, [595], [], [], [], [])
noncomputable def zpfli_z : zyPh := (0, [595], [(0, 4294967295)], [], [])
noncomputable def zxfli_ax0 : zyXp := (2, [595], [8, 595], [], [], [])
noncomputable def zpfli_a : zyPh := (0, [595], [(0, 4294967295)], [], [])
noncomputable def zxfli_b1x0 : zyXp := (9, [595], [595], [(23, 0, 34359738369, 0)], [(34359738369, 2147483649, 2147483649)], [])
noncomputable def zxfli_b1x1 : zyXp := (17, [595], [16, 595], [(22, 0, 34359738369, 0)], [(34359738369, 2147483648, 2147483648)], [])
noncomputable def zpfli_b1 : zyPh := (5, [595], [(0, 4294967295), (2147483648, 2147483649)], [], [34359738369])
noncomputable def zxfli_b2x0 : zyXp := (24, [595], [595], [(23, 0, 34359738369, 0)], [(34359738369, 2147483649, 2147483649)], [])
noncomputable def zxfli_b2x1 : zyXp := (32, [595], [24, 595], [(22, 0, 34359738369, 0)], [(34359738369, 2147483648, 2147483648)], [])
noncomputable def zpfli_b2 : zyPh := (20, [595], [(0, 4294967295), (2147483648, 2147483649)], [], [34359738369])
noncomputable def zxfli_b3x0 : zyXp := (39, [595], [595], [(23, 0, 34359738369, 0)], [(34359738369, 2147483649, 2147483649)], [])
noncomputable def zxfli_b3x1 : zyXp := (48, [595], [48, 595], [(22, 0, 34359738369, 0)], [(34359738369, 2147483648, 2147483648)], [])
noncomputable def zpfli_b3 : zyPh := (35, [595], [(0, 4294967295), (2147483648, 2147483649)], [], [34359738369])
noncomputable def zxfli_b6x0 : zyXp := (55, [595], [595], [(23, 0, 34359738369, 0)], [(34359738369, 2147483649, 2147483649)], [])
noncomputable def zxfli_b6x1 : zyXp := (64, [595], [56, 595], [(22, 0, 34359738369, 0)], [(34359738369, 2147483648, 2147483648)], [])
noncomputable def zpfli_b6 : zyPh := (51, [595], [(0, 4294967295), (2147483648, 2147483649)], [], [34359738369])
noncomputable def zxfli_b7x0 : zyXp := (71, [595], [595], [(23, 0, 34359738369, 0)], [(34359738369, 2147483649, 2147483649)], [])
noncomputable def zxfli_b7x1 : zyXp := (80, [595], [64, 595], [(22, 0, 34359738369, 0)], [(34359738369, 2147483648, 2147483648)], [])
noncomputable def zpfli_b7 : zyPh := (67, [595], [(0, 4294967295), (2147483648, 2147483649)], [], [34359738369])
noncomputable def zxfli_b8x0 : zyXp := (87, [595], [595], [(23, 0, 34359738369, 0)], [(34359738369, 2147483649, 2147483649)], [])
noncomputable def zxfli_b8x1 : zyXp := (93, [595], [], [(22, 0, 34359738369, 0)], [(34359738369, 2147483648, 2147483648)], [])
noncomputable def zpfli_b8 : zyPh := (83, [595], [(0, 4294967295), (2147483648, 2147483649)], [], [34359738369])
noncomputable def zxfli_mx0 : zyXp := (103, [595], [472, 595, 595], [(21, 0, 0, 34359738369), (23, 0, 137438953473, 32)], [(34359738369, 2147483648, 2147483648), (103079215105, 2147483648, 2147484548), (137438953473, 2147483648, 2147483651)], [(1212452, 16), (1212453, 103079215105)])
noncomputable def zxfli_mx1 : zyXp := (103, [595], [472, 595, 595], [(21, 0, 0, 34359738369), (22, 0, 137438953473, 32)], [(34359738369, 2147483648, 2147483648), (103079215105, 2147483648, 2147484548), (137438953473, 2147483652, 2147483652)], [(1212452, 8), (1212453, 103079215105)])
noncomputable def zpfli_m : zyPh := (93, [595], [(0, 4294967295), (2147483648, 2147483648), (0, 4294967295), (2147483648, 2147484548), (2147483648, 2147483652)], [(1212452, 34359738369), (1212453, 68719476737), (1212454, 103079215105), (1212456, 137438953473)], [])
noncomputable def zxfli_k1x0 : zyXp := (103, [595], [472, 595, 595], [], [], [])
noncomputable def zpfli_k1 : zyPh := (12, [595], [(0, 4294967295)], [], [])
noncomputable def zxfli_k2x0 : zyXp := (103, [595], [472, 595, 595], [], [], [])
noncomputable def zpfli_k2 : zyPh := (27, [595], [(0, 4294967295)], [], [])
noncomputable def zxfli_k3x0 : zyXp := (103, [595], [472, 595, 595], [], [], [])
noncomputable def zpfli_k3 : zyPh := (42, [595], [(0, 4294967295)], [], [])
noncomputable def zxfli_k6x0 : zyXp := (103, [595], [472, 595, 595], [], [], [])
noncomputable def zpfli_k6 : zyPh := (58, [595], [(0, 4294967295)], [], [])
noncomputable def zxfli_k7x0 : zyXp := (103, [595], [472, 595, 595], [], [], [])
noncomputable def zpfli_k7 : zyPh := (74, [595], [(0, 4294967295)], [], [])
noncomputable def zxfli_k8x0 : zyXp := (103, [595], [472, 595, 595], [], [], [])
noncomputable def zpfli_k8 : zyPh := (90, [595], [(0, 4294967295)], [], [])
noncomputable def zxfli_sx0 : zyXp := (106, [595], [34359738369, 595], [], [(34359738369, 2147483648, 2147483649)], [])
noncomputable def zpfli_s : zyPh := (106, [595], [(0, 4294967295), (2147483648, 2147483649)], [], [34359738369, 595])
noncomputable def zxfli_tr0 : zyXp := (0, [], [], [], [], [])
noncomputable def zpfli_t : zyPh := (109, [595], [(0, 4294967295)], [], [])
noncomputable def zpfli (i : Nat) : zyPh := zif (Nat.beq i 0) (zpfli_z) (zif (Nat.beq i 1) (zpfli_a) (zif (Nat.beq i 2) (zpfli_b1) (zif (Nat.beq i 3) (zpfli_b2) (zif (Nat.beq i 4) (zpfli_b3) (zif (Nat.beq i 5) (zpfli_b6) (zif (Nat.beq i 6) (zpfli_b7) (zif (Nat.beq i 7) (zpfli_b8) (zif (Nat.beq i 8) (zpfli_m) (zif (Nat.beq i 9) (zpfli_k1) (zif (Nat.beq i 10) (zpfli_k2) (zif (Nat.beq i 11) (zpfli_k3) (zif (Nat.beq i 12) (zpfli_k6) (zif (Nat.beq i 13) (zpfli_k7) (zif (Nat.beq i 14) (zpfli_k8) (zif (Nat.beq i 15) (zpfli_s) (zpfli_t))))))))))))))))
noncomputable def zXfli (i : Nat) : List zyXp := zif (Nat.beq i 0) ([zxfli_zx0]) (zif (Nat.beq i 1) ([zxfli_ax0]) (zif (Nat.beq i 2) ([zxfli_b1x0, zxfli_b1x1]) (zif (Nat.beq i 3) ([zxfli_b2x0, zxfli_b2x1]) (zif (Nat.beq i 4) ([zxfli_b3x0, zxfli_b3x1]) (zif (Nat.beq i 5) ([zxfli_b6x0, zxfli_b6x1]) (zif (Nat.beq i 6) ([zxfli_b7x0, zxfli_b7x1]) (zif (Nat.beq i 7) ([zxfli_b8x0, zxfli_b8x1]) (zif (Nat.beq i 8) ([zxfli_mx0, zxfli_mx1]) (zif (Nat.beq i 9) ([zxfli_k1x0]) (zif (Nat.beq i 10) ([zxfli_k2x0]) (zif (Nat.beq i 11) ([zxfli_k3x0]) (zif (Nat.beq i 12) ([zxfli_k6x0]) (zif (Nat.beq i 13) ([zxfli_k7x0]) (zif (Nat.beq i 14) ([zxfli_k8x0]) (zif (Nat.beq i 15) ([zxfli_sx0]) ([]))))))))))))))))
noncomputable def zRfli (i : Nat) : List zyXp := zif (Nat.beq i 0) ([]) (zif (Nat.beq i 1) ([]) (zif (Nat.beq i 2) ([]) (zif (Nat.beq i 3) ([]) (zif (Nat.beq i 4) ([]) (zif (Nat.beq i 5) ([]) (zif (Nat.beq i 6) ([]) (zif (Nat.beq i 7) ([]) (zif (Nat.beq i 8) ([]) (zif (Nat.beq i 9) ([]) (zif (Nat.beq i 10) ([]) (zif (Nat.beq i 11) ([]) (zif (Nat.beq i 12) ([]) (zif (Nat.beq i 13) ([]) (zif (Nat.beq i 14) ([]) (zif (Nat.beq i 15) ([]) ([zxfli_tr0]))))))))))))))))
noncomputable def zFfli (i : Nat) : zyR := zif (Nat.beq i 0) ([]) (zif (Nat.beq i 1) ([]) (zif (Nat.beq i 2) ([]) (zif (Nat.beq i 3) ([]) (zif (Nat.beq i 4) ([]) (zif (Nat.beq i 5) ([]) (zif (Nat.beq i 6) ([]) (zif (Nat.beq i 7) ([]) (zif (Nat.beq i 8) ([(74, 36, 37)]) (zif (Nat.beq i 9) ([]) (zif (Nat.beq i 10) ([]) (zif (Nat.beq i 11) ([]) (zif (Nat.beq i 12) ([]) (zif (Nat.beq i 13) ([]) (zif (Nat.beq i 14) ([]) (zif (Nat.beq i 15) ([]) ([]))))))))))))))))
noncomputable def zSfli (i : Nat) : Nat := zif (Nat.beq i 0) (0) (zif (Nat.beq i 1) (0) (zif (Nat.beq i 2) (0) (zif (Nat.beq i 3) (0) (zif (Nat.beq i 4) (0) (zif (Nat.beq i 5) (0) (zif (Nat.beq i 6) (0) (zif (Nat.beq i 7) (0) (zif (Nat.beq i 8) (0) (zif (Nat.beq i 9) (0) (zif (Nat.beq i 10) (0) (zif (Nat.beq i 11) (0) (zif (Nat.beq i 12) (0) (zif (Nat.beq i 13) (0) (zif (Nat.beq i 14) (0) (zif (Nat.beq i 15) (0) (0))))))))))))))))
theorem xIs_b {E E2 : zyEm} {r : Int} {x : Nat → Int} (h : xΨis x E E2 r) : r = 0 ∨ r = 1 := by
  unfold xΨis at h
  rw [h]
  split
  · exact Or.inr rfl
  · exact Or.inl rfl
/-- a line is read -/
def xΦln (_ : Nat → Int) (E : zyEm) : Prop := xWs E ∧ xE E 74 36 = 0 ∧ (xE E 74 38 ≤ xE E 74 42 ∧ xRD (xE E 84) (xE E 74 42) (xE E 74 38) E) ∧ ¬ tKd (xE E 84) (xE E 74 42) (xE E 74 38) = 0 ∧ (1 ≤ xE E 75 0 ∧ xE E 75 0 ≤ 4) ∧ (1 ≤ xE E 75 1 ∧ xE E 75 1 ≤ 5) ∧ (0 ≤ xE E 75 2 ∧ xE E 75 2 ≤ 8) ∧ ∀ b, 0 ≤ b → b < xE E 75 2 → 0 ≤ xE E 75 (136 + b)
def xΨln (_ : Nat → Int) (E E2 : zyEm) (_ : Int) : Prop := xRs (xE E 84) (xE E 74 42) E2 (pLine (xE E 84) (xE E 74 42) (xE E 74 38) (xE E 75))
noncomputable def fpfli : zyR := [(74, 36, 41), (74, 43, 43), (75, 2, 2), (75, 5, 5), (75, 8, 70), (75, 72, 159), (75, 460, 519)]
theorem zyfli_run : zyrS zymx zxi327 (327, 0, 0, 0, 0) 8 zpfli (fun _ _ => []) zFfli zSfli zXfli zRfli 17 = true := by decide +kernel
theorem zyfli_ck : zyAll (fun i => xsubR (zFfli i) fpfli && ((zXfli i).all xckX && (zRfli i).all (fun x => xckX x && xrtB false x))) 17 = true := by decide +kernel
def xIfli (i : Nat) (x0 : Nat → Int) (E0 : zyEm) (v : Nat → Int) (E : zyEm) : Prop := if i = 0 then (E = E0) else if i = 1 then (E = E0) else if i = 2 then (E = E0 ∧ ((v 1) = 1 ↔ tW (xE E0 84) (xE E0 74 42) (xE E0 74 38) [115, 119, 105, 116, 99, 104] = true)) else if i = 3 then (E = E0 ∧ ¬ (tW (xE E0 84) (xE E0 74 42) (xE E0 74 38) [115, 119, 105, 116, 99, 104] = true) ∧ ((v 1) = 1 ↔ tW (xE E0 84) (xE E0 74 42) (xE E0 74 38) [98, 111, 98, 98, 105, 110] = true)) else if i = 4 then (E = E0 ∧ ¬ (tW (xE E0 84) (xE E0 74 42) (xE E0 74 38) [115, 119, 105, 116, 99, 104] = true) ∧ ¬ (tW (xE E0 84) (xE E0 74 42) (xE E0 74 38) [98, 111, 98, 98, 105, 110] = true) ∧ ((v 1) = 1 ↔ tW (xE E0 84) (xE E0 74 42) (xE E0 74 38) [115, 116, 117, 99, 107] = true)) else if i = 5 then (E = E0 ∧ ¬ (tW (xE E0 84) (xE E0 74 42) (xE E0 74 38) [115, 119, 105, 116, 99, 104] = true) ∧ ¬ (tW (xE E0 84) (xE E0 74 42) (xE E0 74 38) [98, 111, 98, 98, 105, 110] = true) ∧ ¬ (tW (xE E0 84) (xE E0 74 42) (xE E0 74 38) [115, 116, 117, 99, 107] = true) ∧ ((v 1) = 1 ↔ tW (xE E0 84) (xE E0 74 42) (xE E0 74 38) [102, 114, 101, 101] = true)) else if i = 6 then (E = E0 ∧ ¬ (tW (xE E0 84) (xE E0 74 42) (xE E0 74 38) [115, 119, 105, 116, 99, 104] = true) ∧ ¬ (tW (xE E0 84) (xE E0 74 42) (xE E0 74 38) [98, 111, 98, 98, 105, 110] = true) ∧ ¬ (tW (xE E0 84) (xE E0 74 42) (xE E0 74 38) [115, 116, 117, 99, 107] = true) ∧ ¬ (tW (xE E0 84) (xE E0 74 42) (xE E0 74 38) [102, 114, 101, 101] = true) ∧ ((v 1) = 1 ↔ tW (xE E0 84) (xE E0 74 42) (xE E0 74 38) [112, 108, 97, 99, 101] = true)) else if i = 7 then (E = E0 ∧ ¬ (tW (xE E0 84) (xE E0 74 42) (xE E0 74 38) [115, 119, 105, 116, 99, 104] = true) ∧ ¬ (tW (xE E0 84) (xE E0 74 42) (xE E0 74 38) [98, 111, 98, 98, 105, 110] = true) ∧ ¬ (tW (xE E0 84) (xE E0 74 42) (xE E0 74 38) [115, 116, 117, 99, 107] = true) ∧ ¬ (tW (xE E0 84) (xE E0 74 42) (xE E0 74 38) [102, 114, 101, 101] = true) ∧ ¬ (tW (xE E0 84) (xE E0 74 42) (xE E0 74 38) [112, 108, 97, 99, 101] = true) ∧ ((v 1) = 1 ↔ tW (xE E0 84) (xE E0 74 42) (xE E0 74 38) [119, 111, 114, 100] = true)) else if i = 8 then (E = E0 ∧ ¬ (tW (xE E0 84) (xE E0 74 42) (xE E0 74 38) [115, 119, 105, 116, 99, 104] = true) ∧ ¬ (tW (xE E0 84) (xE E0 74 42) (xE E0 74 38) [98, 111, 98, 98, 105, 110] = true) ∧ ¬ (tW (xE E0 84) (xE E0 74 42) (xE E0 74 38) [115, 116, 117, 99, 107] = true) ∧ ¬ (tW (xE E0 84) (xE E0 74 42) (xE E0 74 38) [102, 114, 101, 101] = true) ∧ ¬ (tW (xE E0 84) (xE E0 74 42) (xE E0 74 38) [112, 108, 97, 99, 101] = true) ∧ ¬ (tW (xE E0 84) (xE E0 74 42) (xE E0 74 38) [119, 111, 114, 100] = true)) else if i = 9 then (xRs (xE E0 84) (xE E0 74 42) E (pBody (xE E0 84) (xE E0 74 42) (xE E0 74 38) (xE E0 75))) else if i = 10 then (xRs (xE E0 84) (xE E0 74 42) E (pBody (xE E0 84) (xE E0 74 42) (xE E0 74 38) (xE E0 75))) else if i = 11 then (xRs (xE E0 84) (xE E0 74 42) E (pBody (xE E0 84) (xE E0 74 42) (xE E0 74 38) (xE E0 75))) else if i = 12 then (xRs (xE E0 84) (xE E0 74 42) E (pBody (xE E0 84) (xE E0 74 42) (xE E0 74 38) (xE E0 75))) else if i = 13 then (xRs (xE E0 84) (xE E0 74 42) E (pBody (xE E0 84) (xE E0 74 42) (xE E0 74 38) (xE E0 75))) else if i = 14 then (xRs (xE E0 84) (xE E0 74 42) E (pBody (xE E0 84) (xE E0 74 42) (xE E0 74 38) (xE E0 75))) else if i = 15 then ((xE E 74 36 = 0 → ∃ p U, ((p) ≤ (xE E0 74 42) ∧ xRD (xE E0 84) (xE E0 74 42) (p) E) ∧ pBody (xE E0 84) (xE E0 74 42) (xE E0 74 38) (xE E0 75) = .ok (p, U) ∧ (∀ k, 0 ≤ k → k < 520 → xE E 75 k = U k) ∧ (v 1) = (if tKd (xE E0 84) (xE E0 74 42) p = 5 then 1 else 0)) ∧ (¬ xE E 74 36 = 0 → xEr E (pBody (xE E0 84) (xE E0 74 42) (xE E0 74 38) (xE E0 75)))) else (xRs (xE E0 84) (xE E0 74 42) E (pLine (xE E0 84) (xE E0 74 42) (xE E0 74 38) (xE E0 75)))
def xMfli (i : Nat) (x0 : Nat → Int) (E0 : zyEm) (v : Nat → Int) (E : zyEm) : Nat := if i = 0 then (100) else if i = 1 then (99) else if i = 2 then (98) else if i = 3 then (97) else if i = 4 then (96) else if i = 5 then (95) else if i = 6 then (94) else if i = 7 then (93) else if i = 8 then (92) else if i = 9 then (91) else if i = 10 then (90) else if i = 11 then (89) else if i = 12 then (88) else if i = 13 then (87) else if i = 14 then (86) else if i = 15 then (85) else (84)
theorem xLn {l : Launch} {en : zEn} {me : zMe} (hen : zG zxMeta 327 = some en) (hme : zG zMeth 327 = some me) : xFc l zymx en me 8 [74] 0 fpfli false xΦln xΨln := by
  have een : zG zxMeta 327 = some (zxi327, 1, 1, 11, 327, 0, 0, 0, 0) := rfl
  obtain ⟨me1, hme1, hOK⟩ := zall hen
  rw [hme] at hme1
  cases hme1
  rw [een] at hen
  cases hen
  have hr := zyfli_run
  have hck := fun i hi => zyAll_iff zyfli_ck i hi
  simp only [Bool.and_eq_true] at hck
  obtain ⟨mefiw, hmefiw, -⟩ := zall (show zG zxMeta 316 = some (zxi316, 2, 2, 11, 316, 0, 0, 2, 0) from rfl)
  have hfiw := xIw (l := l) (show zG zxMeta 316 = some (zxi316, 2, 2, 11, 316, 0, 0, 2, 0) from rfl) hmefiw
  obtain ⟨mefsw, hmefsw, -⟩ := zall (show zG zxMeta 321 = some (zxi321, 1, 5, 11, 321, 0, 0, 0, 0) from rfl)
  have hfsw := xSw (l := l) (show zG zxMeta 321 = some (zxi321, 1, 5, 11, 321, 0, 0, 0, 0) from rfl) hmefsw
  obtain ⟨mefbb, hmefbb, -⟩ := zall (show zG zxMeta 322 = some (zxi322, 1, 2, 11, 322, 0, 0, 0, 0) from rfl)
  have hfbb := xBb (l := l) (show zG zxMeta 322 = some (zxi322, 1, 2, 11, 322, 0, 0, 0, 0) from rfl) hmefbb
  obtain ⟨mefsk, hmefsk, -⟩ := zall (show zG zxMeta 323 = some (zxi323, 1, 3, 11, 323, 0, 0, 0, 0) from rfl)
  have hfsk := xSk (l := l) (show zG zxMeta 323 = some (zxi323, 1, 3, 11, 323, 0, 0, 0, 0) from rfl) hmefsk
  obtain ⟨meffr, hmeffr, -⟩ := zall (show zG zxMeta 324 = some (zxi324, 1, 2, 11, 324, 0, 0, 0, 0) from rfl)
  have hffr := xFf (l := l) (show zG zxMeta 324 = some (zxi324, 1, 2, 11, 324, 0, 0, 0, 0) from rfl) hmeffr
  obtain ⟨mefpl, hmefpl, -⟩ := zall (show zG zxMeta 325 = some (zxi325, 1, 3, 11, 325, 0, 0, 0, 0) from rfl)
  have hfpl := xPl (l := l) (show zG zxMeta 325 = some (zxi325, 1, 3, 11, 325, 0, 0, 0, 0) from rfl) hmefpl
  obtain ⟨mefwd, hmefwd, -⟩ := zall (show zG zxMeta 326 = some (zxi326, 1, 2, 11, 326, 0, 0, 0, 0) from rfl)
  have hfwd := xWd (l := l) (show zG zxMeta 326 = some (zxi326, 1, 2, 11, 326, 0, 0, 0, 0) from rfl) hmefwd
  obtain ⟨mefis, hmefis, -⟩ := zall (show zG zxMeta 317 = some (zxi317, 2, 2, 11, 317, 0, 0, 2, 0) from rfl)
  have hfis := xIs (l := l) (show zG zxMeta 317 = some (zxi317, 2, 2, 11, 317, 0, 0, 2, 0) from rfl) hmefis
  obtain ⟨meftk, hmeftk, -⟩ := zall (show zG zxMeta 318 = some (zxi318, 2, 2, 11, 318, 0, 0, 0, 0) from rfl)
  have hftk := xTk (l := l) (show zG zxMeta 318 = some (zxi318, 2, 2, 11, 318, 0, 0, 0, 0) from rfl) hmeftk
  intro B
  refine xcut (mi := zymx) (B := B) hOK rfl rfl (ι := Fin 17) (fun i => zpfli i.val) (fun _ _ => []) (fun i => zFfli i.val) (fun i => zSfli i.val) (fun i => zXfli i.val) (fun i => zRfli i.val) (fun i y2 ct en2 me2 h => by cases h) 200000 (fun i => zyAll_iff hr i.val i.isLt) (fun i => (hck i.val i.isLt).1) (fun i => (hck i.val i.isLt).2.1) (fun i => (hck i.val i.isLt).2.2) ⟨0, by decide⟩ ⟨rfl, rfl, rfl, rfl⟩ ⟨by decide, by decide⟩ (fun i x0 E0 v E => xIfli i.val x0 E0 v E) (fun i x0 E0 v E => xMfli i.val x0 E0 v E) ?_ ?_ ?_
  · intro x0 E hx0 hT hΦ
    have hΦ : xΦln x0 E := hΦ
    refine ⟨fun k p hp => ?_, ?_⟩
    · have hk : k < 1 := (List.getElem?_eq_some_iff.mp hp).1
      have hk : k = 0 := by omega
      rcases hk with rfl
      · have hp : some (0, 4294967295) = some p := hp
        cases hp
        show ((0 : Nat) : Int) ≤ 0 + 2147483648 ∧ 0 + 2147483648 ≤ ((4294967295 : Nat) : Int)
        omega
    · show E = E
      rfl
  · intro x0 s Wg hRu hrx hT0 hΦ i v H hT hrv hInv hKc hFr0 hIH x hx ρ2 v2 N2 H2 locs lsB stA hAt hB hv hr2 hXs hag hfr hFr hT2
    rcases i with ⟨i, hi⟩
    have hi2 : i = 0 ∨ i = 1 ∨ i = 2 ∨ i = 3 ∨ i = 4 ∨ i = 5 ∨ i = 6 ∨ i = 7 ∨ i = 8 ∨ i = 9 ∨ i = 10 ∨ i = 11 ∨ i = 12 ∨ i = 13 ∨ i = 14 ∨ i = 15 ∨ i = 16 := by omega
    rcases hi2 with rfl | rfl | rfl | rfl | rfl | rfl | rfl | rfl | rfl | rfl | rfl | rfl | rfl | rfl | rfl | rfl | rfl
    · have hx : x ∈ [zxfli_zx0] := hx
      have hag : ∀ k, k < 1 → v2 k = v k := hag
      have hfr : xFr [] _ _ := hfr
      have ex := List.mem_singleton.mp hx
      subst ex
      obtain ⟨hF, hBd, hM⟩ := hXs
      have e74_36 : xE (zyEl zymx B H2) 74 36 = xE (zyEl zymx B H) 74 36 := xFr_E hfr rfl
      have e74_37 : xE (zyEl zymx B H2) 74 37 = xE (zyEl zymx B H) 74 37 := xFr_E hfr rfl
      have e74_38 : xE (zyEl zymx B H2) 74 38 = xE (zyEl zymx B H) 74 38 := xFr_E hfr rfl
      have e74_39 : xE (zyEl zymx B H2) 74 39 = xE (zyEl zymx B H) 74 39 := xFr_E hfr rfl
      have e74_40 : xE (zyEl zymx B H2) 74 40 = xE (zyEl zymx B H) 74 40 := xFr_E hfr rfl
      have e74_41 : xE (zyEl zymx B H2) 74 41 = xE (zyEl zymx B H) 74 41 := xFr_E hfr rfl
      have e74_42 : xE (zyEl zymx B H2) 74 42 = xE (zyEl zymx B H) 74 42 := xFr_E hfr rfl
      have q74_42 : xE (zyEl zymx B H) 74 42 = xE (zyEl zymx B s.heap) 74 42 := xFr_E hFr0 rfl
      have e75_0 : xE (zyEl zymx B H2) 75 0 = xE (zyEl zymx B H) 75 0 := xFr_E hfr rfl
      have q75_0 : xE (zyEl zymx B H) 75 0 = xE (zyEl zymx B s.heap) 75 0 := xFr_E hFr0 rfl
      have e75_1 : xE (zyEl zymx B H2) 75 1 = xE (zyEl zymx B H) 75 1 := xFr_E hfr rfl
      have q75_1 : xE (zyEl zymx B H) 75 1 = xE (zyEl zymx B s.heap) 75 1 := xFr_E hFr0 rfl
      have e75_2 : xE (zyEl zymx B H2) 75 2 = xE (zyEl zymx B H) 75 2 := xFr_E hfr rfl
      have e84 : ∀ i, xE (zyEl zymx B H2) 84 i = xE (zyEl zymx B H) 84 i := fun i => xFr_E hfr rfl
      have q84 : ∀ i, xE (zyEl zymx B H) 84 i = xE (zyEl zymx B s.heap) 84 i := fun i => xFr_E hFr0 rfl
      have e75 : ∀ i, xE (zyEl zymx B H2) 75 i = xE (zyEl zymx B H) 75 i := fun i => xFr_E hfr rfl
      have y74_42 : ((2147483648 : Nat) : Int) ≤ xE (zyEl zymx B s.heap) 74 42 + 2147483648 ∧ xE (zyEl zymx B s.heap) 74 42 + 2147483648 ≤ ((2147484548 : Nat) : Int) := xTyF hT0 74 42 42 rfl rfl rfl rfl rfl rfl
      have hI : (zyEl zymx B H) = (zyEl zymx B s.heap) := hInv
      have q74_36 : xE (zyEl zymx B H) 74 36 = xE (zyEl zymx B s.heap) 74 36 := by rw [hI]
      have q74_37 : xE (zyEl zymx B H) 74 37 = xE (zyEl zymx B s.heap) 74 37 := by rw [hI]
      have q74_38 : xE (zyEl zymx B H) 74 38 = xE (zyEl zymx B s.heap) 74 38 := by rw [hI]
      have q74_39 : xE (zyEl zymx B H) 74 39 = xE (zyEl zymx B s.heap) 74 39 := by rw [hI]
      have q74_40 : xE (zyEl zymx B H) 74 40 = xE (zyEl zymx B s.heap) 74 40 := by rw [hI]
      have q74_41 : xE (zyEl zymx B H) 74 41 = xE (zyEl zymx B s.heap) 74 41 := by rw [hI]
      have q75_2 : xE (zyEl zymx B H) 75 2 = xE (zyEl zymx B s.heap) 75 2 := by rw [hI]
      have q75 : ∀ i, xE (zyEl zymx B H) 75 i = xE (zyEl zymx B s.heap) 75 i := fun i => by rw [hI]
      obtain ⟨hPW, hP1, ⟨hPp, hPs⟩, hPk, hP3, hP4, hP5, hP6⟩ := (show xΦln x0 (zyEl zymx B s.heap) from hΦ)
      obtain ⟨s1, s1b, s2, s3, s4, s5, s6, s7, s8⟩ := xRD_i hPs hPp
      have s4 := s4 hPk
      have hE := hI
      refine xGo hIH hAt hB hv hFr ⟨1, by decide⟩ [0] [0] rfl ⟨by decide +kernel, ⟨rfl, by decide +kernel⟩, (xcs_c rfl xcs_n), (xe_0 xe_n), xkq_n⟩ xst_n ?_ ?_
      · show (zyEl zymx B H2) = (zyEl zymx B s.heap)
        exact (xFr_n hfr).trans hI
      · show 99 < 100
        omega
    · have hx : x ∈ [zxfli_ax0] := hx
      have hag : ∀ k, k < 1 → v2 k = v k := hag
      have hfr : xFr [] _ _ := hfr
      have ex := List.mem_singleton.mp hx
      subst ex
      obtain ⟨hF, hBd, hM⟩ := hXs
      have e74_36 : xE (zyEl zymx B H2) 74 36 = xE (zyEl zymx B H) 74 36 := xFr_E hfr rfl
      have e74_37 : xE (zyEl zymx B H2) 74 37 = xE (zyEl zymx B H) 74 37 := xFr_E hfr rfl
      have e74_38 : xE (zyEl zymx B H2) 74 38 = xE (zyEl zymx B H) 74 38 := xFr_E hfr rfl
      have e74_39 : xE (zyEl zymx B H2) 74 39 = xE (zyEl zymx B H) 74 39 := xFr_E hfr rfl
      have e74_40 : xE (zyEl zymx B H2) 74 40 = xE (zyEl zymx B H) 74 40 := xFr_E hfr rfl
      have e74_41 : xE (zyEl zymx B H2) 74 41 = xE (zyEl zymx B H) 74 41 := xFr_E hfr rfl
      have e74_42 : xE (zyEl zymx B H2) 74 42 = xE (zyEl zymx B H) 74 42 := xFr_E hfr rfl
      have q74_42 : xE (zyEl zymx B H) 74 42 = xE (zyEl zymx B s.heap) 74 42 := xFr_E hFr0 rfl
      have e75_0 : xE (zyEl zymx B H2) 75 0 = xE (zyEl zymx B H) 75 0 := xFr_E hfr rfl
      have q75_0 : xE (zyEl zymx B H) 75 0 = xE (zyEl zymx B s.heap) 75 0 := xFr_E hFr0 rfl
      have e75_1 : xE (zyEl zymx B H2) 75 1 = xE (zyEl zymx B H) 75 1 := xFr_E hfr rfl
      have q75_1 : xE (zyEl zymx B H) 75 1 = xE (zyEl zymx B s.heap) 75 1 := xFr_E hFr0 rfl
      have e75_2 : xE (zyEl zymx B H2) 75 2 = xE (zyEl zymx B H) 75 2 := xFr_E hfr rfl
      have e84 : ∀ i, xE (zyEl zymx B H2) 84 i = xE (zyEl zymx B H) 84 i := fun i => xFr_E hfr rfl
      have q84 : ∀ i, xE (zyEl zymx B H) 84 i = xE (zyEl zymx B s.heap) 84 i := fun i => xFr_E hFr0 rfl
      have e75 : ∀ i, xE (zyEl zymx B H2) 75 i = xE (zyEl zymx B H) 75 i := fun i => xFr_E hfr rfl
      have y74_42 : ((2147483648 : Nat) : Int) ≤ xE (zyEl zymx B s.heap) 74 42 + 2147483648 ∧ xE (zyEl zymx B s.heap) 74 42 + 2147483648 ≤ ((2147484548 : Nat) : Int) := xTyF hT0 74 42 42 rfl rfl rfl rfl rfl rfl
      have hI : (zyEl zymx B H) = (zyEl zymx B s.heap) := hInv
      have q74_36 : xE (zyEl zymx B H) 74 36 = xE (zyEl zymx B s.heap) 74 36 := by rw [hI]
      have q74_37 : xE (zyEl zymx B H) 74 37 = xE (zyEl zymx B s.heap) 74 37 := by rw [hI]
      have q74_38 : xE (zyEl zymx B H) 74 38 = xE (zyEl zymx B s.heap) 74 38 := by rw [hI]
      have q74_39 : xE (zyEl zymx B H) 74 39 = xE (zyEl zymx B s.heap) 74 39 := by rw [hI]
      have q74_40 : xE (zyEl zymx B H) 74 40 = xE (zyEl zymx B s.heap) 74 40 := by rw [hI]
      have q74_41 : xE (zyEl zymx B H) 74 41 = xE (zyEl zymx B s.heap) 74 41 := by rw [hI]
      have q75_2 : xE (zyEl zymx B H) 75 2 = xE (zyEl zymx B s.heap) 75 2 := by rw [hI]
      have q75 : ∀ i, xE (zyEl zymx B H) 75 i = xE (zyEl zymx B s.heap) 75 i := fun i => by rw [hI]
      have hE := hI
      have hEE : (zyEl zymx B H2) = (zyEl zymx B s.heap) := (xFr_n hfr).trans hE
      obtain ⟨hPW, hP1, ⟨hPp, hPs⟩, hPk, hP3, hP4, hP5, hP6⟩ := (show xΦln x0 (zyEl zymx B s.heap) from hΦ)
      obtain ⟨s1, s1b, s2, s3, s4, s5, s6, s7, s8⟩ := xRD_i hPs hPp
      have s4 := s4 hPk
      refine xCa hRu hIH hAt hB hv hFr (hfiw B) (ix := 459) (ax := 5056) rfl rfl rfl hmefiw ⟨_, rfl, rfl, by decide⟩ ⟨rfl, rfl, rfl⟩ (by decide) [8] [] [1] rfl ⟨rfl, rfl⟩ (by decide +kernel) (xcs_c rfl xcs_n) (by decide +kernel) ?_ (fun H3 r hT3 hf3 hFr3 hr3 hΨ3 => ?_)
      · show xΦiw (xfv [1]) (zyEl zymx B H2)
        rw [hEE]
        exact ⟨by decide, hPW⟩
      · have hΨ3 : xΨiw (xfv [1]) (zyEl zymx B H2) (zyEl zymx B H3) r := hΨ3
        have d74_36 : xE (zyEl zymx B H3) 74 36 = xE (zyEl zymx B H2) 74 36 := xFr_E hf3 rfl
        have d74_37 : xE (zyEl zymx B H3) 74 37 = xE (zyEl zymx B H2) 74 37 := xFr_E hf3 rfl
        have d74_38 : xE (zyEl zymx B H3) 74 38 = xE (zyEl zymx B H2) 74 38 := xFr_E hf3 rfl
        have d74_39 : xE (zyEl zymx B H3) 74 39 = xE (zyEl zymx B H2) 74 39 := xFr_E hf3 rfl
        have d74_40 : xE (zyEl zymx B H3) 74 40 = xE (zyEl zymx B H2) 74 40 := xFr_E hf3 rfl
        have d74_41 : xE (zyEl zymx B H3) 74 41 = xE (zyEl zymx B H2) 74 41 := xFr_E hf3 rfl
        have d74_42 : xE (zyEl zymx B H3) 74 42 = xE (zyEl zymx B H2) 74 42 := xFr_E hf3 rfl
        have d75_0 : xE (zyEl zymx B H3) 75 0 = xE (zyEl zymx B H2) 75 0 := xFr_E hf3 rfl
        have d75_1 : xE (zyEl zymx B H3) 75 1 = xE (zyEl zymx B H2) 75 1 := xFr_E hf3 rfl
        have d75_2 : xE (zyEl zymx B H3) 75 2 = xE (zyEl zymx B H2) 75 2 := xFr_E hf3 rfl
        have d84 : ∀ i, xE (zyEl zymx B H3) 84 i = xE (zyEl zymx B H2) 84 i := fun i => xFr_E hf3 rfl
        have d75 : ∀ i, xE (zyEl zymx B H3) 75 i = xE (zyEl zymx B H2) 75 i := fun i => xFr_E hf3 rfl
        obtain ⟨hb, hb0, hb1⟩ := (show xΨiw (xfv [1]) (zyEl zymx B H2) (zyEl zymx B H3) r from hΨ3)
        rw [hEE] at hb1
        have hw : r = 1 ↔ tW (xE (zyEl zymx B s.heap) 84) (xE (zyEl zymx B s.heap) 74 42) (xE (zyEl zymx B s.heap) 74 38) [115, 119, 105, 116, 99, 104] = true := hb1 _ hPp hPs hP1
        have hE3 : (zyEl zymx B H3) = (zyEl zymx B s.heap) := (xFr_n hf3).trans hEE
        refine ⟨⟨2, by decide⟩, [0], [0, r], rfl, ⟨by decide +kernel, ⟨rfl, by decide +kernel⟩, (xcs_c rfl xcs_n), (xe_0 (xe_c (by omega) (by omega) rfl xe_n)), xkq_n⟩, (by rw [if_pos rfl]; exact ⟨1, [], rfl, by decide, rfl, xst_n⟩), ?_, ?_⟩
        · show (zyEl zymx B H3) = (zyEl zymx B s.heap) ∧ ((r : Int) = 1 ↔ tW (xE (zyEl zymx B s.heap) 84) (xE (zyEl zymx B s.heap) 74 42) (xE (zyEl zymx B s.heap) 74 38) [115, 119, 105, 116, 99, 104] = true)
          exact ⟨hE3, hw⟩
        · show 98 < 99
          omega
    · have hx : x ∈ [zxfli_b1x0, zxfli_b1x1] := hx
      have hag : ∀ k, k < 2 → v2 k = v k := hag
      have hfr : xFr [] _ _ := hfr
      rcases List.mem_cons.mp hx with ex | hx
      · subst ex
        obtain ⟨hF, hBd, hM⟩ := hXs
        have g1 : v2 1 = v 1 := hag 1 (by decide)
        have b0 : ((2147483649 : Nat) : Int) ≤ (v2 1) + 2147483648 ∧ (v2 1) + 2147483648 ≤ ((2147483649 : Nat) : Int) := xXb hBd 0 rfl
        have f0 : ¬ (v2 1) = 0 := xXf hF 0 rfl
        have e74_36 : xE (zyEl zymx B H2) 74 36 = xE (zyEl zymx B H) 74 36 := xFr_E hfr rfl
        have e74_37 : xE (zyEl zymx B H2) 74 37 = xE (zyEl zymx B H) 74 37 := xFr_E hfr rfl
        have e74_38 : xE (zyEl zymx B H2) 74 38 = xE (zyEl zymx B H) 74 38 := xFr_E hfr rfl
        have e74_39 : xE (zyEl zymx B H2) 74 39 = xE (zyEl zymx B H) 74 39 := xFr_E hfr rfl
        have e74_40 : xE (zyEl zymx B H2) 74 40 = xE (zyEl zymx B H) 74 40 := xFr_E hfr rfl
        have e74_41 : xE (zyEl zymx B H2) 74 41 = xE (zyEl zymx B H) 74 41 := xFr_E hfr rfl
        have e74_42 : xE (zyEl zymx B H2) 74 42 = xE (zyEl zymx B H) 74 42 := xFr_E hfr rfl
        have q74_42 : xE (zyEl zymx B H) 74 42 = xE (zyEl zymx B s.heap) 74 42 := xFr_E hFr0 rfl
        have e75_0 : xE (zyEl zymx B H2) 75 0 = xE (zyEl zymx B H) 75 0 := xFr_E hfr rfl
        have q75_0 : xE (zyEl zymx B H) 75 0 = xE (zyEl zymx B s.heap) 75 0 := xFr_E hFr0 rfl
        have e75_1 : xE (zyEl zymx B H2) 75 1 = xE (zyEl zymx B H) 75 1 := xFr_E hfr rfl
        have q75_1 : xE (zyEl zymx B H) 75 1 = xE (zyEl zymx B s.heap) 75 1 := xFr_E hFr0 rfl
        have e75_2 : xE (zyEl zymx B H2) 75 2 = xE (zyEl zymx B H) 75 2 := xFr_E hfr rfl
        have e84 : ∀ i, xE (zyEl zymx B H2) 84 i = xE (zyEl zymx B H) 84 i := fun i => xFr_E hfr rfl
        have q84 : ∀ i, xE (zyEl zymx B H) 84 i = xE (zyEl zymx B s.heap) 84 i := fun i => xFr_E hFr0 rfl
        have e75 : ∀ i, xE (zyEl zymx B H2) 75 i = xE (zyEl zymx B H) 75 i := fun i => xFr_E hfr rfl
        have y74_42 : ((2147483648 : Nat) : Int) ≤ xE (zyEl zymx B s.heap) 74 42 + 2147483648 ∧ xE (zyEl zymx B s.heap) 74 42 + 2147483648 ≤ ((2147484548 : Nat) : Int) := xTyF hT0 74 42 42 rfl rfl rfl rfl rfl rfl
        have hI : (zyEl zymx B H) = (zyEl zymx B s.heap) ∧ ((v 1) = 1 ↔ tW (xE (zyEl zymx B s.heap) 84) (xE (zyEl zymx B s.heap) 74 42) (xE (zyEl zymx B s.heap) 74 38) [115, 119, 105, 116, 99, 104] = true) := hInv
        have q74_36 : xE (zyEl zymx B H) 74 36 = xE (zyEl zymx B s.heap) 74 36 := by rw [hI.1]
        have q74_37 : xE (zyEl zymx B H) 74 37 = xE (zyEl zymx B s.heap) 74 37 := by rw [hI.1]
        have q74_38 : xE (zyEl zymx B H) 74 38 = xE (zyEl zymx B s.heap) 74 38 := by rw [hI.1]
        have q74_39 : xE (zyEl zymx B H) 74 39 = xE (zyEl zymx B s.heap) 74 39 := by rw [hI.1]
        have q74_40 : xE (zyEl zymx B H) 74 40 = xE (zyEl zymx B s.heap) 74 40 := by rw [hI.1]
        have q74_41 : xE (zyEl zymx B H) 74 41 = xE (zyEl zymx B s.heap) 74 41 := by rw [hI.1]
        have q75_2 : xE (zyEl zymx B H) 75 2 = xE (zyEl zymx B s.heap) 75 2 := by rw [hI.1]
        have q75 : ∀ i, xE (zyEl zymx B H) 75 i = xE (zyEl zymx B s.heap) 75 i := fun i => by rw [hI.1]
        obtain ⟨hE, hw⟩ := hI
        have hEE : (zyEl zymx B H2) = (zyEl zymx B s.heap) := (xFr_n hfr).trans hE
        obtain ⟨hPW, hP1, ⟨hPp, hPs⟩, hPk, hP3, hP4, hP5, hP6⟩ := (show xΦln x0 (zyEl zymx B s.heap) from hΦ)
        obtain ⟨s1, s1b, s2, s3, s4, s5, s6, s7, s8⟩ := xRD_i hPs hPp
        have s4 := s4 hPk
        have hw := hw.mp (by omega)
        refine xCa hRu hIH hAt hB hv hFr (hfsw B) (ix := 470) (ax := 5136) rfl rfl rfl hmefsw ⟨_, rfl, rfl, by decide⟩ ⟨rfl, rfl, rfl⟩ (by decide) [] [] [] rfl ⟨rfl, rfl⟩ (by decide +kernel) xcs_n (by decide +kernel) ?_ (fun H3 r hT3 hf3 hFr3 hr3 hΨ3 => ?_)
        · show xΦsw (xfv []) (zyEl zymx B H2)
          rw [hEE]
          exact ⟨hP1, by omega, hP3, hP4⟩
        · have hΨ3 : xΨsw (xfv []) (zyEl zymx B H2) (zyEl zymx B H3) r := hΨ3
          have d74_42 : xE (zyEl zymx B H3) 74 42 = xE (zyEl zymx B H2) 74 42 := xFr_E hf3 rfl
          have d75_0 : xE (zyEl zymx B H3) 75 0 = xE (zyEl zymx B H2) 75 0 := xFr_E hf3 rfl
          have d75_1 : xE (zyEl zymx B H3) 75 1 = xE (zyEl zymx B H2) 75 1 := xFr_E hf3 rfl
          have d75_2 : xE (zyEl zymx B H3) 75 2 = xE (zyEl zymx B H2) 75 2 := xFr_E hf3 rfl
          have d84 : ∀ i, xE (zyEl zymx B H3) 84 i = xE (zyEl zymx B H2) 84 i := fun i => xFr_E hf3 rfl
          have hΨ3 : xΨsw (xfv []) (zyEl zymx B s.heap) (zyEl zymx B H3) r := by rw [← hEE]; exact hΨ3
          have hg : xRs (xE (zyEl zymx B s.heap) 84) (xE (zyEl zymx B s.heap) 74 42) (zyEl zymx B H3) (pSwitch (xE (zyEl zymx B s.heap) 84) (xE (zyEl zymx B s.heap) 74 42) (xE (zyEl zymx B s.heap) 74 39) (xE (zyEl zymx B s.heap) 75)) := hΨ3
          rw [s4.1] at hg
          refine ⟨⟨9, by decide⟩, [0], [0], rfl, ⟨by decide +kernel, ⟨rfl, by decide +kernel⟩, (xcs_c rfl xcs_n), (xe_0 xe_n), xkq_n⟩, (by rw [if_neg (by decide)]; exact xst_n), ?_, ?_⟩
          · show xRs (xE (zyEl zymx B s.heap) 84) (xE (zyEl zymx B s.heap) 74 42) (zyEl zymx B H3) (pBody (xE (zyEl zymx B s.heap) 84) (xE (zyEl zymx B s.heap) 74 42) (xE (zyEl zymx B s.heap) 74 38) (xE (zyEl zymx B s.heap) 75))
            unfold pBody
            rw [if_pos hw]
            exact hg
          · show 91 < 98
            omega
      · skip
        have ex := List.mem_singleton.mp hx
        subst ex
        obtain ⟨hF, hBd, hM⟩ := hXs
        have g1 : v2 1 = v 1 := hag 1 (by decide)
        have b0 : ((2147483648 : Nat) : Int) ≤ (v2 1) + 2147483648 ∧ (v2 1) + 2147483648 ≤ ((2147483648 : Nat) : Int) := xXb hBd 0 rfl
        have f0 : (v2 1) = 0 := xXf hF 0 rfl
        have e74_36 : xE (zyEl zymx B H2) 74 36 = xE (zyEl zymx B H) 74 36 := xFr_E hfr rfl
        have e74_37 : xE (zyEl zymx B H2) 74 37 = xE (zyEl zymx B H) 74 37 := xFr_E hfr rfl
        have e74_38 : xE (zyEl zymx B H2) 74 38 = xE (zyEl zymx B H) 74 38 := xFr_E hfr rfl
        have e74_39 : xE (zyEl zymx B H2) 74 39 = xE (zyEl zymx B H) 74 39 := xFr_E hfr rfl
        have e74_40 : xE (zyEl zymx B H2) 74 40 = xE (zyEl zymx B H) 74 40 := xFr_E hfr rfl
        have e74_41 : xE (zyEl zymx B H2) 74 41 = xE (zyEl zymx B H) 74 41 := xFr_E hfr rfl
        have e74_42 : xE (zyEl zymx B H2) 74 42 = xE (zyEl zymx B H) 74 42 := xFr_E hfr rfl
        have q74_42 : xE (zyEl zymx B H) 74 42 = xE (zyEl zymx B s.heap) 74 42 := xFr_E hFr0 rfl
        have e75_0 : xE (zyEl zymx B H2) 75 0 = xE (zyEl zymx B H) 75 0 := xFr_E hfr rfl
        have q75_0 : xE (zyEl zymx B H) 75 0 = xE (zyEl zymx B s.heap) 75 0 := xFr_E hFr0 rfl
        have e75_1 : xE (zyEl zymx B H2) 75 1 = xE (zyEl zymx B H) 75 1 := xFr_E hfr rfl
        have q75_1 : xE (zyEl zymx B H) 75 1 = xE (zyEl zymx B s.heap) 75 1 := xFr_E hFr0 rfl
        have e75_2 : xE (zyEl zymx B H2) 75 2 = xE (zyEl zymx B H) 75 2 := xFr_E hfr rfl
        have e84 : ∀ i, xE (zyEl zymx B H2) 84 i = xE (zyEl zymx B H) 84 i := fun i => xFr_E hfr rfl
        have q84 : ∀ i, xE (zyEl zymx B H) 84 i = xE (zyEl zymx B s.heap) 84 i := fun i => xFr_E hFr0 rfl
        have e75 : ∀ i, xE (zyEl zymx B H2) 75 i = xE (zyEl zymx B H) 75 i := fun i => xFr_E hfr rfl
        have y74_42 : ((2147483648 : Nat) : Int) ≤ xE (zyEl zymx B s.heap) 74 42 + 2147483648 ∧ xE (zyEl zymx B s.heap) 74 42 + 2147483648 ≤ ((2147484548 : Nat) : Int) := xTyF hT0 74 42 42 rfl rfl rfl rfl rfl rfl
        have hI : (zyEl zymx B H) = (zyEl zymx B s.heap) ∧ ((v 1) = 1 ↔ tW (xE (zyEl zymx B s.heap) 84) (xE (zyEl zymx B s.heap) 74 42) (xE (zyEl zymx B s.heap) 74 38) [115, 119, 105, 116, 99, 104] = true) := hInv
        have q74_36 : xE (zyEl zymx B H) 74 36 = xE (zyEl zymx B s.heap) 74 36 := by rw [hI.1]
        have q74_37 : xE (zyEl zymx B H) 74 37 = xE (zyEl zymx B s.heap) 74 37 := by rw [hI.1]
        have q74_38 : xE (zyEl zymx B H) 74 38 = xE (zyEl zymx B s.heap) 74 38 := by rw [hI.1]
        have q74_39 : xE (zyEl zymx B H) 74 39 = xE (zyEl zymx B s.heap) 74 39 := by rw [hI.1]
        have q74_40 : xE (zyEl zymx B H) 74 40 = xE (zyEl zymx B s.heap) 74 40 := by rw [hI.1]
        have q74_41 : xE (zyEl zymx B H) 74 41 = xE (zyEl zymx B s.heap) 74 41 := by rw [hI.1]
        have q75_2 : xE (zyEl zymx B H) 75 2 = xE (zyEl zymx B s.heap) 75 2 := by rw [hI.1]
        have q75 : ∀ i, xE (zyEl zymx B H) 75 i = xE (zyEl zymx B s.heap) 75 i := fun i => by rw [hI.1]
        obtain ⟨hE, hw⟩ := hI
        have hEE : (zyEl zymx B H2) = (zyEl zymx B s.heap) := (xFr_n hfr).trans hE
        obtain ⟨hPW, hP1, ⟨hPp, hPs⟩, hPk, hP3, hP4, hP5, hP6⟩ := (show xΦln x0 (zyEl zymx B s.heap) from hΦ)
        obtain ⟨s1, s1b, s2, s3, s4, s5, s6, s7, s8⟩ := xRD_i hPs hPp
        have s4 := s4 hPk
        have hw : ¬ (tW (xE (zyEl zymx B s.heap) 84) (xE (zyEl zymx B s.heap) 74 42) (xE (zyEl zymx B s.heap) 74 38) [115, 119, 105, 116, 99, 104] = true) := fun z => by
          have := hw.mpr z
          omega
        refine xCa hRu hIH hAt hB hv hFr (hfiw B) (ix := 459) (ax := 5056) rfl rfl rfl hmefiw ⟨_, rfl, rfl, by decide⟩ ⟨rfl, rfl, rfl⟩ (by decide) [16] [] [2] rfl ⟨rfl, rfl⟩ (by decide +kernel) (xcs_c rfl xcs_n) (by decide +kernel) ?_ (fun H3 r hT3 hf3 hFr3 hr3 hΨ3 => ?_)
        · show xΦiw (xfv [2]) (zyEl zymx B H2)
          rw [hEE]
          exact ⟨by decide, hPW⟩
        · have hΨ3 : xΨiw (xfv [2]) (zyEl zymx B H2) (zyEl zymx B H3) r := hΨ3
          have d74_36 : xE (zyEl zymx B H3) 74 36 = xE (zyEl zymx B H2) 74 36 := xFr_E hf3 rfl
          have d74_37 : xE (zyEl zymx B H3) 74 37 = xE (zyEl zymx B H2) 74 37 := xFr_E hf3 rfl
          have d74_38 : xE (zyEl zymx B H3) 74 38 = xE (zyEl zymx B H2) 74 38 := xFr_E hf3 rfl
          have d74_39 : xE (zyEl zymx B H3) 74 39 = xE (zyEl zymx B H2) 74 39 := xFr_E hf3 rfl
          have d74_40 : xE (zyEl zymx B H3) 74 40 = xE (zyEl zymx B H2) 74 40 := xFr_E hf3 rfl
          have d74_41 : xE (zyEl zymx B H3) 74 41 = xE (zyEl zymx B H2) 74 41 := xFr_E hf3 rfl
          have d74_42 : xE (zyEl zymx B H3) 74 42 = xE (zyEl zymx B H2) 74 42 := xFr_E hf3 rfl
          have d75_0 : xE (zyEl zymx B H3) 75 0 = xE (zyEl zymx B H2) 75 0 := xFr_E hf3 rfl
          have d75_1 : xE (zyEl zymx B H3) 75 1 = xE (zyEl zymx B H2) 75 1 := xFr_E hf3 rfl
          have d75_2 : xE (zyEl zymx B H3) 75 2 = xE (zyEl zymx B H2) 75 2 := xFr_E hf3 rfl
          have d84 : ∀ i, xE (zyEl zymx B H3) 84 i = xE (zyEl zymx B H2) 84 i := fun i => xFr_E hf3 rfl
          have d75 : ∀ i, xE (zyEl zymx B H3) 75 i = xE (zyEl zymx B H2) 75 i := fun i => xFr_E hf3 rfl
          obtain ⟨hb, hb0, hb1⟩ := (show xΨiw (xfv [2]) (zyEl zymx B H2) (zyEl zymx B H3) r from hΨ3)
          rw [hEE] at hb1
          have hw2 : r = 1 ↔ tW (xE (zyEl zymx B s.heap) 84) (xE (zyEl zymx B s.heap) 74 42) (xE (zyEl zymx B s.heap) 74 38) [98, 111, 98, 98, 105, 110] = true := hb1 _ hPp hPs hP1
          have hE3 : (zyEl zymx B H3) = (zyEl zymx B s.heap) := (xFr_n hf3).trans hEE
          refine ⟨⟨3, by decide⟩, [0], [0, r], rfl, ⟨by decide +kernel, ⟨rfl, by decide +kernel⟩, (xcs_c rfl xcs_n), (xe_0 (xe_c (by omega) (by omega) rfl xe_n)), xkq_n⟩, (by rw [if_pos rfl]; exact ⟨1, [], rfl, by decide, rfl, xst_n⟩), ?_, ?_⟩
          · show (zyEl zymx B H3) = (zyEl zymx B s.heap) ∧ ¬ (tW (xE (zyEl zymx B s.heap) 84) (xE (zyEl zymx B s.heap) 74 42) (xE (zyEl zymx B s.heap) 74 38) [115, 119, 105, 116, 99, 104] = true) ∧ ((r : Int) = 1 ↔ tW (xE (zyEl zymx B s.heap) 84) (xE (zyEl zymx B s.heap) 74 42) (xE (zyEl zymx B s.heap) 74 38) [98, 111, 98, 98, 105, 110] = true)
            exact ⟨hE3, hw, hw2⟩
          · show 97 < 98
            omega
    · have hx : x ∈ [zxfli_b2x0, zxfli_b2x1] := hx
      have hag : ∀ k, k < 2 → v2 k = v k := hag
      have hfr : xFr [] _ _ := hfr
      rcases List.mem_cons.mp hx with ex | hx
      · subst ex
        obtain ⟨hF, hBd, hM⟩ := hXs
        have g1 : v2 1 = v 1 := hag 1 (by decide)
        have b0 : ((2147483649 : Nat) : Int) ≤ (v2 1) + 2147483648 ∧ (v2 1) + 2147483648 ≤ ((2147483649 : Nat) : Int) := xXb hBd 0 rfl
        have f0 : ¬ (v2 1) = 0 := xXf hF 0 rfl
        have e74_36 : xE (zyEl zymx B H2) 74 36 = xE (zyEl zymx B H) 74 36 := xFr_E hfr rfl
        have e74_37 : xE (zyEl zymx B H2) 74 37 = xE (zyEl zymx B H) 74 37 := xFr_E hfr rfl
        have e74_38 : xE (zyEl zymx B H2) 74 38 = xE (zyEl zymx B H) 74 38 := xFr_E hfr rfl
        have e74_39 : xE (zyEl zymx B H2) 74 39 = xE (zyEl zymx B H) 74 39 := xFr_E hfr rfl
        have e74_40 : xE (zyEl zymx B H2) 74 40 = xE (zyEl zymx B H) 74 40 := xFr_E hfr rfl
        have e74_41 : xE (zyEl zymx B H2) 74 41 = xE (zyEl zymx B H) 74 41 := xFr_E hfr rfl
        have e74_42 : xE (zyEl zymx B H2) 74 42 = xE (zyEl zymx B H) 74 42 := xFr_E hfr rfl
        have q74_42 : xE (zyEl zymx B H) 74 42 = xE (zyEl zymx B s.heap) 74 42 := xFr_E hFr0 rfl
        have e75_0 : xE (zyEl zymx B H2) 75 0 = xE (zyEl zymx B H) 75 0 := xFr_E hfr rfl
        have q75_0 : xE (zyEl zymx B H) 75 0 = xE (zyEl zymx B s.heap) 75 0 := xFr_E hFr0 rfl
        have e75_1 : xE (zyEl zymx B H2) 75 1 = xE (zyEl zymx B H) 75 1 := xFr_E hfr rfl
        have q75_1 : xE (zyEl zymx B H) 75 1 = xE (zyEl zymx B s.heap) 75 1 := xFr_E hFr0 rfl
        have e75_2 : xE (zyEl zymx B H2) 75 2 = xE (zyEl zymx B H) 75 2 := xFr_E hfr rfl
        have e84 : ∀ i, xE (zyEl zymx B H2) 84 i = xE (zyEl zymx B H) 84 i := fun i => xFr_E hfr rfl
        have q84 : ∀ i, xE (zyEl zymx B H) 84 i = xE (zyEl zymx B s.heap) 84 i := fun i => xFr_E hFr0 rfl
        have e75 : ∀ i, xE (zyEl zymx B H2) 75 i = xE (zyEl zymx B H) 75 i := fun i => xFr_E hfr rfl
        have y74_42 : ((2147483648 : Nat) : Int) ≤ xE (zyEl zymx B s.heap) 74 42 + 2147483648 ∧ xE (zyEl zymx B s.heap) 74 42 + 2147483648 ≤ ((2147484548 : Nat) : Int) := xTyF hT0 74 42 42 rfl rfl rfl rfl rfl rfl
        have hI : (zyEl zymx B H) = (zyEl zymx B s.heap) ∧ ¬ (tW (xE (zyEl zymx B s.heap) 84) (xE (zyEl zymx B s.heap) 74 42) (xE (zyEl zymx B s.heap) 74 38) [115, 119, 105, 116, 99, 104] = true) ∧ ((v 1) = 1 ↔ tW (xE (zyEl zymx B s.heap) 84) (xE (zyEl zymx B s.heap) 74 42) (xE (zyEl zymx B s.heap) 74 38) [98, 111, 98, 98, 105, 110] = true) := hInv
        have q74_36 : xE (zyEl zymx B H) 74 36 = xE (zyEl zymx B s.heap) 74 36 := by rw [hI.1]
        have q74_37 : xE (zyEl zymx B H) 74 37 = xE (zyEl zymx B s.heap) 74 37 := by rw [hI.1]
        have q74_38 : xE (zyEl zymx B H) 74 38 = xE (zyEl zymx B s.heap) 74 38 := by rw [hI.1]
        have q74_39 : xE (zyEl zymx B H) 74 39 = xE (zyEl zymx B s.heap) 74 39 := by rw [hI.1]
        have q74_40 : xE (zyEl zymx B H) 74 40 = xE (zyEl zymx B s.heap) 74 40 := by rw [hI.1]
        have q74_41 : xE (zyEl zymx B H) 74 41 = xE (zyEl zymx B s.heap) 74 41 := by rw [hI.1]
        have q75_2 : xE (zyEl zymx B H) 75 2 = xE (zyEl zymx B s.heap) 75 2 := by rw [hI.1]
        have q75 : ∀ i, xE (zyEl zymx B H) 75 i = xE (zyEl zymx B s.heap) 75 i := fun i => by rw [hI.1]
        obtain ⟨hE, n1, hw⟩ := hI
        have hEE : (zyEl zymx B H2) = (zyEl zymx B s.heap) := (xFr_n hfr).trans hE
        obtain ⟨hPW, hP1, ⟨hPp, hPs⟩, hPk, hP3, hP4, hP5, hP6⟩ := (show xΦln x0 (zyEl zymx B s.heap) from hΦ)
        obtain ⟨s1, s1b, s2, s3, s4, s5, s6, s7, s8⟩ := xRD_i hPs hPp
        have s4 := s4 hPk
        have hw := hw.mp (by omega)
        refine xCa hRu hIH hAt hB hv hFr (hfbb B) (ix := 473) (ax := 5152) rfl rfl rfl hmefbb ⟨_, rfl, rfl, by decide⟩ ⟨rfl, rfl, rfl⟩ (by decide) [] [] [] rfl ⟨rfl, rfl⟩ (by decide +kernel) xcs_n (by decide +kernel) ?_ (fun H3 r hT3 hf3 hFr3 hr3 hΨ3 => ?_)
        · show xΦbb (xfv []) (zyEl zymx B H2)
          rw [hEE]
          exact ⟨hP1, by omega, hP3, hP4, hP5, hP6⟩
        · have hΨ3 : xΨbb (xfv []) (zyEl zymx B H2) (zyEl zymx B H3) r := hΨ3
          have d74_42 : xE (zyEl zymx B H3) 74 42 = xE (zyEl zymx B H2) 74 42 := xFr_E hf3 rfl
          have d75_0 : xE (zyEl zymx B H3) 75 0 = xE (zyEl zymx B H2) 75 0 := xFr_E hf3 rfl
          have d75_1 : xE (zyEl zymx B H3) 75 1 = xE (zyEl zymx B H2) 75 1 := xFr_E hf3 rfl
          have d84 : ∀ i, xE (zyEl zymx B H3) 84 i = xE (zyEl zymx B H2) 84 i := fun i => xFr_E hf3 rfl
          have hΨ3 : xΨbb (xfv []) (zyEl zymx B s.heap) (zyEl zymx B H3) r := by rw [← hEE]; exact hΨ3
          have hg : xRs (xE (zyEl zymx B s.heap) 84) (xE (zyEl zymx B s.heap) 74 42) (zyEl zymx B H3) (pBobbin (xE (zyEl zymx B s.heap) 84) (xE (zyEl zymx B s.heap) 74 42) (xE (zyEl zymx B s.heap) 74 38) (xE (zyEl zymx B s.heap) 74 39) (xE (zyEl zymx B s.heap) 75)) := hΨ3 _ s1
          rw [s4.1] at hg
          refine ⟨⟨10, by decide⟩, [0], [0], rfl, ⟨by decide +kernel, ⟨rfl, by decide +kernel⟩, (xcs_c rfl xcs_n), (xe_0 xe_n), xkq_n⟩, (by rw [if_neg (by decide)]; exact xst_n), ?_, ?_⟩
          · show xRs (xE (zyEl zymx B s.heap) 84) (xE (zyEl zymx B s.heap) 74 42) (zyEl zymx B H3) (pBody (xE (zyEl zymx B s.heap) 84) (xE (zyEl zymx B s.heap) 74 42) (xE (zyEl zymx B s.heap) 74 38) (xE (zyEl zymx B s.heap) 75))
            unfold pBody
            rw [if_neg n1, if_pos hw]
            exact hg
          · show 90 < 97
            omega
      · skip
        have ex := List.mem_singleton.mp hx
        subst ex
        obtain ⟨hF, hBd, hM⟩ := hXs
        have g1 : v2 1 = v 1 := hag 1 (by decide)
        have b0 : ((2147483648 : Nat) : Int) ≤ (v2 1) + 2147483648 ∧ (v2 1) + 2147483648 ≤ ((2147483648 : Nat) : Int) := xXb hBd 0 rfl
        have f0 : (v2 1) = 0 := xXf hF 0 rfl
        have e74_36 : xE (zyEl zymx B H2) 74 36 = xE (zyEl zymx B H) 74 36 := xFr_E hfr rfl
        have e74_37 : xE (zyEl zymx B H2) 74 37 = xE (zyEl zymx B H) 74 37 := xFr_E hfr rfl
        have e74_38 : xE (zyEl zymx B H2) 74 38 = xE (zyEl zymx B H) 74 38 := xFr_E hfr rfl
        have e74_39 : xE (zyEl zymx B H2) 74 39 = xE (zyEl zymx B H) 74 39 := xFr_E hfr rfl
        have e74_40 : xE (zyEl zymx B H2) 74 40 = xE (zyEl zymx B H) 74 40 := xFr_E hfr rfl
        have e74_41 : xE (zyEl zymx B H2) 74 41 = xE (zyEl zymx B H) 74 41 := xFr_E hfr rfl
        have e74_42 : xE (zyEl zymx B H2) 74 42 = xE (zyEl zymx B H) 74 42 := xFr_E hfr rfl
        have q74_42 : xE (zyEl zymx B H) 74 42 = xE (zyEl zymx B s.heap) 74 42 := xFr_E hFr0 rfl
        have e75_0 : xE (zyEl zymx B H2) 75 0 = xE (zyEl zymx B H) 75 0 := xFr_E hfr rfl
        have q75_0 : xE (zyEl zymx B H) 75 0 = xE (zyEl zymx B s.heap) 75 0 := xFr_E hFr0 rfl
        have e75_1 : xE (zyEl zymx B H2) 75 1 = xE (zyEl zymx B H) 75 1 := xFr_E hfr rfl
        have q75_1 : xE (zyEl zymx B H) 75 1 = xE (zyEl zymx B s.heap) 75 1 := xFr_E hFr0 rfl
        have e75_2 : xE (zyEl zymx B H2) 75 2 = xE (zyEl zymx B H) 75 2 := xFr_E hfr rfl
        have e84 : ∀ i, xE (zyEl zymx B H2) 84 i = xE (zyEl zymx B H) 84 i := fun i => xFr_E hfr rfl
        have q84 : ∀ i, xE (zyEl zymx B H) 84 i = xE (zyEl zymx B s.heap) 84 i := fun i => xFr_E hFr0 rfl
        have e75 : ∀ i, xE (zyEl zymx B H2) 75 i = xE (zyEl zymx B H) 75 i := fun i => xFr_E hfr rfl
        have y74_42 : ((2147483648 : Nat) : Int) ≤ xE (zyEl zymx B s.heap) 74 42 + 2147483648 ∧ xE (zyEl zymx B s.heap) 74 42 + 2147483648 ≤ ((2147484548 : Nat) : Int) := xTyF hT0 74 42 42 rfl rfl rfl rfl rfl rfl
        have hI : (zyEl zymx B H) = (zyEl zymx B s.heap) ∧ ¬ (tW (xE (zyEl zymx B s.heap) 84) (xE (zyEl zymx B s.heap) 74 42) (xE (zyEl zymx B s.heap) 74 38) [115, 119, 105, 116, 99, 104] = true) ∧ ((v 1) = 1 ↔ tW (xE (zyEl zymx B s.heap) 84) (xE (zyEl zymx B s.heap) 74 42) (xE (zyEl zymx B s.heap) 74 38) [98, 111, 98, 98, 105, 110] = true) := hInv
        have q74_36 : xE (zyEl zymx B H) 74 36 = xE (zyEl zymx B s.heap) 74 36 := by rw [hI.1]
        have q74_37 : xE (zyEl zymx B H) 74 37 = xE (zyEl zymx B s.heap) 74 37 := by rw [hI.1]
        have q74_38 : xE (zyEl zymx B H) 74 38 = xE (zyEl zymx B s.heap) 74 38 := by rw [hI.1]
        have q74_39 : xE (zyEl zymx B H) 74 39 = xE (zyEl zymx B s.heap) 74 39 := by rw [hI.1]
        have q74_40 : xE (zyEl zymx B H) 74 40 = xE (zyEl zymx B s.heap) 74 40 := by rw [hI.1]
        have q74_41 : xE (zyEl zymx B H) 74 41 = xE (zyEl zymx B s.heap) 74 41 := by rw [hI.1]
        have q75_2 : xE (zyEl zymx B H) 75 2 = xE (zyEl zymx B s.heap) 75 2 := by rw [hI.1]
        have q75 : ∀ i, xE (zyEl zymx B H) 75 i = xE (zyEl zymx B s.heap) 75 i := fun i => by rw [hI.1]
        obtain ⟨hE, n1, hw⟩ := hI
        have hEE : (zyEl zymx B H2) = (zyEl zymx B s.heap) := (xFr_n hfr).trans hE
        obtain ⟨hPW, hP1, ⟨hPp, hPs⟩, hPk, hP3, hP4, hP5, hP6⟩ := (show xΦln x0 (zyEl zymx B s.heap) from hΦ)
        obtain ⟨s1, s1b, s2, s3, s4, s5, s6, s7, s8⟩ := xRD_i hPs hPp
        have s4 := s4 hPk
        have hw : ¬ (tW (xE (zyEl zymx B s.heap) 84) (xE (zyEl zymx B s.heap) 74 42) (xE (zyEl zymx B s.heap) 74 38) [98, 111, 98, 98, 105, 110] = true) := fun z => by
          have := hw.mpr z
          omega
        refine xCa hRu hIH hAt hB hv hFr (hfiw B) (ix := 459) (ax := 5056) rfl rfl rfl hmefiw ⟨_, rfl, rfl, by decide⟩ ⟨rfl, rfl, rfl⟩ (by decide) [24] [] [3] rfl ⟨rfl, rfl⟩ (by decide +kernel) (xcs_c rfl xcs_n) (by decide +kernel) ?_ (fun H3 r hT3 hf3 hFr3 hr3 hΨ3 => ?_)
        · show xΦiw (xfv [3]) (zyEl zymx B H2)
          rw [hEE]
          exact ⟨by decide, hPW⟩
        · have hΨ3 : xΨiw (xfv [3]) (zyEl zymx B H2) (zyEl zymx B H3) r := hΨ3
          have d74_36 : xE (zyEl zymx B H3) 74 36 = xE (zyEl zymx B H2) 74 36 := xFr_E hf3 rfl
          have d74_37 : xE (zyEl zymx B H3) 74 37 = xE (zyEl zymx B H2) 74 37 := xFr_E hf3 rfl
          have d74_38 : xE (zyEl zymx B H3) 74 38 = xE (zyEl zymx B H2) 74 38 := xFr_E hf3 rfl
          have d74_39 : xE (zyEl zymx B H3) 74 39 = xE (zyEl zymx B H2) 74 39 := xFr_E hf3 rfl
          have d74_40 : xE (zyEl zymx B H3) 74 40 = xE (zyEl zymx B H2) 74 40 := xFr_E hf3 rfl
          have d74_41 : xE (zyEl zymx B H3) 74 41 = xE (zyEl zymx B H2) 74 41 := xFr_E hf3 rfl
          have d74_42 : xE (zyEl zymx B H3) 74 42 = xE (zyEl zymx B H2) 74 42 := xFr_E hf3 rfl
          have d75_0 : xE (zyEl zymx B H3) 75 0 = xE (zyEl zymx B H2) 75 0 := xFr_E hf3 rfl
          have d75_1 : xE (zyEl zymx B H3) 75 1 = xE (zyEl zymx B H2) 75 1 := xFr_E hf3 rfl
          have d75_2 : xE (zyEl zymx B H3) 75 2 = xE (zyEl zymx B H2) 75 2 := xFr_E hf3 rfl
          have d84 : ∀ i, xE (zyEl zymx B H3) 84 i = xE (zyEl zymx B H2) 84 i := fun i => xFr_E hf3 rfl
          have d75 : ∀ i, xE (zyEl zymx B H3) 75 i = xE (zyEl zymx B H2) 75 i := fun i => xFr_E hf3 rfl
          obtain ⟨hb, hb0, hb1⟩ := (show xΨiw (xfv [3]) (zyEl zymx B H2) (zyEl zymx B H3) r from hΨ3)
          rw [hEE] at hb1
          have hw2 : r = 1 ↔ tW (xE (zyEl zymx B s.heap) 84) (xE (zyEl zymx B s.heap) 74 42) (xE (zyEl zymx B s.heap) 74 38) [115, 116, 117, 99, 107] = true := hb1 _ hPp hPs hP1
          have hE3 : (zyEl zymx B H3) = (zyEl zymx B s.heap) := (xFr_n hf3).trans hEE
          refine ⟨⟨4, by decide⟩, [0], [0, r], rfl, ⟨by decide +kernel, ⟨rfl, by decide +kernel⟩, (xcs_c rfl xcs_n), (xe_0 (xe_c (by omega) (by omega) rfl xe_n)), xkq_n⟩, (by rw [if_pos rfl]; exact ⟨1, [], rfl, by decide, rfl, xst_n⟩), ?_, ?_⟩
          · show (zyEl zymx B H3) = (zyEl zymx B s.heap) ∧ ¬ (tW (xE (zyEl zymx B s.heap) 84) (xE (zyEl zymx B s.heap) 74 42) (xE (zyEl zymx B s.heap) 74 38) [115, 119, 105, 116, 99, 104] = true) ∧ ¬ (tW (xE (zyEl zymx B s.heap) 84) (xE (zyEl zymx B s.heap) 74 42) (xE (zyEl zymx B s.heap) 74 38) [98, 111, 98, 98, 105, 110] = true) ∧ ((r : Int) = 1 ↔ tW (xE (zyEl zymx B s.heap) 84) (xE (zyEl zymx B s.heap) 74 42) (xE (zyEl zymx B s.heap) 74 38) [115, 116, 117, 99, 107] = true)
            exact ⟨hE3, n1, hw, hw2⟩
          · show 96 < 97
            omega
    · have hx : x ∈ [zxfli_b3x0, zxfli_b3x1] := hx
      have hag : ∀ k, k < 2 → v2 k = v k := hag
      have hfr : xFr [] _ _ := hfr
      rcases List.mem_cons.mp hx with ex | hx
      · subst ex
        obtain ⟨hF, hBd, hM⟩ := hXs
        have g1 : v2 1 = v 1 := hag 1 (by decide)
        have b0 : ((2147483649 : Nat) : Int) ≤ (v2 1) + 2147483648 ∧ (v2 1) + 2147483648 ≤ ((2147483649 : Nat) : Int) := xXb hBd 0 rfl
        have f0 : ¬ (v2 1) = 0 := xXf hF 0 rfl
        have e74_36 : xE (zyEl zymx B H2) 74 36 = xE (zyEl zymx B H) 74 36 := xFr_E hfr rfl
        have e74_37 : xE (zyEl zymx B H2) 74 37 = xE (zyEl zymx B H) 74 37 := xFr_E hfr rfl
        have e74_38 : xE (zyEl zymx B H2) 74 38 = xE (zyEl zymx B H) 74 38 := xFr_E hfr rfl
        have e74_39 : xE (zyEl zymx B H2) 74 39 = xE (zyEl zymx B H) 74 39 := xFr_E hfr rfl
        have e74_40 : xE (zyEl zymx B H2) 74 40 = xE (zyEl zymx B H) 74 40 := xFr_E hfr rfl
        have e74_41 : xE (zyEl zymx B H2) 74 41 = xE (zyEl zymx B H) 74 41 := xFr_E hfr rfl
        have e74_42 : xE (zyEl zymx B H2) 74 42 = xE (zyEl zymx B H) 74 42 := xFr_E hfr rfl
        have q74_42 : xE (zyEl zymx B H) 74 42 = xE (zyEl zymx B s.heap) 74 42 := xFr_E hFr0 rfl
        have e75_0 : xE (zyEl zymx B H2) 75 0 = xE (zyEl zymx B H) 75 0 := xFr_E hfr rfl
        have q75_0 : xE (zyEl zymx B H) 75 0 = xE (zyEl zymx B s.heap) 75 0 := xFr_E hFr0 rfl
        have e75_1 : xE (zyEl zymx B H2) 75 1 = xE (zyEl zymx B H) 75 1 := xFr_E hfr rfl
        have q75_1 : xE (zyEl zymx B H) 75 1 = xE (zyEl zymx B s.heap) 75 1 := xFr_E hFr0 rfl
        have e75_2 : xE (zyEl zymx B H2) 75 2 = xE (zyEl zymx B H) 75 2 := xFr_E hfr rfl
        have e84 : ∀ i, xE (zyEl zymx B H2) 84 i = xE (zyEl zymx B H) 84 i := fun i => xFr_E hfr rfl
        have q84 : ∀ i, xE (zyEl zymx B H) 84 i = xE (zyEl zymx B s.heap) 84 i := fun i => xFr_E hFr0 rfl
        have e75 : ∀ i, xE (zyEl zymx B H2) 75 i = xE (zyEl zymx B H) 75 i := fun i => xFr_E hfr rfl
        have y74_42 : ((2147483648 : Nat) : Int) ≤ xE (zyEl zymx B s.heap) 74 42 + 2147483648 ∧ xE (zyEl zymx B s.heap) 74 42 + 2147483648 ≤ ((2147484548 : Nat) : Int) := xTyF hT0 74 42 42 rfl rfl rfl rfl rfl rfl
        have hI : (zyEl zymx B H) = (zyEl zymx B s.heap) ∧ ¬ (tW (xE (zyEl zymx B s.heap) 84) (xE (zyEl zymx B s.heap) 74 42) (xE (zyEl zymx B s.heap) 74 38) [115, 119, 105, 116, 99, 104] = true) ∧ ¬ (tW (xE (zyEl zymx B s.heap) 84) (xE (zyEl zymx B s.heap) 74 42) (xE (zyEl zymx B s.heap) 74 38) [98, 111, 98, 98, 105, 110] = true) ∧ ((v 1) = 1 ↔ tW (xE (zyEl zymx B s.heap) 84) (xE (zyEl zymx B s.heap) 74 42) (xE (zyEl zymx B s.heap) 74 38) [115, 116, 117, 99, 107] = true) := hInv
        have q74_36 : xE (zyEl zymx B H) 74 36 = xE (zyEl zymx B s.heap) 74 36 := by rw [hI.1]
        have q74_37 : xE (zyEl zymx B H) 74 37 = xE (zyEl zymx B s.heap) 74 37 := by rw [hI.1]
        have q74_38 : xE (zyEl zymx B H) 74 38 = xE (zyEl zymx B s.heap) 74 38 := by rw [hI.1]
        have q74_39 : xE (zyEl zymx B H) 74 39 = xE (zyEl zymx B s.heap) 74 39 := by rw [hI.1]
        have q74_40 : xE (zyEl zymx B H) 74 40 = xE (zyEl zymx B s.heap) 74 40 := by rw [hI.1]
        have q74_41 : xE (zyEl zymx B H) 74 41 = xE (zyEl zymx B s.heap) 74 41 := by rw [hI.1]
        have q75_2 : xE (zyEl zymx B H) 75 2 = xE (zyEl zymx B s.heap) 75 2 := by rw [hI.1]
        have q75 : ∀ i, xE (zyEl zymx B H) 75 i = xE (zyEl zymx B s.heap) 75 i := fun i => by rw [hI.1]
        obtain ⟨hE, n1, n2, hw⟩ := hI
        have hEE : (zyEl zymx B H2) = (zyEl zymx B s.heap) := (xFr_n hfr).trans hE
        obtain ⟨hPW, hP1, ⟨hPp, hPs⟩, hPk, hP3, hP4, hP5, hP6⟩ := (show xΦln x0 (zyEl zymx B s.heap) from hΦ)
        obtain ⟨s1, s1b, s2, s3, s4, s5, s6, s7, s8⟩ := xRD_i hPs hPp
        have s4 := s4 hPk
        have hw := hw.mp (by omega)
        refine xCa hRu hIH hAt hB hv hFr (hfsk B) (ix := 476) (ax := 5168) rfl rfl rfl hmefsk ⟨_, rfl, rfl, by decide⟩ ⟨rfl, rfl, rfl⟩ (by decide) [] [] [] rfl ⟨rfl, rfl⟩ (by decide +kernel) xcs_n (by decide +kernel) ?_ (fun H3 r hT3 hf3 hFr3 hr3 hΨ3 => ?_)
        · show xΦsk (xfv []) (zyEl zymx B H2)
          rw [hEE]
          exact ⟨hPW, hP1, by omega, hP3, hP4⟩
        · have hΨ3 : xΨsk (xfv []) (zyEl zymx B H2) (zyEl zymx B H3) r := hΨ3
          have d74_42 : xE (zyEl zymx B H3) 74 42 = xE (zyEl zymx B H2) 74 42 := xFr_E hf3 rfl
          have d75_0 : xE (zyEl zymx B H3) 75 0 = xE (zyEl zymx B H2) 75 0 := xFr_E hf3 rfl
          have d75_1 : xE (zyEl zymx B H3) 75 1 = xE (zyEl zymx B H2) 75 1 := xFr_E hf3 rfl
          have d75_2 : xE (zyEl zymx B H3) 75 2 = xE (zyEl zymx B H2) 75 2 := xFr_E hf3 rfl
          have d84 : ∀ i, xE (zyEl zymx B H3) 84 i = xE (zyEl zymx B H2) 84 i := fun i => xFr_E hf3 rfl
          have hΨ3 : xΨsk (xfv []) (zyEl zymx B s.heap) (zyEl zymx B H3) r := by rw [← hEE]; exact hΨ3
          have hg : xRs (xE (zyEl zymx B s.heap) 84) (xE (zyEl zymx B s.heap) 74 42) (zyEl zymx B H3) (pStuck (xE (zyEl zymx B s.heap) 84) (xE (zyEl zymx B s.heap) 74 42) (xE (zyEl zymx B s.heap) 74 39) (xE (zyEl zymx B s.heap) 75)) := hΨ3
          rw [s4.1] at hg
          refine ⟨⟨11, by decide⟩, [0], [0], rfl, ⟨by decide +kernel, ⟨rfl, by decide +kernel⟩, (xcs_c rfl xcs_n), (xe_0 xe_n), xkq_n⟩, (by rw [if_neg (by decide)]; exact xst_n), ?_, ?_⟩
          · show xRs (xE (zyEl zymx B s.heap) 84) (xE (zyEl zymx B s.heap) 74 42) (zyEl zymx B H3) (pBody (xE (zyEl zymx B s.heap) 84) (xE (zyEl zymx B s.heap) 74 42) (xE (zyEl zymx B s.heap) 74 38) (xE (zyEl zymx B s.heap) 75))
            unfold pBody
            rw [if_neg n1, if_neg n2, if_pos hw]
            exact hg
          · show 89 < 96
            omega
      · skip
        have ex := List.mem_singleton.mp hx
        subst ex
        obtain ⟨hF, hBd, hM⟩ := hXs
        have g1 : v2 1 = v 1 := hag 1 (by decide)
        have b0 : ((2147483648 : Nat) : Int) ≤ (v2 1) + 2147483648 ∧ (v2 1) + 2147483648 ≤ ((2147483648 : Nat) : Int) := xXb hBd 0 rfl
        have f0 : (v2 1) = 0 := xXf hF 0 rfl
        have e74_36 : xE (zyEl zymx B H2) 74 36 = xE (zyEl zymx B H) 74 36 := xFr_E hfr rfl
        have e74_37 : xE (zyEl zymx B H2) 74 37 = xE (zyEl zymx B H) 74 37 := xFr_E hfr rfl
        have e74_38 : xE (zyEl zymx B H2) 74 38 = xE (zyEl zymx B H) 74 38 := xFr_E hfr rfl
        have e74_39 : xE (zyEl zymx B H2) 74 39 = xE (zyEl zymx B H) 74 39 := xFr_E hfr rfl
        have e74_40 : xE (zyEl zymx B H2) 74 40 = xE (zyEl zymx B H) 74 40 := xFr_E hfr rfl
        have e74_41 : xE (zyEl zymx B H2) 74 41 = xE (zyEl zymx B H) 74 41 := xFr_E hfr rfl
        have e74_42 : xE (zyEl zymx B H2) 74 42 = xE (zyEl zymx B H) 74 42 := xFr_E hfr rfl
        have q74_42 : xE (zyEl zymx B H) 74 42 = xE (zyEl zymx B s.heap) 74 42 := xFr_E hFr0 rfl
        have e75_0 : xE (zyEl zymx B H2) 75 0 = xE (zyEl zymx B H) 75 0 := xFr_E hfr rfl
        have q75_0 : xE (zyEl zymx B H) 75 0 = xE (zyEl zymx B s.heap) 75 0 := xFr_E hFr0 rfl
        have e75_1 : xE (zyEl zymx B H2) 75 1 = xE (zyEl zymx B H) 75 1 := xFr_E hfr rfl
        have q75_1 : xE (zyEl zymx B H) 75 1 = xE (zyEl zymx B s.heap) 75 1 := xFr_E hFr0 rfl
        have e75_2 : xE (zyEl zymx B H2) 75 2 = xE (zyEl zymx B H) 75 2 := xFr_E hfr rfl
        have e84 : ∀ i, xE (zyEl zymx B H2) 84 i = xE (zyEl zymx B H) 84 i := fun i => xFr_E hfr rfl
        have q84 : ∀ i, xE (zyEl zymx B H) 84 i = xE (zyEl zymx B s.heap) 84 i := fun i => xFr_E hFr0 rfl
        have e75 : ∀ i, xE (zyEl zymx B H2) 75 i = xE (zyEl zymx B H) 75 i := fun i => xFr_E hfr rfl
        have y74_42 : ((2147483648 : Nat) : Int) ≤ xE (zyEl zymx B s.heap) 74 42 + 2147483648 ∧ xE (zyEl zymx B s.heap) 74 42 + 2147483648 ≤ ((2147484548 : Nat) : Int) := xTyF hT0 74 42 42 rfl rfl rfl rfl rfl rfl
        have hI : (zyEl zymx B H) = (zyEl zymx B s.heap) ∧ ¬ (tW (xE (zyEl zymx B s.heap) 84) (xE (zyEl zymx B s.heap) 74 42) (xE (zyEl zymx B s.heap) 74 38) [115, 119, 105, 116, 99, 104] = true) ∧ ¬ (tW (xE (zyEl zymx B s.heap) 84) (xE (zyEl zymx B s.heap) 74 42) (xE (zyEl zymx B s.heap) 74 38) [98, 111, 98, 98, 105, 110] = true) ∧ ((v 1) = 1 ↔ tW (xE (zyEl zymx B s.heap) 84) (xE (zyEl zymx B s.heap) 74 42) (xE (zyEl zymx B s.heap) 74 38) [115, 116, 117, 99, 107] = true) := hInv
        have q74_36 : xE (zyEl zymx B H) 74 36 = xE (zyEl zymx B s.heap) 74 36 := by rw [hI.1]
        have q74_37 : xE (zyEl zymx B H) 74 37 = xE (zyEl zymx B s.heap) 74 37 := by rw [hI.1]
        have q74_38 : xE (zyEl zymx B H) 74 38 = xE (zyEl zymx B s.heap) 74 38 := by rw [hI.1]
        have q74_39 : xE (zyEl zymx B H) 74 39 = xE (zyEl zymx B s.heap) 74 39 := by rw [hI.1]
        have q74_40 : xE (zyEl zymx B H) 74 40 = xE (zyEl zymx B s.heap) 74 40 := by rw [hI.1]
        have q74_41 : xE (zyEl zymx B H) 74 41 = xE (zyEl zymx B s.heap) 74 41 := by rw [hI.1]
        have q75_2 : xE (zyEl zymx B H) 75 2 = xE (zyEl zymx B s.heap) 75 2 := by rw [hI.1]
        have q75 : ∀ i, xE (zyEl zymx B H) 75 i = xE (zyEl zymx B s.heap) 75 i := fun i => by rw [hI.1]
        obtain ⟨hE, n1, n2, hw⟩ := hI
        have hEE : (zyEl zymx B H2) = (zyEl zymx B s.heap) := (xFr_n hfr).trans hE
        obtain ⟨hPW, hP1, ⟨hPp, hPs⟩, hPk, hP3, hP4, hP5, hP6⟩ := (show xΦln x0 (zyEl zymx B s.heap) from hΦ)
        obtain ⟨s1, s1b, s2, s3, s4, s5, s6, s7, s8⟩ := xRD_i hPs hPp
        have s4 := s4 hPk
        have hw : ¬ (tW (xE (zyEl zymx B s.heap) 84) (xE (zyEl zymx B s.heap) 74 42) (xE (zyEl zymx B s.heap) 74 38) [115, 116, 117, 99, 107] = true) := fun z => by
          have := hw.mpr z
          omega
        refine xCa hRu hIH hAt hB hv hFr (hfiw B) (ix := 459) (ax := 5056) rfl rfl rfl hmefiw ⟨_, rfl, rfl, by decide⟩ ⟨rfl, rfl, rfl⟩ (by decide) [48] [] [6] rfl ⟨rfl, rfl⟩ (by decide +kernel) (xcs_c rfl xcs_n) (by decide +kernel) ?_ (fun H3 r hT3 hf3 hFr3 hr3 hΨ3 => ?_)
        · show xΦiw (xfv [6]) (zyEl zymx B H2)
          rw [hEE]
          exact ⟨by decide, hPW⟩
        · have hΨ3 : xΨiw (xfv [6]) (zyEl zymx B H2) (zyEl zymx B H3) r := hΨ3
          have d74_36 : xE (zyEl zymx B H3) 74 36 = xE (zyEl zymx B H2) 74 36 := xFr_E hf3 rfl
          have d74_37 : xE (zyEl zymx B H3) 74 37 = xE (zyEl zymx B H2) 74 37 := xFr_E hf3 rfl
          have d74_38 : xE (zyEl zymx B H3) 74 38 = xE (zyEl zymx B H2) 74 38 := xFr_E hf3 rfl
          have d74_39 : xE (zyEl zymx B H3) 74 39 = xE (zyEl zymx B H2) 74 39 := xFr_E hf3 rfl
          have d74_40 : xE (zyEl zymx B H3) 74 40 = xE (zyEl zymx B H2) 74 40 := xFr_E hf3 rfl
          have d74_41 : xE (zyEl zymx B H3) 74 41 = xE (zyEl zymx B H2) 74 41 := xFr_E hf3 rfl
          have d74_42 : xE (zyEl zymx B H3) 74 42 = xE (zyEl zymx B H2) 74 42 := xFr_E hf3 rfl
          have d75_0 : xE (zyEl zymx B H3) 75 0 = xE (zyEl zymx B H2) 75 0 := xFr_E hf3 rfl
          have d75_1 : xE (zyEl zymx B H3) 75 1 = xE (zyEl zymx B H2) 75 1 := xFr_E hf3 rfl
          have d75_2 : xE (zyEl zymx B H3) 75 2 = xE (zyEl zymx B H2) 75 2 := xFr_E hf3 rfl
          have d84 : ∀ i, xE (zyEl zymx B H3) 84 i = xE (zyEl zymx B H2) 84 i := fun i => xFr_E hf3 rfl
          have d75 : ∀ i, xE (zyEl zymx B H3) 75 i = xE (zyEl zymx B H2) 75 i := fun i => xFr_E hf3 rfl
          obtain ⟨hb, hb0, hb1⟩ := (show xΨiw (xfv [6]) (zyEl zymx B H2) (zyEl zymx B H3) r from hΨ3)
          rw [hEE] at hb1
          have hw2 : r = 1 ↔ tW (xE (zyEl zymx B s.heap) 84) (xE (zyEl zymx B s.heap) 74 42) (xE (zyEl zymx B s.heap) 74 38) [102, 114, 101, 101] = true := hb1 _ hPp hPs hP1
          have hE3 : (zyEl zymx B H3) = (zyEl zymx B s.heap) := (xFr_n hf3).trans hEE
          refine ⟨⟨5, by decide⟩, [0], [0, r], rfl, ⟨by decide +kernel, ⟨rfl, by decide +kernel⟩, (xcs_c rfl xcs_n), (xe_0 (xe_c (by omega) (by omega) rfl xe_n)), xkq_n⟩, (by rw [if_pos rfl]; exact ⟨1, [], rfl, by decide, rfl, xst_n⟩), ?_, ?_⟩
          · show (zyEl zymx B H3) = (zyEl zymx B s.heap) ∧ ¬ (tW (xE (zyEl zymx B s.heap) 84) (xE (zyEl zymx B s.heap) 74 42) (xE (zyEl zymx B s.heap) 74 38) [115, 119, 105, 116, 99, 104] = true) ∧ ¬ (tW (xE (zyEl zymx B s.heap) 84) (xE (zyEl zymx B s.heap) 74 42) (xE (zyEl zymx B s.heap) 74 38) [98, 111, 98, 98, 105, 110] = true) ∧ ¬ (tW (xE (zyEl zymx B s.heap) 84) (xE (zyEl zymx B s.heap) 74 42) (xE (zyEl zymx B s.heap) 74 38) [115, 116, 117, 99, 107] = true) ∧ ((r : Int) = 1 ↔ tW (xE (zyEl zymx B s.heap) 84) (xE (zyEl zymx B s.heap) 74 42) (xE (zyEl zymx B s.heap) 74 38) [102, 114, 101, 101] = true)
            exact ⟨hE3, n1, n2, hw, hw2⟩
          · show 95 < 96
            omega
    · have hx : x ∈ [zxfli_b6x0, zxfli_b6x1] := hx
      have hag : ∀ k, k < 2 → v2 k = v k := hag
      have hfr : xFr [] _ _ := hfr
      rcases List.mem_cons.mp hx with ex | hx
      · subst ex
        obtain ⟨hF, hBd, hM⟩ := hXs
        have g1 : v2 1 = v 1 := hag 1 (by decide)
        have b0 : ((2147483649 : Nat) : Int) ≤ (v2 1) + 2147483648 ∧ (v2 1) + 2147483648 ≤ ((2147483649 : Nat) : Int) := xXb hBd 0 rfl
        have f0 : ¬ (v2 1) = 0 := xXf hF 0 rfl
        have e74_36 : xE (zyEl zymx B H2) 74 36 = xE (zyEl zymx B H) 74 36 := xFr_E hfr rfl
        have e74_37 : xE (zyEl zymx B H2) 74 37 = xE (zyEl zymx B H) 74 37 := xFr_E hfr rfl
        have e74_38 : xE (zyEl zymx B H2) 74 38 = xE (zyEl zymx B H) 74 38 := xFr_E hfr rfl
        have e74_39 : xE (zyEl zymx B H2) 74 39 = xE (zyEl zymx B H) 74 39 := xFr_E hfr rfl
        have e74_40 : xE (zyEl zymx B H2) 74 40 = xE (zyEl zymx B H) 74 40 := xFr_E hfr rfl
        have e74_41 : xE (zyEl zymx B H2) 74 41 = xE (zyEl zymx B H) 74 41 := xFr_E hfr rfl
        have e74_42 : xE (zyEl zymx B H2) 74 42 = xE (zyEl zymx B H) 74 42 := xFr_E hfr rfl
        have q74_42 : xE (zyEl zymx B H) 74 42 = xE (zyEl zymx B s.heap) 74 42 := xFr_E hFr0 rfl
        have e75_0 : xE (zyEl zymx B H2) 75 0 = xE (zyEl zymx B H) 75 0 := xFr_E hfr rfl
        have q75_0 : xE (zyEl zymx B H) 75 0 = xE (zyEl zymx B s.heap) 75 0 := xFr_E hFr0 rfl
        have e75_1 : xE (zyEl zymx B H2) 75 1 = xE (zyEl zymx B H) 75 1 := xFr_E hfr rfl
        have q75_1 : xE (zyEl zymx B H) 75 1 = xE (zyEl zymx B s.heap) 75 1 := xFr_E hFr0 rfl
        have e75_2 : xE (zyEl zymx B H2) 75 2 = xE (zyEl zymx B H) 75 2 := xFr_E hfr rfl
        have e84 : ∀ i, xE (zyEl zymx B H2) 84 i = xE (zyEl zymx B H) 84 i := fun i => xFr_E hfr rfl
        have q84 : ∀ i, xE (zyEl zymx B H) 84 i = xE (zyEl zymx B s.heap) 84 i := fun i => xFr_E hFr0 rfl
        have e75 : ∀ i, xE (zyEl zymx B H2) 75 i = xE (zyEl zymx B H) 75 i := fun i => xFr_E hfr rfl
        have y74_42 : ((2147483648 : Nat) : Int) ≤ xE (zyEl zymx B s.heap) 74 42 + 2147483648 ∧ xE (zyEl zymx B s.heap) 74 42 + 2147483648 ≤ ((2147484548 : Nat) : Int) := xTyF hT0 74 42 42 rfl rfl rfl rfl rfl rfl
        have hI : (zyEl zymx B H) = (zyEl zymx B s.heap) ∧ ¬ (tW (xE (zyEl zymx B s.heap) 84) (xE (zyEl zymx B s.heap) 74 42) (xE (zyEl zymx B s.heap) 74 38) [115, 119, 105, 116, 99, 104] = true) ∧ ¬ (tW (xE (zyEl zymx B s.heap) 84) (xE (zyEl zymx B s.heap) 74 42) (xE (zyEl zymx B s.heap) 74 38) [98, 111, 98, 98, 105, 110] = true) ∧ ¬ (tW (xE (zyEl zymx B s.heap) 84) (xE (zyEl zymx B s.heap) 74 42) (xE (zyEl zymx B s.heap) 74 38) [115, 116, 117, 99, 107] = true) ∧ ((v 1) = 1 ↔ tW (xE (zyEl zymx B s.heap) 84) (xE (zyEl zymx B s.heap) 74 42) (xE (zyEl zymx B s.heap) 74 38) [102, 114, 101, 101] = true) := hInv
        have q74_36 : xE (zyEl zymx B H) 74 36 = xE (zyEl zymx B s.heap) 74 36 := by rw [hI.1]
        have q74_37 : xE (zyEl zymx B H) 74 37 = xE (zyEl zymx B s.heap) 74 37 := by rw [hI.1]
        have q74_38 : xE (zyEl zymx B H) 74 38 = xE (zyEl zymx B s.heap) 74 38 := by rw [hI.1]
        have q74_39 : xE (zyEl zymx B H) 74 39 = xE (zyEl zymx B s.heap) 74 39 := by rw [hI.1]
        have q74_40 : xE (zyEl zymx B H) 74 40 = xE (zyEl zymx B s.heap) 74 40 := by rw [hI.1]
        have q74_41 : xE (zyEl zymx B H) 74 41 = xE (zyEl zymx B s.heap) 74 41 := by rw [hI.1]
        have q75_2 : xE (zyEl zymx B H) 75 2 = xE (zyEl zymx B s.heap) 75 2 := by rw [hI.1]
        have q75 : ∀ i, xE (zyEl zymx B H) 75 i = xE (zyEl zymx B s.heap) 75 i := fun i => by rw [hI.1]
        obtain ⟨hE, n1, n2, n3, hw⟩ := hI
        have hEE : (zyEl zymx B H2) = (zyEl zymx B s.heap) := (xFr_n hfr).trans hE
        obtain ⟨hPW, hP1, ⟨hPp, hPs⟩, hPk, hP3, hP4, hP5, hP6⟩ := (show xΦln x0 (zyEl zymx B s.heap) from hΦ)
        obtain ⟨s1, s1b, s2, s3, s4, s5, s6, s7, s8⟩ := xRD_i hPs hPp
        have s4 := s4 hPk
        have hw := hw.mp (by omega)
        refine xCa hRu hIH hAt hB hv hFr (hffr B) (ix := 479) (ax := 5184) rfl rfl rfl hmeffr ⟨_, rfl, rfl, by decide⟩ ⟨rfl, rfl, rfl⟩ (by decide) [] [] [] rfl ⟨rfl, rfl⟩ (by decide +kernel) xcs_n (by decide +kernel) ?_ (fun H3 r hT3 hf3 hFr3 hr3 hΨ3 => ?_)
        · show xΦff (xfv []) (zyEl zymx B H2)
          rw [hEE]
          exact ⟨hP1, by omega, hP3, hP4⟩
        · have hΨ3 : xΨff (xfv []) (zyEl zymx B H2) (zyEl zymx B H3) r := hΨ3
          have d74_42 : xE (zyEl zymx B H3) 74 42 = xE (zyEl zymx B H2) 74 42 := xFr_E hf3 rfl
          have d75_0 : xE (zyEl zymx B H3) 75 0 = xE (zyEl zymx B H2) 75 0 := xFr_E hf3 rfl
          have d75_1 : xE (zyEl zymx B H3) 75 1 = xE (zyEl zymx B H2) 75 1 := xFr_E hf3 rfl
          have d75_2 : xE (zyEl zymx B H3) 75 2 = xE (zyEl zymx B H2) 75 2 := xFr_E hf3 rfl
          have d84 : ∀ i, xE (zyEl zymx B H3) 84 i = xE (zyEl zymx B H2) 84 i := fun i => xFr_E hf3 rfl
          have hΨ3 : xΨff (xfv []) (zyEl zymx B s.heap) (zyEl zymx B H3) r := by rw [← hEE]; exact hΨ3
          have hg : xRs (xE (zyEl zymx B s.heap) 84) (xE (zyEl zymx B s.heap) 74 42) (zyEl zymx B H3) (pFree (xE (zyEl zymx B s.heap) 84) (xE (zyEl zymx B s.heap) 74 42) (xE (zyEl zymx B s.heap) 74 38) (xE (zyEl zymx B s.heap) 74 39) (xE (zyEl zymx B s.heap) 75)) := hΨ3 _ s1
          rw [s4.1] at hg
          refine ⟨⟨12, by decide⟩, [0], [0], rfl, ⟨by decide +kernel, ⟨rfl, by decide +kernel⟩, (xcs_c rfl xcs_n), (xe_0 xe_n), xkq_n⟩, (by rw [if_neg (by decide)]; exact xst_n), ?_, ?_⟩
          · show xRs (xE (zyEl zymx B s.heap) 84) (xE (zyEl zymx B s.heap) 74 42) (zyEl zymx B H3) (pBody (xE (zyEl zymx B s.heap) 84) (xE (zyEl zymx B s.heap) 74 42) (xE (zyEl zymx B s.heap) 74 38) (xE (zyEl zymx B s.heap) 75))
            unfold pBody
            rw [if_neg n1, if_neg n2, if_neg n3, if_pos hw]
            exact hg
          · show 88 < 95
            omega
      · skip
        have ex := List.mem_singleton.mp hx
        subst ex
        obtain ⟨hF, hBd, hM⟩ := hXs
        have g1 : v2 1 = v 1 := hag 1 (by decide)
        have b0 : ((2147483648 : Nat) : Int) ≤ (v2 1) + 2147483648 ∧ (v2 1) + 2147483648 ≤ ((2147483648 : Nat) : Int) := xXb hBd 0 rfl
        have f0 : (v2 1) = 0 := xXf hF 0 rfl
        have e74_36 : xE (zyEl zymx B H2) 74 36 = xE (zyEl zymx B H) 74 36 := xFr_E hfr rfl
        have e74_37 : xE (zyEl zymx B H2) 74 37 = xE (zyEl zymx B H) 74 37 := xFr_E hfr rfl
        have e74_38 : xE (zyEl zymx B H2) 74 38 = xE (zyEl zymx B H) 74 38 := xFr_E hfr rfl
        have e74_39 : xE (zyEl zymx B H2) 74 39 = xE (zyEl zymx B H) 74 39 := xFr_E hfr rfl
        have e74_40 : xE (zyEl zymx B H2) 74 40 = xE (zyEl zymx B H) 74 40 := xFr_E hfr rfl
        have e74_41 : xE (zyEl zymx B H2) 74 41 = xE (zyEl zymx B H) 74 41 := xFr_E hfr rfl
        have e74_42 : xE (zyEl zymx B H2) 74 42 = xE (zyEl zymx B H) 74 42 := xFr_E hfr rfl
        have q74_42 : xE (zyEl zymx B H) 74 42 = xE (zyEl zymx B s.heap) 74 42 := xFr_E hFr0 rfl
        have e75_0 : xE (zyEl zymx B H2) 75 0 = xE (zyEl zymx B H) 75 0 := xFr_E hfr rfl
        have q75_0 : xE (zyEl zymx B H) 75 0 = xE (zyEl zymx B s.heap) 75 0 := xFr_E hFr0 rfl
        have e75_1 : xE (zyEl zymx B H2) 75 1 = xE (zyEl zymx B H) 75 1 := xFr_E hfr rfl
        have q75_1 : xE (zyEl zymx B H) 75 1 = xE (zyEl zymx B s.heap) 75 1 := xFr_E hFr0 rfl
        have e75_2 : xE (zyEl zymx B H2) 75 2 = xE (zyEl zymx B H) 75 2 := xFr_E hfr rfl
        have e84 : ∀ i, xE (zyEl zymx B H2) 84 i = xE (zyEl zymx B H) 84 i := fun i => xFr_E hfr rfl
        have q84 : ∀ i, xE (zyEl zymx B H) 84 i = xE (zyEl zymx B s.heap) 84 i := fun i => xFr_E hFr0 rfl
        have e75 : ∀ i, xE (zyEl zymx B H2) 75 i = xE (zyEl zymx B H) 75 i := fun i => xFr_E hfr rfl
        have y74_42 : ((2147483648 : Nat) : Int) ≤ xE (zyEl zymx B s.heap) 74 42 + 2147483648 ∧ xE (zyEl zymx B s.heap) 74 42 + 2147483648 ≤ ((2147484548 : Nat) : Int) := xTyF hT0 74 42 42 rfl rfl rfl rfl rfl rfl
        have hI : (zyEl zymx B H) = (zyEl zymx B s.heap) ∧ ¬ (tW (xE (zyEl zymx B s.heap) 84) (xE (zyEl zymx B s.heap) 74 42) (xE (zyEl zymx B s.heap) 74 38) [115, 119, 105, 116, 99, 104] = true) ∧ ¬ (tW (xE (zyEl zymx B s.heap) 84) (xE (zyEl zymx B s.heap) 74 42) (xE (zyEl zymx B s.heap) 74 38) [98, 111, 98, 98, 105, 110] = true) ∧ ¬ (tW (xE (zyEl zymx B s.heap) 84) (xE (zyEl zymx B s.heap) 74 42) (xE (zyEl zymx B s.heap) 74 38) [115, 116, 117, 99, 107] = true) ∧ ((v 1) = 1 ↔ tW (xE (zyEl zymx B s.heap) 84) (xE (zyEl zymx B s.heap) 74 42) (xE (zyEl zymx B s.heap) 74 38) [102, 114, 101, 101] = true) := hInv
        have q74_36 : xE (zyEl zymx B H) 74 36 = xE (zyEl zymx B s.heap) 74 36 := by rw [hI.1]
        have q74_37 : xE (zyEl zymx B H) 74 37 = xE (zyEl zymx B s.heap) 74 37 := by rw [hI.1]
        have q74_38 : xE (zyEl zymx B H) 74 38 = xE (zyEl zymx B s.heap) 74 38 := by rw [hI.1]
        have q74_39 : xE (zyEl zymx B H) 74 39 = xE (zyEl zymx B s.heap) 74 39 := by rw [hI.1]
        have q74_40 : xE (zyEl zymx B H) 74 40 = xE (zyEl zymx B s.heap) 74 40 := by rw [hI.1]
        have q74_41 : xE (zyEl zymx B H) 74 41 = xE (zyEl zymx B s.heap) 74 41 := by rw [hI.1]
        have q75_2 : xE (zyEl zymx B H) 75 2 = xE (zyEl zymx B s.heap) 75 2 := by rw [hI.1]
        have q75 : ∀ i, xE (zyEl zymx B H) 75 i = xE (zyEl zymx B s.heap) 75 i := fun i => by rw [hI.1]
        obtain ⟨hE, n1, n2, n3, hw⟩ := hI
        have hEE : (zyEl zymx B H2) = (zyEl zymx B s.heap) := (xFr_n hfr).trans hE
        obtain ⟨hPW, hP1, ⟨hPp, hPs⟩, hPk, hP3, hP4, hP5, hP6⟩ := (show xΦln x0 (zyEl zymx B s.heap) from hΦ)
        obtain ⟨s1, s1b, s2, s3, s4, s5, s6, s7, s8⟩ := xRD_i hPs hPp
        have s4 := s4 hPk
        have hw : ¬ (tW (xE (zyEl zymx B s.heap) 84) (xE (zyEl zymx B s.heap) 74 42) (xE (zyEl zymx B s.heap) 74 38) [102, 114, 101, 101] = true) := fun z => by
          have := hw.mpr z
          omega
        refine xCa hRu hIH hAt hB hv hFr (hfiw B) (ix := 459) (ax := 5056) rfl rfl rfl hmefiw ⟨_, rfl, rfl, by decide⟩ ⟨rfl, rfl, rfl⟩ (by decide) [56] [] [7] rfl ⟨rfl, rfl⟩ (by decide +kernel) (xcs_c rfl xcs_n) (by decide +kernel) ?_ (fun H3 r hT3 hf3 hFr3 hr3 hΨ3 => ?_)
        · show xΦiw (xfv [7]) (zyEl zymx B H2)
          rw [hEE]
          exact ⟨by decide, hPW⟩
        · have hΨ3 : xΨiw (xfv [7]) (zyEl zymx B H2) (zyEl zymx B H3) r := hΨ3
          have d74_36 : xE (zyEl zymx B H3) 74 36 = xE (zyEl zymx B H2) 74 36 := xFr_E hf3 rfl
          have d74_37 : xE (zyEl zymx B H3) 74 37 = xE (zyEl zymx B H2) 74 37 := xFr_E hf3 rfl
          have d74_38 : xE (zyEl zymx B H3) 74 38 = xE (zyEl zymx B H2) 74 38 := xFr_E hf3 rfl
          have d74_39 : xE (zyEl zymx B H3) 74 39 = xE (zyEl zymx B H2) 74 39 := xFr_E hf3 rfl
          have d74_40 : xE (zyEl zymx B H3) 74 40 = xE (zyEl zymx B H2) 74 40 := xFr_E hf3 rfl
          have d74_41 : xE (zyEl zymx B H3) 74 41 = xE (zyEl zymx B H2) 74 41 := xFr_E hf3 rfl
          have d74_42 : xE (zyEl zymx B H3) 74 42 = xE (zyEl zymx B H2) 74 42 := xFr_E hf3 rfl
          have d75_0 : xE (zyEl zymx B H3) 75 0 = xE (zyEl zymx B H2) 75 0 := xFr_E hf3 rfl
          have d75_1 : xE (zyEl zymx B H3) 75 1 = xE (zyEl zymx B H2) 75 1 := xFr_E hf3 rfl
          have d75_2 : xE (zyEl zymx B H3) 75 2 = xE (zyEl zymx B H2) 75 2 := xFr_E hf3 rfl
          have d84 : ∀ i, xE (zyEl zymx B H3) 84 i = xE (zyEl zymx B H2) 84 i := fun i => xFr_E hf3 rfl
          have d75 : ∀ i, xE (zyEl zymx B H3) 75 i = xE (zyEl zymx B H2) 75 i := fun i => xFr_E hf3 rfl
          obtain ⟨hb, hb0, hb1⟩ := (show xΨiw (xfv [7]) (zyEl zymx B H2) (zyEl zymx B H3) r from hΨ3)
          rw [hEE] at hb1
          have hw2 : r = 1 ↔ tW (xE (zyEl zymx B s.heap) 84) (xE (zyEl zymx B s.heap) 74 42) (xE (zyEl zymx B s.heap) 74 38) [112, 108, 97, 99, 101] = true := hb1 _ hPp hPs hP1
          have hE3 : (zyEl zymx B H3) = (zyEl zymx B s.heap) := (xFr_n hf3).trans hEE
          refine ⟨⟨6, by decide⟩, [0], [0, r], rfl, ⟨by decide +kernel, ⟨rfl, by decide +kernel⟩, (xcs_c rfl xcs_n), (xe_0 (xe_c (by omega) (by omega) rfl xe_n)), xkq_n⟩, (by rw [if_pos rfl]; exact ⟨1, [], rfl, by decide, rfl, xst_n⟩), ?_, ?_⟩
          · show (zyEl zymx B H3) = (zyEl zymx B s.heap) ∧ ¬ (tW (xE (zyEl zymx B s.heap) 84) (xE (zyEl zymx B s.heap) 74 42) (xE (zyEl zymx B s.heap) 74 38) [115, 119, 105, 116, 99, 104] = true) ∧ ¬ (tW (xE (zyEl zymx B s.heap) 84) (xE (zyEl zymx B s.heap) 74 42) (xE (zyEl zymx B s.heap) 74 38) [98, 111, 98, 98, 105, 110] = true) ∧ ¬ (tW (xE (zyEl zymx B s.heap) 84) (xE (zyEl zymx B s.heap) 74 42) (xE (zyEl zymx B s.heap) 74 38) [115, 116, 117, 99, 107] = true) ∧ ¬ (tW (xE (zyEl zymx B s.heap) 84) (xE (zyEl zymx B s.heap) 74 42) (xE (zyEl zymx B s.heap) 74 38) [102, 114, 101, 101] = true) ∧ ((r : Int) = 1 ↔ tW (xE (zyEl zymx B s.heap) 84) (xE (zyEl zymx B s.heap) 74 42) (xE (zyEl zymx B s.heap) 74 38) [112, 108, 97, 99, 101] = true)
            exact ⟨hE3, n1, n2, n3, hw, hw2⟩
          · show 94 < 95
            omega
    · have hx : x ∈ [zxfli_b7x0, zxfli_b7x1] := hx
      have hag : ∀ k, k < 2 → v2 k = v k := hag
      have hfr : xFr [] _ _ := hfr
      rcases List.mem_cons.mp hx with ex | hx
      · subst ex
        obtain ⟨hF, hBd, hM⟩ := hXs
        have g1 : v2 1 = v 1 := hag 1 (by decide)
        have b0 : ((2147483649 : Nat) : Int) ≤ (v2 1) + 2147483648 ∧ (v2 1) + 2147483648 ≤ ((2147483649 : Nat) : Int) := xXb hBd 0 rfl
        have f0 : ¬ (v2 1) = 0 := xXf hF 0 rfl
        have e74_36 : xE (zyEl zymx B H2) 74 36 = xE (zyEl zymx B H) 74 36 := xFr_E hfr rfl
        have e74_37 : xE (zyEl zymx B H2) 74 37 = xE (zyEl zymx B H) 74 37 := xFr_E hfr rfl
        have e74_38 : xE (zyEl zymx B H2) 74 38 = xE (zyEl zymx B H) 74 38 := xFr_E hfr rfl
        have e74_39 : xE (zyEl zymx B H2) 74 39 = xE (zyEl zymx B H) 74 39 := xFr_E hfr rfl
        have e74_40 : xE (zyEl zymx B H2) 74 40 = xE (zyEl zymx B H) 74 40 := xFr_E hfr rfl
        have e74_41 : xE (zyEl zymx B H2) 74 41 = xE (zyEl zymx B H) 74 41 := xFr_E hfr rfl
        have e74_42 : xE (zyEl zymx B H2) 74 42 = xE (zyEl zymx B H) 74 42 := xFr_E hfr rfl
        have q74_42 : xE (zyEl zymx B H) 74 42 = xE (zyEl zymx B s.heap) 74 42 := xFr_E hFr0 rfl
        have e75_0 : xE (zyEl zymx B H2) 75 0 = xE (zyEl zymx B H) 75 0 := xFr_E hfr rfl
        have q75_0 : xE (zyEl zymx B H) 75 0 = xE (zyEl zymx B s.heap) 75 0 := xFr_E hFr0 rfl
        have e75_1 : xE (zyEl zymx B H2) 75 1 = xE (zyEl zymx B H) 75 1 := xFr_E hfr rfl
        have q75_1 : xE (zyEl zymx B H) 75 1 = xE (zyEl zymx B s.heap) 75 1 := xFr_E hFr0 rfl
        have e75_2 : xE (zyEl zymx B H2) 75 2 = xE (zyEl zymx B H) 75 2 := xFr_E hfr rfl
        have e84 : ∀ i, xE (zyEl zymx B H2) 84 i = xE (zyEl zymx B H) 84 i := fun i => xFr_E hfr rfl
        have q84 : ∀ i, xE (zyEl zymx B H) 84 i = xE (zyEl zymx B s.heap) 84 i := fun i => xFr_E hFr0 rfl
        have e75 : ∀ i, xE (zyEl zymx B H2) 75 i = xE (zyEl zymx B H) 75 i := fun i => xFr_E hfr rfl
        have y74_42 : ((2147483648 : Nat) : Int) ≤ xE (zyEl zymx B s.heap) 74 42 + 2147483648 ∧ xE (zyEl zymx B s.heap) 74 42 + 2147483648 ≤ ((2147484548 : Nat) : Int) := xTyF hT0 74 42 42 rfl rfl rfl rfl rfl rfl
        have hI : (zyEl zymx B H) = (zyEl zymx B s.heap) ∧ ¬ (tW (xE (zyEl zymx B s.heap) 84) (xE (zyEl zymx B s.heap) 74 42) (xE (zyEl zymx B s.heap) 74 38) [115, 119, 105, 116, 99, 104] = true) ∧ ¬ (tW (xE (zyEl zymx B s.heap) 84) (xE (zyEl zymx B s.heap) 74 42) (xE (zyEl zymx B s.heap) 74 38) [98, 111, 98, 98, 105, 110] = true) ∧ ¬ (tW (xE (zyEl zymx B s.heap) 84) (xE (zyEl zymx B s.heap) 74 42) (xE (zyEl zymx B s.heap) 74 38) [115, 116, 117, 99, 107] = true) ∧ ¬ (tW (xE (zyEl zymx B s.heap) 84) (xE (zyEl zymx B s.heap) 74 42) (xE (zyEl zymx B s.heap) 74 38) [102, 114, 101, 101] = true) ∧ ((v 1) = 1 ↔ tW (xE (zyEl zymx B s.heap) 84) (xE (zyEl zymx B s.heap) 74 42) (xE (zyEl zymx B s.heap) 74 38) [112, 108, 97, 99, 101] = true) := hInv
        have q74_36 : xE (zyEl zymx B H) 74 36 = xE (zyEl zymx B s.heap) 74 36 := by rw [hI.1]
        have q74_37 : xE (zyEl zymx B H) 74 37 = xE (zyEl zymx B s.heap) 74 37 := by rw [hI.1]
        have q74_38 : xE (zyEl zymx B H) 74 38 = xE (zyEl zymx B s.heap) 74 38 := by rw [hI.1]
        have q74_39 : xE (zyEl zymx B H) 74 39 = xE (zyEl zymx B s.heap) 74 39 := by rw [hI.1]
        have q74_40 : xE (zyEl zymx B H) 74 40 = xE (zyEl zymx B s.heap) 74 40 := by rw [hI.1]
        have q74_41 : xE (zyEl zymx B H) 74 41 = xE (zyEl zymx B s.heap) 74 41 := by rw [hI.1]
        have q75_2 : xE (zyEl zymx B H) 75 2 = xE (zyEl zymx B s.heap) 75 2 := by rw [hI.1]
        have q75 : ∀ i, xE (zyEl zymx B H) 75 i = xE (zyEl zymx B s.heap) 75 i := fun i => by rw [hI.1]
        obtain ⟨hE, n1, n2, n3, n6, hw⟩ := hI
        have hEE : (zyEl zymx B H2) = (zyEl zymx B s.heap) := (xFr_n hfr).trans hE
        obtain ⟨hPW, hP1, ⟨hPp, hPs⟩, hPk, hP3, hP4, hP5, hP6⟩ := (show xΦln x0 (zyEl zymx B s.heap) from hΦ)
        obtain ⟨s1, s1b, s2, s3, s4, s5, s6, s7, s8⟩ := xRD_i hPs hPp
        have s4 := s4 hPk
        have hw := hw.mp (by omega)
        refine xCa hRu hIH hAt hB hv hFr (hfpl B) (ix := 482) (ax := 5200) rfl rfl rfl hmefpl ⟨_, rfl, rfl, by decide⟩ ⟨rfl, rfl, rfl⟩ (by decide) [] [] [] rfl ⟨rfl, rfl⟩ (by decide +kernel) xcs_n (by decide +kernel) ?_ (fun H3 r hT3 hf3 hFr3 hr3 hΨ3 => ?_)
        · show xΦpl (xfv []) (zyEl zymx B H2)
          rw [hEE]
          exact ⟨hP1, by omega, hP3, hP4, hP5⟩
        · have hΨ3 : xΨpl (xfv []) (zyEl zymx B H2) (zyEl zymx B H3) r := hΨ3
          have d74_42 : xE (zyEl zymx B H3) 74 42 = xE (zyEl zymx B H2) 74 42 := xFr_E hf3 rfl
          have d75_0 : xE (zyEl zymx B H3) 75 0 = xE (zyEl zymx B H2) 75 0 := xFr_E hf3 rfl
          have d75_1 : xE (zyEl zymx B H3) 75 1 = xE (zyEl zymx B H2) 75 1 := xFr_E hf3 rfl
          have d75_2 : xE (zyEl zymx B H3) 75 2 = xE (zyEl zymx B H2) 75 2 := xFr_E hf3 rfl
          have d84 : ∀ i, xE (zyEl zymx B H3) 84 i = xE (zyEl zymx B H2) 84 i := fun i => xFr_E hf3 rfl
          have hΨ3 : xΨpl (xfv []) (zyEl zymx B s.heap) (zyEl zymx B H3) r := by rw [← hEE]; exact hΨ3
          have hg : xRs (xE (zyEl zymx B s.heap) 84) (xE (zyEl zymx B s.heap) 74 42) (zyEl zymx B H3) (pPlace (xE (zyEl zymx B s.heap) 84) (xE (zyEl zymx B s.heap) 74 42) (xE (zyEl zymx B s.heap) 74 39) (xE (zyEl zymx B s.heap) 75)) := hΨ3
          rw [s4.1] at hg
          refine ⟨⟨13, by decide⟩, [0], [0], rfl, ⟨by decide +kernel, ⟨rfl, by decide +kernel⟩, (xcs_c rfl xcs_n), (xe_0 xe_n), xkq_n⟩, (by rw [if_neg (by decide)]; exact xst_n), ?_, ?_⟩
          · show xRs (xE (zyEl zymx B s.heap) 84) (xE (zyEl zymx B s.heap) 74 42) (zyEl zymx B H3) (pBody (xE (zyEl zymx B s.heap) 84) (xE (zyEl zymx B s.heap) 74 42) (xE (zyEl zymx B s.heap) 74 38) (xE (zyEl zymx B s.heap) 75))
            unfold pBody
            rw [if_neg n1, if_neg n2, if_neg n3, if_neg n6, if_pos hw]
            exact hg
          · show 87 < 94
            omega
      · skip
        have ex := List.mem_singleton.mp hx
        subst ex
        obtain ⟨hF, hBd, hM⟩ := hXs
        have g1 : v2 1 = v 1 := hag 1 (by decide)
        have b0 : ((2147483648 : Nat) : Int) ≤ (v2 1) + 2147483648 ∧ (v2 1) + 2147483648 ≤ ((2147483648 : Nat) : Int) := xXb hBd 0 rfl
        have f0 : (v2 1) = 0 := xXf hF 0 rfl
        have e74_36 : xE (zyEl zymx B H2) 74 36 = xE (zyEl zymx B H) 74 36 := xFr_E hfr rfl
        have e74_37 : xE (zyEl zymx B H2) 74 37 = xE (zyEl zymx B H) 74 37 := xFr_E hfr rfl
        have e74_38 : xE (zyEl zymx B H2) 74 38 = xE (zyEl zymx B H) 74 38 := xFr_E hfr rfl
        have e74_39 : xE (zyEl zymx B H2) 74 39 = xE (zyEl zymx B H) 74 39 := xFr_E hfr rfl
        have e74_40 : xE (zyEl zymx B H2) 74 40 = xE (zyEl zymx B H) 74 40 := xFr_E hfr rfl
        have e74_41 : xE (zyEl zymx B H2) 74 41 = xE (zyEl zymx B H) 74 41 := xFr_E hfr rfl
        have e74_42 : xE (zyEl zymx B H2) 74 42 = xE (zyEl zymx B H) 74 42 := xFr_E hfr rfl
        have q74_42 : xE (zyEl zymx B H) 74 42 = xE (zyEl zymx B s.heap) 74 42 := xFr_E hFr0 rfl
        have e75_0 : xE (zyEl zymx B H2) 75 0 = xE (zyEl zymx B H) 75 0 := xFr_E hfr rfl
        have q75_0 : xE (zyEl zymx B H) 75 0 = xE (zyEl zymx B s.heap) 75 0 := xFr_E hFr0 rfl
        have e75_1 : xE (zyEl zymx B H2) 75 1 = xE (zyEl zymx B H) 75 1 := xFr_E hfr rfl
        have q75_1 : xE (zyEl zymx B H) 75 1 = xE (zyEl zymx B s.heap) 75 1 := xFr_E hFr0 rfl
        have e75_2 : xE (zyEl zymx B H2) 75 2 = xE (zyEl zymx B H) 75 2 := xFr_E hfr rfl
        have e84 : ∀ i, xE (zyEl zymx B H2) 84 i = xE (zyEl zymx B H) 84 i := fun i => xFr_E hfr rfl
        have q84 : ∀ i, xE (zyEl zymx B H) 84 i = xE (zyEl zymx B s.heap) 84 i := fun i => xFr_E hFr0 rfl
        have e75 : ∀ i, xE (zyEl zymx B H2) 75 i = xE (zyEl zymx B H) 75 i := fun i => xFr_E hfr rfl
        have y74_42 : ((2147483648 : Nat) : Int) ≤ xE (zyEl zymx B s.heap) 74 42 + 2147483648 ∧ xE (zyEl zymx B s.heap) 74 42 + 2147483648 ≤ ((2147484548 : Nat) : Int) := xTyF hT0 74 42 42 rfl rfl rfl rfl rfl rfl
        have hI : (zyEl zymx B H) = (zyEl zymx B s.heap) ∧ ¬ (tW (xE (zyEl zymx B s.heap) 84) (xE (zyEl zymx B s.heap) 74 42) (xE (zyEl zymx B s.heap) 74 38) [115, 119, 105, 116, 99, 104] = true) ∧ ¬ (tW (xE (zyEl zymx B s.heap) 84) (xE (zyEl zymx B s.heap) 74 42) (xE (zyEl zymx B s.heap) 74 38) [98, 111, 98, 98, 105, 110] = true) ∧ ¬ (tW (xE (zyEl zymx B s.heap) 84) (xE (zyEl zymx B s.heap) 74 42) (xE (zyEl zymx B s.heap) 74 38) [115, 116, 117, 99, 107] = true) ∧ ¬ (tW (xE (zyEl zymx B s.heap) 84) (xE (zyEl zymx B s.heap) 74 42) (xE (zyEl zymx B s.heap) 74 38) [102, 114, 101, 101] = true) ∧ ((v 1) = 1 ↔ tW (xE (zyEl zymx B s.heap) 84) (xE (zyEl zymx B s.heap) 74 42) (xE (zyEl zymx B s.heap) 74 38) [112, 108, 97, 99, 101] = true) := hInv
        have q74_36 : xE (zyEl zymx B H) 74 36 = xE (zyEl zymx B s.heap) 74 36 := by rw [hI.1]
        have q74_37 : xE (zyEl zymx B H) 74 37 = xE (zyEl zymx B s.heap) 74 37 := by rw [hI.1]
        have q74_38 : xE (zyEl zymx B H) 74 38 = xE (zyEl zymx B s.heap) 74 38 := by rw [hI.1]
        have q74_39 : xE (zyEl zymx B H) 74 39 = xE (zyEl zymx B s.heap) 74 39 := by rw [hI.1]
        have q74_40 : xE (zyEl zymx B H) 74 40 = xE (zyEl zymx B s.heap) 74 40 := by rw [hI.1]
        have q74_41 : xE (zyEl zymx B H) 74 41 = xE (zyEl zymx B s.heap) 74 41 := by rw [hI.1]
        have q75_2 : xE (zyEl zymx B H) 75 2 = xE (zyEl zymx B s.heap) 75 2 := by rw [hI.1]
        have q75 : ∀ i, xE (zyEl zymx B H) 75 i = xE (zyEl zymx B s.heap) 75 i := fun i => by rw [hI.1]
        obtain ⟨hE, n1, n2, n3, n6, hw⟩ := hI
        have hEE : (zyEl zymx B H2) = (zyEl zymx B s.heap) := (xFr_n hfr).trans hE
        obtain ⟨hPW, hP1, ⟨hPp, hPs⟩, hPk, hP3, hP4, hP5, hP6⟩ := (show xΦln x0 (zyEl zymx B s.heap) from hΦ)
        obtain ⟨s1, s1b, s2, s3, s4, s5, s6, s7, s8⟩ := xRD_i hPs hPp
        have s4 := s4 hPk
        have hw : ¬ (tW (xE (zyEl zymx B s.heap) 84) (xE (zyEl zymx B s.heap) 74 42) (xE (zyEl zymx B s.heap) 74 38) [112, 108, 97, 99, 101] = true) := fun z => by
          have := hw.mpr z
          omega
        refine xCa hRu hIH hAt hB hv hFr (hfiw B) (ix := 459) (ax := 5056) rfl rfl rfl hmefiw ⟨_, rfl, rfl, by decide⟩ ⟨rfl, rfl, rfl⟩ (by decide) [64] [] [8] rfl ⟨rfl, rfl⟩ (by decide +kernel) (xcs_c rfl xcs_n) (by decide +kernel) ?_ (fun H3 r hT3 hf3 hFr3 hr3 hΨ3 => ?_)
        · show xΦiw (xfv [8]) (zyEl zymx B H2)
          rw [hEE]
          exact ⟨by decide, hPW⟩
        · have hΨ3 : xΨiw (xfv [8]) (zyEl zymx B H2) (zyEl zymx B H3) r := hΨ3
          have d74_36 : xE (zyEl zymx B H3) 74 36 = xE (zyEl zymx B H2) 74 36 := xFr_E hf3 rfl
          have d74_37 : xE (zyEl zymx B H3) 74 37 = xE (zyEl zymx B H2) 74 37 := xFr_E hf3 rfl
          have d74_38 : xE (zyEl zymx B H3) 74 38 = xE (zyEl zymx B H2) 74 38 := xFr_E hf3 rfl
          have d74_39 : xE (zyEl zymx B H3) 74 39 = xE (zyEl zymx B H2) 74 39 := xFr_E hf3 rfl
          have d74_40 : xE (zyEl zymx B H3) 74 40 = xE (zyEl zymx B H2) 74 40 := xFr_E hf3 rfl
          have d74_41 : xE (zyEl zymx B H3) 74 41 = xE (zyEl zymx B H2) 74 41 := xFr_E hf3 rfl
          have d74_42 : xE (zyEl zymx B H3) 74 42 = xE (zyEl zymx B H2) 74 42 := xFr_E hf3 rfl
          have d75_0 : xE (zyEl zymx B H3) 75 0 = xE (zyEl zymx B H2) 75 0 := xFr_E hf3 rfl
          have d75_1 : xE (zyEl zymx B H3) 75 1 = xE (zyEl zymx B H2) 75 1 := xFr_E hf3 rfl
          have d75_2 : xE (zyEl zymx B H3) 75 2 = xE (zyEl zymx B H2) 75 2 := xFr_E hf3 rfl
          have d84 : ∀ i, xE (zyEl zymx B H3) 84 i = xE (zyEl zymx B H2) 84 i := fun i => xFr_E hf3 rfl
          have d75 : ∀ i, xE (zyEl zymx B H3) 75 i = xE (zyEl zymx B H2) 75 i := fun i => xFr_E hf3 rfl
          obtain ⟨hb, hb0, hb1⟩ := (show xΨiw (xfv [8]) (zyEl zymx B H2) (zyEl zymx B H3) r from hΨ3)
          rw [hEE] at hb1
          have hw2 : r = 1 ↔ tW (xE (zyEl zymx B s.heap) 84) (xE (zyEl zymx B s.heap) 74 42) (xE (zyEl zymx B s.heap) 74 38) [119, 111, 114, 100] = true := hb1 _ hPp hPs hP1
          have hE3 : (zyEl zymx B H3) = (zyEl zymx B s.heap) := (xFr_n hf3).trans hEE
          refine ⟨⟨7, by decide⟩, [0], [0, r], rfl, ⟨by decide +kernel, ⟨rfl, by decide +kernel⟩, (xcs_c rfl xcs_n), (xe_0 (xe_c (by omega) (by omega) rfl xe_n)), xkq_n⟩, (by rw [if_pos rfl]; exact ⟨1, [], rfl, by decide, rfl, xst_n⟩), ?_, ?_⟩
          · show (zyEl zymx B H3) = (zyEl zymx B s.heap) ∧ ¬ (tW (xE (zyEl zymx B s.heap) 84) (xE (zyEl zymx B s.heap) 74 42) (xE (zyEl zymx B s.heap) 74 38) [115, 119, 105, 116, 99, 104] = true) ∧ ¬ (tW (xE (zyEl zymx B s.heap) 84) (xE (zyEl zymx B s.heap) 74 42) (xE (zyEl zymx B s.heap) 74 38) [98, 111, 98, 98, 105, 110] = true) ∧ ¬ (tW (xE (zyEl zymx B s.heap) 84) (xE (zyEl zymx B s.heap) 74 42) (xE (zyEl zymx B s.heap) 74 38) [115, 116, 117, 99, 107] = true) ∧ ¬ (tW (xE (zyEl zymx B s.heap) 84) (xE (zyEl zymx B s.heap) 74 42) (xE (zyEl zymx B s.heap) 74 38) [102, 114, 101, 101] = true) ∧ ¬ (tW (xE (zyEl zymx B s.heap) 84) (xE (zyEl zymx B s.heap) 74 42) (xE (zyEl zymx B s.heap) 74 38) [112, 108, 97, 99, 101] = true) ∧ ((r : Int) = 1 ↔ tW (xE (zyEl zymx B s.heap) 84) (xE (zyEl zymx B s.heap) 74 42) (xE (zyEl zymx B s.heap) 74 38) [119, 111, 114, 100] = true)
            exact ⟨hE3, n1, n2, n3, n6, hw, hw2⟩
          · show 93 < 94
            omega
    · have hx : x ∈ [zxfli_b8x0, zxfli_b8x1] := hx
      have hag : ∀ k, k < 2 → v2 k = v k := hag
      have hfr : xFr [] _ _ := hfr
      rcases List.mem_cons.mp hx with ex | hx
      · subst ex
        obtain ⟨hF, hBd, hM⟩ := hXs
        have g1 : v2 1 = v 1 := hag 1 (by decide)
        have b0 : ((2147483649 : Nat) : Int) ≤ (v2 1) + 2147483648 ∧ (v2 1) + 2147483648 ≤ ((2147483649 : Nat) : Int) := xXb hBd 0 rfl
        have f0 : ¬ (v2 1) = 0 := xXf hF 0 rfl
        have e74_36 : xE (zyEl zymx B H2) 74 36 = xE (zyEl zymx B H) 74 36 := xFr_E hfr rfl
        have e74_37 : xE (zyEl zymx B H2) 74 37 = xE (zyEl zymx B H) 74 37 := xFr_E hfr rfl
        have e74_38 : xE (zyEl zymx B H2) 74 38 = xE (zyEl zymx B H) 74 38 := xFr_E hfr rfl
        have e74_39 : xE (zyEl zymx B H2) 74 39 = xE (zyEl zymx B H) 74 39 := xFr_E hfr rfl
        have e74_40 : xE (zyEl zymx B H2) 74 40 = xE (zyEl zymx B H) 74 40 := xFr_E hfr rfl
        have e74_41 : xE (zyEl zymx B H2) 74 41 = xE (zyEl zymx B H) 74 41 := xFr_E hfr rfl
        have e74_42 : xE (zyEl zymx B H2) 74 42 = xE (zyEl zymx B H) 74 42 := xFr_E hfr rfl
        have q74_42 : xE (zyEl zymx B H) 74 42 = xE (zyEl zymx B s.heap) 74 42 := xFr_E hFr0 rfl
        have e75_0 : xE (zyEl zymx B H2) 75 0 = xE (zyEl zymx B H) 75 0 := xFr_E hfr rfl
        have q75_0 : xE (zyEl zymx B H) 75 0 = xE (zyEl zymx B s.heap) 75 0 := xFr_E hFr0 rfl
        have e75_1 : xE (zyEl zymx B H2) 75 1 = xE (zyEl zymx B H) 75 1 := xFr_E hfr rfl
        have q75_1 : xE (zyEl zymx B H) 75 1 = xE (zyEl zymx B s.heap) 75 1 := xFr_E hFr0 rfl
        have e75_2 : xE (zyEl zymx B H2) 75 2 = xE (zyEl zymx B H) 75 2 := xFr_E hfr rfl
        have e84 : ∀ i, xE (zyEl zymx B H2) 84 i = xE (zyEl zymx B H) 84 i := fun i => xFr_E hfr rfl
        have q84 : ∀ i, xE (zyEl zymx B H) 84 i = xE (zyEl zymx B s.heap) 84 i := fun i => xFr_E hFr0 rfl
        have e75 : ∀ i, xE (zyEl zymx B H2) 75 i = xE (zyEl zymx B H) 75 i := fun i => xFr_E hfr rfl
        have y74_42 : ((2147483648 : Nat) : Int) ≤ xE (zyEl zymx B s.heap) 74 42 + 2147483648 ∧ xE (zyEl zymx B s.heap) 74 42 + 2147483648 ≤ ((2147484548 : Nat) : Int) := xTyF hT0 74 42 42 rfl rfl rfl rfl rfl rfl
        have hI : (zyEl zymx B H) = (zyEl zymx B s.heap) ∧ ¬ (tW (xE (zyEl zymx B s.heap) 84) (xE (zyEl zymx B s.heap) 74 42) (xE (zyEl zymx B s.heap) 74 38) [115, 119, 105, 116, 99, 104] = true) ∧ ¬ (tW (xE (zyEl zymx B s.heap) 84) (xE (zyEl zymx B s.heap) 74 42) (xE (zyEl zymx B s.heap) 74 38) [98, 111, 98, 98, 105, 110] = true) ∧ ¬ (tW (xE (zyEl zymx B s.heap) 84) (xE (zyEl zymx B s.heap) 74 42) (xE (zyEl zymx B s.heap) 74 38) [115, 116, 117, 99, 107] = true) ∧ ¬ (tW (xE (zyEl zymx B s.heap) 84) (xE (zyEl zymx B s.heap) 74 42) (xE (zyEl zymx B s.heap) 74 38) [102, 114, 101, 101] = true) ∧ ¬ (tW (xE (zyEl zymx B s.heap) 84) (xE (zyEl zymx B s.heap) 74 42) (xE (zyEl zymx B s.heap) 74 38) [112, 108, 97, 99, 101] = true) ∧ ((v 1) = 1 ↔ tW (xE (zyEl zymx B s.heap) 84) (xE (zyEl zymx B s.heap) 74 42) (xE (zyEl zymx B s.heap) 74 38) [119, 111, 114, 100] = true) := hInv
        have q74_36 : xE (zyEl zymx B H) 74 36 = xE (zyEl zymx B s.heap) 74 36 := by rw [hI.1]
        have q74_37 : xE (zyEl zymx B H) 74 37 = xE (zyEl zymx B s.heap) 74 37 := by rw [hI.1]
        have q74_38 : xE (zyEl zymx B H) 74 38 = xE (zyEl zymx B s.heap) 74 38 := by rw [hI.1]
        have q74_39 : xE (zyEl zymx B H) 74 39 = xE (zyEl zymx B s.heap) 74 39 := by rw [hI.1]
        have q74_40 : xE (zyEl zymx B H) 74 40 = xE (zyEl zymx B s.heap) 74 40 := by rw [hI.1]
        have q74_41 : xE (zyEl zymx B H) 74 41 = xE (zyEl zymx B s.heap) 74 41 := by rw [hI.1]
        have q75_2 : xE (zyEl zymx B H) 75 2 = xE (zyEl zymx B s.heap) 75 2 := by rw [hI.1]
        have q75 : ∀ i, xE (zyEl zymx B H) 75 i = xE (zyEl zymx B s.heap) 75 i := fun i => by rw [hI.1]
        obtain ⟨hE, n1, n2, n3, n6, n7, hw⟩ := hI
        have hEE : (zyEl zymx B H2) = (zyEl zymx B s.heap) := (xFr_n hfr).trans hE
        obtain ⟨hPW, hP1, ⟨hPp, hPs⟩, hPk, hP3, hP4, hP5, hP6⟩ := (show xΦln x0 (zyEl zymx B s.heap) from hΦ)
        obtain ⟨s1, s1b, s2, s3, s4, s5, s6, s7, s8⟩ := xRD_i hPs hPp
        have s4 := s4 hPk
        have hw := hw.mp (by omega)
        refine xCa hRu hIH hAt hB hv hFr (hfwd B) (ix := 485) (ax := 5216) rfl rfl rfl hmefwd ⟨_, rfl, rfl, by decide⟩ ⟨rfl, rfl, rfl⟩ (by decide) [] [] [] rfl ⟨rfl, rfl⟩ (by decide +kernel) xcs_n (by decide +kernel) ?_ (fun H3 r hT3 hf3 hFr3 hr3 hΨ3 => ?_)
        · show xΦwd (xfv []) (zyEl zymx B H2)
          rw [hEE]
          exact ⟨hP1, by omega⟩
        · have hΨ3 : xΨwd (xfv []) (zyEl zymx B H2) (zyEl zymx B H3) r := hΨ3
          have d74_42 : xE (zyEl zymx B H3) 74 42 = xE (zyEl zymx B H2) 74 42 := xFr_E hf3 rfl
          have d75_0 : xE (zyEl zymx B H3) 75 0 = xE (zyEl zymx B H2) 75 0 := xFr_E hf3 rfl
          have d75_1 : xE (zyEl zymx B H3) 75 1 = xE (zyEl zymx B H2) 75 1 := xFr_E hf3 rfl
          have d75_2 : xE (zyEl zymx B H3) 75 2 = xE (zyEl zymx B H2) 75 2 := xFr_E hf3 rfl
          have d84 : ∀ i, xE (zyEl zymx B H3) 84 i = xE (zyEl zymx B H2) 84 i := fun i => xFr_E hf3 rfl
          have hΨ3 : xΨwd (xfv []) (zyEl zymx B s.heap) (zyEl zymx B H3) r := by rw [← hEE]; exact hΨ3
          have hg : xRs (xE (zyEl zymx B s.heap) 84) (xE (zyEl zymx B s.heap) 74 42) (zyEl zymx B H3) (pWs (xE (zyEl zymx B s.heap) 84) (xE (zyEl zymx B s.heap) 74 42) 60 (xE (zyEl zymx B s.heap) 74 39) (uS (xE (zyEl zymx B s.heap) 75) 5 0)) := hΨ3
          rw [s4.1] at hg
          refine ⟨⟨14, by decide⟩, [0], [0], rfl, ⟨by decide +kernel, ⟨rfl, by decide +kernel⟩, (xcs_c rfl xcs_n), (xe_0 xe_n), xkq_n⟩, (by rw [if_neg (by decide)]; exact xst_n), ?_, ?_⟩
          · show xRs (xE (zyEl zymx B s.heap) 84) (xE (zyEl zymx B s.heap) 74 42) (zyEl zymx B H3) (pBody (xE (zyEl zymx B s.heap) 84) (xE (zyEl zymx B s.heap) 74 42) (xE (zyEl zymx B s.heap) 74 38) (xE (zyEl zymx B s.heap) 75))
            unfold pBody
            rw [if_neg n1, if_neg n2, if_neg n3, if_neg n6, if_neg n7, if_pos hw]
            exact hg
          · show 86 < 93
            omega
      · skip
        have ex := List.mem_singleton.mp hx
        subst ex
        obtain ⟨hF, hBd, hM⟩ := hXs
        have g1 : v2 1 = v 1 := hag 1 (by decide)
        have b0 : ((2147483648 : Nat) : Int) ≤ (v2 1) + 2147483648 ∧ (v2 1) + 2147483648 ≤ ((2147483648 : Nat) : Int) := xXb hBd 0 rfl
        have f0 : (v2 1) = 0 := xXf hF 0 rfl
        have e74_36 : xE (zyEl zymx B H2) 74 36 = xE (zyEl zymx B H) 74 36 := xFr_E hfr rfl
        have e74_37 : xE (zyEl zymx B H2) 74 37 = xE (zyEl zymx B H) 74 37 := xFr_E hfr rfl
        have e74_38 : xE (zyEl zymx B H2) 74 38 = xE (zyEl zymx B H) 74 38 := xFr_E hfr rfl
        have e74_39 : xE (zyEl zymx B H2) 74 39 = xE (zyEl zymx B H) 74 39 := xFr_E hfr rfl
        have e74_40 : xE (zyEl zymx B H2) 74 40 = xE (zyEl zymx B H) 74 40 := xFr_E hfr rfl
        have e74_41 : xE (zyEl zymx B H2) 74 41 = xE (zyEl zymx B H) 74 41 := xFr_E hfr rfl
        have e74_42 : xE (zyEl zymx B H2) 74 42 = xE (zyEl zymx B H) 74 42 := xFr_E hfr rfl
        have q74_42 : xE (zyEl zymx B H) 74 42 = xE (zyEl zymx B s.heap) 74 42 := xFr_E hFr0 rfl
        have e75_0 : xE (zyEl zymx B H2) 75 0 = xE (zyEl zymx B H) 75 0 := xFr_E hfr rfl
        have q75_0 : xE (zyEl zymx B H) 75 0 = xE (zyEl zymx B s.heap) 75 0 := xFr_E hFr0 rfl
        have e75_1 : xE (zyEl zymx B H2) 75 1 = xE (zyEl zymx B H) 75 1 := xFr_E hfr rfl
        have q75_1 : xE (zyEl zymx B H) 75 1 = xE (zyEl zymx B s.heap) 75 1 := xFr_E hFr0 rfl
        have e75_2 : xE (zyEl zymx B H2) 75 2 = xE (zyEl zymx B H) 75 2 := xFr_E hfr rfl
        have e84 : ∀ i, xE (zyEl zymx B H2) 84 i = xE (zyEl zymx B H) 84 i := fun i => xFr_E hfr rfl
        have q84 : ∀ i, xE (zyEl zymx B H) 84 i = xE (zyEl zymx B s.heap) 84 i := fun i => xFr_E hFr0 rfl
        have e75 : ∀ i, xE (zyEl zymx B H2) 75 i = xE (zyEl zymx B H) 75 i := fun i => xFr_E hfr rfl
        have y74_42 : ((2147483648 : Nat) : Int) ≤ xE (zyEl zymx B s.heap) 74 42 + 2147483648 ∧ xE (zyEl zymx B s.heap) 74 42 + 2147483648 ≤ ((2147484548 : Nat) : Int) := xTyF hT0 74 42 42 rfl rfl rfl rfl rfl rfl
        have hI : (zyEl zymx B H) = (zyEl zymx B s.heap) ∧ ¬ (tW (xE (zyEl zymx B s.heap) 84) (xE (zyEl zymx B s.heap) 74 42) (xE (zyEl zymx B s.heap) 74 38) [115, 119, 105, 116, 99, 104] = true) ∧ ¬ (tW (xE (zyEl zymx B s.heap) 84) (xE (zyEl zymx B s.heap) 74 42) (xE (zyEl zymx B s.heap) 74 38) [98, 111, 98, 98, 105, 110] = true) ∧ ¬ (tW (xE (zyEl zymx B s.heap) 84) (xE (zyEl zymx B s.heap) 74 42) (xE (zyEl zymx B s.heap) 74 38) [115, 116, 117, 99, 107] = true) ∧ ¬ (tW (xE (zyEl zymx B s.heap) 84) (xE (zyEl zymx B s.heap) 74 42) (xE (zyEl zymx B s.heap) 74 38) [102, 114, 101, 101] = true) ∧ ¬ (tW (xE (zyEl zymx B s.heap) 84) (xE (zyEl zymx B s.heap) 74 42) (xE (zyEl zymx B s.heap) 74 38) [112, 108, 97, 99, 101] = true) ∧ ((v 1) = 1 ↔ tW (xE (zyEl zymx B s.heap) 84) (xE (zyEl zymx B s.heap) 74 42) (xE (zyEl zymx B s.heap) 74 38) [119, 111, 114, 100] = true) := hInv
        have q74_36 : xE (zyEl zymx B H) 74 36 = xE (zyEl zymx B s.heap) 74 36 := by rw [hI.1]
        have q74_37 : xE (zyEl zymx B H) 74 37 = xE (zyEl zymx B s.heap) 74 37 := by rw [hI.1]
        have q74_38 : xE (zyEl zymx B H) 74 38 = xE (zyEl zymx B s.heap) 74 38 := by rw [hI.1]
        have q74_39 : xE (zyEl zymx B H) 74 39 = xE (zyEl zymx B s.heap) 74 39 := by rw [hI.1]
        have q74_40 : xE (zyEl zymx B H) 74 40 = xE (zyEl zymx B s.heap) 74 40 := by rw [hI.1]
        have q74_41 : xE (zyEl zymx B H) 74 41 = xE (zyEl zymx B s.heap) 74 41 := by rw [hI.1]
        have q75_2 : xE (zyEl zymx B H) 75 2 = xE (zyEl zymx B s.heap) 75 2 := by rw [hI.1]
        have q75 : ∀ i, xE (zyEl zymx B H) 75 i = xE (zyEl zymx B s.heap) 75 i := fun i => by rw [hI.1]
        obtain ⟨hE, n1, n2, n3, n6, n7, hw⟩ := hI
        have hEE : (zyEl zymx B H2) = (zyEl zymx B s.heap) := (xFr_n hfr).trans hE
        obtain ⟨hPW, hP1, ⟨hPp, hPs⟩, hPk, hP3, hP4, hP5, hP6⟩ := (show xΦln x0 (zyEl zymx B s.heap) from hΦ)
        obtain ⟨s1, s1b, s2, s3, s4, s5, s6, s7, s8⟩ := xRD_i hPs hPp
        have s4 := s4 hPk
        have hw : ¬ (tW (xE (zyEl zymx B s.heap) 84) (xE (zyEl zymx B s.heap) 74 42) (xE (zyEl zymx B s.heap) 74 38) [119, 111, 114, 100] = true) := fun z => by
          have := hw.mpr z
          omega
        have z74_36 : ((2147483648 : Nat) : Int) ≤ xE (zyEl zymx B H2) 74 36 + 2147483648 ∧ xE (zyEl zymx B H2) 74 36 + 2147483648 ≤ ((2147483657 : Nat) : Int) := xTyF hT2 74 36 36 rfl rfl rfl rfl rfl rfl
        have z74_37 : ((0 : Nat) : Int) ≤ xE (zyEl zymx B H2) 74 37 + 2147483648 ∧ xE (zyEl zymx B H2) 74 37 + 2147483648 ≤ ((4294967295 : Nat) : Int) := xTyF hT2 74 37 37 rfl rfl rfl rfl rfl rfl
        have z74_38 : ((2147483648 : Nat) : Int) ≤ xE (zyEl zymx B H2) 74 38 + 2147483648 ∧ xE (zyEl zymx B H2) 74 38 + 2147483648 ≤ ((2147484548 : Nat) : Int) := xTyF hT2 74 38 38 rfl rfl rfl rfl rfl rfl
        have z74_40 : ((2147483648 : Nat) : Int) ≤ xE (zyEl zymx B H2) 74 40 + 2147483648 ∧ xE (zyEl zymx B H2) 74 40 + 2147483648 ≤ ((2147483652 : Nat) : Int) := xTyF hT2 74 40 40 rfl rfl rfl rfl rfl rfl
        refine xGo hIH hAt hB hv hFr ⟨8, by decide⟩ [0] [0, xE (zyEl zymx B H2) 74 36, xE (zyEl zymx B H2) 74 37, xE (zyEl zymx B H2) 74 38, xE (zyEl zymx B H2) 74 40] rfl ⟨by decide +kernel, ⟨rfl, by decide +kernel⟩, (xcs_c rfl xcs_n), (xe_0 (xe_c (by omega) (by omega) rfl (xe_f (xE_r _ _ _) (xe_c (by omega) (by omega) rfl (xe_c (by omega) (by omega) rfl xe_n))))), (xkq_c hT2 74 36 (q := 36) rfl rfl rfl rfl rfl rfl rfl rfl rfl rfl rfl (xkq_c hT2 74 37 (q := 37) rfl rfl rfl rfl rfl rfl rfl rfl rfl rfl rfl (xkq_c hT2 74 38 (q := 38) rfl rfl rfl rfl rfl rfl rfl rfl rfl rfl rfl (xkq_c hT2 74 40 (q := 40) rfl rfl rfl rfl rfl rfl rfl rfl rfl rfl rfl xkq_n))))⟩ xst_n ?_ ?_
        · show (zyEl zymx B H2) = (zyEl zymx B s.heap) ∧ ¬ (tW (xE (zyEl zymx B s.heap) 84) (xE (zyEl zymx B s.heap) 74 42) (xE (zyEl zymx B s.heap) 74 38) [115, 119, 105, 116, 99, 104] = true) ∧ ¬ (tW (xE (zyEl zymx B s.heap) 84) (xE (zyEl zymx B s.heap) 74 42) (xE (zyEl zymx B s.heap) 74 38) [98, 111, 98, 98, 105, 110] = true) ∧ ¬ (tW (xE (zyEl zymx B s.heap) 84) (xE (zyEl zymx B s.heap) 74 42) (xE (zyEl zymx B s.heap) 74 38) [115, 116, 117, 99, 107] = true) ∧ ¬ (tW (xE (zyEl zymx B s.heap) 84) (xE (zyEl zymx B s.heap) 74 42) (xE (zyEl zymx B s.heap) 74 38) [102, 114, 101, 101] = true) ∧ ¬ (tW (xE (zyEl zymx B s.heap) 84) (xE (zyEl zymx B s.heap) 74 42) (xE (zyEl zymx B s.heap) 74 38) [112, 108, 97, 99, 101] = true) ∧ ¬ (tW (xE (zyEl zymx B s.heap) 84) (xE (zyEl zymx B s.heap) 74 42) (xE (zyEl zymx B s.heap) 74 38) [119, 111, 114, 100] = true)
          exact ⟨hEE, n1, n2, n3, n6, n7, hw⟩
        · show 92 < 93
          omega
    · have hx : x ∈ [zxfli_mx0, zxfli_mx1] := hx
      have hag : ∀ k, k < 5 → v2 k = v k := hag
      have hfr : xFr [(74, 36, 37)] _ _ := hfr
      rcases List.mem_cons.mp hx with ex | hx
      · subst ex
        obtain ⟨hF, hBd, hM⟩ := hXs
        have g1 : v2 1 = v 1 := hag 1 (by decide)
        have g2 : v2 2 = v 2 := hag 2 (by decide)
        have g3 : v2 3 = v 3 := hag 3 (by decide)
        have g4 : v2 4 = v 4 := hag 4 (by decide)
        have b0 : ((2147483648 : Nat) : Int) ≤ (v2 1) + 2147483648 ∧ (v2 1) + 2147483648 ≤ ((2147483648 : Nat) : Int) := xXb hBd 0 rfl
        have b1 : ((2147483648 : Nat) : Int) ≤ (v2 3) + 2147483648 ∧ (v2 3) + 2147483648 ≤ ((2147484548 : Nat) : Int) := xXb hBd 1 rfl
        have b2 : ((2147483648 : Nat) : Int) ≤ (v2 4) + 2147483648 ∧ (v2 4) + 2147483648 ≤ ((2147483651 : Nat) : Int) := xXb hBd 2 rfl
        have k0 : xE (zyEl zymx B H) 74 36 = v 1 := xKcf hKc 0 rfl rfl
        have k1 : xE (zyEl zymx B H) 74 37 = v 2 := xKcf hKc 1 rfl rfl
        have k2 : xE (zyEl zymx B H) 74 38 = v 3 := xKcf hKc 2 rfl rfl
        have k3 : xE (zyEl zymx B H) 74 40 = v 4 := xKcf hKc 3 rfl rfl
        have f0 : (v2 1) ≤ 0 := xXf hF 0 rfl
        have f1 : ¬ (v2 4) = 4 := xXf hF 1 rfl
        have m0 : xE (zyEl zymx B H2) 74 36 = 2 := xXm hM 0 rfl
        have m1 : xE (zyEl zymx B H2) 74 37 = (v2 3) := xXm hM 1 rfl
        have e74_38 : xE (zyEl zymx B H2) 74 38 = xE (zyEl zymx B H) 74 38 := xFr_E hfr rfl
        have e74_39 : xE (zyEl zymx B H2) 74 39 = xE (zyEl zymx B H) 74 39 := xFr_E hfr rfl
        have e74_40 : xE (zyEl zymx B H2) 74 40 = xE (zyEl zymx B H) 74 40 := xFr_E hfr rfl
        have e74_41 : xE (zyEl zymx B H2) 74 41 = xE (zyEl zymx B H) 74 41 := xFr_E hfr rfl
        have e74_42 : xE (zyEl zymx B H2) 74 42 = xE (zyEl zymx B H) 74 42 := xFr_E hfr rfl
        have q74_42 : xE (zyEl zymx B H) 74 42 = xE (zyEl zymx B s.heap) 74 42 := xFr_E hFr0 rfl
        have e75_0 : xE (zyEl zymx B H2) 75 0 = xE (zyEl zymx B H) 75 0 := xFr_E hfr rfl
        have q75_0 : xE (zyEl zymx B H) 75 0 = xE (zyEl zymx B s.heap) 75 0 := xFr_E hFr0 rfl
        have e75_1 : xE (zyEl zymx B H2) 75 1 = xE (zyEl zymx B H) 75 1 := xFr_E hfr rfl
        have q75_1 : xE (zyEl zymx B H) 75 1 = xE (zyEl zymx B s.heap) 75 1 := xFr_E hFr0 rfl
        have e75_2 : xE (zyEl zymx B H2) 75 2 = xE (zyEl zymx B H) 75 2 := xFr_E hfr rfl
        have e84 : ∀ i, xE (zyEl zymx B H2) 84 i = xE (zyEl zymx B H) 84 i := fun i => xFr_E hfr rfl
        have q84 : ∀ i, xE (zyEl zymx B H) 84 i = xE (zyEl zymx B s.heap) 84 i := fun i => xFr_E hFr0 rfl
        have e75 : ∀ i, xE (zyEl zymx B H2) 75 i = xE (zyEl zymx B H) 75 i := fun i => xFr_E hfr rfl
        have y74_42 : ((2147483648 : Nat) : Int) ≤ xE (zyEl zymx B s.heap) 74 42 + 2147483648 ∧ xE (zyEl zymx B s.heap) 74 42 + 2147483648 ≤ ((2147484548 : Nat) : Int) := xTyF hT0 74 42 42 rfl rfl rfl rfl rfl rfl
        have hI : (zyEl zymx B H) = (zyEl zymx B s.heap) ∧ ¬ (tW (xE (zyEl zymx B s.heap) 84) (xE (zyEl zymx B s.heap) 74 42) (xE (zyEl zymx B s.heap) 74 38) [115, 119, 105, 116, 99, 104] = true) ∧ ¬ (tW (xE (zyEl zymx B s.heap) 84) (xE (zyEl zymx B s.heap) 74 42) (xE (zyEl zymx B s.heap) 74 38) [98, 111, 98, 98, 105, 110] = true) ∧ ¬ (tW (xE (zyEl zymx B s.heap) 84) (xE (zyEl zymx B s.heap) 74 42) (xE (zyEl zymx B s.heap) 74 38) [115, 116, 117, 99, 107] = true) ∧ ¬ (tW (xE (zyEl zymx B s.heap) 84) (xE (zyEl zymx B s.heap) 74 42) (xE (zyEl zymx B s.heap) 74 38) [102, 114, 101, 101] = true) ∧ ¬ (tW (xE (zyEl zymx B s.heap) 84) (xE (zyEl zymx B s.heap) 74 42) (xE (zyEl zymx B s.heap) 74 38) [112, 108, 97, 99, 101] = true) ∧ ¬ (tW (xE (zyEl zymx B s.heap) 84) (xE (zyEl zymx B s.heap) 74 42) (xE (zyEl zymx B s.heap) 74 38) [119, 111, 114, 100] = true) := hInv
        have q74_36 : xE (zyEl zymx B H) 74 36 = xE (zyEl zymx B s.heap) 74 36 := by rw [hI.1]
        have q74_37 : xE (zyEl zymx B H) 74 37 = xE (zyEl zymx B s.heap) 74 37 := by rw [hI.1]
        have q74_38 : xE (zyEl zymx B H) 74 38 = xE (zyEl zymx B s.heap) 74 38 := by rw [hI.1]
        have q74_39 : xE (zyEl zymx B H) 74 39 = xE (zyEl zymx B s.heap) 74 39 := by rw [hI.1]
        have q74_40 : xE (zyEl zymx B H) 74 40 = xE (zyEl zymx B s.heap) 74 40 := by rw [hI.1]
        have q74_41 : xE (zyEl zymx B H) 74 41 = xE (zyEl zymx B s.heap) 74 41 := by rw [hI.1]
        have q75_2 : xE (zyEl zymx B H) 75 2 = xE (zyEl zymx B s.heap) 75 2 := by rw [hI.1]
        have q75 : ∀ i, xE (zyEl zymx B H) 75 i = xE (zyEl zymx B s.heap) 75 i := fun i => by rw [hI.1]
        obtain ⟨hE, n1, n2, n3, n6, n7, n8⟩ := hI
        obtain ⟨hPW, hP1, ⟨hPp, hPs⟩, hPk, hP3, hP4, hP5, hP6⟩ := (show xΦln x0 (zyEl zymx B s.heap) from hΦ)
        obtain ⟨s1, s1b, s2, s3, s4, s5, s6, s7, s8⟩ := xRD_i hPs hPp
        have s4 := s4 hPk
        have hBe : pBody (xE (zyEl zymx B s.heap) 84) (xE (zyEl zymx B s.heap) 74 42) (xE (zyEl zymx B s.heap) 74 38) (xE (zyEl zymx B s.heap) 75) = .error (pMis (xE (zyEl zymx B s.heap) 84) (xE (zyEl zymx B s.heap) 74 42) (xE (zyEl zymx B s.heap) 74 38), tFr (xE (zyEl zymx B s.heap) 84) (xE (zyEl zymx B s.heap) 74 42) (xE (zyEl zymx B s.heap) 74 38)) := by
          unfold pBody
          rw [if_neg n1, if_neg n2, if_neg n3, if_neg n6, if_neg n7, if_neg n8]
        have hX : xEr (zyEl zymx B H2) (pBody (xE (zyEl zymx B s.heap) 84) (xE (zyEl zymx B s.heap) 74 42) (xE (zyEl zymx B s.heap) 74 38) (xE (zyEl zymx B s.heap) 75)) := by
          rw [hBe]
          unfold pMis
          by_cases c1 : tKd (xE (zyEl zymx B s.heap) 84) (xE (zyEl zymx B s.heap) 74 42) (xE (zyEl zymx B s.heap) 74 38) = 1
          · rw [if_pos c1]
            first
              | (exfalso; omega)
              | exact xEr_n (by omega) (by omega) (by omega)
          · rw [if_neg c1]
            first
              | (exfalso; omega)
              | exact xEr_n (by omega) (by omega) (by omega)
        have hX1 := hX.1
        refine xCa hRu hIH hAt hB hv hFr (hfis B) (ix := 466) (ax := 5072) rfl rfl rfl hmefis ⟨_, rfl, rfl, by decide⟩ ⟨rfl, rfl, rfl⟩ (by decide) [472] [595] [59] rfl ⟨rfl, rfl⟩ (by decide +kernel) (xcs_c rfl xcs_n) (by decide +kernel) ?_ (fun H3 r hT3 hf3 hFr3 hr3 hΨ3 => ?_)
        · show xΦis (xfv [59]) (zyEl zymx B H2)
          intro q0 q1
          omega
        · have hΨ3 : xΨis (xfv [59]) (zyEl zymx B H2) (zyEl zymx B H3) r := hΨ3
          have d74_36 : xE (zyEl zymx B H3) 74 36 = xE (zyEl zymx B H2) 74 36 := xFr_E hf3 rfl
          have d74_37 : xE (zyEl zymx B H3) 74 37 = xE (zyEl zymx B H2) 74 37 := xFr_E hf3 rfl
          have d74_38 : xE (zyEl zymx B H3) 74 38 = xE (zyEl zymx B H2) 74 38 := xFr_E hf3 rfl
          have d74_39 : xE (zyEl zymx B H3) 74 39 = xE (zyEl zymx B H2) 74 39 := xFr_E hf3 rfl
          have d74_40 : xE (zyEl zymx B H3) 74 40 = xE (zyEl zymx B H2) 74 40 := xFr_E hf3 rfl
          have d74_41 : xE (zyEl zymx B H3) 74 41 = xE (zyEl zymx B H2) 74 41 := xFr_E hf3 rfl
          have d74_42 : xE (zyEl zymx B H3) 74 42 = xE (zyEl zymx B H2) 74 42 := xFr_E hf3 rfl
          have d75_0 : xE (zyEl zymx B H3) 75 0 = xE (zyEl zymx B H2) 75 0 := xFr_E hf3 rfl
          have d75_1 : xE (zyEl zymx B H3) 75 1 = xE (zyEl zymx B H2) 75 1 := xFr_E hf3 rfl
          have d75_2 : xE (zyEl zymx B H3) 75 2 = xE (zyEl zymx B H2) 75 2 := xFr_E hf3 rfl
          have d84 : ∀ i, xE (zyEl zymx B H3) 84 i = xE (zyEl zymx B H2) 84 i := fun i => xFr_E hf3 rfl
          have d75 : ∀ i, xE (zyEl zymx B H3) 75 i = xE (zyEl zymx B H2) 75 i := fun i => xFr_E hf3 rfl
          have hE3 : (zyEl zymx B H3) = (zyEl zymx B H2) := xFr_n hf3
          have hb01 := xIs_b hΨ3
          refine ⟨⟨15, by decide⟩, [0], [0, r], rfl, ⟨by decide +kernel, ⟨rfl, by decide +kernel⟩, (xcs_c rfl xcs_n), (xe_0 (xe_c (by omega) (by omega) rfl xe_n)), xkq_n⟩, (by rw [if_pos rfl]; exact ⟨1, [595], rfl, by decide, rfl, (xst_r rfl xst_n)⟩), ?_, ?_⟩
          · show (xE (zyEl zymx B H3) 74 36 = 0 → ∃ p U, ((p) ≤ (xE (zyEl zymx B s.heap) 74 42) ∧ xRD (xE (zyEl zymx B s.heap) 84) (xE (zyEl zymx B s.heap) 74 42) (p) (zyEl zymx B H3)) ∧ pBody (xE (zyEl zymx B s.heap) 84) (xE (zyEl zymx B s.heap) 74 42) (xE (zyEl zymx B s.heap) 74 38) (xE (zyEl zymx B s.heap) 75) = .ok (p, U) ∧ (∀ k, 0 ≤ k → k < 520 → xE (zyEl zymx B H3) 75 k = U k) ∧ (r : Int) = (if tKd (xE (zyEl zymx B s.heap) 84) (xE (zyEl zymx B s.heap) 74 42) p = 5 then 1 else 0)) ∧ (¬ xE (zyEl zymx B H3) 74 36 = 0 → xEr (zyEl zymx B H3) (pBody (xE (zyEl zymx B s.heap) 84) (xE (zyEl zymx B s.heap) 74 42) (xE (zyEl zymx B s.heap) 74 38) (xE (zyEl zymx B s.heap) 75)))
            refine ⟨fun hz => ?_, fun hz => ?_⟩
            · rw [hE3] at hz
              omega
            · rw [hE3]
              exact hX
          · show 85 < 92
            omega
      · skip
        have ex := List.mem_singleton.mp hx
        subst ex
        obtain ⟨hF, hBd, hM⟩ := hXs
        have g1 : v2 1 = v 1 := hag 1 (by decide)
        have g2 : v2 2 = v 2 := hag 2 (by decide)
        have g3 : v2 3 = v 3 := hag 3 (by decide)
        have g4 : v2 4 = v 4 := hag 4 (by decide)
        have b0 : ((2147483648 : Nat) : Int) ≤ (v2 1) + 2147483648 ∧ (v2 1) + 2147483648 ≤ ((2147483648 : Nat) : Int) := xXb hBd 0 rfl
        have b1 : ((2147483648 : Nat) : Int) ≤ (v2 3) + 2147483648 ∧ (v2 3) + 2147483648 ≤ ((2147484548 : Nat) : Int) := xXb hBd 1 rfl
        have b2 : ((2147483652 : Nat) : Int) ≤ (v2 4) + 2147483648 ∧ (v2 4) + 2147483648 ≤ ((2147483652 : Nat) : Int) := xXb hBd 2 rfl
        have k0 : xE (zyEl zymx B H) 74 36 = v 1 := xKcf hKc 0 rfl rfl
        have k1 : xE (zyEl zymx B H) 74 37 = v 2 := xKcf hKc 1 rfl rfl
        have k2 : xE (zyEl zymx B H) 74 38 = v 3 := xKcf hKc 2 rfl rfl
        have k3 : xE (zyEl zymx B H) 74 40 = v 4 := xKcf hKc 3 rfl rfl
        have f0 : (v2 1) ≤ 0 := xXf hF 0 rfl
        have f1 : (v2 4) = 4 := xXf hF 1 rfl
        have m0 : xE (zyEl zymx B H2) 74 36 = 1 := xXm hM 0 rfl
        have m1 : xE (zyEl zymx B H2) 74 37 = (v2 3) := xXm hM 1 rfl
        have e74_38 : xE (zyEl zymx B H2) 74 38 = xE (zyEl zymx B H) 74 38 := xFr_E hfr rfl
        have e74_39 : xE (zyEl zymx B H2) 74 39 = xE (zyEl zymx B H) 74 39 := xFr_E hfr rfl
        have e74_40 : xE (zyEl zymx B H2) 74 40 = xE (zyEl zymx B H) 74 40 := xFr_E hfr rfl
        have e74_41 : xE (zyEl zymx B H2) 74 41 = xE (zyEl zymx B H) 74 41 := xFr_E hfr rfl
        have e74_42 : xE (zyEl zymx B H2) 74 42 = xE (zyEl zymx B H) 74 42 := xFr_E hfr rfl
        have q74_42 : xE (zyEl zymx B H) 74 42 = xE (zyEl zymx B s.heap) 74 42 := xFr_E hFr0 rfl
        have e75_0 : xE (zyEl zymx B H2) 75 0 = xE (zyEl zymx B H) 75 0 := xFr_E hfr rfl
        have q75_0 : xE (zyEl zymx B H) 75 0 = xE (zyEl zymx B s.heap) 75 0 := xFr_E hFr0 rfl
        have e75_1 : xE (zyEl zymx B H2) 75 1 = xE (zyEl zymx B H) 75 1 := xFr_E hfr rfl
        have q75_1 : xE (zyEl zymx B H) 75 1 = xE (zyEl zymx B s.heap) 75 1 := xFr_E hFr0 rfl
        have e75_2 : xE (zyEl zymx B H2) 75 2 = xE (zyEl zymx B H) 75 2 := xFr_E hfr rfl
        have e84 : ∀ i, xE (zyEl zymx B H2) 84 i = xE (zyEl zymx B H) 84 i := fun i => xFr_E hfr rfl
        have q84 : ∀ i, xE (zyEl zymx B H) 84 i = xE (zyEl zymx B s.heap) 84 i := fun i => xFr_E hFr0 rfl
        have e75 : ∀ i, xE (zyEl zymx B H2) 75 i = xE (zyEl zymx B H) 75 i := fun i => xFr_E hfr rfl
        have y74_42 : ((2147483648 : Nat) : Int) ≤ xE (zyEl zymx B s.heap) 74 42 + 2147483648 ∧ xE (zyEl zymx B s.heap) 74 42 + 2147483648 ≤ ((2147484548 : Nat) : Int) := xTyF hT0 74 42 42 rfl rfl rfl rfl rfl rfl
        have hI : (zyEl zymx B H) = (zyEl zymx B s.heap) ∧ ¬ (tW (xE (zyEl zymx B s.heap) 84) (xE (zyEl zymx B s.heap) 74 42) (xE (zyEl zymx B s.heap) 74 38) [115, 119, 105, 116, 99, 104] = true) ∧ ¬ (tW (xE (zyEl zymx B s.heap) 84) (xE (zyEl zymx B s.heap) 74 42) (xE (zyEl zymx B s.heap) 74 38) [98, 111, 98, 98, 105, 110] = true) ∧ ¬ (tW (xE (zyEl zymx B s.heap) 84) (xE (zyEl zymx B s.heap) 74 42) (xE (zyEl zymx B s.heap) 74 38) [115, 116, 117, 99, 107] = true) ∧ ¬ (tW (xE (zyEl zymx B s.heap) 84) (xE (zyEl zymx B s.heap) 74 42) (xE (zyEl zymx B s.heap) 74 38) [102, 114, 101, 101] = true) ∧ ¬ (tW (xE (zyEl zymx B s.heap) 84) (xE (zyEl zymx B s.heap) 74 42) (xE (zyEl zymx B s.heap) 74 38) [112, 108, 97, 99, 101] = true) ∧ ¬ (tW (xE (zyEl zymx B s.heap) 84) (xE (zyEl zymx B s.heap) 74 42) (xE (zyEl zymx B s.heap) 74 38) [119, 111, 114, 100] = true) := hInv
        have q74_36 : xE (zyEl zymx B H) 74 36 = xE (zyEl zymx B s.heap) 74 36 := by rw [hI.1]
        have q74_37 : xE (zyEl zymx B H) 74 37 = xE (zyEl zymx B s.heap) 74 37 := by rw [hI.1]
        have q74_38 : xE (zyEl zymx B H) 74 38 = xE (zyEl zymx B s.heap) 74 38 := by rw [hI.1]
        have q74_39 : xE (zyEl zymx B H) 74 39 = xE (zyEl zymx B s.heap) 74 39 := by rw [hI.1]
        have q74_40 : xE (zyEl zymx B H) 74 40 = xE (zyEl zymx B s.heap) 74 40 := by rw [hI.1]
        have q74_41 : xE (zyEl zymx B H) 74 41 = xE (zyEl zymx B s.heap) 74 41 := by rw [hI.1]
        have q75_2 : xE (zyEl zymx B H) 75 2 = xE (zyEl zymx B s.heap) 75 2 := by rw [hI.1]
        have q75 : ∀ i, xE (zyEl zymx B H) 75 i = xE (zyEl zymx B s.heap) 75 i := fun i => by rw [hI.1]
        obtain ⟨hE, n1, n2, n3, n6, n7, n8⟩ := hI
        obtain ⟨hPW, hP1, ⟨hPp, hPs⟩, hPk, hP3, hP4, hP5, hP6⟩ := (show xΦln x0 (zyEl zymx B s.heap) from hΦ)
        obtain ⟨s1, s1b, s2, s3, s4, s5, s6, s7, s8⟩ := xRD_i hPs hPp
        have s4 := s4 hPk
        have hBe : pBody (xE (zyEl zymx B s.heap) 84) (xE (zyEl zymx B s.heap) 74 42) (xE (zyEl zymx B s.heap) 74 38) (xE (zyEl zymx B s.heap) 75) = .error (pMis (xE (zyEl zymx B s.heap) 84) (xE (zyEl zymx B s.heap) 74 42) (xE (zyEl zymx B s.heap) 74 38), tFr (xE (zyEl zymx B s.heap) 84) (xE (zyEl zymx B s.heap) 74 42) (xE (zyEl zymx B s.heap) 74 38)) := by
          unfold pBody
          rw [if_neg n1, if_neg n2, if_neg n3, if_neg n6, if_neg n7, if_neg n8]
        have hX : xEr (zyEl zymx B H2) (pBody (xE (zyEl zymx B s.heap) 84) (xE (zyEl zymx B s.heap) 74 42) (xE (zyEl zymx B s.heap) 74 38) (xE (zyEl zymx B s.heap) 75)) := by
          rw [hBe]
          unfold pMis
          by_cases c1 : tKd (xE (zyEl zymx B s.heap) 84) (xE (zyEl zymx B s.heap) 74 42) (xE (zyEl zymx B s.heap) 74 38) = 1
          · rw [if_pos c1]
            first
              | (exfalso; omega)
              | exact xEr_n (by omega) (by omega) (by omega)
          · rw [if_neg c1]
            first
              | (exfalso; omega)
              | exact xEr_n (by omega) (by omega) (by omega)
        have hX1 := hX.1
        refine xCa hRu hIH hAt hB hv hFr (hfis B) (ix := 466) (ax := 5072) rfl rfl rfl hmefis ⟨_, rfl, rfl, by decide⟩ ⟨rfl, rfl, rfl⟩ (by decide) [472] [595] [59] rfl ⟨rfl, rfl⟩ (by decide +kernel) (xcs_c rfl xcs_n) (by decide +kernel) ?_ (fun H3 r hT3 hf3 hFr3 hr3 hΨ3 => ?_)
        · show xΦis (xfv [59]) (zyEl zymx B H2)
          intro q0 q1
          omega
        · have hΨ3 : xΨis (xfv [59]) (zyEl zymx B H2) (zyEl zymx B H3) r := hΨ3
          have d74_36 : xE (zyEl zymx B H3) 74 36 = xE (zyEl zymx B H2) 74 36 := xFr_E hf3 rfl
          have d74_37 : xE (zyEl zymx B H3) 74 37 = xE (zyEl zymx B H2) 74 37 := xFr_E hf3 rfl
          have d74_38 : xE (zyEl zymx B H3) 74 38 = xE (zyEl zymx B H2) 74 38 := xFr_E hf3 rfl
          have d74_39 : xE (zyEl zymx B H3) 74 39 = xE (zyEl zymx B H2) 74 39 := xFr_E hf3 rfl
          have d74_40 : xE (zyEl zymx B H3) 74 40 = xE (zyEl zymx B H2) 74 40 := xFr_E hf3 rfl
          have d74_41 : xE (zyEl zymx B H3) 74 41 = xE (zyEl zymx B H2) 74 41 := xFr_E hf3 rfl
          have d74_42 : xE (zyEl zymx B H3) 74 42 = xE (zyEl zymx B H2) 74 42 := xFr_E hf3 rfl
          have d75_0 : xE (zyEl zymx B H3) 75 0 = xE (zyEl zymx B H2) 75 0 := xFr_E hf3 rfl
          have d75_1 : xE (zyEl zymx B H3) 75 1 = xE (zyEl zymx B H2) 75 1 := xFr_E hf3 rfl
          have d75_2 : xE (zyEl zymx B H3) 75 2 = xE (zyEl zymx B H2) 75 2 := xFr_E hf3 rfl
          have d84 : ∀ i, xE (zyEl zymx B H3) 84 i = xE (zyEl zymx B H2) 84 i := fun i => xFr_E hf3 rfl
          have d75 : ∀ i, xE (zyEl zymx B H3) 75 i = xE (zyEl zymx B H2) 75 i := fun i => xFr_E hf3 rfl
          have hE3 : (zyEl zymx B H3) = (zyEl zymx B H2) := xFr_n hf3
          have hb01 := xIs_b hΨ3
          refine ⟨⟨15, by decide⟩, [0], [0, r], rfl, ⟨by decide +kernel, ⟨rfl, by decide +kernel⟩, (xcs_c rfl xcs_n), (xe_0 (xe_c (by omega) (by omega) rfl xe_n)), xkq_n⟩, (by rw [if_pos rfl]; exact ⟨1, [595], rfl, by decide, rfl, (xst_r rfl xst_n)⟩), ?_, ?_⟩
          · show (xE (zyEl zymx B H3) 74 36 = 0 → ∃ p U, ((p) ≤ (xE (zyEl zymx B s.heap) 74 42) ∧ xRD (xE (zyEl zymx B s.heap) 84) (xE (zyEl zymx B s.heap) 74 42) (p) (zyEl zymx B H3)) ∧ pBody (xE (zyEl zymx B s.heap) 84) (xE (zyEl zymx B s.heap) 74 42) (xE (zyEl zymx B s.heap) 74 38) (xE (zyEl zymx B s.heap) 75) = .ok (p, U) ∧ (∀ k, 0 ≤ k → k < 520 → xE (zyEl zymx B H3) 75 k = U k) ∧ (r : Int) = (if tKd (xE (zyEl zymx B s.heap) 84) (xE (zyEl zymx B s.heap) 74 42) p = 5 then 1 else 0)) ∧ (¬ xE (zyEl zymx B H3) 74 36 = 0 → xEr (zyEl zymx B H3) (pBody (xE (zyEl zymx B s.heap) 84) (xE (zyEl zymx B s.heap) 74 42) (xE (zyEl zymx B s.heap) 74 38) (xE (zyEl zymx B s.heap) 75)))
            refine ⟨fun hz => ?_, fun hz => ?_⟩
            · rw [hE3] at hz
              omega
            · rw [hE3]
              exact hX
          · show 85 < 92
            omega
    · have hx : x ∈ [zxfli_k1x0] := hx
      have hag : ∀ k, k < 1 → v2 k = v k := hag
      have hfr : xFr [] _ _ := hfr
      have ex := List.mem_singleton.mp hx
      subst ex
      obtain ⟨hF, hBd, hM⟩ := hXs
      have e74_36 : xE (zyEl zymx B H2) 74 36 = xE (zyEl zymx B H) 74 36 := xFr_E hfr rfl
      have e74_37 : xE (zyEl zymx B H2) 74 37 = xE (zyEl zymx B H) 74 37 := xFr_E hfr rfl
      have e74_38 : xE (zyEl zymx B H2) 74 38 = xE (zyEl zymx B H) 74 38 := xFr_E hfr rfl
      have e74_39 : xE (zyEl zymx B H2) 74 39 = xE (zyEl zymx B H) 74 39 := xFr_E hfr rfl
      have e74_40 : xE (zyEl zymx B H2) 74 40 = xE (zyEl zymx B H) 74 40 := xFr_E hfr rfl
      have e74_41 : xE (zyEl zymx B H2) 74 41 = xE (zyEl zymx B H) 74 41 := xFr_E hfr rfl
      have e74_42 : xE (zyEl zymx B H2) 74 42 = xE (zyEl zymx B H) 74 42 := xFr_E hfr rfl
      have q74_42 : xE (zyEl zymx B H) 74 42 = xE (zyEl zymx B s.heap) 74 42 := xFr_E hFr0 rfl
      have e75_0 : xE (zyEl zymx B H2) 75 0 = xE (zyEl zymx B H) 75 0 := xFr_E hfr rfl
      have q75_0 : xE (zyEl zymx B H) 75 0 = xE (zyEl zymx B s.heap) 75 0 := xFr_E hFr0 rfl
      have e75_1 : xE (zyEl zymx B H2) 75 1 = xE (zyEl zymx B H) 75 1 := xFr_E hfr rfl
      have q75_1 : xE (zyEl zymx B H) 75 1 = xE (zyEl zymx B s.heap) 75 1 := xFr_E hFr0 rfl
      have e75_2 : xE (zyEl zymx B H2) 75 2 = xE (zyEl zymx B H) 75 2 := xFr_E hfr rfl
      have e84 : ∀ i, xE (zyEl zymx B H2) 84 i = xE (zyEl zymx B H) 84 i := fun i => xFr_E hfr rfl
      have q84 : ∀ i, xE (zyEl zymx B H) 84 i = xE (zyEl zymx B s.heap) 84 i := fun i => xFr_E hFr0 rfl
      have e75 : ∀ i, xE (zyEl zymx B H2) 75 i = xE (zyEl zymx B H) 75 i := fun i => xFr_E hfr rfl
      have y74_42 : ((2147483648 : Nat) : Int) ≤ xE (zyEl zymx B s.heap) 74 42 + 2147483648 ∧ xE (zyEl zymx B s.heap) 74 42 + 2147483648 ≤ ((2147484548 : Nat) : Int) := xTyF hT0 74 42 42 rfl rfl rfl rfl rfl rfl
      have hI : xRs (xE (zyEl zymx B s.heap) 84) (xE (zyEl zymx B s.heap) 74 42) (zyEl zymx B H) (pBody (xE (zyEl zymx B s.heap) 84) (xE (zyEl zymx B s.heap) 74 42) (xE (zyEl zymx B s.heap) 74 38) (xE (zyEl zymx B s.heap) 75)) := hInv
      have hEE : (zyEl zymx B H2) = (zyEl zymx B H) := xFr_n hfr
      have hI2 : xRs (xE (zyEl zymx B s.heap) 84) (xE (zyEl zymx B s.heap) 74 42) (zyEl zymx B H2) (pBody (xE (zyEl zymx B s.heap) 84) (xE (zyEl zymx B s.heap) 74 42) (xE (zyEl zymx B s.heap) 74 38) (xE (zyEl zymx B s.heap) 75)) := by rw [hEE]; exact hI
      refine xCa hRu hIH hAt hB hv hFr (hfis B) (ix := 466) (ax := 5072) rfl rfl rfl hmefis ⟨_, rfl, rfl, by decide⟩ ⟨rfl, rfl, rfl⟩ (by decide) [472] [595] [59] rfl ⟨rfl, rfl⟩ (by decide +kernel) (xcs_c rfl xcs_n) (by decide +kernel) ?_ (fun H3 r hT3 hf3 hFr3 hr3 hΨ3 => ?_)
      · show xΦis (xfv [59]) (zyEl zymx B H2)
        intro hw q1
        obtain ⟨p, U, hU, hp, hs, hu⟩ := xRs_o hI2 hw
        obtain ⟨s1, s1b, s2, s3, s4, s5, s6, s7, s8⟩ := xRD_i hs hp
        omega
      · have hΨ3 : xΨis (xfv [59]) (zyEl zymx B H2) (zyEl zymx B H3) r := hΨ3
        have d74_36 : xE (zyEl zymx B H3) 74 36 = xE (zyEl zymx B H2) 74 36 := xFr_E hf3 rfl
        have d74_37 : xE (zyEl zymx B H3) 74 37 = xE (zyEl zymx B H2) 74 37 := xFr_E hf3 rfl
        have d74_38 : xE (zyEl zymx B H3) 74 38 = xE (zyEl zymx B H2) 74 38 := xFr_E hf3 rfl
        have d74_39 : xE (zyEl zymx B H3) 74 39 = xE (zyEl zymx B H2) 74 39 := xFr_E hf3 rfl
        have d74_40 : xE (zyEl zymx B H3) 74 40 = xE (zyEl zymx B H2) 74 40 := xFr_E hf3 rfl
        have d74_41 : xE (zyEl zymx B H3) 74 41 = xE (zyEl zymx B H2) 74 41 := xFr_E hf3 rfl
        have d74_42 : xE (zyEl zymx B H3) 74 42 = xE (zyEl zymx B H2) 74 42 := xFr_E hf3 rfl
        have d75_0 : xE (zyEl zymx B H3) 75 0 = xE (zyEl zymx B H2) 75 0 := xFr_E hf3 rfl
        have d75_1 : xE (zyEl zymx B H3) 75 1 = xE (zyEl zymx B H2) 75 1 := xFr_E hf3 rfl
        have d75_2 : xE (zyEl zymx B H3) 75 2 = xE (zyEl zymx B H2) 75 2 := xFr_E hf3 rfl
        have d84 : ∀ i, xE (zyEl zymx B H3) 84 i = xE (zyEl zymx B H2) 84 i := fun i => xFr_E hf3 rfl
        have d75 : ∀ i, xE (zyEl zymx B H3) 75 i = xE (zyEl zymx B H2) 75 i := fun i => xFr_E hf3 rfl
        have hE3 : (zyEl zymx B H3) = (zyEl zymx B H2) := xFr_n hf3
        have hb01 := xIs_b hΨ3
        refine ⟨⟨15, by decide⟩, [0], [0, r], rfl, ⟨by decide +kernel, ⟨rfl, by decide +kernel⟩, (xcs_c rfl xcs_n), (xe_0 (xe_c (by omega) (by omega) rfl xe_n)), xkq_n⟩, (by rw [if_pos rfl]; exact ⟨1, [595], rfl, by decide, rfl, (xst_r rfl xst_n)⟩), ?_, ?_⟩
        · show (xE (zyEl zymx B H3) 74 36 = 0 → ∃ p U, ((p) ≤ (xE (zyEl zymx B s.heap) 74 42) ∧ xRD (xE (zyEl zymx B s.heap) 84) (xE (zyEl zymx B s.heap) 74 42) (p) (zyEl zymx B H3)) ∧ pBody (xE (zyEl zymx B s.heap) 84) (xE (zyEl zymx B s.heap) 74 42) (xE (zyEl zymx B s.heap) 74 38) (xE (zyEl zymx B s.heap) 75) = .ok (p, U) ∧ (∀ k, 0 ≤ k → k < 520 → xE (zyEl zymx B H3) 75 k = U k) ∧ (r : Int) = (if tKd (xE (zyEl zymx B s.heap) 84) (xE (zyEl zymx B s.heap) 74 42) p = 5 then 1 else 0)) ∧ (¬ xE (zyEl zymx B H3) 74 36 = 0 → xEr (zyEl zymx B H3) (pBody (xE (zyEl zymx B s.heap) 84) (xE (zyEl zymx B s.heap) 74 42) (xE (zyEl zymx B s.heap) 74 38) (xE (zyEl zymx B s.heap) 75)))
          refine ⟨fun hz => ?_, fun hz => ?_⟩
          · rw [hE3] at hz
            obtain ⟨p, U, hU, hp, hs, hu⟩ := xRs_o hI2 hz
            have hr : r = if tKd (xE (zyEl zymx B s.heap) 84) (xE (zyEl zymx B s.heap) 74 42) p = 5 then 1 else 0 := (xIs_g (x := xfv [59]) hΨ3 hz hs hp (fun i => (e84 i).trans (q84 i))).2 rfl
            rw [hE3]
            exact ⟨p, U, ⟨hp, hs⟩, hU, hu, hr⟩
          · rw [hE3] at hz ⊢
            exact xRs_r hI2 hz
        · show 85 < 91
          omega
    · have hx : x ∈ [zxfli_k2x0] := hx
      have hag : ∀ k, k < 1 → v2 k = v k := hag
      have hfr : xFr [] _ _ := hfr
      have ex := List.mem_singleton.mp hx
      subst ex
      obtain ⟨hF, hBd, hM⟩ := hXs
      have e74_36 : xE (zyEl zymx B H2) 74 36 = xE (zyEl zymx B H) 74 36 := xFr_E hfr rfl
      have e74_37 : xE (zyEl zymx B H2) 74 37 = xE (zyEl zymx B H) 74 37 := xFr_E hfr rfl
      have e74_38 : xE (zyEl zymx B H2) 74 38 = xE (zyEl zymx B H) 74 38 := xFr_E hfr rfl
      have e74_39 : xE (zyEl zymx B H2) 74 39 = xE (zyEl zymx B H) 74 39 := xFr_E hfr rfl
      have e74_40 : xE (zyEl zymx B H2) 74 40 = xE (zyEl zymx B H) 74 40 := xFr_E hfr rfl
      have e74_41 : xE (zyEl zymx B H2) 74 41 = xE (zyEl zymx B H) 74 41 := xFr_E hfr rfl
      have e74_42 : xE (zyEl zymx B H2) 74 42 = xE (zyEl zymx B H) 74 42 := xFr_E hfr rfl
      have q74_42 : xE (zyEl zymx B H) 74 42 = xE (zyEl zymx B s.heap) 74 42 := xFr_E hFr0 rfl
      have e75_0 : xE (zyEl zymx B H2) 75 0 = xE (zyEl zymx B H) 75 0 := xFr_E hfr rfl
      have q75_0 : xE (zyEl zymx B H) 75 0 = xE (zyEl zymx B s.heap) 75 0 := xFr_E hFr0 rfl
      have e75_1 : xE (zyEl zymx B H2) 75 1 = xE (zyEl zymx B H) 75 1 := xFr_E hfr rfl
      have q75_1 : xE (zyEl zymx B H) 75 1 = xE (zyEl zymx B s.heap) 75 1 := xFr_E hFr0 rfl
      have e75_2 : xE (zyEl zymx B H2) 75 2 = xE (zyEl zymx B H) 75 2 := xFr_E hfr rfl
      have e84 : ∀ i, xE (zyEl zymx B H2) 84 i = xE (zyEl zymx B H) 84 i := fun i => xFr_E hfr rfl
      have q84 : ∀ i, xE (zyEl zymx B H) 84 i = xE (zyEl zymx B s.heap) 84 i := fun i => xFr_E hFr0 rfl
      have e75 : ∀ i, xE (zyEl zymx B H2) 75 i = xE (zyEl zymx B H) 75 i := fun i => xFr_E hfr rfl
      have y74_42 : ((2147483648 : Nat) : Int) ≤ xE (zyEl zymx B s.heap) 74 42 + 2147483648 ∧ xE (zyEl zymx B s.heap) 74 42 + 2147483648 ≤ ((2147484548 : Nat) : Int) := xTyF hT0 74 42 42 rfl rfl rfl rfl rfl rfl
      have hI : xRs (xE (zyEl zymx B s.heap) 84) (xE (zyEl zymx B s.heap) 74 42) (zyEl zymx B H) (pBody (xE (zyEl zymx B s.heap) 84) (xE (zyEl zymx B s.heap) 74 42) (xE (zyEl zymx B s.heap) 74 38) (xE (zyEl zymx B s.heap) 75)) := hInv
      have hEE : (zyEl zymx B H2) = (zyEl zymx B H) := xFr_n hfr
      have hI2 : xRs (xE (zyEl zymx B s.heap) 84) (xE (zyEl zymx B s.heap) 74 42) (zyEl zymx B H2) (pBody (xE (zyEl zymx B s.heap) 84) (xE (zyEl zymx B s.heap) 74 42) (xE (zyEl zymx B s.heap) 74 38) (xE (zyEl zymx B s.heap) 75)) := by rw [hEE]; exact hI
      refine xCa hRu hIH hAt hB hv hFr (hfis B) (ix := 466) (ax := 5072) rfl rfl rfl hmefis ⟨_, rfl, rfl, by decide⟩ ⟨rfl, rfl, rfl⟩ (by decide) [472] [595] [59] rfl ⟨rfl, rfl⟩ (by decide +kernel) (xcs_c rfl xcs_n) (by decide +kernel) ?_ (fun H3 r hT3 hf3 hFr3 hr3 hΨ3 => ?_)
      · show xΦis (xfv [59]) (zyEl zymx B H2)
        intro hw q1
        obtain ⟨p, U, hU, hp, hs, hu⟩ := xRs_o hI2 hw
        obtain ⟨s1, s1b, s2, s3, s4, s5, s6, s7, s8⟩ := xRD_i hs hp
        omega
      · have hΨ3 : xΨis (xfv [59]) (zyEl zymx B H2) (zyEl zymx B H3) r := hΨ3
        have d74_36 : xE (zyEl zymx B H3) 74 36 = xE (zyEl zymx B H2) 74 36 := xFr_E hf3 rfl
        have d74_37 : xE (zyEl zymx B H3) 74 37 = xE (zyEl zymx B H2) 74 37 := xFr_E hf3 rfl
        have d74_38 : xE (zyEl zymx B H3) 74 38 = xE (zyEl zymx B H2) 74 38 := xFr_E hf3 rfl
        have d74_39 : xE (zyEl zymx B H3) 74 39 = xE (zyEl zymx B H2) 74 39 := xFr_E hf3 rfl
        have d74_40 : xE (zyEl zymx B H3) 74 40 = xE (zyEl zymx B H2) 74 40 := xFr_E hf3 rfl
        have d74_41 : xE (zyEl zymx B H3) 74 41 = xE (zyEl zymx B H2) 74 41 := xFr_E hf3 rfl
        have d74_42 : xE (zyEl zymx B H3) 74 42 = xE (zyEl zymx B H2) 74 42 := xFr_E hf3 rfl
        have d75_0 : xE (zyEl zymx B H3) 75 0 = xE (zyEl zymx B H2) 75 0 := xFr_E hf3 rfl
        have d75_1 : xE (zyEl zymx B H3) 75 1 = xE (zyEl zymx B H2) 75 1 := xFr_E hf3 rfl
        have d75_2 : xE (zyEl zymx B H3) 75 2 = xE (zyEl zymx B H2) 75 2 := xFr_E hf3 rfl
        have d84 : ∀ i, xE (zyEl zymx B H3) 84 i = xE (zyEl zymx B H2) 84 i := fun i => xFr_E hf3 rfl
        have d75 : ∀ i, xE (zyEl zymx B H3) 75 i = xE (zyEl zymx B H2) 75 i := fun i => xFr_E hf3 rfl
        have hE3 : (zyEl zymx B H3) = (zyEl zymx B H2) := xFr_n hf3
        have hb01 := xIs_b hΨ3
        refine ⟨⟨15, by decide⟩, [0], [0, r], rfl, ⟨by decide +kernel, ⟨rfl, by decide +kernel⟩, (xcs_c rfl xcs_n), (xe_0 (xe_c (by omega) (by omega) rfl xe_n)), xkq_n⟩, (by rw [if_pos rfl]; exact ⟨1, [595], rfl, by decide, rfl, (xst_r rfl xst_n)⟩), ?_, ?_⟩
        · show (xE (zyEl zymx B H3) 74 36 = 0 → ∃ p U, ((p) ≤ (xE (zyEl zymx B s.heap) 74 42) ∧ xRD (xE (zyEl zymx B s.heap) 84) (xE (zyEl zymx B s.heap) 74 42) (p) (zyEl zymx B H3)) ∧ pBody (xE (zyEl zymx B s.heap) 84) (xE (zyEl zymx B s.heap) 74 42) (xE (zyEl zymx B s.heap) 74 38) (xE (zyEl zymx B s.heap) 75) = .ok (p, U) ∧ (∀ k, 0 ≤ k → k < 520 → xE (zyEl zymx B H3) 75 k = U k) ∧ (r : Int) = (if tKd (xE (zyEl zymx B s.heap) 84) (xE (zyEl zymx B s.heap) 74 42) p = 5 then 1 else 0)) ∧ (¬ xE (zyEl zymx B H3) 74 36 = 0 → xEr (zyEl zymx B H3) (pBody (xE (zyEl zymx B s.heap) 84) (xE (zyEl zymx B s.heap) 74 42) (xE (zyEl zymx B s.heap) 74 38) (xE (zyEl zymx B s.heap) 75)))
          refine ⟨fun hz => ?_, fun hz => ?_⟩
          · rw [hE3] at hz
            obtain ⟨p, U, hU, hp, hs, hu⟩ := xRs_o hI2 hz
            have hr : r = if tKd (xE (zyEl zymx B s.heap) 84) (xE (zyEl zymx B s.heap) 74 42) p = 5 then 1 else 0 := (xIs_g (x := xfv [59]) hΨ3 hz hs hp (fun i => (e84 i).trans (q84 i))).2 rfl
            rw [hE3]
            exact ⟨p, U, ⟨hp, hs⟩, hU, hu, hr⟩
          · rw [hE3] at hz ⊢
            exact xRs_r hI2 hz
        · show 85 < 90
          omega
    · have hx : x ∈ [zxfli_k3x0] := hx
      have hag : ∀ k, k < 1 → v2 k = v k := hag
      have hfr : xFr [] _ _ := hfr
      have ex := List.mem_singleton.mp hx
      subst ex
      obtain ⟨hF, hBd, hM⟩ := hXs
      have e74_36 : xE (zyEl zymx B H2) 74 36 = xE (zyEl zymx B H) 74 36 := xFr_E hfr rfl
      have e74_37 : xE (zyEl zymx B H2) 74 37 = xE (zyEl zymx B H) 74 37 := xFr_E hfr rfl
      have e74_38 : xE (zyEl zymx B H2) 74 38 = xE (zyEl zymx B H) 74 38 := xFr_E hfr rfl
      have e74_39 : xE (zyEl zymx B H2) 74 39 = xE (zyEl zymx B H) 74 39 := xFr_E hfr rfl
      have e74_40 : xE (zyEl zymx B H2) 74 40 = xE (zyEl zymx B H) 74 40 := xFr_E hfr rfl
      have e74_41 : xE (zyEl zymx B H2) 74 41 = xE (zyEl zymx B H) 74 41 := xFr_E hfr rfl
      have e74_42 : xE (zyEl zymx B H2) 74 42 = xE (zyEl zymx B H) 74 42 := xFr_E hfr rfl
      have q74_42 : xE (zyEl zymx B H) 74 42 = xE (zyEl zymx B s.heap) 74 42 := xFr_E hFr0 rfl
      have e75_0 : xE (zyEl zymx B H2) 75 0 = xE (zyEl zymx B H) 75 0 := xFr_E hfr rfl
      have q75_0 : xE (zyEl zymx B H) 75 0 = xE (zyEl zymx B s.heap) 75 0 := xFr_E hFr0 rfl
      have e75_1 : xE (zyEl zymx B H2) 75 1 = xE (zyEl zymx B H) 75 1 := xFr_E hfr rfl
      have q75_1 : xE (zyEl zymx B H) 75 1 = xE (zyEl zymx B s.heap) 75 1 := xFr_E hFr0 rfl
      have e75_2 : xE (zyEl zymx B H2) 75 2 = xE (zyEl zymx B H) 75 2 := xFr_E hfr rfl
      have e84 : ∀ i, xE (zyEl zymx B H2) 84 i = xE (zyEl zymx B H) 84 i := fun i => xFr_E hfr rfl
      have q84 : ∀ i, xE (zyEl zymx B H) 84 i = xE (zyEl zymx B s.heap) 84 i := fun i => xFr_E hFr0 rfl
      have e75 : ∀ i, xE (zyEl zymx B H2) 75 i = xE (zyEl zymx B H) 75 i := fun i => xFr_E hfr rfl
      have y74_42 : ((2147483648 : Nat) : Int) ≤ xE (zyEl zymx B s.heap) 74 42 + 2147483648 ∧ xE (zyEl zymx B s.heap) 74 42 + 2147483648 ≤ ((2147484548 : Nat) : Int) := xTyF hT0 74 42 42 rfl rfl rfl rfl rfl rfl
      have hI : xRs (xE (zyEl zymx B s.heap) 84) (xE (zyEl zymx B s.heap) 74 42) (zyEl zymx B H) (pBody (xE (zyEl zymx B s.heap) 84) (xE (zyEl zymx B s.heap) 74 42) (xE (zyEl zymx B s.heap) 74 38) (xE (zyEl zymx B s.heap) 75)) := hInv
      have hEE : (zyEl zymx B H2) = (zyEl zymx B H) := xFr_n hfr
      have hI2 : xRs (xE (zyEl zymx B s.heap) 84) (xE (zyEl zymx B s.heap) 74 42) (zyEl zymx B H2) (pBody (xE (zyEl zymx B s.heap) 84) (xE (zyEl zymx B s.heap) 74 42) (xE (zyEl zymx B s.heap) 74 38) (xE (zyEl zymx B s.heap) 75)) := by rw [hEE]; exact hI
      refine xCa hRu hIH hAt hB hv hFr (hfis B) (ix := 466) (ax := 5072) rfl rfl rfl hmefis ⟨_, rfl, rfl, by decide⟩ ⟨rfl, rfl, rfl⟩ (by decide) [472] [595] [59] rfl ⟨rfl, rfl⟩ (by decide +kernel) (xcs_c rfl xcs_n) (by decide +kernel) ?_ (fun H3 r hT3 hf3 hFr3 hr3 hΨ3 => ?_)
      · show xΦis (xfv [59]) (zyEl zymx B H2)
        intro hw q1
        obtain ⟨p, U, hU, hp, hs, hu⟩ := xRs_o hI2 hw
        obtain ⟨s1, s1b, s2, s3, s4, s5, s6, s7, s8⟩ := xRD_i hs hp
        omega
      · have hΨ3 : xΨis (xfv [59]) (zyEl zymx B H2) (zyEl zymx B H3) r := hΨ3
        have d74_36 : xE (zyEl zymx B H3) 74 36 = xE (zyEl zymx B H2) 74 36 := xFr_E hf3 rfl
        have d74_37 : xE (zyEl zymx B H3) 74 37 = xE (zyEl zymx B H2) 74 37 := xFr_E hf3 rfl
        have d74_38 : xE (zyEl zymx B H3) 74 38 = xE (zyEl zymx B H2) 74 38 := xFr_E hf3 rfl
        have d74_39 : xE (zyEl zymx B H3) 74 39 = xE (zyEl zymx B H2) 74 39 := xFr_E hf3 rfl
        have d74_40 : xE (zyEl zymx B H3) 74 40 = xE (zyEl zymx B H2) 74 40 := xFr_E hf3 rfl
        have d74_41 : xE (zyEl zymx B H3) 74 41 = xE (zyEl zymx B H2) 74 41 := xFr_E hf3 rfl
        have d74_42 : xE (zyEl zymx B H3) 74 42 = xE (zyEl zymx B H2) 74 42 := xFr_E hf3 rfl
        have d75_0 : xE (zyEl zymx B H3) 75 0 = xE (zyEl zymx B H2) 75 0 := xFr_E hf3 rfl
        have d75_1 : xE (zyEl zymx B H3) 75 1 = xE (zyEl zymx B H2) 75 1 := xFr_E hf3 rfl
        have d75_2 : xE (zyEl zymx B H3) 75 2 = xE (zyEl zymx B H2) 75 2 := xFr_E hf3 rfl
        have d84 : ∀ i, xE (zyEl zymx B H3) 84 i = xE (zyEl zymx B H2) 84 i := fun i => xFr_E hf3 rfl
        have d75 : ∀ i, xE (zyEl zymx B H3) 75 i = xE (zyEl zymx B H2) 75 i := fun i => xFr_E hf3 rfl
        have hE3 : (zyEl zymx B H3) = (zyEl zymx B H2) := xFr_n hf3
        have hb01 := xIs_b hΨ3
        refine ⟨⟨15, by decide⟩, [0], [0, r], rfl, ⟨by decide +kernel, ⟨rfl, by decide +kernel⟩, (xcs_c rfl xcs_n), (xe_0 (xe_c (by omega) (by omega) rfl xe_n)), xkq_n⟩, (by rw [if_pos rfl]; exact ⟨1, [595], rfl, by decide, rfl, (xst_r rfl xst_n)⟩), ?_, ?_⟩
        · show (xE (zyEl zymx B H3) 74 36 = 0 → ∃ p U, ((p) ≤ (xE (zyEl zymx B s.heap) 74 42) ∧ xRD (xE (zyEl zymx B s.heap) 84) (xE (zyEl zymx B s.heap) 74 42) (p) (zyEl zymx B H3)) ∧ pBody (xE (zyEl zymx B s.heap) 84) (xE (zyEl zymx B s.heap) 74 42) (xE (zyEl zymx B s.heap) 74 38) (xE (zyEl zymx B s.heap) 75) = .ok (p, U) ∧ (∀ k, 0 ≤ k → k < 520 → xE (zyEl zymx B H3) 75 k = U k) ∧ (r : Int) = (if tKd (xE (zyEl zymx B s.heap) 84) (xE (zyEl zymx B s.heap) 74 42) p = 5 then 1 else 0)) ∧ (¬ xE (zyEl zymx B H3) 74 36 = 0 → xEr (zyEl zymx B H3) (pBody (xE (zyEl zymx B s.heap) 84) (xE (zyEl zymx B s.heap) 74 42) (xE (zyEl zymx B s.heap) 74 38) (xE (zyEl zymx B s.heap) 75)))
          refine ⟨fun hz => ?_, fun hz => ?_⟩
          · rw [hE3] at hz
            obtain ⟨p, U, hU, hp, hs, hu⟩ := xRs_o hI2 hz
            have hr : r = if tKd (xE (zyEl zymx B s.heap) 84) (xE (zyEl zymx B s.heap) 74 42) p = 5 then 1 else 0 := (xIs_g (x := xfv [59]) hΨ3 hz hs hp (fun i => (e84 i).trans (q84 i))).2 rfl
            rw [hE3]
            exact ⟨p, U, ⟨hp, hs⟩, hU, hu, hr⟩
          · rw [hE3] at hz ⊢
            exact xRs_r hI2 hz
        · show 85 < 89
          omega
    · have hx : x ∈ [zxfli_k6x0] := hx
      have hag : ∀ k, k < 1 → v2 k = v k := hag
      have hfr : xFr [] _ _ := hfr
      have ex := List.mem_singleton.mp hx
      subst ex
      obtain ⟨hF, hBd, hM⟩ := hXs
      have e74_36 : xE (zyEl zymx B H2) 74 36 = xE (zyEl zymx B H) 74 36 := xFr_E hfr rfl
      have e74_37 : xE (zyEl zymx B H2) 74 37 = xE (zyEl zymx B H) 74 37 := xFr_E hfr rfl
      have e74_38 : xE (zyEl zymx B H2) 74 38 = xE (zyEl zymx B H) 74 38 := xFr_E hfr rfl
      have e74_39 : xE (zyEl zymx B H2) 74 39 = xE (zyEl zymx B H) 74 39 := xFr_E hfr rfl
      have e74_40 : xE (zyEl zymx B H2) 74 40 = xE (zyEl zymx B H) 74 40 := xFr_E hfr rfl
      have e74_41 : xE (zyEl zymx B H2) 74 41 = xE (zyEl zymx B H) 74 41 := xFr_E hfr rfl
      have e74_42 : xE (zyEl zymx B H2) 74 42 = xE (zyEl zymx B H) 74 42 := xFr_E hfr rfl
      have q74_42 : xE (zyEl zymx B H) 74 42 = xE (zyEl zymx B s.heap) 74 42 := xFr_E hFr0 rfl
      have e75_0 : xE (zyEl zymx B H2) 75 0 = xE (zyEl zymx B H) 75 0 := xFr_E hfr rfl
      have q75_0 : xE (zyEl zymx B H) 75 0 = xE (zyEl zymx B s.heap) 75 0 := xFr_E hFr0 rfl
      have e75_1 : xE (zyEl zymx B H2) 75 1 = xE (zyEl zymx B H) 75 1 := xFr_E hfr rfl
      have q75_1 : xE (zyEl zymx B H) 75 1 = xE (zyEl zymx B s.heap) 75 1 := xFr_E hFr0 rfl
      have e75_2 : xE (zyEl zymx B H2) 75 2 = xE (zyEl zymx B H) 75 2 := xFr_E hfr rfl
      have e84 : ∀ i, xE (zyEl zymx B H2) 84 i = xE (zyEl zymx B H) 84 i := fun i => xFr_E hfr rfl
      have q84 : ∀ i, xE (zyEl zymx B H) 84 i = xE (zyEl zymx B s.heap) 84 i := fun i => xFr_E hFr0 rfl
      have e75 : ∀ i, xE (zyEl zymx B H2) 75 i = xE (zyEl zymx B H) 75 i := fun i => xFr_E hfr rfl
      have y74_42 : ((2147483648 : Nat) : Int) ≤ xE (zyEl zymx B s.heap) 74 42 + 2147483648 ∧ xE (zyEl zymx B s.heap) 74 42 + 2147483648 ≤ ((2147484548 : Nat) : Int) := xTyF hT0 74 42 42 rfl rfl rfl rfl rfl rfl
      have hI : xRs (xE (zyEl zymx B s.heap) 84) (xE (zyEl zymx B s.heap) 74 42) (zyEl zymx B H) (pBody (xE (zyEl zymx B s.heap) 84) (xE (zyEl zymx B s.heap) 74 42) (xE (zyEl zymx B s.heap) 74 38) (xE (zyEl zymx B s.heap) 75)) := hInv
      have hEE : (zyEl zymx B H2) = (zyEl zymx B H) := xFr_n hfr
      have hI2 : xRs (xE (zyEl zymx B s.heap) 84) (xE (zyEl zymx B s.heap) 74 42) (zyEl zymx B H2) (pBody (xE (zyEl zymx B s.heap) 84) (xE (zyEl zymx B s.heap) 74 42) (xE (zyEl zymx B s.heap) 74 38) (xE (zyEl zymx B s.heap) 75)) := by rw [hEE]; exact hI
      refine xCa hRu hIH hAt hB hv hFr (hfis B) (ix := 466) (ax := 5072) rfl rfl rfl hmefis ⟨_, rfl, rfl, by decide⟩ ⟨rfl, rfl, rfl⟩ (by decide) [472] [595] [59] rfl ⟨rfl, rfl⟩ (by decide +kernel) (xcs_c rfl xcs_n) (by decide +kernel) ?_ (fun H3 r hT3 hf3 hFr3 hr3 hΨ3 => ?_)
      · show xΦis (xfv [59]) (zyEl zymx B H2)
        intro hw q1
        obtain ⟨p, U, hU, hp, hs, hu⟩ := xRs_o hI2 hw
        obtain ⟨s1, s1b, s2, s3, s4, s5, s6, s7, s8⟩ := xRD_i hs hp
        omega
      · have hΨ3 : xΨis (xfv [59]) (zyEl zymx B H2) (zyEl zymx B H3) r := hΨ3
        have d74_36 : xE (zyEl zymx B H3) 74 36 = xE (zyEl zymx B H2) 74 36 := xFr_E hf3 rfl
        have d74_37 : xE (zyEl zymx B H3) 74 37 = xE (zyEl zymx B H2) 74 37 := xFr_E hf3 rfl
        have d74_38 : xE (zyEl zymx B H3) 74 38 = xE (zyEl zymx B H2) 74 38 := xFr_E hf3 rfl
        have d74_39 : xE (zyEl zymx B H3) 74 39 = xE (zyEl zymx B H2) 74 39 := xFr_E hf3 rfl
        have d74_40 : xE (zyEl zymx B H3) 74 40 = xE (zyEl zymx B H2) 74 40 := xFr_E hf3 rfl
        have d74_41 : xE (zyEl zymx B H3) 74 41 = xE (zyEl zymx B H2) 74 41 := xFr_E hf3 rfl
        have d74_42 : xE (zyEl zymx B H3) 74 42 = xE (zyEl zymx B H2) 74 42 := xFr_E hf3 rfl
        have d75_0 : xE (zyEl zymx B H3) 75 0 = xE (zyEl zymx B H2) 75 0 := xFr_E hf3 rfl
        have d75_1 : xE (zyEl zymx B H3) 75 1 = xE (zyEl zymx B H2) 75 1 := xFr_E hf3 rfl
        have d75_2 : xE (zyEl zymx B H3) 75 2 = xE (zyEl zymx B H2) 75 2 := xFr_E hf3 rfl
        have d84 : ∀ i, xE (zyEl zymx B H3) 84 i = xE (zyEl zymx B H2) 84 i := fun i => xFr_E hf3 rfl
        have d75 : ∀ i, xE (zyEl zymx B H3) 75 i = xE (zyEl zymx B H2) 75 i := fun i => xFr_E hf3 rfl
        have hE3 : (zyEl zymx B H3) = (zyEl zymx B H2) := xFr_n hf3
        have hb01 := xIs_b hΨ3
        refine ⟨⟨15, by decide⟩, [0], [0, r], rfl, ⟨by decide +kernel, ⟨rfl, by decide +kernel⟩, (xcs_c rfl xcs_n), (xe_0 (xe_c (by omega) (by omega) rfl xe_n)), xkq_n⟩, (by rw [if_pos rfl]; exact ⟨1, [595], rfl, by decide, rfl, (xst_r rfl xst_n)⟩), ?_, ?_⟩
        · show (xE (zyEl zymx B H3) 74 36 = 0 → ∃ p U, ((p) ≤ (xE (zyEl zymx B s.heap) 74 42) ∧ xRD (xE (zyEl zymx B s.heap) 84) (xE (zyEl zymx B s.heap) 74 42) (p) (zyEl zymx B H3)) ∧ pBody (xE (zyEl zymx B s.heap) 84) (xE (zyEl zymx B s.heap) 74 42) (xE (zyEl zymx B s.heap) 74 38) (xE (zyEl zymx B s.heap) 75) = .ok (p, U) ∧ (∀ k, 0 ≤ k → k < 520 → xE (zyEl zymx B H3) 75 k = U k) ∧ (r : Int) = (if tKd (xE (zyEl zymx B s.heap) 84) (xE (zyEl zymx B s.heap) 74 42) p = 5 then 1 else 0)) ∧ (¬ xE (zyEl zymx B H3) 74 36 = 0 → xEr (zyEl zymx B H3) (pBody (xE (zyEl zymx B s.heap) 84) (xE (zyEl zymx B s.heap) 74 42) (xE (zyEl zymx B s.heap) 74 38) (xE (zyEl zymx B s.heap) 75)))
          refine ⟨fun hz => ?_, fun hz => ?_⟩
          · rw [hE3] at hz
            obtain ⟨p, U, hU, hp, hs, hu⟩ := xRs_o hI2 hz
            have hr : r = if tKd (xE (zyEl zymx B s.heap) 84) (xE (zyEl zymx B s.heap) 74 42) p = 5 then 1 else 0 := (xIs_g (x := xfv [59]) hΨ3 hz hs hp (fun i => (e84 i).trans (q84 i))).2 rfl
            rw [hE3]
            exact ⟨p, U, ⟨hp, hs⟩, hU, hu, hr⟩
          · rw [hE3] at hz ⊢
            exact xRs_r hI2 hz
        · show 85 < 88
          omega
    · have hx : x ∈ [zxfli_k7x0] := hx
      have hag : ∀ k, k < 1 → v2 k = v k := hag
      have hfr : xFr [] _ _ := hfr
      have ex := List.mem_singleton.mp hx
      subst ex
      obtain ⟨hF, hBd, hM⟩ := hXs
      have e74_36 : xE (zyEl zymx B H2) 74 36 = xE (zyEl zymx B H) 74 36 := xFr_E hfr rfl
      have e74_37 : xE (zyEl zymx B H2) 74 37 = xE (zyEl zymx B H) 74 37 := xFr_E hfr rfl
      have e74_38 : xE (zyEl zymx B H2) 74 38 = xE (zyEl zymx B H) 74 38 := xFr_E hfr rfl
      have e74_39 : xE (zyEl zymx B H2) 74 39 = xE (zyEl zymx B H) 74 39 := xFr_E hfr rfl
      have e74_40 : xE (zyEl zymx B H2) 74 40 = xE (zyEl zymx B H) 74 40 := xFr_E hfr rfl
      have e74_41 : xE (zyEl zymx B H2) 74 41 = xE (zyEl zymx B H) 74 41 := xFr_E hfr rfl
      have e74_42 : xE (zyEl zymx B H2) 74 42 = xE (zyEl zymx B H) 74 42 := xFr_E hfr rfl
      have q74_42 : xE (zyEl zymx B H) 74 42 = xE (zyEl zymx B s.heap) 74 42 := xFr_E hFr0 rfl
      have e75_0 : xE (zyEl zymx B H2) 75 0 = xE (zyEl zymx B H) 75 0 := xFr_E hfr rfl
      have q75_0 : xE (zyEl zymx B H) 75 0 = xE (zyEl zymx B s.heap) 75 0 := xFr_E hFr0 rfl
      have e75_1 : xE (zyEl zymx B H2) 75 1 = xE (zyEl zymx B H) 75 1 := xFr_E hfr rfl
      have q75_1 : xE (zyEl zymx B H) 75 1 = xE (zyEl zymx B s.heap) 75 1 := xFr_E hFr0 rfl
      have e75_2 : xE (zyEl zymx B H2) 75 2 = xE (zyEl zymx B H) 75 2 := xFr_E hfr rfl
      have e84 : ∀ i, xE (zyEl zymx B H2) 84 i = xE (zyEl zymx B H) 84 i := fun i => xFr_E hfr rfl
      have q84 : ∀ i, xE (zyEl zymx B H) 84 i = xE (zyEl zymx B s.heap) 84 i := fun i => xFr_E hFr0 rfl
      have e75 : ∀ i, xE (zyEl zymx B H2) 75 i = xE (zyEl zymx B H) 75 i := fun i => xFr_E hfr rfl
      have y74_42 : ((2147483648 : Nat) : Int) ≤ xE (zyEl zymx B s.heap) 74 42 + 2147483648 ∧ xE (zyEl zymx B s.heap) 74 42 + 2147483648 ≤ ((2147484548 : Nat) : Int) := xTyF hT0 74 42 42 rfl rfl rfl rfl rfl rfl
      have hI : xRs (xE (zyEl zymx B s.heap) 84) (xE (zyEl zymx B s.heap) 74 42) (zyEl zymx B H) (pBody (xE (zyEl zymx B s.heap) 84) (xE (zyEl zymx B s.heap) 74 42) (xE (zyEl zymx B s.heap) 74 38) (xE (zyEl zymx B s.heap) 75)) := hInv
      have hEE : (zyEl zymx B H2) = (zyEl zymx B H) := xFr_n hfr
      have hI2 : xRs (xE (zyEl zymx B s.heap) 84) (xE (zyEl zymx B s.heap) 74 42) (zyEl zymx B H2) (pBody (xE (zyEl zymx B s.heap) 84) (xE (zyEl zymx B s.heap) 74 42) (xE (zyEl zymx B s.heap) 74 38) (xE (zyEl zymx B s.heap) 75)) := by rw [hEE]; exact hI
      refine xCa hRu hIH hAt hB hv hFr (hfis B) (ix := 466) (ax := 5072) rfl rfl rfl hmefis ⟨_, rfl, rfl, by decide⟩ ⟨rfl, rfl, rfl⟩ (by decide) [472] [595] [59] rfl ⟨rfl, rfl⟩ (by decide +kernel) (xcs_c rfl xcs_n) (by decide +kernel) ?_ (fun H3 r hT3 hf3 hFr3 hr3 hΨ3 => ?_)
      · show xΦis (xfv [59]) (zyEl zymx B H2)
        intro hw q1
        obtain ⟨p, U, hU, hp, hs, hu⟩ := xRs_o hI2 hw
        obtain ⟨s1, s1b, s2, s3, s4, s5, s6, s7, s8⟩ := xRD_i hs hp
        omega
      · have hΨ3 : xΨis (xfv [59]) (zyEl zymx B H2) (zyEl zymx B H3) r := hΨ3
        have d74_36 : xE (zyEl zymx B H3) 74 36 = xE (zyEl zymx B H2) 74 36 := xFr_E hf3 rfl
        have d74_37 : xE (zyEl zymx B H3) 74 37 = xE (zyEl zymx B H2) 74 37 := xFr_E hf3 rfl
        have d74_38 : xE (zyEl zymx B H3) 74 38 = xE (zyEl zymx B H2) 74 38 := xFr_E hf3 rfl
        have d74_39 : xE (zyEl zymx B H3) 74 39 = xE (zyEl zymx B H2) 74 39 := xFr_E hf3 rfl
        have d74_40 : xE (zyEl zymx B H3) 74 40 = xE (zyEl zymx B H2) 74 40 := xFr_E hf3 rfl
        have d74_41 : xE (zyEl zymx B H3) 74 41 = xE (zyEl zymx B H2) 74 41 := xFr_E hf3 rfl
        have d74_42 : xE (zyEl zymx B H3) 74 42 = xE (zyEl zymx B H2) 74 42 := xFr_E hf3 rfl
        have d75_0 : xE (zyEl zymx B H3) 75 0 = xE (zyEl zymx B H2) 75 0 := xFr_E hf3 rfl
        have d75_1 : xE (zyEl zymx B H3) 75 1 = xE (zyEl zymx B H2) 75 1 := xFr_E hf3 rfl
        have d75_2 : xE (zyEl zymx B H3) 75 2 = xE (zyEl zymx B H2) 75 2 := xFr_E hf3 rfl
        have d84 : ∀ i, xE (zyEl zymx B H3) 84 i = xE (zyEl zymx B H2) 84 i := fun i => xFr_E hf3 rfl
        have d75 : ∀ i, xE (zyEl zymx B H3) 75 i = xE (zyEl zymx B H2) 75 i := fun i => xFr_E hf3 rfl
        have hE3 : (zyEl zymx B H3) = (zyEl zymx B H2) := xFr_n hf3
        have hb01 := xIs_b hΨ3
        refine ⟨⟨15, by decide⟩, [0], [0, r], rfl, ⟨by decide +kernel, ⟨rfl, by decide +kernel⟩, (xcs_c rfl xcs_n), (xe_0 (xe_c (by omega) (by omega) rfl xe_n)), xkq_n⟩, (by rw [if_pos rfl]; exact ⟨1, [595], rfl, by decide, rfl, (xst_r rfl xst_n)⟩), ?_, ?_⟩
        · show (xE (zyEl zymx B H3) 74 36 = 0 → ∃ p U, ((p) ≤ (xE (zyEl zymx B s.heap) 74 42) ∧ xRD (xE (zyEl zymx B s.heap) 84) (xE (zyEl zymx B s.heap) 74 42) (p) (zyEl zymx B H3)) ∧ pBody (xE (zyEl zymx B s.heap) 84) (xE (zyEl zymx B s.heap) 74 42) (xE (zyEl zymx B s.heap) 74 38) (xE (zyEl zymx B s.heap) 75) = .ok (p, U) ∧ (∀ k, 0 ≤ k → k < 520 → xE (zyEl zymx B H3) 75 k = U k) ∧ (r : Int) = (if tKd (xE (zyEl zymx B s.heap) 84) (xE (zyEl zymx B s.heap) 74 42) p = 5 then 1 else 0)) ∧ (¬ xE (zyEl zymx B H3) 74 36 = 0 → xEr (zyEl zymx B H3) (pBody (xE (zyEl zymx B s.heap) 84) (xE (zyEl zymx B s.heap) 74 42) (xE (zyEl zymx B s.heap) 74 38) (xE (zyEl zymx B s.heap) 75)))
          refine ⟨fun hz => ?_, fun hz => ?_⟩
          · rw [hE3] at hz
            obtain ⟨p, U, hU, hp, hs, hu⟩ := xRs_o hI2 hz
            have hr : r = if tKd (xE (zyEl zymx B s.heap) 84) (xE (zyEl zymx B s.heap) 74 42) p = 5 then 1 else 0 := (xIs_g (x := xfv [59]) hΨ3 hz hs hp (fun i => (e84 i).trans (q84 i))).2 rfl
            rw [hE3]
            exact ⟨p, U, ⟨hp, hs⟩, hU, hu, hr⟩
          · rw [hE3] at hz ⊢
            exact xRs_r hI2 hz
        · show 85 < 87
          omega
    · have hx : x ∈ [zxfli_k8x0] := hx
      have hag : ∀ k, k < 1 → v2 k = v k := hag
      have hfr : xFr [] _ _ := hfr
      have ex := List.mem_singleton.mp hx
      subst ex
      obtain ⟨hF, hBd, hM⟩ := hXs
      have e74_36 : xE (zyEl zymx B H2) 74 36 = xE (zyEl zymx B H) 74 36 := xFr_E hfr rfl
      have e74_37 : xE (zyEl zymx B H2) 74 37 = xE (zyEl zymx B H) 74 37 := xFr_E hfr rfl
      have e74_38 : xE (zyEl zymx B H2) 74 38 = xE (zyEl zymx B H) 74 38 := xFr_E hfr rfl
      have e74_39 : xE (zyEl zymx B H2) 74 39 = xE (zyEl zymx B H) 74 39 := xFr_E hfr rfl
      have e74_40 : xE (zyEl zymx B H2) 74 40 = xE (zyEl zymx B H) 74 40 := xFr_E hfr rfl
      have e74_41 : xE (zyEl zymx B H2) 74 41 = xE (zyEl zymx B H) 74 41 := xFr_E hfr rfl
      have e74_42 : xE (zyEl zymx B H2) 74 42 = xE (zyEl zymx B H) 74 42 := xFr_E hfr rfl
      have q74_42 : xE (zyEl zymx B H) 74 42 = xE (zyEl zymx B s.heap) 74 42 := xFr_E hFr0 rfl
      have e75_0 : xE (zyEl zymx B H2) 75 0 = xE (zyEl zymx B H) 75 0 := xFr_E hfr rfl
      have q75_0 : xE (zyEl zymx B H) 75 0 = xE (zyEl zymx B s.heap) 75 0 := xFr_E hFr0 rfl
      have e75_1 : xE (zyEl zymx B H2) 75 1 = xE (zyEl zymx B H) 75 1 := xFr_E hfr rfl
      have q75_1 : xE (zyEl zymx B H) 75 1 = xE (zyEl zymx B s.heap) 75 1 := xFr_E hFr0 rfl
      have e75_2 : xE (zyEl zymx B H2) 75 2 = xE (zyEl zymx B H) 75 2 := xFr_E hfr rfl
      have e84 : ∀ i, xE (zyEl zymx B H2) 84 i = xE (zyEl zymx B H) 84 i := fun i => xFr_E hfr rfl
      have q84 : ∀ i, xE (zyEl zymx B H) 84 i = xE (zyEl zymx B s.heap) 84 i := fun i => xFr_E hFr0 rfl
      have e75 : ∀ i, xE (zyEl zymx B H2) 75 i = xE (zyEl zymx B H) 75 i := fun i => xFr_E hfr rfl
      have y74_42 : ((2147483648 : Nat) : Int) ≤ xE (zyEl zymx B s.heap) 74 42 + 2147483648 ∧ xE (zyEl zymx B s.heap) 74 42 + 2147483648 ≤ ((2147484548 : Nat) : Int) := xTyF hT0 74 42 42 rfl rfl rfl rfl rfl rfl
      have hI : xRs (xE (zyEl zymx B s.heap) 84) (xE (zyEl zymx B s.heap) 74 42) (zyEl zymx B H) (pBody (xE (zyEl zymx B s.heap) 84) (xE (zyEl zymx B s.heap) 74 42) (xE (zyEl zymx B s.heap) 74 38) (xE (zyEl zymx B s.heap) 75)) := hInv
      have hEE : (zyEl zymx B H2) = (zyEl zymx B H) := xFr_n hfr
      have hI2 : xRs (xE (zyEl zymx B s.heap) 84) (xE (zyEl zymx B s.heap) 74 42) (zyEl zymx B H2) (pBody (xE (zyEl zymx B s.heap) 84) (xE (zyEl zymx B s.heap) 74 42) (xE (zyEl zymx B s.heap) 74 38) (xE (zyEl zymx B s.heap) 75)) := by rw [hEE]; exact hI
      refine xCa hRu hIH hAt hB hv hFr (hfis B) (ix := 466) (ax := 5072) rfl rfl rfl hmefis ⟨_, rfl, rfl, by decide⟩ ⟨rfl, rfl, rfl⟩ (by decide) [472] [595] [59] rfl ⟨rfl, rfl⟩ (by decide +kernel) (xcs_c rfl xcs_n) (by decide +kernel) ?_ (fun H3 r hT3 hf3 hFr3 hr3 hΨ3 => ?_)
      · show xΦis (xfv [59]) (zyEl zymx B H2)
        intro hw q1
        obtain ⟨p, U, hU, hp, hs, hu⟩ := xRs_o hI2 hw
        obtain ⟨s1, s1b, s2, s3, s4, s5, s6, s7, s8⟩ := xRD_i hs hp
        omega
      · have hΨ3 : xΨis (xfv [59]) (zyEl zymx B H2) (zyEl zymx B H3) r := hΨ3
        have d74_36 : xE (zyEl zymx B H3) 74 36 = xE (zyEl zymx B H2) 74 36 := xFr_E hf3 rfl
        have d74_37 : xE (zyEl zymx B H3) 74 37 = xE (zyEl zymx B H2) 74 37 := xFr_E hf3 rfl
        have d74_38 : xE (zyEl zymx B H3) 74 38 = xE (zyEl zymx B H2) 74 38 := xFr_E hf3 rfl
        have d74_39 : xE (zyEl zymx B H3) 74 39 = xE (zyEl zymx B H2) 74 39 := xFr_E hf3 rfl
        have d74_40 : xE (zyEl zymx B H3) 74 40 = xE (zyEl zymx B H2) 74 40 := xFr_E hf3 rfl
        have d74_41 : xE (zyEl zymx B H3) 74 41 = xE (zyEl zymx B H2) 74 41 := xFr_E hf3 rfl
        have d74_42 : xE (zyEl zymx B H3) 74 42 = xE (zyEl zymx B H2) 74 42 := xFr_E hf3 rfl
        have d75_0 : xE (zyEl zymx B H3) 75 0 = xE (zyEl zymx B H2) 75 0 := xFr_E hf3 rfl
        have d75_1 : xE (zyEl zymx B H3) 75 1 = xE (zyEl zymx B H2) 75 1 := xFr_E hf3 rfl
        have d75_2 : xE (zyEl zymx B H3) 75 2 = xE (zyEl zymx B H2) 75 2 := xFr_E hf3 rfl
        have d84 : ∀ i, xE (zyEl zymx B H3) 84 i = xE (zyEl zymx B H2) 84 i := fun i => xFr_E hf3 rfl
        have d75 : ∀ i, xE (zyEl zymx B H3) 75 i = xE (zyEl zymx B H2) 75 i := fun i => xFr_E hf3 rfl
        have hE3 : (zyEl zymx B H3) = (zyEl zymx B H2) := xFr_n hf3
        have hb01 := xIs_b hΨ3
        refine ⟨⟨15, by decide⟩, [0], [0, r], rfl, ⟨by decide +kernel, ⟨rfl, by decide +kernel⟩, (xcs_c rfl xcs_n), (xe_0 (xe_c (by omega) (by omega) rfl xe_n)), xkq_n⟩, (by rw [if_pos rfl]; exact ⟨1, [595], rfl, by decide, rfl, (xst_r rfl xst_n)⟩), ?_, ?_⟩
        · show (xE (zyEl zymx B H3) 74 36 = 0 → ∃ p U, ((p) ≤ (xE (zyEl zymx B s.heap) 74 42) ∧ xRD (xE (zyEl zymx B s.heap) 84) (xE (zyEl zymx B s.heap) 74 42) (p) (zyEl zymx B H3)) ∧ pBody (xE (zyEl zymx B s.heap) 84) (xE (zyEl zymx B s.heap) 74 42) (xE (zyEl zymx B s.heap) 74 38) (xE (zyEl zymx B s.heap) 75) = .ok (p, U) ∧ (∀ k, 0 ≤ k → k < 520 → xE (zyEl zymx B H3) 75 k = U k) ∧ (r : Int) = (if tKd (xE (zyEl zymx B s.heap) 84) (xE (zyEl zymx B s.heap) 74 42) p = 5 then 1 else 0)) ∧ (¬ xE (zyEl zymx B H3) 74 36 = 0 → xEr (zyEl zymx B H3) (pBody (xE (zyEl zymx B s.heap) 84) (xE (zyEl zymx B s.heap) 74 42) (xE (zyEl zymx B s.heap) 74 38) (xE (zyEl zymx B s.heap) 75)))
          refine ⟨fun hz => ?_, fun hz => ?_⟩
          · rw [hE3] at hz
            obtain ⟨p, U, hU, hp, hs, hu⟩ := xRs_o hI2 hz
            have hr : r = if tKd (xE (zyEl zymx B s.heap) 84) (xE (zyEl zymx B s.heap) 74 42) p = 5 then 1 else 0 := (xIs_g (x := xfv [59]) hΨ3 hz hs hp (fun i => (e84 i).trans (q84 i))).2 rfl
            rw [hE3]
            exact ⟨p, U, ⟨hp, hs⟩, hU, hu, hr⟩
          · rw [hE3] at hz ⊢
            exact xRs_r hI2 hz
        · show 85 < 86
          omega
    · have hx : x ∈ [zxfli_sx0] := hx
      have hag : ∀ k, k < 2 → v2 k = v k := hag
      have hfr : xFr [] _ _ := hfr
      have ex := List.mem_singleton.mp hx
      subst ex
      obtain ⟨hF, hBd, hM⟩ := hXs
      have g1 : v2 1 = v 1 := hag 1 (by decide)
      have b0 : ((2147483648 : Nat) : Int) ≤ (v2 1) + 2147483648 ∧ (v2 1) + 2147483648 ≤ ((2147483649 : Nat) : Int) := xXb hBd 0 rfl
      have e74_36 : xE (zyEl zymx B H2) 74 36 = xE (zyEl zymx B H) 74 36 := xFr_E hfr rfl
      have e74_37 : xE (zyEl zymx B H2) 74 37 = xE (zyEl zymx B H) 74 37 := xFr_E hfr rfl
      have e74_38 : xE (zyEl zymx B H2) 74 38 = xE (zyEl zymx B H) 74 38 := xFr_E hfr rfl
      have e74_39 : xE (zyEl zymx B H2) 74 39 = xE (zyEl zymx B H) 74 39 := xFr_E hfr rfl
      have e74_40 : xE (zyEl zymx B H2) 74 40 = xE (zyEl zymx B H) 74 40 := xFr_E hfr rfl
      have e74_41 : xE (zyEl zymx B H2) 74 41 = xE (zyEl zymx B H) 74 41 := xFr_E hfr rfl
      have e74_42 : xE (zyEl zymx B H2) 74 42 = xE (zyEl zymx B H) 74 42 := xFr_E hfr rfl
      have q74_42 : xE (zyEl zymx B H) 74 42 = xE (zyEl zymx B s.heap) 74 42 := xFr_E hFr0 rfl
      have e75_0 : xE (zyEl zymx B H2) 75 0 = xE (zyEl zymx B H) 75 0 := xFr_E hfr rfl
      have q75_0 : xE (zyEl zymx B H) 75 0 = xE (zyEl zymx B s.heap) 75 0 := xFr_E hFr0 rfl
      have e75_1 : xE (zyEl zymx B H2) 75 1 = xE (zyEl zymx B H) 75 1 := xFr_E hfr rfl
      have q75_1 : xE (zyEl zymx B H) 75 1 = xE (zyEl zymx B s.heap) 75 1 := xFr_E hFr0 rfl
      have e75_2 : xE (zyEl zymx B H2) 75 2 = xE (zyEl zymx B H) 75 2 := xFr_E hfr rfl
      have e84 : ∀ i, xE (zyEl zymx B H2) 84 i = xE (zyEl zymx B H) 84 i := fun i => xFr_E hfr rfl
      have q84 : ∀ i, xE (zyEl zymx B H) 84 i = xE (zyEl zymx B s.heap) 84 i := fun i => xFr_E hFr0 rfl
      have e75 : ∀ i, xE (zyEl zymx B H2) 75 i = xE (zyEl zymx B H) 75 i := fun i => xFr_E hfr rfl
      have y74_42 : ((2147483648 : Nat) : Int) ≤ xE (zyEl zymx B s.heap) 74 42 + 2147483648 ∧ xE (zyEl zymx B s.heap) 74 42 + 2147483648 ≤ ((2147484548 : Nat) : Int) := xTyF hT0 74 42 42 rfl rfl rfl rfl rfl rfl
      have hI : (xE (zyEl zymx B H) 74 36 = 0 → ∃ p U, ((p) ≤ (xE (zyEl zymx B s.heap) 74 42) ∧ xRD (xE (zyEl zymx B s.heap) 84) (xE (zyEl zymx B s.heap) 74 42) (p) (zyEl zymx B H)) ∧ pBody (xE (zyEl zymx B s.heap) 84) (xE (zyEl zymx B s.heap) 74 42) (xE (zyEl zymx B s.heap) 74 38) (xE (zyEl zymx B s.heap) 75) = .ok (p, U) ∧ (∀ k, 0 ≤ k → k < 520 → xE (zyEl zymx B H) 75 k = U k) ∧ (v 1) = (if tKd (xE (zyEl zymx B s.heap) 84) (xE (zyEl zymx B s.heap) 74 42) p = 5 then 1 else 0)) ∧ (¬ xE (zyEl zymx B H) 74 36 = 0 → xEr (zyEl zymx B H) (pBody (xE (zyEl zymx B s.heap) 84) (xE (zyEl zymx B s.heap) 74 42) (xE (zyEl zymx B s.heap) 74 38) (xE (zyEl zymx B s.heap) 75))) := hInv
      obtain ⟨i1, i2⟩ := hI
      have hEE : (zyEl zymx B H2) = (zyEl zymx B H) := xFr_n hfr
      refine xCa hRu hIH hAt hB hv hFr (hftk B) (ix := 462) (ax := 5088) rfl rfl rfl hmeftk ⟨_, rfl, rfl, by decide⟩ ⟨rfl, rfl, rfl⟩ (by decide) [34359738369] [] [(v2 1)] rfl ⟨rfl, rfl⟩ (by decide +kernel) (xcs_c rfl xcs_n) (by decide +kernel) ?_ (fun H3 r hT3 hf3 hFr3 hr3 hΨ3 => ?_)
      · show xΦtk (xfv [(v2 1)]) (zyEl zymx B H2)
        intro q1 q2
        obtain ⟨p, U, ⟨hp, hs⟩, hU, hu, hr⟩ := i1 (by omega)
        have q2 : ¬ (v2 1) = 0 := q2
        have hk : tKd (xE (zyEl zymx B s.heap) 84) (xE (zyEl zymx B s.heap) 74 42) p = 5 := Classical.byContradiction fun z => by
          rw [if_neg z] at hr
          omega
        obtain ⟨s1, s1b, s2, s3, s4, s5, s6, s7, s8⟩ := xRD_i hs hp
        omega
      · have hΨ3 : xΨtk (xfv [(v2 1)]) (zyEl zymx B H2) (zyEl zymx B H3) r := hΨ3
        have d74_42 : xE (zyEl zymx B H3) 74 42 = xE (zyEl zymx B H2) 74 42 := xFr_E hf3 rfl
        have d75_0 : xE (zyEl zymx B H3) 75 0 = xE (zyEl zymx B H2) 75 0 := xFr_E hf3 rfl
        have d75_1 : xE (zyEl zymx B H3) 75 1 = xE (zyEl zymx B H2) 75 1 := xFr_E hf3 rfl
        have d75_2 : xE (zyEl zymx B H3) 75 2 = xE (zyEl zymx B H2) 75 2 := xFr_E hf3 rfl
        have d84 : ∀ i, xE (zyEl zymx B H3) 84 i = xE (zyEl zymx B H2) 84 i := fun i => xFr_E hf3 rfl
        have d75 : ∀ i, xE (zyEl zymx B H3) 75 i = xE (zyEl zymx B H2) 75 i := fun i => xFr_E hf3 rfl
        have hg := fun p hw hs hp => xTk_g (T := (xE (zyEl zymx B s.heap) 84)) (n := (xE (zyEl zymx B s.heap) 74 42)) (p := p) (x := xfv [(v2 1)]) hΨ3 hw hs hp (fun i => (e84 i).trans (q84 i)) (by omega)
        have hge : ¬ xE (zyEl zymx B H2) 74 36 = 0 → xE (zyEl zymx B H3) 74 36 = xE (zyEl zymx B H2) 74 36 ∧ xE (zyEl zymx B H3) 74 37 = xE (zyEl zymx B H2) 74 37 := fun hw => xTk_e (x := xfv [(v2 1)]) hΨ3 hw
        refine ⟨⟨16, by decide⟩, [0], [0], rfl, ⟨by decide +kernel, ⟨rfl, by decide +kernel⟩, (xcs_c rfl xcs_n), (xe_0 xe_n), xkq_n⟩, (by rw [if_neg (by decide)]; exact xst_n), ?_, ?_⟩
        · show xRs (xE (zyEl zymx B s.heap) 84) (xE (zyEl zymx B s.heap) 74 42) (zyEl zymx B H3) (pLine (xE (zyEl zymx B s.heap) 84) (xE (zyEl zymx B s.heap) 74 42) (xE (zyEl zymx B s.heap) 74 38) (xE (zyEl zymx B s.heap) 75))
          unfold pLine
          by_cases hw : xE (zyEl zymx B H) 74 36 = 0
          · obtain ⟨p, U, ⟨hp, hs⟩, hU, hu, hr⟩ := i1 hw
            rw [hU]
            show xRs _ _ _ (pSem (xE (zyEl zymx B s.heap) 84) (xE (zyEl zymx B s.heap) 74 42) p U)
            obtain ⟨g1, g2⟩ := hg p (by omega) (by rw [hEE]; exact hs) hp
            have g1 : ¬ (v2 1) = 0 → _ := g1
            have g2 : (v2 1) = 0 → _ := g2
            unfold pSem
            by_cases ck : tKd (xE (zyEl zymx B s.heap) 84) (xE (zyEl zymx B s.heap) 74 42) p = 5
            · rw [if_pos ck] at hr
              rw [if_pos ck]
              obtain ⟨k1, k2, k3, k4⟩ := g1 (by omega) (by omega)
              exact ⟨k1, k3, k2, fun k k0 k1 => ((d75 k).trans (e75 k)).trans (hu k k0 k1)⟩
            · rw [if_neg ck] at hr
              rw [if_neg ck]
              exact xRs_e (g2 (by omega))
          · have hX := i2 hw
            have hX2 : xEr (zyEl zymx B H3) (pBody (xE (zyEl zymx B s.heap) 84) (xE (zyEl zymx B s.heap) 74 42) (xE (zyEl zymx B s.heap) 74 38) (xE (zyEl zymx B s.heap) 75)) := xEr_k hX (by have := hge (by omega); omega) (by have := hge (by omega); omega)
            rw [hX2.2]
            exact xRs_e ⟨hX2.1, rfl⟩
        · show 84 < 85
          omega
    · cases hx
  · intro x0 E0 E E2 hrx hT0 hΦ i v hT hrv hInv hKc hFr0 x hx v2 hr2 hXs hag hfr hFr hT2
    rcases i with ⟨i, hi⟩
    have hi2 : i = 0 ∨ i = 1 ∨ i = 2 ∨ i = 3 ∨ i = 4 ∨ i = 5 ∨ i = 6 ∨ i = 7 ∨ i = 8 ∨ i = 9 ∨ i = 10 ∨ i = 11 ∨ i = 12 ∨ i = 13 ∨ i = 14 ∨ i = 15 ∨ i = 16 := by omega
    rcases hi2 with rfl | rfl | rfl | rfl | rfl | rfl | rfl | rfl | rfl | rfl | rfl | rfl | rfl | rfl | rfl | rfl | rfl
    · cases hx
    · cases hx
    · cases hx
    · cases hx
    · cases hx
    · cases hx
    · cases hx
    · cases hx
    · cases hx
    · cases hx
    · cases hx
    · cases hx
    · cases hx
    · cases hx
    · cases hx
    · cases hx
    · have hx : x ∈ [zxfli_tr0] := hx
      have hag : ∀ k, k < 1 → v2 k = v k := hag
      have hfr : xFr [] _ _ := hfr
      have ex := List.mem_singleton.mp hx
      subst ex
      obtain ⟨hF, hBd, hM⟩ := hXs
      have e74_36 : xE E2 74 36 = xE E 74 36 := xFr_E hfr rfl
      have e74_37 : xE E2 74 37 = xE E 74 37 := xFr_E hfr rfl
      have e74_38 : xE E2 74 38 = xE E 74 38 := xFr_E hfr rfl
      have e74_39 : xE E2 74 39 = xE E 74 39 := xFr_E hfr rfl
      have e74_40 : xE E2 74 40 = xE E 74 40 := xFr_E hfr rfl
      have e74_41 : xE E2 74 41 = xE E 74 41 := xFr_E hfr rfl
      have e74_42 : xE E2 74 42 = xE E 74 42 := xFr_E hfr rfl
      have q74_42 : xE E 74 42 = xE E0 74 42 := xFr_E hFr0 rfl
      have e75_0 : xE E2 75 0 = xE E 75 0 := xFr_E hfr rfl
      have q75_0 : xE E 75 0 = xE E0 75 0 := xFr_E hFr0 rfl
      have e75_1 : xE E2 75 1 = xE E 75 1 := xFr_E hfr rfl
      have q75_1 : xE E 75 1 = xE E0 75 1 := xFr_E hFr0 rfl
      have e75_2 : xE E2 75 2 = xE E 75 2 := xFr_E hfr rfl
      have e84 : ∀ i, xE E2 84 i = xE E 84 i := fun i => xFr_E hfr rfl
      have q84 : ∀ i, xE E 84 i = xE E0 84 i := fun i => xFr_E hFr0 rfl
      have e75 : ∀ i, xE E2 75 i = xE E 75 i := fun i => xFr_E hfr rfl
      have y74_42 : ((2147483648 : Nat) : Int) ≤ xE E0 74 42 + 2147483648 ∧ xE E0 74 42 + 2147483648 ≤ ((2147484548 : Nat) : Int) := xTyF hT0 74 42 42 rfl rfl rfl rfl rfl rfl
      have hI : xRs (xE E0 84) (xE E0 74 42) E (pLine (xE E0 84) (xE E0 74 42) (xE E0 74 38) (xE E0 75)) := hInv
      show xΨln x0 E0 E2 0
      have hEE : E2 = E := xFr_n hfr
      unfold xΨln
      rw [hEE]
      exact hI
